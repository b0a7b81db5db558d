theorem dX0_init_0 : decode cX0_init 0 = .ok (.aload_n 0, 1) := by decide +kernel
theorem dX0_init_1 : decode cX0_init 1 = .ok (.invokespecial 3, 3) := by decide +kernel
theorem dX0_init_4 : decode cX0_init 4 = .ok (.aload_n 0, 1) := by decide +kernel
theorem dX0_init_5 : decode cX0_init 5 = .ok (.iconst 4, 1) := by decide +kernel
theorem dX0_init_6 : decode cX0_init 6 = .ok (.newarray .int, 2) := by decide +kernel
theorem dX0_init_8 : decode cX0_init 8 = .ok (.putfield 9, 3) := by decide +kernel
theorem dX0_init_11 : decode cX0_init 11 = .ok (.aload_n 0, 1) := by decide +kernel
theorem dX0_init_12 : decode cX0_init 12 = .ok (.iconst 5, 1) := by decide +kernel
theorem dX0_init_13 : decode cX0_init 13 = .ok (.sipush 220, 3) := by decide +kernel
theorem dX0_init_16 : decode cX0_init 16 = .ok (.multianewarray 15 2, 4) := by decide +kernel
theorem dX0_init_20 : decode cX0_init 20 = .ok (.putfield 17, 3) := by decide +kernel
theorem dX0_init_23 : decode cX0_init 23 = .ok (.aload_n 0, 1) := by decide +kernel
theorem dX0_init_24 : decode cX0_init 24 = .ok (.iconst 5, 1) := by decide +kernel
theorem dX0_init_25 : decode cX0_init 25 = .ok (.newarray .int, 2) := by decide +kernel
theorem dX0_init_27 : decode cX0_init 27 = .ok (.putfield 20, 3) := by decide +kernel
theorem dX0_init_30 : decode cX0_init 30 = .ok (.aload_n 0, 1) := by decide +kernel
theorem dX0_init_31 : decode cX0_init 31 = .ok (.iconst 5, 1) := by decide +kernel
theorem dX0_init_32 : decode cX0_init 32 = .ok (.bipush 16, 2) := by decide +kernel
theorem dX0_init_34 : decode cX0_init 34 = .ok (.multianewarray 23 2, 4) := by decide +kernel
theorem dX0_init_38 : decode cX0_init 38 = .ok (.putfield 25, 3) := by decide +kernel
theorem dX0_init_41 : decode cX0_init 41 = .ok (.aload_n 0, 1) := by decide +kernel
theorem dX0_init_42 : decode cX0_init 42 = .ok (.iconst 5, 1) := by decide +kernel
theorem dX0_init_43 : decode cX0_init 43 = .ok (.bipush 16, 2) := by decide +kernel
theorem dX0_init_45 : decode cX0_init 45 = .ok (.multianewarray 23 2, 4) := by decide +kernel
theorem dX0_init_49 : decode cX0_init 49 = .ok (.putfield 28, 3) := by decide +kernel
theorem dX0_init_52 : decode cX0_init 52 = .ok (.aload_n 0, 1) := by decide +kernel
theorem dX0_init_53 : decode cX0_init 53 = .ok (.iconst 5, 1) := by decide +kernel
theorem dX0_init_54 : decode cX0_init 54 = .ok (.bipush 16, 2) := by decide +kernel
theorem dX0_init_56 : decode cX0_init 56 = .ok (.multianewarray 23 2, 4) := by decide +kernel
theorem dX0_init_60 : decode cX0_init 60 = .ok (.putfield 31, 3) := by decide +kernel
theorem dX0_init_63 : decode cX0_init 63 = .ok (.aload_n 0, 1) := by decide +kernel
theorem dX0_init_64 : decode cX0_init 64 = .ok (.iconst 4, 1) := by decide +kernel
theorem dX0_init_65 : decode cX0_init 65 = .ok (.newarray .int, 2) := by decide +kernel
theorem dX0_init_67 : decode cX0_init 67 = .ok (.putfield 34, 3) := by decide +kernel
theorem dX0_init_70 : decode cX0_init 70 = .ok (.return_, 1) := by decide +kernel
theorem dX0_forget_0 : decode cX0_forget 0 = .ok (.aload_n 0, 1) := by decide +kernel
theorem dX0_forget_1 : decode cX0_forget 1 = .ok (.iconst 0, 1) := by decide +kernel
theorem dX0_forget_2 : decode cX0_forget 2 = .ok (.putfield 37, 3) := by decide +kernel
theorem dX0_forget_5 : decode cX0_forget 5 = .ok (.return_, 1) := by decide +kernel
theorem dX0_prepare_0 : decode cX0_prepare 0 = .ok (.aload_n 0, 1) := by decide +kernel
theorem dX0_prepare_1 : decode cX0_prepare 1 = .ok (.getfield 37, 3) := by decide +kernel
theorem dX0_prepare_4 : decode cX0_prepare 4 = .ok (.ifCond .eq 4, 3) := by decide +kernel
theorem dX0_prepare_7 : decode cX0_prepare 7 = .ok (.return_, 1) := by decide +kernel
theorem dX0_prepare_8 : decode cX0_prepare 8 = .ok (.aload_n 0, 1) := by decide +kernel
theorem dX0_prepare_9 : decode cX0_prepare 9 = .ok (.iconst 0, 1) := by decide +kernel
theorem dX0_prepare_10 : decode cX0_prepare 10 = .ok (.putfield 41, 3) := by decide +kernel
theorem dX0_prepare_13 : decode cX0_prepare 13 = .ok (.iconst 0, 1) := by decide +kernel
theorem dX0_prepare_14 : decode cX0_prepare 14 = .ok (.istore_n 2, 1) := by decide +kernel
theorem dX0_prepare_15 : decode cX0_prepare 15 = .ok (.iload_n 2, 1) := by decide +kernel
theorem dX0_prepare_16 : decode cX0_prepare 16 = .ok (.iconst 4, 1) := by decide +kernel
theorem dX0_prepare_17 : decode cX0_prepare 17 = .ok (.if_icmp .ge 45, 3) := by decide +kernel
theorem dX0_prepare_20 : decode cX0_prepare 20 = .ok (.aload_n 0, 1) := by decide +kernel
theorem dX0_prepare_21 : decode cX0_prepare 21 = .ok (.getfield 9, 3) := by decide +kernel
theorem dX0_prepare_24 : decode cX0_prepare 24 = .ok (.iload_n 2, 1) := by decide +kernel
theorem dX0_prepare_25 : decode cX0_prepare 25 = .ok (.aload_n 1, 1) := by decide +kernel
theorem dX0_prepare_26 : decode cX0_prepare 26 = .ok (.iconst 4, 1) := by decide +kernel
theorem dX0_prepare_27 : decode cX0_prepare 27 = .ok (.iload_n 2, 1) := by decide +kernel
theorem dX0_prepare_28 : decode cX0_prepare 28 = .ok (.iadd, 1) := by decide +kernel
theorem dX0_prepare_29 : decode cX0_prepare 29 = .ok (.iaload, 1) := by decide +kernel
theorem dX0_prepare_30 : decode cX0_prepare 30 = .ok (.iastore, 1) := by decide +kernel
theorem dX0_prepare_31 : decode cX0_prepare 31 = .ok (.aload_n 0, 1) := by decide +kernel
theorem dX0_prepare_32 : decode cX0_prepare 32 = .ok (.dup, 1) := by decide +kernel
theorem dX0_prepare_33 : decode cX0_prepare 33 = .ok (.getfield 41, 3) := by decide +kernel
theorem dX0_prepare_36 : decode cX0_prepare 36 = .ok (.aload_n 0, 1) := by decide +kernel
theorem dX0_prepare_37 : decode cX0_prepare 37 = .ok (.getfield 9, 3) := by decide +kernel
theorem dX0_prepare_40 : decode cX0_prepare 40 = .ok (.iload_n 2, 1) := by decide +kernel
theorem dX0_prepare_41 : decode cX0_prepare 41 = .ok (.iaload, 1) := by decide +kernel
theorem dX0_prepare_42 : decode cX0_prepare 42 = .ok (.ifCond .le 9, 3) := by decide +kernel
theorem dX0_prepare_45 : decode cX0_prepare 45 = .ok (.iconst 1, 1) := by decide +kernel
theorem dX0_prepare_46 : decode cX0_prepare 46 = .ok (.iload_n 2, 1) := by decide +kernel
theorem dX0_prepare_47 : decode cX0_prepare 47 = .ok (.ishl, 1) := by decide +kernel
theorem dX0_prepare_48 : decode cX0_prepare 48 = .ok (.goto 4, 3) := by decide +kernel
theorem dX0_prepare_51 : decode cX0_prepare 51 = .ok (.iconst 0, 1) := by decide +kernel
theorem dX0_prepare_52 : decode cX0_prepare 52 = .ok (.ior, 1) := by decide +kernel
theorem dX0_prepare_53 : decode cX0_prepare 53 = .ok (.putfield 41, 3) := by decide +kernel
theorem dX0_prepare_56 : decode cX0_prepare 56 = .ok (.iinc 2 1, 3) := by decide +kernel
theorem dX0_prepare_59 : decode cX0_prepare 59 = .ok (.goto (-44), 3) := by decide +kernel
theorem dX0_prepare_62 : decode cX0_prepare 62 = .ok (.aload_n 0, 1) := by decide +kernel
theorem dX0_prepare_63 : decode cX0_prepare 63 = .ok (.aload_n 1, 1) := by decide +kernel
theorem dX0_prepare_64 : decode cX0_prepare 64 = .ok (.bipush 24, 2) := by decide +kernel
theorem dX0_prepare_66 : decode cX0_prepare 66 = .ok (.iaload, 1) := by decide +kernel
theorem dX0_prepare_67 : decode cX0_prepare 67 = .ok (.iconst 1, 1) := by decide +kernel
theorem dX0_prepare_68 : decode cX0_prepare 68 = .ok (.if_icmp .ne 7, 3) := by decide +kernel
theorem dX0_prepare_71 : decode cX0_prepare 71 = .ok (.iconst 1, 1) := by decide +kernel
theorem dX0_prepare_72 : decode cX0_prepare 72 = .ok (.goto 4, 3) := by decide +kernel
theorem dX0_prepare_75 : decode cX0_prepare 75 = .ok (.iconst 0, 1) := by decide +kernel
theorem dX0_prepare_76 : decode cX0_prepare 76 = .ok (.putfield 45, 3) := by decide +kernel
theorem dX0_prepare_79 : decode cX0_prepare 79 = .ok (.aload_n 0, 1) := by decide +kernel
theorem dX0_prepare_80 : decode cX0_prepare 80 = .ok (.aload_n 1, 1) := by decide +kernel
theorem dX0_prepare_81 : decode cX0_prepare 81 = .ok (.bipush 25, 2) := by decide +kernel
theorem dX0_prepare_83 : decode cX0_prepare 83 = .ok (.iaload, 1) := by decide +kernel
theorem dX0_prepare_84 : decode cX0_prepare 84 = .ok (.putfield 48, 3) := by decide +kernel
theorem dX0_prepare_87 : decode cX0_prepare 87 = .ok (.iconst 0, 1) := by decide +kernel
theorem dX0_prepare_88 : decode cX0_prepare 88 = .ok (.istore_n 2, 1) := by decide +kernel
theorem dX0_prepare_89 : decode cX0_prepare 89 = .ok (.iload_n 2, 1) := by decide +kernel
theorem dX0_prepare_90 : decode cX0_prepare 90 = .ok (.iconst 4, 1) := by decide +kernel
theorem dX0_prepare_91 : decode cX0_prepare 91 = .ok (.if_icmp .ge 26, 3) := by decide +kernel
theorem dX0_prepare_94 : decode cX0_prepare 94 = .ok (.aload_n 0, 1) := by decide +kernel
theorem dX0_prepare_95 : decode cX0_prepare 95 = .ok (.iload_n 2, 1) := by decide +kernel
theorem dX0_prepare_96 : decode cX0_prepare 96 = .ok (.aload_n 1, 1) := by decide +kernel
theorem dX0_prepare_97 : decode cX0_prepare 97 = .ok (.bipush 16, 2) := by decide +kernel
theorem dX0_prepare_99 : decode cX0_prepare 99 = .ok (.iload_n 2, 1) := by decide +kernel
theorem dX0_prepare_100 : decode cX0_prepare 100 = .ok (.iadd, 1) := by decide +kernel
theorem dX0_prepare_101 : decode cX0_prepare 101 = .ok (.iaload, 1) := by decide +kernel
theorem dX0_prepare_102 : decode cX0_prepare 102 = .ok (.aload_n 1, 1) := by decide +kernel
theorem dX0_prepare_103 : decode cX0_prepare 103 = .ok (.iconst 0, 1) := by decide +kernel
theorem dX0_prepare_104 : decode cX0_prepare 104 = .ok (.iload_n 2, 1) := by decide +kernel
theorem dX0_prepare_105 : decode cX0_prepare 105 = .ok (.iadd, 1) := by decide +kernel
theorem dX0_prepare_106 : decode cX0_prepare 106 = .ok (.iaload, 1) := by decide +kernel
theorem dX0_prepare_107 : decode cX0_prepare 107 = .ok (.isub, 1) := by decide +kernel
theorem dX0_prepare_108 : decode cX0_prepare 108 = .ok (.invokevirtual 51, 3) := by decide +kernel
theorem dX0_prepare_111 : decode cX0_prepare 111 = .ok (.iinc 2 1, 3) := by decide +kernel
theorem dX0_prepare_114 : decode cX0_prepare 114 = .ok (.goto (-25), 3) := by decide +kernel
theorem dX0_prepare_117 : decode cX0_prepare 117 = .ok (.aload_n 0, 1) := by decide +kernel
theorem dX0_prepare_118 : decode cX0_prepare 118 = .ok (.invokevirtual 55, 3) := by decide +kernel
theorem dX0_prepare_121 : decode cX0_prepare 121 = .ok (.aload_n 0, 1) := by decide +kernel
theorem dX0_prepare_122 : decode cX0_prepare 122 = .ok (.iconst 1, 1) := by decide +kernel
theorem dX0_prepare_123 : decode cX0_prepare 123 = .ok (.putfield 37, 3) := by decide +kernel
theorem dX0_prepare_126 : decode cX0_prepare 126 = .ok (.return_, 1) := by decide +kernel
theorem dX0_solutionsOf_0 : decode cX0_solutionsOf 0 = .ok (.aload_n 0, 1) := by decide +kernel
theorem dX0_solutionsOf_1 : decode cX0_solutionsOf 1 = .ok (.getfield 20, 3) := by decide +kernel
theorem dX0_solutionsOf_4 : decode cX0_solutionsOf 4 = .ok (.iload_n 1, 1) := by decide +kernel
theorem dX0_solutionsOf_5 : decode cX0_solutionsOf 5 = .ok (.iaload, 1) := by decide +kernel
theorem dX0_solutionsOf_6 : decode cX0_solutionsOf 6 = .ok (.ireturn, 1) := by decide +kernel
theorem dX0_bySets_0 : decode cX0_bySets 0 = .ok (.aload_n 0, 1) := by decide +kernel
theorem dX0_bySets_1 : decode cX0_bySets 1 = .ok (.iconst 4, 1) := by decide +kernel
theorem dX0_bySets_2 : decode cX0_bySets 2 = .ok (.iconst 4, 1) := by decide +kernel
theorem dX0_bySets_3 : decode cX0_bySets 3 = .ok (.invokevirtual 58, 3) := by decide +kernel
theorem dX0_bySets_6 : decode cX0_bySets 6 = .ok (.lreturn, 1) := by decide +kernel
theorem dX0_byConstants_0 : decode cX0_byConstants 0 = .ok (.aload_n 0, 1) := by decide +kernel
theorem dX0_byConstants_1 : decode cX0_byConstants 1 = .ok (.getfield 31, 3) := by decide +kernel
theorem dX0_byConstants_4 : decode cX0_byConstants 4 = .ok (.iconst 0, 1) := by decide +kernel
theorem dX0_byConstants_5 : decode cX0_byConstants 5 = .ok (.aaload, 1) := by decide +kernel
theorem dX0_byConstants_6 : decode cX0_byConstants 6 = .ok (.iconst 0, 1) := by decide +kernel
theorem dX0_byConstants_7 : decode cX0_byConstants 7 = .ok (.laload, 1) := by decide +kernel
theorem dX0_byConstants_8 : decode cX0_byConstants 8 = .ok (.lreturn, 1) := by decide +kernel
theorem dX0_numberIn_0 : decode cX0_numberIn 0 = .ok (.iload_n 0, 1) := by decide +kernel
theorem dX0_numberIn_1 : decode cX0_numberIn 1 = .ok (.iconst 4, 1) := by decide +kernel
theorem dX0_numberIn_2 : decode cX0_numberIn 2 = .ok (.iconst 3, 1) := by decide +kernel
theorem dX0_numberIn_3 : decode cX0_numberIn 3 = .ok (.iload_n 1, 1) := by decide +kernel
theorem dX0_numberIn_4 : decode cX0_numberIn 4 = .ok (.isub, 1) := by decide +kernel
theorem dX0_numberIn_5 : decode cX0_numberIn 5 = .ok (.imul, 1) := by decide +kernel
theorem dX0_numberIn_6 : decode cX0_numberIn 6 = .ok (.ishr, 1) := by decide +kernel
theorem dX0_numberIn_7 : decode cX0_numberIn 7 = .ok (.bipush 15, 2) := by decide +kernel
theorem dX0_numberIn_9 : decode cX0_numberIn 9 = .ok (.iand, 1) := by decide +kernel
theorem dX0_numberIn_10 : decode cX0_numberIn 10 = .ok (.ireturn, 1) := by decide +kernel
theorem dX0_setOf_0 : decode cX0_setOf 0 = .ok (.iconst 0, 1) := by decide +kernel
theorem dX0_setOf_1 : decode cX0_setOf 1 = .ok (.istore_n 1, 1) := by decide +kernel
theorem dX0_setOf_2 : decode cX0_setOf 2 = .ok (.iconst 0, 1) := by decide +kernel
theorem dX0_setOf_3 : decode cX0_setOf 3 = .ok (.istore_n 2, 1) := by decide +kernel
theorem dX0_setOf_4 : decode cX0_setOf 4 = .ok (.iload_n 2, 1) := by decide +kernel
theorem dX0_setOf_5 : decode cX0_setOf 5 = .ok (.iconst 4, 1) := by decide +kernel
theorem dX0_setOf_6 : decode cX0_setOf 6 = .ok (.if_icmp .ge 27, 3) := by decide +kernel
theorem dX0_setOf_9 : decode cX0_setOf 9 = .ok (.iload_n 1, 1) := by decide +kernel
theorem dX0_setOf_10 : decode cX0_setOf 10 = .ok (.iload_n 0, 1) := by decide +kernel
theorem dX0_setOf_11 : decode cX0_setOf 11 = .ok (.iload_n 2, 1) := by decide +kernel
theorem dX0_setOf_12 : decode cX0_setOf 12 = .ok (.invokestatic 66, 3) := by decide +kernel
theorem dX0_setOf_15 : decode cX0_setOf 15 = .ok (.ifCond .le 9, 3) := by decide +kernel
theorem dX0_setOf_18 : decode cX0_setOf 18 = .ok (.iconst 1, 1) := by decide +kernel
theorem dX0_setOf_19 : decode cX0_setOf 19 = .ok (.iload_n 2, 1) := by decide +kernel
theorem dX0_setOf_20 : decode cX0_setOf 20 = .ok (.ishl, 1) := by decide +kernel
theorem dX0_setOf_21 : decode cX0_setOf 21 = .ok (.goto 4, 3) := by decide +kernel
theorem dX0_setOf_24 : decode cX0_setOf 24 = .ok (.iconst 0, 1) := by decide +kernel
theorem dX0_setOf_25 : decode cX0_setOf 25 = .ok (.ior, 1) := by decide +kernel
theorem dX0_setOf_26 : decode cX0_setOf 26 = .ok (.istore_n 1, 1) := by decide +kernel
theorem dX0_setOf_27 : decode cX0_setOf 27 = .ok (.iinc 2 1, 3) := by decide +kernel
theorem dX0_setOf_30 : decode cX0_setOf 30 = .ok (.goto (-26), 3) := by decide +kernel
theorem dX0_setOf_33 : decode cX0_setOf 33 = .ok (.iload_n 1, 1) := by decide +kernel
theorem dX0_setOf_34 : decode cX0_setOf 34 = .ok (.ireturn, 1) := by decide +kernel
theorem dX0_solve_0 : decode cX0_solve 0 = .ok (.aload_n 0, 1) := by decide +kernel
theorem dX0_solve_1 : decode cX0_solve 1 = .ok (.getfield 20, 3) := by decide +kernel
theorem dX0_solve_4 : decode cX0_solve 4 = .ok (.iload_n 1, 1) := by decide +kernel
theorem dX0_solve_5 : decode cX0_solve 5 = .ok (.iconst 0, 1) := by decide +kernel
theorem dX0_solve_6 : decode cX0_solve 6 = .ok (.iastore, 1) := by decide +kernel
theorem dX0_solve_7 : decode cX0_solve 7 = .ok (.iconst 0, 1) := by decide +kernel
theorem dX0_solve_8 : decode cX0_solve 8 = .ok (.istore_n 3, 1) := by decide +kernel
theorem dX0_solve_9 : decode cX0_solve 9 = .ok (.iload_n 3, 1) := by decide +kernel
theorem dX0_solve_10 : decode cX0_solve 10 = .ok (.bipush 16, 2) := by decide +kernel
theorem dX0_solve_12 : decode cX0_solve 12 = .ok (.if_icmp .ge 18, 3) := by decide +kernel
theorem dX0_solve_15 : decode cX0_solve 15 = .ok (.aload_n 0, 1) := by decide +kernel
theorem dX0_solve_16 : decode cX0_solve 16 = .ok (.getfield 25, 3) := by decide +kernel
theorem dX0_solve_19 : decode cX0_solve 19 = .ok (.iload_n 1, 1) := by decide +kernel
theorem dX0_solve_20 : decode cX0_solve 20 = .ok (.aaload, 1) := by decide +kernel
theorem dX0_solve_21 : decode cX0_solve 21 = .ok (.iload_n 3, 1) := by decide +kernel
theorem dX0_solve_22 : decode cX0_solve 22 = .ok (.lconst 0, 1) := by decide +kernel
theorem dX0_solve_23 : decode cX0_solve 23 = .ok (.lastore, 1) := by decide +kernel
theorem dX0_solve_24 : decode cX0_solve 24 = .ok (.iinc 3 1, 3) := by decide +kernel
theorem dX0_solve_27 : decode cX0_solve 27 = .ok (.goto (-18), 3) := by decide +kernel
theorem dX0_solve_30 : decode cX0_solve 30 = .ok (.iconst 0, 1) := by decide +kernel
theorem dX0_solve_31 : decode cX0_solve 31 = .ok (.istore_n 3, 1) := by decide +kernel
theorem dX0_solve_32 : decode cX0_solve 32 = .ok (.iload_n 3, 1) := by decide +kernel
theorem dX0_solve_33 : decode cX0_solve 33 = .ok (.aload_n 0, 1) := by decide +kernel
theorem dX0_solve_34 : decode cX0_solve 34 = .ok (.iconst 0, 1) := by decide +kernel
theorem dX0_solve_35 : decode cX0_solve 35 = .ok (.invokevirtual 70, 3) := by decide +kernel
theorem dX0_solve_38 : decode cX0_solve 38 = .ok (.if_icmp .gt 145, 3) := by decide +kernel
theorem dX0_solve_41 : decode cX0_solve 41 = .ok (.aload_n 0, 1) := by decide +kernel
theorem dX0_solve_42 : decode cX0_solve 42 = .ok (.getfield 9, 3) := by decide +kernel
theorem dX0_solve_45 : decode cX0_solve 45 = .ok (.iconst 0, 1) := by decide +kernel
theorem dX0_solve_46 : decode cX0_solve 46 = .ok (.iaload, 1) := by decide +kernel
theorem dX0_solve_47 : decode cX0_solve 47 = .ok (.iload_n 3, 1) := by decide +kernel
theorem dX0_solve_48 : decode cX0_solve 48 = .ok (.imul, 1) := by decide +kernel
theorem dX0_solve_49 : decode cX0_solve 49 = .ok (.iload_n 2, 1) := by decide +kernel
theorem dX0_solve_50 : decode cX0_solve 50 = .ok (.if_icmp .gt 133, 3) := by decide +kernel
theorem dX0_solve_53 : decode cX0_solve 53 = .ok (.iload_n 2, 1) := by decide +kernel
theorem dX0_solve_54 : decode cX0_solve 54 = .ok (.aload_n 0, 1) := by decide +kernel
theorem dX0_solve_55 : decode cX0_solve 55 = .ok (.getfield 9, 3) := by decide +kernel
theorem dX0_solve_58 : decode cX0_solve 58 = .ok (.iconst 0, 1) := by decide +kernel
theorem dX0_solve_59 : decode cX0_solve 59 = .ok (.iaload, 1) := by decide +kernel
theorem dX0_solve_60 : decode cX0_solve 60 = .ok (.iload_n 3, 1) := by decide +kernel
theorem dX0_solve_61 : decode cX0_solve 61 = .ok (.imul, 1) := by decide +kernel
theorem dX0_solve_62 : decode cX0_solve 62 = .ok (.isub, 1) := by decide +kernel
theorem dX0_solve_63 : decode cX0_solve 63 = .ok (.istore 4, 2) := by decide +kernel
theorem dX0_solve_65 : decode cX0_solve 65 = .ok (.iconst 0, 1) := by decide +kernel
theorem dX0_solve_66 : decode cX0_solve 66 = .ok (.istore 5, 2) := by decide +kernel
theorem dX0_solve_68 : decode cX0_solve 68 = .ok (.iload 5, 2) := by decide +kernel
theorem dX0_solve_70 : decode cX0_solve 70 = .ok (.aload_n 0, 1) := by decide +kernel
theorem dX0_solve_71 : decode cX0_solve 71 = .ok (.iconst 1, 1) := by decide +kernel
theorem dX0_solve_72 : decode cX0_solve 72 = .ok (.invokevirtual 70, 3) := by decide +kernel
theorem dX0_solve_75 : decode cX0_solve 75 = .ok (.if_icmp .gt 102, 3) := by decide +kernel
theorem dX0_solve_78 : decode cX0_solve 78 = .ok (.aload_n 0, 1) := by decide +kernel
theorem dX0_solve_79 : decode cX0_solve 79 = .ok (.getfield 9, 3) := by decide +kernel
theorem dX0_solve_82 : decode cX0_solve 82 = .ok (.iconst 1, 1) := by decide +kernel
theorem dX0_solve_83 : decode cX0_solve 83 = .ok (.iaload, 1) := by decide +kernel
theorem dX0_solve_84 : decode cX0_solve 84 = .ok (.iload 5, 2) := by decide +kernel
theorem dX0_solve_86 : decode cX0_solve 86 = .ok (.imul, 1) := by decide +kernel
theorem dX0_solve_87 : decode cX0_solve 87 = .ok (.iload 4, 2) := by decide +kernel
theorem dX0_solve_89 : decode cX0_solve 89 = .ok (.if_icmp .gt 88, 3) := by decide +kernel
theorem dX0_solve_92 : decode cX0_solve 92 = .ok (.iload 4, 2) := by decide +kernel
theorem dX0_solve_94 : decode cX0_solve 94 = .ok (.aload_n 0, 1) := by decide +kernel
theorem dX0_solve_95 : decode cX0_solve 95 = .ok (.getfield 9, 3) := by decide +kernel
theorem dX0_solve_98 : decode cX0_solve 98 = .ok (.iconst 1, 1) := by decide +kernel
theorem dX0_solve_99 : decode cX0_solve 99 = .ok (.iaload, 1) := by decide +kernel
theorem dX0_solve_100 : decode cX0_solve 100 = .ok (.iload 5, 2) := by decide +kernel
theorem dX0_solve_102 : decode cX0_solve 102 = .ok (.imul, 1) := by decide +kernel
theorem dX0_solve_103 : decode cX0_solve 103 = .ok (.isub, 1) := by decide +kernel
theorem dX0_solve_104 : decode cX0_solve 104 = .ok (.istore 6, 2) := by decide +kernel
theorem dX0_solve_106 : decode cX0_solve 106 = .ok (.iconst 0, 1) := by decide +kernel
theorem dX0_solve_107 : decode cX0_solve 107 = .ok (.istore 7, 2) := by decide +kernel
theorem dX0_solve_109 : decode cX0_solve 109 = .ok (.iload 7, 2) := by decide +kernel
theorem dX0_solve_111 : decode cX0_solve 111 = .ok (.aload_n 0, 1) := by decide +kernel
theorem dX0_solve_112 : decode cX0_solve 112 = .ok (.iconst 2, 1) := by decide +kernel
theorem dX0_solve_113 : decode cX0_solve 113 = .ok (.invokevirtual 70, 3) := by decide +kernel
theorem dX0_solve_116 : decode cX0_solve 116 = .ok (.if_icmp .gt 55, 3) := by decide +kernel
theorem dX0_solve_119 : decode cX0_solve 119 = .ok (.aload_n 0, 1) := by decide +kernel
theorem dX0_solve_120 : decode cX0_solve 120 = .ok (.getfield 9, 3) := by decide +kernel
theorem dX0_solve_123 : decode cX0_solve 123 = .ok (.iconst 2, 1) := by decide +kernel
theorem dX0_solve_124 : decode cX0_solve 124 = .ok (.iaload, 1) := by decide +kernel
theorem dX0_solve_125 : decode cX0_solve 125 = .ok (.iload 7, 2) := by decide +kernel
theorem dX0_solve_127 : decode cX0_solve 127 = .ok (.imul, 1) := by decide +kernel
theorem dX0_solve_128 : decode cX0_solve 128 = .ok (.iload 6, 2) := by decide +kernel
theorem dX0_solve_130 : decode cX0_solve 130 = .ok (.if_icmp .gt 41, 3) := by decide +kernel
theorem dX0_solve_133 : decode cX0_solve 133 = .ok (.aload_n 0, 1) := by decide +kernel
theorem dX0_solve_134 : decode cX0_solve 134 = .ok (.iload_n 1, 1) := by decide +kernel
theorem dX0_solve_135 : decode cX0_solve 135 = .ok (.iload_n 3, 1) := by decide +kernel
theorem dX0_solve_136 : decode cX0_solve 136 = .ok (.bipush 12, 2) := by decide +kernel
theorem dX0_solve_138 : decode cX0_solve 138 = .ok (.ishl, 1) := by decide +kernel
theorem dX0_solve_139 : decode cX0_solve 139 = .ok (.iload 5, 2) := by decide +kernel
theorem dX0_solve_141 : decode cX0_solve 141 = .ok (.bipush 8, 2) := by decide +kernel
theorem dX0_solve_143 : decode cX0_solve 143 = .ok (.ishl, 1) := by decide +kernel
theorem dX0_solve_144 : decode cX0_solve 144 = .ok (.ior, 1) := by decide +kernel
theorem dX0_solve_145 : decode cX0_solve 145 = .ok (.iload 7, 2) := by decide +kernel
theorem dX0_solve_147 : decode cX0_solve 147 = .ok (.iconst 4, 1) := by decide +kernel
theorem dX0_solve_148 : decode cX0_solve 148 = .ok (.ishl, 1) := by decide +kernel
theorem dX0_solve_149 : decode cX0_solve 149 = .ok (.ior, 1) := by decide +kernel
theorem dX0_solve_150 : decode cX0_solve 150 = .ok (.iload 6, 2) := by decide +kernel
theorem dX0_solve_152 : decode cX0_solve 152 = .ok (.aload_n 0, 1) := by decide +kernel
theorem dX0_solve_153 : decode cX0_solve 153 = .ok (.getfield 9, 3) := by decide +kernel
theorem dX0_solve_156 : decode cX0_solve 156 = .ok (.iconst 2, 1) := by decide +kernel
theorem dX0_solve_157 : decode cX0_solve 157 = .ok (.iaload, 1) := by decide +kernel
theorem dX0_solve_158 : decode cX0_solve 158 = .ok (.iload 7, 2) := by decide +kernel
theorem dX0_solve_160 : decode cX0_solve 160 = .ok (.imul, 1) := by decide +kernel
theorem dX0_solve_161 : decode cX0_solve 161 = .ok (.isub, 1) := by decide +kernel
theorem dX0_solve_162 : decode cX0_solve 162 = .ok (.invokevirtual 73, 3) := by decide +kernel
theorem dX0_solve_165 : decode cX0_solve 165 = .ok (.iinc 7 1, 3) := by decide +kernel
theorem dX0_solve_168 : decode cX0_solve 168 = .ok (.goto (-59), 3) := by decide +kernel
theorem dX0_solve_171 : decode cX0_solve 171 = .ok (.iinc 5 1, 3) := by decide +kernel
theorem dX0_solve_174 : decode cX0_solve 174 = .ok (.goto (-106), 3) := by decide +kernel
theorem dX0_solve_177 : decode cX0_solve 177 = .ok (.iinc 3 1, 3) := by decide +kernel
theorem dX0_solve_180 : decode cX0_solve 180 = .ok (.goto (-148), 3) := by decide +kernel
theorem dX0_solve_183 : decode cX0_solve 183 = .ok (.aload_n 0, 1) := by decide +kernel
theorem dX0_solve_184 : decode cX0_solve 184 = .ok (.iload_n 1, 1) := by decide +kernel
theorem dX0_solve_185 : decode cX0_solve 185 = .ok (.invokevirtual 77, 3) := by decide +kernel
theorem dX0_solve_188 : decode cX0_solve 188 = .ok (.return_, 1) := by decide +kernel
theorem dX0_solveLast_0 : decode cX0_solveLast 0 = .ok (.aload_n 0, 1) := by decide +kernel
theorem dX0_solveLast_1 : decode cX0_solveLast 1 = .ok (.getfield 9, 3) := by decide +kernel
theorem dX0_solveLast_4 : decode cX0_solveLast 4 = .ok (.iconst 3, 1) := by decide +kernel
theorem dX0_solveLast_5 : decode cX0_solveLast 5 = .ok (.iaload, 1) := by decide +kernel
theorem dX0_solveLast_6 : decode cX0_solveLast 6 = .ok (.ifCond .le 14, 3) := by decide +kernel
theorem dX0_solveLast_9 : decode cX0_solveLast 9 = .ok (.iload_n 3, 1) := by decide +kernel
theorem dX0_solveLast_10 : decode cX0_solveLast 10 = .ok (.aload_n 0, 1) := by decide +kernel
theorem dX0_solveLast_11 : decode cX0_solveLast 11 = .ok (.getfield 9, 3) := by decide +kernel
theorem dX0_solveLast_14 : decode cX0_solveLast 14 = .ok (.iconst 3, 1) := by decide +kernel
theorem dX0_solveLast_15 : decode cX0_solveLast 15 = .ok (.iaload, 1) := by decide +kernel
theorem dX0_solveLast_16 : decode cX0_solveLast 16 = .ok (.idiv, 1) := by decide +kernel
theorem dX0_solveLast_17 : decode cX0_solveLast 17 = .ok (.goto 4, 3) := by decide +kernel
theorem dX0_solveLast_20 : decode cX0_solveLast 20 = .ok (.iconst 0, 1) := by decide +kernel
theorem dX0_solveLast_21 : decode cX0_solveLast 21 = .ok (.istore 4, 2) := by decide +kernel
theorem dX0_solveLast_23 : decode cX0_solveLast 23 = .ok (.iload 4, 2) := by decide +kernel
theorem dX0_solveLast_25 : decode cX0_solveLast 25 = .ok (.aload_n 0, 1) := by decide +kernel
theorem dX0_solveLast_26 : decode cX0_solveLast 26 = .ok (.getfield 48, 3) := by decide +kernel
theorem dX0_solveLast_29 : decode cX0_solveLast 29 = .ok (.if_icmp .gt 16, 3) := by decide +kernel
theorem dX0_solveLast_32 : decode cX0_solveLast 32 = .ok (.aload_n 0, 1) := by decide +kernel
theorem dX0_solveLast_33 : decode cX0_solveLast 33 = .ok (.getfield 9, 3) := by decide +kernel
theorem dX0_solveLast_36 : decode cX0_solveLast 36 = .ok (.iconst 3, 1) := by decide +kernel
theorem dX0_solveLast_37 : decode cX0_solveLast 37 = .ok (.iaload, 1) := by decide +kernel
theorem dX0_solveLast_38 : decode cX0_solveLast 38 = .ok (.iload 4, 2) := by decide +kernel
theorem dX0_solveLast_40 : decode cX0_solveLast 40 = .ok (.imul, 1) := by decide +kernel
theorem dX0_solveLast_41 : decode cX0_solveLast 41 = .ok (.iload_n 3, 1) := by decide +kernel
theorem dX0_solveLast_42 : decode cX0_solveLast 42 = .ok (.if_icmp .eq 4, 3) := by decide +kernel
theorem dX0_solveLast_45 : decode cX0_solveLast 45 = .ok (.return_, 1) := by decide +kernel
theorem dX0_solveLast_46 : decode cX0_solveLast 46 = .ok (.iload_n 2, 1) := by decide +kernel
theorem dX0_solveLast_47 : decode cX0_solveLast 47 = .ok (.iload 4, 2) := by decide +kernel
theorem dX0_solveLast_49 : decode cX0_solveLast 49 = .ok (.ior, 1) := by decide +kernel
theorem dX0_solveLast_50 : decode cX0_solveLast 50 = .ok (.istore 5, 2) := by decide +kernel
theorem dX0_solveLast_52 : decode cX0_solveLast 52 = .ok (.aload_n 0, 1) := by decide +kernel
theorem dX0_solveLast_53 : decode cX0_solveLast 53 = .ok (.getfield 20, 3) := by decide +kernel
theorem dX0_solveLast_56 : decode cX0_solveLast 56 = .ok (.iload_n 1, 1) := by decide +kernel
theorem dX0_solveLast_57 : decode cX0_solveLast 57 = .ok (.iaload, 1) := by decide +kernel
theorem dX0_solveLast_58 : decode cX0_solveLast 58 = .ok (.sipush 220, 3) := by decide +kernel
theorem dX0_solveLast_61 : decode cX0_solveLast 61 = .ok (.if_icmp .ge 18, 3) := by decide +kernel
theorem dX0_solveLast_64 : decode cX0_solveLast 64 = .ok (.aload_n 0, 1) := by decide +kernel
theorem dX0_solveLast_65 : decode cX0_solveLast 65 = .ok (.getfield 17, 3) := by decide +kernel
theorem dX0_solveLast_68 : decode cX0_solveLast 68 = .ok (.iload_n 1, 1) := by decide +kernel
theorem dX0_solveLast_69 : decode cX0_solveLast 69 = .ok (.aaload, 1) := by decide +kernel
theorem dX0_solveLast_70 : decode cX0_solveLast 70 = .ok (.aload_n 0, 1) := by decide +kernel
theorem dX0_solveLast_71 : decode cX0_solveLast 71 = .ok (.getfield 20, 3) := by decide +kernel
theorem dX0_solveLast_74 : decode cX0_solveLast 74 = .ok (.iload_n 1, 1) := by decide +kernel
theorem dX0_solveLast_75 : decode cX0_solveLast 75 = .ok (.iaload, 1) := by decide +kernel
theorem dX0_solveLast_76 : decode cX0_solveLast 76 = .ok (.iload 5, 2) := by decide +kernel
theorem dX0_solveLast_78 : decode cX0_solveLast 78 = .ok (.iastore, 1) := by decide +kernel
theorem dX0_solveLast_79 : decode cX0_solveLast 79 = .ok (.aload_n 0, 1) := by decide +kernel
theorem dX0_solveLast_80 : decode cX0_solveLast 80 = .ok (.getfield 20, 3) := by decide +kernel
theorem dX0_solveLast_83 : decode cX0_solveLast 83 = .ok (.iload_n 1, 1) := by decide +kernel
theorem dX0_solveLast_84 : decode cX0_solveLast 84 = .ok (.dup2, 1) := by decide +kernel
theorem dX0_solveLast_85 : decode cX0_solveLast 85 = .ok (.iaload, 1) := by decide +kernel
theorem dX0_solveLast_86 : decode cX0_solveLast 86 = .ok (.iconst 1, 1) := by decide +kernel
theorem dX0_solveLast_87 : decode cX0_solveLast 87 = .ok (.iadd, 1) := by decide +kernel
theorem dX0_solveLast_88 : decode cX0_solveLast 88 = .ok (.iastore, 1) := by decide +kernel
theorem dX0_solveLast_89 : decode cX0_solveLast 89 = .ok (.aload_n 0, 1) := by decide +kernel
theorem dX0_solveLast_90 : decode cX0_solveLast 90 = .ok (.getfield 25, 3) := by decide +kernel
theorem dX0_solveLast_93 : decode cX0_solveLast 93 = .ok (.iload_n 1, 1) := by decide +kernel
theorem dX0_solveLast_94 : decode cX0_solveLast 94 = .ok (.aaload, 1) := by decide +kernel
theorem dX0_solveLast_95 : decode cX0_solveLast 95 = .ok (.iload 5, 2) := by decide +kernel
theorem dX0_solveLast_97 : decode cX0_solveLast 97 = .ok (.invokestatic 62, 3) := by decide +kernel
theorem dX0_solveLast_100 : decode cX0_solveLast 100 = .ok (.dup2, 1) := by decide +kernel
theorem dX0_solveLast_101 : decode cX0_solveLast 101 = .ok (.laload, 1) := by decide +kernel
theorem dX0_solveLast_102 : decode cX0_solveLast 102 = .ok (.lconst 1, 1) := by decide +kernel
theorem dX0_solveLast_103 : decode cX0_solveLast 103 = .ok (.ladd, 1) := by decide +kernel
theorem dX0_solveLast_104 : decode cX0_solveLast 104 = .ok (.lastore, 1) := by decide +kernel
theorem dX0_solveLast_105 : decode cX0_solveLast 105 = .ok (.return_, 1) := by decide +kernel
theorem dX0_top_0 : decode cX0_top 0 = .ok (.aload_n 0, 1) := by decide +kernel
theorem dX0_top_1 : decode cX0_top 1 = .ok (.getfield 9, 3) := by decide +kernel
theorem dX0_top_4 : decode cX0_top 4 = .ok (.iload_n 1, 1) := by decide +kernel
theorem dX0_top_5 : decode cX0_top 5 = .ok (.iaload, 1) := by decide +kernel
theorem dX0_top_6 : decode cX0_top 6 = .ok (.ifCond .le 10, 3) := by decide +kernel
theorem dX0_top_9 : decode cX0_top 9 = .ok (.aload_n 0, 1) := by decide +kernel
theorem dX0_top_10 : decode cX0_top 10 = .ok (.getfield 48, 3) := by decide +kernel
theorem dX0_top_13 : decode cX0_top 13 = .ok (.goto 4, 3) := by decide +kernel
theorem dX0_top_16 : decode cX0_top 16 = .ok (.iconst 0, 1) := by decide +kernel
theorem dX0_top_17 : decode cX0_top 17 = .ok (.ireturn, 1) := by decide +kernel
theorem dX0_fillWithin_0 : decode cX0_fillWithin 0 = .ok (.iconst 0, 1) := by decide +kernel
theorem dX0_fillWithin_1 : decode cX0_fillWithin 1 = .ok (.istore_n 2, 1) := by decide +kernel
theorem dX0_fillWithin_2 : decode cX0_fillWithin 2 = .ok (.iload_n 2, 1) := by decide +kernel
theorem dX0_fillWithin_3 : decode cX0_fillWithin 3 = .ok (.bipush 16, 2) := by decide +kernel
theorem dX0_fillWithin_5 : decode cX0_fillWithin 5 = .ok (.if_icmp .ge 25, 3) := by decide +kernel
theorem dX0_fillWithin_8 : decode cX0_fillWithin 8 = .ok (.aload_n 0, 1) := by decide +kernel
theorem dX0_fillWithin_9 : decode cX0_fillWithin 9 = .ok (.getfield 28, 3) := by decide +kernel
theorem dX0_fillWithin_12 : decode cX0_fillWithin 12 = .ok (.iload_n 1, 1) := by decide +kernel
theorem dX0_fillWithin_13 : decode cX0_fillWithin 13 = .ok (.aaload, 1) := by decide +kernel
theorem dX0_fillWithin_14 : decode cX0_fillWithin 14 = .ok (.iload_n 2, 1) := by decide +kernel
theorem dX0_fillWithin_15 : decode cX0_fillWithin 15 = .ok (.aload_n 0, 1) := by decide +kernel
theorem dX0_fillWithin_16 : decode cX0_fillWithin 16 = .ok (.getfield 25, 3) := by decide +kernel
theorem dX0_fillWithin_19 : decode cX0_fillWithin 19 = .ok (.iload_n 1, 1) := by decide +kernel
theorem dX0_fillWithin_20 : decode cX0_fillWithin 20 = .ok (.aaload, 1) := by decide +kernel
theorem dX0_fillWithin_21 : decode cX0_fillWithin 21 = .ok (.iload_n 2, 1) := by decide +kernel
theorem dX0_fillWithin_22 : decode cX0_fillWithin 22 = .ok (.laload, 1) := by decide +kernel
theorem dX0_fillWithin_23 : decode cX0_fillWithin 23 = .ok (.lastore, 1) := by decide +kernel
theorem dX0_fillWithin_24 : decode cX0_fillWithin 24 = .ok (.iinc 2 1, 3) := by decide +kernel
theorem dX0_fillWithin_27 : decode cX0_fillWithin 27 = .ok (.goto (-25), 3) := by decide +kernel
theorem dX0_fillWithin_30 : decode cX0_fillWithin 30 = .ok (.iconst 0, 1) := by decide +kernel
theorem dX0_fillWithin_31 : decode cX0_fillWithin 31 = .ok (.istore_n 2, 1) := by decide +kernel
theorem dX0_fillWithin_32 : decode cX0_fillWithin 32 = .ok (.iload_n 2, 1) := by decide +kernel
theorem dX0_fillWithin_33 : decode cX0_fillWithin 33 = .ok (.iconst 4, 1) := by decide +kernel
theorem dX0_fillWithin_34 : decode cX0_fillWithin 34 = .ok (.if_icmp .ge 55, 3) := by decide +kernel
theorem dX0_fillWithin_37 : decode cX0_fillWithin 37 = .ok (.iconst 0, 1) := by decide +kernel
theorem dX0_fillWithin_38 : decode cX0_fillWithin 38 = .ok (.istore_n 3, 1) := by decide +kernel
theorem dX0_fillWithin_39 : decode cX0_fillWithin 39 = .ok (.iload_n 3, 1) := by decide +kernel
theorem dX0_fillWithin_40 : decode cX0_fillWithin 40 = .ok (.bipush 16, 2) := by decide +kernel
theorem dX0_fillWithin_42 : decode cX0_fillWithin 42 = .ok (.if_icmp .ge 41, 3) := by decide +kernel
theorem dX0_fillWithin_45 : decode cX0_fillWithin 45 = .ok (.iload_n 3, 1) := by decide +kernel
theorem dX0_fillWithin_46 : decode cX0_fillWithin 46 = .ok (.iload_n 2, 1) := by decide +kernel
theorem dX0_fillWithin_47 : decode cX0_fillWithin 47 = .ok (.ishr, 1) := by decide +kernel
theorem dX0_fillWithin_48 : decode cX0_fillWithin 48 = .ok (.iconst 1, 1) := by decide +kernel
theorem dX0_fillWithin_49 : decode cX0_fillWithin 49 = .ok (.iand, 1) := by decide +kernel
theorem dX0_fillWithin_50 : decode cX0_fillWithin 50 = .ok (.iconst 1, 1) := by decide +kernel
theorem dX0_fillWithin_51 : decode cX0_fillWithin 51 = .ok (.if_icmp .ne 26, 3) := by decide +kernel
theorem dX0_fillWithin_54 : decode cX0_fillWithin 54 = .ok (.aload_n 0, 1) := by decide +kernel
theorem dX0_fillWithin_55 : decode cX0_fillWithin 55 = .ok (.getfield 28, 3) := by decide +kernel
theorem dX0_fillWithin_58 : decode cX0_fillWithin 58 = .ok (.iload_n 1, 1) := by decide +kernel
theorem dX0_fillWithin_59 : decode cX0_fillWithin 59 = .ok (.aaload, 1) := by decide +kernel
theorem dX0_fillWithin_60 : decode cX0_fillWithin 60 = .ok (.iload_n 3, 1) := by decide +kernel
theorem dX0_fillWithin_61 : decode cX0_fillWithin 61 = .ok (.dup2, 1) := by decide +kernel
theorem dX0_fillWithin_62 : decode cX0_fillWithin 62 = .ok (.laload, 1) := by decide +kernel
theorem dX0_fillWithin_63 : decode cX0_fillWithin 63 = .ok (.aload_n 0, 1) := by decide +kernel
theorem dX0_fillWithin_64 : decode cX0_fillWithin 64 = .ok (.getfield 28, 3) := by decide +kernel
theorem dX0_fillWithin_67 : decode cX0_fillWithin 67 = .ok (.iload_n 1, 1) := by decide +kernel
theorem dX0_fillWithin_68 : decode cX0_fillWithin 68 = .ok (.aaload, 1) := by decide +kernel
theorem dX0_fillWithin_69 : decode cX0_fillWithin 69 = .ok (.iload_n 3, 1) := by decide +kernel
theorem dX0_fillWithin_70 : decode cX0_fillWithin 70 = .ok (.iconst 1, 1) := by decide +kernel
theorem dX0_fillWithin_71 : decode cX0_fillWithin 71 = .ok (.iload_n 2, 1) := by decide +kernel
theorem dX0_fillWithin_72 : decode cX0_fillWithin 72 = .ok (.ishl, 1) := by decide +kernel
theorem dX0_fillWithin_73 : decode cX0_fillWithin 73 = .ok (.ixor, 1) := by decide +kernel
theorem dX0_fillWithin_74 : decode cX0_fillWithin 74 = .ok (.laload, 1) := by decide +kernel
theorem dX0_fillWithin_75 : decode cX0_fillWithin 75 = .ok (.ladd, 1) := by decide +kernel
theorem dX0_fillWithin_76 : decode cX0_fillWithin 76 = .ok (.lastore, 1) := by decide +kernel
theorem dX0_fillWithin_77 : decode cX0_fillWithin 77 = .ok (.iinc 3 1, 3) := by decide +kernel
theorem dX0_fillWithin_80 : decode cX0_fillWithin 80 = .ok (.goto (-41), 3) := by decide +kernel
theorem dX0_fillWithin_83 : decode cX0_fillWithin 83 = .ok (.iinc 2 1, 3) := by decide +kernel
theorem dX0_fillWithin_86 : decode cX0_fillWithin 86 = .ok (.goto (-54), 3) := by decide +kernel
theorem dX0_fillWithin_89 : decode cX0_fillWithin 89 = .ok (.return_, 1) := by decide +kernel
theorem dX0_fillWays_0 : decode cX0_fillWays 0 = .ok (.iconst 0, 1) := by decide +kernel
theorem dX0_fillWays_1 : decode cX0_fillWays 1 = .ok (.istore_n 1, 1) := by decide +kernel
theorem dX0_fillWays_2 : decode cX0_fillWays 2 = .ok (.iload_n 1, 1) := by decide +kernel
theorem dX0_fillWays_3 : decode cX0_fillWays 3 = .ok (.bipush 16, 2) := by decide +kernel
theorem dX0_fillWays_5 : decode cX0_fillWays 5 = .ok (.if_icmp .ge 37, 3) := by decide +kernel
theorem dX0_fillWays_8 : decode cX0_fillWays 8 = .ok (.aload_n 0, 1) := by decide +kernel
theorem dX0_fillWays_9 : decode cX0_fillWays 9 = .ok (.getfield 31, 3) := by decide +kernel
theorem dX0_fillWays_12 : decode cX0_fillWays 12 = .ok (.iconst 4, 1) := by decide +kernel
theorem dX0_fillWays_13 : decode cX0_fillWays 13 = .ok (.aaload, 1) := by decide +kernel
theorem dX0_fillWays_14 : decode cX0_fillWays 14 = .ok (.iload_n 1, 1) := by decide +kernel
theorem dX0_fillWays_15 : decode cX0_fillWays 15 = .ok (.aload_n 0, 1) := by decide +kernel
theorem dX0_fillWays_16 : decode cX0_fillWays 16 = .ok (.getfield 45, 3) := by decide +kernel
theorem dX0_fillWays_19 : decode cX0_fillWays 19 = .ok (.ifCond .ne 11, 3) := by decide +kernel
theorem dX0_fillWays_22 : decode cX0_fillWays 22 = .ok (.iload_n 1, 1) := by decide +kernel
theorem dX0_fillWays_23 : decode cX0_fillWays 23 = .ok (.aload_n 0, 1) := by decide +kernel
theorem dX0_fillWays_24 : decode cX0_fillWays 24 = .ok (.getfield 41, 3) := by decide +kernel
theorem dX0_fillWays_27 : decode cX0_fillWays 27 = .ok (.if_icmp .ne 7, 3) := by decide +kernel
theorem dX0_fillWays_30 : decode cX0_fillWays 30 = .ok (.lconst 1, 1) := by decide +kernel
theorem dX0_fillWays_31 : decode cX0_fillWays 31 = .ok (.goto 4, 3) := by decide +kernel
theorem dX0_fillWays_34 : decode cX0_fillWays 34 = .ok (.lconst 0, 1) := by decide +kernel
theorem dX0_fillWays_35 : decode cX0_fillWays 35 = .ok (.lastore, 1) := by decide +kernel
theorem dX0_fillWays_36 : decode cX0_fillWays 36 = .ok (.iinc 1 1, 3) := by decide +kernel
theorem dX0_fillWays_39 : decode cX0_fillWays 39 = .ok (.goto (-37), 3) := by decide +kernel
theorem dX0_fillWays_42 : decode cX0_fillWays 42 = .ok (.iconst 3, 1) := by decide +kernel
theorem dX0_fillWays_43 : decode cX0_fillWays 43 = .ok (.istore_n 1, 1) := by decide +kernel
theorem dX0_fillWays_44 : decode cX0_fillWays 44 = .ok (.iload_n 1, 1) := by decide +kernel
theorem dX0_fillWays_45 : decode cX0_fillWays 45 = .ok (.ifCond .lt 37, 3) := by decide +kernel
theorem dX0_fillWays_48 : decode cX0_fillWays 48 = .ok (.iconst 0, 1) := by decide +kernel
theorem dX0_fillWays_49 : decode cX0_fillWays 49 = .ok (.istore_n 2, 1) := by decide +kernel
theorem dX0_fillWays_50 : decode cX0_fillWays 50 = .ok (.iload_n 2, 1) := by decide +kernel
theorem dX0_fillWays_51 : decode cX0_fillWays 51 = .ok (.bipush 16, 2) := by decide +kernel
theorem dX0_fillWays_53 : decode cX0_fillWays 53 = .ok (.if_icmp .ge 23, 3) := by decide +kernel
theorem dX0_fillWays_56 : decode cX0_fillWays 56 = .ok (.aload_n 0, 1) := by decide +kernel
theorem dX0_fillWays_57 : decode cX0_fillWays 57 = .ok (.getfield 31, 3) := by decide +kernel
theorem dX0_fillWays_60 : decode cX0_fillWays 60 = .ok (.iload_n 1, 1) := by decide +kernel
theorem dX0_fillWays_61 : decode cX0_fillWays 61 = .ok (.aaload, 1) := by decide +kernel
theorem dX0_fillWays_62 : decode cX0_fillWays 62 = .ok (.iload_n 2, 1) := by decide +kernel
theorem dX0_fillWays_63 : decode cX0_fillWays 63 = .ok (.aload_n 0, 1) := by decide +kernel
theorem dX0_fillWays_64 : decode cX0_fillWays 64 = .ok (.iload_n 1, 1) := by decide +kernel
theorem dX0_fillWays_65 : decode cX0_fillWays 65 = .ok (.iload_n 2, 1) := by decide +kernel
theorem dX0_fillWays_66 : decode cX0_fillWays 66 = .ok (.invokevirtual 81, 3) := by decide +kernel
theorem dX0_fillWays_69 : decode cX0_fillWays 69 = .ok (.lastore, 1) := by decide +kernel
theorem dX0_fillWays_70 : decode cX0_fillWays 70 = .ok (.iinc 2 1, 3) := by decide +kernel
theorem dX0_fillWays_73 : decode cX0_fillWays 73 = .ok (.goto (-23), 3) := by decide +kernel
theorem dX0_fillWays_76 : decode cX0_fillWays 76 = .ok (.iinc 1 (-1), 3) := by decide +kernel
theorem dX0_fillWays_79 : decode cX0_fillWays 79 = .ok (.goto (-35), 3) := by decide +kernel
theorem dX0_fillWays_82 : decode cX0_fillWays 82 = .ok (.return_, 1) := by decide +kernel
theorem dX0_waysFrom_0 : decode cX0_waysFrom 0 = .ok (.lconst 0, 1) := by decide +kernel
theorem dX0_waysFrom_1 : decode cX0_waysFrom 1 = .ok (.lstore_n 3, 1) := by decide +kernel
theorem dX0_waysFrom_2 : decode cX0_waysFrom 2 = .ok (.iconst 0, 1) := by decide +kernel
theorem dX0_waysFrom_3 : decode cX0_waysFrom 3 = .ok (.istore 5, 2) := by decide +kernel
theorem dX0_waysFrom_5 : decode cX0_waysFrom 5 = .ok (.iload 5, 2) := by decide +kernel
theorem dX0_waysFrom_7 : decode cX0_waysFrom 7 = .ok (.bipush 16, 2) := by decide +kernel
theorem dX0_waysFrom_9 : decode cX0_waysFrom 9 = .ok (.if_icmp .ge 35, 3) := by decide +kernel
theorem dX0_waysFrom_12 : decode cX0_waysFrom 12 = .ok (.lload_n 3, 1) := by decide +kernel
theorem dX0_waysFrom_13 : decode cX0_waysFrom 13 = .ok (.aload_n 0, 1) := by decide +kernel
theorem dX0_waysFrom_14 : decode cX0_waysFrom 14 = .ok (.getfield 25, 3) := by decide +kernel
theorem dX0_waysFrom_17 : decode cX0_waysFrom 17 = .ok (.iload_n 1, 1) := by decide +kernel
theorem dX0_waysFrom_18 : decode cX0_waysFrom 18 = .ok (.aaload, 1) := by decide +kernel
theorem dX0_waysFrom_19 : decode cX0_waysFrom 19 = .ok (.iload 5, 2) := by decide +kernel
theorem dX0_waysFrom_21 : decode cX0_waysFrom 21 = .ok (.laload, 1) := by decide +kernel
theorem dX0_waysFrom_22 : decode cX0_waysFrom 22 = .ok (.aload_n 0, 1) := by decide +kernel
theorem dX0_waysFrom_23 : decode cX0_waysFrom 23 = .ok (.getfield 31, 3) := by decide +kernel
theorem dX0_waysFrom_26 : decode cX0_waysFrom 26 = .ok (.iload_n 1, 1) := by decide +kernel
theorem dX0_waysFrom_27 : decode cX0_waysFrom 27 = .ok (.iconst 1, 1) := by decide +kernel
theorem dX0_waysFrom_28 : decode cX0_waysFrom 28 = .ok (.iadd, 1) := by decide +kernel
theorem dX0_waysFrom_29 : decode cX0_waysFrom 29 = .ok (.aaload, 1) := by decide +kernel
theorem dX0_waysFrom_30 : decode cX0_waysFrom 30 = .ok (.iload_n 2, 1) := by decide +kernel
theorem dX0_waysFrom_31 : decode cX0_waysFrom 31 = .ok (.iload 5, 2) := by decide +kernel
theorem dX0_waysFrom_33 : decode cX0_waysFrom 33 = .ok (.ior, 1) := by decide +kernel
theorem dX0_waysFrom_34 : decode cX0_waysFrom 34 = .ok (.laload, 1) := by decide +kernel
theorem dX0_waysFrom_35 : decode cX0_waysFrom 35 = .ok (.lmul, 1) := by decide +kernel
theorem dX0_waysFrom_36 : decode cX0_waysFrom 36 = .ok (.ladd, 1) := by decide +kernel
theorem dX0_waysFrom_37 : decode cX0_waysFrom 37 = .ok (.lstore_n 3, 1) := by decide +kernel
theorem dX0_waysFrom_38 : decode cX0_waysFrom 38 = .ok (.iinc 5 1, 3) := by decide +kernel
theorem dX0_waysFrom_41 : decode cX0_waysFrom 41 = .ok (.goto (-36), 3) := by decide +kernel
theorem dX0_waysFrom_44 : decode cX0_waysFrom 44 = .ok (.lload_n 3, 1) := by decide +kernel
theorem dX0_waysFrom_45 : decode cX0_waysFrom 45 = .ok (.lreturn, 1) := by decide +kernel
theorem dX0_bySetsWith_0 : decode cX0_bySetsWith 0 = .ok (.lconst 0, 1) := by decide +kernel
theorem dX0_bySetsWith_1 : decode cX0_bySetsWith 1 = .ok (.lstore_n 3, 1) := by decide +kernel
theorem dX0_bySetsWith_2 : decode cX0_bySetsWith 2 = .ok (.iconst 0, 1) := by decide +kernel
theorem dX0_bySetsWith_3 : decode cX0_bySetsWith 3 = .ok (.istore 5, 2) := by decide +kernel
theorem dX0_bySetsWith_5 : decode cX0_bySetsWith 5 = .ok (.iload 5, 2) := by decide +kernel
theorem dX0_bySetsWith_7 : decode cX0_bySetsWith 7 = .ok (.bipush 16, 2) := by decide +kernel
theorem dX0_bySetsWith_9 : decode cX0_bySetsWith 9 = .ok (.if_icmp .ge 124, 3) := by decide +kernel
theorem dX0_bySetsWith_12 : decode cX0_bySetsWith 12 = .ok (.aload_n 0, 1) := by decide +kernel
theorem dX0_bySetsWith_13 : decode cX0_bySetsWith 13 = .ok (.getfield 45, 3) := by decide +kernel
theorem dX0_bySetsWith_16 : decode cX0_bySetsWith 16 = .ok (.ifCond .eq 16, 3) := by decide +kernel
theorem dX0_bySetsWith_19 : decode cX0_bySetsWith 19 = .ok (.iload 5, 2) := by decide +kernel
theorem dX0_bySetsWith_21 : decode cX0_bySetsWith 21 = .ok (.ifCond .ne 7, 3) := by decide +kernel
theorem dX0_bySetsWith_24 : decode cX0_bySetsWith 24 = .ok (.iconst 1, 1) := by decide +kernel
theorem dX0_bySetsWith_25 : decode cX0_bySetsWith 25 = .ok (.goto 24, 3) := by decide +kernel
theorem dX0_bySetsWith_28 : decode cX0_bySetsWith 28 = .ok (.iconst 0, 1) := by decide +kernel
theorem dX0_bySetsWith_29 : decode cX0_bySetsWith 29 = .ok (.goto 20, 3) := by decide +kernel
theorem dX0_bySetsWith_32 : decode cX0_bySetsWith 32 = .ok (.iload 5, 2) := by decide +kernel
theorem dX0_bySetsWith_34 : decode cX0_bySetsWith 34 = .ok (.aload_n 0, 1) := by decide +kernel
theorem dX0_bySetsWith_35 : decode cX0_bySetsWith 35 = .ok (.getfield 41, 3) := by decide +kernel
theorem dX0_bySetsWith_38 : decode cX0_bySetsWith 38 = .ok (.iand, 1) := by decide +kernel
theorem dX0_bySetsWith_39 : decode cX0_bySetsWith 39 = .ok (.iload 5, 2) := by decide +kernel
theorem dX0_bySetsWith_41 : decode cX0_bySetsWith 41 = .ok (.if_icmp .ne 7, 3) := by decide +kernel
theorem dX0_bySetsWith_44 : decode cX0_bySetsWith 44 = .ok (.iconst 1, 1) := by decide +kernel
theorem dX0_bySetsWith_45 : decode cX0_bySetsWith 45 = .ok (.goto 4, 3) := by decide +kernel
theorem dX0_bySetsWith_48 : decode cX0_bySetsWith 48 = .ok (.iconst 0, 1) := by decide +kernel
theorem dX0_bySetsWith_49 : decode cX0_bySetsWith 49 = .ok (.istore 6, 2) := by decide +kernel
theorem dX0_bySetsWith_51 : decode cX0_bySetsWith 51 = .ok (.iload 6, 2) := by decide +kernel
theorem dX0_bySetsWith_53 : decode cX0_bySetsWith 53 = .ok (.ifCond .eq 74, 3) := by decide +kernel
theorem dX0_bySetsWith_56 : decode cX0_bySetsWith 56 = .ok (.lconst 1, 1) := by decide +kernel
theorem dX0_bySetsWith_57 : decode cX0_bySetsWith 57 = .ok (.lstore 7, 2) := by decide +kernel
theorem dX0_bySetsWith_59 : decode cX0_bySetsWith 59 = .ok (.iconst 0, 1) := by decide +kernel
theorem dX0_bySetsWith_60 : decode cX0_bySetsWith 60 = .ok (.istore 9, 2) := by decide +kernel
theorem dX0_bySetsWith_62 : decode cX0_bySetsWith 62 = .ok (.iload 9, 2) := by decide +kernel
theorem dX0_bySetsWith_64 : decode cX0_bySetsWith 64 = .ok (.iconst 4, 1) := by decide +kernel
theorem dX0_bySetsWith_65 : decode cX0_bySetsWith 65 = .ok (.if_icmp .ge 41, 3) := by decide +kernel
theorem dX0_bySetsWith_68 : decode cX0_bySetsWith 68 = .ok (.lload 7, 2) := by decide +kernel
theorem dX0_bySetsWith_70 : decode cX0_bySetsWith 70 = .ok (.aload_n 0, 1) := by decide +kernel
theorem dX0_bySetsWith_71 : decode cX0_bySetsWith 71 = .ok (.getfield 28, 3) := by decide +kernel
theorem dX0_bySetsWith_74 : decode cX0_bySetsWith 74 = .ok (.iload 9, 2) := by decide +kernel
theorem dX0_bySetsWith_76 : decode cX0_bySetsWith 76 = .ok (.iload_n 1, 1) := by decide +kernel
theorem dX0_bySetsWith_77 : decode cX0_bySetsWith 77 = .ok (.if_icmp .ne 7, 3) := by decide +kernel
theorem dX0_bySetsWith_80 : decode cX0_bySetsWith 80 = .ok (.iload_n 2, 1) := by decide +kernel
theorem dX0_bySetsWith_81 : decode cX0_bySetsWith 81 = .ok (.goto 5, 3) := by decide +kernel
theorem dX0_bySetsWith_84 : decode cX0_bySetsWith 84 = .ok (.iload 9, 2) := by decide +kernel
theorem dX0_bySetsWith_86 : decode cX0_bySetsWith 86 = .ok (.aaload, 1) := by decide +kernel
theorem dX0_bySetsWith_87 : decode cX0_bySetsWith 87 = .ok (.aload_n 0, 1) := by decide +kernel
theorem dX0_bySetsWith_88 : decode cX0_bySetsWith 88 = .ok (.getfield 41, 3) := by decide +kernel
theorem dX0_bySetsWith_91 : decode cX0_bySetsWith 91 = .ok (.iload 5, 2) := by decide +kernel
theorem dX0_bySetsWith_93 : decode cX0_bySetsWith 93 = .ok (.iconst (-1), 1) := by decide +kernel
theorem dX0_bySetsWith_94 : decode cX0_bySetsWith 94 = .ok (.ixor, 1) := by decide +kernel
theorem dX0_bySetsWith_95 : decode cX0_bySetsWith 95 = .ok (.iand, 1) := by decide +kernel
theorem dX0_bySetsWith_96 : decode cX0_bySetsWith 96 = .ok (.laload, 1) := by decide +kernel
theorem dX0_bySetsWith_97 : decode cX0_bySetsWith 97 = .ok (.lmul, 1) := by decide +kernel
theorem dX0_bySetsWith_98 : decode cX0_bySetsWith 98 = .ok (.lstore 7, 2) := by decide +kernel
theorem dX0_bySetsWith_100 : decode cX0_bySetsWith 100 = .ok (.iinc 9 1, 3) := by decide +kernel
theorem dX0_bySetsWith_103 : decode cX0_bySetsWith 103 = .ok (.goto (-41), 3) := by decide +kernel
theorem dX0_bySetsWith_106 : decode cX0_bySetsWith 106 = .ok (.lload_n 3, 1) := by decide +kernel
theorem dX0_bySetsWith_107 : decode cX0_bySetsWith 107 = .ok (.iload 5, 2) := by decide +kernel
theorem dX0_bySetsWith_109 : decode cX0_bySetsWith 109 = .ok (.invokestatic 84, 3) := by decide +kernel
theorem dX0_bySetsWith_112 : decode cX0_bySetsWith 112 = .ok (.iconst 2, 1) := by decide +kernel
theorem dX0_bySetsWith_113 : decode cX0_bySetsWith 113 = .ok (.irem, 1) := by decide +kernel
theorem dX0_bySetsWith_114 : decode cX0_bySetsWith 114 = .ok (.ifCond .ne 8, 3) := by decide +kernel
theorem dX0_bySetsWith_117 : decode cX0_bySetsWith 117 = .ok (.lload 7, 2) := by decide +kernel
theorem dX0_bySetsWith_119 : decode cX0_bySetsWith 119 = .ok (.goto 6, 3) := by decide +kernel
theorem dX0_bySetsWith_122 : decode cX0_bySetsWith 122 = .ok (.lload 7, 2) := by decide +kernel
theorem dX0_bySetsWith_124 : decode cX0_bySetsWith 124 = .ok (.lneg, 1) := by decide +kernel
theorem dX0_bySetsWith_125 : decode cX0_bySetsWith 125 = .ok (.ladd, 1) := by decide +kernel
theorem dX0_bySetsWith_126 : decode cX0_bySetsWith 126 = .ok (.lstore_n 3, 1) := by decide +kernel
theorem dX0_bySetsWith_127 : decode cX0_bySetsWith 127 = .ok (.iinc 5 1, 3) := by decide +kernel
theorem dX0_bySetsWith_130 : decode cX0_bySetsWith 130 = .ok (.goto (-125), 3) := by decide +kernel
theorem dX0_bySetsWith_133 : decode cX0_bySetsWith 133 = .ok (.lload_n 3, 1) := by decide +kernel
theorem dX0_bySetsWith_134 : decode cX0_bySetsWith 134 = .ok (.lreturn, 1) := by decide +kernel
theorem dX1_init_0 : decode cX1_init 0 = .ok (.aload_n 0, 1) := by decide +kernel
theorem dX1_init_1 : decode cX1_init 1 = .ok (.invokespecial 3, 3) := by decide +kernel
theorem dX1_init_4 : decode cX1_init 4 = .ok (.aload_n 0, 1) := by decide +kernel
theorem dX1_init_5 : decode cX1_init 5 = .ok (.bipush 6, 2) := by decide +kernel
theorem dX1_init_7 : decode cX1_init 7 = .ok (.bipush 26, 2) := by decide +kernel
theorem dX1_init_9 : decode cX1_init 9 = .ok (.multianewarray 11 2, 4) := by decide +kernel
theorem dX1_init_13 : decode cX1_init 13 = .ok (.putfield 13, 3) := by decide +kernel
theorem dX1_init_16 : decode cX1_init 16 = .ok (.return_, 1) := by decide +kernel
theorem dX1_size_0 : decode cX1_size 0 = .ok (.aload_n 0, 1) := by decide +kernel
theorem dX1_size_1 : decode cX1_size 1 = .ok (.getfield 16, 3) := by decide +kernel
theorem dX1_size_4 : decode cX1_size 4 = .ok (.ireturn, 1) := by decide +kernel
theorem dX1_keep_0 : decode cX1_keep 0 = .ok (.aload_n 1, 1) := by decide +kernel
theorem dX1_keep_1 : decode cX1_keep 1 = .ok (.iconst 0, 1) := by decide +kernel
theorem dX1_keep_2 : decode cX1_keep 2 = .ok (.aload_n 0, 1) := by decide +kernel
theorem dX1_keep_3 : decode cX1_keep 3 = .ok (.getfield 13, 3) := by decide +kernel
theorem dX1_keep_6 : decode cX1_keep 6 = .ok (.aload_n 0, 1) := by decide +kernel
theorem dX1_keep_7 : decode cX1_keep 7 = .ok (.getfield 20, 3) := by decide +kernel
theorem dX1_keep_10 : decode cX1_keep 10 = .ok (.aload_n 0, 1) := by decide +kernel
theorem dX1_keep_11 : decode cX1_keep 11 = .ok (.getfield 16, 3) := by decide +kernel
theorem dX1_keep_14 : decode cX1_keep 14 = .ok (.iadd, 1) := by decide +kernel
theorem dX1_keep_15 : decode cX1_keep 15 = .ok (.bipush 6, 2) := by decide +kernel
theorem dX1_keep_17 : decode cX1_keep 17 = .ok (.irem, 1) := by decide +kernel
theorem dX1_keep_18 : decode cX1_keep 18 = .ok (.aaload, 1) := by decide +kernel
theorem dX1_keep_19 : decode cX1_keep 19 = .ok (.iconst 0, 1) := by decide +kernel
theorem dX1_keep_20 : decode cX1_keep 20 = .ok (.bipush 26, 2) := by decide +kernel
theorem dX1_keep_22 : decode cX1_keep 22 = .ok (.invokestatic 23, 3) := by decide +kernel
theorem dX1_keep_25 : decode cX1_keep 25 = .ok (.aload_n 0, 1) := by decide +kernel
theorem dX1_keep_26 : decode cX1_keep 26 = .ok (.getfield 16, 3) := by decide +kernel
theorem dX1_keep_29 : decode cX1_keep 29 = .ok (.bipush 6, 2) := by decide +kernel
theorem dX1_keep_31 : decode cX1_keep 31 = .ok (.if_icmp .ge 16, 3) := by decide +kernel
theorem dX1_keep_34 : decode cX1_keep 34 = .ok (.aload_n 0, 1) := by decide +kernel
theorem dX1_keep_35 : decode cX1_keep 35 = .ok (.dup, 1) := by decide +kernel
theorem dX1_keep_36 : decode cX1_keep 36 = .ok (.getfield 16, 3) := by decide +kernel
theorem dX1_keep_39 : decode cX1_keep 39 = .ok (.iconst 1, 1) := by decide +kernel
theorem dX1_keep_40 : decode cX1_keep 40 = .ok (.iadd, 1) := by decide +kernel
theorem dX1_keep_41 : decode cX1_keep 41 = .ok (.putfield 16, 3) := by decide +kernel
theorem dX1_keep_44 : decode cX1_keep 44 = .ok (.goto 16, 3) := by decide +kernel
theorem dX1_keep_47 : decode cX1_keep 47 = .ok (.aload_n 0, 1) := by decide +kernel
theorem dX1_keep_48 : decode cX1_keep 48 = .ok (.aload_n 0, 1) := by decide +kernel
theorem dX1_keep_49 : decode cX1_keep 49 = .ok (.getfield 20, 3) := by decide +kernel
theorem dX1_keep_52 : decode cX1_keep 52 = .ok (.iconst 1, 1) := by decide +kernel
theorem dX1_keep_53 : decode cX1_keep 53 = .ok (.iadd, 1) := by decide +kernel
theorem dX1_keep_54 : decode cX1_keep 54 = .ok (.bipush 6, 2) := by decide +kernel
theorem dX1_keep_56 : decode cX1_keep 56 = .ok (.irem, 1) := by decide +kernel
theorem dX1_keep_57 : decode cX1_keep 57 = .ok (.putfield 20, 3) := by decide +kernel
theorem dX1_keep_60 : decode cX1_keep 60 = .ok (.return_, 1) := by decide +kernel
theorem dX2_init_0 : decode cX2_init 0 = .ok (.aload_n 0, 1) := by decide +kernel
theorem dX2_init_1 : decode cX2_init 1 = .ok (.invokespecial 3, 3) := by decide +kernel
theorem dX2_init_4 : decode cX2_init 4 = .ok (.aload_n 0, 1) := by decide +kernel
theorem dX2_init_5 : decode cX2_init 5 = .ok (.iconst 4, 1) := by decide +kernel
theorem dX2_init_6 : decode cX2_init 6 = .ok (.newarray .int, 2) := by decide +kernel
theorem dX2_init_8 : decode cX2_init 8 = .ok (.putfield 9, 3) := by decide +kernel
theorem dX2_init_11 : decode cX2_init 11 = .ok (.aload_n 0, 1) := by decide +kernel
theorem dX2_init_12 : decode cX2_init 12 = .ok (.iconst 4, 1) := by decide +kernel
theorem dX2_init_13 : decode cX2_init 13 = .ok (.newarray .int, 2) := by decide +kernel
theorem dX2_init_15 : decode cX2_init 15 = .ok (.putfield 15, 3) := by decide +kernel
theorem dX2_init_18 : decode cX2_init 18 = .ok (.aload_n 0, 1) := by decide +kernel
theorem dX2_init_19 : decode cX2_init 19 = .ok (.bipush 120, 2) := by decide +kernel
theorem dX2_init_21 : decode cX2_init 21 = .ok (.newarray .int, 2) := by decide +kernel
theorem dX2_init_23 : decode cX2_init 23 = .ok (.putfield 18, 3) := by decide +kernel
theorem dX2_init_26 : decode cX2_init 26 = .ok (.aload_n 0, 1) := by decide +kernel
theorem dX2_init_27 : decode cX2_init 27 = .ok (.sipush 2401, 3) := by decide +kernel
theorem dX2_init_30 : decode cX2_init 30 = .ok (.newarray .int, 2) := by decide +kernel
theorem dX2_init_32 : decode cX2_init 32 = .ok (.putfield 21, 3) := by decide +kernel
theorem dX2_init_35 : decode cX2_init 35 = .ok (.return_, 1) := by decide +kernel
theorem dX2_forget_0 : decode cX2_forget 0 = .ok (.aload_n 0, 1) := by decide +kernel
theorem dX2_forget_1 : decode cX2_forget 1 = .ok (.iconst 0, 1) := by decide +kernel
theorem dX2_forget_2 : decode cX2_forget 2 = .ok (.putfield 24, 3) := by decide +kernel
theorem dX2_forget_5 : decode cX2_forget 5 = .ok (.return_, 1) := by decide +kernel
theorem dX2_prepare_0 : decode cX2_prepare 0 = .ok (.aload_n 0, 1) := by decide +kernel
theorem dX2_prepare_1 : decode cX2_prepare 1 = .ok (.getfield 24, 3) := by decide +kernel
theorem dX2_prepare_4 : decode cX2_prepare 4 = .ok (.ifCond .eq 4, 3) := by decide +kernel
theorem dX2_prepare_7 : decode cX2_prepare 7 = .ok (.return_, 1) := by decide +kernel
theorem dX2_prepare_8 : decode cX2_prepare 8 = .ok (.iconst 0, 1) := by decide +kernel
theorem dX2_prepare_9 : decode cX2_prepare 9 = .ok (.istore_n 2, 1) := by decide +kernel
theorem dX2_prepare_10 : decode cX2_prepare 10 = .ok (.iload_n 2, 1) := by decide +kernel
theorem dX2_prepare_11 : decode cX2_prepare 11 = .ok (.iconst 4, 1) := by decide +kernel
theorem dX2_prepare_12 : decode cX2_prepare 12 = .ok (.if_icmp .ge 31, 3) := by decide +kernel
theorem dX2_prepare_15 : decode cX2_prepare 15 = .ok (.iconst 4, 1) := by decide +kernel
theorem dX2_prepare_16 : decode cX2_prepare 16 = .ok (.iload_n 2, 1) := by decide +kernel
theorem dX2_prepare_17 : decode cX2_prepare 17 = .ok (.iadd, 1) := by decide +kernel
theorem dX2_prepare_18 : decode cX2_prepare 18 = .ok (.istore_n 3, 1) := by decide +kernel
theorem dX2_prepare_19 : decode cX2_prepare 19 = .ok (.aload_n 0, 1) := by decide +kernel
theorem dX2_prepare_20 : decode cX2_prepare 20 = .ok (.getfield 9, 3) := by decide +kernel
theorem dX2_prepare_23 : decode cX2_prepare 23 = .ok (.iload_n 2, 1) := by decide +kernel
theorem dX2_prepare_24 : decode cX2_prepare 24 = .ok (.aload_n 1, 1) := by decide +kernel
theorem dX2_prepare_25 : decode cX2_prepare 25 = .ok (.iconst 0, 1) := by decide +kernel
theorem dX2_prepare_26 : decode cX2_prepare 26 = .ok (.iload_n 3, 1) := by decide +kernel
theorem dX2_prepare_27 : decode cX2_prepare 27 = .ok (.iadd, 1) := by decide +kernel
theorem dX2_prepare_28 : decode cX2_prepare 28 = .ok (.iaload, 1) := by decide +kernel
theorem dX2_prepare_29 : decode cX2_prepare 29 = .ok (.aload_n 1, 1) := by decide +kernel
theorem dX2_prepare_30 : decode cX2_prepare 30 = .ok (.bipush 8, 2) := by decide +kernel
theorem dX2_prepare_32 : decode cX2_prepare 32 = .ok (.iload_n 3, 1) := by decide +kernel
theorem dX2_prepare_33 : decode cX2_prepare 33 = .ok (.iadd, 1) := by decide +kernel
theorem dX2_prepare_34 : decode cX2_prepare 34 = .ok (.iaload, 1) := by decide +kernel
theorem dX2_prepare_35 : decode cX2_prepare 35 = .ok (.isub, 1) := by decide +kernel
theorem dX2_prepare_36 : decode cX2_prepare 36 = .ok (.iastore, 1) := by decide +kernel
theorem dX2_prepare_37 : decode cX2_prepare 37 = .ok (.iinc 2 1, 3) := by decide +kernel
theorem dX2_prepare_40 : decode cX2_prepare 40 = .ok (.goto (-30), 3) := by decide +kernel
theorem dX2_prepare_43 : decode cX2_prepare 43 = .ok (.aload_n 0, 1) := by decide +kernel
theorem dX2_prepare_44 : decode cX2_prepare 44 = .ok (.iconst 0, 1) := by decide +kernel
theorem dX2_prepare_45 : decode cX2_prepare 45 = .ok (.putfield 28, 3) := by decide +kernel
theorem dX2_prepare_48 : decode cX2_prepare 48 = .ok (.iconst 0, 1) := by decide +kernel
theorem dX2_prepare_49 : decode cX2_prepare 49 = .ok (.istore_n 2, 1) := by decide +kernel
theorem dX2_prepare_50 : decode cX2_prepare 50 = .ok (.iload_n 2, 1) := by decide +kernel
theorem dX2_prepare_51 : decode cX2_prepare 51 = .ok (.iconst 5, 1) := by decide +kernel
theorem dX2_prepare_52 : decode cX2_prepare 52 = .ok (.if_icmp .gt 62, 3) := by decide +kernel
theorem dX2_prepare_55 : decode cX2_prepare 55 = .ok (.iconst 0, 1) := by decide +kernel
theorem dX2_prepare_56 : decode cX2_prepare 56 = .ok (.istore_n 3, 1) := by decide +kernel
theorem dX2_prepare_57 : decode cX2_prepare 57 = .ok (.iload_n 3, 1) := by decide +kernel
theorem dX2_prepare_58 : decode cX2_prepare 58 = .ok (.iconst 5, 1) := by decide +kernel
theorem dX2_prepare_59 : decode cX2_prepare 59 = .ok (.if_icmp .gt 49, 3) := by decide +kernel
theorem dX2_prepare_62 : decode cX2_prepare 62 = .ok (.iconst 0, 1) := by decide +kernel
theorem dX2_prepare_63 : decode cX2_prepare 63 = .ok (.istore 4, 2) := by decide +kernel
theorem dX2_prepare_65 : decode cX2_prepare 65 = .ok (.iload 4, 2) := by decide +kernel
theorem dX2_prepare_67 : decode cX2_prepare 67 = .ok (.iconst 5, 1) := by decide +kernel
theorem dX2_prepare_68 : decode cX2_prepare 68 = .ok (.if_icmp .gt 34, 3) := by decide +kernel
theorem dX2_prepare_71 : decode cX2_prepare 71 = .ok (.iconst 0, 1) := by decide +kernel
theorem dX2_prepare_72 : decode cX2_prepare 72 = .ok (.istore 5, 2) := by decide +kernel
theorem dX2_prepare_74 : decode cX2_prepare 74 = .ok (.iload 5, 2) := by decide +kernel
theorem dX2_prepare_76 : decode cX2_prepare 76 = .ok (.iconst 5, 1) := by decide +kernel
theorem dX2_prepare_77 : decode cX2_prepare 77 = .ok (.if_icmp .gt 19, 3) := by decide +kernel
theorem dX2_prepare_80 : decode cX2_prepare 80 = .ok (.aload_n 0, 1) := by decide +kernel
theorem dX2_prepare_81 : decode cX2_prepare 81 = .ok (.iload_n 2, 1) := by decide +kernel
theorem dX2_prepare_82 : decode cX2_prepare 82 = .ok (.iload_n 3, 1) := by decide +kernel
theorem dX2_prepare_83 : decode cX2_prepare 83 = .ok (.iload 4, 2) := by decide +kernel
theorem dX2_prepare_85 : decode cX2_prepare 85 = .ok (.iload 5, 2) := by decide +kernel
theorem dX2_prepare_87 : decode cX2_prepare 87 = .ok (.invokevirtual 32, 3) := by decide +kernel
theorem dX2_prepare_90 : decode cX2_prepare 90 = .ok (.iinc 5 1, 3) := by decide +kernel
theorem dX2_prepare_93 : decode cX2_prepare 93 = .ok (.goto (-19), 3) := by decide +kernel
theorem dX2_prepare_96 : decode cX2_prepare 96 = .ok (.iinc 4 1, 3) := by decide +kernel
theorem dX2_prepare_99 : decode cX2_prepare 99 = .ok (.goto (-34), 3) := by decide +kernel
theorem dX2_prepare_102 : decode cX2_prepare 102 = .ok (.iinc 3 1, 3) := by decide +kernel
theorem dX2_prepare_105 : decode cX2_prepare 105 = .ok (.goto (-48), 3) := by decide +kernel
theorem dX2_prepare_108 : decode cX2_prepare 108 = .ok (.iinc 2 1, 3) := by decide +kernel
theorem dX2_prepare_111 : decode cX2_prepare 111 = .ok (.goto (-61), 3) := by decide +kernel
theorem dX2_prepare_114 : decode cX2_prepare 114 = .ok (.aload_n 0, 1) := by decide +kernel
theorem dX2_prepare_115 : decode cX2_prepare 115 = .ok (.iconst 1, 1) := by decide +kernel
theorem dX2_prepare_116 : decode cX2_prepare 116 = .ok (.putfield 24, 3) := by decide +kernel
theorem dX2_prepare_119 : decode cX2_prepare 119 = .ok (.return_, 1) := by decide +kernel
theorem dX2_size_0 : decode cX2_size 0 = .ok (.aload_n 0, 1) := by decide +kernel
theorem dX2_size_1 : decode cX2_size 1 = .ok (.getfield 28, 3) := by decide +kernel
theorem dX2_size_4 : decode cX2_size 4 = .ok (.ireturn, 1) := by decide +kernel
theorem dX2_number_0 : decode cX2_number 0 = .ok (.iload_n 1, 1) := by decide +kernel
theorem dX2_number_1 : decode cX2_number 1 = .ok (.ifCond .lt 24, 3) := by decide +kernel
theorem dX2_number_4 : decode cX2_number 4 = .ok (.iload_n 1, 1) := by decide +kernel
theorem dX2_number_5 : decode cX2_number 5 = .ok (.aload_n 0, 1) := by decide +kernel
theorem dX2_number_6 : decode cX2_number 6 = .ok (.getfield 28, 3) := by decide +kernel
theorem dX2_number_9 : decode cX2_number 9 = .ok (.if_icmp .ge 16, 3) := by decide +kernel
theorem dX2_number_12 : decode cX2_number 12 = .ok (.aload_n 0, 1) := by decide +kernel
theorem dX2_number_13 : decode cX2_number 13 = .ok (.getfield 18, 3) := by decide +kernel
theorem dX2_number_16 : decode cX2_number 16 = .ok (.iload_n 1, 1) := by decide +kernel
theorem dX2_number_17 : decode cX2_number 17 = .ok (.iconst 4, 1) := by decide +kernel
theorem dX2_number_18 : decode cX2_number 18 = .ok (.imul, 1) := by decide +kernel
theorem dX2_number_19 : decode cX2_number 19 = .ok (.iload_n 2, 1) := by decide +kernel
theorem dX2_number_20 : decode cX2_number 20 = .ok (.iadd, 1) := by decide +kernel
theorem dX2_number_21 : decode cX2_number 21 = .ok (.iaload, 1) := by decide +kernel
theorem dX2_number_22 : decode cX2_number 22 = .ok (.goto 4, 3) := by decide +kernel
theorem dX2_number_25 : decode cX2_number 25 = .ok (.iconst (-1), 1) := by decide +kernel
theorem dX2_number_26 : decode cX2_number 26 = .ok (.ireturn, 1) := by decide +kernel
theorem dX2_greatestSum_0 : decode cX2_greatestSum 0 = .ok (.iconst 0, 1) := by decide +kernel
theorem dX2_greatestSum_1 : decode cX2_greatestSum 1 = .ok (.istore_n 1, 1) := by decide +kernel
theorem dX2_greatestSum_2 : decode cX2_greatestSum 2 = .ok (.iconst 0, 1) := by decide +kernel
theorem dX2_greatestSum_3 : decode cX2_greatestSum 3 = .ok (.istore_n 2, 1) := by decide +kernel
theorem dX2_greatestSum_4 : decode cX2_greatestSum 4 = .ok (.iload_n 2, 1) := by decide +kernel
theorem dX2_greatestSum_5 : decode cX2_greatestSum 5 = .ok (.aload_n 0, 1) := by decide +kernel
theorem dX2_greatestSum_6 : decode cX2_greatestSum 6 = .ok (.getfield 28, 3) := by decide +kernel
theorem dX2_greatestSum_9 : decode cX2_greatestSum 9 = .ok (.if_icmp .ge 43, 3) := by decide +kernel
theorem dX2_greatestSum_12 : decode cX2_greatestSum 12 = .ok (.aload_n 0, 1) := by decide +kernel
theorem dX2_greatestSum_13 : decode cX2_greatestSum 13 = .ok (.iload_n 2, 1) := by decide +kernel
theorem dX2_greatestSum_14 : decode cX2_greatestSum 14 = .ok (.iconst 0, 1) := by decide +kernel
theorem dX2_greatestSum_15 : decode cX2_greatestSum 15 = .ok (.invokevirtual 36, 3) := by decide +kernel
theorem dX2_greatestSum_18 : decode cX2_greatestSum 18 = .ok (.aload_n 0, 1) := by decide +kernel
theorem dX2_greatestSum_19 : decode cX2_greatestSum 19 = .ok (.iload_n 2, 1) := by decide +kernel
theorem dX2_greatestSum_20 : decode cX2_greatestSum 20 = .ok (.iconst 1, 1) := by decide +kernel
theorem dX2_greatestSum_21 : decode cX2_greatestSum 21 = .ok (.invokevirtual 36, 3) := by decide +kernel
theorem dX2_greatestSum_24 : decode cX2_greatestSum 24 = .ok (.iadd, 1) := by decide +kernel
theorem dX2_greatestSum_25 : decode cX2_greatestSum 25 = .ok (.aload_n 0, 1) := by decide +kernel
theorem dX2_greatestSum_26 : decode cX2_greatestSum 26 = .ok (.iload_n 2, 1) := by decide +kernel
theorem dX2_greatestSum_27 : decode cX2_greatestSum 27 = .ok (.iconst 2, 1) := by decide +kernel
theorem dX2_greatestSum_28 : decode cX2_greatestSum 28 = .ok (.invokevirtual 36, 3) := by decide +kernel
theorem dX2_greatestSum_31 : decode cX2_greatestSum 31 = .ok (.iadd, 1) := by decide +kernel
theorem dX2_greatestSum_32 : decode cX2_greatestSum 32 = .ok (.aload_n 0, 1) := by decide +kernel
theorem dX2_greatestSum_33 : decode cX2_greatestSum 33 = .ok (.iload_n 2, 1) := by decide +kernel
theorem dX2_greatestSum_34 : decode cX2_greatestSum 34 = .ok (.iconst 3, 1) := by decide +kernel
theorem dX2_greatestSum_35 : decode cX2_greatestSum 35 = .ok (.invokevirtual 36, 3) := by decide +kernel
theorem dX2_greatestSum_38 : decode cX2_greatestSum 38 = .ok (.iadd, 1) := by decide +kernel
theorem dX2_greatestSum_39 : decode cX2_greatestSum 39 = .ok (.istore_n 3, 1) := by decide +kernel
theorem dX2_greatestSum_40 : decode cX2_greatestSum 40 = .ok (.iload_n 1, 1) := by decide +kernel
theorem dX2_greatestSum_41 : decode cX2_greatestSum 41 = .ok (.iload_n 3, 1) := by decide +kernel
theorem dX2_greatestSum_42 : decode cX2_greatestSum 42 = .ok (.invokestatic 40, 3) := by decide +kernel
theorem dX2_greatestSum_45 : decode cX2_greatestSum 45 = .ok (.istore_n 1, 1) := by decide +kernel
theorem dX2_greatestSum_46 : decode cX2_greatestSum 46 = .ok (.iinc 2 1, 3) := by decide +kernel
theorem dX2_greatestSum_49 : decode cX2_greatestSum 49 = .ok (.goto (-45), 3) := by decide +kernel
theorem dX2_greatestSum_52 : decode cX2_greatestSum 52 = .ok (.iload_n 1, 1) := by decide +kernel
theorem dX2_greatestSum_53 : decode cX2_greatestSum 53 = .ok (.ireturn, 1) := by decide +kernel
theorem dX2_setRow_0 : decode cX2_setRow 0 = .ok (.aload_n 0, 1) := by decide +kernel
theorem dX2_setRow_1 : decode cX2_setRow 1 = .ok (.getfield 15, 3) := by decide +kernel
theorem dX2_setRow_4 : decode cX2_setRow 4 = .ok (.iconst 0, 1) := by decide +kernel
theorem dX2_setRow_5 : decode cX2_setRow 5 = .ok (.iload_n 1, 1) := by decide +kernel
theorem dX2_setRow_6 : decode cX2_setRow 6 = .ok (.iastore, 1) := by decide +kernel
theorem dX2_setRow_7 : decode cX2_setRow 7 = .ok (.aload_n 0, 1) := by decide +kernel
theorem dX2_setRow_8 : decode cX2_setRow 8 = .ok (.getfield 15, 3) := by decide +kernel
theorem dX2_setRow_11 : decode cX2_setRow 11 = .ok (.iconst 1, 1) := by decide +kernel
theorem dX2_setRow_12 : decode cX2_setRow 12 = .ok (.iload_n 2, 1) := by decide +kernel
theorem dX2_setRow_13 : decode cX2_setRow 13 = .ok (.iastore, 1) := by decide +kernel
theorem dX2_setRow_14 : decode cX2_setRow 14 = .ok (.aload_n 0, 1) := by decide +kernel
theorem dX2_setRow_15 : decode cX2_setRow 15 = .ok (.getfield 15, 3) := by decide +kernel
theorem dX2_setRow_18 : decode cX2_setRow 18 = .ok (.iconst 2, 1) := by decide +kernel
theorem dX2_setRow_19 : decode cX2_setRow 19 = .ok (.iload_n 3, 1) := by decide +kernel
theorem dX2_setRow_20 : decode cX2_setRow 20 = .ok (.iastore, 1) := by decide +kernel
theorem dX2_setRow_21 : decode cX2_setRow 21 = .ok (.aload_n 0, 1) := by decide +kernel
theorem dX2_setRow_22 : decode cX2_setRow 22 = .ok (.getfield 15, 3) := by decide +kernel
theorem dX2_setRow_25 : decode cX2_setRow 25 = .ok (.iconst 3, 1) := by decide +kernel
theorem dX2_setRow_26 : decode cX2_setRow 26 = .ok (.iload 4, 2) := by decide +kernel
theorem dX2_setRow_28 : decode cX2_setRow 28 = .ok (.iastore, 1) := by decide +kernel
theorem dX2_setRow_29 : decode cX2_setRow 29 = .ok (.return_, 1) := by decide +kernel
theorem dX2_solves_0 : decode cX2_solves 0 = .ok (.aload_n 0, 1) := by decide +kernel
theorem dX2_solves_1 : decode cX2_solves 1 = .ok (.getfield 9, 3) := by decide +kernel
theorem dX2_solves_4 : decode cX2_solves 4 = .ok (.iconst 0, 1) := by decide +kernel
theorem dX2_solves_5 : decode cX2_solves 5 = .ok (.iaload, 1) := by decide +kernel
theorem dX2_solves_6 : decode cX2_solves 6 = .ok (.iload_n 1, 1) := by decide +kernel
theorem dX2_solves_7 : decode cX2_solves 7 = .ok (.imul, 1) := by decide +kernel
theorem dX2_solves_8 : decode cX2_solves 8 = .ok (.aload_n 0, 1) := by decide +kernel
theorem dX2_solves_9 : decode cX2_solves 9 = .ok (.getfield 9, 3) := by decide +kernel
theorem dX2_solves_12 : decode cX2_solves 12 = .ok (.iconst 1, 1) := by decide +kernel
theorem dX2_solves_13 : decode cX2_solves 13 = .ok (.iaload, 1) := by decide +kernel
theorem dX2_solves_14 : decode cX2_solves 14 = .ok (.iload_n 2, 1) := by decide +kernel
theorem dX2_solves_15 : decode cX2_solves 15 = .ok (.imul, 1) := by decide +kernel
theorem dX2_solves_16 : decode cX2_solves 16 = .ok (.iadd, 1) := by decide +kernel
theorem dX2_solves_17 : decode cX2_solves 17 = .ok (.aload_n 0, 1) := by decide +kernel
theorem dX2_solves_18 : decode cX2_solves 18 = .ok (.getfield 9, 3) := by decide +kernel
theorem dX2_solves_21 : decode cX2_solves 21 = .ok (.iconst 2, 1) := by decide +kernel
theorem dX2_solves_22 : decode cX2_solves 22 = .ok (.iaload, 1) := by decide +kernel
theorem dX2_solves_23 : decode cX2_solves 23 = .ok (.iload_n 3, 1) := by decide +kernel
theorem dX2_solves_24 : decode cX2_solves 24 = .ok (.imul, 1) := by decide +kernel
theorem dX2_solves_25 : decode cX2_solves 25 = .ok (.iadd, 1) := by decide +kernel
theorem dX2_solves_26 : decode cX2_solves 26 = .ok (.aload_n 0, 1) := by decide +kernel
theorem dX2_solves_27 : decode cX2_solves 27 = .ok (.getfield 9, 3) := by decide +kernel
theorem dX2_solves_30 : decode cX2_solves 30 = .ok (.iconst 3, 1) := by decide +kernel
theorem dX2_solves_31 : decode cX2_solves 31 = .ok (.iaload, 1) := by decide +kernel
theorem dX2_solves_32 : decode cX2_solves 32 = .ok (.iload 4, 2) := by decide +kernel
theorem dX2_solves_34 : decode cX2_solves 34 = .ok (.imul, 1) := by decide +kernel
theorem dX2_solves_35 : decode cX2_solves 35 = .ok (.iadd, 1) := by decide +kernel
theorem dX2_solves_36 : decode cX2_solves 36 = .ok (.ifCond .ne 7, 3) := by decide +kernel
theorem dX2_solves_39 : decode cX2_solves 39 = .ok (.iconst 1, 1) := by decide +kernel
theorem dX2_solves_40 : decode cX2_solves 40 = .ok (.goto 4, 3) := by decide +kernel
theorem dX2_solves_43 : decode cX2_solves 43 = .ok (.iconst 0, 1) := by decide +kernel
theorem dX2_solves_44 : decode cX2_solves 44 = .ok (.ireturn, 1) := by decide +kernel
theorem dX2_look_0 : decode cX2_look 0 = .ok (.aload_n 0, 1) := by decide +kernel
theorem dX2_look_1 : decode cX2_look 1 = .ok (.iload_n 1, 1) := by decide +kernel
theorem dX2_look_2 : decode cX2_look 2 = .ok (.iload_n 2, 1) := by decide +kernel
theorem dX2_look_3 : decode cX2_look 3 = .ok (.iload_n 3, 1) := by decide +kernel
theorem dX2_look_4 : decode cX2_look 4 = .ok (.iload 4, 2) := by decide +kernel
theorem dX2_look_6 : decode cX2_look 6 = .ok (.invokevirtual 45, 3) := by decide +kernel
theorem dX2_look_9 : decode cX2_look 9 = .ok (.ifCond .eq 14, 3) := by decide +kernel
theorem dX2_look_12 : decode cX2_look 12 = .ok (.iload_n 1, 1) := by decide +kernel
theorem dX2_look_13 : decode cX2_look 13 = .ok (.iload_n 2, 1) := by decide +kernel
theorem dX2_look_14 : decode cX2_look 14 = .ok (.iadd, 1) := by decide +kernel
theorem dX2_look_15 : decode cX2_look 15 = .ok (.iload_n 3, 1) := by decide +kernel
theorem dX2_look_16 : decode cX2_look 16 = .ok (.iadd, 1) := by decide +kernel
theorem dX2_look_17 : decode cX2_look 17 = .ok (.iload 4, 2) := by decide +kernel
theorem dX2_look_19 : decode cX2_look 19 = .ok (.iadd, 1) := by decide +kernel
theorem dX2_look_20 : decode cX2_look 20 = .ok (.ifCond .ne 4, 3) := by decide +kernel
theorem dX2_look_23 : decode cX2_look 23 = .ok (.return_, 1) := by decide +kernel
theorem dX2_look_24 : decode cX2_look 24 = .ok (.aload_n 0, 1) := by decide +kernel
theorem dX2_look_25 : decode cX2_look 25 = .ok (.iload_n 1, 1) := by decide +kernel
theorem dX2_look_26 : decode cX2_look 26 = .ok (.iload_n 2, 1) := by decide +kernel
theorem dX2_look_27 : decode cX2_look 27 = .ok (.iload_n 3, 1) := by decide +kernel
theorem dX2_look_28 : decode cX2_look 28 = .ok (.iload 4, 2) := by decide +kernel
theorem dX2_look_30 : decode cX2_look 30 = .ok (.invokevirtual 49, 3) := by decide +kernel
theorem dX2_look_33 : decode cX2_look 33 = .ok (.iconst 0, 1) := by decide +kernel
theorem dX2_look_34 : decode cX2_look 34 = .ok (.istore 5, 2) := by decide +kernel
theorem dX2_look_36 : decode cX2_look 36 = .ok (.iload 5, 2) := by decide +kernel
theorem dX2_look_38 : decode cX2_look 38 = .ok (.aload_n 0, 1) := by decide +kernel
theorem dX2_look_39 : decode cX2_look 39 = .ok (.getfield 28, 3) := by decide +kernel
theorem dX2_look_42 : decode cX2_look 42 = .ok (.if_icmp .ge 19, 3) := by decide +kernel
theorem dX2_look_45 : decode cX2_look 45 = .ok (.aload_n 0, 1) := by decide +kernel
theorem dX2_look_46 : decode cX2_look 46 = .ok (.iload 5, 2) := by decide +kernel
theorem dX2_look_48 : decode cX2_look 48 = .ok (.invokevirtual 52, 3) := by decide +kernel
theorem dX2_look_51 : decode cX2_look 51 = .ok (.ifCond .eq 4, 3) := by decide +kernel
theorem dX2_look_54 : decode cX2_look 54 = .ok (.return_, 1) := by decide +kernel
theorem dX2_look_55 : decode cX2_look 55 = .ok (.iinc 5 1, 3) := by decide +kernel
theorem dX2_look_58 : decode cX2_look 58 = .ok (.goto (-22), 3) := by decide +kernel
theorem dX2_look_61 : decode cX2_look 61 = .ok (.aload_n 0, 1) := by decide +kernel
theorem dX2_look_62 : decode cX2_look 62 = .ok (.getfield 28, 3) := by decide +kernel
theorem dX2_look_65 : decode cX2_look 65 = .ok (.bipush 30, 2) := by decide +kernel
theorem dX2_look_67 : decode cX2_look 67 = .ok (.if_icmp .ge 32, 3) := by decide +kernel
theorem dX2_look_70 : decode cX2_look 70 = .ok (.aload_n 0, 1) := by decide +kernel
theorem dX2_look_71 : decode cX2_look 71 = .ok (.getfield 15, 3) := by decide +kernel
theorem dX2_look_74 : decode cX2_look 74 = .ok (.iconst 0, 1) := by decide +kernel
theorem dX2_look_75 : decode cX2_look 75 = .ok (.aload_n 0, 1) := by decide +kernel
theorem dX2_look_76 : decode cX2_look 76 = .ok (.getfield 18, 3) := by decide +kernel
theorem dX2_look_79 : decode cX2_look 79 = .ok (.aload_n 0, 1) := by decide +kernel
theorem dX2_look_80 : decode cX2_look 80 = .ok (.getfield 28, 3) := by decide +kernel
theorem dX2_look_83 : decode cX2_look 83 = .ok (.iconst 4, 1) := by decide +kernel
theorem dX2_look_84 : decode cX2_look 84 = .ok (.imul, 1) := by decide +kernel
theorem dX2_look_85 : decode cX2_look 85 = .ok (.iconst 4, 1) := by decide +kernel
theorem dX2_look_86 : decode cX2_look 86 = .ok (.invokestatic 59, 3) := by decide +kernel
theorem dX2_look_89 : decode cX2_look 89 = .ok (.aload_n 0, 1) := by decide +kernel
theorem dX2_look_90 : decode cX2_look 90 = .ok (.dup, 1) := by decide +kernel
theorem dX2_look_91 : decode cX2_look 91 = .ok (.getfield 28, 3) := by decide +kernel
theorem dX2_look_94 : decode cX2_look 94 = .ok (.iconst 1, 1) := by decide +kernel
theorem dX2_look_95 : decode cX2_look 95 = .ok (.iadd, 1) := by decide +kernel
theorem dX2_look_96 : decode cX2_look 96 = .ok (.putfield 28, 3) := by decide +kernel
theorem dX2_look_99 : decode cX2_look 99 = .ok (.return_, 1) := by decide +kernel
theorem dX2_isAtMostRow_0 : decode cX2_isAtMostRow 0 = .ok (.iconst 0, 1) := by decide +kernel
theorem dX2_isAtMostRow_1 : decode cX2_isAtMostRow 1 = .ok (.istore_n 2, 1) := by decide +kernel
theorem dX2_isAtMostRow_2 : decode cX2_isAtMostRow 2 = .ok (.iload_n 2, 1) := by decide +kernel
theorem dX2_isAtMostRow_3 : decode cX2_isAtMostRow 3 = .ok (.iconst 4, 1) := by decide +kernel
theorem dX2_isAtMostRow_4 : decode cX2_isAtMostRow 4 = .ok (.if_icmp .ge 26, 3) := by decide +kernel
theorem dX2_isAtMostRow_7 : decode cX2_isAtMostRow 7 = .ok (.aload_n 0, 1) := by decide +kernel
theorem dX2_isAtMostRow_8 : decode cX2_isAtMostRow 8 = .ok (.iload_n 1, 1) := by decide +kernel
theorem dX2_isAtMostRow_9 : decode cX2_isAtMostRow 9 = .ok (.iload_n 2, 1) := by decide +kernel
theorem dX2_isAtMostRow_10 : decode cX2_isAtMostRow 10 = .ok (.invokevirtual 36, 3) := by decide +kernel
theorem dX2_isAtMostRow_13 : decode cX2_isAtMostRow 13 = .ok (.aload_n 0, 1) := by decide +kernel
theorem dX2_isAtMostRow_14 : decode cX2_isAtMostRow 14 = .ok (.getfield 15, 3) := by decide +kernel
theorem dX2_isAtMostRow_17 : decode cX2_isAtMostRow 17 = .ok (.iload_n 2, 1) := by decide +kernel
theorem dX2_isAtMostRow_18 : decode cX2_isAtMostRow 18 = .ok (.iaload, 1) := by decide +kernel
theorem dX2_isAtMostRow_19 : decode cX2_isAtMostRow 19 = .ok (.if_icmp .le 5, 3) := by decide +kernel
theorem dX2_isAtMostRow_22 : decode cX2_isAtMostRow 22 = .ok (.iconst 0, 1) := by decide +kernel
theorem dX2_isAtMostRow_23 : decode cX2_isAtMostRow 23 = .ok (.ireturn, 1) := by decide +kernel
theorem dX2_isAtMostRow_24 : decode cX2_isAtMostRow 24 = .ok (.iinc 2 1, 3) := by decide +kernel
theorem dX2_isAtMostRow_27 : decode cX2_isAtMostRow 27 = .ok (.goto (-25), 3) := by decide +kernel
theorem dX2_isAtMostRow_30 : decode cX2_isAtMostRow 30 = .ok (.iconst 1, 1) := by decide +kernel
theorem dX2_isAtMostRow_31 : decode cX2_isAtMostRow 31 = .ok (.ireturn, 1) := by decide +kernel
theorem dX3_init_0 : decode cX3_init 0 = .ok (.aload_n 0, 1) := by decide +kernel
theorem dX3_init_1 : decode cX3_init 1 = .ok (.invokespecial 3, 3) := by decide +kernel
theorem dX3_init_4 : decode cX3_init 4 = .ok (.aload_n 0, 1) := by decide +kernel
theorem dX3_init_5 : decode cX3_init 5 = .ok (.bipush 60, 2) := by decide +kernel
theorem dX3_init_7 : decode cX3_init 7 = .ok (.newarray .int, 2) := by decide +kernel
theorem dX3_init_9 : decode cX3_init 9 = .ok (.putfield 11, 3) := by decide +kernel
theorem dX3_init_12 : decode cX3_init 12 = .ok (.return_, 1) := by decide +kernel
theorem dX4_init_0 : decode cX4_init 0 = .ok (.aload_n 0, 1) := by decide +kernel
theorem dX4_init_1 : decode cX4_init 1 = .ok (.invokespecial 3, 3) := by decide +kernel
theorem dX4_init_4 : decode cX4_init 4 = .ok (.aload_n 0, 1) := by decide +kernel
theorem dX4_init_5 : decode cX4_init 5 = .ok (.bipush 26, 2) := by decide +kernel
theorem dX4_init_7 : decode cX4_init 7 = .ok (.newarray .int, 2) := by decide +kernel
theorem dX4_init_9 : decode cX4_init 9 = .ok (.putfield 9, 3) := by decide +kernel
theorem dX4_init_12 : decode cX4_init 12 = .ok (.aload_n 0, 1) := by decide +kernel
theorem dX4_init_13 : decode cX4_init 13 = .ok (.bipush 8, 2) := by decide +kernel
theorem dX4_init_15 : decode cX4_init 15 = .ok (.newarray .int, 2) := by decide +kernel
theorem dX4_init_17 : decode cX4_init 17 = .ok (.putfield 13, 3) := by decide +kernel
theorem dX4_init_20 : decode cX4_init 20 = .ok (.aload_n 0, 1) := by decide +kernel
theorem dX4_init_21 : decode cX4_init 21 = .ok (.iconst 2, 1) := by decide +kernel
theorem dX4_init_22 : decode cX4_init 22 = .ok (.bipush 24, 2) := by decide +kernel
theorem dX4_init_24 : decode cX4_init 24 = .ok (.multianewarray 16 2, 4) := by decide +kernel
theorem dX4_init_28 : decode cX4_init 28 = .ok (.putfield 18, 3) := by decide +kernel
theorem dX4_init_31 : decode cX4_init 31 = .ok (.aload_n 0, 1) := by decide +kernel
theorem dX4_init_32 : decode cX4_init 32 = .ok (.iconst 2, 1) := by decide +kernel
theorem dX4_init_33 : decode cX4_init 33 = .ok (.newarray .boolean, 2) := by decide +kernel
theorem dX4_init_35 : decode cX4_init 35 = .ok (.putfield 21, 3) := by decide +kernel
theorem dX4_init_38 : decode cX4_init 38 = .ok (.aload_n 0, 1) := by decide +kernel
theorem dX4_init_39 : decode cX4_init 39 = .ok (.new 25, 3) := by decide +kernel
theorem dX4_init_42 : decode cX4_init 42 = .ok (.dup, 1) := by decide +kernel
theorem dX4_init_43 : decode cX4_init 43 = .ok (.invokespecial 27, 3) := by decide +kernel
theorem dX4_init_46 : decode cX4_init 46 = .ok (.putfield 28, 3) := by decide +kernel
theorem dX4_init_49 : decode cX4_init 49 = .ok (.aload_n 0, 1) := by decide +kernel
theorem dX4_init_50 : decode cX4_init 50 = .ok (.new 32, 3) := by decide +kernel
theorem dX4_init_53 : decode cX4_init 53 = .ok (.dup, 1) := by decide +kernel
theorem dX4_init_54 : decode cX4_init 54 = .ok (.invokespecial 34, 3) := by decide +kernel
theorem dX4_init_57 : decode cX4_init 57 = .ok (.putfield 35, 3) := by decide +kernel
theorem dX4_init_60 : decode cX4_init 60 = .ok (.aload_n 0, 1) := by decide +kernel
theorem dX4_init_61 : decode cX4_init 61 = .ok (.new 39, 3) := by decide +kernel
theorem dX4_init_64 : decode cX4_init 64 = .ok (.dup, 1) := by decide +kernel
theorem dX4_init_65 : decode cX4_init 65 = .ok (.invokespecial 41, 3) := by decide +kernel
theorem dX4_init_68 : decode cX4_init 68 = .ok (.putfield 42, 3) := by decide +kernel
theorem dX4_init_71 : decode cX4_init 71 = .ok (.aload_n 0, 1) := by decide +kernel
theorem dX4_init_72 : decode cX4_init 72 = .ok (.new 46, 3) := by decide +kernel
theorem dX4_init_75 : decode cX4_init 75 = .ok (.dup, 1) := by decide +kernel
theorem dX4_init_76 : decode cX4_init 76 = .ok (.invokespecial 48, 3) := by decide +kernel
theorem dX4_init_79 : decode cX4_init 79 = .ok (.putfield 49, 3) := by decide +kernel
theorem dX4_init_82 : decode cX4_init 82 = .ok (.aload_n 0, 1) := by decide +kernel
theorem dX4_init_83 : decode cX4_init 83 = .ok (.getfield 9, 3) := by decide +kernel
theorem dX4_init_86 : decode cX4_init 86 = .ok (.bipush 24, 2) := by decide +kernel
theorem dX4_init_88 : decode cX4_init 88 = .ok (.iconst 1, 1) := by decide +kernel
theorem dX4_init_89 : decode cX4_init 89 = .ok (.iastore, 1) := by decide +kernel
theorem dX4_init_90 : decode cX4_init 90 = .ok (.aload_n 0, 1) := by decide +kernel
theorem dX4_init_91 : decode cX4_init 91 = .ok (.getfield 9, 3) := by decide +kernel
theorem dX4_init_94 : decode cX4_init 94 = .ok (.bipush 25, 2) := by decide +kernel
theorem dX4_init_96 : decode cX4_init 96 = .ok (.bipush 9, 2) := by decide +kernel
theorem dX4_init_98 : decode cX4_init 98 = .ok (.iastore, 1) := by decide +kernel
theorem dX4_init_99 : decode cX4_init 99 = .ok (.return_, 1) := by decide +kernel
theorem dX4_constant_0 : decode cX4_constant 0 = .ok (.iload_n 1, 1) := by decide +kernel
theorem dX4_constant_1 : decode cX4_constant 1 = .ok (.iconst 3, 1) := by decide +kernel
theorem dX4_constant_2 : decode cX4_constant 2 = .ok (.invokestatic 53, 3) := by decide +kernel
theorem dX4_constant_5 : decode cX4_constant 5 = .ok (.iload_n 2, 1) := by decide +kernel
theorem dX4_constant_6 : decode cX4_constant 6 = .ok (.iconst 4, 1) := by decide +kernel
theorem dX4_constant_7 : decode cX4_constant 7 = .ok (.invokestatic 53, 3) := by decide +kernel
theorem dX4_constant_10 : decode cX4_constant 10 = .ok (.iload_n 3, 1) := by decide +kernel
theorem dX4_constant_11 : decode cX4_constant 11 = .ok (.iconst 0, 1) := by decide +kernel
theorem dX4_constant_12 : decode cX4_constant 12 = .ok (.bipush 9, 2) := by decide +kernel
theorem dX4_constant_14 : decode cX4_constant 14 = .ok (.invokestatic 57, 3) := by decide +kernel
theorem dX4_constant_17 : decode cX4_constant 17 = .ok (.aload_n 0, 1) := by decide +kernel
theorem dX4_constant_18 : decode cX4_constant 18 = .ok (.iload_n 1, 1) := by decide +kernel
theorem dX4_constant_19 : decode cX4_constant 19 = .ok (.bipush 8, 2) := by decide +kernel
theorem dX4_constant_21 : decode cX4_constant 21 = .ok (.imul, 1) := by decide +kernel
theorem dX4_constant_22 : decode cX4_constant 22 = .ok (.iload_n 2, 1) := by decide +kernel
theorem dX4_constant_23 : decode cX4_constant 23 = .ok (.iadd, 1) := by decide +kernel
theorem dX4_constant_24 : decode cX4_constant 24 = .ok (.iload_n 3, 1) := by decide +kernel
theorem dX4_constant_25 : decode cX4_constant 25 = .ok (.invokevirtual 61, 3) := by decide +kernel
theorem dX4_constant_28 : decode cX4_constant 28 = .ok (.ireturn, 1) := by decide +kernel
theorem dX4_variable_0 : decode cX4_variable 0 = .ok (.iload_n 1, 1) := by decide +kernel
theorem dX4_variable_1 : decode cX4_variable 1 = .ok (.iconst 2, 1) := by decide +kernel
theorem dX4_variable_2 : decode cX4_variable 2 = .ok (.invokestatic 53, 3) := by decide +kernel
theorem dX4_variable_5 : decode cX4_variable 5 = .ok (.iload_n 2, 1) := by decide +kernel
theorem dX4_variable_6 : decode cX4_variable 6 = .ok (.iconst 4, 1) := by decide +kernel
theorem dX4_variable_7 : decode cX4_variable 7 = .ok (.invokestatic 53, 3) := by decide +kernel
theorem dX4_variable_10 : decode cX4_variable 10 = .ok (.iload_n 3, 1) := by decide +kernel
theorem dX4_variable_11 : decode cX4_variable 11 = .ok (.iconst 0, 1) := by decide +kernel
theorem dX4_variable_12 : decode cX4_variable 12 = .ok (.iconst 5, 1) := by decide +kernel
theorem dX4_variable_13 : decode cX4_variable 13 = .ok (.invokestatic 57, 3) := by decide +kernel
theorem dX4_variable_16 : decode cX4_variable 16 = .ok (.aload_n 0, 1) := by decide +kernel
theorem dX4_variable_17 : decode cX4_variable 17 = .ok (.iload_n 1, 1) := by decide +kernel
theorem dX4_variable_18 : decode cX4_variable 18 = .ok (.bipush 8, 2) := by decide +kernel
theorem dX4_variable_20 : decode cX4_variable 20 = .ok (.imul, 1) := by decide +kernel
theorem dX4_variable_21 : decode cX4_variable 21 = .ok (.iconst 4, 1) := by decide +kernel
theorem dX4_variable_22 : decode cX4_variable 22 = .ok (.iadd, 1) := by decide +kernel
theorem dX4_variable_23 : decode cX4_variable 23 = .ok (.iload_n 2, 1) := by decide +kernel
theorem dX4_variable_24 : decode cX4_variable 24 = .ok (.iadd, 1) := by decide +kernel
theorem dX4_variable_25 : decode cX4_variable 25 = .ok (.iload_n 3, 1) := by decide +kernel
theorem dX4_variable_26 : decode cX4_variable 26 = .ok (.invokevirtual 61, 3) := by decide +kernel
theorem dX4_variable_29 : decode cX4_variable 29 = .ok (.ireturn, 1) := by decide +kernel
theorem dX4_multiply_0 : decode cX4_multiply 0 = .ok (.iload_n 1, 1) := by decide +kernel
theorem dX4_multiply_1 : decode cX4_multiply 1 = .ok (.iconst 3, 1) := by decide +kernel
theorem dX4_multiply_2 : decode cX4_multiply 2 = .ok (.invokestatic 53, 3) := by decide +kernel
theorem dX4_multiply_5 : decode cX4_multiply 5 = .ok (.iload_n 2, 1) := by decide +kernel
theorem dX4_multiply_6 : decode cX4_multiply 6 = .ok (.iconst 3, 1) := by decide +kernel
theorem dX4_multiply_7 : decode cX4_multiply 7 = .ok (.invokestatic 53, 3) := by decide +kernel
theorem dX4_multiply_10 : decode cX4_multiply 10 = .ok (.iconst 0, 1) := by decide +kernel
theorem dX4_multiply_11 : decode cX4_multiply 11 = .ok (.istore_n 3, 1) := by decide +kernel
theorem dX4_multiply_12 : decode cX4_multiply 12 = .ok (.iload_n 3, 1) := by decide +kernel
theorem dX4_multiply_13 : decode cX4_multiply 13 = .ok (.bipush 8, 2) := by decide +kernel
theorem dX4_multiply_15 : decode cX4_multiply 15 = .ok (.if_icmp .ge 38, 3) := by decide +kernel
theorem dX4_multiply_18 : decode cX4_multiply 18 = .ok (.aload_n 0, 1) := by decide +kernel
theorem dX4_multiply_19 : decode cX4_multiply 19 = .ok (.getfield 13, 3) := by decide +kernel
theorem dX4_multiply_22 : decode cX4_multiply 22 = .ok (.iload_n 3, 1) := by decide +kernel
theorem dX4_multiply_23 : decode cX4_multiply 23 = .ok (.aload_n 0, 1) := by decide +kernel
theorem dX4_multiply_24 : decode cX4_multiply 24 = .ok (.getfield 9, 3) := by decide +kernel
theorem dX4_multiply_27 : decode cX4_multiply 27 = .ok (.iload_n 1, 1) := by decide +kernel
theorem dX4_multiply_28 : decode cX4_multiply 28 = .ok (.bipush 8, 2) := by decide +kernel
theorem dX4_multiply_30 : decode cX4_multiply 30 = .ok (.imul, 1) := by decide +kernel
theorem dX4_multiply_31 : decode cX4_multiply 31 = .ok (.iload_n 3, 1) := by decide +kernel
theorem dX4_multiply_32 : decode cX4_multiply 32 = .ok (.iadd, 1) := by decide +kernel
theorem dX4_multiply_33 : decode cX4_multiply 33 = .ok (.iaload, 1) := by decide +kernel
theorem dX4_multiply_34 : decode cX4_multiply 34 = .ok (.aload_n 0, 1) := by decide +kernel
theorem dX4_multiply_35 : decode cX4_multiply 35 = .ok (.getfield 9, 3) := by decide +kernel
theorem dX4_multiply_38 : decode cX4_multiply 38 = .ok (.iload_n 2, 1) := by decide +kernel
theorem dX4_multiply_39 : decode cX4_multiply 39 = .ok (.bipush 8, 2) := by decide +kernel
theorem dX4_multiply_41 : decode cX4_multiply 41 = .ok (.imul, 1) := by decide +kernel
theorem dX4_multiply_42 : decode cX4_multiply 42 = .ok (.iload_n 3, 1) := by decide +kernel
theorem dX4_multiply_43 : decode cX4_multiply 43 = .ok (.iadd, 1) := by decide +kernel
theorem dX4_multiply_44 : decode cX4_multiply 44 = .ok (.iaload, 1) := by decide +kernel
theorem dX4_multiply_45 : decode cX4_multiply 45 = .ok (.iadd, 1) := by decide +kernel
theorem dX4_multiply_46 : decode cX4_multiply 46 = .ok (.iastore, 1) := by decide +kernel
theorem dX4_multiply_47 : decode cX4_multiply 47 = .ok (.iinc 3 1, 3) := by decide +kernel
theorem dX4_multiply_50 : decode cX4_multiply 50 = .ok (.goto (-38), 3) := by decide +kernel
theorem dX4_multiply_53 : decode cX4_multiply 53 = .ok (.aload_n 0, 1) := by decide +kernel
theorem dX4_multiply_54 : decode cX4_multiply 54 = .ok (.iload_n 1, 1) := by decide +kernel
theorem dX4_multiply_55 : decode cX4_multiply 55 = .ok (.invokevirtual 65, 3) := by decide +kernel
theorem dX4_multiply_58 : decode cX4_multiply 58 = .ok (.ireturn, 1) := by decide +kernel
theorem dX4_cancel_0 : decode cX4_cancel 0 = .ok (.iload_n 1, 1) := by decide +kernel
theorem dX4_cancel_1 : decode cX4_cancel 1 = .ok (.iconst 3, 1) := by decide +kernel
theorem dX4_cancel_2 : decode cX4_cancel 2 = .ok (.invokestatic 53, 3) := by decide +kernel
theorem dX4_cancel_5 : decode cX4_cancel 5 = .ok (.iload_n 2, 1) := by decide +kernel
theorem dX4_cancel_6 : decode cX4_cancel 6 = .ok (.iconst 3, 1) := by decide +kernel
theorem dX4_cancel_7 : decode cX4_cancel 7 = .ok (.invokestatic 53, 3) := by decide +kernel
theorem dX4_cancel_10 : decode cX4_cancel 10 = .ok (.aload_n 0, 1) := by decide +kernel
theorem dX4_cancel_11 : decode cX4_cancel 11 = .ok (.invokevirtual 87, 3) := by decide +kernel
theorem dX4_cancel_14 : decode cX4_cancel 14 = .ok (.iconst 0, 1) := by decide +kernel
theorem dX4_cancel_15 : decode cX4_cancel 15 = .ok (.istore_n 3, 1) := by decide +kernel
theorem dX4_cancel_16 : decode cX4_cancel 16 = .ok (.iconst 0, 1) := by decide +kernel
theorem dX4_cancel_17 : decode cX4_cancel 17 = .ok (.istore 4, 2) := by decide +kernel
theorem dX4_cancel_19 : decode cX4_cancel 19 = .ok (.iload 4, 2) := by decide +kernel
theorem dX4_cancel_21 : decode cX4_cancel 21 = .ok (.bipush 8, 2) := by decide +kernel
theorem dX4_cancel_23 : decode cX4_cancel 23 = .ok (.if_icmp .ge 85, 3) := by decide +kernel
theorem dX4_cancel_26 : decode cX4_cancel 26 = .ok (.aload_n 0, 1) := by decide +kernel
theorem dX4_cancel_27 : decode cX4_cancel 27 = .ok (.getfield 9, 3) := by decide +kernel
theorem dX4_cancel_30 : decode cX4_cancel 30 = .ok (.iload_n 1, 1) := by decide +kernel
theorem dX4_cancel_31 : decode cX4_cancel 31 = .ok (.bipush 8, 2) := by decide +kernel
theorem dX4_cancel_33 : decode cX4_cancel 33 = .ok (.imul, 1) := by decide +kernel
theorem dX4_cancel_34 : decode cX4_cancel 34 = .ok (.iload 4, 2) := by decide +kernel
theorem dX4_cancel_36 : decode cX4_cancel 36 = .ok (.iadd, 1) := by decide +kernel
theorem dX4_cancel_37 : decode cX4_cancel 37 = .ok (.iaload, 1) := by decide +kernel
theorem dX4_cancel_38 : decode cX4_cancel 38 = .ok (.istore 5, 2) := by decide +kernel
theorem dX4_cancel_40 : decode cX4_cancel 40 = .ok (.aload_n 0, 1) := by decide +kernel
theorem dX4_cancel_41 : decode cX4_cancel 41 = .ok (.getfield 9, 3) := by decide +kernel
theorem dX4_cancel_44 : decode cX4_cancel 44 = .ok (.iload_n 2, 1) := by decide +kernel
theorem dX4_cancel_45 : decode cX4_cancel 45 = .ok (.bipush 8, 2) := by decide +kernel
theorem dX4_cancel_47 : decode cX4_cancel 47 = .ok (.imul, 1) := by decide +kernel
theorem dX4_cancel_48 : decode cX4_cancel 48 = .ok (.iload 4, 2) := by decide +kernel
theorem dX4_cancel_50 : decode cX4_cancel 50 = .ok (.iadd, 1) := by decide +kernel
theorem dX4_cancel_51 : decode cX4_cancel 51 = .ok (.iaload, 1) := by decide +kernel
theorem dX4_cancel_52 : decode cX4_cancel 52 = .ok (.istore 6, 2) := by decide +kernel
theorem dX4_cancel_54 : decode cX4_cancel 54 = .ok (.iload 5, 2) := by decide +kernel
theorem dX4_cancel_56 : decode cX4_cancel 56 = .ok (.iload 6, 2) := by decide +kernel
theorem dX4_cancel_58 : decode cX4_cancel 58 = .ok (.invokestatic 90, 3) := by decide +kernel
theorem dX4_cancel_61 : decode cX4_cancel 61 = .ok (.istore 7, 2) := by decide +kernel
theorem dX4_cancel_63 : decode cX4_cancel 63 = .ok (.aload_n 0, 1) := by decide +kernel
theorem dX4_cancel_64 : decode cX4_cancel 64 = .ok (.getfield 9, 3) := by decide +kernel
theorem dX4_cancel_67 : decode cX4_cancel 67 = .ok (.iload_n 1, 1) := by decide +kernel
theorem dX4_cancel_68 : decode cX4_cancel 68 = .ok (.bipush 8, 2) := by decide +kernel
theorem dX4_cancel_70 : decode cX4_cancel 70 = .ok (.imul, 1) := by decide +kernel
theorem dX4_cancel_71 : decode cX4_cancel 71 = .ok (.iload 4, 2) := by decide +kernel
theorem dX4_cancel_73 : decode cX4_cancel 73 = .ok (.iadd, 1) := by decide +kernel
theorem dX4_cancel_74 : decode cX4_cancel 74 = .ok (.iload 5, 2) := by decide +kernel
theorem dX4_cancel_76 : decode cX4_cancel 76 = .ok (.iload 7, 2) := by decide +kernel
theorem dX4_cancel_78 : decode cX4_cancel 78 = .ok (.isub, 1) := by decide +kernel
theorem dX4_cancel_79 : decode cX4_cancel 79 = .ok (.iastore, 1) := by decide +kernel
theorem dX4_cancel_80 : decode cX4_cancel 80 = .ok (.aload_n 0, 1) := by decide +kernel
theorem dX4_cancel_81 : decode cX4_cancel 81 = .ok (.getfield 9, 3) := by decide +kernel
theorem dX4_cancel_84 : decode cX4_cancel 84 = .ok (.iload_n 2, 1) := by decide +kernel
theorem dX4_cancel_85 : decode cX4_cancel 85 = .ok (.bipush 8, 2) := by decide +kernel
theorem dX4_cancel_87 : decode cX4_cancel 87 = .ok (.imul, 1) := by decide +kernel
theorem dX4_cancel_88 : decode cX4_cancel 88 = .ok (.iload 4, 2) := by decide +kernel
theorem dX4_cancel_90 : decode cX4_cancel 90 = .ok (.iadd, 1) := by decide +kernel
theorem dX4_cancel_91 : decode cX4_cancel 91 = .ok (.iload 6, 2) := by decide +kernel
theorem dX4_cancel_93 : decode cX4_cancel 93 = .ok (.iload 7, 2) := by decide +kernel
theorem dX4_cancel_95 : decode cX4_cancel 95 = .ok (.isub, 1) := by decide +kernel
theorem dX4_cancel_96 : decode cX4_cancel 96 = .ok (.iastore, 1) := by decide +kernel
theorem dX4_cancel_97 : decode cX4_cancel 97 = .ok (.iload_n 3, 1) := by decide +kernel
theorem dX4_cancel_98 : decode cX4_cancel 98 = .ok (.iload 7, 2) := by decide +kernel
theorem dX4_cancel_100 : decode cX4_cancel 100 = .ok (.iadd, 1) := by decide +kernel
theorem dX4_cancel_101 : decode cX4_cancel 101 = .ok (.istore_n 3, 1) := by decide +kernel
theorem dX4_cancel_102 : decode cX4_cancel 102 = .ok (.iinc 4 1, 3) := by decide +kernel
theorem dX4_cancel_105 : decode cX4_cancel 105 = .ok (.goto (-86), 3) := by decide +kernel
theorem dX4_cancel_108 : decode cX4_cancel 108 = .ok (.iload_n 3, 1) := by decide +kernel
theorem dX4_cancel_109 : decode cX4_cancel 109 = .ok (.ireturn, 1) := by decide +kernel
theorem dX4_set_0 : decode cX4_set 0 = .ok (.iload_n 1, 1) := by decide +kernel
theorem dX4_set_1 : decode cX4_set 1 = .ok (.iconst 2, 1) := by decide +kernel
theorem dX4_set_2 : decode cX4_set 2 = .ok (.invokestatic 53, 3) := by decide +kernel
theorem dX4_set_5 : decode cX4_set 5 = .ok (.iload_n 2, 1) := by decide +kernel
theorem dX4_set_6 : decode cX4_set 6 = .ok (.iconst 0, 1) := by decide +kernel
theorem dX4_set_7 : decode cX4_set 7 = .ok (.iload_n 1, 1) := by decide +kernel
theorem dX4_set_8 : decode cX4_set 8 = .ok (.ifCond .ne 7, 3) := by decide +kernel
theorem dX4_set_11 : decode cX4_set 11 = .ok (.iconst 1, 1) := by decide +kernel
theorem dX4_set_12 : decode cX4_set 12 = .ok (.goto 5, 3) := by decide +kernel
theorem dX4_set_15 : decode cX4_set 15 = .ok (.bipush 9, 2) := by decide +kernel
theorem dX4_set_17 : decode cX4_set 17 = .ok (.invokestatic 57, 3) := by decide +kernel
theorem dX4_set_20 : decode cX4_set 20 = .ok (.aload_n 0, 1) := by decide +kernel
theorem dX4_set_21 : decode cX4_set 21 = .ok (.bipush 24, 2) := by decide +kernel
theorem dX4_set_23 : decode cX4_set 23 = .ok (.iload_n 1, 1) := by decide +kernel
theorem dX4_set_24 : decode cX4_set 24 = .ok (.iadd, 1) := by decide +kernel
theorem dX4_set_25 : decode cX4_set 25 = .ok (.iload_n 2, 1) := by decide +kernel
theorem dX4_set_26 : decode cX4_set 26 = .ok (.invokevirtual 61, 3) := by decide +kernel
theorem dX4_set_29 : decode cX4_set 29 = .ok (.ireturn, 1) := by decide +kernel
theorem dX4_times_0 : decode cX4_times 0 = .ok (.iload_n 1, 1) := by decide +kernel
theorem dX4_times_1 : decode cX4_times 1 = .ok (.iconst 3, 1) := by decide +kernel
theorem dX4_times_2 : decode cX4_times 2 = .ok (.invokestatic 53, 3) := by decide +kernel
theorem dX4_times_5 : decode cX4_times 5 = .ok (.iload_n 2, 1) := by decide +kernel
theorem dX4_times_6 : decode cX4_times 6 = .ok (.bipush 8, 2) := by decide +kernel
theorem dX4_times_8 : decode cX4_times 8 = .ok (.invokestatic 53, 3) := by decide +kernel
theorem dX4_times_11 : decode cX4_times 11 = .ok (.aload_n 0, 1) := by decide +kernel
theorem dX4_times_12 : decode cX4_times 12 = .ok (.getfield 9, 3) := by decide +kernel
theorem dX4_times_15 : decode cX4_times 15 = .ok (.iload_n 1, 1) := by decide +kernel
theorem dX4_times_16 : decode cX4_times 16 = .ok (.bipush 8, 2) := by decide +kernel
theorem dX4_times_18 : decode cX4_times 18 = .ok (.imul, 1) := by decide +kernel
theorem dX4_times_19 : decode cX4_times 19 = .ok (.iload_n 2, 1) := by decide +kernel
theorem dX4_times_20 : decode cX4_times 20 = .ok (.iadd, 1) := by decide +kernel
theorem dX4_times_21 : decode cX4_times 21 = .ok (.iaload, 1) := by decide +kernel
theorem dX4_times_22 : decode cX4_times 22 = .ok (.ireturn, 1) := by decide +kernel
theorem dX4_rest_0 : decode cX4_rest 0 = .ok (.iload_n 1, 1) := by decide +kernel
theorem dX4_rest_1 : decode cX4_rest 1 = .ok (.iconst 4, 1) := by decide +kernel
theorem dX4_rest_2 : decode cX4_rest 2 = .ok (.invokestatic 53, 3) := by decide +kernel
theorem dX4_rest_5 : decode cX4_rest 5 = .ok (.aload_n 0, 1) := by decide +kernel
theorem dX4_rest_6 : decode cX4_rest 6 = .ok (.iload_n 1, 1) := by decide +kernel
theorem dX4_rest_7 : decode cX4_rest 7 = .ok (.invokevirtual 145, 3) := by decide +kernel
theorem dX4_rest_10 : decode cX4_rest 10 = .ok (.ireturn, 1) := by decide +kernel
theorem dX4_solutions_0 : decode cX4_solutions 0 = .ok (.iload_n 1, 1) := by decide +kernel
theorem dX4_solutions_1 : decode cX4_solutions 1 = .ok (.iconst 4, 1) := by decide +kernel
theorem dX4_solutions_2 : decode cX4_solutions 2 = .ok (.invokestatic 53, 3) := by decide +kernel
theorem dX4_solutions_5 : decode cX4_solutions 5 = .ok (.aload_n 0, 1) := by decide +kernel
theorem dX4_solutions_6 : decode cX4_solutions 6 = .ok (.getfield 42, 3) := by decide +kernel
theorem dX4_solutions_9 : decode cX4_solutions 9 = .ok (.aload_n 0, 1) := by decide +kernel
theorem dX4_solutions_10 : decode cX4_solutions 10 = .ok (.getfield 9, 3) := by decide +kernel
theorem dX4_solutions_13 : decode cX4_solutions 13 = .ok (.invokevirtual 148, 3) := by decide +kernel
theorem dX4_solutions_16 : decode cX4_solutions 16 = .ok (.aload_n 0, 1) := by decide +kernel
theorem dX4_solutions_17 : decode cX4_solutions 17 = .ok (.getfield 42, 3) := by decide +kernel
theorem dX4_solutions_20 : decode cX4_solutions 20 = .ok (.iload_n 1, 1) := by decide +kernel
theorem dX4_solutions_21 : decode cX4_solutions 21 = .ok (.invokevirtual 151, 3) := by decide +kernel
theorem dX4_solutions_24 : decode cX4_solutions 24 = .ok (.ireturn, 1) := by decide +kernel
theorem dX4_matchers_0 : decode cX4_matchers 0 = .ok (.iload_n 1, 1) := by decide +kernel
theorem dX4_matchers_1 : decode cX4_matchers 1 = .ok (.iconst 0, 1) := by decide +kernel
theorem dX4_matchers_2 : decode cX4_matchers 2 = .ok (.iconst 1, 1) := by decide +kernel
theorem dX4_matchers_3 : decode cX4_matchers 3 = .ok (.invokestatic 57, 3) := by decide +kernel
theorem dX4_matchers_6 : decode cX4_matchers 6 = .ok (.aload_n 0, 1) := by decide +kernel
theorem dX4_matchers_7 : decode cX4_matchers 7 = .ok (.getfield 42, 3) := by decide +kernel
theorem dX4_matchers_10 : decode cX4_matchers 10 = .ok (.aload_n 0, 1) := by decide +kernel
theorem dX4_matchers_11 : decode cX4_matchers 11 = .ok (.getfield 9, 3) := by decide +kernel
theorem dX4_matchers_14 : decode cX4_matchers 14 = .ok (.invokevirtual 148, 3) := by decide +kernel
theorem dX4_matchers_17 : decode cX4_matchers 17 = .ok (.iload_n 1, 1) := by decide +kernel
theorem dX4_matchers_18 : decode cX4_matchers 18 = .ok (.ifCond .ne 13, 3) := by decide +kernel
theorem dX4_matchers_21 : decode cX4_matchers 21 = .ok (.aload_n 0, 1) := by decide +kernel
theorem dX4_matchers_22 : decode cX4_matchers 22 = .ok (.getfield 42, 3) := by decide +kernel
theorem dX4_matchers_25 : decode cX4_matchers 25 = .ok (.invokevirtual 154, 3) := by decide +kernel
theorem dX4_matchers_28 : decode cX4_matchers 28 = .ok (.goto 10, 3) := by decide +kernel
theorem dX4_matchers_31 : decode cX4_matchers 31 = .ok (.aload_n 0, 1) := by decide +kernel
theorem dX4_matchers_32 : decode cX4_matchers 32 = .ok (.getfield 42, 3) := by decide +kernel
theorem dX4_matchers_35 : decode cX4_matchers 35 = .ok (.invokevirtual 158, 3) := by decide +kernel
theorem dX4_matchers_38 : decode cX4_matchers 38 = .ok (.lreturn, 1) := by decide +kernel
theorem dX4_least_0 : decode cX4_least 0 = .ok (.iload_n 2, 1) := by decide +kernel
theorem dX4_least_1 : decode cX4_least 1 = .ok (.iconst 4, 1) := by decide +kernel
theorem dX4_least_2 : decode cX4_least 2 = .ok (.invokestatic 53, 3) := by decide +kernel
theorem dX4_least_5 : decode cX4_least 5 = .ok (.iload_n 1, 1) := by decide +kernel
theorem dX4_least_6 : decode cX4_least 6 = .ok (.ifCond .ge 13, 3) := by decide +kernel
theorem dX4_least_9 : decode cX4_least 9 = .ok (.new 116, 3) := by decide +kernel
theorem dX4_least_12 : decode cX4_least 12 = .ok (.dup, 1) := by decide +kernel
theorem dX4_least_13 : decode cX4_least 13 = .ok (.ldc 164, 2) := by decide +kernel
theorem dX4_least_15 : decode cX4_least 15 = .ok (.invokespecial 120, 3) := by decide +kernel
theorem dX4_least_18 : decode cX4_least 18 = .ok (.athrow, 1) := by decide +kernel
theorem dX4_least_19 : decode cX4_least 19 = .ok (.aload_n 0, 1) := by decide +kernel
theorem dX4_least_20 : decode cX4_least 20 = .ok (.getfield 49, 3) := by decide +kernel
theorem dX4_least_23 : decode cX4_least 23 = .ok (.aload_n 0, 1) := by decide +kernel
theorem dX4_least_24 : decode cX4_least 24 = .ok (.getfield 9, 3) := by decide +kernel
theorem dX4_least_27 : decode cX4_least 27 = .ok (.invokevirtual 166, 3) := by decide +kernel
theorem dX4_least_30 : decode cX4_least 30 = .ok (.aload_n 0, 1) := by decide +kernel
theorem dX4_least_31 : decode cX4_least 31 = .ok (.getfield 49, 3) := by decide +kernel
theorem dX4_least_34 : decode cX4_least 34 = .ok (.iload_n 1, 1) := by decide +kernel
theorem dX4_least_35 : decode cX4_least 35 = .ok (.iload_n 2, 1) := by decide +kernel
theorem dX4_least_36 : decode cX4_least 36 = .ok (.invokevirtual 167, 3) := by decide +kernel
theorem dX4_least_39 : decode cX4_least 39 = .ok (.ireturn, 1) := by decide +kernel
theorem dX4_count_0 : decode cX4_count 0 = .ok (.iload_n 1, 1) := by decide +kernel
theorem dX4_count_1 : decode cX4_count 1 = .ok (.iconst 0, 1) := by decide +kernel
theorem dX4_count_2 : decode cX4_count 2 = .ok (.bipush 10, 2) := by decide +kernel
theorem dX4_count_4 : decode cX4_count 4 = .ok (.invokestatic 57, 3) := by decide +kernel
theorem dX4_count_7 : decode cX4_count 7 = .ok (.aload_n 0, 1) := by decide +kernel
theorem dX4_count_8 : decode cX4_count 8 = .ok (.getfield 49, 3) := by decide +kernel
theorem dX4_count_11 : decode cX4_count 11 = .ok (.aload_n 0, 1) := by decide +kernel
theorem dX4_count_12 : decode cX4_count 12 = .ok (.getfield 9, 3) := by decide +kernel
theorem dX4_count_15 : decode cX4_count 15 = .ok (.invokevirtual 166, 3) := by decide +kernel
theorem dX4_count_18 : decode cX4_count 18 = .ok (.iload_n 1, 1) := by decide +kernel
theorem dX4_count_19 : decode cX4_count 19 = .ok (.tableswitch 133 0 9 #[53, 53, 53, 59, 64, 72, 80, 85, 98, 103], 53) := by decide +kernel
theorem dX4_count_72 : decode cX4_count 72 = .ok (.aload_n 0, 1) := by decide +kernel
theorem dX4_count_73 : decode cX4_count 73 = .ok (.iload_n 1, 1) := by decide +kernel
theorem dX4_count_74 : decode cX4_count 74 = .ok (.invokevirtual 174, 3) := by decide +kernel
theorem dX4_count_77 : decode cX4_count 77 = .ok (.ireturn, 1) := by decide +kernel
theorem dX4_count_78 : decode cX4_count 78 = .ok (.aload_n 0, 1) := by decide +kernel
theorem dX4_count_79 : decode cX4_count 79 = .ok (.invokevirtual 177, 3) := by decide +kernel
theorem dX4_count_82 : decode cX4_count 82 = .ok (.ireturn, 1) := by decide +kernel
theorem dX4_count_83 : decode cX4_count 83 = .ok (.aload_n 0, 1) := by decide +kernel
theorem dX4_count_84 : decode cX4_count 84 = .ok (.getfield 49, 3) := by decide +kernel
theorem dX4_count_87 : decode cX4_count 87 = .ok (.invokevirtual 180, 3) := by decide +kernel
theorem dX4_count_90 : decode cX4_count 90 = .ok (.ireturn, 1) := by decide +kernel
theorem dX4_count_91 : decode cX4_count 91 = .ok (.aload_n 0, 1) := by decide +kernel
theorem dX4_count_92 : decode cX4_count 92 = .ok (.getfield 49, 3) := by decide +kernel
theorem dX4_count_95 : decode cX4_count 95 = .ok (.invokevirtual 181, 3) := by decide +kernel
theorem dX4_count_98 : decode cX4_count 98 = .ok (.ireturn, 1) := by decide +kernel
theorem dX4_count_99 : decode cX4_count 99 = .ok (.aload_n 0, 1) := by decide +kernel
theorem dX4_count_100 : decode cX4_count 100 = .ok (.invokevirtual 184, 3) := by decide +kernel
theorem dX4_count_103 : decode cX4_count 103 = .ok (.ireturn, 1) := by decide +kernel
theorem dX4_count_104 : decode cX4_count 104 = .ok (.aload_n 0, 1) := by decide +kernel
theorem dX4_count_105 : decode cX4_count 105 = .ok (.invokevirtual 187, 3) := by decide +kernel
theorem dX4_count_108 : decode cX4_count 108 = .ok (.ifCond .eq 7, 3) := by decide +kernel
theorem dX4_count_111 : decode cX4_count 111 = .ok (.iconst 1, 1) := by decide +kernel
theorem dX4_count_112 : decode cX4_count 112 = .ok (.goto 4, 3) := by decide +kernel
theorem dX4_count_115 : decode cX4_count 115 = .ok (.iconst 0, 1) := by decide +kernel
theorem dX4_count_116 : decode cX4_count 116 = .ok (.ireturn, 1) := by decide +kernel
theorem dX4_count_117 : decode cX4_count 117 = .ok (.aload_n 0, 1) := by decide +kernel
theorem dX4_count_118 : decode cX4_count 118 = .ok (.invokevirtual 190, 3) := by decide +kernel
theorem dX4_count_121 : decode cX4_count 121 = .ok (.ireturn, 1) := by decide +kernel
theorem dX4_count_122 : decode cX4_count 122 = .ok (.aload_n 0, 1) := by decide +kernel
theorem dX4_count_123 : decode cX4_count 123 = .ok (.getfield 21, 3) := by decide +kernel
theorem dX4_count_126 : decode cX4_count 126 = .ok (.iconst 0, 1) := by decide +kernel
theorem dX4_count_127 : decode cX4_count 127 = .ok (.baload, 1) := by decide +kernel
theorem dX4_count_128 : decode cX4_count 128 = .ok (.ifCond .eq 7, 3) := by decide +kernel
theorem dX4_count_131 : decode cX4_count 131 = .ok (.iconst 1, 1) := by decide +kernel
theorem dX4_count_132 : decode cX4_count 132 = .ok (.goto 4, 3) := by decide +kernel
theorem dX4_count_135 : decode cX4_count 135 = .ok (.iconst 0, 1) := by decide +kernel
theorem dX4_count_136 : decode cX4_count 136 = .ok (.aload_n 0, 1) := by decide +kernel
theorem dX4_count_137 : decode cX4_count 137 = .ok (.getfield 21, 3) := by decide +kernel
theorem dX4_count_140 : decode cX4_count 140 = .ok (.iconst 1, 1) := by decide +kernel
theorem dX4_count_141 : decode cX4_count 141 = .ok (.baload, 1) := by decide +kernel
theorem dX4_count_142 : decode cX4_count 142 = .ok (.ifCond .eq 7, 3) := by decide +kernel
theorem dX4_count_145 : decode cX4_count 145 = .ok (.iconst 1, 1) := by decide +kernel
theorem dX4_count_146 : decode cX4_count 146 = .ok (.goto 4, 3) := by decide +kernel
theorem dX4_count_149 : decode cX4_count 149 = .ok (.iconst 0, 1) := by decide +kernel
theorem dX4_count_150 : decode cX4_count 150 = .ok (.iadd, 1) := by decide +kernel
theorem dX4_count_151 : decode cX4_count 151 = .ok (.ireturn, 1) := by decide +kernel
theorem dX4_count_152 : decode cX4_count 152 = .ok (.aload_n 0, 1) := by decide +kernel
theorem dX4_count_153 : decode cX4_count 153 = .ok (.getfield 28, 3) := by decide +kernel
theorem dX4_count_156 : decode cX4_count 156 = .ok (.invokevirtual 136, 3) := by decide +kernel
theorem dX4_count_159 : decode cX4_count 159 = .ok (.ireturn, 1) := by decide +kernel
theorem dX4_needIndex_0 : decode cX4_needIndex 0 = .ok (.iload_n 0, 1) := by decide +kernel
theorem dX4_needIndex_1 : decode cX4_needIndex 1 = .ok (.ifCond .lt 8, 3) := by decide +kernel
theorem dX4_needIndex_4 : decode cX4_needIndex 4 = .ok (.iload_n 0, 1) := by decide +kernel
theorem dX4_needIndex_5 : decode cX4_needIndex 5 = .ok (.iload_n 1, 1) := by decide +kernel
theorem dX4_needIndex_6 : decode cX4_needIndex 6 = .ok (.if_icmp .lt 14, 3) := by decide +kernel
theorem dX4_needIndex_9 : decode cX4_needIndex 9 = .ok (.new 258, 3) := by decide +kernel
theorem dX4_needIndex_12 : decode cX4_needIndex 12 = .ok (.dup, 1) := by decide +kernel
theorem dX4_needIndex_13 : decode cX4_needIndex 13 = .ok (.ldc_w 260, 3) := by decide +kernel
theorem dX4_needIndex_16 : decode cX4_needIndex 16 = .ok (.invokespecial 262, 3) := by decide +kernel
theorem dX4_needIndex_19 : decode cX4_needIndex 19 = .ok (.athrow, 1) := by decide +kernel
theorem dX4_needIndex_20 : decode cX4_needIndex 20 = .ok (.return_, 1) := by decide +kernel
theorem dX4_needNumber_0 : decode cX4_needNumber 0 = .ok (.iload_n 0, 1) := by decide +kernel
theorem dX4_needNumber_1 : decode cX4_needNumber 1 = .ok (.iload_n 1, 1) := by decide +kernel
theorem dX4_needNumber_2 : decode cX4_needNumber 2 = .ok (.if_icmp .lt 8, 3) := by decide +kernel
theorem dX4_needNumber_5 : decode cX4_needNumber 5 = .ok (.iload_n 0, 1) := by decide +kernel
theorem dX4_needNumber_6 : decode cX4_needNumber 6 = .ok (.iload_n 2, 1) := by decide +kernel
theorem dX4_needNumber_7 : decode cX4_needNumber 7 = .ok (.if_icmp .le 14, 3) := by decide +kernel
theorem dX4_needNumber_10 : decode cX4_needNumber 10 = .ok (.new 116, 3) := by decide +kernel
theorem dX4_needNumber_13 : decode cX4_needNumber 13 = .ok (.dup, 1) := by decide +kernel
theorem dX4_needNumber_14 : decode cX4_needNumber 14 = .ok (.ldc_w 263, 3) := by decide +kernel
theorem dX4_needNumber_17 : decode cX4_needNumber 17 = .ok (.invokespecial 120, 3) := by decide +kernel
theorem dX4_needNumber_20 : decode cX4_needNumber 20 = .ok (.athrow, 1) := by decide +kernel
theorem dX4_needNumber_21 : decode cX4_needNumber 21 = .ok (.return_, 1) := by decide +kernel
theorem dX4_forgetTables_0 : decode cX4_forgetTables 0 = .ok (.aload_n 0, 1) := by decide +kernel
theorem dX4_forgetTables_1 : decode cX4_forgetTables 1 = .ok (.getfield 42, 3) := by decide +kernel
theorem dX4_forgetTables_4 : decode cX4_forgetTables 4 = .ok (.invokevirtual 267, 3) := by decide +kernel
theorem dX4_forgetTables_7 : decode cX4_forgetTables 7 = .ok (.aload_n 0, 1) := by decide +kernel
theorem dX4_forgetTables_8 : decode cX4_forgetTables 8 = .ok (.getfield 49, 3) := by decide +kernel
theorem dX4_forgetTables_11 : decode cX4_forgetTables 11 = .ok (.invokevirtual 270, 3) := by decide +kernel
theorem dX4_forgetTables_14 : decode cX4_forgetTables 14 = .ok (.return_, 1) := by decide +kernel
theorem dX4_keepState_0 : decode cX4_keepState 0 = .ok (.aload_n 0, 1) := by decide +kernel
theorem dX4_keepState_1 : decode cX4_keepState 1 = .ok (.getfield 28, 3) := by decide +kernel
theorem dX4_keepState_4 : decode cX4_keepState 4 = .ok (.aload_n 0, 1) := by decide +kernel
theorem dX4_keepState_5 : decode cX4_keepState 5 = .ok (.getfield 9, 3) := by decide +kernel
theorem dX4_keepState_8 : decode cX4_keepState 8 = .ok (.invokevirtual 271, 3) := by decide +kernel
theorem dX4_keepState_11 : decode cX4_keepState 11 = .ok (.aload_n 0, 1) := by decide +kernel
theorem dX4_keepState_12 : decode cX4_keepState 12 = .ok (.invokevirtual 142, 3) := by decide +kernel
theorem dX4_keepState_15 : decode cX4_keepState 15 = .ok (.return_, 1) := by decide +kernel
theorem dX4_change_0 : decode cX4_change 0 = .ok (.aload_n 0, 1) := by decide +kernel
theorem dX4_change_1 : decode cX4_change 1 = .ok (.invokevirtual 87, 3) := by decide +kernel
theorem dX4_change_4 : decode cX4_change 4 = .ok (.aload_n 0, 1) := by decide +kernel
theorem dX4_change_5 : decode cX4_change 5 = .ok (.getfield 9, 3) := by decide +kernel
theorem dX4_change_8 : decode cX4_change 8 = .ok (.iload_n 1, 1) := by decide +kernel
theorem dX4_change_9 : decode cX4_change 9 = .ok (.iaload, 1) := by decide +kernel
theorem dX4_change_10 : decode cX4_change 10 = .ok (.istore_n 3, 1) := by decide +kernel
theorem dX4_change_11 : decode cX4_change 11 = .ok (.aload_n 0, 1) := by decide +kernel
theorem dX4_change_12 : decode cX4_change 12 = .ok (.getfield 9, 3) := by decide +kernel
theorem dX4_change_15 : decode cX4_change 15 = .ok (.iload_n 1, 1) := by decide +kernel
theorem dX4_change_16 : decode cX4_change 16 = .ok (.iload_n 2, 1) := by decide +kernel
theorem dX4_change_17 : decode cX4_change 17 = .ok (.iastore, 1) := by decide +kernel
theorem dX4_change_18 : decode cX4_change 18 = .ok (.iload_n 3, 1) := by decide +kernel
theorem dX4_change_19 : decode cX4_change 19 = .ok (.ireturn, 1) := by decide +kernel
theorem dX4_putDraft_0 : decode cX4_putDraft 0 = .ok (.aload_n 0, 1) := by decide +kernel
theorem dX4_putDraft_1 : decode cX4_putDraft 1 = .ok (.iload_n 1, 1) := by decide +kernel
theorem dX4_putDraft_2 : decode cX4_putDraft 2 = .ok (.invokevirtual 274, 3) := by decide +kernel
theorem dX4_putDraft_5 : decode cX4_putDraft 5 = .ok (.ifCond .ne 14, 3) := by decide +kernel
theorem dX4_putDraft_8 : decode cX4_putDraft 8 = .ok (.new 77, 3) := by decide +kernel
theorem dX4_putDraft_11 : decode cX4_putDraft 11 = .ok (.dup, 1) := by decide +kernel
theorem dX4_putDraft_12 : decode cX4_putDraft 12 = .ok (.ldc_w 277, 3) := by decide +kernel
theorem dX4_putDraft_15 : decode cX4_putDraft 15 = .ok (.invokespecial 81, 3) := by decide +kernel
theorem dX4_putDraft_18 : decode cX4_putDraft 18 = .ok (.athrow, 1) := by decide +kernel
theorem dX4_putDraft_19 : decode cX4_putDraft 19 = .ok (.aload_n 0, 1) := by decide +kernel
theorem dX4_putDraft_20 : decode cX4_putDraft 20 = .ok (.invokevirtual 87, 3) := by decide +kernel
theorem dX4_putDraft_23 : decode cX4_putDraft 23 = .ok (.iconst 0, 1) := by decide +kernel
theorem dX4_putDraft_24 : decode cX4_putDraft 24 = .ok (.istore_n 2, 1) := by decide +kernel
theorem dX4_putDraft_25 : decode cX4_putDraft 25 = .ok (.iload_n 2, 1) := by decide +kernel
theorem dX4_putDraft_26 : decode cX4_putDraft 26 = .ok (.bipush 8, 2) := by decide +kernel
theorem dX4_putDraft_28 : decode cX4_putDraft 28 = .ok (.if_icmp .ge 26, 3) := by decide +kernel
theorem dX4_putDraft_31 : decode cX4_putDraft 31 = .ok (.aload_n 0, 1) := by decide +kernel
theorem dX4_putDraft_32 : decode cX4_putDraft 32 = .ok (.getfield 9, 3) := by decide +kernel
theorem dX4_putDraft_35 : decode cX4_putDraft 35 = .ok (.iload_n 1, 1) := by decide +kernel
theorem dX4_putDraft_36 : decode cX4_putDraft 36 = .ok (.bipush 8, 2) := by decide +kernel
theorem dX4_putDraft_38 : decode cX4_putDraft 38 = .ok (.imul, 1) := by decide +kernel
theorem dX4_putDraft_39 : decode cX4_putDraft 39 = .ok (.iload_n 2, 1) := by decide +kernel
theorem dX4_putDraft_40 : decode cX4_putDraft 40 = .ok (.iadd, 1) := by decide +kernel
theorem dX4_putDraft_41 : decode cX4_putDraft 41 = .ok (.aload_n 0, 1) := by decide +kernel
theorem dX4_putDraft_42 : decode cX4_putDraft 42 = .ok (.getfield 13, 3) := by decide +kernel
theorem dX4_putDraft_45 : decode cX4_putDraft 45 = .ok (.iload_n 2, 1) := by decide +kernel
theorem dX4_putDraft_46 : decode cX4_putDraft 46 = .ok (.iaload, 1) := by decide +kernel
theorem dX4_putDraft_47 : decode cX4_putDraft 47 = .ok (.iastore, 1) := by decide +kernel
theorem dX4_putDraft_48 : decode cX4_putDraft 48 = .ok (.iinc 2 1, 3) := by decide +kernel
theorem dX4_putDraft_51 : decode cX4_putDraft 51 = .ok (.goto (-26), 3) := by decide +kernel
theorem dX4_putDraft_54 : decode cX4_putDraft 54 = .ok (.aload_n 0, 1) := by decide +kernel
theorem dX4_putDraft_55 : decode cX4_putDraft 55 = .ok (.iload_n 1, 1) := by decide +kernel
theorem dX4_putDraft_56 : decode cX4_putDraft 56 = .ok (.invokevirtual 174, 3) := by decide +kernel
theorem dX4_putDraft_59 : decode cX4_putDraft 59 = .ok (.ireturn, 1) := by decide +kernel
theorem dX4_draftFits_0 : decode cX4_draftFits 0 = .ok (.iload_n 1, 1) := by decide +kernel
theorem dX4_draftFits_1 : decode cX4_draftFits 1 = .ok (.iconst 2, 1) := by decide +kernel
theorem dX4_draftFits_2 : decode cX4_draftFits 2 = .ok (.if_icmp .ne 7, 3) := by decide +kernel
theorem dX4_draftFits_5 : decode cX4_draftFits 5 = .ok (.iconst 0, 1) := by decide +kernel
theorem dX4_draftFits_6 : decode cX4_draftFits 6 = .ok (.goto 4, 3) := by decide +kernel
theorem dX4_draftFits_9 : decode cX4_draftFits 9 = .ok (.iconst 5, 1) := by decide +kernel
theorem dX4_draftFits_10 : decode cX4_draftFits 10 = .ok (.istore_n 2, 1) := by decide +kernel
theorem dX4_draftFits_11 : decode cX4_draftFits 11 = .ok (.iconst 0, 1) := by decide +kernel
theorem dX4_draftFits_12 : decode cX4_draftFits 12 = .ok (.istore_n 3, 1) := by decide +kernel
theorem dX4_draftFits_13 : decode cX4_draftFits 13 = .ok (.iload_n 3, 1) := by decide +kernel
theorem dX4_draftFits_14 : decode cX4_draftFits 14 = .ok (.bipush 8, 2) := by decide +kernel
theorem dX4_draftFits_16 : decode cX4_draftFits 16 = .ok (.if_icmp .ge 31, 3) := by decide +kernel
theorem dX4_draftFits_19 : decode cX4_draftFits 19 = .ok (.aload_n 0, 1) := by decide +kernel
theorem dX4_draftFits_20 : decode cX4_draftFits 20 = .ok (.getfield 13, 3) := by decide +kernel
theorem dX4_draftFits_23 : decode cX4_draftFits 23 = .ok (.iload_n 3, 1) := by decide +kernel
theorem dX4_draftFits_24 : decode cX4_draftFits 24 = .ok (.iaload, 1) := by decide +kernel
theorem dX4_draftFits_25 : decode cX4_draftFits 25 = .ok (.iload_n 3, 1) := by decide +kernel
theorem dX4_draftFits_26 : decode cX4_draftFits 26 = .ok (.iconst 4, 1) := by decide +kernel
theorem dX4_draftFits_27 : decode cX4_draftFits 27 = .ok (.if_icmp .ge 8, 3) := by decide +kernel
theorem dX4_draftFits_30 : decode cX4_draftFits 30 = .ok (.bipush 9, 2) := by decide +kernel
theorem dX4_draftFits_32 : decode cX4_draftFits 32 = .ok (.goto 4, 3) := by decide +kernel
theorem dX4_draftFits_35 : decode cX4_draftFits 35 = .ok (.iload_n 2, 1) := by decide +kernel
theorem dX4_draftFits_36 : decode cX4_draftFits 36 = .ok (.if_icmp .le 5, 3) := by decide +kernel
theorem dX4_draftFits_39 : decode cX4_draftFits 39 = .ok (.iconst 0, 1) := by decide +kernel
theorem dX4_draftFits_40 : decode cX4_draftFits 40 = .ok (.ireturn, 1) := by decide +kernel
theorem dX4_draftFits_41 : decode cX4_draftFits 41 = .ok (.iinc 3 1, 3) := by decide +kernel
theorem dX4_draftFits_44 : decode cX4_draftFits 44 = .ok (.goto (-31), 3) := by decide +kernel
theorem dX4_draftFits_47 : decode cX4_draftFits 47 = .ok (.iconst 1, 1) := by decide +kernel
theorem dX4_draftFits_48 : decode cX4_draftFits 48 = .ok (.ireturn, 1) := by decide +kernel
theorem dX4_factorsOf_0 : decode cX4_factorsOf 0 = .ok (.iconst 0, 1) := by decide +kernel
theorem dX4_factorsOf_1 : decode cX4_factorsOf 1 = .ok (.istore_n 2, 1) := by decide +kernel
theorem dX4_factorsOf_2 : decode cX4_factorsOf 2 = .ok (.iconst 0, 1) := by decide +kernel
theorem dX4_factorsOf_3 : decode cX4_factorsOf 3 = .ok (.istore_n 3, 1) := by decide +kernel
theorem dX4_factorsOf_4 : decode cX4_factorsOf 4 = .ok (.iload_n 3, 1) := by decide +kernel
theorem dX4_factorsOf_5 : decode cX4_factorsOf 5 = .ok (.bipush 8, 2) := by decide +kernel
theorem dX4_factorsOf_7 : decode cX4_factorsOf 7 = .ok (.if_icmp .ge 23, 3) := by decide +kernel
theorem dX4_factorsOf_10 : decode cX4_factorsOf 10 = .ok (.iload_n 2, 1) := by decide +kernel
theorem dX4_factorsOf_11 : decode cX4_factorsOf 11 = .ok (.aload_n 0, 1) := by decide +kernel
theorem dX4_factorsOf_12 : decode cX4_factorsOf 12 = .ok (.getfield 9, 3) := by decide +kernel
theorem dX4_factorsOf_15 : decode cX4_factorsOf 15 = .ok (.iload_n 1, 1) := by decide +kernel
theorem dX4_factorsOf_16 : decode cX4_factorsOf 16 = .ok (.bipush 8, 2) := by decide +kernel
theorem dX4_factorsOf_18 : decode cX4_factorsOf 18 = .ok (.imul, 1) := by decide +kernel
theorem dX4_factorsOf_19 : decode cX4_factorsOf 19 = .ok (.iload_n 3, 1) := by decide +kernel
theorem dX4_factorsOf_20 : decode cX4_factorsOf 20 = .ok (.iadd, 1) := by decide +kernel
theorem dX4_factorsOf_21 : decode cX4_factorsOf 21 = .ok (.iaload, 1) := by decide +kernel
theorem dX4_factorsOf_22 : decode cX4_factorsOf 22 = .ok (.iadd, 1) := by decide +kernel
theorem dX4_factorsOf_23 : decode cX4_factorsOf 23 = .ok (.istore_n 2, 1) := by decide +kernel
theorem dX4_factorsOf_24 : decode cX4_factorsOf 24 = .ok (.iinc 3 1, 3) := by decide +kernel
theorem dX4_factorsOf_27 : decode cX4_factorsOf 27 = .ok (.goto (-23), 3) := by decide +kernel
theorem dX4_factorsOf_30 : decode cX4_factorsOf 30 = .ok (.iload_n 2, 1) := by decide +kernel
theorem dX4_factorsOf_31 : decode cX4_factorsOf 31 = .ok (.ireturn, 1) := by decide +kernel
theorem dX4_restOf_0 : decode cX4_restOf 0 = .ok (.aload_n 0, 1) := by decide +kernel
theorem dX4_restOf_1 : decode cX4_restOf 1 = .ok (.getfield 9, 3) := by decide +kernel
theorem dX4_restOf_4 : decode cX4_restOf 4 = .ok (.bipush 16, 2) := by decide +kernel
theorem dX4_restOf_6 : decode cX4_restOf 6 = .ok (.iload_n 1, 1) := by decide +kernel
theorem dX4_restOf_7 : decode cX4_restOf 7 = .ok (.iadd, 1) := by decide +kernel
theorem dX4_restOf_8 : decode cX4_restOf 8 = .ok (.iaload, 1) := by decide +kernel
theorem dX4_restOf_9 : decode cX4_restOf 9 = .ok (.aload_n 0, 1) := by decide +kernel
theorem dX4_restOf_10 : decode cX4_restOf 10 = .ok (.getfield 9, 3) := by decide +kernel
theorem dX4_restOf_13 : decode cX4_restOf 13 = .ok (.iconst 0, 1) := by decide +kernel
theorem dX4_restOf_14 : decode cX4_restOf 14 = .ok (.iload_n 1, 1) := by decide +kernel
theorem dX4_restOf_15 : decode cX4_restOf 15 = .ok (.iadd, 1) := by decide +kernel
theorem dX4_restOf_16 : decode cX4_restOf 16 = .ok (.iaload, 1) := by decide +kernel
theorem dX4_restOf_17 : decode cX4_restOf 17 = .ok (.isub, 1) := by decide +kernel
theorem dX4_restOf_18 : decode cX4_restOf 18 = .ok (.ireturn, 1) := by decide +kernel
theorem dX4_hasVariable_0 : decode cX4_hasVariable 0 = .ok (.aload_n 0, 1) := by decide +kernel
theorem dX4_hasVariable_1 : decode cX4_hasVariable 1 = .ok (.getfield 9, 3) := by decide +kernel
theorem dX4_hasVariable_4 : decode cX4_hasVariable 4 = .ok (.iload_n 1, 1) := by decide +kernel
theorem dX4_hasVariable_5 : decode cX4_hasVariable 5 = .ok (.bipush 8, 2) := by decide +kernel
theorem dX4_hasVariable_7 : decode cX4_hasVariable 7 = .ok (.imul, 1) := by decide +kernel
theorem dX4_hasVariable_8 : decode cX4_hasVariable 8 = .ok (.iconst 4, 1) := by decide +kernel
theorem dX4_hasVariable_9 : decode cX4_hasVariable 9 = .ok (.iadd, 1) := by decide +kernel
theorem dX4_hasVariable_10 : decode cX4_hasVariable 10 = .ok (.iload_n 2, 1) := by decide +kernel
theorem dX4_hasVariable_11 : decode cX4_hasVariable 11 = .ok (.iadd, 1) := by decide +kernel
theorem dX4_hasVariable_12 : decode cX4_hasVariable 12 = .ok (.iaload, 1) := by decide +kernel
theorem dX4_hasVariable_13 : decode cX4_hasVariable 13 = .ok (.ifCond .le 7, 3) := by decide +kernel
theorem dX4_hasVariable_16 : decode cX4_hasVariable 16 = .ok (.iconst 1, 1) := by decide +kernel
theorem dX4_hasVariable_17 : decode cX4_hasVariable 17 = .ok (.goto 4, 3) := by decide +kernel
theorem dX4_hasVariable_20 : decode cX4_hasVariable 20 = .ok (.iconst 0, 1) := by decide +kernel
theorem dX4_hasVariable_21 : decode cX4_hasVariable 21 = .ok (.ireturn, 1) := by decide +kernel
theorem dX4_unlikeVariables_0 : decode cX4_unlikeVariables 0 = .ok (.iconst 0, 1) := by decide +kernel
theorem dX4_unlikeVariables_1 : decode cX4_unlikeVariables 1 = .ok (.istore_n 1, 1) := by decide +kernel
theorem dX4_unlikeVariables_2 : decode cX4_unlikeVariables 2 = .ok (.iconst 0, 1) := by decide +kernel
theorem dX4_unlikeVariables_3 : decode cX4_unlikeVariables 3 = .ok (.istore_n 2, 1) := by decide +kernel
theorem dX4_unlikeVariables_4 : decode cX4_unlikeVariables 4 = .ok (.iload_n 2, 1) := by decide +kernel
theorem dX4_unlikeVariables_5 : decode cX4_unlikeVariables 5 = .ok (.iconst 4, 1) := by decide +kernel
theorem dX4_unlikeVariables_6 : decode cX4_unlikeVariables 6 = .ok (.if_icmp .ge 26, 3) := by decide +kernel
theorem dX4_unlikeVariables_9 : decode cX4_unlikeVariables 9 = .ok (.iload_n 1, 1) := by decide +kernel
theorem dX4_unlikeVariables_10 : decode cX4_unlikeVariables 10 = .ok (.aload_n 0, 1) := by decide +kernel
theorem dX4_unlikeVariables_11 : decode cX4_unlikeVariables 11 = .ok (.iconst 0, 1) := by decide +kernel
theorem dX4_unlikeVariables_12 : decode cX4_unlikeVariables 12 = .ok (.iload_n 2, 1) := by decide +kernel
theorem dX4_unlikeVariables_13 : decode cX4_unlikeVariables 13 = .ok (.invokevirtual 197, 3) := by decide +kernel
theorem dX4_unlikeVariables_16 : decode cX4_unlikeVariables 16 = .ok (.ifCond .eq 7, 3) := by decide +kernel
theorem dX4_unlikeVariables_19 : decode cX4_unlikeVariables 19 = .ok (.iconst 1, 1) := by decide +kernel
theorem dX4_unlikeVariables_20 : decode cX4_unlikeVariables 20 = .ok (.goto 4, 3) := by decide +kernel
theorem dX4_unlikeVariables_23 : decode cX4_unlikeVariables 23 = .ok (.iconst 0, 1) := by decide +kernel
theorem dX4_unlikeVariables_24 : decode cX4_unlikeVariables 24 = .ok (.iadd, 1) := by decide +kernel
theorem dX4_unlikeVariables_25 : decode cX4_unlikeVariables 25 = .ok (.istore_n 1, 1) := by decide +kernel
theorem dX4_unlikeVariables_26 : decode cX4_unlikeVariables 26 = .ok (.iinc 2 1, 3) := by decide +kernel
theorem dX4_unlikeVariables_29 : decode cX4_unlikeVariables 29 = .ok (.goto (-25), 3) := by decide +kernel
theorem dX4_unlikeVariables_32 : decode cX4_unlikeVariables 32 = .ok (.iload_n 1, 1) := by decide +kernel
theorem dX4_unlikeVariables_33 : decode cX4_unlikeVariables 33 = .ok (.ireturn, 1) := by decide +kernel
theorem dX4_restsBelowZero_0 : decode cX4_restsBelowZero 0 = .ok (.iconst 0, 1) := by decide +kernel
theorem dX4_restsBelowZero_1 : decode cX4_restsBelowZero 1 = .ok (.istore_n 1, 1) := by decide +kernel
theorem dX4_restsBelowZero_2 : decode cX4_restsBelowZero 2 = .ok (.iconst 0, 1) := by decide +kernel
theorem dX4_restsBelowZero_3 : decode cX4_restsBelowZero 3 = .ok (.istore_n 2, 1) := by decide +kernel
theorem dX4_restsBelowZero_4 : decode cX4_restsBelowZero 4 = .ok (.iload_n 2, 1) := by decide +kernel
theorem dX4_restsBelowZero_5 : decode cX4_restsBelowZero 5 = .ok (.iconst 4, 1) := by decide +kernel
theorem dX4_restsBelowZero_6 : decode cX4_restsBelowZero 6 = .ok (.if_icmp .ge 25, 3) := by decide +kernel
theorem dX4_restsBelowZero_9 : decode cX4_restsBelowZero 9 = .ok (.iload_n 1, 1) := by decide +kernel
theorem dX4_restsBelowZero_10 : decode cX4_restsBelowZero 10 = .ok (.aload_n 0, 1) := by decide +kernel
theorem dX4_restsBelowZero_11 : decode cX4_restsBelowZero 11 = .ok (.iload_n 2, 1) := by decide +kernel
theorem dX4_restsBelowZero_12 : decode cX4_restsBelowZero 12 = .ok (.invokevirtual 145, 3) := by decide +kernel
theorem dX4_restsBelowZero_15 : decode cX4_restsBelowZero 15 = .ok (.ifCond .ge 7, 3) := by decide +kernel
theorem dX4_restsBelowZero_18 : decode cX4_restsBelowZero 18 = .ok (.iconst 1, 1) := by decide +kernel
theorem dX4_restsBelowZero_19 : decode cX4_restsBelowZero 19 = .ok (.goto 4, 3) := by decide +kernel
theorem dX4_restsBelowZero_22 : decode cX4_restsBelowZero 22 = .ok (.iconst 0, 1) := by decide +kernel
theorem dX4_restsBelowZero_23 : decode cX4_restsBelowZero 23 = .ok (.iadd, 1) := by decide +kernel
theorem dX4_restsBelowZero_24 : decode cX4_restsBelowZero 24 = .ok (.istore_n 1, 1) := by decide +kernel
theorem dX4_restsBelowZero_25 : decode cX4_restsBelowZero 25 = .ok (.iinc 2 1, 3) := by decide +kernel
theorem dX4_restsBelowZero_28 : decode cX4_restsBelowZero 28 = .ok (.goto (-24), 3) := by decide +kernel
theorem dX4_restsBelowZero_31 : decode cX4_restsBelowZero 31 = .ok (.iload_n 1, 1) := by decide +kernel
theorem dX4_restsBelowZero_32 : decode cX4_restsBelowZero 32 = .ok (.ireturn, 1) := by decide +kernel
theorem dX4_patternsAreSame_0 : decode cX4_patternsAreSame 0 = .ok (.iconst 0, 1) := by decide +kernel
theorem dX4_patternsAreSame_1 : decode cX4_patternsAreSame 1 = .ok (.istore_n 1, 1) := by decide +kernel
theorem dX4_patternsAreSame_2 : decode cX4_patternsAreSame 2 = .ok (.iload_n 1, 1) := by decide +kernel
theorem dX4_patternsAreSame_3 : decode cX4_patternsAreSame 3 = .ok (.bipush 8, 2) := by decide +kernel
theorem dX4_patternsAreSame_5 : decode cX4_patternsAreSame 5 = .ok (.if_icmp .ge 31, 3) := by decide +kernel
theorem dX4_patternsAreSame_8 : decode cX4_patternsAreSame 8 = .ok (.aload_n 0, 1) := by decide +kernel
theorem dX4_patternsAreSame_9 : decode cX4_patternsAreSame 9 = .ok (.getfield 9, 3) := by decide +kernel
theorem dX4_patternsAreSame_12 : decode cX4_patternsAreSame 12 = .ok (.iconst 0, 1) := by decide +kernel
theorem dX4_patternsAreSame_13 : decode cX4_patternsAreSame 13 = .ok (.iload_n 1, 1) := by decide +kernel
theorem dX4_patternsAreSame_14 : decode cX4_patternsAreSame 14 = .ok (.iadd, 1) := by decide +kernel
theorem dX4_patternsAreSame_15 : decode cX4_patternsAreSame 15 = .ok (.iaload, 1) := by decide +kernel
theorem dX4_patternsAreSame_16 : decode cX4_patternsAreSame 16 = .ok (.aload_n 0, 1) := by decide +kernel
theorem dX4_patternsAreSame_17 : decode cX4_patternsAreSame 17 = .ok (.getfield 9, 3) := by decide +kernel
theorem dX4_patternsAreSame_20 : decode cX4_patternsAreSame 20 = .ok (.bipush 8, 2) := by decide +kernel
theorem dX4_patternsAreSame_22 : decode cX4_patternsAreSame 22 = .ok (.iload_n 1, 1) := by decide +kernel
theorem dX4_patternsAreSame_23 : decode cX4_patternsAreSame 23 = .ok (.iadd, 1) := by decide +kernel
theorem dX4_patternsAreSame_24 : decode cX4_patternsAreSame 24 = .ok (.iaload, 1) := by decide +kernel
theorem dX4_patternsAreSame_25 : decode cX4_patternsAreSame 25 = .ok (.if_icmp .eq 5, 3) := by decide +kernel
theorem dX4_patternsAreSame_28 : decode cX4_patternsAreSame 28 = .ok (.iconst 0, 1) := by decide +kernel
theorem dX4_patternsAreSame_29 : decode cX4_patternsAreSame 29 = .ok (.ireturn, 1) := by decide +kernel
theorem dX4_patternsAreSame_30 : decode cX4_patternsAreSame 30 = .ok (.iinc 1 1, 3) := by decide +kernel
theorem dX4_patternsAreSame_33 : decode cX4_patternsAreSame 33 = .ok (.goto (-31), 3) := by decide +kernel
theorem dX4_patternsAreSame_36 : decode cX4_patternsAreSame 36 = .ok (.iconst 1, 1) := by decide +kernel
theorem dX4_patternsAreSame_37 : decode cX4_patternsAreSame 37 = .ok (.ireturn, 1) := by decide +kernel
theorem dX4_commonFactors_0 : decode cX4_commonFactors 0 = .ok (.iconst 0, 1) := by decide +kernel
theorem dX4_commonFactors_1 : decode cX4_commonFactors 1 = .ok (.istore_n 1, 1) := by decide +kernel
theorem dX4_commonFactors_2 : decode cX4_commonFactors 2 = .ok (.iconst 0, 1) := by decide +kernel
theorem dX4_commonFactors_3 : decode cX4_commonFactors 3 = .ok (.istore_n 2, 1) := by decide +kernel
theorem dX4_commonFactors_4 : decode cX4_commonFactors 4 = .ok (.iload_n 2, 1) := by decide +kernel
theorem dX4_commonFactors_5 : decode cX4_commonFactors 5 = .ok (.bipush 8, 2) := by decide +kernel
theorem dX4_commonFactors_7 : decode cX4_commonFactors 7 = .ok (.if_icmp .ge 46, 3) := by decide +kernel
theorem dX4_commonFactors_10 : decode cX4_commonFactors 10 = .ok (.aload_n 0, 1) := by decide +kernel
theorem dX4_commonFactors_11 : decode cX4_commonFactors 11 = .ok (.getfield 9, 3) := by decide +kernel
theorem dX4_commonFactors_14 : decode cX4_commonFactors 14 = .ok (.iconst 0, 1) := by decide +kernel
theorem dX4_commonFactors_15 : decode cX4_commonFactors 15 = .ok (.iload_n 2, 1) := by decide +kernel
theorem dX4_commonFactors_16 : decode cX4_commonFactors 16 = .ok (.iadd, 1) := by decide +kernel
theorem dX4_commonFactors_17 : decode cX4_commonFactors 17 = .ok (.iaload, 1) := by decide +kernel
theorem dX4_commonFactors_18 : decode cX4_commonFactors 18 = .ok (.aload_n 0, 1) := by decide +kernel
theorem dX4_commonFactors_19 : decode cX4_commonFactors 19 = .ok (.getfield 9, 3) := by decide +kernel
theorem dX4_commonFactors_22 : decode cX4_commonFactors 22 = .ok (.bipush 8, 2) := by decide +kernel
theorem dX4_commonFactors_24 : decode cX4_commonFactors 24 = .ok (.iload_n 2, 1) := by decide +kernel
theorem dX4_commonFactors_25 : decode cX4_commonFactors 25 = .ok (.iadd, 1) := by decide +kernel
theorem dX4_commonFactors_26 : decode cX4_commonFactors 26 = .ok (.iaload, 1) := by decide +kernel
theorem dX4_commonFactors_27 : decode cX4_commonFactors 27 = .ok (.invokestatic 90, 3) := by decide +kernel
theorem dX4_commonFactors_30 : decode cX4_commonFactors 30 = .ok (.istore_n 3, 1) := by decide +kernel
theorem dX4_commonFactors_31 : decode cX4_commonFactors 31 = .ok (.iload_n 1, 1) := by decide +kernel
theorem dX4_commonFactors_32 : decode cX4_commonFactors 32 = .ok (.iload_n 3, 1) := by decide +kernel
theorem dX4_commonFactors_33 : decode cX4_commonFactors 33 = .ok (.aload_n 0, 1) := by decide +kernel
theorem dX4_commonFactors_34 : decode cX4_commonFactors 34 = .ok (.getfield 9, 3) := by decide +kernel
theorem dX4_commonFactors_37 : decode cX4_commonFactors 37 = .ok (.bipush 16, 2) := by decide +kernel
theorem dX4_commonFactors_39 : decode cX4_commonFactors 39 = .ok (.iload_n 2, 1) := by decide +kernel
theorem dX4_commonFactors_40 : decode cX4_commonFactors 40 = .ok (.iadd, 1) := by decide +kernel
theorem dX4_commonFactors_41 : decode cX4_commonFactors 41 = .ok (.iaload, 1) := by decide +kernel
theorem dX4_commonFactors_42 : decode cX4_commonFactors 42 = .ok (.invokestatic 90, 3) := by decide +kernel
theorem dX4_commonFactors_45 : decode cX4_commonFactors 45 = .ok (.iadd, 1) := by decide +kernel
theorem dX4_commonFactors_46 : decode cX4_commonFactors 46 = .ok (.istore_n 1, 1) := by decide +kernel
theorem dX4_commonFactors_47 : decode cX4_commonFactors 47 = .ok (.iinc 2 1, 3) := by decide +kernel
theorem dX4_commonFactors_50 : decode cX4_commonFactors 50 = .ok (.goto (-46), 3) := by decide +kernel
theorem dX4_commonFactors_53 : decode cX4_commonFactors 53 = .ok (.iload_n 1, 1) := by decide +kernel
theorem dX4_commonFactors_54 : decode cX4_commonFactors 54 = .ok (.ireturn, 1) := by decide +kernel
theorem dJ6_bitCount_0f7a4_0 : decode cJ6_bitCount_0f7a4 0 = .ok (.iload_n 0, 1) := by decide +kernel
theorem dJ6_bitCount_0f7a4_1 : decode cJ6_bitCount_0f7a4 1 = .ok (.iload_n 0, 1) := by decide +kernel
theorem dJ6_bitCount_0f7a4_2 : decode cJ6_bitCount_0f7a4 2 = .ok (.iconst 1, 1) := by decide +kernel
theorem dJ6_bitCount_0f7a4_3 : decode cJ6_bitCount_0f7a4 3 = .ok (.iushr, 1) := by decide +kernel
theorem dJ6_bitCount_0f7a4_4 : decode cJ6_bitCount_0f7a4 4 = .ok (.ldc_w 265, 3) := by decide +kernel
theorem dJ6_bitCount_0f7a4_7 : decode cJ6_bitCount_0f7a4 7 = .ok (.iand, 1) := by decide +kernel
theorem dJ6_bitCount_0f7a4_8 : decode cJ6_bitCount_0f7a4 8 = .ok (.isub, 1) := by decide +kernel
theorem dJ6_bitCount_0f7a4_9 : decode cJ6_bitCount_0f7a4 9 = .ok (.istore_n 0, 1) := by decide +kernel
theorem dJ6_bitCount_0f7a4_10 : decode cJ6_bitCount_0f7a4 10 = .ok (.iload_n 0, 1) := by decide +kernel
theorem dJ6_bitCount_0f7a4_11 : decode cJ6_bitCount_0f7a4 11 = .ok (.ldc_w 266, 3) := by decide +kernel
theorem dJ6_bitCount_0f7a4_14 : decode cJ6_bitCount_0f7a4 14 = .ok (.iand, 1) := by decide +kernel
theorem dJ6_bitCount_0f7a4_15 : decode cJ6_bitCount_0f7a4 15 = .ok (.iload_n 0, 1) := by decide +kernel
theorem dJ6_bitCount_0f7a4_16 : decode cJ6_bitCount_0f7a4 16 = .ok (.iconst 2, 1) := by decide +kernel
theorem dJ6_bitCount_0f7a4_17 : decode cJ6_bitCount_0f7a4 17 = .ok (.iushr, 1) := by decide +kernel
theorem dJ6_bitCount_0f7a4_18 : decode cJ6_bitCount_0f7a4 18 = .ok (.ldc_w 266, 3) := by decide +kernel
theorem dJ6_bitCount_0f7a4_21 : decode cJ6_bitCount_0f7a4 21 = .ok (.iand, 1) := by decide +kernel
theorem dJ6_bitCount_0f7a4_22 : decode cJ6_bitCount_0f7a4 22 = .ok (.iadd, 1) := by decide +kernel
theorem dJ6_bitCount_0f7a4_23 : decode cJ6_bitCount_0f7a4 23 = .ok (.istore_n 0, 1) := by decide +kernel
theorem dJ6_bitCount_0f7a4_24 : decode cJ6_bitCount_0f7a4 24 = .ok (.iload_n 0, 1) := by decide +kernel
theorem dJ6_bitCount_0f7a4_25 : decode cJ6_bitCount_0f7a4 25 = .ok (.iload_n 0, 1) := by decide +kernel
theorem dJ6_bitCount_0f7a4_26 : decode cJ6_bitCount_0f7a4 26 = .ok (.iconst 4, 1) := by decide +kernel
theorem dJ6_bitCount_0f7a4_27 : decode cJ6_bitCount_0f7a4 27 = .ok (.iushr, 1) := by decide +kernel
theorem dJ6_bitCount_0f7a4_28 : decode cJ6_bitCount_0f7a4 28 = .ok (.iadd, 1) := by decide +kernel
theorem dJ6_bitCount_0f7a4_29 : decode cJ6_bitCount_0f7a4 29 = .ok (.ldc_w 267, 3) := by decide +kernel
theorem dJ6_bitCount_0f7a4_32 : decode cJ6_bitCount_0f7a4 32 = .ok (.iand, 1) := by decide +kernel
theorem dJ6_bitCount_0f7a4_33 : decode cJ6_bitCount_0f7a4 33 = .ok (.istore_n 0, 1) := by decide +kernel
theorem dJ6_bitCount_0f7a4_34 : decode cJ6_bitCount_0f7a4 34 = .ok (.iload_n 0, 1) := by decide +kernel
theorem dJ6_bitCount_0f7a4_35 : decode cJ6_bitCount_0f7a4 35 = .ok (.iload_n 0, 1) := by decide +kernel
theorem dJ6_bitCount_0f7a4_36 : decode cJ6_bitCount_0f7a4 36 = .ok (.bipush 8, 2) := by decide +kernel
theorem dJ6_bitCount_0f7a4_38 : decode cJ6_bitCount_0f7a4 38 = .ok (.iushr, 1) := by decide +kernel
theorem dJ6_bitCount_0f7a4_39 : decode cJ6_bitCount_0f7a4 39 = .ok (.iadd, 1) := by decide +kernel
theorem dJ6_bitCount_0f7a4_40 : decode cJ6_bitCount_0f7a4 40 = .ok (.istore_n 0, 1) := by decide +kernel
theorem dJ6_bitCount_0f7a4_41 : decode cJ6_bitCount_0f7a4 41 = .ok (.iload_n 0, 1) := by decide +kernel
theorem dJ6_bitCount_0f7a4_42 : decode cJ6_bitCount_0f7a4 42 = .ok (.iload_n 0, 1) := by decide +kernel
theorem dJ6_bitCount_0f7a4_43 : decode cJ6_bitCount_0f7a4 43 = .ok (.bipush 16, 2) := by decide +kernel
theorem dJ6_bitCount_0f7a4_45 : decode cJ6_bitCount_0f7a4 45 = .ok (.iushr, 1) := by decide +kernel
theorem dJ6_bitCount_0f7a4_46 : decode cJ6_bitCount_0f7a4 46 = .ok (.iadd, 1) := by decide +kernel
theorem dJ6_bitCount_0f7a4_47 : decode cJ6_bitCount_0f7a4 47 = .ok (.istore_n 0, 1) := by decide +kernel
theorem dJ6_bitCount_0f7a4_48 : decode cJ6_bitCount_0f7a4 48 = .ok (.iload_n 0, 1) := by decide +kernel
theorem dJ6_bitCount_0f7a4_49 : decode cJ6_bitCount_0f7a4 49 = .ok (.bipush 63, 2) := by decide +kernel
theorem dJ6_bitCount_0f7a4_51 : decode cJ6_bitCount_0f7a4 51 = .ok (.iand, 1) := by decide +kernel
theorem dJ6_bitCount_0f7a4_52 : decode cJ6_bitCount_0f7a4 52 = .ok (.ireturn, 1) := by decide +kernel
theorem dJ9_max_7cf53_0 : decode cJ9_max_7cf53 0 = .ok (.iload_n 0, 1) := by decide +kernel
theorem dJ9_max_7cf53_1 : decode cJ9_max_7cf53 1 = .ok (.iload_n 1, 1) := by decide +kernel
theorem dJ9_max_7cf53_2 : decode cJ9_max_7cf53 2 = .ok (.if_icmp .lt 7, 3) := by decide +kernel
theorem dJ9_max_7cf53_5 : decode cJ9_max_7cf53 5 = .ok (.iload_n 0, 1) := by decide +kernel
theorem dJ9_max_7cf53_6 : decode cJ9_max_7cf53 6 = .ok (.goto 4, 3) := by decide +kernel
theorem dJ9_max_7cf53_9 : decode cJ9_max_7cf53 9 = .ok (.iload_n 1, 1) := by decide +kernel
theorem dJ9_max_7cf53_10 : decode cJ9_max_7cf53 10 = .ok (.ireturn, 1) := by decide +kernel
theorem dJ9_min_7cf53_0 : decode cJ9_min_7cf53 0 = .ok (.iload_n 0, 1) := by decide +kernel
theorem dJ9_min_7cf53_1 : decode cJ9_min_7cf53 1 = .ok (.iload_n 1, 1) := by decide +kernel
theorem dJ9_min_7cf53_2 : decode cJ9_min_7cf53 2 = .ok (.if_icmp .gt 7, 3) := by decide +kernel
theorem dJ9_min_7cf53_5 : decode cJ9_min_7cf53 5 = .ok (.iload_n 0, 1) := by decide +kernel
theorem dJ9_min_7cf53_6 : decode cJ9_min_7cf53 6 = .ok (.goto 4, 3) := by decide +kernel
theorem dJ9_min_7cf53_9 : decode cJ9_min_7cf53 9 = .ok (.iload_n 1, 1) := by decide +kernel
theorem dJ9_min_7cf53_10 : decode cJ9_min_7cf53 10 = .ok (.ireturn, 1) := by decide +kernel
