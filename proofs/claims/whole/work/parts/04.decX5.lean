theorem dX5_init_0 : decode cX5_init 0 = .ok (.aload_n 0, 1) := by decide +kernel
theorem dX5_init_1 : decode cX5_init 1 = .ok (.invokespecial 1, 3) := by decide +kernel
theorem dX5_init_4 : decode cX5_init 4 = .ok (.aload_n 0, 1) := by decide +kernel
theorem dX5_init_5 : decode cX5_init 5 = .ok (.bipush 26, 2) := by decide +kernel
theorem dX5_init_7 : decode cX5_init 7 = .ok (.newarray .int, 2) := by decide +kernel
theorem dX5_init_9 : decode cX5_init 9 = .ok (.putfield 7, 3) := by decide +kernel
theorem dX5_init_12 : decode cX5_init 12 = .ok (.aload_n 0, 1) := by decide +kernel
theorem dX5_init_13 : decode cX5_init 13 = .ok (.sipush 156, 3) := by decide +kernel
theorem dX5_init_16 : decode cX5_init 16 = .ok (.newarray .int, 2) := by decide +kernel
theorem dX5_init_18 : decode cX5_init 18 = .ok (.putfield 13, 3) := by decide +kernel
theorem dX5_init_21 : decode cX5_init 21 = .ok (.aload_n 0, 1) := by decide +kernel
theorem dX5_init_22 : decode cX5_init 22 = .ok (.bipush 48, 2) := by decide +kernel
theorem dX5_init_24 : decode cX5_init 24 = .ok (.newarray .int, 2) := by decide +kernel
theorem dX5_init_26 : decode cX5_init 26 = .ok (.putfield 16, 3) := by decide +kernel
theorem dX5_init_29 : decode cX5_init 29 = .ok (.aload_n 0, 1) := by decide +kernel
theorem dX5_init_30 : decode cX5_init 30 = .ok (.iconst 2, 1) := by decide +kernel
theorem dX5_init_31 : decode cX5_init 31 = .ok (.newarray .int, 2) := by decide +kernel
theorem dX5_init_33 : decode cX5_init 33 = .ok (.putfield 19, 3) := by decide +kernel
theorem dX5_init_36 : decode cX5_init 36 = .ok (.aload_n 0, 1) := by decide +kernel
theorem dX5_init_37 : decode cX5_init 37 = .ok (.bipush 60, 2) := by decide +kernel
theorem dX5_init_39 : decode cX5_init 39 = .ok (.newarray .int, 2) := by decide +kernel
theorem dX5_init_41 : decode cX5_init 41 = .ok (.putfield 22, 3) := by decide +kernel
theorem dX5_init_44 : decode cX5_init 44 = .ok (.aload_n 0, 1) := by decide +kernel
theorem dX5_init_45 : decode cX5_init 45 = .ok (.sipush 2800, 3) := by decide +kernel
theorem dX5_init_48 : decode cX5_init 48 = .ok (.newarray .int, 2) := by decide +kernel
theorem dX5_init_50 : decode cX5_init 50 = .ok (.putfield 25, 3) := by decide +kernel
theorem dX5_init_53 : decode cX5_init 53 = .ok (.aload_n 0, 1) := by decide +kernel
theorem dX5_init_54 : decode cX5_init 54 = .ok (.iconst 4, 1) := by decide +kernel
theorem dX5_init_55 : decode cX5_init 55 = .ok (.newarray .int, 2) := by decide +kernel
theorem dX5_init_57 : decode cX5_init 57 = .ok (.putfield 28, 3) := by decide +kernel
theorem dX5_init_60 : decode cX5_init 60 = .ok (.aload_n 0, 1) := by decide +kernel
theorem dX5_init_61 : decode cX5_init 61 = .ok (.bipush 64, 2) := by decide +kernel
theorem dX5_init_63 : decode cX5_init 63 = .ok (.newarray .int, 2) := by decide +kernel
theorem dX5_init_65 : decode cX5_init 65 = .ok (.putfield 31, 3) := by decide +kernel
theorem dX5_init_68 : decode cX5_init 68 = .ok (.aload_n 0, 1) := by decide +kernel
theorem dX5_init_69 : decode cX5_init 69 = .ok (.bipush 80, 2) := by decide +kernel
theorem dX5_init_71 : decode cX5_init 71 = .ok (.newarray .long, 2) := by decide +kernel
theorem dX5_init_73 : decode cX5_init 73 = .ok (.putfield 34, 3) := by decide +kernel
theorem dX5_init_76 : decode cX5_init 76 = .ok (.aload_n 0, 1) := by decide +kernel
theorem dX5_init_77 : decode cX5_init 77 = .ok (.bipush 16, 2) := by decide +kernel
theorem dX5_init_79 : decode cX5_init 79 = .ok (.newarray .int, 2) := by decide +kernel
theorem dX5_init_81 : decode cX5_init 81 = .ok (.putfield 38, 3) := by decide +kernel
theorem dX5_init_84 : decode cX5_init 84 = .ok (.aload_n 0, 1) := by decide +kernel
theorem dX5_init_85 : decode cX5_init 85 = .ok (.sipush 400, 3) := by decide +kernel
theorem dX5_init_88 : decode cX5_init 88 = .ok (.newarray .int, 2) := by decide +kernel
theorem dX5_init_90 : decode cX5_init 90 = .ok (.putfield 41, 3) := by decide +kernel
theorem dX5_init_93 : decode cX5_init 93 = .ok (.aload_n 0, 1) := by decide +kernel
theorem dX5_init_94 : decode cX5_init 94 = .ok (.sipush 2401, 3) := by decide +kernel
theorem dX5_init_97 : decode cX5_init 97 = .ok (.newarray .int, 2) := by decide +kernel
theorem dX5_init_99 : decode cX5_init 99 = .ok (.putfield 44, 3) := by decide +kernel
theorem dX5_init_102 : decode cX5_init 102 = .ok (.aload_n 0, 1) := by decide +kernel
theorem dX5_init_103 : decode cX5_init 103 = .ok (.bipush 8, 2) := by decide +kernel
theorem dX5_init_105 : decode cX5_init 105 = .ok (.newarray .int, 2) := by decide +kernel
theorem dX5_init_107 : decode cX5_init 107 = .ok (.putfield 47, 3) := by decide +kernel
theorem dX5_init_110 : decode cX5_init 110 = .ok (.aload_n 0, 1) := by decide +kernel
theorem dX5_init_111 : decode cX5_init 111 = .ok (.getfield 7, 3) := by decide +kernel
theorem dX5_init_114 : decode cX5_init 114 = .ok (.bipush 24, 2) := by decide +kernel
theorem dX5_init_116 : decode cX5_init 116 = .ok (.iconst 1, 1) := by decide +kernel
theorem dX5_init_117 : decode cX5_init 117 = .ok (.iastore, 1) := by decide +kernel
theorem dX5_init_118 : decode cX5_init 118 = .ok (.aload_n 0, 1) := by decide +kernel
theorem dX5_init_119 : decode cX5_init 119 = .ok (.getfield 7, 3) := by decide +kernel
theorem dX5_init_122 : decode cX5_init 122 = .ok (.bipush 25, 2) := by decide +kernel
theorem dX5_init_124 : decode cX5_init 124 = .ok (.bipush 9, 2) := by decide +kernel
theorem dX5_init_126 : decode cX5_init 126 = .ok (.iastore, 1) := by decide +kernel
theorem dX5_init_127 : decode cX5_init 127 = .ok (.return_, 1) := by decide +kernel
theorem dX5_thrown_0 : decode cX5_thrown 0 = .ok (.aload_n 0, 1) := by decide +kernel
theorem dX5_thrown_1 : decode cX5_thrown 1 = .ok (.getfield 50, 3) := by decide +kernel
theorem dX5_thrown_4 : decode cX5_thrown 4 = .ok (.ireturn, 1) := by decide +kernel
theorem dX5_within_0 : decode cX5_within 0 = .ok (.iload_n 0, 1) := by decide +kernel
theorem dX5_within_1 : decode cX5_within 1 = .ok (.iload_n 1, 1) := by decide +kernel
theorem dX5_within_2 : decode cX5_within 2 = .ok (.if_icmp .lt 12, 3) := by decide +kernel
theorem dX5_within_5 : decode cX5_within 5 = .ok (.iload_n 0, 1) := by decide +kernel
theorem dX5_within_6 : decode cX5_within 6 = .ok (.iload_n 2, 1) := by decide +kernel
theorem dX5_within_7 : decode cX5_within 7 = .ok (.if_icmp .gt 7, 3) := by decide +kernel
theorem dX5_within_10 : decode cX5_within 10 = .ok (.iconst 1, 1) := by decide +kernel
theorem dX5_within_11 : decode cX5_within 11 = .ok (.goto 4, 3) := by decide +kernel
theorem dX5_within_14 : decode cX5_within 14 = .ok (.iconst 0, 1) := by decide +kernel
theorem dX5_within_15 : decode cX5_within 15 = .ok (.ireturn, 1) := by decide +kernel
theorem dX5_save_0 : decode cX5_save 0 = .ok (.aload_n 0, 1) := by decide +kernel
theorem dX5_save_1 : decode cX5_save 1 = .ok (.getfield 54, 3) := by decide +kernel
theorem dX5_save_4 : decode cX5_save 4 = .ok (.bipush 6, 2) := by decide +kernel
theorem dX5_save_6 : decode cX5_save 6 = .ok (.if_icmp .ne 44, 3) := by decide +kernel
theorem dX5_save_9 : decode cX5_save 9 = .ok (.bipush 26, 2) := by decide +kernel
theorem dX5_save_11 : decode cX5_save 11 = .ok (.istore_n 1, 1) := by decide +kernel
theorem dX5_save_12 : decode cX5_save 12 = .ok (.iload_n 1, 1) := by decide +kernel
theorem dX5_save_13 : decode cX5_save 13 = .ok (.sipush 156, 3) := by decide +kernel
theorem dX5_save_16 : decode cX5_save 16 = .ok (.if_icmp .ge 24, 3) := by decide +kernel
theorem dX5_save_19 : decode cX5_save 19 = .ok (.aload_n 0, 1) := by decide +kernel
theorem dX5_save_20 : decode cX5_save 20 = .ok (.getfield 13, 3) := by decide +kernel
theorem dX5_save_23 : decode cX5_save 23 = .ok (.iload_n 1, 1) := by decide +kernel
theorem dX5_save_24 : decode cX5_save 24 = .ok (.bipush 26, 2) := by decide +kernel
theorem dX5_save_26 : decode cX5_save 26 = .ok (.isub, 1) := by decide +kernel
theorem dX5_save_27 : decode cX5_save 27 = .ok (.aload_n 0, 1) := by decide +kernel
theorem dX5_save_28 : decode cX5_save 28 = .ok (.getfield 13, 3) := by decide +kernel
theorem dX5_save_31 : decode cX5_save 31 = .ok (.iload_n 1, 1) := by decide +kernel
theorem dX5_save_32 : decode cX5_save 32 = .ok (.iaload, 1) := by decide +kernel
theorem dX5_save_33 : decode cX5_save 33 = .ok (.iastore, 1) := by decide +kernel
theorem dX5_save_34 : decode cX5_save 34 = .ok (.iinc 1 1, 3) := by decide +kernel
theorem dX5_save_37 : decode cX5_save 37 = .ok (.goto (-25), 3) := by decide +kernel
theorem dX5_save_40 : decode cX5_save 40 = .ok (.aload_n 0, 1) := by decide +kernel
theorem dX5_save_41 : decode cX5_save 41 = .ok (.dup, 1) := by decide +kernel
theorem dX5_save_42 : decode cX5_save 42 = .ok (.getfield 54, 3) := by decide +kernel
theorem dX5_save_45 : decode cX5_save 45 = .ok (.iconst 1, 1) := by decide +kernel
theorem dX5_save_46 : decode cX5_save 46 = .ok (.isub, 1) := by decide +kernel
theorem dX5_save_47 : decode cX5_save 47 = .ok (.putfield 54, 3) := by decide +kernel
theorem dX5_save_50 : decode cX5_save 50 = .ok (.iconst 0, 1) := by decide +kernel
theorem dX5_save_51 : decode cX5_save 51 = .ok (.istore_n 1, 1) := by decide +kernel
theorem dX5_save_52 : decode cX5_save 52 = .ok (.iload_n 1, 1) := by decide +kernel
theorem dX5_save_53 : decode cX5_save 53 = .ok (.bipush 26, 2) := by decide +kernel
theorem dX5_save_55 : decode cX5_save 55 = .ok (.if_icmp .ge 29, 3) := by decide +kernel
theorem dX5_save_58 : decode cX5_save 58 = .ok (.aload_n 0, 1) := by decide +kernel
theorem dX5_save_59 : decode cX5_save 59 = .ok (.getfield 13, 3) := by decide +kernel
theorem dX5_save_62 : decode cX5_save 62 = .ok (.bipush 26, 2) := by decide +kernel
theorem dX5_save_64 : decode cX5_save 64 = .ok (.aload_n 0, 1) := by decide +kernel
theorem dX5_save_65 : decode cX5_save 65 = .ok (.getfield 54, 3) := by decide +kernel
theorem dX5_save_68 : decode cX5_save 68 = .ok (.imul, 1) := by decide +kernel
theorem dX5_save_69 : decode cX5_save 69 = .ok (.iload_n 1, 1) := by decide +kernel
theorem dX5_save_70 : decode cX5_save 70 = .ok (.iadd, 1) := by decide +kernel
theorem dX5_save_71 : decode cX5_save 71 = .ok (.aload_n 0, 1) := by decide +kernel
theorem dX5_save_72 : decode cX5_save 72 = .ok (.getfield 7, 3) := by decide +kernel
theorem dX5_save_75 : decode cX5_save 75 = .ok (.iload_n 1, 1) := by decide +kernel
theorem dX5_save_76 : decode cX5_save 76 = .ok (.iaload, 1) := by decide +kernel
theorem dX5_save_77 : decode cX5_save 77 = .ok (.iastore, 1) := by decide +kernel
theorem dX5_save_78 : decode cX5_save 78 = .ok (.iinc 1 1, 3) := by decide +kernel
theorem dX5_save_81 : decode cX5_save 81 = .ok (.goto (-29), 3) := by decide +kernel
theorem dX5_save_84 : decode cX5_save 84 = .ok (.aload_n 0, 1) := by decide +kernel
theorem dX5_save_85 : decode cX5_save 85 = .ok (.dup, 1) := by decide +kernel
theorem dX5_save_86 : decode cX5_save 86 = .ok (.getfield 54, 3) := by decide +kernel
theorem dX5_save_89 : decode cX5_save 89 = .ok (.iconst 1, 1) := by decide +kernel
theorem dX5_save_90 : decode cX5_save 90 = .ok (.iadd, 1) := by decide +kernel
theorem dX5_save_91 : decode cX5_save 91 = .ok (.putfield 54, 3) := by decide +kernel
theorem dX5_save_94 : decode cX5_save 94 = .ok (.return_, 1) := by decide +kernel
theorem dX5_of_0 : decode cX5_of 0 = .ok (.aload_n 0, 1) := by decide +kernel
theorem dX5_of_1 : decode cX5_of 1 = .ok (.getfield 7, 3) := by decide +kernel
theorem dX5_of_4 : decode cX5_of 4 = .ok (.bipush 8, 2) := by decide +kernel
theorem dX5_of_6 : decode cX5_of 6 = .ok (.iload_n 1, 1) := by decide +kernel
theorem dX5_of_7 : decode cX5_of 7 = .ok (.imul, 1) := by decide +kernel
theorem dX5_of_8 : decode cX5_of 8 = .ok (.iload_n 2, 1) := by decide +kernel
theorem dX5_of_9 : decode cX5_of 9 = .ok (.iadd, 1) := by decide +kernel
theorem dX5_of_10 : decode cX5_of 10 = .ok (.iaload, 1) := by decide +kernel
theorem dX5_of_11 : decode cX5_of 11 = .ok (.ireturn, 1) := by decide +kernel
theorem dX5_variableOf_0 : decode cX5_variableOf 0 = .ok (.aload_n 0, 1) := by decide +kernel
theorem dX5_variableOf_1 : decode cX5_variableOf 1 = .ok (.iload_n 1, 1) := by decide +kernel
theorem dX5_variableOf_2 : decode cX5_variableOf 2 = .ok (.iconst 4, 1) := by decide +kernel
theorem dX5_variableOf_3 : decode cX5_variableOf 3 = .ok (.iload_n 2, 1) := by decide +kernel
theorem dX5_variableOf_4 : decode cX5_variableOf 4 = .ok (.iadd, 1) := by decide +kernel
theorem dX5_variableOf_5 : decode cX5_variableOf 5 = .ok (.invokevirtual 57, 3) := by decide +kernel
theorem dX5_variableOf_8 : decode cX5_variableOf 8 = .ok (.ireturn, 1) := by decide +kernel
theorem dX5_isProduct_0 : decode cX5_isProduct 0 = .ok (.iload_n 0, 1) := by decide +kernel
theorem dX5_isProduct_1 : decode cX5_isProduct 1 = .ok (.iconst 0, 1) := by decide +kernel
theorem dX5_isProduct_2 : decode cX5_isProduct 2 = .ok (.iconst 2, 1) := by decide +kernel
theorem dX5_isProduct_3 : decode cX5_isProduct 3 = .ok (.invokestatic 61, 3) := by decide +kernel
theorem dX5_isProduct_6 : decode cX5_isProduct 6 = .ok (.ireturn, 1) := by decide +kernel
theorem dX5_isConstant_0 : decode cX5_isConstant 0 = .ok (.iload_n 0, 1) := by decide +kernel
theorem dX5_isConstant_1 : decode cX5_isConstant 1 = .ok (.iconst 0, 1) := by decide +kernel
theorem dX5_isConstant_2 : decode cX5_isConstant 2 = .ok (.iconst 3, 1) := by decide +kernel
theorem dX5_isConstant_3 : decode cX5_isConstant 3 = .ok (.invokestatic 61, 3) := by decide +kernel
theorem dX5_isConstant_6 : decode cX5_isConstant 6 = .ok (.ireturn, 1) := by decide +kernel
theorem dX5_isVariable_0 : decode cX5_isVariable 0 = .ok (.iload_n 0, 1) := by decide +kernel
theorem dX5_isVariable_1 : decode cX5_isVariable 1 = .ok (.iconst 0, 1) := by decide +kernel
theorem dX5_isVariable_2 : decode cX5_isVariable 2 = .ok (.iconst 3, 1) := by decide +kernel
theorem dX5_isVariable_3 : decode cX5_isVariable 3 = .ok (.invokestatic 61, 3) := by decide +kernel
theorem dX5_isVariable_6 : decode cX5_isVariable 6 = .ok (.ireturn, 1) := by decide +kernel
theorem dX5_factorsOf_0 : decode cX5_factorsOf 0 = .ok (.iconst 0, 1) := by decide +kernel
theorem dX5_factorsOf_1 : decode cX5_factorsOf 1 = .ok (.istore_n 2, 1) := by decide +kernel
theorem dX5_factorsOf_2 : decode cX5_factorsOf 2 = .ok (.iconst 0, 1) := by decide +kernel
theorem dX5_factorsOf_3 : decode cX5_factorsOf 3 = .ok (.istore_n 3, 1) := by decide +kernel
theorem dX5_factorsOf_4 : decode cX5_factorsOf 4 = .ok (.iload_n 3, 1) := by decide +kernel
theorem dX5_factorsOf_5 : decode cX5_factorsOf 5 = .ok (.bipush 8, 2) := by decide +kernel
theorem dX5_factorsOf_7 : decode cX5_factorsOf 7 = .ok (.if_icmp .ge 18, 3) := by decide +kernel
theorem dX5_factorsOf_10 : decode cX5_factorsOf 10 = .ok (.iload_n 2, 1) := by decide +kernel
theorem dX5_factorsOf_11 : decode cX5_factorsOf 11 = .ok (.aload_n 0, 1) := by decide +kernel
theorem dX5_factorsOf_12 : decode cX5_factorsOf 12 = .ok (.iload_n 1, 1) := by decide +kernel
theorem dX5_factorsOf_13 : decode cX5_factorsOf 13 = .ok (.iload_n 3, 1) := by decide +kernel
theorem dX5_factorsOf_14 : decode cX5_factorsOf 14 = .ok (.invokevirtual 57, 3) := by decide +kernel
theorem dX5_factorsOf_17 : decode cX5_factorsOf 17 = .ok (.iadd, 1) := by decide +kernel
theorem dX5_factorsOf_18 : decode cX5_factorsOf 18 = .ok (.istore_n 2, 1) := by decide +kernel
theorem dX5_factorsOf_19 : decode cX5_factorsOf 19 = .ok (.iinc 3 1, 3) := by decide +kernel
theorem dX5_factorsOf_22 : decode cX5_factorsOf 22 = .ok (.goto (-18), 3) := by decide +kernel
theorem dX5_factorsOf_25 : decode cX5_factorsOf 25 = .ok (.iload_n 2, 1) := by decide +kernel
theorem dX5_factorsOf_26 : decode cX5_factorsOf 26 = .ok (.ireturn, 1) := by decide +kernel
theorem dX5_restOf_0 : decode cX5_restOf 0 = .ok (.aload_n 0, 1) := by decide +kernel
theorem dX5_restOf_1 : decode cX5_restOf 1 = .ok (.iconst 2, 1) := by decide +kernel
theorem dX5_restOf_2 : decode cX5_restOf 2 = .ok (.iload_n 1, 1) := by decide +kernel
theorem dX5_restOf_3 : decode cX5_restOf 3 = .ok (.invokevirtual 57, 3) := by decide +kernel
theorem dX5_restOf_6 : decode cX5_restOf 6 = .ok (.aload_n 0, 1) := by decide +kernel
theorem dX5_restOf_7 : decode cX5_restOf 7 = .ok (.iconst 0, 1) := by decide +kernel
theorem dX5_restOf_8 : decode cX5_restOf 8 = .ok (.iload_n 1, 1) := by decide +kernel
theorem dX5_restOf_9 : decode cX5_restOf 9 = .ok (.invokevirtual 57, 3) := by decide +kernel
theorem dX5_restOf_12 : decode cX5_restOf 12 = .ok (.isub, 1) := by decide +kernel
theorem dX5_restOf_13 : decode cX5_restOf 13 = .ok (.ireturn, 1) := by decide +kernel
theorem dX5_greatest_0 : decode cX5_greatest 0 = .ok (.aload_n 0, 1) := by decide +kernel
theorem dX5_greatest_1 : decode cX5_greatest 1 = .ok (.iconst 0, 1) := by decide +kernel
theorem dX5_greatest_2 : decode cX5_greatest 2 = .ok (.iload_n 1, 1) := by decide +kernel
theorem dX5_greatest_3 : decode cX5_greatest 3 = .ok (.invokevirtual 65, 3) := by decide +kernel
theorem dX5_greatest_6 : decode cX5_greatest 6 = .ok (.istore_n 3, 1) := by decide +kernel
theorem dX5_greatest_7 : decode cX5_greatest 7 = .ok (.iload_n 3, 1) := by decide +kernel
theorem dX5_greatest_8 : decode cX5_greatest 8 = .ok (.ifCond .ne 7, 3) := by decide +kernel
theorem dX5_greatest_11 : decode cX5_greatest 11 = .ok (.iconst 0, 1) := by decide +kernel
theorem dX5_greatest_12 : decode cX5_greatest 12 = .ok (.goto 6, 3) := by decide +kernel
theorem dX5_greatest_15 : decode cX5_greatest 15 = .ok (.iload_n 2, 1) := by decide +kernel
theorem dX5_greatest_16 : decode cX5_greatest 16 = .ok (.iload_n 3, 1) := by decide +kernel
theorem dX5_greatest_17 : decode cX5_greatest 17 = .ok (.idiv, 1) := by decide +kernel
theorem dX5_greatest_18 : decode cX5_greatest 18 = .ok (.istore 4, 2) := by decide +kernel
theorem dX5_greatest_20 : decode cX5_greatest 20 = .ok (.iload 4, 2) := by decide +kernel
theorem dX5_greatest_22 : decode cX5_greatest 22 = .ok (.aload_n 0, 1) := by decide +kernel
theorem dX5_greatest_23 : decode cX5_greatest 23 = .ok (.getfield 7, 3) := by decide +kernel
theorem dX5_greatest_26 : decode cX5_greatest 26 = .ok (.bipush 25, 2) := by decide +kernel
theorem dX5_greatest_28 : decode cX5_greatest 28 = .ok (.iaload, 1) := by decide +kernel
theorem dX5_greatest_29 : decode cX5_greatest 29 = .ok (.if_icmp .le 13, 3) := by decide +kernel
theorem dX5_greatest_32 : decode cX5_greatest 32 = .ok (.aload_n 0, 1) := by decide +kernel
theorem dX5_greatest_33 : decode cX5_greatest 33 = .ok (.getfield 7, 3) := by decide +kernel
theorem dX5_greatest_36 : decode cX5_greatest 36 = .ok (.bipush 25, 2) := by decide +kernel
theorem dX5_greatest_38 : decode cX5_greatest 38 = .ok (.iaload, 1) := by decide +kernel
theorem dX5_greatest_39 : decode cX5_greatest 39 = .ok (.goto 5, 3) := by decide +kernel
theorem dX5_greatest_42 : decode cX5_greatest 42 = .ok (.iload 4, 2) := by decide +kernel
theorem dX5_greatest_44 : decode cX5_greatest 44 = .ok (.ireturn, 1) := by decide +kernel
theorem dX5_listOne_0 : decode cX5_listOne 0 = .ok (.aload_n 0, 1) := by decide +kernel
theorem dX5_listOne_1 : decode cX5_listOne 1 = .ok (.iconst 0, 1) := by decide +kernel
theorem dX5_listOne_2 : decode cX5_listOne 2 = .ok (.iconst 3, 1) := by decide +kernel
theorem dX5_listOne_3 : decode cX5_listOne 3 = .ok (.invokevirtual 65, 3) := by decide +kernel
theorem dX5_listOne_6 : decode cX5_listOne 6 = .ok (.istore 6, 2) := by decide +kernel
theorem dX5_listOne_8 : decode cX5_listOne 8 = .ok (.iload 6, 2) := by decide +kernel
theorem dX5_listOne_10 : decode cX5_listOne 10 = .ok (.ifCond .ne 7, 3) := by decide +kernel
theorem dX5_listOne_13 : decode cX5_listOne 13 = .ok (.iconst 0, 1) := by decide +kernel
theorem dX5_listOne_14 : decode cX5_listOne 14 = .ok (.goto 8, 3) := by decide +kernel
theorem dX5_listOne_17 : decode cX5_listOne 17 = .ok (.iload 5, 2) := by decide +kernel
theorem dX5_listOne_19 : decode cX5_listOne 19 = .ok (.iload 6, 2) := by decide +kernel
theorem dX5_listOne_21 : decode cX5_listOne 21 = .ok (.idiv, 1) := by decide +kernel
theorem dX5_listOne_22 : decode cX5_listOne 22 = .ok (.istore 7, 2) := by decide +kernel
theorem dX5_listOne_24 : decode cX5_listOne 24 = .ok (.iload 7, 2) := by decide +kernel
theorem dX5_listOne_26 : decode cX5_listOne 26 = .ok (.iload 6, 2) := by decide +kernel
theorem dX5_listOne_28 : decode cX5_listOne 28 = .ok (.imul, 1) := by decide +kernel
theorem dX5_listOne_29 : decode cX5_listOne 29 = .ok (.iload 5, 2) := by decide +kernel
theorem dX5_listOne_31 : decode cX5_listOne 31 = .ok (.if_icmp .ne 15, 3) := by decide +kernel
theorem dX5_listOne_34 : decode cX5_listOne 34 = .ok (.iload 7, 2) := by decide +kernel
theorem dX5_listOne_36 : decode cX5_listOne 36 = .ok (.aload_n 0, 1) := by decide +kernel
theorem dX5_listOne_37 : decode cX5_listOne 37 = .ok (.getfield 7, 3) := by decide +kernel
theorem dX5_listOne_40 : decode cX5_listOne 40 = .ok (.bipush 25, 2) := by decide +kernel
theorem dX5_listOne_42 : decode cX5_listOne 42 = .ok (.iaload, 1) := by decide +kernel
theorem dX5_listOne_43 : decode cX5_listOne 43 = .ok (.if_icmp .le 4, 3) := by decide +kernel
theorem dX5_listOne_46 : decode cX5_listOne 46 = .ok (.return_, 1) := by decide +kernel
theorem dX5_listOne_47 : decode cX5_listOne 47 = .ok (.iload_n 2, 1) := by decide +kernel
theorem dX5_listOne_48 : decode cX5_listOne 48 = .ok (.ifCond .le 7, 3) := by decide +kernel
theorem dX5_listOne_51 : decode cX5_listOne 51 = .ok (.iconst 1, 1) := by decide +kernel
theorem dX5_listOne_52 : decode cX5_listOne 52 = .ok (.goto 4, 3) := by decide +kernel
theorem dX5_listOne_55 : decode cX5_listOne 55 = .ok (.iconst 0, 1) := by decide +kernel
theorem dX5_listOne_56 : decode cX5_listOne 56 = .ok (.iload_n 3, 1) := by decide +kernel
theorem dX5_listOne_57 : decode cX5_listOne 57 = .ok (.ifCond .le 7, 3) := by decide +kernel
theorem dX5_listOne_60 : decode cX5_listOne 60 = .ok (.iconst 2, 1) := by decide +kernel
theorem dX5_listOne_61 : decode cX5_listOne 61 = .ok (.goto 4, 3) := by decide +kernel
theorem dX5_listOne_64 : decode cX5_listOne 64 = .ok (.iconst 0, 1) := by decide +kernel
theorem dX5_listOne_65 : decode cX5_listOne 65 = .ok (.iadd, 1) := by decide +kernel
theorem dX5_listOne_66 : decode cX5_listOne 66 = .ok (.iload 4, 2) := by decide +kernel
theorem dX5_listOne_68 : decode cX5_listOne 68 = .ok (.ifCond .le 7, 3) := by decide +kernel
theorem dX5_listOne_71 : decode cX5_listOne 71 = .ok (.iconst 4, 1) := by decide +kernel
theorem dX5_listOne_72 : decode cX5_listOne 72 = .ok (.goto 4, 3) := by decide +kernel
theorem dX5_listOne_75 : decode cX5_listOne 75 = .ok (.iconst 0, 1) := by decide +kernel
theorem dX5_listOne_76 : decode cX5_listOne 76 = .ok (.iadd, 1) := by decide +kernel
theorem dX5_listOne_77 : decode cX5_listOne 77 = .ok (.iload 7, 2) := by decide +kernel
theorem dX5_listOne_79 : decode cX5_listOne 79 = .ok (.ifCond .le 8, 3) := by decide +kernel
theorem dX5_listOne_82 : decode cX5_listOne 82 = .ok (.bipush 8, 2) := by decide +kernel
theorem dX5_listOne_84 : decode cX5_listOne 84 = .ok (.goto 4, 3) := by decide +kernel
theorem dX5_listOne_87 : decode cX5_listOne 87 = .ok (.iconst 0, 1) := by decide +kernel
theorem dX5_listOne_88 : decode cX5_listOne 88 = .ok (.iadd, 1) := by decide +kernel
theorem dX5_listOne_89 : decode cX5_listOne 89 = .ok (.istore 8, 2) := by decide +kernel
theorem dX5_listOne_91 : decode cX5_listOne 91 = .ok (.aload_n 0, 1) := by decide +kernel
theorem dX5_listOne_92 : decode cX5_listOne 92 = .ok (.getfield 25, 3) := by decide +kernel
theorem dX5_listOne_95 : decode cX5_listOne 95 = .ok (.sipush 700, 3) := by decide +kernel
theorem dX5_listOne_98 : decode cX5_listOne 98 = .ok (.iload_n 1, 1) := by decide +kernel
theorem dX5_listOne_99 : decode cX5_listOne 99 = .ok (.imul, 1) := by decide +kernel
theorem dX5_listOne_100 : decode cX5_listOne 100 = .ok (.aload_n 0, 1) := by decide +kernel
theorem dX5_listOne_101 : decode cX5_listOne 101 = .ok (.getfield 28, 3) := by decide +kernel
theorem dX5_listOne_104 : decode cX5_listOne 104 = .ok (.iload_n 1, 1) := by decide +kernel
theorem dX5_listOne_105 : decode cX5_listOne 105 = .ok (.iaload, 1) := by decide +kernel
theorem dX5_listOne_106 : decode cX5_listOne 106 = .ok (.iadd, 1) := by decide +kernel
theorem dX5_listOne_107 : decode cX5_listOne 107 = .ok (.sipush 1000, 3) := by decide +kernel
theorem dX5_listOne_110 : decode cX5_listOne 110 = .ok (.iload_n 2, 1) := by decide +kernel
theorem dX5_listOne_111 : decode cX5_listOne 111 = .ok (.imul, 1) := by decide +kernel
theorem dX5_listOne_112 : decode cX5_listOne 112 = .ok (.bipush 100, 2) := by decide +kernel
theorem dX5_listOne_114 : decode cX5_listOne 114 = .ok (.iload_n 3, 1) := by decide +kernel
theorem dX5_listOne_115 : decode cX5_listOne 115 = .ok (.imul, 1) := by decide +kernel
theorem dX5_listOne_116 : decode cX5_listOne 116 = .ok (.iadd, 1) := by decide +kernel
theorem dX5_listOne_117 : decode cX5_listOne 117 = .ok (.bipush 10, 2) := by decide +kernel
theorem dX5_listOne_119 : decode cX5_listOne 119 = .ok (.iload 4, 2) := by decide +kernel
theorem dX5_listOne_121 : decode cX5_listOne 121 = .ok (.imul, 1) := by decide +kernel
theorem dX5_listOne_122 : decode cX5_listOne 122 = .ok (.iadd, 1) := by decide +kernel
theorem dX5_listOne_123 : decode cX5_listOne 123 = .ok (.iload 7, 2) := by decide +kernel
theorem dX5_listOne_125 : decode cX5_listOne 125 = .ok (.iadd, 1) := by decide +kernel
theorem dX5_listOne_126 : decode cX5_listOne 126 = .ok (.iastore, 1) := by decide +kernel
theorem dX5_listOne_127 : decode cX5_listOne 127 = .ok (.aload_n 0, 1) := by decide +kernel
theorem dX5_listOne_128 : decode cX5_listOne 128 = .ok (.getfield 28, 3) := by decide +kernel
theorem dX5_listOne_131 : decode cX5_listOne 131 = .ok (.iload_n 1, 1) := by decide +kernel
theorem dX5_listOne_132 : decode cX5_listOne 132 = .ok (.dup2, 1) := by decide +kernel
theorem dX5_listOne_133 : decode cX5_listOne 133 = .ok (.iaload, 1) := by decide +kernel
theorem dX5_listOne_134 : decode cX5_listOne 134 = .ok (.iconst 1, 1) := by decide +kernel
theorem dX5_listOne_135 : decode cX5_listOne 135 = .ok (.iadd, 1) := by decide +kernel
theorem dX5_listOne_136 : decode cX5_listOne 136 = .ok (.iastore, 1) := by decide +kernel
theorem dX5_listOne_137 : decode cX5_listOne 137 = .ok (.aload_n 0, 1) := by decide +kernel
theorem dX5_listOne_138 : decode cX5_listOne 138 = .ok (.getfield 31, 3) := by decide +kernel
theorem dX5_listOne_141 : decode cX5_listOne 141 = .ok (.bipush 16, 2) := by decide +kernel
theorem dX5_listOne_143 : decode cX5_listOne 143 = .ok (.iload_n 1, 1) := by decide +kernel
theorem dX5_listOne_144 : decode cX5_listOne 144 = .ok (.imul, 1) := by decide +kernel
theorem dX5_listOne_145 : decode cX5_listOne 145 = .ok (.iload 8, 2) := by decide +kernel
theorem dX5_listOne_147 : decode cX5_listOne 147 = .ok (.iadd, 1) := by decide +kernel
theorem dX5_listOne_148 : decode cX5_listOne 148 = .ok (.dup2, 1) := by decide +kernel
theorem dX5_listOne_149 : decode cX5_listOne 149 = .ok (.iaload, 1) := by decide +kernel
theorem dX5_listOne_150 : decode cX5_listOne 150 = .ok (.iconst 1, 1) := by decide +kernel
theorem dX5_listOne_151 : decode cX5_listOne 151 = .ok (.iadd, 1) := by decide +kernel
theorem dX5_listOne_152 : decode cX5_listOne 152 = .ok (.iastore, 1) := by decide +kernel
theorem dX5_listOne_153 : decode cX5_listOne 153 = .ok (.return_, 1) := by decide +kernel
theorem dX5_list_0 : decode cX5_list 0 = .ok (.aload_n 0, 1) := by decide +kernel
theorem dX5_list_1 : decode cX5_list 1 = .ok (.getfield 28, 3) := by decide +kernel
theorem dX5_list_4 : decode cX5_list 4 = .ok (.iload_n 1, 1) := by decide +kernel
theorem dX5_list_5 : decode cX5_list 5 = .ok (.iconst 0, 1) := by decide +kernel
theorem dX5_list_6 : decode cX5_list 6 = .ok (.iastore, 1) := by decide +kernel
theorem dX5_list_7 : decode cX5_list 7 = .ok (.iconst 0, 1) := by decide +kernel
theorem dX5_list_8 : decode cX5_list 8 = .ok (.istore_n 3, 1) := by decide +kernel
theorem dX5_list_9 : decode cX5_list 9 = .ok (.iload_n 3, 1) := by decide +kernel
theorem dX5_list_10 : decode cX5_list 10 = .ok (.bipush 16, 2) := by decide +kernel
theorem dX5_list_12 : decode cX5_list 12 = .ok (.if_icmp .ge 21, 3) := by decide +kernel
theorem dX5_list_15 : decode cX5_list 15 = .ok (.aload_n 0, 1) := by decide +kernel
theorem dX5_list_16 : decode cX5_list 16 = .ok (.getfield 31, 3) := by decide +kernel
theorem dX5_list_19 : decode cX5_list 19 = .ok (.bipush 16, 2) := by decide +kernel
theorem dX5_list_21 : decode cX5_list 21 = .ok (.iload_n 1, 1) := by decide +kernel
theorem dX5_list_22 : decode cX5_list 22 = .ok (.imul, 1) := by decide +kernel
theorem dX5_list_23 : decode cX5_list 23 = .ok (.iload_n 3, 1) := by decide +kernel
theorem dX5_list_24 : decode cX5_list 24 = .ok (.iadd, 1) := by decide +kernel
theorem dX5_list_25 : decode cX5_list 25 = .ok (.iconst 0, 1) := by decide +kernel
theorem dX5_list_26 : decode cX5_list 26 = .ok (.iastore, 1) := by decide +kernel
theorem dX5_list_27 : decode cX5_list 27 = .ok (.iinc 3 1, 3) := by decide +kernel
theorem dX5_list_30 : decode cX5_list 30 = .ok (.goto (-21), 3) := by decide +kernel
theorem dX5_list_33 : decode cX5_list 33 = .ok (.iconst 0, 1) := by decide +kernel
theorem dX5_list_34 : decode cX5_list 34 = .ok (.istore_n 3, 1) := by decide +kernel
theorem dX5_list_35 : decode cX5_list 35 = .ok (.iload_n 2, 1) := by decide +kernel
theorem dX5_list_36 : decode cX5_list 36 = .ok (.ifCond .lt 109, 3) := by decide +kernel
theorem dX5_list_39 : decode cX5_list 39 = .ok (.iload_n 3, 1) := by decide +kernel
theorem dX5_list_40 : decode cX5_list 40 = .ok (.aload_n 0, 1) := by decide +kernel
theorem dX5_list_41 : decode cX5_list 41 = .ok (.iconst 0, 1) := by decide +kernel
theorem dX5_list_42 : decode cX5_list 42 = .ok (.iload_n 2, 1) := by decide +kernel
theorem dX5_list_43 : decode cX5_list 43 = .ok (.invokevirtual 68, 3) := by decide +kernel
theorem dX5_list_46 : decode cX5_list 46 = .ok (.if_icmp .gt 99, 3) := by decide +kernel
theorem dX5_list_49 : decode cX5_list 49 = .ok (.iload_n 2, 1) := by decide +kernel
theorem dX5_list_50 : decode cX5_list 50 = .ok (.iload_n 3, 1) := by decide +kernel
theorem dX5_list_51 : decode cX5_list 51 = .ok (.aload_n 0, 1) := by decide +kernel
theorem dX5_list_52 : decode cX5_list 52 = .ok (.iconst 0, 1) := by decide +kernel
theorem dX5_list_53 : decode cX5_list 53 = .ok (.iconst 0, 1) := by decide +kernel
theorem dX5_list_54 : decode cX5_list 54 = .ok (.invokevirtual 65, 3) := by decide +kernel
theorem dX5_list_57 : decode cX5_list 57 = .ok (.imul, 1) := by decide +kernel
theorem dX5_list_58 : decode cX5_list 58 = .ok (.isub, 1) := by decide +kernel
theorem dX5_list_59 : decode cX5_list 59 = .ok (.istore 4, 2) := by decide +kernel
theorem dX5_list_61 : decode cX5_list 61 = .ok (.iconst 0, 1) := by decide +kernel
theorem dX5_list_62 : decode cX5_list 62 = .ok (.istore 5, 2) := by decide +kernel
theorem dX5_list_64 : decode cX5_list 64 = .ok (.iload 5, 2) := by decide +kernel
theorem dX5_list_66 : decode cX5_list 66 = .ok (.aload_n 0, 1) := by decide +kernel
theorem dX5_list_67 : decode cX5_list 67 = .ok (.iconst 1, 1) := by decide +kernel
theorem dX5_list_68 : decode cX5_list 68 = .ok (.iload 4, 2) := by decide +kernel
theorem dX5_list_70 : decode cX5_list 70 = .ok (.invokevirtual 68, 3) := by decide +kernel
theorem dX5_list_73 : decode cX5_list 73 = .ok (.if_icmp .gt 66, 3) := by decide +kernel
theorem dX5_list_76 : decode cX5_list 76 = .ok (.iload 4, 2) := by decide +kernel
theorem dX5_list_78 : decode cX5_list 78 = .ok (.iload 5, 2) := by decide +kernel
theorem dX5_list_80 : decode cX5_list 80 = .ok (.aload_n 0, 1) := by decide +kernel
theorem dX5_list_81 : decode cX5_list 81 = .ok (.iconst 0, 1) := by decide +kernel
theorem dX5_list_82 : decode cX5_list 82 = .ok (.iconst 1, 1) := by decide +kernel
theorem dX5_list_83 : decode cX5_list 83 = .ok (.invokevirtual 65, 3) := by decide +kernel
theorem dX5_list_86 : decode cX5_list 86 = .ok (.imul, 1) := by decide +kernel
theorem dX5_list_87 : decode cX5_list 87 = .ok (.isub, 1) := by decide +kernel
theorem dX5_list_88 : decode cX5_list 88 = .ok (.istore 6, 2) := by decide +kernel
theorem dX5_list_90 : decode cX5_list 90 = .ok (.iconst 0, 1) := by decide +kernel
theorem dX5_list_91 : decode cX5_list 91 = .ok (.istore 7, 2) := by decide +kernel
theorem dX5_list_93 : decode cX5_list 93 = .ok (.iload 7, 2) := by decide +kernel
theorem dX5_list_95 : decode cX5_list 95 = .ok (.aload_n 0, 1) := by decide +kernel
theorem dX5_list_96 : decode cX5_list 96 = .ok (.iconst 2, 1) := by decide +kernel
theorem dX5_list_97 : decode cX5_list 97 = .ok (.iload 6, 2) := by decide +kernel
theorem dX5_list_99 : decode cX5_list 99 = .ok (.invokevirtual 68, 3) := by decide +kernel
theorem dX5_list_102 : decode cX5_list 102 = .ok (.if_icmp .gt 31, 3) := by decide +kernel
theorem dX5_list_105 : decode cX5_list 105 = .ok (.aload_n 0, 1) := by decide +kernel
theorem dX5_list_106 : decode cX5_list 106 = .ok (.iload_n 1, 1) := by decide +kernel
theorem dX5_list_107 : decode cX5_list 107 = .ok (.iload_n 3, 1) := by decide +kernel
theorem dX5_list_108 : decode cX5_list 108 = .ok (.iload 5, 2) := by decide +kernel
theorem dX5_list_110 : decode cX5_list 110 = .ok (.iload 7, 2) := by decide +kernel
theorem dX5_list_112 : decode cX5_list 112 = .ok (.iload 6, 2) := by decide +kernel
theorem dX5_list_114 : decode cX5_list 114 = .ok (.iload 7, 2) := by decide +kernel
theorem dX5_list_116 : decode cX5_list 116 = .ok (.aload_n 0, 1) := by decide +kernel
theorem dX5_list_117 : decode cX5_list 117 = .ok (.iconst 0, 1) := by decide +kernel
theorem dX5_list_118 : decode cX5_list 118 = .ok (.iconst 2, 1) := by decide +kernel
theorem dX5_list_119 : decode cX5_list 119 = .ok (.invokevirtual 65, 3) := by decide +kernel
theorem dX5_list_122 : decode cX5_list 122 = .ok (.imul, 1) := by decide +kernel
theorem dX5_list_123 : decode cX5_list 123 = .ok (.isub, 1) := by decide +kernel
theorem dX5_list_124 : decode cX5_list 124 = .ok (.invokevirtual 71, 3) := by decide +kernel
theorem dX5_list_127 : decode cX5_list 127 = .ok (.iinc 7 1, 3) := by decide +kernel
theorem dX5_list_130 : decode cX5_list 130 = .ok (.goto (-37), 3) := by decide +kernel
theorem dX5_list_133 : decode cX5_list 133 = .ok (.iinc 5 1, 3) := by decide +kernel
theorem dX5_list_136 : decode cX5_list 136 = .ok (.goto (-72), 3) := by decide +kernel
theorem dX5_list_139 : decode cX5_list 139 = .ok (.iinc 3 1, 3) := by decide +kernel
theorem dX5_list_142 : decode cX5_list 142 = .ok (.goto (-107), 3) := by decide +kernel
theorem dX5_list_145 : decode cX5_list 145 = .ok (.return_, 1) := by decide +kernel
theorem dX5_listAll_0 : decode cX5_listAll 0 = .ok (.iconst 0, 1) := by decide +kernel
theorem dX5_listAll_1 : decode cX5_listAll 1 = .ok (.istore_n 3, 1) := by decide +kernel
theorem dX5_listAll_2 : decode cX5_listAll 2 = .ok (.iload_n 3, 1) := by decide +kernel
theorem dX5_listAll_3 : decode cX5_listAll 3 = .ok (.iconst 4, 1) := by decide +kernel
theorem dX5_listAll_4 : decode cX5_listAll 4 = .ok (.if_icmp .ge 30, 3) := by decide +kernel
theorem dX5_listAll_7 : decode cX5_listAll 7 = .ok (.aload_n 0, 1) := by decide +kernel
theorem dX5_listAll_8 : decode cX5_listAll 8 = .ok (.iload_n 3, 1) := by decide +kernel
theorem dX5_listAll_9 : decode cX5_listAll 9 = .ok (.aload_n 0, 1) := by decide +kernel
theorem dX5_listAll_10 : decode cX5_listAll 10 = .ok (.iload_n 3, 1) := by decide +kernel
theorem dX5_listAll_11 : decode cX5_listAll 11 = .ok (.invokevirtual 75, 3) := by decide +kernel
theorem dX5_listAll_14 : decode cX5_listAll 14 = .ok (.iload_n 3, 1) := by decide +kernel
theorem dX5_listAll_15 : decode cX5_listAll 15 = .ok (.iload_n 1, 1) := by decide +kernel
theorem dX5_listAll_16 : decode cX5_listAll 16 = .ok (.if_icmp .ne 7, 3) := by decide +kernel
theorem dX5_listAll_19 : decode cX5_listAll 19 = .ok (.iload_n 2, 1) := by decide +kernel
theorem dX5_listAll_20 : decode cX5_listAll 20 = .ok (.goto 4, 3) := by decide +kernel
theorem dX5_listAll_23 : decode cX5_listAll 23 = .ok (.iconst 0, 1) := by decide +kernel
theorem dX5_listAll_24 : decode cX5_listAll 24 = .ok (.iadd, 1) := by decide +kernel
theorem dX5_listAll_25 : decode cX5_listAll 25 = .ok (.invokevirtual 79, 3) := by decide +kernel
theorem dX5_listAll_28 : decode cX5_listAll 28 = .ok (.iinc 3 1, 3) := by decide +kernel
theorem dX5_listAll_31 : decode cX5_listAll 31 = .ok (.goto (-29), 3) := by decide +kernel
theorem dX5_listAll_34 : decode cX5_listAll 34 = .ok (.return_, 1) := by decide +kernel
theorem dX5_patternMask_0 : decode cX5_patternMask 0 = .ok (.iconst 0, 1) := by decide +kernel
theorem dX5_patternMask_1 : decode cX5_patternMask 1 = .ok (.istore_n 1, 1) := by decide +kernel
theorem dX5_patternMask_2 : decode cX5_patternMask 2 = .ok (.iconst 0, 1) := by decide +kernel
theorem dX5_patternMask_3 : decode cX5_patternMask 3 = .ok (.istore_n 2, 1) := by decide +kernel
theorem dX5_patternMask_4 : decode cX5_patternMask 4 = .ok (.iload_n 2, 1) := by decide +kernel
theorem dX5_patternMask_5 : decode cX5_patternMask 5 = .ok (.iconst 4, 1) := by decide +kernel
theorem dX5_patternMask_6 : decode cX5_patternMask 6 = .ok (.if_icmp .ge 28, 3) := by decide +kernel
theorem dX5_patternMask_9 : decode cX5_patternMask 9 = .ok (.iload_n 1, 1) := by decide +kernel
theorem dX5_patternMask_10 : decode cX5_patternMask 10 = .ok (.aload_n 0, 1) := by decide +kernel
theorem dX5_patternMask_11 : decode cX5_patternMask 11 = .ok (.iconst 0, 1) := by decide +kernel
theorem dX5_patternMask_12 : decode cX5_patternMask 12 = .ok (.iload_n 2, 1) := by decide +kernel
theorem dX5_patternMask_13 : decode cX5_patternMask 13 = .ok (.invokevirtual 65, 3) := by decide +kernel
theorem dX5_patternMask_16 : decode cX5_patternMask 16 = .ok (.ifCond .le 9, 3) := by decide +kernel
theorem dX5_patternMask_19 : decode cX5_patternMask 19 = .ok (.iconst 1, 1) := by decide +kernel
theorem dX5_patternMask_20 : decode cX5_patternMask 20 = .ok (.iload_n 2, 1) := by decide +kernel
theorem dX5_patternMask_21 : decode cX5_patternMask 21 = .ok (.ishl, 1) := by decide +kernel
theorem dX5_patternMask_22 : decode cX5_patternMask 22 = .ok (.goto 4, 3) := by decide +kernel
theorem dX5_patternMask_25 : decode cX5_patternMask 25 = .ok (.iconst 0, 1) := by decide +kernel
theorem dX5_patternMask_26 : decode cX5_patternMask 26 = .ok (.ior, 1) := by decide +kernel
theorem dX5_patternMask_27 : decode cX5_patternMask 27 = .ok (.istore_n 1, 1) := by decide +kernel
theorem dX5_patternMask_28 : decode cX5_patternMask 28 = .ok (.iinc 2 1, 3) := by decide +kernel
theorem dX5_patternMask_31 : decode cX5_patternMask 31 = .ok (.goto (-27), 3) := by decide +kernel
theorem dX5_patternMask_34 : decode cX5_patternMask 34 = .ok (.iload_n 1, 1) := by decide +kernel
theorem dX5_patternMask_35 : decode cX5_patternMask 35 = .ok (.ireturn, 1) := by decide +kernel
theorem dX5_layWays_0 : decode cX5_layWays 0 = .ok (.aload_n 0, 1) := by decide +kernel
theorem dX5_layWays_1 : decode cX5_layWays 1 = .ok (.getfield 7, 3) := by decide +kernel
theorem dX5_layWays_4 : decode cX5_layWays 4 = .ok (.bipush 24, 2) := by decide +kernel
theorem dX5_layWays_6 : decode cX5_layWays 6 = .ok (.iaload, 1) := by decide +kernel
theorem dX5_layWays_7 : decode cX5_layWays 7 = .ok (.iconst 1, 1) := by decide +kernel
theorem dX5_layWays_8 : decode cX5_layWays 8 = .ok (.if_icmp .ne 7, 3) := by decide +kernel
theorem dX5_layWays_11 : decode cX5_layWays 11 = .ok (.iconst 0, 1) := by decide +kernel
theorem dX5_layWays_12 : decode cX5_layWays 12 = .ok (.goto 7, 3) := by decide +kernel
theorem dX5_layWays_15 : decode cX5_layWays 15 = .ok (.aload_n 0, 1) := by decide +kernel
theorem dX5_layWays_16 : decode cX5_layWays 16 = .ok (.invokevirtual 83, 3) := by decide +kernel
theorem dX5_layWays_19 : decode cX5_layWays 19 = .ok (.istore_n 1, 1) := by decide +kernel
theorem dX5_layWays_20 : decode cX5_layWays 20 = .ok (.iconst 0, 1) := by decide +kernel
theorem dX5_layWays_21 : decode cX5_layWays 21 = .ok (.istore_n 2, 1) := by decide +kernel
theorem dX5_layWays_22 : decode cX5_layWays 22 = .ok (.iload_n 2, 1) := by decide +kernel
theorem dX5_layWays_23 : decode cX5_layWays 23 = .ok (.bipush 16, 2) := by decide +kernel
theorem dX5_layWays_25 : decode cX5_layWays 25 = .ok (.if_icmp .ge 30, 3) := by decide +kernel
theorem dX5_layWays_28 : decode cX5_layWays 28 = .ok (.aload_n 0, 1) := by decide +kernel
theorem dX5_layWays_29 : decode cX5_layWays 29 = .ok (.getfield 34, 3) := by decide +kernel
theorem dX5_layWays_32 : decode cX5_layWays 32 = .ok (.bipush 64, 2) := by decide +kernel
theorem dX5_layWays_34 : decode cX5_layWays 34 = .ok (.iload_n 2, 1) := by decide +kernel
theorem dX5_layWays_35 : decode cX5_layWays 35 = .ok (.iadd, 1) := by decide +kernel
theorem dX5_layWays_36 : decode cX5_layWays 36 = .ok (.iload_n 2, 1) := by decide +kernel
theorem dX5_layWays_37 : decode cX5_layWays 37 = .ok (.iload_n 1, 1) := by decide +kernel
theorem dX5_layWays_38 : decode cX5_layWays 38 = .ok (.iand, 1) := by decide +kernel
theorem dX5_layWays_39 : decode cX5_layWays 39 = .ok (.iload_n 1, 1) := by decide +kernel
theorem dX5_layWays_40 : decode cX5_layWays 40 = .ok (.if_icmp .ne 7, 3) := by decide +kernel
theorem dX5_layWays_43 : decode cX5_layWays 43 = .ok (.lconst 1, 1) := by decide +kernel
theorem dX5_layWays_44 : decode cX5_layWays 44 = .ok (.goto 4, 3) := by decide +kernel
theorem dX5_layWays_47 : decode cX5_layWays 47 = .ok (.lconst 0, 1) := by decide +kernel
theorem dX5_layWays_48 : decode cX5_layWays 48 = .ok (.lastore, 1) := by decide +kernel
theorem dX5_layWays_49 : decode cX5_layWays 49 = .ok (.iinc 2 1, 3) := by decide +kernel
theorem dX5_layWays_52 : decode cX5_layWays 52 = .ok (.goto (-30), 3) := by decide +kernel
theorem dX5_layWays_55 : decode cX5_layWays 55 = .ok (.iconst 3, 1) := by decide +kernel
theorem dX5_layWays_56 : decode cX5_layWays 56 = .ok (.istore_n 2, 1) := by decide +kernel
theorem dX5_layWays_57 : decode cX5_layWays 57 = .ok (.iload_n 2, 1) := by decide +kernel
theorem dX5_layWays_58 : decode cX5_layWays 58 = .ok (.ifCond .lt 91, 3) := by decide +kernel
theorem dX5_layWays_61 : decode cX5_layWays 61 = .ok (.iconst 0, 1) := by decide +kernel
theorem dX5_layWays_62 : decode cX5_layWays 62 = .ok (.istore_n 3, 1) := by decide +kernel
theorem dX5_layWays_63 : decode cX5_layWays 63 = .ok (.iload_n 3, 1) := by decide +kernel
theorem dX5_layWays_64 : decode cX5_layWays 64 = .ok (.bipush 16, 2) := by decide +kernel
theorem dX5_layWays_66 : decode cX5_layWays 66 = .ok (.if_icmp .ge 77, 3) := by decide +kernel
theorem dX5_layWays_69 : decode cX5_layWays 69 = .ok (.lconst 0, 1) := by decide +kernel
theorem dX5_layWays_70 : decode cX5_layWays 70 = .ok (.lstore 4, 2) := by decide +kernel
theorem dX5_layWays_72 : decode cX5_layWays 72 = .ok (.iconst 0, 1) := by decide +kernel
theorem dX5_layWays_73 : decode cX5_layWays 73 = .ok (.istore 6, 2) := by decide +kernel
theorem dX5_layWays_75 : decode cX5_layWays 75 = .ok (.iload 6, 2) := by decide +kernel
theorem dX5_layWays_77 : decode cX5_layWays 77 = .ok (.bipush 16, 2) := by decide +kernel
theorem dX5_layWays_79 : decode cX5_layWays 79 = .ok (.if_icmp .ge 45, 3) := by decide +kernel
theorem dX5_layWays_82 : decode cX5_layWays 82 = .ok (.lload 4, 2) := by decide +kernel
theorem dX5_layWays_84 : decode cX5_layWays 84 = .ok (.aload_n 0, 1) := by decide +kernel
theorem dX5_layWays_85 : decode cX5_layWays 85 = .ok (.getfield 31, 3) := by decide +kernel
theorem dX5_layWays_88 : decode cX5_layWays 88 = .ok (.bipush 16, 2) := by decide +kernel
theorem dX5_layWays_90 : decode cX5_layWays 90 = .ok (.iload_n 2, 1) := by decide +kernel
theorem dX5_layWays_91 : decode cX5_layWays 91 = .ok (.imul, 1) := by decide +kernel
theorem dX5_layWays_92 : decode cX5_layWays 92 = .ok (.iload 6, 2) := by decide +kernel
theorem dX5_layWays_94 : decode cX5_layWays 94 = .ok (.iadd, 1) := by decide +kernel
theorem dX5_layWays_95 : decode cX5_layWays 95 = .ok (.iaload, 1) := by decide +kernel
theorem dX5_layWays_96 : decode cX5_layWays 96 = .ok (.i2l, 1) := by decide +kernel
theorem dX5_layWays_97 : decode cX5_layWays 97 = .ok (.aload_n 0, 1) := by decide +kernel
theorem dX5_layWays_98 : decode cX5_layWays 98 = .ok (.getfield 34, 3) := by decide +kernel
theorem dX5_layWays_101 : decode cX5_layWays 101 = .ok (.bipush 16, 2) := by decide +kernel
theorem dX5_layWays_103 : decode cX5_layWays 103 = .ok (.iload_n 2, 1) := by decide +kernel
theorem dX5_layWays_104 : decode cX5_layWays 104 = .ok (.imul, 1) := by decide +kernel
theorem dX5_layWays_105 : decode cX5_layWays 105 = .ok (.bipush 16, 2) := by decide +kernel
theorem dX5_layWays_107 : decode cX5_layWays 107 = .ok (.iadd, 1) := by decide +kernel
theorem dX5_layWays_108 : decode cX5_layWays 108 = .ok (.iload_n 3, 1) := by decide +kernel
theorem dX5_layWays_109 : decode cX5_layWays 109 = .ok (.iload 6, 2) := by decide +kernel
theorem dX5_layWays_111 : decode cX5_layWays 111 = .ok (.ior, 1) := by decide +kernel
theorem dX5_layWays_112 : decode cX5_layWays 112 = .ok (.iadd, 1) := by decide +kernel
theorem dX5_layWays_113 : decode cX5_layWays 113 = .ok (.laload, 1) := by decide +kernel
theorem dX5_layWays_114 : decode cX5_layWays 114 = .ok (.lmul, 1) := by decide +kernel
theorem dX5_layWays_115 : decode cX5_layWays 115 = .ok (.ladd, 1) := by decide +kernel
theorem dX5_layWays_116 : decode cX5_layWays 116 = .ok (.lstore 4, 2) := by decide +kernel
theorem dX5_layWays_118 : decode cX5_layWays 118 = .ok (.iinc 6 1, 3) := by decide +kernel
theorem dX5_layWays_121 : decode cX5_layWays 121 = .ok (.goto (-46), 3) := by decide +kernel
theorem dX5_layWays_124 : decode cX5_layWays 124 = .ok (.aload_n 0, 1) := by decide +kernel
theorem dX5_layWays_125 : decode cX5_layWays 125 = .ok (.getfield 34, 3) := by decide +kernel
theorem dX5_layWays_128 : decode cX5_layWays 128 = .ok (.bipush 16, 2) := by decide +kernel
theorem dX5_layWays_130 : decode cX5_layWays 130 = .ok (.iload_n 2, 1) := by decide +kernel
theorem dX5_layWays_131 : decode cX5_layWays 131 = .ok (.imul, 1) := by decide +kernel
theorem dX5_layWays_132 : decode cX5_layWays 132 = .ok (.iload_n 3, 1) := by decide +kernel
theorem dX5_layWays_133 : decode cX5_layWays 133 = .ok (.iadd, 1) := by decide +kernel
theorem dX5_layWays_134 : decode cX5_layWays 134 = .ok (.lload 4, 2) := by decide +kernel
theorem dX5_layWays_136 : decode cX5_layWays 136 = .ok (.lastore, 1) := by decide +kernel
theorem dX5_layWays_137 : decode cX5_layWays 137 = .ok (.iinc 3 1, 3) := by decide +kernel
theorem dX5_layWays_140 : decode cX5_layWays 140 = .ok (.goto (-77), 3) := by decide +kernel
theorem dX5_layWays_143 : decode cX5_layWays 143 = .ok (.iinc 2 (-1), 3) := by decide +kernel
theorem dX5_layWays_146 : decode cX5_layWays 146 = .ok (.goto (-89), 3) := by decide +kernel
theorem dX5_layWays_149 : decode cX5_layWays 149 = .ok (.return_, 1) := by decide +kernel
theorem dX5_matchersNow_0 : decode cX5_matchersNow 0 = .ok (.aload_n 0, 1) := by decide +kernel
theorem dX5_matchersNow_1 : decode cX5_matchersNow 1 = .ok (.iconst (-1), 1) := by decide +kernel
theorem dX5_matchersNow_2 : decode cX5_matchersNow 2 = .ok (.iconst 0, 1) := by decide +kernel
theorem dX5_matchersNow_3 : decode cX5_matchersNow 3 = .ok (.invokevirtual 87, 3) := by decide +kernel
theorem dX5_matchersNow_6 : decode cX5_matchersNow 6 = .ok (.aload_n 0, 1) := by decide +kernel
theorem dX5_matchersNow_7 : decode cX5_matchersNow 7 = .ok (.invokevirtual 90, 3) := by decide +kernel
theorem dX5_matchersNow_10 : decode cX5_matchersNow 10 = .ok (.aload_n 0, 1) := by decide +kernel
theorem dX5_matchersNow_11 : decode cX5_matchersNow 11 = .ok (.getfield 34, 3) := by decide +kernel
theorem dX5_matchersNow_14 : decode cX5_matchersNow 14 = .ok (.iconst 0, 1) := by decide +kernel
theorem dX5_matchersNow_15 : decode cX5_matchersNow 15 = .ok (.laload, 1) := by decide +kernel
theorem dX5_matchersNow_16 : decode cX5_matchersNow 16 = .ok (.lreturn, 1) := by decide +kernel
theorem dX5_withEmpty_0 : decode cX5_withEmpty 0 = .ok (.lconst 1, 1) := by decide +kernel
theorem dX5_withEmpty_1 : decode cX5_withEmpty 1 = .ok (.lstore_n 2, 1) := by decide +kernel
theorem dX5_withEmpty_2 : decode cX5_withEmpty 2 = .ok (.iconst 0, 1) := by decide +kernel
theorem dX5_withEmpty_3 : decode cX5_withEmpty 3 = .ok (.istore 4, 2) := by decide +kernel
theorem dX5_withEmpty_5 : decode cX5_withEmpty 5 = .ok (.iload 4, 2) := by decide +kernel
theorem dX5_withEmpty_7 : decode cX5_withEmpty 7 = .ok (.iconst 4, 1) := by decide +kernel
theorem dX5_withEmpty_8 : decode cX5_withEmpty 8 = .ok (.if_icmp .ge 63, 3) := by decide +kernel
theorem dX5_withEmpty_11 : decode cX5_withEmpty 11 = .ok (.iconst 0, 1) := by decide +kernel
theorem dX5_withEmpty_12 : decode cX5_withEmpty 12 = .ok (.istore 5, 2) := by decide +kernel
theorem dX5_withEmpty_14 : decode cX5_withEmpty 14 = .ok (.iconst 0, 1) := by decide +kernel
theorem dX5_withEmpty_15 : decode cX5_withEmpty 15 = .ok (.istore 6, 2) := by decide +kernel
theorem dX5_withEmpty_17 : decode cX5_withEmpty 17 = .ok (.iload 6, 2) := by decide +kernel
theorem dX5_withEmpty_19 : decode cX5_withEmpty 19 = .ok (.bipush 16, 2) := by decide +kernel
theorem dX5_withEmpty_21 : decode cX5_withEmpty 21 = .ok (.if_icmp .ge 38, 3) := by decide +kernel
theorem dX5_withEmpty_24 : decode cX5_withEmpty 24 = .ok (.iload 5, 2) := by decide +kernel
theorem dX5_withEmpty_26 : decode cX5_withEmpty 26 = .ok (.iload 6, 2) := by decide +kernel
theorem dX5_withEmpty_28 : decode cX5_withEmpty 28 = .ok (.iload_n 1, 1) := by decide +kernel
theorem dX5_withEmpty_29 : decode cX5_withEmpty 29 = .ok (.iand, 1) := by decide +kernel
theorem dX5_withEmpty_30 : decode cX5_withEmpty 30 = .ok (.ifCond .ne 19, 3) := by decide +kernel
theorem dX5_withEmpty_33 : decode cX5_withEmpty 33 = .ok (.aload_n 0, 1) := by decide +kernel
theorem dX5_withEmpty_34 : decode cX5_withEmpty 34 = .ok (.getfield 31, 3) := by decide +kernel
theorem dX5_withEmpty_37 : decode cX5_withEmpty 37 = .ok (.bipush 16, 2) := by decide +kernel
theorem dX5_withEmpty_39 : decode cX5_withEmpty 39 = .ok (.iload 4, 2) := by decide +kernel
theorem dX5_withEmpty_41 : decode cX5_withEmpty 41 = .ok (.imul, 1) := by decide +kernel
theorem dX5_withEmpty_42 : decode cX5_withEmpty 42 = .ok (.iload 6, 2) := by decide +kernel
theorem dX5_withEmpty_44 : decode cX5_withEmpty 44 = .ok (.iadd, 1) := by decide +kernel
theorem dX5_withEmpty_45 : decode cX5_withEmpty 45 = .ok (.iaload, 1) := by decide +kernel
theorem dX5_withEmpty_46 : decode cX5_withEmpty 46 = .ok (.goto 4, 3) := by decide +kernel
theorem dX5_withEmpty_49 : decode cX5_withEmpty 49 = .ok (.iconst 0, 1) := by decide +kernel
theorem dX5_withEmpty_50 : decode cX5_withEmpty 50 = .ok (.iadd, 1) := by decide +kernel
theorem dX5_withEmpty_51 : decode cX5_withEmpty 51 = .ok (.istore 5, 2) := by decide +kernel
theorem dX5_withEmpty_53 : decode cX5_withEmpty 53 = .ok (.iinc 6 1, 3) := by decide +kernel
theorem dX5_withEmpty_56 : decode cX5_withEmpty 56 = .ok (.goto (-39), 3) := by decide +kernel
theorem dX5_withEmpty_59 : decode cX5_withEmpty 59 = .ok (.lload_n 2, 1) := by decide +kernel
theorem dX5_withEmpty_60 : decode cX5_withEmpty 60 = .ok (.iload 5, 2) := by decide +kernel
theorem dX5_withEmpty_62 : decode cX5_withEmpty 62 = .ok (.i2l, 1) := by decide +kernel
theorem dX5_withEmpty_63 : decode cX5_withEmpty 63 = .ok (.lmul, 1) := by decide +kernel
theorem dX5_withEmpty_64 : decode cX5_withEmpty 64 = .ok (.lstore_n 2, 1) := by decide +kernel
theorem dX5_withEmpty_65 : decode cX5_withEmpty 65 = .ok (.iinc 4 1, 3) := by decide +kernel
theorem dX5_withEmpty_68 : decode cX5_withEmpty 68 = .ok (.goto (-63), 3) := by decide +kernel
theorem dX5_withEmpty_71 : decode cX5_withEmpty 71 = .ok (.lload_n 2, 1) := by decide +kernel
theorem dX5_withEmpty_72 : decode cX5_withEmpty 72 = .ok (.lreturn, 1) := by decide +kernel
theorem dX5_ones_0 : decode cX5_ones 0 = .ok (.iload_n 0, 1) := by decide +kernel
theorem dX5_ones_1 : decode cX5_ones 1 = .ok (.iconst 1, 1) := by decide +kernel
theorem dX5_ones_2 : decode cX5_ones 2 = .ok (.iand, 1) := by decide +kernel
theorem dX5_ones_3 : decode cX5_ones 3 = .ok (.iload_n 0, 1) := by decide +kernel
theorem dX5_ones_4 : decode cX5_ones 4 = .ok (.iconst 1, 1) := by decide +kernel
theorem dX5_ones_5 : decode cX5_ones 5 = .ok (.ishr, 1) := by decide +kernel
theorem dX5_ones_6 : decode cX5_ones 6 = .ok (.iconst 1, 1) := by decide +kernel
theorem dX5_ones_7 : decode cX5_ones 7 = .ok (.iand, 1) := by decide +kernel
theorem dX5_ones_8 : decode cX5_ones 8 = .ok (.iadd, 1) := by decide +kernel
theorem dX5_ones_9 : decode cX5_ones 9 = .ok (.iload_n 0, 1) := by decide +kernel
theorem dX5_ones_10 : decode cX5_ones 10 = .ok (.iconst 2, 1) := by decide +kernel
theorem dX5_ones_11 : decode cX5_ones 11 = .ok (.ishr, 1) := by decide +kernel
theorem dX5_ones_12 : decode cX5_ones 12 = .ok (.iconst 1, 1) := by decide +kernel
theorem dX5_ones_13 : decode cX5_ones 13 = .ok (.iand, 1) := by decide +kernel
theorem dX5_ones_14 : decode cX5_ones 14 = .ok (.iadd, 1) := by decide +kernel
theorem dX5_ones_15 : decode cX5_ones 15 = .ok (.iload_n 0, 1) := by decide +kernel
theorem dX5_ones_16 : decode cX5_ones 16 = .ok (.iconst 3, 1) := by decide +kernel
theorem dX5_ones_17 : decode cX5_ones 17 = .ok (.ishr, 1) := by decide +kernel
theorem dX5_ones_18 : decode cX5_ones 18 = .ok (.iconst 1, 1) := by decide +kernel
theorem dX5_ones_19 : decode cX5_ones 19 = .ok (.iand, 1) := by decide +kernel
theorem dX5_ones_20 : decode cX5_ones 20 = .ok (.iadd, 1) := by decide +kernel
theorem dX5_ones_21 : decode cX5_ones 21 = .ok (.ireturn, 1) := by decide +kernel
theorem dX5_matchersBySets_0 : decode cX5_matchersBySets 0 = .ok (.aload_n 0, 1) := by decide +kernel
theorem dX5_matchersBySets_1 : decode cX5_matchersBySets 1 = .ok (.iconst (-1), 1) := by decide +kernel
theorem dX5_matchersBySets_2 : decode cX5_matchersBySets 2 = .ok (.iconst 0, 1) := by decide +kernel
theorem dX5_matchersBySets_3 : decode cX5_matchersBySets 3 = .ok (.invokevirtual 87, 3) := by decide +kernel
theorem dX5_matchersBySets_6 : decode cX5_matchersBySets 6 = .ok (.aload_n 0, 1) := by decide +kernel
theorem dX5_matchersBySets_7 : decode cX5_matchersBySets 7 = .ok (.getfield 7, 3) := by decide +kernel
theorem dX5_matchersBySets_10 : decode cX5_matchersBySets 10 = .ok (.bipush 24, 2) := by decide +kernel
theorem dX5_matchersBySets_12 : decode cX5_matchersBySets 12 = .ok (.iaload, 1) := by decide +kernel
theorem dX5_matchersBySets_13 : decode cX5_matchersBySets 13 = .ok (.iconst 1, 1) := by decide +kernel
theorem dX5_matchersBySets_14 : decode cX5_matchersBySets 14 = .ok (.if_icmp .ne 9, 3) := by decide +kernel
theorem dX5_matchersBySets_17 : decode cX5_matchersBySets 17 = .ok (.aload_n 0, 1) := by decide +kernel
theorem dX5_matchersBySets_18 : decode cX5_matchersBySets 18 = .ok (.iconst 0, 1) := by decide +kernel
theorem dX5_matchersBySets_19 : decode cX5_matchersBySets 19 = .ok (.invokevirtual 93, 3) := by decide +kernel
theorem dX5_matchersBySets_22 : decode cX5_matchersBySets 22 = .ok (.lreturn, 1) := by decide +kernel
theorem dX5_matchersBySets_23 : decode cX5_matchersBySets 23 = .ok (.lconst 0, 1) := by decide +kernel
theorem dX5_matchersBySets_24 : decode cX5_matchersBySets 24 = .ok (.lstore_n 1, 1) := by decide +kernel
theorem dX5_matchersBySets_25 : decode cX5_matchersBySets 25 = .ok (.iconst 0, 1) := by decide +kernel
theorem dX5_matchersBySets_26 : decode cX5_matchersBySets 26 = .ok (.istore_n 3, 1) := by decide +kernel
theorem dX5_matchersBySets_27 : decode cX5_matchersBySets 27 = .ok (.iload_n 3, 1) := by decide +kernel
theorem dX5_matchersBySets_28 : decode cX5_matchersBySets 28 = .ok (.bipush 16, 2) := by decide +kernel
theorem dX5_matchersBySets_30 : decode cX5_matchersBySets 30 = .ok (.if_icmp .ge 46, 3) := by decide +kernel
theorem dX5_matchersBySets_33 : decode cX5_matchersBySets 33 = .ok (.iload_n 3, 1) := by decide +kernel
theorem dX5_matchersBySets_34 : decode cX5_matchersBySets 34 = .ok (.aload_n 0, 1) := by decide +kernel
theorem dX5_matchersBySets_35 : decode cX5_matchersBySets 35 = .ok (.invokevirtual 83, 3) := by decide +kernel
theorem dX5_matchersBySets_38 : decode cX5_matchersBySets 38 = .ok (.iconst (-1), 1) := by decide +kernel
theorem dX5_matchersBySets_39 : decode cX5_matchersBySets 39 = .ok (.ixor, 1) := by decide +kernel
theorem dX5_matchersBySets_40 : decode cX5_matchersBySets 40 = .ok (.iand, 1) := by decide +kernel
theorem dX5_matchersBySets_41 : decode cX5_matchersBySets 41 = .ok (.ifCond .ne 29, 3) := by decide +kernel
theorem dX5_matchersBySets_44 : decode cX5_matchersBySets 44 = .ok (.lload_n 1, 1) := by decide +kernel
theorem dX5_matchersBySets_45 : decode cX5_matchersBySets 45 = .ok (.iload_n 3, 1) := by decide +kernel
theorem dX5_matchersBySets_46 : decode cX5_matchersBySets 46 = .ok (.invokestatic 97, 3) := by decide +kernel
theorem dX5_matchersBySets_49 : decode cX5_matchersBySets 49 = .ok (.iconst 2, 1) := by decide +kernel
theorem dX5_matchersBySets_50 : decode cX5_matchersBySets 50 = .ok (.irem, 1) := by decide +kernel
theorem dX5_matchersBySets_51 : decode cX5_matchersBySets 51 = .ok (.ifCond .ne 11, 3) := by decide +kernel
theorem dX5_matchersBySets_54 : decode cX5_matchersBySets 54 = .ok (.aload_n 0, 1) := by decide +kernel
theorem dX5_matchersBySets_55 : decode cX5_matchersBySets 55 = .ok (.iload_n 3, 1) := by decide +kernel
theorem dX5_matchersBySets_56 : decode cX5_matchersBySets 56 = .ok (.invokevirtual 93, 3) := by decide +kernel
theorem dX5_matchersBySets_59 : decode cX5_matchersBySets 59 = .ok (.goto 9, 3) := by decide +kernel
theorem dX5_matchersBySets_62 : decode cX5_matchersBySets 62 = .ok (.aload_n 0, 1) := by decide +kernel
theorem dX5_matchersBySets_63 : decode cX5_matchersBySets 63 = .ok (.iload_n 3, 1) := by decide +kernel
theorem dX5_matchersBySets_64 : decode cX5_matchersBySets 64 = .ok (.invokevirtual 93, 3) := by decide +kernel
theorem dX5_matchersBySets_67 : decode cX5_matchersBySets 67 = .ok (.lneg, 1) := by decide +kernel
theorem dX5_matchersBySets_68 : decode cX5_matchersBySets 68 = .ok (.ladd, 1) := by decide +kernel
theorem dX5_matchersBySets_69 : decode cX5_matchersBySets 69 = .ok (.lstore_n 1, 1) := by decide +kernel
theorem dX5_matchersBySets_70 : decode cX5_matchersBySets 70 = .ok (.iinc 3 1, 3) := by decide +kernel
theorem dX5_matchersBySets_73 : decode cX5_matchersBySets 73 = .ok (.goto (-46), 3) := by decide +kernel
theorem dX5_matchersBySets_76 : decode cX5_matchersBySets 76 = .ok (.lload_n 1, 1) := by decide +kernel
theorem dX5_matchersBySets_77 : decode cX5_matchersBySets 77 = .ok (.lreturn, 1) := by decide +kernel
theorem dX5_isMatcher_0 : decode cX5_isMatcher 0 = .ok (.iload_n 1, 1) := by decide +kernel
theorem dX5_isMatcher_1 : decode cX5_isMatcher 1 = .ok (.ifCond .lt 17, 3) := by decide +kernel
theorem dX5_isMatcher_4 : decode cX5_isMatcher 4 = .ok (.iload_n 1, 1) := by decide +kernel
theorem dX5_isMatcher_5 : decode cX5_isMatcher 5 = .ok (.i2l, 1) := by decide +kernel
theorem dX5_isMatcher_6 : decode cX5_isMatcher 6 = .ok (.aload_n 0, 1) := by decide +kernel
theorem dX5_isMatcher_7 : decode cX5_isMatcher 7 = .ok (.invokevirtual 100, 3) := by decide +kernel
theorem dX5_isMatcher_10 : decode cX5_isMatcher 10 = .ok (.lcmp, 1) := by decide +kernel
theorem dX5_isMatcher_11 : decode cX5_isMatcher 11 = .ok (.ifCond .ge 7, 3) := by decide +kernel
theorem dX5_isMatcher_14 : decode cX5_isMatcher 14 = .ok (.iconst 1, 1) := by decide +kernel
theorem dX5_isMatcher_15 : decode cX5_isMatcher 15 = .ok (.goto 4, 3) := by decide +kernel
theorem dX5_isMatcher_18 : decode cX5_isMatcher 18 = .ok (.iconst 0, 1) := by decide +kernel
theorem dX5_isMatcher_19 : decode cX5_isMatcher 19 = .ok (.ireturn, 1) := by decide +kernel
theorem dX5_supportOf_0 : decode cX5_supportOf 0 = .ok (.iload_n 0, 1) := by decide +kernel
theorem dX5_supportOf_1 : decode cX5_supportOf 1 = .ok (.sipush 1000, 3) := by decide +kernel
theorem dX5_supportOf_4 : decode cX5_supportOf 4 = .ok (.idiv, 1) := by decide +kernel
theorem dX5_supportOf_5 : decode cX5_supportOf 5 = .ok (.ifCond .le 7, 3) := by decide +kernel
theorem dX5_supportOf_8 : decode cX5_supportOf 8 = .ok (.iconst 1, 1) := by decide +kernel
theorem dX5_supportOf_9 : decode cX5_supportOf 9 = .ok (.goto 4, 3) := by decide +kernel
theorem dX5_supportOf_12 : decode cX5_supportOf 12 = .ok (.iconst 0, 1) := by decide +kernel
theorem dX5_supportOf_13 : decode cX5_supportOf 13 = .ok (.iload_n 0, 1) := by decide +kernel
theorem dX5_supportOf_14 : decode cX5_supportOf 14 = .ok (.bipush 100, 2) := by decide +kernel
theorem dX5_supportOf_16 : decode cX5_supportOf 16 = .ok (.idiv, 1) := by decide +kernel
theorem dX5_supportOf_17 : decode cX5_supportOf 17 = .ok (.bipush 10, 2) := by decide +kernel
theorem dX5_supportOf_19 : decode cX5_supportOf 19 = .ok (.irem, 1) := by decide +kernel
theorem dX5_supportOf_20 : decode cX5_supportOf 20 = .ok (.ifCond .le 7, 3) := by decide +kernel
theorem dX5_supportOf_23 : decode cX5_supportOf 23 = .ok (.iconst 2, 1) := by decide +kernel
theorem dX5_supportOf_24 : decode cX5_supportOf 24 = .ok (.goto 4, 3) := by decide +kernel
theorem dX5_supportOf_27 : decode cX5_supportOf 27 = .ok (.iconst 0, 1) := by decide +kernel
theorem dX5_supportOf_28 : decode cX5_supportOf 28 = .ok (.iadd, 1) := by decide +kernel
theorem dX5_supportOf_29 : decode cX5_supportOf 29 = .ok (.iload_n 0, 1) := by decide +kernel
theorem dX5_supportOf_30 : decode cX5_supportOf 30 = .ok (.bipush 10, 2) := by decide +kernel
theorem dX5_supportOf_32 : decode cX5_supportOf 32 = .ok (.idiv, 1) := by decide +kernel
theorem dX5_supportOf_33 : decode cX5_supportOf 33 = .ok (.bipush 10, 2) := by decide +kernel
theorem dX5_supportOf_35 : decode cX5_supportOf 35 = .ok (.irem, 1) := by decide +kernel
theorem dX5_supportOf_36 : decode cX5_supportOf 36 = .ok (.ifCond .le 7, 3) := by decide +kernel
theorem dX5_supportOf_39 : decode cX5_supportOf 39 = .ok (.iconst 4, 1) := by decide +kernel
theorem dX5_supportOf_40 : decode cX5_supportOf 40 = .ok (.goto 4, 3) := by decide +kernel
theorem dX5_supportOf_43 : decode cX5_supportOf 43 = .ok (.iconst 0, 1) := by decide +kernel
theorem dX5_supportOf_44 : decode cX5_supportOf 44 = .ok (.iadd, 1) := by decide +kernel
theorem dX5_supportOf_45 : decode cX5_supportOf 45 = .ok (.iload_n 0, 1) := by decide +kernel
theorem dX5_supportOf_46 : decode cX5_supportOf 46 = .ok (.bipush 10, 2) := by decide +kernel
theorem dX5_supportOf_48 : decode cX5_supportOf 48 = .ok (.irem, 1) := by decide +kernel
theorem dX5_supportOf_49 : decode cX5_supportOf 49 = .ok (.ifCond .le 8, 3) := by decide +kernel
theorem dX5_supportOf_52 : decode cX5_supportOf 52 = .ok (.bipush 8, 2) := by decide +kernel
theorem dX5_supportOf_54 : decode cX5_supportOf 54 = .ok (.goto 4, 3) := by decide +kernel
theorem dX5_supportOf_57 : decode cX5_supportOf 57 = .ok (.iconst 0, 1) := by decide +kernel
theorem dX5_supportOf_58 : decode cX5_supportOf 58 = .ok (.iadd, 1) := by decide +kernel
theorem dX5_supportOf_59 : decode cX5_supportOf 59 = .ok (.ireturn, 1) := by decide +kernel
theorem dX5_layMatcher_0 : decode cX5_layMatcher 0 = .ok (.aload_n 0, 1) := by decide +kernel
theorem dX5_layMatcher_1 : decode cX5_layMatcher 1 = .ok (.iconst (-1), 1) := by decide +kernel
theorem dX5_layMatcher_2 : decode cX5_layMatcher 2 = .ok (.iconst 0, 1) := by decide +kernel
theorem dX5_layMatcher_3 : decode cX5_layMatcher 3 = .ok (.invokevirtual 87, 3) := by decide +kernel
theorem dX5_layMatcher_6 : decode cX5_layMatcher 6 = .ok (.aload_n 0, 1) := by decide +kernel
theorem dX5_layMatcher_7 : decode cX5_layMatcher 7 = .ok (.invokevirtual 90, 3) := by decide +kernel
theorem dX5_layMatcher_10 : decode cX5_layMatcher 10 = .ok (.iload_n 1, 1) := by decide +kernel
theorem dX5_layMatcher_11 : decode cX5_layMatcher 11 = .ok (.i2l, 1) := by decide +kernel
theorem dX5_layMatcher_12 : decode cX5_layMatcher 12 = .ok (.lstore_n 2, 1) := by decide +kernel
theorem dX5_layMatcher_13 : decode cX5_layMatcher 13 = .ok (.iconst 0, 1) := by decide +kernel
theorem dX5_layMatcher_14 : decode cX5_layMatcher 14 = .ok (.istore 4, 2) := by decide +kernel
theorem dX5_layMatcher_16 : decode cX5_layMatcher 16 = .ok (.iconst 0, 1) := by decide +kernel
theorem dX5_layMatcher_17 : decode cX5_layMatcher 17 = .ok (.istore 5, 2) := by decide +kernel
theorem dX5_layMatcher_19 : decode cX5_layMatcher 19 = .ok (.iload 5, 2) := by decide +kernel
theorem dX5_layMatcher_21 : decode cX5_layMatcher 21 = .ok (.iconst 4, 1) := by decide +kernel
theorem dX5_layMatcher_22 : decode cX5_layMatcher 22 = .ok (.if_icmp .ge 191, 3) := by decide +kernel
theorem dX5_layMatcher_25 : decode cX5_layMatcher 25 = .ok (.sipush 700, 3) := by decide +kernel
theorem dX5_layMatcher_28 : decode cX5_layMatcher 28 = .ok (.iload 5, 2) := by decide +kernel
theorem dX5_layMatcher_30 : decode cX5_layMatcher 30 = .ok (.imul, 1) := by decide +kernel
theorem dX5_layMatcher_31 : decode cX5_layMatcher 31 = .ok (.istore 6, 2) := by decide +kernel
theorem dX5_layMatcher_33 : decode cX5_layMatcher 33 = .ok (.aload_n 0, 1) := by decide +kernel
theorem dX5_layMatcher_34 : decode cX5_layMatcher 34 = .ok (.getfield 34, 3) := by decide +kernel
theorem dX5_layMatcher_37 : decode cX5_layMatcher 37 = .ok (.bipush 16, 2) := by decide +kernel
theorem dX5_layMatcher_39 : decode cX5_layMatcher 39 = .ok (.iload 5, 2) := by decide +kernel
theorem dX5_layMatcher_41 : decode cX5_layMatcher 41 = .ok (.imul, 1) := by decide +kernel
theorem dX5_layMatcher_42 : decode cX5_layMatcher 42 = .ok (.bipush 16, 2) := by decide +kernel
theorem dX5_layMatcher_44 : decode cX5_layMatcher 44 = .ok (.iadd, 1) := by decide +kernel
theorem dX5_layMatcher_45 : decode cX5_layMatcher 45 = .ok (.iload 4, 2) := by decide +kernel
theorem dX5_layMatcher_47 : decode cX5_layMatcher 47 = .ok (.aload_n 0, 1) := by decide +kernel
theorem dX5_layMatcher_48 : decode cX5_layMatcher 48 = .ok (.getfield 25, 3) := by decide +kernel
theorem dX5_layMatcher_51 : decode cX5_layMatcher 51 = .ok (.iload 6, 2) := by decide +kernel
theorem dX5_layMatcher_53 : decode cX5_layMatcher 53 = .ok (.iaload, 1) := by decide +kernel
theorem dX5_layMatcher_54 : decode cX5_layMatcher 54 = .ok (.invokestatic 104, 3) := by decide +kernel
theorem dX5_layMatcher_57 : decode cX5_layMatcher 57 = .ok (.ior, 1) := by decide +kernel
theorem dX5_layMatcher_58 : decode cX5_layMatcher 58 = .ok (.iadd, 1) := by decide +kernel
theorem dX5_layMatcher_59 : decode cX5_layMatcher 59 = .ok (.laload, 1) := by decide +kernel
theorem dX5_layMatcher_60 : decode cX5_layMatcher 60 = .ok (.lstore 7, 2) := by decide +kernel
theorem dX5_layMatcher_62 : decode cX5_layMatcher 62 = .ok (.lload_n 2, 1) := by decide +kernel
theorem dX5_layMatcher_63 : decode cX5_layMatcher 63 = .ok (.lload 7, 2) := by decide +kernel
theorem dX5_layMatcher_65 : decode cX5_layMatcher 65 = .ok (.lcmp, 1) := by decide +kernel
theorem dX5_layMatcher_66 : decode cX5_layMatcher 66 = .ok (.ifCond .lt 43, 3) := by decide +kernel
theorem dX5_layMatcher_69 : decode cX5_layMatcher 69 = .ok (.lload_n 2, 1) := by decide +kernel
theorem dX5_layMatcher_70 : decode cX5_layMatcher 70 = .ok (.lload 7, 2) := by decide +kernel
theorem dX5_layMatcher_72 : decode cX5_layMatcher 72 = .ok (.lsub, 1) := by decide +kernel
theorem dX5_layMatcher_73 : decode cX5_layMatcher 73 = .ok (.lstore_n 2, 1) := by decide +kernel
theorem dX5_layMatcher_74 : decode cX5_layMatcher 74 = .ok (.iinc 6 1, 3) := by decide +kernel
theorem dX5_layMatcher_77 : decode cX5_layMatcher 77 = .ok (.aload_n 0, 1) := by decide +kernel
theorem dX5_layMatcher_78 : decode cX5_layMatcher 78 = .ok (.getfield 34, 3) := by decide +kernel
theorem dX5_layMatcher_81 : decode cX5_layMatcher 81 = .ok (.bipush 16, 2) := by decide +kernel
theorem dX5_layMatcher_83 : decode cX5_layMatcher 83 = .ok (.iload 5, 2) := by decide +kernel
theorem dX5_layMatcher_85 : decode cX5_layMatcher 85 = .ok (.imul, 1) := by decide +kernel
theorem dX5_layMatcher_86 : decode cX5_layMatcher 86 = .ok (.bipush 16, 2) := by decide +kernel
theorem dX5_layMatcher_88 : decode cX5_layMatcher 88 = .ok (.iadd, 1) := by decide +kernel
theorem dX5_layMatcher_89 : decode cX5_layMatcher 89 = .ok (.iload 4, 2) := by decide +kernel
theorem dX5_layMatcher_91 : decode cX5_layMatcher 91 = .ok (.aload_n 0, 1) := by decide +kernel
theorem dX5_layMatcher_92 : decode cX5_layMatcher 92 = .ok (.getfield 25, 3) := by decide +kernel
theorem dX5_layMatcher_95 : decode cX5_layMatcher 95 = .ok (.iload 6, 2) := by decide +kernel
theorem dX5_layMatcher_97 : decode cX5_layMatcher 97 = .ok (.iaload, 1) := by decide +kernel
theorem dX5_layMatcher_98 : decode cX5_layMatcher 98 = .ok (.invokestatic 104, 3) := by decide +kernel
theorem dX5_layMatcher_101 : decode cX5_layMatcher 101 = .ok (.ior, 1) := by decide +kernel
theorem dX5_layMatcher_102 : decode cX5_layMatcher 102 = .ok (.iadd, 1) := by decide +kernel
theorem dX5_layMatcher_103 : decode cX5_layMatcher 103 = .ok (.laload, 1) := by decide +kernel
theorem dX5_layMatcher_104 : decode cX5_layMatcher 104 = .ok (.lstore 7, 2) := by decide +kernel
theorem dX5_layMatcher_106 : decode cX5_layMatcher 106 = .ok (.goto (-44), 3) := by decide +kernel
theorem dX5_layMatcher_109 : decode cX5_layMatcher 109 = .ok (.iload 4, 2) := by decide +kernel
theorem dX5_layMatcher_111 : decode cX5_layMatcher 111 = .ok (.aload_n 0, 1) := by decide +kernel
theorem dX5_layMatcher_112 : decode cX5_layMatcher 112 = .ok (.getfield 25, 3) := by decide +kernel
theorem dX5_layMatcher_115 : decode cX5_layMatcher 115 = .ok (.iload 6, 2) := by decide +kernel
theorem dX5_layMatcher_117 : decode cX5_layMatcher 117 = .ok (.iaload, 1) := by decide +kernel
theorem dX5_layMatcher_118 : decode cX5_layMatcher 118 = .ok (.invokestatic 104, 3) := by decide +kernel
theorem dX5_layMatcher_121 : decode cX5_layMatcher 121 = .ok (.ior, 1) := by decide +kernel
theorem dX5_layMatcher_122 : decode cX5_layMatcher 122 = .ok (.istore 4, 2) := by decide +kernel
theorem dX5_layMatcher_124 : decode cX5_layMatcher 124 = .ok (.aload_n 0, 1) := by decide +kernel
theorem dX5_layMatcher_125 : decode cX5_layMatcher 125 = .ok (.getfield 38, 3) := by decide +kernel
theorem dX5_layMatcher_128 : decode cX5_layMatcher 128 = .ok (.iload 5, 2) := by decide +kernel
theorem dX5_layMatcher_130 : decode cX5_layMatcher 130 = .ok (.aload_n 0, 1) := by decide +kernel
theorem dX5_layMatcher_131 : decode cX5_layMatcher 131 = .ok (.getfield 25, 3) := by decide +kernel
theorem dX5_layMatcher_134 : decode cX5_layMatcher 134 = .ok (.iload 6, 2) := by decide +kernel
theorem dX5_layMatcher_136 : decode cX5_layMatcher 136 = .ok (.iaload, 1) := by decide +kernel
theorem dX5_layMatcher_137 : decode cX5_layMatcher 137 = .ok (.sipush 1000, 3) := by decide +kernel
theorem dX5_layMatcher_140 : decode cX5_layMatcher 140 = .ok (.idiv, 1) := by decide +kernel
theorem dX5_layMatcher_141 : decode cX5_layMatcher 141 = .ok (.iastore, 1) := by decide +kernel
theorem dX5_layMatcher_142 : decode cX5_layMatcher 142 = .ok (.aload_n 0, 1) := by decide +kernel
theorem dX5_layMatcher_143 : decode cX5_layMatcher 143 = .ok (.getfield 38, 3) := by decide +kernel
theorem dX5_layMatcher_146 : decode cX5_layMatcher 146 = .ok (.iconst 4, 1) := by decide +kernel
theorem dX5_layMatcher_147 : decode cX5_layMatcher 147 = .ok (.iload 5, 2) := by decide +kernel
theorem dX5_layMatcher_149 : decode cX5_layMatcher 149 = .ok (.iadd, 1) := by decide +kernel
theorem dX5_layMatcher_150 : decode cX5_layMatcher 150 = .ok (.aload_n 0, 1) := by decide +kernel
theorem dX5_layMatcher_151 : decode cX5_layMatcher 151 = .ok (.getfield 25, 3) := by decide +kernel
theorem dX5_layMatcher_154 : decode cX5_layMatcher 154 = .ok (.iload 6, 2) := by decide +kernel
theorem dX5_layMatcher_156 : decode cX5_layMatcher 156 = .ok (.iaload, 1) := by decide +kernel
theorem dX5_layMatcher_157 : decode cX5_layMatcher 157 = .ok (.bipush 100, 2) := by decide +kernel
theorem dX5_layMatcher_159 : decode cX5_layMatcher 159 = .ok (.idiv, 1) := by decide +kernel
theorem dX5_layMatcher_160 : decode cX5_layMatcher 160 = .ok (.bipush 10, 2) := by decide +kernel
theorem dX5_layMatcher_162 : decode cX5_layMatcher 162 = .ok (.irem, 1) := by decide +kernel
theorem dX5_layMatcher_163 : decode cX5_layMatcher 163 = .ok (.iastore, 1) := by decide +kernel
theorem dX5_layMatcher_164 : decode cX5_layMatcher 164 = .ok (.aload_n 0, 1) := by decide +kernel
theorem dX5_layMatcher_165 : decode cX5_layMatcher 165 = .ok (.getfield 38, 3) := by decide +kernel
theorem dX5_layMatcher_168 : decode cX5_layMatcher 168 = .ok (.bipush 8, 2) := by decide +kernel
theorem dX5_layMatcher_170 : decode cX5_layMatcher 170 = .ok (.iload 5, 2) := by decide +kernel
theorem dX5_layMatcher_172 : decode cX5_layMatcher 172 = .ok (.iadd, 1) := by decide +kernel
theorem dX5_layMatcher_173 : decode cX5_layMatcher 173 = .ok (.aload_n 0, 1) := by decide +kernel
theorem dX5_layMatcher_174 : decode cX5_layMatcher 174 = .ok (.getfield 25, 3) := by decide +kernel
theorem dX5_layMatcher_177 : decode cX5_layMatcher 177 = .ok (.iload 6, 2) := by decide +kernel
theorem dX5_layMatcher_179 : decode cX5_layMatcher 179 = .ok (.iaload, 1) := by decide +kernel
theorem dX5_layMatcher_180 : decode cX5_layMatcher 180 = .ok (.bipush 10, 2) := by decide +kernel
theorem dX5_layMatcher_182 : decode cX5_layMatcher 182 = .ok (.idiv, 1) := by decide +kernel
theorem dX5_layMatcher_183 : decode cX5_layMatcher 183 = .ok (.bipush 10, 2) := by decide +kernel
theorem dX5_layMatcher_185 : decode cX5_layMatcher 185 = .ok (.irem, 1) := by decide +kernel
theorem dX5_layMatcher_186 : decode cX5_layMatcher 186 = .ok (.iastore, 1) := by decide +kernel
theorem dX5_layMatcher_187 : decode cX5_layMatcher 187 = .ok (.aload_n 0, 1) := by decide +kernel
theorem dX5_layMatcher_188 : decode cX5_layMatcher 188 = .ok (.getfield 38, 3) := by decide +kernel
theorem dX5_layMatcher_191 : decode cX5_layMatcher 191 = .ok (.bipush 12, 2) := by decide +kernel
theorem dX5_layMatcher_193 : decode cX5_layMatcher 193 = .ok (.iload 5, 2) := by decide +kernel
theorem dX5_layMatcher_195 : decode cX5_layMatcher 195 = .ok (.iadd, 1) := by decide +kernel
theorem dX5_layMatcher_196 : decode cX5_layMatcher 196 = .ok (.aload_n 0, 1) := by decide +kernel
theorem dX5_layMatcher_197 : decode cX5_layMatcher 197 = .ok (.getfield 25, 3) := by decide +kernel
theorem dX5_layMatcher_200 : decode cX5_layMatcher 200 = .ok (.iload 6, 2) := by decide +kernel
theorem dX5_layMatcher_202 : decode cX5_layMatcher 202 = .ok (.iaload, 1) := by decide +kernel
theorem dX5_layMatcher_203 : decode cX5_layMatcher 203 = .ok (.bipush 10, 2) := by decide +kernel
theorem dX5_layMatcher_205 : decode cX5_layMatcher 205 = .ok (.irem, 1) := by decide +kernel
theorem dX5_layMatcher_206 : decode cX5_layMatcher 206 = .ok (.iastore, 1) := by decide +kernel
theorem dX5_layMatcher_207 : decode cX5_layMatcher 207 = .ok (.iinc 5 1, 3) := by decide +kernel
theorem dX5_layMatcher_210 : decode cX5_layMatcher 210 = .ok (.goto (-191), 3) := by decide +kernel
theorem dX5_layMatcher_213 : decode cX5_layMatcher 213 = .ok (.return_, 1) := by decide +kernel
theorem dX5_valueOf_0 : decode cX5_valueOf 0 = .ok (.aload_n 0, 1) := by decide +kernel
theorem dX5_valueOf_1 : decode cX5_valueOf 1 = .ok (.iconst 0, 1) := by decide +kernel
theorem dX5_valueOf_2 : decode cX5_valueOf 2 = .ok (.iload_n 1, 1) := by decide +kernel
theorem dX5_valueOf_3 : decode cX5_valueOf 3 = .ok (.invokevirtual 65, 3) := by decide +kernel
theorem dX5_valueOf_6 : decode cX5_valueOf 6 = .ok (.ifCond .ne 7, 3) := by decide +kernel
theorem dX5_valueOf_9 : decode cX5_valueOf 9 = .ok (.iconst (-1), 1) := by decide +kernel
theorem dX5_valueOf_10 : decode cX5_valueOf 10 = .ok (.goto 13, 3) := by decide +kernel
theorem dX5_valueOf_13 : decode cX5_valueOf 13 = .ok (.aload_n 0, 1) := by decide +kernel
theorem dX5_valueOf_14 : decode cX5_valueOf 14 = .ok (.getfield 38, 3) := by decide +kernel
theorem dX5_valueOf_17 : decode cX5_valueOf 17 = .ok (.iconst 4, 1) := by decide +kernel
theorem dX5_valueOf_18 : decode cX5_valueOf 18 = .ok (.iload_n 1, 1) := by decide +kernel
theorem dX5_valueOf_19 : decode cX5_valueOf 19 = .ok (.imul, 1) := by decide +kernel
theorem dX5_valueOf_20 : decode cX5_valueOf 20 = .ok (.iload_n 2, 1) := by decide +kernel
theorem dX5_valueOf_21 : decode cX5_valueOf 21 = .ok (.iadd, 1) := by decide +kernel
theorem dX5_valueOf_22 : decode cX5_valueOf 22 = .ok (.iaload, 1) := by decide +kernel
theorem dX5_valueOf_23 : decode cX5_valueOf 23 = .ok (.ireturn, 1) := by decide +kernel
theorem dX5_isStrange_0 : decode cX5_isStrange 0 = .ok (.iconst 0, 1) := by decide +kernel
theorem dX5_isStrange_1 : decode cX5_isStrange 1 = .ok (.istore_n 1, 1) := by decide +kernel
theorem dX5_isStrange_2 : decode cX5_isStrange 2 = .ok (.iconst 0, 1) := by decide +kernel
theorem dX5_isStrange_3 : decode cX5_isStrange 3 = .ok (.istore_n 2, 1) := by decide +kernel
theorem dX5_isStrange_4 : decode cX5_isStrange 4 = .ok (.iload_n 2, 1) := by decide +kernel
theorem dX5_isStrange_5 : decode cX5_isStrange 5 = .ok (.iconst 4, 1) := by decide +kernel
theorem dX5_isStrange_6 : decode cX5_isStrange 6 = .ok (.if_icmp .ge 37, 3) := by decide +kernel
theorem dX5_isStrange_9 : decode cX5_isStrange 9 = .ok (.iload_n 1, 1) := by decide +kernel
theorem dX5_isStrange_10 : decode cX5_isStrange 10 = .ok (.ifCond .ne 21, 3) := by decide +kernel
theorem dX5_isStrange_13 : decode cX5_isStrange 13 = .ok (.aload_n 0, 1) := by decide +kernel
theorem dX5_isStrange_14 : decode cX5_isStrange 14 = .ok (.iconst 1, 1) := by decide +kernel
theorem dX5_isStrange_15 : decode cX5_isStrange 15 = .ok (.iload_n 2, 1) := by decide +kernel
theorem dX5_isStrange_16 : decode cX5_isStrange 16 = .ok (.invokevirtual 65, 3) := by decide +kernel
theorem dX5_isStrange_19 : decode cX5_isStrange 19 = .ok (.ifCond .le 16, 3) := by decide +kernel
theorem dX5_isStrange_22 : decode cX5_isStrange 22 = .ok (.aload_n 0, 1) := by decide +kernel
theorem dX5_isStrange_23 : decode cX5_isStrange 23 = .ok (.iconst 0, 1) := by decide +kernel
theorem dX5_isStrange_24 : decode cX5_isStrange 24 = .ok (.iload_n 2, 1) := by decide +kernel
theorem dX5_isStrange_25 : decode cX5_isStrange 25 = .ok (.invokevirtual 65, 3) := by decide +kernel
theorem dX5_isStrange_28 : decode cX5_isStrange 28 = .ok (.ifCond .ne 7, 3) := by decide +kernel
theorem dX5_isStrange_31 : decode cX5_isStrange 31 = .ok (.iconst 1, 1) := by decide +kernel
theorem dX5_isStrange_32 : decode cX5_isStrange 32 = .ok (.goto 4, 3) := by decide +kernel
theorem dX5_isStrange_35 : decode cX5_isStrange 35 = .ok (.iconst 0, 1) := by decide +kernel
theorem dX5_isStrange_36 : decode cX5_isStrange 36 = .ok (.istore_n 1, 1) := by decide +kernel
theorem dX5_isStrange_37 : decode cX5_isStrange 37 = .ok (.iinc 2 1, 3) := by decide +kernel
theorem dX5_isStrange_40 : decode cX5_isStrange 40 = .ok (.goto (-36), 3) := by decide +kernel
theorem dX5_isStrange_43 : decode cX5_isStrange 43 = .ok (.iload_n 1, 1) := by decide +kernel
theorem dX5_isStrange_44 : decode cX5_isStrange 44 = .ok (.ireturn, 1) := by decide +kernel
theorem dX5_rewritten_0 : decode cX5_rewritten 0 = .ok (.aload_n 0, 1) := by decide +kernel
theorem dX5_rewritten_1 : decode cX5_rewritten 1 = .ok (.iconst 1, 1) := by decide +kernel
theorem dX5_rewritten_2 : decode cX5_rewritten 2 = .ok (.iload_n 1, 1) := by decide +kernel
theorem dX5_rewritten_3 : decode cX5_rewritten 3 = .ok (.invokevirtual 57, 3) := by decide +kernel
theorem dX5_rewritten_6 : decode cX5_rewritten 6 = .ok (.istore_n 2, 1) := by decide +kernel
theorem dX5_rewritten_7 : decode cX5_rewritten 7 = .ok (.iconst 0, 1) := by decide +kernel
theorem dX5_rewritten_8 : decode cX5_rewritten 8 = .ok (.istore_n 3, 1) := by decide +kernel
theorem dX5_rewritten_9 : decode cX5_rewritten 9 = .ok (.iload_n 3, 1) := by decide +kernel
theorem dX5_rewritten_10 : decode cX5_rewritten 10 = .ok (.iconst 4, 1) := by decide +kernel
theorem dX5_rewritten_11 : decode cX5_rewritten 11 = .ok (.if_icmp .ge 29, 3) := by decide +kernel
theorem dX5_rewritten_14 : decode cX5_rewritten 14 = .ok (.iload_n 2, 1) := by decide +kernel
theorem dX5_rewritten_15 : decode cX5_rewritten 15 = .ok (.aload_n 0, 1) := by decide +kernel
theorem dX5_rewritten_16 : decode cX5_rewritten 16 = .ok (.iconst 1, 1) := by decide +kernel
theorem dX5_rewritten_17 : decode cX5_rewritten 17 = .ok (.iload_n 3, 1) := by decide +kernel
theorem dX5_rewritten_18 : decode cX5_rewritten 18 = .ok (.invokevirtual 65, 3) := by decide +kernel
theorem dX5_rewritten_21 : decode cX5_rewritten 21 = .ok (.aload_n 0, 1) := by decide +kernel
theorem dX5_rewritten_22 : decode cX5_rewritten 22 = .ok (.getfield 38, 3) := by decide +kernel
theorem dX5_rewritten_25 : decode cX5_rewritten 25 = .ok (.iconst 4, 1) := by decide +kernel
theorem dX5_rewritten_26 : decode cX5_rewritten 26 = .ok (.iload_n 3, 1) := by decide +kernel
theorem dX5_rewritten_27 : decode cX5_rewritten 27 = .ok (.imul, 1) := by decide +kernel
theorem dX5_rewritten_28 : decode cX5_rewritten 28 = .ok (.iload_n 1, 1) := by decide +kernel
theorem dX5_rewritten_29 : decode cX5_rewritten 29 = .ok (.iadd, 1) := by decide +kernel
theorem dX5_rewritten_30 : decode cX5_rewritten 30 = .ok (.iaload, 1) := by decide +kernel
theorem dX5_rewritten_31 : decode cX5_rewritten 31 = .ok (.imul, 1) := by decide +kernel
theorem dX5_rewritten_32 : decode cX5_rewritten 32 = .ok (.iadd, 1) := by decide +kernel
theorem dX5_rewritten_33 : decode cX5_rewritten 33 = .ok (.istore_n 2, 1) := by decide +kernel
theorem dX5_rewritten_34 : decode cX5_rewritten 34 = .ok (.iinc 3 1, 3) := by decide +kernel
theorem dX5_rewritten_37 : decode cX5_rewritten 37 = .ok (.goto (-28), 3) := by decide +kernel
theorem dX5_rewritten_40 : decode cX5_rewritten 40 = .ok (.iload_n 2, 1) := by decide +kernel
theorem dX5_rewritten_41 : decode cX5_rewritten 41 = .ok (.ireturn, 1) := by decide +kernel
theorem dX5_isTooMuch_0 : decode cX5_isTooMuch 0 = .ok (.iconst 0, 1) := by decide +kernel
theorem dX5_isTooMuch_1 : decode cX5_isTooMuch 1 = .ok (.istore_n 1, 1) := by decide +kernel
theorem dX5_isTooMuch_2 : decode cX5_isTooMuch 2 = .ok (.iconst 0, 1) := by decide +kernel
theorem dX5_isTooMuch_3 : decode cX5_isTooMuch 3 = .ok (.istore_n 2, 1) := by decide +kernel
theorem dX5_isTooMuch_4 : decode cX5_isTooMuch 4 = .ok (.iload_n 2, 1) := by decide +kernel
theorem dX5_isTooMuch_5 : decode cX5_isTooMuch 5 = .ok (.iconst 4, 1) := by decide +kernel
theorem dX5_isTooMuch_6 : decode cX5_isTooMuch 6 = .ok (.if_icmp .ge 29, 3) := by decide +kernel
theorem dX5_isTooMuch_9 : decode cX5_isTooMuch 9 = .ok (.iload_n 1, 1) := by decide +kernel
theorem dX5_isTooMuch_10 : decode cX5_isTooMuch 10 = .ok (.ifCond .ne 13, 3) := by decide +kernel
theorem dX5_isTooMuch_13 : decode cX5_isTooMuch 13 = .ok (.aload_n 0, 1) := by decide +kernel
theorem dX5_isTooMuch_14 : decode cX5_isTooMuch 14 = .ok (.iload_n 2, 1) := by decide +kernel
theorem dX5_isTooMuch_15 : decode cX5_isTooMuch 15 = .ok (.invokevirtual 107, 3) := by decide +kernel
theorem dX5_isTooMuch_18 : decode cX5_isTooMuch 18 = .ok (.bipush 9, 2) := by decide +kernel
theorem dX5_isTooMuch_20 : decode cX5_isTooMuch 20 = .ok (.if_icmp .le 7, 3) := by decide +kernel
theorem dX5_isTooMuch_23 : decode cX5_isTooMuch 23 = .ok (.iconst 1, 1) := by decide +kernel
theorem dX5_isTooMuch_24 : decode cX5_isTooMuch 24 = .ok (.goto 4, 3) := by decide +kernel
theorem dX5_isTooMuch_27 : decode cX5_isTooMuch 27 = .ok (.iconst 0, 1) := by decide +kernel
theorem dX5_isTooMuch_28 : decode cX5_isTooMuch 28 = .ok (.istore_n 1, 1) := by decide +kernel
theorem dX5_isTooMuch_29 : decode cX5_isTooMuch 29 = .ok (.iinc 2 1, 3) := by decide +kernel
theorem dX5_isTooMuch_32 : decode cX5_isTooMuch 32 = .ok (.goto (-28), 3) := by decide +kernel
theorem dX5_isTooMuch_35 : decode cX5_isTooMuch 35 = .ok (.iload_n 1, 1) := by decide +kernel
theorem dX5_isTooMuch_36 : decode cX5_isTooMuch 36 = .ok (.ireturn, 1) := by decide +kernel
theorem dX5_digit_0 : decode cX5_digit 0 = .ok (.iload_n 1, 1) := by decide +kernel
theorem dX5_digit_1 : decode cX5_digit 1 = .ok (.ifCond .ne 11, 3) := by decide +kernel
theorem dX5_digit_4 : decode cX5_digit 4 = .ok (.iload_n 0, 1) := by decide +kernel
theorem dX5_digit_5 : decode cX5_digit 5 = .ok (.sipush 1000, 3) := by decide +kernel
theorem dX5_digit_8 : decode cX5_digit 8 = .ok (.idiv, 1) := by decide +kernel
theorem dX5_digit_9 : decode cX5_digit 9 = .ok (.goto 37, 3) := by decide +kernel
theorem dX5_digit_12 : decode cX5_digit 12 = .ok (.iload_n 1, 1) := by decide +kernel
theorem dX5_digit_13 : decode cX5_digit 13 = .ok (.iconst 1, 1) := by decide +kernel
theorem dX5_digit_14 : decode cX5_digit 14 = .ok (.if_icmp .ne 13, 3) := by decide +kernel
theorem dX5_digit_17 : decode cX5_digit 17 = .ok (.iload_n 0, 1) := by decide +kernel
theorem dX5_digit_18 : decode cX5_digit 18 = .ok (.bipush 100, 2) := by decide +kernel
theorem dX5_digit_20 : decode cX5_digit 20 = .ok (.idiv, 1) := by decide +kernel
theorem dX5_digit_21 : decode cX5_digit 21 = .ok (.bipush 10, 2) := by decide +kernel
theorem dX5_digit_23 : decode cX5_digit 23 = .ok (.irem, 1) := by decide +kernel
theorem dX5_digit_24 : decode cX5_digit 24 = .ok (.goto 22, 3) := by decide +kernel
theorem dX5_digit_27 : decode cX5_digit 27 = .ok (.iload_n 1, 1) := by decide +kernel
theorem dX5_digit_28 : decode cX5_digit 28 = .ok (.iconst 2, 1) := by decide +kernel
theorem dX5_digit_29 : decode cX5_digit 29 = .ok (.if_icmp .ne 13, 3) := by decide +kernel
theorem dX5_digit_32 : decode cX5_digit 32 = .ok (.iload_n 0, 1) := by decide +kernel
theorem dX5_digit_33 : decode cX5_digit 33 = .ok (.bipush 10, 2) := by decide +kernel
theorem dX5_digit_35 : decode cX5_digit 35 = .ok (.idiv, 1) := by decide +kernel
theorem dX5_digit_36 : decode cX5_digit 36 = .ok (.bipush 10, 2) := by decide +kernel
theorem dX5_digit_38 : decode cX5_digit 38 = .ok (.irem, 1) := by decide +kernel
theorem dX5_digit_39 : decode cX5_digit 39 = .ok (.goto 7, 3) := by decide +kernel
theorem dX5_digit_42 : decode cX5_digit 42 = .ok (.iload_n 0, 1) := by decide +kernel
theorem dX5_digit_43 : decode cX5_digit 43 = .ok (.bipush 10, 2) := by decide +kernel
theorem dX5_digit_45 : decode cX5_digit 45 = .ok (.irem, 1) := by decide +kernel
theorem dX5_digit_46 : decode cX5_digit 46 = .ok (.ireturn, 1) := by decide +kernel
theorem dX5_differenceOf_0 : decode cX5_differenceOf 0 = .ok (.aload_n 0, 1) := by decide +kernel
theorem dX5_differenceOf_1 : decode cX5_differenceOf 1 = .ok (.iconst 0, 1) := by decide +kernel
theorem dX5_differenceOf_2 : decode cX5_differenceOf 2 = .ok (.iload_n 1, 1) := by decide +kernel
theorem dX5_differenceOf_3 : decode cX5_differenceOf 3 = .ok (.invokevirtual 65, 3) := by decide +kernel
theorem dX5_differenceOf_6 : decode cX5_differenceOf 6 = .ok (.aload_n 0, 1) := by decide +kernel
theorem dX5_differenceOf_7 : decode cX5_differenceOf 7 = .ok (.iconst 1, 1) := by decide +kernel
theorem dX5_differenceOf_8 : decode cX5_differenceOf 8 = .ok (.iload_n 1, 1) := by decide +kernel
theorem dX5_differenceOf_9 : decode cX5_differenceOf 9 = .ok (.invokevirtual 65, 3) := by decide +kernel
theorem dX5_differenceOf_12 : decode cX5_differenceOf 12 = .ok (.isub, 1) := by decide +kernel
theorem dX5_differenceOf_13 : decode cX5_differenceOf 13 = .ok (.ireturn, 1) := by decide +kernel
theorem dX5_fulfils_0 : decode cX5_fulfils 0 = .ok (.iconst 0, 1) := by decide +kernel
theorem dX5_fulfils_1 : decode cX5_fulfils 1 = .ok (.istore_n 2, 1) := by decide +kernel
theorem dX5_fulfils_2 : decode cX5_fulfils 2 = .ok (.iconst 0, 1) := by decide +kernel
theorem dX5_fulfils_3 : decode cX5_fulfils 3 = .ok (.istore_n 3, 1) := by decide +kernel
theorem dX5_fulfils_4 : decode cX5_fulfils 4 = .ok (.iload_n 3, 1) := by decide +kernel
theorem dX5_fulfils_5 : decode cX5_fulfils 5 = .ok (.iconst 4, 1) := by decide +kernel
theorem dX5_fulfils_6 : decode cX5_fulfils 6 = .ok (.if_icmp .ge 23, 3) := by decide +kernel
theorem dX5_fulfils_9 : decode cX5_fulfils 9 = .ok (.iload_n 2, 1) := by decide +kernel
theorem dX5_fulfils_10 : decode cX5_fulfils 10 = .ok (.aload_n 0, 1) := by decide +kernel
theorem dX5_fulfils_11 : decode cX5_fulfils 11 = .ok (.iload_n 3, 1) := by decide +kernel
theorem dX5_fulfils_12 : decode cX5_fulfils 12 = .ok (.invokevirtual 110, 3) := by decide +kernel
theorem dX5_fulfils_15 : decode cX5_fulfils 15 = .ok (.iload_n 1, 1) := by decide +kernel
theorem dX5_fulfils_16 : decode cX5_fulfils 16 = .ok (.iload_n 3, 1) := by decide +kernel
theorem dX5_fulfils_17 : decode cX5_fulfils 17 = .ok (.invokestatic 113, 3) := by decide +kernel
theorem dX5_fulfils_20 : decode cX5_fulfils 20 = .ok (.imul, 1) := by decide +kernel
theorem dX5_fulfils_21 : decode cX5_fulfils 21 = .ok (.iadd, 1) := by decide +kernel
theorem dX5_fulfils_22 : decode cX5_fulfils 22 = .ok (.istore_n 2, 1) := by decide +kernel
theorem dX5_fulfils_23 : decode cX5_fulfils 23 = .ok (.iinc 3 1, 3) := by decide +kernel
theorem dX5_fulfils_26 : decode cX5_fulfils 26 = .ok (.goto (-22), 3) := by decide +kernel
theorem dX5_fulfils_29 : decode cX5_fulfils 29 = .ok (.iload_n 2, 1) := by decide +kernel
theorem dX5_fulfils_30 : decode cX5_fulfils 30 = .ok (.ifCond .ne 7, 3) := by decide +kernel
theorem dX5_fulfils_33 : decode cX5_fulfils 33 = .ok (.iconst 1, 1) := by decide +kernel
theorem dX5_fulfils_34 : decode cX5_fulfils 34 = .ok (.goto 4, 3) := by decide +kernel
theorem dX5_fulfils_37 : decode cX5_fulfils 37 = .ok (.iconst 0, 1) := by decide +kernel
theorem dX5_fulfils_38 : decode cX5_fulfils 38 = .ok (.ireturn, 1) := by decide +kernel
theorem dX5_isAbove_0 : decode cX5_isAbove 0 = .ok (.iconst 1, 1) := by decide +kernel
theorem dX5_isAbove_1 : decode cX5_isAbove 1 = .ok (.istore_n 3, 1) := by decide +kernel
theorem dX5_isAbove_2 : decode cX5_isAbove 2 = .ok (.iconst 0, 1) := by decide +kernel
theorem dX5_isAbove_3 : decode cX5_isAbove 3 = .ok (.istore 4, 2) := by decide +kernel
theorem dX5_isAbove_5 : decode cX5_isAbove 5 = .ok (.iload 4, 2) := by decide +kernel
theorem dX5_isAbove_7 : decode cX5_isAbove 7 = .ok (.iconst 4, 1) := by decide +kernel
theorem dX5_isAbove_8 : decode cX5_isAbove 8 = .ok (.if_icmp .ge 34, 3) := by decide +kernel
theorem dX5_isAbove_11 : decode cX5_isAbove 11 = .ok (.iload_n 3, 1) := by decide +kernel
theorem dX5_isAbove_12 : decode cX5_isAbove 12 = .ok (.ifCond .eq 22, 3) := by decide +kernel
theorem dX5_isAbove_15 : decode cX5_isAbove 15 = .ok (.iload_n 1, 1) := by decide +kernel
theorem dX5_isAbove_16 : decode cX5_isAbove 16 = .ok (.iload 4, 2) := by decide +kernel
theorem dX5_isAbove_18 : decode cX5_isAbove 18 = .ok (.invokestatic 113, 3) := by decide +kernel
theorem dX5_isAbove_21 : decode cX5_isAbove 21 = .ok (.iload_n 2, 1) := by decide +kernel
theorem dX5_isAbove_22 : decode cX5_isAbove 22 = .ok (.iload 4, 2) := by decide +kernel
theorem dX5_isAbove_24 : decode cX5_isAbove 24 = .ok (.invokestatic 113, 3) := by decide +kernel
theorem dX5_isAbove_27 : decode cX5_isAbove 27 = .ok (.if_icmp .lt 7, 3) := by decide +kernel
theorem dX5_isAbove_30 : decode cX5_isAbove 30 = .ok (.iconst 1, 1) := by decide +kernel
theorem dX5_isAbove_31 : decode cX5_isAbove 31 = .ok (.goto 4, 3) := by decide +kernel
theorem dX5_isAbove_34 : decode cX5_isAbove 34 = .ok (.iconst 0, 1) := by decide +kernel
theorem dX5_isAbove_35 : decode cX5_isAbove 35 = .ok (.istore_n 3, 1) := by decide +kernel
theorem dX5_isAbove_36 : decode cX5_isAbove 36 = .ok (.iinc 4 1, 3) := by decide +kernel
theorem dX5_isAbove_39 : decode cX5_isAbove 39 = .ok (.goto (-34), 3) := by decide +kernel
theorem dX5_isAbove_42 : decode cX5_isAbove 42 = .ok (.iload_n 3, 1) := by decide +kernel
theorem dX5_isAbove_43 : decode cX5_isAbove 43 = .ok (.ireturn, 1) := by decide +kernel
theorem dX5_isLeast_0 : decode cX5_isLeast 0 = .ok (.iconst 1, 1) := by decide +kernel
theorem dX5_isLeast_1 : decode cX5_isLeast 1 = .ok (.istore_n 2, 1) := by decide +kernel
theorem dX5_isLeast_2 : decode cX5_isLeast 2 = .ok (.iconst 0, 1) := by decide +kernel
theorem dX5_isLeast_3 : decode cX5_isLeast 3 = .ok (.istore_n 3, 1) := by decide +kernel
theorem dX5_isLeast_4 : decode cX5_isLeast 4 = .ok (.iload_n 3, 1) := by decide +kernel
theorem dX5_isLeast_5 : decode cX5_isLeast 5 = .ok (.aload_n 0, 1) := by decide +kernel
theorem dX5_isLeast_6 : decode cX5_isLeast 6 = .ok (.getfield 116, 3) := by decide +kernel
theorem dX5_isLeast_9 : decode cX5_isLeast 9 = .ok (.if_icmp .ge 33, 3) := by decide +kernel
theorem dX5_isLeast_12 : decode cX5_isLeast 12 = .ok (.iload_n 2, 1) := by decide +kernel
theorem dX5_isLeast_13 : decode cX5_isLeast 13 = .ok (.ifCond .eq 21, 3) := by decide +kernel
theorem dX5_isLeast_16 : decode cX5_isLeast 16 = .ok (.aload_n 0, 1) := by decide +kernel
theorem dX5_isLeast_17 : decode cX5_isLeast 17 = .ok (.iload_n 1, 1) := by decide +kernel
theorem dX5_isLeast_18 : decode cX5_isLeast 18 = .ok (.aload_n 0, 1) := by decide +kernel
theorem dX5_isLeast_19 : decode cX5_isLeast 19 = .ok (.getfield 41, 3) := by decide +kernel
theorem dX5_isLeast_22 : decode cX5_isLeast 22 = .ok (.iload_n 3, 1) := by decide +kernel
theorem dX5_isLeast_23 : decode cX5_isLeast 23 = .ok (.iaload, 1) := by decide +kernel
theorem dX5_isLeast_24 : decode cX5_isLeast 24 = .ok (.invokevirtual 119, 3) := by decide +kernel
theorem dX5_isLeast_27 : decode cX5_isLeast 27 = .ok (.ifCond .ne 7, 3) := by decide +kernel
theorem dX5_isLeast_30 : decode cX5_isLeast 30 = .ok (.iconst 1, 1) := by decide +kernel
theorem dX5_isLeast_31 : decode cX5_isLeast 31 = .ok (.goto 4, 3) := by decide +kernel
theorem dX5_isLeast_34 : decode cX5_isLeast 34 = .ok (.iconst 0, 1) := by decide +kernel
theorem dX5_isLeast_35 : decode cX5_isLeast 35 = .ok (.istore_n 2, 1) := by decide +kernel
theorem dX5_isLeast_36 : decode cX5_isLeast 36 = .ok (.iinc 3 1, 3) := by decide +kernel
theorem dX5_isLeast_39 : decode cX5_isLeast 39 = .ok (.goto (-35), 3) := by decide +kernel
theorem dX5_isLeast_42 : decode cX5_isLeast 42 = .ok (.iload_n 2, 1) := by decide +kernel
theorem dX5_isLeast_43 : decode cX5_isLeast 43 = .ok (.ireturn, 1) := by decide +kernel
theorem dX5_layLeast_0 : decode cX5_layLeast 0 = .ok (.aload_n 0, 1) := by decide +kernel
theorem dX5_layLeast_1 : decode cX5_layLeast 1 = .ok (.iconst 0, 1) := by decide +kernel
theorem dX5_layLeast_2 : decode cX5_layLeast 2 = .ok (.putfield 116, 3) := by decide +kernel
theorem dX5_layLeast_5 : decode cX5_layLeast 5 = .ok (.iconst 1, 1) := by decide +kernel
theorem dX5_layLeast_6 : decode cX5_layLeast 6 = .ok (.istore_n 1, 1) := by decide +kernel
theorem dX5_layLeast_7 : decode cX5_layLeast 7 = .ok (.iload_n 1, 1) := by decide +kernel
theorem dX5_layLeast_8 : decode cX5_layLeast 8 = .ok (.sipush 1296, 3) := by decide +kernel
theorem dX5_layLeast_11 : decode cX5_layLeast 11 = .ok (.if_icmp .ge 82, 3) := by decide +kernel
theorem dX5_layLeast_14 : decode cX5_layLeast 14 = .ok (.sipush 1000, 3) := by decide +kernel
theorem dX5_layLeast_17 : decode cX5_layLeast 17 = .ok (.iload_n 1, 1) := by decide +kernel
theorem dX5_layLeast_18 : decode cX5_layLeast 18 = .ok (.sipush 216, 3) := by decide +kernel
theorem dX5_layLeast_21 : decode cX5_layLeast 21 = .ok (.idiv, 1) := by decide +kernel
theorem dX5_layLeast_22 : decode cX5_layLeast 22 = .ok (.imul, 1) := by decide +kernel
theorem dX5_layLeast_23 : decode cX5_layLeast 23 = .ok (.bipush 100, 2) := by decide +kernel
theorem dX5_layLeast_25 : decode cX5_layLeast 25 = .ok (.iload_n 1, 1) := by decide +kernel
theorem dX5_layLeast_26 : decode cX5_layLeast 26 = .ok (.bipush 36, 2) := by decide +kernel
theorem dX5_layLeast_28 : decode cX5_layLeast 28 = .ok (.idiv, 1) := by decide +kernel
theorem dX5_layLeast_29 : decode cX5_layLeast 29 = .ok (.bipush 6, 2) := by decide +kernel
theorem dX5_layLeast_31 : decode cX5_layLeast 31 = .ok (.irem, 1) := by decide +kernel
theorem dX5_layLeast_32 : decode cX5_layLeast 32 = .ok (.imul, 1) := by decide +kernel
theorem dX5_layLeast_33 : decode cX5_layLeast 33 = .ok (.iadd, 1) := by decide +kernel
theorem dX5_layLeast_34 : decode cX5_layLeast 34 = .ok (.bipush 10, 2) := by decide +kernel
theorem dX5_layLeast_36 : decode cX5_layLeast 36 = .ok (.iload_n 1, 1) := by decide +kernel
theorem dX5_layLeast_37 : decode cX5_layLeast 37 = .ok (.bipush 6, 2) := by decide +kernel
theorem dX5_layLeast_39 : decode cX5_layLeast 39 = .ok (.idiv, 1) := by decide +kernel
theorem dX5_layLeast_40 : decode cX5_layLeast 40 = .ok (.bipush 6, 2) := by decide +kernel
theorem dX5_layLeast_42 : decode cX5_layLeast 42 = .ok (.irem, 1) := by decide +kernel
theorem dX5_layLeast_43 : decode cX5_layLeast 43 = .ok (.imul, 1) := by decide +kernel
theorem dX5_layLeast_44 : decode cX5_layLeast 44 = .ok (.iadd, 1) := by decide +kernel
theorem dX5_layLeast_45 : decode cX5_layLeast 45 = .ok (.iload_n 1, 1) := by decide +kernel
theorem dX5_layLeast_46 : decode cX5_layLeast 46 = .ok (.bipush 6, 2) := by decide +kernel
theorem dX5_layLeast_48 : decode cX5_layLeast 48 = .ok (.irem, 1) := by decide +kernel
theorem dX5_layLeast_49 : decode cX5_layLeast 49 = .ok (.iadd, 1) := by decide +kernel
theorem dX5_layLeast_50 : decode cX5_layLeast 50 = .ok (.istore_n 2, 1) := by decide +kernel
theorem dX5_layLeast_51 : decode cX5_layLeast 51 = .ok (.aload_n 0, 1) := by decide +kernel
theorem dX5_layLeast_52 : decode cX5_layLeast 52 = .ok (.iload_n 2, 1) := by decide +kernel
theorem dX5_layLeast_53 : decode cX5_layLeast 53 = .ok (.invokevirtual 123, 3) := by decide +kernel
theorem dX5_layLeast_56 : decode cX5_layLeast 56 = .ok (.ifCond .eq 31, 3) := by decide +kernel
theorem dX5_layLeast_59 : decode cX5_layLeast 59 = .ok (.aload_n 0, 1) := by decide +kernel
theorem dX5_layLeast_60 : decode cX5_layLeast 60 = .ok (.iload_n 2, 1) := by decide +kernel
theorem dX5_layLeast_61 : decode cX5_layLeast 61 = .ok (.invokevirtual 127, 3) := by decide +kernel
theorem dX5_layLeast_64 : decode cX5_layLeast 64 = .ok (.ifCond .eq 23, 3) := by decide +kernel
theorem dX5_layLeast_67 : decode cX5_layLeast 67 = .ok (.aload_n 0, 1) := by decide +kernel
theorem dX5_layLeast_68 : decode cX5_layLeast 68 = .ok (.getfield 41, 3) := by decide +kernel
theorem dX5_layLeast_71 : decode cX5_layLeast 71 = .ok (.aload_n 0, 1) := by decide +kernel
theorem dX5_layLeast_72 : decode cX5_layLeast 72 = .ok (.getfield 116, 3) := by decide +kernel
theorem dX5_layLeast_75 : decode cX5_layLeast 75 = .ok (.iload_n 2, 1) := by decide +kernel
theorem dX5_layLeast_76 : decode cX5_layLeast 76 = .ok (.iastore, 1) := by decide +kernel
theorem dX5_layLeast_77 : decode cX5_layLeast 77 = .ok (.aload_n 0, 1) := by decide +kernel
theorem dX5_layLeast_78 : decode cX5_layLeast 78 = .ok (.dup, 1) := by decide +kernel
theorem dX5_layLeast_79 : decode cX5_layLeast 79 = .ok (.getfield 116, 3) := by decide +kernel
theorem dX5_layLeast_82 : decode cX5_layLeast 82 = .ok (.iconst 1, 1) := by decide +kernel
theorem dX5_layLeast_83 : decode cX5_layLeast 83 = .ok (.iadd, 1) := by decide +kernel
theorem dX5_layLeast_84 : decode cX5_layLeast 84 = .ok (.putfield 116, 3) := by decide +kernel
theorem dX5_layLeast_87 : decode cX5_layLeast 87 = .ok (.iinc 1 1, 3) := by decide +kernel
theorem dX5_layLeast_90 : decode cX5_layLeast 90 = .ok (.goto (-83), 3) := by decide +kernel
theorem dX5_layLeast_93 : decode cX5_layLeast 93 = .ok (.return_, 1) := by decide +kernel
theorem dX5_sumsTo_0 : decode cX5_sumsTo 0 = .ok (.aload_n 0, 1) := by decide +kernel
theorem dX5_sumsTo_1 : decode cX5_sumsTo 1 = .ok (.invokevirtual 130, 3) := by decide +kernel
theorem dX5_sumsTo_4 : decode cX5_sumsTo 4 = .ok (.iconst 0, 1) := by decide +kernel
theorem dX5_sumsTo_5 : decode cX5_sumsTo 5 = .ok (.istore 5, 2) := by decide +kernel
theorem dX5_sumsTo_7 : decode cX5_sumsTo 7 = .ok (.iload 5, 2) := by decide +kernel
theorem dX5_sumsTo_9 : decode cX5_sumsTo 9 = .ok (.sipush 2401, 3) := by decide +kernel
theorem dX5_sumsTo_12 : decode cX5_sumsTo 12 = .ok (.if_icmp .ge 26, 3) := by decide +kernel
theorem dX5_sumsTo_15 : decode cX5_sumsTo 15 = .ok (.aload_n 0, 1) := by decide +kernel
theorem dX5_sumsTo_16 : decode cX5_sumsTo 16 = .ok (.getfield 44, 3) := by decide +kernel
theorem dX5_sumsTo_19 : decode cX5_sumsTo 19 = .ok (.iload 5, 2) := by decide +kernel
theorem dX5_sumsTo_21 : decode cX5_sumsTo 21 = .ok (.iload 5, 2) := by decide +kernel
theorem dX5_sumsTo_23 : decode cX5_sumsTo 23 = .ok (.ifCond .ne 7, 3) := by decide +kernel
theorem dX5_sumsTo_26 : decode cX5_sumsTo 26 = .ok (.iconst 1, 1) := by decide +kernel
theorem dX5_sumsTo_27 : decode cX5_sumsTo 27 = .ok (.goto 4, 3) := by decide +kernel
theorem dX5_sumsTo_30 : decode cX5_sumsTo 30 = .ok (.iconst 0, 1) := by decide +kernel
theorem dX5_sumsTo_31 : decode cX5_sumsTo 31 = .ok (.iastore, 1) := by decide +kernel
theorem dX5_sumsTo_32 : decode cX5_sumsTo 32 = .ok (.iinc 5 1, 3) := by decide +kernel
theorem dX5_sumsTo_35 : decode cX5_sumsTo 35 = .ok (.goto (-28), 3) := by decide +kernel
theorem dX5_sumsTo_38 : decode cX5_sumsTo 38 = .ok (.iconst 0, 1) := by decide +kernel
theorem dX5_sumsTo_39 : decode cX5_sumsTo 39 = .ok (.istore 5, 2) := by decide +kernel
theorem dX5_sumsTo_41 : decode cX5_sumsTo 41 = .ok (.iload 5, 2) := by decide +kernel
theorem dX5_sumsTo_43 : decode cX5_sumsTo 43 = .ok (.aload_n 0, 1) := by decide +kernel
theorem dX5_sumsTo_44 : decode cX5_sumsTo 44 = .ok (.getfield 116, 3) := by decide +kernel
theorem dX5_sumsTo_47 : decode cX5_sumsTo 47 = .ok (.if_icmp .ge 152, 3) := by decide +kernel
theorem dX5_sumsTo_50 : decode cX5_sumsTo 50 = .ok (.aload_n 0, 1) := by decide +kernel
theorem dX5_sumsTo_51 : decode cX5_sumsTo 51 = .ok (.getfield 41, 3) := by decide +kernel
theorem dX5_sumsTo_54 : decode cX5_sumsTo 54 = .ok (.iload 5, 2) := by decide +kernel
theorem dX5_sumsTo_56 : decode cX5_sumsTo 56 = .ok (.iaload, 1) := by decide +kernel
theorem dX5_sumsTo_57 : decode cX5_sumsTo 57 = .ok (.istore 6, 2) := by decide +kernel
theorem dX5_sumsTo_59 : decode cX5_sumsTo 59 = .ok (.sipush 343, 3) := by decide +kernel
theorem dX5_sumsTo_62 : decode cX5_sumsTo 62 = .ok (.iload 6, 2) := by decide +kernel
theorem dX5_sumsTo_64 : decode cX5_sumsTo 64 = .ok (.iconst 0, 1) := by decide +kernel
theorem dX5_sumsTo_65 : decode cX5_sumsTo 65 = .ok (.invokestatic 113, 3) := by decide +kernel
theorem dX5_sumsTo_68 : decode cX5_sumsTo 68 = .ok (.imul, 1) := by decide +kernel
theorem dX5_sumsTo_69 : decode cX5_sumsTo 69 = .ok (.bipush 49, 2) := by decide +kernel
theorem dX5_sumsTo_71 : decode cX5_sumsTo 71 = .ok (.iload 6, 2) := by decide +kernel
theorem dX5_sumsTo_73 : decode cX5_sumsTo 73 = .ok (.iconst 1, 1) := by decide +kernel
theorem dX5_sumsTo_74 : decode cX5_sumsTo 74 = .ok (.invokestatic 113, 3) := by decide +kernel
theorem dX5_sumsTo_77 : decode cX5_sumsTo 77 = .ok (.imul, 1) := by decide +kernel
theorem dX5_sumsTo_78 : decode cX5_sumsTo 78 = .ok (.iadd, 1) := by decide +kernel
theorem dX5_sumsTo_79 : decode cX5_sumsTo 79 = .ok (.bipush 7, 2) := by decide +kernel
theorem dX5_sumsTo_81 : decode cX5_sumsTo 81 = .ok (.iload 6, 2) := by decide +kernel
theorem dX5_sumsTo_83 : decode cX5_sumsTo 83 = .ok (.iconst 2, 1) := by decide +kernel
theorem dX5_sumsTo_84 : decode cX5_sumsTo 84 = .ok (.invokestatic 113, 3) := by decide +kernel
theorem dX5_sumsTo_87 : decode cX5_sumsTo 87 = .ok (.imul, 1) := by decide +kernel
theorem dX5_sumsTo_88 : decode cX5_sumsTo 88 = .ok (.iadd, 1) := by decide +kernel
theorem dX5_sumsTo_89 : decode cX5_sumsTo 89 = .ok (.iload 6, 2) := by decide +kernel
theorem dX5_sumsTo_91 : decode cX5_sumsTo 91 = .ok (.iconst 3, 1) := by decide +kernel
theorem dX5_sumsTo_92 : decode cX5_sumsTo 92 = .ok (.invokestatic 113, 3) := by decide +kernel
theorem dX5_sumsTo_95 : decode cX5_sumsTo 95 = .ok (.iadd, 1) := by decide +kernel
theorem dX5_sumsTo_96 : decode cX5_sumsTo 96 = .ok (.istore 7, 2) := by decide +kernel
theorem dX5_sumsTo_98 : decode cX5_sumsTo 98 = .ok (.iload 7, 2) := by decide +kernel
theorem dX5_sumsTo_100 : decode cX5_sumsTo 100 = .ok (.istore 8, 2) := by decide +kernel
theorem dX5_sumsTo_102 : decode cX5_sumsTo 102 = .ok (.iload 8, 2) := by decide +kernel
theorem dX5_sumsTo_104 : decode cX5_sumsTo 104 = .ok (.sipush 2401, 3) := by decide +kernel
theorem dX5_sumsTo_107 : decode cX5_sumsTo 107 = .ok (.if_icmp .ge 86, 3) := by decide +kernel
theorem dX5_sumsTo_110 : decode cX5_sumsTo 110 = .ok (.sipush 1000, 3) := by decide +kernel
theorem dX5_sumsTo_113 : decode cX5_sumsTo 113 = .ok (.iload 8, 2) := by decide +kernel
theorem dX5_sumsTo_115 : decode cX5_sumsTo 115 = .ok (.sipush 343, 3) := by decide +kernel
theorem dX5_sumsTo_118 : decode cX5_sumsTo 118 = .ok (.idiv, 1) := by decide +kernel
theorem dX5_sumsTo_119 : decode cX5_sumsTo 119 = .ok (.imul, 1) := by decide +kernel
theorem dX5_sumsTo_120 : decode cX5_sumsTo 120 = .ok (.bipush 100, 2) := by decide +kernel
theorem dX5_sumsTo_122 : decode cX5_sumsTo 122 = .ok (.iload 8, 2) := by decide +kernel
theorem dX5_sumsTo_124 : decode cX5_sumsTo 124 = .ok (.bipush 49, 2) := by decide +kernel
theorem dX5_sumsTo_126 : decode cX5_sumsTo 126 = .ok (.idiv, 1) := by decide +kernel
theorem dX5_sumsTo_127 : decode cX5_sumsTo 127 = .ok (.bipush 7, 2) := by decide +kernel
theorem dX5_sumsTo_129 : decode cX5_sumsTo 129 = .ok (.irem, 1) := by decide +kernel
theorem dX5_sumsTo_130 : decode cX5_sumsTo 130 = .ok (.imul, 1) := by decide +kernel
theorem dX5_sumsTo_131 : decode cX5_sumsTo 131 = .ok (.iadd, 1) := by decide +kernel
theorem dX5_sumsTo_132 : decode cX5_sumsTo 132 = .ok (.bipush 10, 2) := by decide +kernel
theorem dX5_sumsTo_134 : decode cX5_sumsTo 134 = .ok (.iload 8, 2) := by decide +kernel
theorem dX5_sumsTo_136 : decode cX5_sumsTo 136 = .ok (.bipush 7, 2) := by decide +kernel
theorem dX5_sumsTo_138 : decode cX5_sumsTo 138 = .ok (.idiv, 1) := by decide +kernel
theorem dX5_sumsTo_139 : decode cX5_sumsTo 139 = .ok (.bipush 7, 2) := by decide +kernel
theorem dX5_sumsTo_141 : decode cX5_sumsTo 141 = .ok (.irem, 1) := by decide +kernel
theorem dX5_sumsTo_142 : decode cX5_sumsTo 142 = .ok (.imul, 1) := by decide +kernel
theorem dX5_sumsTo_143 : decode cX5_sumsTo 143 = .ok (.iadd, 1) := by decide +kernel
theorem dX5_sumsTo_144 : decode cX5_sumsTo 144 = .ok (.iload 8, 2) := by decide +kernel
theorem dX5_sumsTo_146 : decode cX5_sumsTo 146 = .ok (.bipush 7, 2) := by decide +kernel
theorem dX5_sumsTo_148 : decode cX5_sumsTo 148 = .ok (.irem, 1) := by decide +kernel
theorem dX5_sumsTo_149 : decode cX5_sumsTo 149 = .ok (.iadd, 1) := by decide +kernel
theorem dX5_sumsTo_150 : decode cX5_sumsTo 150 = .ok (.istore 9, 2) := by decide +kernel
theorem dX5_sumsTo_152 : decode cX5_sumsTo 152 = .ok (.aload_n 0, 1) := by decide +kernel
theorem dX5_sumsTo_153 : decode cX5_sumsTo 153 = .ok (.getfield 44, 3) := by decide +kernel
theorem dX5_sumsTo_156 : decode cX5_sumsTo 156 = .ok (.iload 8, 2) := by decide +kernel
theorem dX5_sumsTo_158 : decode cX5_sumsTo 158 = .ok (.dup2, 1) := by decide +kernel
theorem dX5_sumsTo_159 : decode cX5_sumsTo 159 = .ok (.iaload, 1) := by decide +kernel
theorem dX5_sumsTo_160 : decode cX5_sumsTo 160 = .ok (.aload_n 0, 1) := by decide +kernel
theorem dX5_sumsTo_161 : decode cX5_sumsTo 161 = .ok (.iload 9, 2) := by decide +kernel
theorem dX5_sumsTo_163 : decode cX5_sumsTo 163 = .ok (.iload 6, 2) := by decide +kernel
theorem dX5_sumsTo_165 : decode cX5_sumsTo 165 = .ok (.invokevirtual 119, 3) := by decide +kernel
theorem dX5_sumsTo_168 : decode cX5_sumsTo 168 = .ok (.ifCond .eq 16, 3) := by decide +kernel
theorem dX5_sumsTo_171 : decode cX5_sumsTo 171 = .ok (.aload_n 0, 1) := by decide +kernel
theorem dX5_sumsTo_172 : decode cX5_sumsTo 172 = .ok (.getfield 44, 3) := by decide +kernel
theorem dX5_sumsTo_175 : decode cX5_sumsTo 175 = .ok (.iload 8, 2) := by decide +kernel
theorem dX5_sumsTo_177 : decode cX5_sumsTo 177 = .ok (.iload 7, 2) := by decide +kernel
theorem dX5_sumsTo_179 : decode cX5_sumsTo 179 = .ok (.isub, 1) := by decide +kernel
theorem dX5_sumsTo_180 : decode cX5_sumsTo 180 = .ok (.iaload, 1) := by decide +kernel
theorem dX5_sumsTo_181 : decode cX5_sumsTo 181 = .ok (.goto 4, 3) := by decide +kernel
theorem dX5_sumsTo_184 : decode cX5_sumsTo 184 = .ok (.iconst 0, 1) := by decide +kernel
theorem dX5_sumsTo_185 : decode cX5_sumsTo 185 = .ok (.iadd, 1) := by decide +kernel
theorem dX5_sumsTo_186 : decode cX5_sumsTo 186 = .ok (.iastore, 1) := by decide +kernel
theorem dX5_sumsTo_187 : decode cX5_sumsTo 187 = .ok (.iinc 8 1, 3) := by decide +kernel
theorem dX5_sumsTo_190 : decode cX5_sumsTo 190 = .ok (.goto (-88), 3) := by decide +kernel
theorem dX5_sumsTo_193 : decode cX5_sumsTo 193 = .ok (.iinc 5 1, 3) := by decide +kernel
theorem dX5_sumsTo_196 : decode cX5_sumsTo 196 = .ok (.goto (-155), 3) := by decide +kernel
theorem dX5_sumsTo_199 : decode cX5_sumsTo 199 = .ok (.aload_n 0, 1) := by decide +kernel
theorem dX5_sumsTo_200 : decode cX5_sumsTo 200 = .ok (.getfield 44, 3) := by decide +kernel
theorem dX5_sumsTo_203 : decode cX5_sumsTo 203 = .ok (.sipush 343, 3) := by decide +kernel
theorem dX5_sumsTo_206 : decode cX5_sumsTo 206 = .ok (.iload_n 1, 1) := by decide +kernel
theorem dX5_sumsTo_207 : decode cX5_sumsTo 207 = .ok (.imul, 1) := by decide +kernel
theorem dX5_sumsTo_208 : decode cX5_sumsTo 208 = .ok (.bipush 49, 2) := by decide +kernel
theorem dX5_sumsTo_210 : decode cX5_sumsTo 210 = .ok (.iload_n 2, 1) := by decide +kernel
theorem dX5_sumsTo_211 : decode cX5_sumsTo 211 = .ok (.imul, 1) := by decide +kernel
theorem dX5_sumsTo_212 : decode cX5_sumsTo 212 = .ok (.iadd, 1) := by decide +kernel
theorem dX5_sumsTo_213 : decode cX5_sumsTo 213 = .ok (.bipush 7, 2) := by decide +kernel
theorem dX5_sumsTo_215 : decode cX5_sumsTo 215 = .ok (.iload_n 3, 1) := by decide +kernel
theorem dX5_sumsTo_216 : decode cX5_sumsTo 216 = .ok (.imul, 1) := by decide +kernel
theorem dX5_sumsTo_217 : decode cX5_sumsTo 217 = .ok (.iadd, 1) := by decide +kernel
theorem dX5_sumsTo_218 : decode cX5_sumsTo 218 = .ok (.iload 4, 2) := by decide +kernel
theorem dX5_sumsTo_220 : decode cX5_sumsTo 220 = .ok (.iadd, 1) := by decide +kernel
theorem dX5_sumsTo_221 : decode cX5_sumsTo 221 = .ok (.iaload, 1) := by decide +kernel
theorem dX5_sumsTo_222 : decode cX5_sumsTo 222 = .ok (.ireturn, 1) := by decide +kernel
theorem dX5_greatestLeast_0 : decode cX5_greatestLeast 0 = .ok (.aload_n 0, 1) := by decide +kernel
theorem dX5_greatestLeast_1 : decode cX5_greatestLeast 1 = .ok (.invokevirtual 130, 3) := by decide +kernel
theorem dX5_greatestLeast_4 : decode cX5_greatestLeast 4 = .ok (.iconst 0, 1) := by decide +kernel
theorem dX5_greatestLeast_5 : decode cX5_greatestLeast 5 = .ok (.istore_n 1, 1) := by decide +kernel
theorem dX5_greatestLeast_6 : decode cX5_greatestLeast 6 = .ok (.iconst 0, 1) := by decide +kernel
theorem dX5_greatestLeast_7 : decode cX5_greatestLeast 7 = .ok (.istore_n 2, 1) := by decide +kernel
theorem dX5_greatestLeast_8 : decode cX5_greatestLeast 8 = .ok (.iload_n 2, 1) := by decide +kernel
theorem dX5_greatestLeast_9 : decode cX5_greatestLeast 9 = .ok (.aload_n 0, 1) := by decide +kernel
theorem dX5_greatestLeast_10 : decode cX5_greatestLeast 10 = .ok (.getfield 116, 3) := by decide +kernel
theorem dX5_greatestLeast_13 : decode cX5_greatestLeast 13 = .ok (.if_icmp .ge 64, 3) := by decide +kernel
theorem dX5_greatestLeast_16 : decode cX5_greatestLeast 16 = .ok (.aload_n 0, 1) := by decide +kernel
theorem dX5_greatestLeast_17 : decode cX5_greatestLeast 17 = .ok (.getfield 41, 3) := by decide +kernel
theorem dX5_greatestLeast_20 : decode cX5_greatestLeast 20 = .ok (.iload_n 2, 1) := by decide +kernel
theorem dX5_greatestLeast_21 : decode cX5_greatestLeast 21 = .ok (.iaload, 1) := by decide +kernel
theorem dX5_greatestLeast_22 : decode cX5_greatestLeast 22 = .ok (.iconst 0, 1) := by decide +kernel
theorem dX5_greatestLeast_23 : decode cX5_greatestLeast 23 = .ok (.invokestatic 113, 3) := by decide +kernel
theorem dX5_greatestLeast_26 : decode cX5_greatestLeast 26 = .ok (.aload_n 0, 1) := by decide +kernel
theorem dX5_greatestLeast_27 : decode cX5_greatestLeast 27 = .ok (.getfield 41, 3) := by decide +kernel
theorem dX5_greatestLeast_30 : decode cX5_greatestLeast 30 = .ok (.iload_n 2, 1) := by decide +kernel
theorem dX5_greatestLeast_31 : decode cX5_greatestLeast 31 = .ok (.iaload, 1) := by decide +kernel
theorem dX5_greatestLeast_32 : decode cX5_greatestLeast 32 = .ok (.iconst 1, 1) := by decide +kernel
theorem dX5_greatestLeast_33 : decode cX5_greatestLeast 33 = .ok (.invokestatic 113, 3) := by decide +kernel
theorem dX5_greatestLeast_36 : decode cX5_greatestLeast 36 = .ok (.iadd, 1) := by decide +kernel
theorem dX5_greatestLeast_37 : decode cX5_greatestLeast 37 = .ok (.aload_n 0, 1) := by decide +kernel
theorem dX5_greatestLeast_38 : decode cX5_greatestLeast 38 = .ok (.getfield 41, 3) := by decide +kernel
theorem dX5_greatestLeast_41 : decode cX5_greatestLeast 41 = .ok (.iload_n 2, 1) := by decide +kernel
theorem dX5_greatestLeast_42 : decode cX5_greatestLeast 42 = .ok (.iaload, 1) := by decide +kernel
theorem dX5_greatestLeast_43 : decode cX5_greatestLeast 43 = .ok (.iconst 2, 1) := by decide +kernel
theorem dX5_greatestLeast_44 : decode cX5_greatestLeast 44 = .ok (.invokestatic 113, 3) := by decide +kernel
theorem dX5_greatestLeast_47 : decode cX5_greatestLeast 47 = .ok (.iadd, 1) := by decide +kernel
theorem dX5_greatestLeast_48 : decode cX5_greatestLeast 48 = .ok (.aload_n 0, 1) := by decide +kernel
theorem dX5_greatestLeast_49 : decode cX5_greatestLeast 49 = .ok (.getfield 41, 3) := by decide +kernel
theorem dX5_greatestLeast_52 : decode cX5_greatestLeast 52 = .ok (.iload_n 2, 1) := by decide +kernel
theorem dX5_greatestLeast_53 : decode cX5_greatestLeast 53 = .ok (.iaload, 1) := by decide +kernel
theorem dX5_greatestLeast_54 : decode cX5_greatestLeast 54 = .ok (.iconst 3, 1) := by decide +kernel
theorem dX5_greatestLeast_55 : decode cX5_greatestLeast 55 = .ok (.invokestatic 113, 3) := by decide +kernel
theorem dX5_greatestLeast_58 : decode cX5_greatestLeast 58 = .ok (.iadd, 1) := by decide +kernel
theorem dX5_greatestLeast_59 : decode cX5_greatestLeast 59 = .ok (.istore_n 3, 1) := by decide +kernel
theorem dX5_greatestLeast_60 : decode cX5_greatestLeast 60 = .ok (.iload_n 3, 1) := by decide +kernel
theorem dX5_greatestLeast_61 : decode cX5_greatestLeast 61 = .ok (.iload_n 1, 1) := by decide +kernel
theorem dX5_greatestLeast_62 : decode cX5_greatestLeast 62 = .ok (.if_icmp .le 7, 3) := by decide +kernel
theorem dX5_greatestLeast_65 : decode cX5_greatestLeast 65 = .ok (.iload_n 3, 1) := by decide +kernel
theorem dX5_greatestLeast_66 : decode cX5_greatestLeast 66 = .ok (.goto 4, 3) := by decide +kernel
theorem dX5_greatestLeast_69 : decode cX5_greatestLeast 69 = .ok (.iload_n 1, 1) := by decide +kernel
theorem dX5_greatestLeast_70 : decode cX5_greatestLeast 70 = .ok (.istore_n 1, 1) := by decide +kernel
theorem dX5_greatestLeast_71 : decode cX5_greatestLeast 71 = .ok (.iinc 2 1, 3) := by decide +kernel
theorem dX5_greatestLeast_74 : decode cX5_greatestLeast 74 = .ok (.goto (-66), 3) := by decide +kernel
theorem dX5_greatestLeast_77 : decode cX5_greatestLeast 77 = .ok (.iload_n 1, 1) := by decide +kernel
theorem dX5_greatestLeast_78 : decode cX5_greatestLeast 78 = .ok (.ireturn, 1) := by decide +kernel
theorem dX5_constant_0 : decode cX5_constant 0 = .ok (.aload_n 0, 1) := by decide +kernel
theorem dX5_constant_1 : decode cX5_constant 1 = .ok (.iload_n 1, 1) := by decide +kernel
theorem dX5_constant_2 : decode cX5_constant 2 = .ok (.invokestatic 133, 3) := by decide +kernel
theorem dX5_constant_5 : decode cX5_constant 5 = .ok (.ifCond .eq 10, 3) := by decide +kernel
theorem dX5_constant_8 : decode cX5_constant 8 = .ok (.iload_n 2, 1) := by decide +kernel
theorem dX5_constant_9 : decode cX5_constant 9 = .ok (.invokestatic 136, 3) := by decide +kernel
theorem dX5_constant_12 : decode cX5_constant 12 = .ok (.ifCond .ne 7, 3) := by decide +kernel
theorem dX5_constant_15 : decode cX5_constant 15 = .ok (.iconst 1, 1) := by decide +kernel
theorem dX5_constant_16 : decode cX5_constant 16 = .ok (.goto 18, 3) := by decide +kernel
theorem dX5_constant_19 : decode cX5_constant 19 = .ok (.iload_n 3, 1) := by decide +kernel
theorem dX5_constant_20 : decode cX5_constant 20 = .ok (.iconst 0, 1) := by decide +kernel
theorem dX5_constant_21 : decode cX5_constant 21 = .ok (.bipush 9, 2) := by decide +kernel
theorem dX5_constant_23 : decode cX5_constant 23 = .ok (.invokestatic 61, 3) := by decide +kernel
theorem dX5_constant_26 : decode cX5_constant 26 = .ok (.ifCond .eq 7, 3) := by decide +kernel
theorem dX5_constant_29 : decode cX5_constant 29 = .ok (.iconst 0, 1) := by decide +kernel
theorem dX5_constant_30 : decode cX5_constant 30 = .ok (.goto 4, 3) := by decide +kernel
theorem dX5_constant_33 : decode cX5_constant 33 = .ok (.iconst 2, 1) := by decide +kernel
theorem dX5_constant_34 : decode cX5_constant 34 = .ok (.putfield 50, 3) := by decide +kernel
theorem dX5_constant_37 : decode cX5_constant 37 = .ok (.aload_n 0, 1) := by decide +kernel
theorem dX5_constant_38 : decode cX5_constant 38 = .ok (.getfield 50, 3) := by decide +kernel
theorem dX5_constant_41 : decode cX5_constant 41 = .ok (.ifCond .le 5, 3) := by decide +kernel
theorem dX5_constant_44 : decode cX5_constant 44 = .ok (.iconst 0, 1) := by decide +kernel
theorem dX5_constant_45 : decode cX5_constant 45 = .ok (.ireturn, 1) := by decide +kernel
theorem dX5_constant_46 : decode cX5_constant 46 = .ok (.aload_n 0, 1) := by decide +kernel
theorem dX5_constant_47 : decode cX5_constant 47 = .ok (.invokevirtual 139, 3) := by decide +kernel
theorem dX5_constant_50 : decode cX5_constant 50 = .ok (.aload_n 0, 1) := by decide +kernel
theorem dX5_constant_51 : decode cX5_constant 51 = .ok (.iload_n 1, 1) := by decide +kernel
theorem dX5_constant_52 : decode cX5_constant 52 = .ok (.iload_n 2, 1) := by decide +kernel
theorem dX5_constant_53 : decode cX5_constant 53 = .ok (.invokevirtual 57, 3) := by decide +kernel
theorem dX5_constant_56 : decode cX5_constant 56 = .ok (.istore 4, 2) := by decide +kernel
theorem dX5_constant_58 : decode cX5_constant 58 = .ok (.aload_n 0, 1) := by decide +kernel
theorem dX5_constant_59 : decode cX5_constant 59 = .ok (.getfield 7, 3) := by decide +kernel
theorem dX5_constant_62 : decode cX5_constant 62 = .ok (.bipush 8, 2) := by decide +kernel
theorem dX5_constant_64 : decode cX5_constant 64 = .ok (.iload_n 1, 1) := by decide +kernel
theorem dX5_constant_65 : decode cX5_constant 65 = .ok (.imul, 1) := by decide +kernel
theorem dX5_constant_66 : decode cX5_constant 66 = .ok (.iload_n 2, 1) := by decide +kernel
theorem dX5_constant_67 : decode cX5_constant 67 = .ok (.iadd, 1) := by decide +kernel
theorem dX5_constant_68 : decode cX5_constant 68 = .ok (.iload_n 3, 1) := by decide +kernel
theorem dX5_constant_69 : decode cX5_constant 69 = .ok (.iastore, 1) := by decide +kernel
theorem dX5_constant_70 : decode cX5_constant 70 = .ok (.iload 4, 2) := by decide +kernel
theorem dX5_constant_72 : decode cX5_constant 72 = .ok (.ireturn, 1) := by decide +kernel
theorem dX5_variable_0 : decode cX5_variable 0 = .ok (.aload_n 0, 1) := by decide +kernel
theorem dX5_variable_1 : decode cX5_variable 1 = .ok (.iload_n 1, 1) := by decide +kernel
theorem dX5_variable_2 : decode cX5_variable 2 = .ok (.iconst 0, 1) := by decide +kernel
theorem dX5_variable_3 : decode cX5_variable 3 = .ok (.iconst 1, 1) := by decide +kernel
theorem dX5_variable_4 : decode cX5_variable 4 = .ok (.invokestatic 61, 3) := by decide +kernel
theorem dX5_variable_7 : decode cX5_variable 7 = .ok (.ifCond .eq 10, 3) := by decide +kernel
theorem dX5_variable_10 : decode cX5_variable 10 = .ok (.iload_n 2, 1) := by decide +kernel
theorem dX5_variable_11 : decode cX5_variable 11 = .ok (.invokestatic 142, 3) := by decide +kernel
theorem dX5_variable_14 : decode cX5_variable 14 = .ok (.ifCond .ne 7, 3) := by decide +kernel
theorem dX5_variable_17 : decode cX5_variable 17 = .ok (.iconst 1, 1) := by decide +kernel
theorem dX5_variable_18 : decode cX5_variable 18 = .ok (.goto 17, 3) := by decide +kernel
theorem dX5_variable_21 : decode cX5_variable 21 = .ok (.iload_n 3, 1) := by decide +kernel
theorem dX5_variable_22 : decode cX5_variable 22 = .ok (.iconst 0, 1) := by decide +kernel
theorem dX5_variable_23 : decode cX5_variable 23 = .ok (.iconst 5, 1) := by decide +kernel
theorem dX5_variable_24 : decode cX5_variable 24 = .ok (.invokestatic 61, 3) := by decide +kernel
theorem dX5_variable_27 : decode cX5_variable 27 = .ok (.ifCond .eq 7, 3) := by decide +kernel
theorem dX5_variable_30 : decode cX5_variable 30 = .ok (.iconst 0, 1) := by decide +kernel
theorem dX5_variable_31 : decode cX5_variable 31 = .ok (.goto 4, 3) := by decide +kernel
theorem dX5_variable_34 : decode cX5_variable 34 = .ok (.iconst 2, 1) := by decide +kernel
theorem dX5_variable_35 : decode cX5_variable 35 = .ok (.putfield 50, 3) := by decide +kernel
theorem dX5_variable_38 : decode cX5_variable 38 = .ok (.aload_n 0, 1) := by decide +kernel
theorem dX5_variable_39 : decode cX5_variable 39 = .ok (.getfield 50, 3) := by decide +kernel
theorem dX5_variable_42 : decode cX5_variable 42 = .ok (.ifCond .le 5, 3) := by decide +kernel
theorem dX5_variable_45 : decode cX5_variable 45 = .ok (.iconst 0, 1) := by decide +kernel
theorem dX5_variable_46 : decode cX5_variable 46 = .ok (.ireturn, 1) := by decide +kernel
theorem dX5_variable_47 : decode cX5_variable 47 = .ok (.aload_n 0, 1) := by decide +kernel
theorem dX5_variable_48 : decode cX5_variable 48 = .ok (.invokevirtual 139, 3) := by decide +kernel
theorem dX5_variable_51 : decode cX5_variable 51 = .ok (.aload_n 0, 1) := by decide +kernel
theorem dX5_variable_52 : decode cX5_variable 52 = .ok (.iload_n 1, 1) := by decide +kernel
theorem dX5_variable_53 : decode cX5_variable 53 = .ok (.iload_n 2, 1) := by decide +kernel
theorem dX5_variable_54 : decode cX5_variable 54 = .ok (.invokevirtual 65, 3) := by decide +kernel
theorem dX5_variable_57 : decode cX5_variable 57 = .ok (.istore 4, 2) := by decide +kernel
theorem dX5_variable_59 : decode cX5_variable 59 = .ok (.aload_n 0, 1) := by decide +kernel
theorem dX5_variable_60 : decode cX5_variable 60 = .ok (.getfield 7, 3) := by decide +kernel
theorem dX5_variable_63 : decode cX5_variable 63 = .ok (.bipush 8, 2) := by decide +kernel
theorem dX5_variable_65 : decode cX5_variable 65 = .ok (.iload_n 1, 1) := by decide +kernel
theorem dX5_variable_66 : decode cX5_variable 66 = .ok (.imul, 1) := by decide +kernel
theorem dX5_variable_67 : decode cX5_variable 67 = .ok (.iconst 4, 1) := by decide +kernel
theorem dX5_variable_68 : decode cX5_variable 68 = .ok (.iadd, 1) := by decide +kernel
theorem dX5_variable_69 : decode cX5_variable 69 = .ok (.iload_n 2, 1) := by decide +kernel
theorem dX5_variable_70 : decode cX5_variable 70 = .ok (.iadd, 1) := by decide +kernel
theorem dX5_variable_71 : decode cX5_variable 71 = .ok (.iload_n 3, 1) := by decide +kernel
theorem dX5_variable_72 : decode cX5_variable 72 = .ok (.iastore, 1) := by decide +kernel
theorem dX5_variable_73 : decode cX5_variable 73 = .ok (.iload 4, 2) := by decide +kernel
theorem dX5_variable_75 : decode cX5_variable 75 = .ok (.ireturn, 1) := by decide +kernel
theorem dX5_limit_0 : decode cX5_limit 0 = .ok (.iload_n 1, 1) := by decide +kernel
theorem dX5_limit_1 : decode cX5_limit 1 = .ok (.iconst 4, 1) := by decide +kernel
theorem dX5_limit_2 : decode cX5_limit 2 = .ok (.if_icmp .ge 8, 3) := by decide +kernel
theorem dX5_limit_5 : decode cX5_limit 5 = .ok (.bipush 9, 2) := by decide +kernel
theorem dX5_limit_7 : decode cX5_limit 7 = .ok (.goto 13, 3) := by decide +kernel
theorem dX5_limit_10 : decode cX5_limit 10 = .ok (.iload_n 0, 1) := by decide +kernel
theorem dX5_limit_11 : decode cX5_limit 11 = .ok (.iconst 2, 1) := by decide +kernel
theorem dX5_limit_12 : decode cX5_limit 12 = .ok (.if_icmp .ne 7, 3) := by decide +kernel
theorem dX5_limit_15 : decode cX5_limit 15 = .ok (.iconst 0, 1) := by decide +kernel
theorem dX5_limit_16 : decode cX5_limit 16 = .ok (.goto 4, 3) := by decide +kernel
theorem dX5_limit_19 : decode cX5_limit 19 = .ok (.iconst 5, 1) := by decide +kernel
theorem dX5_limit_20 : decode cX5_limit 20 = .ok (.ireturn, 1) := by decide +kernel
theorem dX5_canMultiply_0 : decode cX5_canMultiply 0 = .ok (.iconst 1, 1) := by decide +kernel
theorem dX5_canMultiply_1 : decode cX5_canMultiply 1 = .ok (.istore_n 3, 1) := by decide +kernel
theorem dX5_canMultiply_2 : decode cX5_canMultiply 2 = .ok (.iconst 0, 1) := by decide +kernel
theorem dX5_canMultiply_3 : decode cX5_canMultiply 3 = .ok (.istore 4, 2) := by decide +kernel
theorem dX5_canMultiply_5 : decode cX5_canMultiply 5 = .ok (.iload 4, 2) := by decide +kernel
theorem dX5_canMultiply_7 : decode cX5_canMultiply 7 = .ok (.bipush 8, 2) := by decide +kernel
theorem dX5_canMultiply_9 : decode cX5_canMultiply 9 = .ok (.if_icmp .ge 43, 3) := by decide +kernel
theorem dX5_canMultiply_12 : decode cX5_canMultiply 12 = .ok (.iload_n 3, 1) := by decide +kernel
theorem dX5_canMultiply_13 : decode cX5_canMultiply 13 = .ok (.ifCond .eq 31, 3) := by decide +kernel
theorem dX5_canMultiply_16 : decode cX5_canMultiply 16 = .ok (.aload_n 0, 1) := by decide +kernel
theorem dX5_canMultiply_17 : decode cX5_canMultiply 17 = .ok (.iload_n 1, 1) := by decide +kernel
theorem dX5_canMultiply_18 : decode cX5_canMultiply 18 = .ok (.iload 4, 2) := by decide +kernel
theorem dX5_canMultiply_20 : decode cX5_canMultiply 20 = .ok (.invokevirtual 57, 3) := by decide +kernel
theorem dX5_canMultiply_23 : decode cX5_canMultiply 23 = .ok (.aload_n 0, 1) := by decide +kernel
theorem dX5_canMultiply_24 : decode cX5_canMultiply 24 = .ok (.iload_n 2, 1) := by decide +kernel
theorem dX5_canMultiply_25 : decode cX5_canMultiply 25 = .ok (.iload 4, 2) := by decide +kernel
theorem dX5_canMultiply_27 : decode cX5_canMultiply 27 = .ok (.invokevirtual 57, 3) := by decide +kernel
theorem dX5_canMultiply_30 : decode cX5_canMultiply 30 = .ok (.iadd, 1) := by decide +kernel
theorem dX5_canMultiply_31 : decode cX5_canMultiply 31 = .ok (.iload_n 1, 1) := by decide +kernel
theorem dX5_canMultiply_32 : decode cX5_canMultiply 32 = .ok (.iload 4, 2) := by decide +kernel
theorem dX5_canMultiply_34 : decode cX5_canMultiply 34 = .ok (.invokestatic 145, 3) := by decide +kernel
theorem dX5_canMultiply_37 : decode cX5_canMultiply 37 = .ok (.if_icmp .gt 7, 3) := by decide +kernel
theorem dX5_canMultiply_40 : decode cX5_canMultiply 40 = .ok (.iconst 1, 1) := by decide +kernel
theorem dX5_canMultiply_41 : decode cX5_canMultiply 41 = .ok (.goto 4, 3) := by decide +kernel
theorem dX5_canMultiply_44 : decode cX5_canMultiply 44 = .ok (.iconst 0, 1) := by decide +kernel
theorem dX5_canMultiply_45 : decode cX5_canMultiply 45 = .ok (.istore_n 3, 1) := by decide +kernel
theorem dX5_canMultiply_46 : decode cX5_canMultiply 46 = .ok (.iinc 4 1, 3) := by decide +kernel
theorem dX5_canMultiply_49 : decode cX5_canMultiply 49 = .ok (.goto (-44), 3) := by decide +kernel
theorem dX5_canMultiply_52 : decode cX5_canMultiply 52 = .ok (.iload_n 3, 1) := by decide +kernel
theorem dX5_canMultiply_53 : decode cX5_canMultiply 53 = .ok (.ireturn, 1) := by decide +kernel
theorem dX5_multiply_0 : decode cX5_multiply 0 = .ok (.aload_n 0, 1) := by decide +kernel
theorem dX5_multiply_1 : decode cX5_multiply 1 = .ok (.iload_n 1, 1) := by decide +kernel
theorem dX5_multiply_2 : decode cX5_multiply 2 = .ok (.invokestatic 133, 3) := by decide +kernel
theorem dX5_multiply_5 : decode cX5_multiply 5 = .ok (.ifCond .eq 10, 3) := by decide +kernel
theorem dX5_multiply_8 : decode cX5_multiply 8 = .ok (.iload_n 2, 1) := by decide +kernel
theorem dX5_multiply_9 : decode cX5_multiply 9 = .ok (.invokestatic 133, 3) := by decide +kernel
theorem dX5_multiply_12 : decode cX5_multiply 12 = .ok (.ifCond .ne 7, 3) := by decide +kernel
theorem dX5_multiply_15 : decode cX5_multiply 15 = .ok (.iconst 1, 1) := by decide +kernel
theorem dX5_multiply_16 : decode cX5_multiply 16 = .ok (.goto 17, 3) := by decide +kernel
theorem dX5_multiply_19 : decode cX5_multiply 19 = .ok (.aload_n 0, 1) := by decide +kernel
theorem dX5_multiply_20 : decode cX5_multiply 20 = .ok (.iload_n 1, 1) := by decide +kernel
theorem dX5_multiply_21 : decode cX5_multiply 21 = .ok (.iload_n 2, 1) := by decide +kernel
theorem dX5_multiply_22 : decode cX5_multiply 22 = .ok (.invokevirtual 148, 3) := by decide +kernel
theorem dX5_multiply_25 : decode cX5_multiply 25 = .ok (.ifCond .eq 7, 3) := by decide +kernel
theorem dX5_multiply_28 : decode cX5_multiply 28 = .ok (.iconst 0, 1) := by decide +kernel
theorem dX5_multiply_29 : decode cX5_multiply 29 = .ok (.goto 4, 3) := by decide +kernel
theorem dX5_multiply_32 : decode cX5_multiply 32 = .ok (.iconst 2, 1) := by decide +kernel
theorem dX5_multiply_33 : decode cX5_multiply 33 = .ok (.putfield 50, 3) := by decide +kernel
theorem dX5_multiply_36 : decode cX5_multiply 36 = .ok (.aload_n 0, 1) := by decide +kernel
theorem dX5_multiply_37 : decode cX5_multiply 37 = .ok (.getfield 50, 3) := by decide +kernel
theorem dX5_multiply_40 : decode cX5_multiply 40 = .ok (.ifCond .le 5, 3) := by decide +kernel
theorem dX5_multiply_43 : decode cX5_multiply 43 = .ok (.iconst 0, 1) := by decide +kernel
theorem dX5_multiply_44 : decode cX5_multiply 44 = .ok (.ireturn, 1) := by decide +kernel
theorem dX5_multiply_45 : decode cX5_multiply 45 = .ok (.aload_n 0, 1) := by decide +kernel
theorem dX5_multiply_46 : decode cX5_multiply 46 = .ok (.invokevirtual 139, 3) := by decide +kernel
theorem dX5_multiply_49 : decode cX5_multiply 49 = .ok (.iconst 0, 1) := by decide +kernel
theorem dX5_multiply_50 : decode cX5_multiply 50 = .ok (.istore_n 3, 1) := by decide +kernel
theorem dX5_multiply_51 : decode cX5_multiply 51 = .ok (.iload_n 3, 1) := by decide +kernel
theorem dX5_multiply_52 : decode cX5_multiply 52 = .ok (.bipush 8, 2) := by decide +kernel
theorem dX5_multiply_54 : decode cX5_multiply 54 = .ok (.if_icmp .ge 29, 3) := by decide +kernel
theorem dX5_multiply_57 : decode cX5_multiply 57 = .ok (.aload_n 0, 1) := by decide +kernel
theorem dX5_multiply_58 : decode cX5_multiply 58 = .ok (.getfield 7, 3) := by decide +kernel
theorem dX5_multiply_61 : decode cX5_multiply 61 = .ok (.bipush 8, 2) := by decide +kernel
theorem dX5_multiply_63 : decode cX5_multiply 63 = .ok (.iload_n 1, 1) := by decide +kernel
theorem dX5_multiply_64 : decode cX5_multiply 64 = .ok (.imul, 1) := by decide +kernel
theorem dX5_multiply_65 : decode cX5_multiply 65 = .ok (.iload_n 3, 1) := by decide +kernel
theorem dX5_multiply_66 : decode cX5_multiply 66 = .ok (.iadd, 1) := by decide +kernel
theorem dX5_multiply_67 : decode cX5_multiply 67 = .ok (.dup2, 1) := by decide +kernel
theorem dX5_multiply_68 : decode cX5_multiply 68 = .ok (.iaload, 1) := by decide +kernel
theorem dX5_multiply_69 : decode cX5_multiply 69 = .ok (.aload_n 0, 1) := by decide +kernel
theorem dX5_multiply_70 : decode cX5_multiply 70 = .ok (.iload_n 2, 1) := by decide +kernel
theorem dX5_multiply_71 : decode cX5_multiply 71 = .ok (.iload_n 3, 1) := by decide +kernel
theorem dX5_multiply_72 : decode cX5_multiply 72 = .ok (.invokevirtual 57, 3) := by decide +kernel
theorem dX5_multiply_75 : decode cX5_multiply 75 = .ok (.iadd, 1) := by decide +kernel
theorem dX5_multiply_76 : decode cX5_multiply 76 = .ok (.iastore, 1) := by decide +kernel
theorem dX5_multiply_77 : decode cX5_multiply 77 = .ok (.iinc 3 1, 3) := by decide +kernel
theorem dX5_multiply_80 : decode cX5_multiply 80 = .ok (.goto (-29), 3) := by decide +kernel
theorem dX5_multiply_83 : decode cX5_multiply 83 = .ok (.aload_n 0, 1) := by decide +kernel
theorem dX5_multiply_84 : decode cX5_multiply 84 = .ok (.iload_n 1, 1) := by decide +kernel
theorem dX5_multiply_85 : decode cX5_multiply 85 = .ok (.invokevirtual 151, 3) := by decide +kernel
theorem dX5_multiply_88 : decode cX5_multiply 88 = .ok (.ireturn, 1) := by decide +kernel
theorem dX5_rewrite_0 : decode cX5_rewrite 0 = .ok (.aload_n 0, 1) := by decide +kernel
theorem dX5_rewrite_1 : decode cX5_rewrite 1 = .ok (.aload_n 0, 1) := by decide +kernel
theorem dX5_rewrite_2 : decode cX5_rewrite 2 = .ok (.iload_n 1, 1) := by decide +kernel
theorem dX5_rewrite_3 : decode cX5_rewrite 3 = .ok (.invokevirtual 154, 3) := by decide +kernel
theorem dX5_rewrite_6 : decode cX5_rewrite 6 = .ok (.ifCond .eq 7, 3) := by decide +kernel
theorem dX5_rewrite_9 : decode cX5_rewrite 9 = .ok (.iconst 0, 1) := by decide +kernel
theorem dX5_rewrite_10 : decode cX5_rewrite 10 = .ok (.goto 4, 3) := by decide +kernel
theorem dX5_rewrite_13 : decode cX5_rewrite 13 = .ok (.iconst 1, 1) := by decide +kernel
theorem dX5_rewrite_14 : decode cX5_rewrite 14 = .ok (.putfield 50, 3) := by decide +kernel
theorem dX5_rewrite_17 : decode cX5_rewrite 17 = .ok (.aload_n 0, 1) := by decide +kernel
theorem dX5_rewrite_18 : decode cX5_rewrite 18 = .ok (.getfield 50, 3) := by decide +kernel
theorem dX5_rewrite_21 : decode cX5_rewrite 21 = .ok (.ifCond .ne 31, 3) := by decide +kernel
theorem dX5_rewrite_24 : decode cX5_rewrite 24 = .ok (.aload_n 0, 1) := by decide +kernel
theorem dX5_rewrite_25 : decode cX5_rewrite 25 = .ok (.iload_n 1, 1) := by decide +kernel
theorem dX5_rewrite_26 : decode cX5_rewrite 26 = .ok (.invokevirtual 157, 3) := by decide +kernel
theorem dX5_rewrite_29 : decode cX5_rewrite 29 = .ok (.aload_n 0, 1) := by decide +kernel
theorem dX5_rewrite_30 : decode cX5_rewrite 30 = .ok (.aload_n 0, 1) := by decide +kernel
theorem dX5_rewrite_31 : decode cX5_rewrite 31 = .ok (.invokevirtual 161, 3) := by decide +kernel
theorem dX5_rewrite_34 : decode cX5_rewrite 34 = .ok (.ifCond .ne 10, 3) := by decide +kernel
theorem dX5_rewrite_37 : decode cX5_rewrite 37 = .ok (.aload_n 0, 1) := by decide +kernel
theorem dX5_rewrite_38 : decode cX5_rewrite 38 = .ok (.invokevirtual 165, 3) := by decide +kernel
theorem dX5_rewrite_41 : decode cX5_rewrite 41 = .ok (.ifCond .eq 7, 3) := by decide +kernel
theorem dX5_rewrite_44 : decode cX5_rewrite 44 = .ok (.iconst 2, 1) := by decide +kernel
theorem dX5_rewrite_45 : decode cX5_rewrite 45 = .ok (.goto 4, 3) := by decide +kernel
theorem dX5_rewrite_48 : decode cX5_rewrite 48 = .ok (.iconst 0, 1) := by decide +kernel
theorem dX5_rewrite_49 : decode cX5_rewrite 49 = .ok (.putfield 50, 3) := by decide +kernel
theorem dX5_rewrite_52 : decode cX5_rewrite 52 = .ok (.aload_n 0, 1) := by decide +kernel
theorem dX5_rewrite_53 : decode cX5_rewrite 53 = .ok (.getfield 50, 3) := by decide +kernel
theorem dX5_rewrite_56 : decode cX5_rewrite 56 = .ok (.ifCond .le 5, 3) := by decide +kernel
theorem dX5_rewrite_59 : decode cX5_rewrite 59 = .ok (.iconst 0, 1) := by decide +kernel
theorem dX5_rewrite_60 : decode cX5_rewrite 60 = .ok (.ireturn, 1) := by decide +kernel
theorem dX5_rewrite_61 : decode cX5_rewrite 61 = .ok (.aload_n 0, 1) := by decide +kernel
theorem dX5_rewrite_62 : decode cX5_rewrite 62 = .ok (.invokevirtual 139, 3) := by decide +kernel
theorem dX5_rewrite_65 : decode cX5_rewrite 65 = .ok (.iconst 0, 1) := by decide +kernel
theorem dX5_rewrite_66 : decode cX5_rewrite 66 = .ok (.istore_n 2, 1) := by decide +kernel
theorem dX5_rewrite_67 : decode cX5_rewrite 67 = .ok (.iload_n 2, 1) := by decide +kernel
theorem dX5_rewrite_68 : decode cX5_rewrite 68 = .ok (.iconst 4, 1) := by decide +kernel
theorem dX5_rewrite_69 : decode cX5_rewrite 69 = .ok (.if_icmp .ge 23, 3) := by decide +kernel
theorem dX5_rewrite_72 : decode cX5_rewrite 72 = .ok (.aload_n 0, 1) := by decide +kernel
theorem dX5_rewrite_73 : decode cX5_rewrite 73 = .ok (.getfield 7, 3) := by decide +kernel
theorem dX5_rewrite_76 : decode cX5_rewrite 76 = .ok (.bipush 16, 2) := by decide +kernel
theorem dX5_rewrite_78 : decode cX5_rewrite 78 = .ok (.iload_n 2, 1) := by decide +kernel
theorem dX5_rewrite_79 : decode cX5_rewrite 79 = .ok (.iadd, 1) := by decide +kernel
theorem dX5_rewrite_80 : decode cX5_rewrite 80 = .ok (.aload_n 0, 1) := by decide +kernel
theorem dX5_rewrite_81 : decode cX5_rewrite 81 = .ok (.iload_n 2, 1) := by decide +kernel
theorem dX5_rewrite_82 : decode cX5_rewrite 82 = .ok (.invokevirtual 107, 3) := by decide +kernel
theorem dX5_rewrite_85 : decode cX5_rewrite 85 = .ok (.iastore, 1) := by decide +kernel
theorem dX5_rewrite_86 : decode cX5_rewrite 86 = .ok (.iinc 2 1, 3) := by decide +kernel
theorem dX5_rewrite_89 : decode cX5_rewrite 89 = .ok (.goto (-22), 3) := by decide +kernel
theorem dX5_rewrite_92 : decode cX5_rewrite 92 = .ok (.aload_n 0, 1) := by decide +kernel
theorem dX5_rewrite_93 : decode cX5_rewrite 93 = .ok (.iconst 2, 1) := by decide +kernel
theorem dX5_rewrite_94 : decode cX5_rewrite 94 = .ok (.invokevirtual 151, 3) := by decide +kernel
theorem dX5_rewrite_97 : decode cX5_rewrite 97 = .ok (.ireturn, 1) := by decide +kernel
theorem dX5_cancel_0 : decode cX5_cancel 0 = .ok (.aload_n 0, 1) := by decide +kernel
theorem dX5_cancel_1 : decode cX5_cancel 1 = .ok (.iload_n 1, 1) := by decide +kernel
theorem dX5_cancel_2 : decode cX5_cancel 2 = .ok (.invokestatic 133, 3) := by decide +kernel
theorem dX5_cancel_5 : decode cX5_cancel 5 = .ok (.ifCond .eq 14, 3) := by decide +kernel
theorem dX5_cancel_8 : decode cX5_cancel 8 = .ok (.iload_n 2, 1) := by decide +kernel
theorem dX5_cancel_9 : decode cX5_cancel 9 = .ok (.invokestatic 133, 3) := by decide +kernel
theorem dX5_cancel_12 : decode cX5_cancel 12 = .ok (.ifCond .eq 7, 3) := by decide +kernel
theorem dX5_cancel_15 : decode cX5_cancel 15 = .ok (.iconst 0, 1) := by decide +kernel
theorem dX5_cancel_16 : decode cX5_cancel 16 = .ok (.goto 4, 3) := by decide +kernel
theorem dX5_cancel_19 : decode cX5_cancel 19 = .ok (.iconst 1, 1) := by decide +kernel
theorem dX5_cancel_20 : decode cX5_cancel 20 = .ok (.putfield 50, 3) := by decide +kernel
theorem dX5_cancel_23 : decode cX5_cancel 23 = .ok (.aload_n 0, 1) := by decide +kernel
theorem dX5_cancel_24 : decode cX5_cancel 24 = .ok (.getfield 50, 3) := by decide +kernel
theorem dX5_cancel_27 : decode cX5_cancel 27 = .ok (.ifCond .le 5, 3) := by decide +kernel
theorem dX5_cancel_30 : decode cX5_cancel 30 = .ok (.iconst 0, 1) := by decide +kernel
theorem dX5_cancel_31 : decode cX5_cancel 31 = .ok (.ireturn, 1) := by decide +kernel
theorem dX5_cancel_32 : decode cX5_cancel 32 = .ok (.aload_n 0, 1) := by decide +kernel
theorem dX5_cancel_33 : decode cX5_cancel 33 = .ok (.invokevirtual 139, 3) := by decide +kernel
theorem dX5_cancel_36 : decode cX5_cancel 36 = .ok (.iconst 0, 1) := by decide +kernel
theorem dX5_cancel_37 : decode cX5_cancel 37 = .ok (.istore_n 3, 1) := by decide +kernel
theorem dX5_cancel_38 : decode cX5_cancel 38 = .ok (.iconst 0, 1) := by decide +kernel
theorem dX5_cancel_39 : decode cX5_cancel 39 = .ok (.istore 4, 2) := by decide +kernel
theorem dX5_cancel_41 : decode cX5_cancel 41 = .ok (.iload 4, 2) := by decide +kernel
theorem dX5_cancel_43 : decode cX5_cancel 43 = .ok (.bipush 8, 2) := by decide +kernel
theorem dX5_cancel_45 : decode cX5_cancel 45 = .ok (.if_icmp .ge 93, 3) := by decide +kernel
theorem dX5_cancel_48 : decode cX5_cancel 48 = .ok (.aload_n 0, 1) := by decide +kernel
theorem dX5_cancel_49 : decode cX5_cancel 49 = .ok (.iload_n 1, 1) := by decide +kernel
theorem dX5_cancel_50 : decode cX5_cancel 50 = .ok (.iload 4, 2) := by decide +kernel
theorem dX5_cancel_52 : decode cX5_cancel 52 = .ok (.invokevirtual 57, 3) := by decide +kernel
theorem dX5_cancel_55 : decode cX5_cancel 55 = .ok (.aload_n 0, 1) := by decide +kernel
theorem dX5_cancel_56 : decode cX5_cancel 56 = .ok (.iload_n 2, 1) := by decide +kernel
theorem dX5_cancel_57 : decode cX5_cancel 57 = .ok (.iload 4, 2) := by decide +kernel
theorem dX5_cancel_59 : decode cX5_cancel 59 = .ok (.invokevirtual 57, 3) := by decide +kernel
theorem dX5_cancel_62 : decode cX5_cancel 62 = .ok (.if_icmp .ge 13, 3) := by decide +kernel
theorem dX5_cancel_65 : decode cX5_cancel 65 = .ok (.aload_n 0, 1) := by decide +kernel
theorem dX5_cancel_66 : decode cX5_cancel 66 = .ok (.iload_n 1, 1) := by decide +kernel
theorem dX5_cancel_67 : decode cX5_cancel 67 = .ok (.iload 4, 2) := by decide +kernel
theorem dX5_cancel_69 : decode cX5_cancel 69 = .ok (.invokevirtual 57, 3) := by decide +kernel
theorem dX5_cancel_72 : decode cX5_cancel 72 = .ok (.goto 10, 3) := by decide +kernel
theorem dX5_cancel_75 : decode cX5_cancel 75 = .ok (.aload_n 0, 1) := by decide +kernel
theorem dX5_cancel_76 : decode cX5_cancel 76 = .ok (.iload_n 2, 1) := by decide +kernel
theorem dX5_cancel_77 : decode cX5_cancel 77 = .ok (.iload 4, 2) := by decide +kernel
theorem dX5_cancel_79 : decode cX5_cancel 79 = .ok (.invokevirtual 57, 3) := by decide +kernel
theorem dX5_cancel_82 : decode cX5_cancel 82 = .ok (.istore 5, 2) := by decide +kernel
theorem dX5_cancel_84 : decode cX5_cancel 84 = .ok (.aload_n 0, 1) := by decide +kernel
theorem dX5_cancel_85 : decode cX5_cancel 85 = .ok (.getfield 7, 3) := by decide +kernel
theorem dX5_cancel_88 : decode cX5_cancel 88 = .ok (.bipush 8, 2) := by decide +kernel
theorem dX5_cancel_90 : decode cX5_cancel 90 = .ok (.iload_n 1, 1) := by decide +kernel
theorem dX5_cancel_91 : decode cX5_cancel 91 = .ok (.imul, 1) := by decide +kernel
theorem dX5_cancel_92 : decode cX5_cancel 92 = .ok (.iload 4, 2) := by decide +kernel
theorem dX5_cancel_94 : decode cX5_cancel 94 = .ok (.iadd, 1) := by decide +kernel
theorem dX5_cancel_95 : decode cX5_cancel 95 = .ok (.dup2, 1) := by decide +kernel
theorem dX5_cancel_96 : decode cX5_cancel 96 = .ok (.iaload, 1) := by decide +kernel
theorem dX5_cancel_97 : decode cX5_cancel 97 = .ok (.iload 5, 2) := by decide +kernel
theorem dX5_cancel_99 : decode cX5_cancel 99 = .ok (.isub, 1) := by decide +kernel
theorem dX5_cancel_100 : decode cX5_cancel 100 = .ok (.iastore, 1) := by decide +kernel
theorem dX5_cancel_101 : decode cX5_cancel 101 = .ok (.aload_n 0, 1) := by decide +kernel
theorem dX5_cancel_102 : decode cX5_cancel 102 = .ok (.getfield 7, 3) := by decide +kernel
theorem dX5_cancel_105 : decode cX5_cancel 105 = .ok (.bipush 8, 2) := by decide +kernel
theorem dX5_cancel_107 : decode cX5_cancel 107 = .ok (.iload_n 2, 1) := by decide +kernel
theorem dX5_cancel_108 : decode cX5_cancel 108 = .ok (.imul, 1) := by decide +kernel
theorem dX5_cancel_109 : decode cX5_cancel 109 = .ok (.iload 4, 2) := by decide +kernel
theorem dX5_cancel_111 : decode cX5_cancel 111 = .ok (.iadd, 1) := by decide +kernel
theorem dX5_cancel_112 : decode cX5_cancel 112 = .ok (.dup2, 1) := by decide +kernel
theorem dX5_cancel_113 : decode cX5_cancel 113 = .ok (.iaload, 1) := by decide +kernel
theorem dX5_cancel_114 : decode cX5_cancel 114 = .ok (.iload_n 1, 1) := by decide +kernel
theorem dX5_cancel_115 : decode cX5_cancel 115 = .ok (.iload_n 2, 1) := by decide +kernel
theorem dX5_cancel_116 : decode cX5_cancel 116 = .ok (.if_icmp .ne 7, 3) := by decide +kernel
theorem dX5_cancel_119 : decode cX5_cancel 119 = .ok (.iconst 0, 1) := by decide +kernel
theorem dX5_cancel_120 : decode cX5_cancel 120 = .ok (.goto 5, 3) := by decide +kernel
theorem dX5_cancel_123 : decode cX5_cancel 123 = .ok (.iload 5, 2) := by decide +kernel
theorem dX5_cancel_125 : decode cX5_cancel 125 = .ok (.isub, 1) := by decide +kernel
theorem dX5_cancel_126 : decode cX5_cancel 126 = .ok (.iastore, 1) := by decide +kernel
theorem dX5_cancel_127 : decode cX5_cancel 127 = .ok (.iload_n 3, 1) := by decide +kernel
theorem dX5_cancel_128 : decode cX5_cancel 128 = .ok (.iload 5, 2) := by decide +kernel
theorem dX5_cancel_130 : decode cX5_cancel 130 = .ok (.iadd, 1) := by decide +kernel
theorem dX5_cancel_131 : decode cX5_cancel 131 = .ok (.istore_n 3, 1) := by decide +kernel
theorem dX5_cancel_132 : decode cX5_cancel 132 = .ok (.iinc 4 1, 3) := by decide +kernel
theorem dX5_cancel_135 : decode cX5_cancel 135 = .ok (.goto (-94), 3) := by decide +kernel
theorem dX5_cancel_138 : decode cX5_cancel 138 = .ok (.iload_n 3, 1) := by decide +kernel
theorem dX5_cancel_139 : decode cX5_cancel 139 = .ok (.ireturn, 1) := by decide +kernel
theorem dX5_set_0 : decode cX5_set 0 = .ok (.aload_n 0, 1) := by decide +kernel
theorem dX5_set_1 : decode cX5_set 1 = .ok (.iload_n 1, 1) := by decide +kernel
theorem dX5_set_2 : decode cX5_set 2 = .ok (.iconst 0, 1) := by decide +kernel
theorem dX5_set_3 : decode cX5_set 3 = .ok (.iconst 1, 1) := by decide +kernel
theorem dX5_set_4 : decode cX5_set 4 = .ok (.invokestatic 61, 3) := by decide +kernel
theorem dX5_set_7 : decode cX5_set 7 = .ok (.ifCond .ne 7, 3) := by decide +kernel
theorem dX5_set_10 : decode cX5_set 10 = .ok (.iconst 1, 1) := by decide +kernel
theorem dX5_set_11 : decode cX5_set 11 = .ok (.goto 26, 3) := by decide +kernel
theorem dX5_set_14 : decode cX5_set 14 = .ok (.iload_n 2, 1) := by decide +kernel
theorem dX5_set_15 : decode cX5_set 15 = .ok (.iconst 0, 1) := by decide +kernel
theorem dX5_set_16 : decode cX5_set 16 = .ok (.iload_n 1, 1) := by decide +kernel
theorem dX5_set_17 : decode cX5_set 17 = .ok (.ifCond .ne 7, 3) := by decide +kernel
theorem dX5_set_20 : decode cX5_set 20 = .ok (.iconst 1, 1) := by decide +kernel
theorem dX5_set_21 : decode cX5_set 21 = .ok (.goto 5, 3) := by decide +kernel
theorem dX5_set_24 : decode cX5_set 24 = .ok (.bipush 9, 2) := by decide +kernel
theorem dX5_set_26 : decode cX5_set 26 = .ok (.invokestatic 61, 3) := by decide +kernel
theorem dX5_set_29 : decode cX5_set 29 = .ok (.ifCond .eq 7, 3) := by decide +kernel
theorem dX5_set_32 : decode cX5_set 32 = .ok (.iconst 0, 1) := by decide +kernel
theorem dX5_set_33 : decode cX5_set 33 = .ok (.goto 4, 3) := by decide +kernel
theorem dX5_set_36 : decode cX5_set 36 = .ok (.iconst 2, 1) := by decide +kernel
theorem dX5_set_37 : decode cX5_set 37 = .ok (.putfield 50, 3) := by decide +kernel
theorem dX5_set_40 : decode cX5_set 40 = .ok (.aload_n 0, 1) := by decide +kernel
theorem dX5_set_41 : decode cX5_set 41 = .ok (.getfield 50, 3) := by decide +kernel
theorem dX5_set_44 : decode cX5_set 44 = .ok (.ifCond .le 5, 3) := by decide +kernel
theorem dX5_set_47 : decode cX5_set 47 = .ok (.iconst 0, 1) := by decide +kernel
theorem dX5_set_48 : decode cX5_set 48 = .ok (.ireturn, 1) := by decide +kernel
theorem dX5_set_49 : decode cX5_set 49 = .ok (.aload_n 0, 1) := by decide +kernel
theorem dX5_set_50 : decode cX5_set 50 = .ok (.invokevirtual 139, 3) := by decide +kernel
theorem dX5_set_53 : decode cX5_set 53 = .ok (.aload_n 0, 1) := by decide +kernel
theorem dX5_set_54 : decode cX5_set 54 = .ok (.getfield 7, 3) := by decide +kernel
theorem dX5_set_57 : decode cX5_set 57 = .ok (.bipush 24, 2) := by decide +kernel
theorem dX5_set_59 : decode cX5_set 59 = .ok (.iload_n 1, 1) := by decide +kernel
theorem dX5_set_60 : decode cX5_set 60 = .ok (.iadd, 1) := by decide +kernel
theorem dX5_set_61 : decode cX5_set 61 = .ok (.iaload, 1) := by decide +kernel
theorem dX5_set_62 : decode cX5_set 62 = .ok (.istore_n 3, 1) := by decide +kernel
theorem dX5_set_63 : decode cX5_set 63 = .ok (.aload_n 0, 1) := by decide +kernel
theorem dX5_set_64 : decode cX5_set 64 = .ok (.getfield 7, 3) := by decide +kernel
theorem dX5_set_67 : decode cX5_set 67 = .ok (.bipush 24, 2) := by decide +kernel
theorem dX5_set_69 : decode cX5_set 69 = .ok (.iload_n 1, 1) := by decide +kernel
theorem dX5_set_70 : decode cX5_set 70 = .ok (.iadd, 1) := by decide +kernel
theorem dX5_set_71 : decode cX5_set 71 = .ok (.iload_n 2, 1) := by decide +kernel
theorem dX5_set_72 : decode cX5_set 72 = .ok (.iastore, 1) := by decide +kernel
theorem dX5_set_73 : decode cX5_set 73 = .ok (.iload_n 3, 1) := by decide +kernel
theorem dX5_set_74 : decode cX5_set 74 = .ok (.ireturn, 1) := by decide +kernel
theorem dX5_append_0 : decode cX5_append 0 = .ok (.aload_n 0, 1) := by decide +kernel
theorem dX5_append_1 : decode cX5_append 1 = .ok (.iload_n 1, 1) := by decide +kernel
theorem dX5_append_2 : decode cX5_append 2 = .ok (.bipush 33, 2) := by decide +kernel
theorem dX5_append_4 : decode cX5_append 4 = .ok (.bipush 126, 2) := by decide +kernel
theorem dX5_append_6 : decode cX5_append 6 = .ok (.invokestatic 61, 3) := by decide +kernel
theorem dX5_append_9 : decode cX5_append 9 = .ok (.ifCond .ne 7, 3) := by decide +kernel
theorem dX5_append_12 : decode cX5_append 12 = .ok (.iconst 1, 1) := by decide +kernel
theorem dX5_append_13 : decode cX5_append 13 = .ok (.goto 17, 3) := by decide +kernel
theorem dX5_append_16 : decode cX5_append 16 = .ok (.aload_n 0, 1) := by decide +kernel
theorem dX5_append_17 : decode cX5_append 17 = .ok (.getfield 168, 3) := by decide +kernel
theorem dX5_append_20 : decode cX5_append 20 = .ok (.bipush 60, 2) := by decide +kernel
theorem dX5_append_22 : decode cX5_append 22 = .ok (.if_icmp .ne 7, 3) := by decide +kernel
theorem dX5_append_25 : decode cX5_append 25 = .ok (.iconst 2, 1) := by decide +kernel
theorem dX5_append_26 : decode cX5_append 26 = .ok (.goto 4, 3) := by decide +kernel
theorem dX5_append_29 : decode cX5_append 29 = .ok (.iconst 0, 1) := by decide +kernel
theorem dX5_append_30 : decode cX5_append 30 = .ok (.putfield 50, 3) := by decide +kernel
theorem dX5_append_33 : decode cX5_append 33 = .ok (.aload_n 0, 1) := by decide +kernel
theorem dX5_append_34 : decode cX5_append 34 = .ok (.getfield 50, 3) := by decide +kernel
theorem dX5_append_37 : decode cX5_append 37 = .ok (.ifCond .le 5, 3) := by decide +kernel
theorem dX5_append_40 : decode cX5_append 40 = .ok (.iconst 0, 1) := by decide +kernel
theorem dX5_append_41 : decode cX5_append 41 = .ok (.ireturn, 1) := by decide +kernel
theorem dX5_append_42 : decode cX5_append 42 = .ok (.aload_n 0, 1) := by decide +kernel
theorem dX5_append_43 : decode cX5_append 43 = .ok (.getfield 22, 3) := by decide +kernel
theorem dX5_append_46 : decode cX5_append 46 = .ok (.aload_n 0, 1) := by decide +kernel
theorem dX5_append_47 : decode cX5_append 47 = .ok (.getfield 168, 3) := by decide +kernel
theorem dX5_append_50 : decode cX5_append 50 = .ok (.iload_n 1, 1) := by decide +kernel
theorem dX5_append_51 : decode cX5_append 51 = .ok (.iastore, 1) := by decide +kernel
theorem dX5_append_52 : decode cX5_append 52 = .ok (.aload_n 0, 1) := by decide +kernel
theorem dX5_append_53 : decode cX5_append 53 = .ok (.dup, 1) := by decide +kernel
theorem dX5_append_54 : decode cX5_append 54 = .ok (.getfield 168, 3) := by decide +kernel
theorem dX5_append_57 : decode cX5_append 57 = .ok (.iconst 1, 1) := by decide +kernel
theorem dX5_append_58 : decode cX5_append 58 = .ok (.iadd, 1) := by decide +kernel
theorem dX5_append_59 : decode cX5_append 59 = .ok (.putfield 168, 3) := by decide +kernel
theorem dX5_append_62 : decode cX5_append 62 = .ok (.aload_n 0, 1) := by decide +kernel
theorem dX5_append_63 : decode cX5_append 63 = .ok (.getfield 168, 3) := by decide +kernel
theorem dX5_append_66 : decode cX5_append 66 = .ok (.ireturn, 1) := by decide +kernel
theorem dX5_clearBuffer_0 : decode cX5_clearBuffer 0 = .ok (.aload_n 0, 1) := by decide +kernel
theorem dX5_clearBuffer_1 : decode cX5_clearBuffer 1 = .ok (.iconst 0, 1) := by decide +kernel
theorem dX5_clearBuffer_2 : decode cX5_clearBuffer 2 = .ok (.putfield 50, 3) := by decide +kernel
theorem dX5_clearBuffer_5 : decode cX5_clearBuffer 5 = .ok (.aload_n 0, 1) := by decide +kernel
theorem dX5_clearBuffer_6 : decode cX5_clearBuffer 6 = .ok (.getfield 168, 3) := by decide +kernel
theorem dX5_clearBuffer_9 : decode cX5_clearBuffer 9 = .ok (.istore_n 1, 1) := by decide +kernel
theorem dX5_clearBuffer_10 : decode cX5_clearBuffer 10 = .ok (.aload_n 0, 1) := by decide +kernel
theorem dX5_clearBuffer_11 : decode cX5_clearBuffer 11 = .ok (.iconst 0, 1) := by decide +kernel
theorem dX5_clearBuffer_12 : decode cX5_clearBuffer 12 = .ok (.putfield 168, 3) := by decide +kernel
theorem dX5_clearBuffer_15 : decode cX5_clearBuffer 15 = .ok (.iload_n 1, 1) := by decide +kernel
theorem dX5_clearBuffer_16 : decode cX5_clearBuffer 16 = .ok (.ireturn, 1) := by decide +kernel
theorem dX5_factorFor_0 : decode cX5_factorFor 0 = .ok (.iload_n 0, 1) := by decide +kernel
theorem dX5_factorFor_1 : decode cX5_factorFor 1 = .ok (.bipush 97, 2) := by decide +kernel
theorem dX5_factorFor_3 : decode cX5_factorFor 3 = .ok (.bipush 100, 2) := by decide +kernel
theorem dX5_factorFor_5 : decode cX5_factorFor 5 = .ok (.invokestatic 61, 3) := by decide +kernel
theorem dX5_factorFor_8 : decode cX5_factorFor 8 = .ok (.ifCond .eq 10, 3) := by decide +kernel
theorem dX5_factorFor_11 : decode cX5_factorFor 11 = .ok (.iload_n 0, 1) := by decide +kernel
theorem dX5_factorFor_12 : decode cX5_factorFor 12 = .ok (.bipush 97, 2) := by decide +kernel
theorem dX5_factorFor_14 : decode cX5_factorFor 14 = .ok (.isub, 1) := by decide +kernel
theorem dX5_factorFor_15 : decode cX5_factorFor 15 = .ok (.goto 24, 3) := by decide +kernel
theorem dX5_factorFor_18 : decode cX5_factorFor 18 = .ok (.iload_n 0, 1) := by decide +kernel
theorem dX5_factorFor_19 : decode cX5_factorFor 19 = .ok (.bipush 119, 2) := by decide +kernel
theorem dX5_factorFor_21 : decode cX5_factorFor 21 = .ok (.bipush 122, 2) := by decide +kernel
theorem dX5_factorFor_23 : decode cX5_factorFor 23 = .ok (.invokestatic 61, 3) := by decide +kernel
theorem dX5_factorFor_26 : decode cX5_factorFor 26 = .ok (.ifCond .eq 12, 3) := by decide +kernel
theorem dX5_factorFor_29 : decode cX5_factorFor 29 = .ok (.iload_n 0, 1) := by decide +kernel
theorem dX5_factorFor_30 : decode cX5_factorFor 30 = .ok (.bipush 119, 2) := by decide +kernel
theorem dX5_factorFor_32 : decode cX5_factorFor 32 = .ok (.isub, 1) := by decide +kernel
theorem dX5_factorFor_33 : decode cX5_factorFor 33 = .ok (.iconst 4, 1) := by decide +kernel
theorem dX5_factorFor_34 : decode cX5_factorFor 34 = .ok (.iadd, 1) := by decide +kernel
theorem dX5_factorFor_35 : decode cX5_factorFor 35 = .ok (.goto 4, 3) := by decide +kernel
theorem dX5_factorFor_38 : decode cX5_factorFor 38 = .ok (.iconst (-1), 1) := by decide +kernel
theorem dX5_factorFor_39 : decode cX5_factorFor 39 = .ok (.ireturn, 1) := by decide +kernel
theorem dX5_takes_0 : decode cX5_takes 0 = .ok (.iload_n 1, 1) := by decide +kernel
theorem dX5_takes_1 : decode cX5_takes 1 = .ok (.invokestatic 171, 3) := by decide +kernel
theorem dX5_takes_4 : decode cX5_takes 4 = .ok (.istore_n 2, 1) := by decide +kernel
theorem dX5_takes_5 : decode cX5_takes 5 = .ok (.iload_n 2, 1) := by decide +kernel
theorem dX5_takes_6 : decode cX5_takes 6 = .ok (.iconst (-1), 1) := by decide +kernel
theorem dX5_takes_7 : decode cX5_takes 7 = .ok (.if_icmp .eq 20, 3) := by decide +kernel
theorem dX5_takes_10 : decode cX5_takes 10 = .ok (.aload_n 0, 1) := by decide +kernel
theorem dX5_takes_11 : decode cX5_takes 11 = .ok (.getfield 47, 3) := by decide +kernel
theorem dX5_takes_14 : decode cX5_takes 14 = .ok (.iload_n 2, 1) := by decide +kernel
theorem dX5_takes_15 : decode cX5_takes 15 = .ok (.dup2, 1) := by decide +kernel
theorem dX5_takes_16 : decode cX5_takes 16 = .ok (.iaload, 1) := by decide +kernel
theorem dX5_takes_17 : decode cX5_takes 17 = .ok (.iconst 1, 1) := by decide +kernel
theorem dX5_takes_18 : decode cX5_takes 18 = .ok (.iadd, 1) := by decide +kernel
theorem dX5_takes_19 : decode cX5_takes 19 = .ok (.iastore, 1) := by decide +kernel
theorem dX5_takes_20 : decode cX5_takes 20 = .ok (.aload_n 0, 1) := by decide +kernel
theorem dX5_takes_21 : decode cX5_takes 21 = .ok (.iload_n 2, 1) := by decide +kernel
theorem dX5_takes_22 : decode cX5_takes 22 = .ok (.putfield 174, 3) := by decide +kernel
theorem dX5_takes_25 : decode cX5_takes 25 = .ok (.iconst 1, 1) := by decide +kernel
theorem dX5_takes_26 : decode cX5_takes 26 = .ok (.ireturn, 1) := by decide +kernel
theorem dX5_takes_27 : decode cX5_takes 27 = .ok (.aload_n 0, 1) := by decide +kernel
theorem dX5_takes_28 : decode cX5_takes 28 = .ok (.getfield 174, 3) := by decide +kernel
theorem dX5_takes_31 : decode cX5_takes 31 = .ok (.iconst (-1), 1) := by decide +kernel
theorem dX5_takes_32 : decode cX5_takes 32 = .ok (.if_icmp .eq 18, 3) := by decide +kernel
theorem dX5_takes_35 : decode cX5_takes 35 = .ok (.iload_n 1, 1) := by decide +kernel
theorem dX5_takes_36 : decode cX5_takes 36 = .ok (.bipush 50, 2) := by decide +kernel
theorem dX5_takes_38 : decode cX5_takes 38 = .ok (.bipush 57, 2) := by decide +kernel
theorem dX5_takes_40 : decode cX5_takes 40 = .ok (.invokestatic 61, 3) := by decide +kernel
theorem dX5_takes_43 : decode cX5_takes 43 = .ok (.ifCond .eq 7, 3) := by decide +kernel
theorem dX5_takes_46 : decode cX5_takes 46 = .ok (.iconst 1, 1) := by decide +kernel
theorem dX5_takes_47 : decode cX5_takes 47 = .ok (.goto 4, 3) := by decide +kernel
theorem dX5_takes_50 : decode cX5_takes 50 = .ok (.iconst 0, 1) := by decide +kernel
theorem dX5_takes_51 : decode cX5_takes 51 = .ok (.istore_n 3, 1) := by decide +kernel
theorem dX5_takes_52 : decode cX5_takes 52 = .ok (.iload_n 3, 1) := by decide +kernel
theorem dX5_takes_53 : decode cX5_takes 53 = .ok (.ifCond .eq 19, 3) := by decide +kernel
theorem dX5_takes_56 : decode cX5_takes 56 = .ok (.aload_n 0, 1) := by decide +kernel
theorem dX5_takes_57 : decode cX5_takes 57 = .ok (.getfield 47, 3) := by decide +kernel
theorem dX5_takes_60 : decode cX5_takes 60 = .ok (.aload_n 0, 1) := by decide +kernel
theorem dX5_takes_61 : decode cX5_takes 61 = .ok (.getfield 174, 3) := by decide +kernel
theorem dX5_takes_64 : decode cX5_takes 64 = .ok (.dup2, 1) := by decide +kernel
theorem dX5_takes_65 : decode cX5_takes 65 = .ok (.iaload, 1) := by decide +kernel
theorem dX5_takes_66 : decode cX5_takes 66 = .ok (.iload_n 1, 1) := by decide +kernel
theorem dX5_takes_67 : decode cX5_takes 67 = .ok (.bipush 49, 2) := by decide +kernel
theorem dX5_takes_69 : decode cX5_takes 69 = .ok (.isub, 1) := by decide +kernel
theorem dX5_takes_70 : decode cX5_takes 70 = .ok (.iadd, 1) := by decide +kernel
theorem dX5_takes_71 : decode cX5_takes 71 = .ok (.iastore, 1) := by decide +kernel
theorem dX5_takes_72 : decode cX5_takes 72 = .ok (.aload_n 0, 1) := by decide +kernel
theorem dX5_takes_73 : decode cX5_takes 73 = .ok (.iconst (-1), 1) := by decide +kernel
theorem dX5_takes_74 : decode cX5_takes 74 = .ok (.putfield 174, 3) := by decide +kernel
theorem dX5_takes_77 : decode cX5_takes 77 = .ok (.iload_n 3, 1) := by decide +kernel
theorem dX5_takes_78 : decode cX5_takes 78 = .ok (.ireturn, 1) := by decide +kernel
theorem dX5_rightUpTo_0 : decode cX5_rightUpTo 0 = .ok (.iconst 0, 1) := by decide +kernel
theorem dX5_rightUpTo_1 : decode cX5_rightUpTo 1 = .ok (.istore_n 1, 1) := by decide +kernel
theorem dX5_rightUpTo_2 : decode cX5_rightUpTo 2 = .ok (.iload_n 1, 1) := by decide +kernel
theorem dX5_rightUpTo_3 : decode cX5_rightUpTo 3 = .ok (.bipush 8, 2) := by decide +kernel
theorem dX5_rightUpTo_5 : decode cX5_rightUpTo 5 = .ok (.if_icmp .ge 16, 3) := by decide +kernel
theorem dX5_rightUpTo_8 : decode cX5_rightUpTo 8 = .ok (.aload_n 0, 1) := by decide +kernel
theorem dX5_rightUpTo_9 : decode cX5_rightUpTo 9 = .ok (.getfield 47, 3) := by decide +kernel
theorem dX5_rightUpTo_12 : decode cX5_rightUpTo 12 = .ok (.iload_n 1, 1) := by decide +kernel
theorem dX5_rightUpTo_13 : decode cX5_rightUpTo 13 = .ok (.iconst 0, 1) := by decide +kernel
theorem dX5_rightUpTo_14 : decode cX5_rightUpTo 14 = .ok (.iastore, 1) := by decide +kernel
theorem dX5_rightUpTo_15 : decode cX5_rightUpTo 15 = .ok (.iinc 1 1, 3) := by decide +kernel
theorem dX5_rightUpTo_18 : decode cX5_rightUpTo 18 = .ok (.goto (-16), 3) := by decide +kernel
theorem dX5_rightUpTo_21 : decode cX5_rightUpTo 21 = .ok (.aload_n 0, 1) := by decide +kernel
theorem dX5_rightUpTo_22 : decode cX5_rightUpTo 22 = .ok (.iconst (-1), 1) := by decide +kernel
theorem dX5_rightUpTo_23 : decode cX5_rightUpTo 23 = .ok (.putfield 174, 3) := by decide +kernel
theorem dX5_rightUpTo_26 : decode cX5_rightUpTo 26 = .ok (.aload_n 0, 1) := by decide +kernel
theorem dX5_rightUpTo_27 : decode cX5_rightUpTo 27 = .ok (.getfield 168, 3) := by decide +kernel
theorem dX5_rightUpTo_30 : decode cX5_rightUpTo 30 = .ok (.ifCond .le 16, 3) := by decide +kernel
theorem dX5_rightUpTo_33 : decode cX5_rightUpTo 33 = .ok (.aload_n 0, 1) := by decide +kernel
theorem dX5_rightUpTo_34 : decode cX5_rightUpTo 34 = .ok (.getfield 22, 3) := by decide +kernel
theorem dX5_rightUpTo_37 : decode cX5_rightUpTo 37 = .ok (.iconst 0, 1) := by decide +kernel
theorem dX5_rightUpTo_38 : decode cX5_rightUpTo 38 = .ok (.iaload, 1) := by decide +kernel
theorem dX5_rightUpTo_39 : decode cX5_rightUpTo 39 = .ok (.bipush 49, 2) := by decide +kernel
theorem dX5_rightUpTo_41 : decode cX5_rightUpTo 41 = .ok (.if_icmp .ne 5, 3) := by decide +kernel
theorem dX5_rightUpTo_44 : decode cX5_rightUpTo 44 = .ok (.iconst 1, 1) := by decide +kernel
theorem dX5_rightUpTo_45 : decode cX5_rightUpTo 45 = .ok (.ireturn, 1) := by decide +kernel
theorem dX5_rightUpTo_46 : decode cX5_rightUpTo 46 = .ok (.iconst 0, 1) := by decide +kernel
theorem dX5_rightUpTo_47 : decode cX5_rightUpTo 47 = .ok (.istore_n 1, 1) := by decide +kernel
theorem dX5_rightUpTo_48 : decode cX5_rightUpTo 48 = .ok (.iload_n 1, 1) := by decide +kernel
theorem dX5_rightUpTo_49 : decode cX5_rightUpTo 49 = .ok (.aload_n 0, 1) := by decide +kernel
theorem dX5_rightUpTo_50 : decode cX5_rightUpTo 50 = .ok (.getfield 168, 3) := by decide +kernel
theorem dX5_rightUpTo_53 : decode cX5_rightUpTo 53 = .ok (.if_icmp .ge 22, 3) := by decide +kernel
theorem dX5_rightUpTo_56 : decode cX5_rightUpTo 56 = .ok (.aload_n 0, 1) := by decide +kernel
theorem dX5_rightUpTo_57 : decode cX5_rightUpTo 57 = .ok (.aload_n 0, 1) := by decide +kernel
theorem dX5_rightUpTo_58 : decode cX5_rightUpTo 58 = .ok (.getfield 22, 3) := by decide +kernel
theorem dX5_rightUpTo_61 : decode cX5_rightUpTo 61 = .ok (.iload_n 1, 1) := by decide +kernel
theorem dX5_rightUpTo_62 : decode cX5_rightUpTo 62 = .ok (.iaload, 1) := by decide +kernel
theorem dX5_rightUpTo_63 : decode cX5_rightUpTo 63 = .ok (.invokevirtual 177, 3) := by decide +kernel
theorem dX5_rightUpTo_66 : decode cX5_rightUpTo 66 = .ok (.ifCond .eq 9, 3) := by decide +kernel
theorem dX5_rightUpTo_69 : decode cX5_rightUpTo 69 = .ok (.iinc 1 1, 3) := by decide +kernel
theorem dX5_rightUpTo_72 : decode cX5_rightUpTo 72 = .ok (.goto (-24), 3) := by decide +kernel
theorem dX5_rightUpTo_75 : decode cX5_rightUpTo 75 = .ok (.iload_n 1, 1) := by decide +kernel
theorem dX5_rightUpTo_76 : decode cX5_rightUpTo 76 = .ok (.ireturn, 1) := by decide +kernel
theorem dX5_firstError_0 : decode cX5_firstError 0 = .ok (.aload_n 0, 1) := by decide +kernel
theorem dX5_firstError_1 : decode cX5_firstError 1 = .ok (.iconst 0, 1) := by decide +kernel
theorem dX5_firstError_2 : decode cX5_firstError 2 = .ok (.putfield 50, 3) := by decide +kernel
theorem dX5_firstError_5 : decode cX5_firstError 5 = .ok (.aload_n 0, 1) := by decide +kernel
theorem dX5_firstError_6 : decode cX5_firstError 6 = .ok (.invokevirtual 180, 3) := by decide +kernel
theorem dX5_firstError_9 : decode cX5_firstError 9 = .ok (.ireturn, 1) := by decide +kernel
theorem dX5_areWithin_0 : decode cX5_areWithin 0 = .ok (.iconst 1, 1) := by decide +kernel
theorem dX5_areWithin_1 : decode cX5_areWithin 1 = .ok (.istore_n 2, 1) := by decide +kernel
theorem dX5_areWithin_2 : decode cX5_areWithin 2 = .ok (.iconst 0, 1) := by decide +kernel
theorem dX5_areWithin_3 : decode cX5_areWithin 3 = .ok (.istore_n 3, 1) := by decide +kernel
theorem dX5_areWithin_4 : decode cX5_areWithin 4 = .ok (.iload_n 3, 1) := by decide +kernel
theorem dX5_areWithin_5 : decode cX5_areWithin 5 = .ok (.bipush 8, 2) := by decide +kernel
theorem dX5_areWithin_7 : decode cX5_areWithin 7 = .ok (.if_icmp .ge 33, 3) := by decide +kernel
theorem dX5_areWithin_10 : decode cX5_areWithin 10 = .ok (.iload_n 2, 1) := by decide +kernel
theorem dX5_areWithin_11 : decode cX5_areWithin 11 = .ok (.ifCond .eq 21, 3) := by decide +kernel
theorem dX5_areWithin_14 : decode cX5_areWithin 14 = .ok (.aload_n 0, 1) := by decide +kernel
theorem dX5_areWithin_15 : decode cX5_areWithin 15 = .ok (.getfield 47, 3) := by decide +kernel
theorem dX5_areWithin_18 : decode cX5_areWithin 18 = .ok (.iload_n 3, 1) := by decide +kernel
theorem dX5_areWithin_19 : decode cX5_areWithin 19 = .ok (.iaload, 1) := by decide +kernel
theorem dX5_areWithin_20 : decode cX5_areWithin 20 = .ok (.iload_n 1, 1) := by decide +kernel
theorem dX5_areWithin_21 : decode cX5_areWithin 21 = .ok (.iload_n 3, 1) := by decide +kernel
theorem dX5_areWithin_22 : decode cX5_areWithin 22 = .ok (.invokestatic 145, 3) := by decide +kernel
theorem dX5_areWithin_25 : decode cX5_areWithin 25 = .ok (.if_icmp .gt 7, 3) := by decide +kernel
theorem dX5_areWithin_28 : decode cX5_areWithin 28 = .ok (.iconst 1, 1) := by decide +kernel
theorem dX5_areWithin_29 : decode cX5_areWithin 29 = .ok (.goto 4, 3) := by decide +kernel
theorem dX5_areWithin_32 : decode cX5_areWithin 32 = .ok (.iconst 0, 1) := by decide +kernel
theorem dX5_areWithin_33 : decode cX5_areWithin 33 = .ok (.istore_n 2, 1) := by decide +kernel
theorem dX5_areWithin_34 : decode cX5_areWithin 34 = .ok (.iinc 3 1, 3) := by decide +kernel
theorem dX5_areWithin_37 : decode cX5_areWithin 37 = .ok (.goto (-33), 3) := by decide +kernel
theorem dX5_areWithin_40 : decode cX5_areWithin 40 = .ok (.iload_n 2, 1) := by decide +kernel
theorem dX5_areWithin_41 : decode cX5_areWithin 41 = .ok (.ireturn, 1) := by decide +kernel
theorem dX5_read_0 : decode cX5_read 0 = .ok (.aload_n 0, 1) := by decide +kernel
theorem dX5_read_1 : decode cX5_read 1 = .ok (.invokevirtual 180, 3) := by decide +kernel
theorem dX5_read_4 : decode cX5_read 4 = .ok (.aload_n 0, 1) := by decide +kernel
theorem dX5_read_5 : decode cX5_read 5 = .ok (.getfield 168, 3) := by decide +kernel
theorem dX5_read_8 : decode cX5_read 8 = .ok (.if_icmp .ne 14, 3) := by decide +kernel
theorem dX5_read_11 : decode cX5_read 11 = .ok (.aload_n 0, 1) := by decide +kernel
theorem dX5_read_12 : decode cX5_read 12 = .ok (.getfield 168, 3) := by decide +kernel
theorem dX5_read_15 : decode cX5_read 15 = .ok (.ifCond .le 7, 3) := by decide +kernel
theorem dX5_read_18 : decode cX5_read 18 = .ok (.iconst 1, 1) := by decide +kernel
theorem dX5_read_19 : decode cX5_read 19 = .ok (.goto 4, 3) := by decide +kernel
theorem dX5_read_22 : decode cX5_read 22 = .ok (.iconst 0, 1) := by decide +kernel
theorem dX5_read_23 : decode cX5_read 23 = .ok (.istore_n 2, 1) := by decide +kernel
theorem dX5_read_24 : decode cX5_read 24 = .ok (.aload_n 0, 1) := by decide +kernel
theorem dX5_read_25 : decode cX5_read 25 = .ok (.iload_n 1, 1) := by decide +kernel
theorem dX5_read_26 : decode cX5_read 26 = .ok (.invokestatic 133, 3) := by decide +kernel
theorem dX5_read_29 : decode cX5_read 29 = .ok (.ifCond .ne 7, 3) := by decide +kernel
theorem dX5_read_32 : decode cX5_read 32 = .ok (.iconst 1, 1) := by decide +kernel
theorem dX5_read_33 : decode cX5_read 33 = .ok (.goto 24, 3) := by decide +kernel
theorem dX5_read_36 : decode cX5_read 36 = .ok (.iload_n 2, 1) := by decide +kernel
theorem dX5_read_37 : decode cX5_read 37 = .ok (.ifCond .ne 7, 3) := by decide +kernel
theorem dX5_read_40 : decode cX5_read 40 = .ok (.iconst 2, 1) := by decide +kernel
theorem dX5_read_41 : decode cX5_read 41 = .ok (.goto 16, 3) := by decide +kernel
theorem dX5_read_44 : decode cX5_read 44 = .ok (.aload_n 0, 1) := by decide +kernel
theorem dX5_read_45 : decode cX5_read 45 = .ok (.iload_n 1, 1) := by decide +kernel
theorem dX5_read_46 : decode cX5_read 46 = .ok (.invokevirtual 183, 3) := by decide +kernel
theorem dX5_read_49 : decode cX5_read 49 = .ok (.ifCond .eq 7, 3) := by decide +kernel
theorem dX5_read_52 : decode cX5_read 52 = .ok (.iconst 0, 1) := by decide +kernel
theorem dX5_read_53 : decode cX5_read 53 = .ok (.goto 4, 3) := by decide +kernel
theorem dX5_read_56 : decode cX5_read 56 = .ok (.iconst 3, 1) := by decide +kernel
theorem dX5_read_57 : decode cX5_read 57 = .ok (.putfield 50, 3) := by decide +kernel
theorem dX5_read_60 : decode cX5_read 60 = .ok (.aload_n 0, 1) := by decide +kernel
theorem dX5_read_61 : decode cX5_read 61 = .ok (.getfield 50, 3) := by decide +kernel
theorem dX5_read_64 : decode cX5_read 64 = .ok (.ifCond .le 5, 3) := by decide +kernel
theorem dX5_read_67 : decode cX5_read 67 = .ok (.iconst 0, 1) := by decide +kernel
theorem dX5_read_68 : decode cX5_read 68 = .ok (.ireturn, 1) := by decide +kernel
theorem dX5_read_69 : decode cX5_read 69 = .ok (.aload_n 0, 1) := by decide +kernel
theorem dX5_read_70 : decode cX5_read 70 = .ok (.invokevirtual 139, 3) := by decide +kernel
theorem dX5_read_73 : decode cX5_read 73 = .ok (.aload_n 0, 1) := by decide +kernel
theorem dX5_read_74 : decode cX5_read 74 = .ok (.iconst 0, 1) := by decide +kernel
theorem dX5_read_75 : decode cX5_read 75 = .ok (.putfield 168, 3) := by decide +kernel
theorem dX5_read_78 : decode cX5_read 78 = .ok (.iconst 0, 1) := by decide +kernel
theorem dX5_read_79 : decode cX5_read 79 = .ok (.istore_n 3, 1) := by decide +kernel
theorem dX5_read_80 : decode cX5_read 80 = .ok (.iload_n 3, 1) := by decide +kernel
theorem dX5_read_81 : decode cX5_read 81 = .ok (.bipush 8, 2) := by decide +kernel
theorem dX5_read_83 : decode cX5_read 83 = .ok (.if_icmp .ge 26, 3) := by decide +kernel
theorem dX5_read_86 : decode cX5_read 86 = .ok (.aload_n 0, 1) := by decide +kernel
theorem dX5_read_87 : decode cX5_read 87 = .ok (.getfield 7, 3) := by decide +kernel
theorem dX5_read_90 : decode cX5_read 90 = .ok (.bipush 8, 2) := by decide +kernel
theorem dX5_read_92 : decode cX5_read 92 = .ok (.iload_n 1, 1) := by decide +kernel
theorem dX5_read_93 : decode cX5_read 93 = .ok (.imul, 1) := by decide +kernel
theorem dX5_read_94 : decode cX5_read 94 = .ok (.iload_n 3, 1) := by decide +kernel
theorem dX5_read_95 : decode cX5_read 95 = .ok (.iadd, 1) := by decide +kernel
theorem dX5_read_96 : decode cX5_read 96 = .ok (.aload_n 0, 1) := by decide +kernel
theorem dX5_read_97 : decode cX5_read 97 = .ok (.getfield 47, 3) := by decide +kernel
theorem dX5_read_100 : decode cX5_read 100 = .ok (.iload_n 3, 1) := by decide +kernel
theorem dX5_read_101 : decode cX5_read 101 = .ok (.iaload, 1) := by decide +kernel
theorem dX5_read_102 : decode cX5_read 102 = .ok (.iastore, 1) := by decide +kernel
theorem dX5_read_103 : decode cX5_read 103 = .ok (.iinc 3 1, 3) := by decide +kernel
theorem dX5_read_106 : decode cX5_read 106 = .ok (.goto (-26), 3) := by decide +kernel
theorem dX5_read_109 : decode cX5_read 109 = .ok (.aload_n 0, 1) := by decide +kernel
theorem dX5_read_110 : decode cX5_read 110 = .ok (.iload_n 1, 1) := by decide +kernel
theorem dX5_read_111 : decode cX5_read 111 = .ok (.invokevirtual 151, 3) := by decide +kernel
theorem dX5_read_114 : decode cX5_read 114 = .ok (.ireturn, 1) := by decide +kernel
theorem dX5_isSnapshot_0 : decode cX5_isSnapshot 0 = .ok (.iload_n 0, 1) := by decide +kernel
theorem dX5_isSnapshot_1 : decode cX5_isSnapshot 1 = .ok (.iconst 0, 1) := by decide +kernel
theorem dX5_isSnapshot_2 : decode cX5_isSnapshot 2 = .ok (.iconst 1, 1) := by decide +kernel
theorem dX5_isSnapshot_3 : decode cX5_isSnapshot 3 = .ok (.invokestatic 61, 3) := by decide +kernel
theorem dX5_isSnapshot_6 : decode cX5_isSnapshot 6 = .ok (.ireturn, 1) := by decide +kernel
theorem dX5_allFactors_0 : decode cX5_allFactors 0 = .ok (.aload_n 0, 1) := by decide +kernel
theorem dX5_allFactors_1 : decode cX5_allFactors 1 = .ok (.iconst 0, 1) := by decide +kernel
theorem dX5_allFactors_2 : decode cX5_allFactors 2 = .ok (.invokevirtual 151, 3) := by decide +kernel
theorem dX5_allFactors_5 : decode cX5_allFactors 5 = .ok (.aload_n 0, 1) := by decide +kernel
theorem dX5_allFactors_6 : decode cX5_allFactors 6 = .ok (.iconst 1, 1) := by decide +kernel
theorem dX5_allFactors_7 : decode cX5_allFactors 7 = .ok (.invokevirtual 151, 3) := by decide +kernel
theorem dX5_allFactors_10 : decode cX5_allFactors 10 = .ok (.iadd, 1) := by decide +kernel
theorem dX5_allFactors_11 : decode cX5_allFactors 11 = .ok (.aload_n 0, 1) := by decide +kernel
theorem dX5_allFactors_12 : decode cX5_allFactors 12 = .ok (.iconst 2, 1) := by decide +kernel
theorem dX5_allFactors_13 : decode cX5_allFactors 13 = .ok (.invokevirtual 151, 3) := by decide +kernel
theorem dX5_allFactors_16 : decode cX5_allFactors 16 = .ok (.iadd, 1) := by decide +kernel
theorem dX5_allFactors_17 : decode cX5_allFactors 17 = .ok (.ireturn, 1) := by decide +kernel
theorem dX5_take_0 : decode cX5_take 0 = .ok (.aload_n 0, 1) := by decide +kernel
theorem dX5_take_1 : decode cX5_take 1 = .ok (.iload_n 1, 1) := by decide +kernel
theorem dX5_take_2 : decode cX5_take 2 = .ok (.invokestatic 186, 3) := by decide +kernel
theorem dX5_take_5 : decode cX5_take 5 = .ok (.ifCond .eq 7, 3) := by decide +kernel
theorem dX5_take_8 : decode cX5_take 8 = .ok (.iconst 0, 1) := by decide +kernel
theorem dX5_take_9 : decode cX5_take 9 = .ok (.goto 4, 3) := by decide +kernel
theorem dX5_take_12 : decode cX5_take 12 = .ok (.iconst 1, 1) := by decide +kernel
theorem dX5_take_13 : decode cX5_take 13 = .ok (.putfield 50, 3) := by decide +kernel
theorem dX5_take_16 : decode cX5_take 16 = .ok (.aload_n 0, 1) := by decide +kernel
theorem dX5_take_17 : decode cX5_take 17 = .ok (.getfield 50, 3) := by decide +kernel
theorem dX5_take_20 : decode cX5_take 20 = .ok (.ifCond .le 5, 3) := by decide +kernel
theorem dX5_take_23 : decode cX5_take 23 = .ok (.iconst 0, 1) := by decide +kernel
theorem dX5_take_24 : decode cX5_take 24 = .ok (.ireturn, 1) := by decide +kernel
theorem dX5_take_25 : decode cX5_take 25 = .ok (.aload_n 0, 1) := by decide +kernel
theorem dX5_take_26 : decode cX5_take 26 = .ok (.getfield 19, 3) := by decide +kernel
theorem dX5_take_29 : decode cX5_take 29 = .ok (.iload_n 1, 1) := by decide +kernel
theorem dX5_take_30 : decode cX5_take 30 = .ok (.iconst 1, 1) := by decide +kernel
theorem dX5_take_31 : decode cX5_take 31 = .ok (.iastore, 1) := by decide +kernel
theorem dX5_take_32 : decode cX5_take 32 = .ok (.iconst 0, 1) := by decide +kernel
theorem dX5_take_33 : decode cX5_take 33 = .ok (.istore_n 2, 1) := by decide +kernel
theorem dX5_take_34 : decode cX5_take 34 = .ok (.iload_n 2, 1) := by decide +kernel
theorem dX5_take_35 : decode cX5_take 35 = .ok (.bipush 24, 2) := by decide +kernel
theorem dX5_take_37 : decode cX5_take 37 = .ok (.if_icmp .ge 26, 3) := by decide +kernel
theorem dX5_take_40 : decode cX5_take 40 = .ok (.aload_n 0, 1) := by decide +kernel
theorem dX5_take_41 : decode cX5_take 41 = .ok (.getfield 16, 3) := by decide +kernel
theorem dX5_take_44 : decode cX5_take 44 = .ok (.bipush 24, 2) := by decide +kernel
theorem dX5_take_46 : decode cX5_take 46 = .ok (.iload_n 1, 1) := by decide +kernel
theorem dX5_take_47 : decode cX5_take 47 = .ok (.imul, 1) := by decide +kernel
theorem dX5_take_48 : decode cX5_take 48 = .ok (.iload_n 2, 1) := by decide +kernel
theorem dX5_take_49 : decode cX5_take 49 = .ok (.iadd, 1) := by decide +kernel
theorem dX5_take_50 : decode cX5_take 50 = .ok (.aload_n 0, 1) := by decide +kernel
theorem dX5_take_51 : decode cX5_take 51 = .ok (.getfield 7, 3) := by decide +kernel
theorem dX5_take_54 : decode cX5_take 54 = .ok (.iload_n 2, 1) := by decide +kernel
theorem dX5_take_55 : decode cX5_take 55 = .ok (.iaload, 1) := by decide +kernel
theorem dX5_take_56 : decode cX5_take 56 = .ok (.iastore, 1) := by decide +kernel
theorem dX5_take_57 : decode cX5_take 57 = .ok (.iinc 2 1, 3) := by decide +kernel
theorem dX5_take_60 : decode cX5_take 60 = .ok (.goto (-26), 3) := by decide +kernel
theorem dX5_take_63 : decode cX5_take 63 = .ok (.aload_n 0, 1) := by decide +kernel
theorem dX5_take_64 : decode cX5_take 64 = .ok (.invokevirtual 189, 3) := by decide +kernel
theorem dX5_take_67 : decode cX5_take 67 = .ok (.ireturn, 1) := by decide +kernel
theorem dX5_restore_0 : decode cX5_restore 0 = .ok (.aload_n 0, 1) := by decide +kernel
theorem dX5_restore_1 : decode cX5_restore 1 = .ok (.iload_n 1, 1) := by decide +kernel
theorem dX5_restore_2 : decode cX5_restore 2 = .ok (.invokestatic 186, 3) := by decide +kernel
theorem dX5_restore_5 : decode cX5_restore 5 = .ok (.ifCond .eq 7, 3) := by decide +kernel
theorem dX5_restore_8 : decode cX5_restore 8 = .ok (.iconst 0, 1) := by decide +kernel
theorem dX5_restore_9 : decode cX5_restore 9 = .ok (.goto 4, 3) := by decide +kernel
theorem dX5_restore_12 : decode cX5_restore 12 = .ok (.iconst 1, 1) := by decide +kernel
theorem dX5_restore_13 : decode cX5_restore 13 = .ok (.putfield 50, 3) := by decide +kernel
theorem dX5_restore_16 : decode cX5_restore 16 = .ok (.aload_n 0, 1) := by decide +kernel
theorem dX5_restore_17 : decode cX5_restore 17 = .ok (.getfield 50, 3) := by decide +kernel
theorem dX5_restore_20 : decode cX5_restore 20 = .ok (.ifCond .ne 22, 3) := by decide +kernel
theorem dX5_restore_23 : decode cX5_restore 23 = .ok (.aload_n 0, 1) := by decide +kernel
theorem dX5_restore_24 : decode cX5_restore 24 = .ok (.aload_n 0, 1) := by decide +kernel
theorem dX5_restore_25 : decode cX5_restore 25 = .ok (.getfield 19, 3) := by decide +kernel
theorem dX5_restore_28 : decode cX5_restore 28 = .ok (.iload_n 1, 1) := by decide +kernel
theorem dX5_restore_29 : decode cX5_restore 29 = .ok (.iaload, 1) := by decide +kernel
theorem dX5_restore_30 : decode cX5_restore 30 = .ok (.iconst 1, 1) := by decide +kernel
theorem dX5_restore_31 : decode cX5_restore 31 = .ok (.if_icmp .ne 7, 3) := by decide +kernel
theorem dX5_restore_34 : decode cX5_restore 34 = .ok (.iconst 0, 1) := by decide +kernel
theorem dX5_restore_35 : decode cX5_restore 35 = .ok (.goto 4, 3) := by decide +kernel
theorem dX5_restore_38 : decode cX5_restore 38 = .ok (.iconst 2, 1) := by decide +kernel
theorem dX5_restore_39 : decode cX5_restore 39 = .ok (.putfield 50, 3) := by decide +kernel
theorem dX5_restore_42 : decode cX5_restore 42 = .ok (.aload_n 0, 1) := by decide +kernel
theorem dX5_restore_43 : decode cX5_restore 43 = .ok (.getfield 50, 3) := by decide +kernel
theorem dX5_restore_46 : decode cX5_restore 46 = .ok (.ifCond .le 5, 3) := by decide +kernel
theorem dX5_restore_49 : decode cX5_restore 49 = .ok (.iconst 0, 1) := by decide +kernel
theorem dX5_restore_50 : decode cX5_restore 50 = .ok (.ireturn, 1) := by decide +kernel
theorem dX5_restore_51 : decode cX5_restore 51 = .ok (.aload_n 0, 1) := by decide +kernel
theorem dX5_restore_52 : decode cX5_restore 52 = .ok (.invokevirtual 139, 3) := by decide +kernel
theorem dX5_restore_55 : decode cX5_restore 55 = .ok (.iconst 0, 1) := by decide +kernel
theorem dX5_restore_56 : decode cX5_restore 56 = .ok (.istore_n 2, 1) := by decide +kernel
theorem dX5_restore_57 : decode cX5_restore 57 = .ok (.iload_n 2, 1) := by decide +kernel
theorem dX5_restore_58 : decode cX5_restore 58 = .ok (.bipush 24, 2) := by decide +kernel
theorem dX5_restore_60 : decode cX5_restore 60 = .ok (.if_icmp .ge 26, 3) := by decide +kernel
theorem dX5_restore_63 : decode cX5_restore 63 = .ok (.aload_n 0, 1) := by decide +kernel
theorem dX5_restore_64 : decode cX5_restore 64 = .ok (.getfield 7, 3) := by decide +kernel
theorem dX5_restore_67 : decode cX5_restore 67 = .ok (.iload_n 2, 1) := by decide +kernel
theorem dX5_restore_68 : decode cX5_restore 68 = .ok (.aload_n 0, 1) := by decide +kernel
theorem dX5_restore_69 : decode cX5_restore 69 = .ok (.getfield 16, 3) := by decide +kernel
theorem dX5_restore_72 : decode cX5_restore 72 = .ok (.bipush 24, 2) := by decide +kernel
theorem dX5_restore_74 : decode cX5_restore 74 = .ok (.iload_n 1, 1) := by decide +kernel
theorem dX5_restore_75 : decode cX5_restore 75 = .ok (.imul, 1) := by decide +kernel
theorem dX5_restore_76 : decode cX5_restore 76 = .ok (.iload_n 2, 1) := by decide +kernel
theorem dX5_restore_77 : decode cX5_restore 77 = .ok (.iadd, 1) := by decide +kernel
theorem dX5_restore_78 : decode cX5_restore 78 = .ok (.iaload, 1) := by decide +kernel
theorem dX5_restore_79 : decode cX5_restore 79 = .ok (.iastore, 1) := by decide +kernel
theorem dX5_restore_80 : decode cX5_restore 80 = .ok (.iinc 2 1, 3) := by decide +kernel
theorem dX5_restore_83 : decode cX5_restore 83 = .ok (.goto (-26), 3) := by decide +kernel
theorem dX5_restore_86 : decode cX5_restore 86 = .ok (.aload_n 0, 1) := by decide +kernel
theorem dX5_restore_87 : decode cX5_restore 87 = .ok (.invokevirtual 189, 3) := by decide +kernel
theorem dX5_restore_90 : decode cX5_restore 90 = .ok (.ireturn, 1) := by decide +kernel
theorem dX5_undo_0 : decode cX5_undo 0 = .ok (.aload_n 0, 1) := by decide +kernel
theorem dX5_undo_1 : decode cX5_undo 1 = .ok (.aload_n 0, 1) := by decide +kernel
theorem dX5_undo_2 : decode cX5_undo 2 = .ok (.getfield 54, 3) := by decide +kernel
theorem dX5_undo_5 : decode cX5_undo 5 = .ok (.ifCond .le 7, 3) := by decide +kernel
theorem dX5_undo_8 : decode cX5_undo 8 = .ok (.iconst 0, 1) := by decide +kernel
theorem dX5_undo_9 : decode cX5_undo 9 = .ok (.goto 4, 3) := by decide +kernel
theorem dX5_undo_12 : decode cX5_undo 12 = .ok (.iconst 1, 1) := by decide +kernel
theorem dX5_undo_13 : decode cX5_undo 13 = .ok (.putfield 50, 3) := by decide +kernel
theorem dX5_undo_16 : decode cX5_undo 16 = .ok (.aload_n 0, 1) := by decide +kernel
theorem dX5_undo_17 : decode cX5_undo 17 = .ok (.getfield 50, 3) := by decide +kernel
theorem dX5_undo_20 : decode cX5_undo 20 = .ok (.ifCond .le 5, 3) := by decide +kernel
theorem dX5_undo_23 : decode cX5_undo 23 = .ok (.iconst 0, 1) := by decide +kernel
theorem dX5_undo_24 : decode cX5_undo 24 = .ok (.ireturn, 1) := by decide +kernel
theorem dX5_undo_25 : decode cX5_undo 25 = .ok (.aload_n 0, 1) := by decide +kernel
theorem dX5_undo_26 : decode cX5_undo 26 = .ok (.dup, 1) := by decide +kernel
theorem dX5_undo_27 : decode cX5_undo 27 = .ok (.getfield 54, 3) := by decide +kernel
theorem dX5_undo_30 : decode cX5_undo 30 = .ok (.iconst 1, 1) := by decide +kernel
theorem dX5_undo_31 : decode cX5_undo 31 = .ok (.isub, 1) := by decide +kernel
theorem dX5_undo_32 : decode cX5_undo 32 = .ok (.putfield 54, 3) := by decide +kernel
theorem dX5_undo_35 : decode cX5_undo 35 = .ok (.iconst 0, 1) := by decide +kernel
theorem dX5_undo_36 : decode cX5_undo 36 = .ok (.istore_n 1, 1) := by decide +kernel
theorem dX5_undo_37 : decode cX5_undo 37 = .ok (.iload_n 1, 1) := by decide +kernel
theorem dX5_undo_38 : decode cX5_undo 38 = .ok (.bipush 26, 2) := by decide +kernel
theorem dX5_undo_40 : decode cX5_undo 40 = .ok (.if_icmp .ge 29, 3) := by decide +kernel
theorem dX5_undo_43 : decode cX5_undo 43 = .ok (.aload_n 0, 1) := by decide +kernel
theorem dX5_undo_44 : decode cX5_undo 44 = .ok (.getfield 7, 3) := by decide +kernel
theorem dX5_undo_47 : decode cX5_undo 47 = .ok (.iload_n 1, 1) := by decide +kernel
theorem dX5_undo_48 : decode cX5_undo 48 = .ok (.aload_n 0, 1) := by decide +kernel
theorem dX5_undo_49 : decode cX5_undo 49 = .ok (.getfield 13, 3) := by decide +kernel
theorem dX5_undo_52 : decode cX5_undo 52 = .ok (.bipush 26, 2) := by decide +kernel
theorem dX5_undo_54 : decode cX5_undo 54 = .ok (.aload_n 0, 1) := by decide +kernel
theorem dX5_undo_55 : decode cX5_undo 55 = .ok (.getfield 54, 3) := by decide +kernel
theorem dX5_undo_58 : decode cX5_undo 58 = .ok (.imul, 1) := by decide +kernel
theorem dX5_undo_59 : decode cX5_undo 59 = .ok (.iload_n 1, 1) := by decide +kernel
theorem dX5_undo_60 : decode cX5_undo 60 = .ok (.iadd, 1) := by decide +kernel
theorem dX5_undo_61 : decode cX5_undo 61 = .ok (.iaload, 1) := by decide +kernel
theorem dX5_undo_62 : decode cX5_undo 62 = .ok (.iastore, 1) := by decide +kernel
theorem dX5_undo_63 : decode cX5_undo 63 = .ok (.iinc 1 1, 3) := by decide +kernel
theorem dX5_undo_66 : decode cX5_undo 66 = .ok (.goto (-29), 3) := by decide +kernel
theorem dX5_undo_69 : decode cX5_undo 69 = .ok (.aload_n 0, 1) := by decide +kernel
theorem dX5_undo_70 : decode cX5_undo 70 = .ok (.getfield 54, 3) := by decide +kernel
theorem dX5_undo_73 : decode cX5_undo 73 = .ok (.ireturn, 1) := by decide +kernel
theorem dX5_times_0 : decode cX5_times 0 = .ok (.aload_n 0, 1) := by decide +kernel
theorem dX5_times_1 : decode cX5_times 1 = .ok (.iload_n 1, 1) := by decide +kernel
theorem dX5_times_2 : decode cX5_times 2 = .ok (.invokestatic 133, 3) := by decide +kernel
theorem dX5_times_5 : decode cX5_times 5 = .ok (.ifCond .eq 17, 3) := by decide +kernel
theorem dX5_times_8 : decode cX5_times 8 = .ok (.iload_n 2, 1) := by decide +kernel
theorem dX5_times_9 : decode cX5_times 9 = .ok (.iconst 0, 1) := by decide +kernel
theorem dX5_times_10 : decode cX5_times 10 = .ok (.bipush 7, 2) := by decide +kernel
theorem dX5_times_12 : decode cX5_times 12 = .ok (.invokestatic 61, 3) := by decide +kernel
theorem dX5_times_15 : decode cX5_times 15 = .ok (.ifCond .eq 7, 3) := by decide +kernel
theorem dX5_times_18 : decode cX5_times 18 = .ok (.iconst 0, 1) := by decide +kernel
theorem dX5_times_19 : decode cX5_times 19 = .ok (.goto 4, 3) := by decide +kernel
theorem dX5_times_22 : decode cX5_times 22 = .ok (.iconst 1, 1) := by decide +kernel
theorem dX5_times_23 : decode cX5_times 23 = .ok (.putfield 50, 3) := by decide +kernel
theorem dX5_times_26 : decode cX5_times 26 = .ok (.aload_n 0, 1) := by decide +kernel
theorem dX5_times_27 : decode cX5_times 27 = .ok (.getfield 50, 3) := by decide +kernel
theorem dX5_times_30 : decode cX5_times 30 = .ok (.ifCond .le 7, 3) := by decide +kernel
theorem dX5_times_33 : decode cX5_times 33 = .ok (.iconst 0, 1) := by decide +kernel
theorem dX5_times_34 : decode cX5_times 34 = .ok (.goto 9, 3) := by decide +kernel
theorem dX5_times_37 : decode cX5_times 37 = .ok (.aload_n 0, 1) := by decide +kernel
theorem dX5_times_38 : decode cX5_times 38 = .ok (.iload_n 1, 1) := by decide +kernel
theorem dX5_times_39 : decode cX5_times 39 = .ok (.iload_n 2, 1) := by decide +kernel
theorem dX5_times_40 : decode cX5_times 40 = .ok (.invokevirtual 57, 3) := by decide +kernel
theorem dX5_times_43 : decode cX5_times 43 = .ok (.ireturn, 1) := by decide +kernel
theorem dX5_rest_0 : decode cX5_rest 0 = .ok (.aload_n 0, 1) := by decide +kernel
theorem dX5_rest_1 : decode cX5_rest 1 = .ok (.iload_n 1, 1) := by decide +kernel
theorem dX5_rest_2 : decode cX5_rest 2 = .ok (.invokestatic 136, 3) := by decide +kernel
theorem dX5_rest_5 : decode cX5_rest 5 = .ok (.ifCond .eq 7, 3) := by decide +kernel
theorem dX5_rest_8 : decode cX5_rest 8 = .ok (.iconst 0, 1) := by decide +kernel
theorem dX5_rest_9 : decode cX5_rest 9 = .ok (.goto 4, 3) := by decide +kernel
theorem dX5_rest_12 : decode cX5_rest 12 = .ok (.iconst 1, 1) := by decide +kernel
theorem dX5_rest_13 : decode cX5_rest 13 = .ok (.putfield 50, 3) := by decide +kernel
theorem dX5_rest_16 : decode cX5_rest 16 = .ok (.aload_n 0, 1) := by decide +kernel
theorem dX5_rest_17 : decode cX5_rest 17 = .ok (.getfield 50, 3) := by decide +kernel
theorem dX5_rest_20 : decode cX5_rest 20 = .ok (.ifCond .le 7, 3) := by decide +kernel
theorem dX5_rest_23 : decode cX5_rest 23 = .ok (.iconst 0, 1) := by decide +kernel
theorem dX5_rest_24 : decode cX5_rest 24 = .ok (.goto 8, 3) := by decide +kernel
theorem dX5_rest_27 : decode cX5_rest 27 = .ok (.aload_n 0, 1) := by decide +kernel
theorem dX5_rest_28 : decode cX5_rest 28 = .ok (.iload_n 1, 1) := by decide +kernel
theorem dX5_rest_29 : decode cX5_rest 29 = .ok (.invokevirtual 75, 3) := by decide +kernel
theorem dX5_rest_32 : decode cX5_rest 32 = .ok (.ireturn, 1) := by decide +kernel
theorem dX5_solutionsOf_0 : decode cX5_solutionsOf 0 = .ok (.aload_n 0, 1) := by decide +kernel
theorem dX5_solutionsOf_1 : decode cX5_solutionsOf 1 = .ok (.iload_n 1, 1) := by decide +kernel
theorem dX5_solutionsOf_2 : decode cX5_solutionsOf 2 = .ok (.aload_n 0, 1) := by decide +kernel
theorem dX5_solutionsOf_3 : decode cX5_solutionsOf 3 = .ok (.iload_n 1, 1) := by decide +kernel
theorem dX5_solutionsOf_4 : decode cX5_solutionsOf 4 = .ok (.invokevirtual 75, 3) := by decide +kernel
theorem dX5_solutionsOf_7 : decode cX5_solutionsOf 7 = .ok (.invokevirtual 79, 3) := by decide +kernel
theorem dX5_solutionsOf_10 : decode cX5_solutionsOf 10 = .ok (.aload_n 0, 1) := by decide +kernel
theorem dX5_solutionsOf_11 : decode cX5_solutionsOf 11 = .ok (.getfield 28, 3) := by decide +kernel
theorem dX5_solutionsOf_14 : decode cX5_solutionsOf 14 = .ok (.iload_n 1, 1) := by decide +kernel
theorem dX5_solutionsOf_15 : decode cX5_solutionsOf 15 = .ok (.iaload, 1) := by decide +kernel
theorem dX5_solutionsOf_16 : decode cX5_solutionsOf 16 = .ok (.ireturn, 1) := by decide +kernel
theorem dX5_solutions_0 : decode cX5_solutions 0 = .ok (.aload_n 0, 1) := by decide +kernel
theorem dX5_solutions_1 : decode cX5_solutions 1 = .ok (.iload_n 1, 1) := by decide +kernel
theorem dX5_solutions_2 : decode cX5_solutions 2 = .ok (.invokestatic 136, 3) := by decide +kernel
theorem dX5_solutions_5 : decode cX5_solutions 5 = .ok (.ifCond .eq 7, 3) := by decide +kernel
theorem dX5_solutions_8 : decode cX5_solutions 8 = .ok (.iconst 0, 1) := by decide +kernel
theorem dX5_solutions_9 : decode cX5_solutions 9 = .ok (.goto 4, 3) := by decide +kernel
theorem dX5_solutions_12 : decode cX5_solutions 12 = .ok (.iconst 1, 1) := by decide +kernel
theorem dX5_solutions_13 : decode cX5_solutions 13 = .ok (.putfield 50, 3) := by decide +kernel
theorem dX5_solutions_16 : decode cX5_solutions 16 = .ok (.aload_n 0, 1) := by decide +kernel
theorem dX5_solutions_17 : decode cX5_solutions 17 = .ok (.getfield 50, 3) := by decide +kernel
theorem dX5_solutions_20 : decode cX5_solutions 20 = .ok (.ifCond .le 7, 3) := by decide +kernel
theorem dX5_solutions_23 : decode cX5_solutions 23 = .ok (.iconst 0, 1) := by decide +kernel
theorem dX5_solutions_24 : decode cX5_solutions 24 = .ok (.goto 8, 3) := by decide +kernel
theorem dX5_solutions_27 : decode cX5_solutions 27 = .ok (.aload_n 0, 1) := by decide +kernel
theorem dX5_solutions_28 : decode cX5_solutions 28 = .ok (.iload_n 1, 1) := by decide +kernel
theorem dX5_solutions_29 : decode cX5_solutions 29 = .ok (.invokevirtual 192, 3) := by decide +kernel
theorem dX5_solutions_32 : decode cX5_solutions 32 = .ok (.ireturn, 1) := by decide +kernel
theorem dX5_matchersBy_0 : decode cX5_matchersBy 0 = .ok (.iload_n 1, 1) := by decide +kernel
theorem dX5_matchersBy_1 : decode cX5_matchersBy 1 = .ok (.ifCond .ne 10, 3) := by decide +kernel
theorem dX5_matchersBy_4 : decode cX5_matchersBy 4 = .ok (.aload_n 0, 1) := by decide +kernel
theorem dX5_matchersBy_5 : decode cX5_matchersBy 5 = .ok (.invokevirtual 195, 3) := by decide +kernel
theorem dX5_matchersBy_8 : decode cX5_matchersBy 8 = .ok (.goto 7, 3) := by decide +kernel
theorem dX5_matchersBy_11 : decode cX5_matchersBy 11 = .ok (.aload_n 0, 1) := by decide +kernel
theorem dX5_matchersBy_12 : decode cX5_matchersBy 12 = .ok (.invokevirtual 100, 3) := by decide +kernel
theorem dX5_matchersBy_15 : decode cX5_matchersBy 15 = .ok (.lreturn, 1) := by decide +kernel
theorem dX5_matchers_0 : decode cX5_matchers 0 = .ok (.aload_n 0, 1) := by decide +kernel
theorem dX5_matchers_1 : decode cX5_matchers 1 = .ok (.iload_n 1, 1) := by decide +kernel
theorem dX5_matchers_2 : decode cX5_matchers 2 = .ok (.iconst 0, 1) := by decide +kernel
theorem dX5_matchers_3 : decode cX5_matchers 3 = .ok (.iconst 1, 1) := by decide +kernel
theorem dX5_matchers_4 : decode cX5_matchers 4 = .ok (.invokestatic 61, 3) := by decide +kernel
theorem dX5_matchers_7 : decode cX5_matchers 7 = .ok (.ifCond .eq 7, 3) := by decide +kernel
theorem dX5_matchers_10 : decode cX5_matchers 10 = .ok (.iconst 0, 1) := by decide +kernel
theorem dX5_matchers_11 : decode cX5_matchers 11 = .ok (.goto 4, 3) := by decide +kernel
theorem dX5_matchers_14 : decode cX5_matchers 14 = .ok (.iconst 1, 1) := by decide +kernel
theorem dX5_matchers_15 : decode cX5_matchers 15 = .ok (.putfield 50, 3) := by decide +kernel
theorem dX5_matchers_18 : decode cX5_matchers 18 = .ok (.aload_n 0, 1) := by decide +kernel
theorem dX5_matchers_19 : decode cX5_matchers 19 = .ok (.getfield 50, 3) := by decide +kernel
theorem dX5_matchers_22 : decode cX5_matchers 22 = .ok (.ifCond .le 7, 3) := by decide +kernel
theorem dX5_matchers_25 : decode cX5_matchers 25 = .ok (.lconst 0, 1) := by decide +kernel
theorem dX5_matchers_26 : decode cX5_matchers 26 = .ok (.goto 8, 3) := by decide +kernel
theorem dX5_matchers_29 : decode cX5_matchers 29 = .ok (.aload_n 0, 1) := by decide +kernel
theorem dX5_matchers_30 : decode cX5_matchers 30 = .ok (.iload_n 1, 1) := by decide +kernel
theorem dX5_matchers_31 : decode cX5_matchers 31 = .ok (.invokevirtual 198, 3) := by decide +kernel
theorem dX5_matchers_34 : decode cX5_matchers 34 = .ok (.lreturn, 1) := by decide +kernel
theorem dX5_value_0 : decode cX5_value 0 = .ok (.aload_n 0, 1) := by decide +kernel
theorem dX5_value_1 : decode cX5_value 1 = .ok (.iload_n 2, 1) := by decide +kernel
theorem dX5_value_2 : decode cX5_value 2 = .ok (.invokestatic 142, 3) := by decide +kernel
theorem dX5_value_5 : decode cX5_value 5 = .ok (.ifCond .eq 10, 3) := by decide +kernel
theorem dX5_value_8 : decode cX5_value 8 = .ok (.iload_n 3, 1) := by decide +kernel
theorem dX5_value_9 : decode cX5_value 9 = .ok (.invokestatic 136, 3) := by decide +kernel
theorem dX5_value_12 : decode cX5_value 12 = .ok (.ifCond .ne 7, 3) := by decide +kernel
theorem dX5_value_15 : decode cX5_value 15 = .ok (.iconst 1, 1) := by decide +kernel
theorem dX5_value_16 : decode cX5_value 16 = .ok (.goto 16, 3) := by decide +kernel
theorem dX5_value_19 : decode cX5_value 19 = .ok (.aload_n 0, 1) := by decide +kernel
theorem dX5_value_20 : decode cX5_value 20 = .ok (.iload_n 1, 1) := by decide +kernel
theorem dX5_value_21 : decode cX5_value 21 = .ok (.invokevirtual 154, 3) := by decide +kernel
theorem dX5_value_24 : decode cX5_value 24 = .ok (.ifCond .eq 7, 3) := by decide +kernel
theorem dX5_value_27 : decode cX5_value 27 = .ok (.iconst 0, 1) := by decide +kernel
theorem dX5_value_28 : decode cX5_value 28 = .ok (.goto 4, 3) := by decide +kernel
theorem dX5_value_31 : decode cX5_value 31 = .ok (.iconst 2, 1) := by decide +kernel
theorem dX5_value_32 : decode cX5_value 32 = .ok (.putfield 50, 3) := by decide +kernel
theorem dX5_value_35 : decode cX5_value 35 = .ok (.aload_n 0, 1) := by decide +kernel
theorem dX5_value_36 : decode cX5_value 36 = .ok (.getfield 50, 3) := by decide +kernel
theorem dX5_value_39 : decode cX5_value 39 = .ok (.ifCond .le 5, 3) := by decide +kernel
theorem dX5_value_42 : decode cX5_value 42 = .ok (.iconst 0, 1) := by decide +kernel
theorem dX5_value_43 : decode cX5_value 43 = .ok (.ireturn, 1) := by decide +kernel
theorem dX5_value_44 : decode cX5_value 44 = .ok (.aload_n 0, 1) := by decide +kernel
theorem dX5_value_45 : decode cX5_value 45 = .ok (.iload_n 1, 1) := by decide +kernel
theorem dX5_value_46 : decode cX5_value 46 = .ok (.invokevirtual 157, 3) := by decide +kernel
theorem dX5_value_49 : decode cX5_value 49 = .ok (.aload_n 0, 1) := by decide +kernel
theorem dX5_value_50 : decode cX5_value 50 = .ok (.iload_n 2, 1) := by decide +kernel
theorem dX5_value_51 : decode cX5_value 51 = .ok (.iload_n 3, 1) := by decide +kernel
theorem dX5_value_52 : decode cX5_value 52 = .ok (.invokevirtual 201, 3) := by decide +kernel
theorem dX5_value_55 : decode cX5_value 55 = .ok (.ireturn, 1) := by decide +kernel
theorem dX5_leastAt_0 : decode cX5_leastAt 0 = .ok (.aload_n 0, 1) := by decide +kernel
theorem dX5_leastAt_1 : decode cX5_leastAt 1 = .ok (.invokevirtual 130, 3) := by decide +kernel
theorem dX5_leastAt_4 : decode cX5_leastAt 4 = .ok (.iload_n 1, 1) := by decide +kernel
theorem dX5_leastAt_5 : decode cX5_leastAt 5 = .ok (.aload_n 0, 1) := by decide +kernel
theorem dX5_leastAt_6 : decode cX5_leastAt 6 = .ok (.getfield 116, 3) := by decide +kernel
theorem dX5_leastAt_9 : decode cX5_leastAt 9 = .ok (.if_icmp .ge 16, 3) := by decide +kernel
theorem dX5_leastAt_12 : decode cX5_leastAt 12 = .ok (.aload_n 0, 1) := by decide +kernel
theorem dX5_leastAt_13 : decode cX5_leastAt 13 = .ok (.getfield 41, 3) := by decide +kernel
theorem dX5_leastAt_16 : decode cX5_leastAt 16 = .ok (.iload_n 1, 1) := by decide +kernel
theorem dX5_leastAt_17 : decode cX5_leastAt 17 = .ok (.iaload, 1) := by decide +kernel
theorem dX5_leastAt_18 : decode cX5_leastAt 18 = .ok (.iload_n 2, 1) := by decide +kernel
theorem dX5_leastAt_19 : decode cX5_leastAt 19 = .ok (.invokestatic 113, 3) := by decide +kernel
theorem dX5_leastAt_22 : decode cX5_leastAt 22 = .ok (.goto 4, 3) := by decide +kernel
theorem dX5_leastAt_25 : decode cX5_leastAt 25 = .ok (.iconst (-1), 1) := by decide +kernel
theorem dX5_leastAt_26 : decode cX5_leastAt 26 = .ok (.ireturn, 1) := by decide +kernel
theorem dX5_least_0 : decode cX5_least 0 = .ok (.aload_n 0, 1) := by decide +kernel
theorem dX5_least_1 : decode cX5_least 1 = .ok (.iload_n 2, 1) := by decide +kernel
theorem dX5_least_2 : decode cX5_least 2 = .ok (.invokestatic 142, 3) := by decide +kernel
theorem dX5_least_5 : decode cX5_least 5 = .ok (.ifCond .ne 7, 3) := by decide +kernel
theorem dX5_least_8 : decode cX5_least 8 = .ok (.iconst 1, 1) := by decide +kernel
theorem dX5_least_9 : decode cX5_least 9 = .ok (.goto 12, 3) := by decide +kernel
theorem dX5_least_12 : decode cX5_least 12 = .ok (.iload_n 1, 1) := by decide +kernel
theorem dX5_least_13 : decode cX5_least 13 = .ok (.ifCond .ge 7, 3) := by decide +kernel
theorem dX5_least_16 : decode cX5_least 16 = .ok (.iconst 2, 1) := by decide +kernel
theorem dX5_least_17 : decode cX5_least 17 = .ok (.goto 4, 3) := by decide +kernel
theorem dX5_least_20 : decode cX5_least 20 = .ok (.iconst 0, 1) := by decide +kernel
theorem dX5_least_21 : decode cX5_least 21 = .ok (.putfield 50, 3) := by decide +kernel
theorem dX5_least_24 : decode cX5_least 24 = .ok (.aload_n 0, 1) := by decide +kernel
theorem dX5_least_25 : decode cX5_least 25 = .ok (.getfield 50, 3) := by decide +kernel
theorem dX5_least_28 : decode cX5_least 28 = .ok (.ifCond .le 7, 3) := by decide +kernel
theorem dX5_least_31 : decode cX5_least 31 = .ok (.iconst 0, 1) := by decide +kernel
theorem dX5_least_32 : decode cX5_least 32 = .ok (.goto 9, 3) := by decide +kernel
theorem dX5_least_35 : decode cX5_least 35 = .ok (.aload_n 0, 1) := by decide +kernel
theorem dX5_least_36 : decode cX5_least 36 = .ok (.iload_n 1, 1) := by decide +kernel
theorem dX5_least_37 : decode cX5_least 37 = .ok (.iload_n 2, 1) := by decide +kernel
theorem dX5_least_38 : decode cX5_least 38 = .ok (.invokevirtual 204, 3) := by decide +kernel
theorem dX5_least_41 : decode cX5_least 41 = .ok (.ireturn, 1) := by decide +kernel
theorem dX5_isSmall_0 : decode cX5_isSmall 0 = .ok (.iload_n 0, 1) := by decide +kernel
theorem dX5_isSmall_1 : decode cX5_isSmall 1 = .ok (.iconst 0, 1) := by decide +kernel
theorem dX5_isSmall_2 : decode cX5_isSmall 2 = .ok (.bipush 6, 2) := by decide +kernel
theorem dX5_isSmall_4 : decode cX5_isSmall 4 = .ok (.invokestatic 61, 3) := by decide +kernel
theorem dX5_isSmall_7 : decode cX5_isSmall 7 = .ok (.ireturn, 1) := by decide +kernel
theorem dX5_sums_0 : decode cX5_sums 0 = .ok (.aload_n 0, 1) := by decide +kernel
theorem dX5_sums_1 : decode cX5_sums 1 = .ok (.iload_n 1, 1) := by decide +kernel
theorem dX5_sums_2 : decode cX5_sums 2 = .ok (.invokestatic 207, 3) := by decide +kernel
theorem dX5_sums_5 : decode cX5_sums 5 = .ok (.ifCond .eq 29, 3) := by decide +kernel
theorem dX5_sums_8 : decode cX5_sums 8 = .ok (.iload_n 2, 1) := by decide +kernel
theorem dX5_sums_9 : decode cX5_sums 9 = .ok (.invokestatic 207, 3) := by decide +kernel
theorem dX5_sums_12 : decode cX5_sums 12 = .ok (.ifCond .eq 22, 3) := by decide +kernel
theorem dX5_sums_15 : decode cX5_sums 15 = .ok (.iload_n 3, 1) := by decide +kernel
theorem dX5_sums_16 : decode cX5_sums 16 = .ok (.invokestatic 207, 3) := by decide +kernel
theorem dX5_sums_19 : decode cX5_sums 19 = .ok (.ifCond .eq 15, 3) := by decide +kernel
theorem dX5_sums_22 : decode cX5_sums 22 = .ok (.iload 4, 2) := by decide +kernel
theorem dX5_sums_24 : decode cX5_sums 24 = .ok (.invokestatic 207, 3) := by decide +kernel
theorem dX5_sums_27 : decode cX5_sums 27 = .ok (.ifCond .eq 7, 3) := by decide +kernel
theorem dX5_sums_30 : decode cX5_sums 30 = .ok (.iconst 0, 1) := by decide +kernel
theorem dX5_sums_31 : decode cX5_sums 31 = .ok (.goto 4, 3) := by decide +kernel
theorem dX5_sums_34 : decode cX5_sums 34 = .ok (.iconst 1, 1) := by decide +kernel
theorem dX5_sums_35 : decode cX5_sums 35 = .ok (.putfield 50, 3) := by decide +kernel
theorem dX5_sums_38 : decode cX5_sums 38 = .ok (.aload_n 0, 1) := by decide +kernel
theorem dX5_sums_39 : decode cX5_sums 39 = .ok (.getfield 50, 3) := by decide +kernel
theorem dX5_sums_42 : decode cX5_sums 42 = .ok (.ifCond .le 7, 3) := by decide +kernel
theorem dX5_sums_45 : decode cX5_sums 45 = .ok (.iconst 0, 1) := by decide +kernel
theorem dX5_sums_46 : decode cX5_sums 46 = .ok (.goto 12, 3) := by decide +kernel
theorem dX5_sums_49 : decode cX5_sums 49 = .ok (.aload_n 0, 1) := by decide +kernel
theorem dX5_sums_50 : decode cX5_sums 50 = .ok (.iload_n 1, 1) := by decide +kernel
theorem dX5_sums_51 : decode cX5_sums 51 = .ok (.iload_n 2, 1) := by decide +kernel
theorem dX5_sums_52 : decode cX5_sums 52 = .ok (.iload_n 3, 1) := by decide +kernel
theorem dX5_sums_53 : decode cX5_sums 53 = .ok (.iload 4, 2) := by decide +kernel
theorem dX5_sums_55 : decode cX5_sums 55 = .ok (.invokevirtual 210, 3) := by decide +kernel
theorem dX5_sums_58 : decode cX5_sums 58 = .ok (.ireturn, 1) := by decide +kernel
theorem dX5_negativeRests_0 : decode cX5_negativeRests 0 = .ok (.iconst 0, 1) := by decide +kernel
theorem dX5_negativeRests_1 : decode cX5_negativeRests 1 = .ok (.istore_n 1, 1) := by decide +kernel
theorem dX5_negativeRests_2 : decode cX5_negativeRests 2 = .ok (.iconst 0, 1) := by decide +kernel
theorem dX5_negativeRests_3 : decode cX5_negativeRests 3 = .ok (.istore_n 2, 1) := by decide +kernel
theorem dX5_negativeRests_4 : decode cX5_negativeRests 4 = .ok (.iload_n 2, 1) := by decide +kernel
theorem dX5_negativeRests_5 : decode cX5_negativeRests 5 = .ok (.iconst 4, 1) := by decide +kernel
theorem dX5_negativeRests_6 : decode cX5_negativeRests 6 = .ok (.if_icmp .ge 25, 3) := by decide +kernel
theorem dX5_negativeRests_9 : decode cX5_negativeRests 9 = .ok (.iload_n 1, 1) := by decide +kernel
theorem dX5_negativeRests_10 : decode cX5_negativeRests 10 = .ok (.aload_n 0, 1) := by decide +kernel
theorem dX5_negativeRests_11 : decode cX5_negativeRests 11 = .ok (.iload_n 2, 1) := by decide +kernel
theorem dX5_negativeRests_12 : decode cX5_negativeRests 12 = .ok (.invokevirtual 75, 3) := by decide +kernel
theorem dX5_negativeRests_15 : decode cX5_negativeRests 15 = .ok (.ifCond .ge 7, 3) := by decide +kernel
theorem dX5_negativeRests_18 : decode cX5_negativeRests 18 = .ok (.iconst 1, 1) := by decide +kernel
theorem dX5_negativeRests_19 : decode cX5_negativeRests 19 = .ok (.goto 4, 3) := by decide +kernel
theorem dX5_negativeRests_22 : decode cX5_negativeRests 22 = .ok (.iconst 0, 1) := by decide +kernel
theorem dX5_negativeRests_23 : decode cX5_negativeRests 23 = .ok (.iadd, 1) := by decide +kernel
theorem dX5_negativeRests_24 : decode cX5_negativeRests 24 = .ok (.istore_n 1, 1) := by decide +kernel
theorem dX5_negativeRests_25 : decode cX5_negativeRests 25 = .ok (.iinc 2 1, 3) := by decide +kernel
theorem dX5_negativeRests_28 : decode cX5_negativeRests 28 = .ok (.goto (-24), 3) := by decide +kernel
theorem dX5_negativeRests_31 : decode cX5_negativeRests 31 = .ok (.iload_n 1, 1) := by decide +kernel
theorem dX5_negativeRests_32 : decode cX5_negativeRests 32 = .ok (.ireturn, 1) := by decide +kernel
theorem dX5_areSame_0 : decode cX5_areSame 0 = .ok (.iconst 1, 1) := by decide +kernel
theorem dX5_areSame_1 : decode cX5_areSame 1 = .ok (.istore_n 1, 1) := by decide +kernel
theorem dX5_areSame_2 : decode cX5_areSame 2 = .ok (.iconst 0, 1) := by decide +kernel
theorem dX5_areSame_3 : decode cX5_areSame 3 = .ok (.istore_n 2, 1) := by decide +kernel
theorem dX5_areSame_4 : decode cX5_areSame 4 = .ok (.iload_n 2, 1) := by decide +kernel
theorem dX5_areSame_5 : decode cX5_areSame 5 = .ok (.bipush 8, 2) := by decide +kernel
theorem dX5_areSame_7 : decode cX5_areSame 7 = .ok (.if_icmp .ge 34, 3) := by decide +kernel
theorem dX5_areSame_10 : decode cX5_areSame 10 = .ok (.iload_n 1, 1) := by decide +kernel
theorem dX5_areSame_11 : decode cX5_areSame 11 = .ok (.ifCond .eq 22, 3) := by decide +kernel
theorem dX5_areSame_14 : decode cX5_areSame 14 = .ok (.aload_n 0, 1) := by decide +kernel
theorem dX5_areSame_15 : decode cX5_areSame 15 = .ok (.iconst 0, 1) := by decide +kernel
theorem dX5_areSame_16 : decode cX5_areSame 16 = .ok (.iload_n 2, 1) := by decide +kernel
theorem dX5_areSame_17 : decode cX5_areSame 17 = .ok (.invokevirtual 57, 3) := by decide +kernel
theorem dX5_areSame_20 : decode cX5_areSame 20 = .ok (.aload_n 0, 1) := by decide +kernel
theorem dX5_areSame_21 : decode cX5_areSame 21 = .ok (.iconst 1, 1) := by decide +kernel
theorem dX5_areSame_22 : decode cX5_areSame 22 = .ok (.iload_n 2, 1) := by decide +kernel
theorem dX5_areSame_23 : decode cX5_areSame 23 = .ok (.invokevirtual 57, 3) := by decide +kernel
theorem dX5_areSame_26 : decode cX5_areSame 26 = .ok (.if_icmp .ne 7, 3) := by decide +kernel
theorem dX5_areSame_29 : decode cX5_areSame 29 = .ok (.iconst 1, 1) := by decide +kernel
theorem dX5_areSame_30 : decode cX5_areSame 30 = .ok (.goto 4, 3) := by decide +kernel
theorem dX5_areSame_33 : decode cX5_areSame 33 = .ok (.iconst 0, 1) := by decide +kernel
theorem dX5_areSame_34 : decode cX5_areSame 34 = .ok (.istore_n 1, 1) := by decide +kernel
theorem dX5_areSame_35 : decode cX5_areSame 35 = .ok (.iinc 2 1, 3) := by decide +kernel
theorem dX5_areSame_38 : decode cX5_areSame 38 = .ok (.goto (-34), 3) := by decide +kernel
theorem dX5_areSame_41 : decode cX5_areSame 41 = .ok (.iload_n 1, 1) := by decide +kernel
theorem dX5_areSame_42 : decode cX5_areSame 42 = .ok (.ireturn, 1) := by decide +kernel
theorem dX5_inCommon_0 : decode cX5_inCommon 0 = .ok (.iconst 0, 1) := by decide +kernel
theorem dX5_inCommon_1 : decode cX5_inCommon 1 = .ok (.istore_n 1, 1) := by decide +kernel
theorem dX5_inCommon_2 : decode cX5_inCommon 2 = .ok (.iconst 0, 1) := by decide +kernel
theorem dX5_inCommon_3 : decode cX5_inCommon 3 = .ok (.istore_n 2, 1) := by decide +kernel
theorem dX5_inCommon_4 : decode cX5_inCommon 4 = .ok (.iload_n 2, 1) := by decide +kernel
theorem dX5_inCommon_5 : decode cX5_inCommon 5 = .ok (.bipush 8, 2) := by decide +kernel
theorem dX5_inCommon_7 : decode cX5_inCommon 7 = .ok (.if_icmp .ge 63, 3) := by decide +kernel
theorem dX5_inCommon_10 : decode cX5_inCommon 10 = .ok (.aload_n 0, 1) := by decide +kernel
theorem dX5_inCommon_11 : decode cX5_inCommon 11 = .ok (.iconst 0, 1) := by decide +kernel
theorem dX5_inCommon_12 : decode cX5_inCommon 12 = .ok (.iload_n 2, 1) := by decide +kernel
theorem dX5_inCommon_13 : decode cX5_inCommon 13 = .ok (.invokevirtual 57, 3) := by decide +kernel
theorem dX5_inCommon_16 : decode cX5_inCommon 16 = .ok (.aload_n 0, 1) := by decide +kernel
theorem dX5_inCommon_17 : decode cX5_inCommon 17 = .ok (.iconst 1, 1) := by decide +kernel
theorem dX5_inCommon_18 : decode cX5_inCommon 18 = .ok (.iload_n 2, 1) := by decide +kernel
theorem dX5_inCommon_19 : decode cX5_inCommon 19 = .ok (.invokevirtual 57, 3) := by decide +kernel
theorem dX5_inCommon_22 : decode cX5_inCommon 22 = .ok (.if_icmp .ge 12, 3) := by decide +kernel
theorem dX5_inCommon_25 : decode cX5_inCommon 25 = .ok (.aload_n 0, 1) := by decide +kernel
theorem dX5_inCommon_26 : decode cX5_inCommon 26 = .ok (.iconst 0, 1) := by decide +kernel
theorem dX5_inCommon_27 : decode cX5_inCommon 27 = .ok (.iload_n 2, 1) := by decide +kernel
theorem dX5_inCommon_28 : decode cX5_inCommon 28 = .ok (.invokevirtual 57, 3) := by decide +kernel
theorem dX5_inCommon_31 : decode cX5_inCommon 31 = .ok (.goto 9, 3) := by decide +kernel
theorem dX5_inCommon_34 : decode cX5_inCommon 34 = .ok (.aload_n 0, 1) := by decide +kernel
theorem dX5_inCommon_35 : decode cX5_inCommon 35 = .ok (.iconst 1, 1) := by decide +kernel
theorem dX5_inCommon_36 : decode cX5_inCommon 36 = .ok (.iload_n 2, 1) := by decide +kernel
theorem dX5_inCommon_37 : decode cX5_inCommon 37 = .ok (.invokevirtual 57, 3) := by decide +kernel
theorem dX5_inCommon_40 : decode cX5_inCommon 40 = .ok (.istore_n 3, 1) := by decide +kernel
theorem dX5_inCommon_41 : decode cX5_inCommon 41 = .ok (.iload_n 1, 1) := by decide +kernel
theorem dX5_inCommon_42 : decode cX5_inCommon 42 = .ok (.iload_n 3, 1) := by decide +kernel
theorem dX5_inCommon_43 : decode cX5_inCommon 43 = .ok (.aload_n 0, 1) := by decide +kernel
theorem dX5_inCommon_44 : decode cX5_inCommon 44 = .ok (.iconst 2, 1) := by decide +kernel
theorem dX5_inCommon_45 : decode cX5_inCommon 45 = .ok (.iload_n 2, 1) := by decide +kernel
theorem dX5_inCommon_46 : decode cX5_inCommon 46 = .ok (.invokevirtual 57, 3) := by decide +kernel
theorem dX5_inCommon_49 : decode cX5_inCommon 49 = .ok (.if_icmp .ge 7, 3) := by decide +kernel
theorem dX5_inCommon_52 : decode cX5_inCommon 52 = .ok (.iload_n 3, 1) := by decide +kernel
theorem dX5_inCommon_53 : decode cX5_inCommon 53 = .ok (.goto 9, 3) := by decide +kernel
theorem dX5_inCommon_56 : decode cX5_inCommon 56 = .ok (.aload_n 0, 1) := by decide +kernel
theorem dX5_inCommon_57 : decode cX5_inCommon 57 = .ok (.iconst 2, 1) := by decide +kernel
theorem dX5_inCommon_58 : decode cX5_inCommon 58 = .ok (.iload_n 2, 1) := by decide +kernel
theorem dX5_inCommon_59 : decode cX5_inCommon 59 = .ok (.invokevirtual 57, 3) := by decide +kernel
theorem dX5_inCommon_62 : decode cX5_inCommon 62 = .ok (.iadd, 1) := by decide +kernel
theorem dX5_inCommon_63 : decode cX5_inCommon 63 = .ok (.istore_n 1, 1) := by decide +kernel
theorem dX5_inCommon_64 : decode cX5_inCommon 64 = .ok (.iinc 2 1, 3) := by decide +kernel
theorem dX5_inCommon_67 : decode cX5_inCommon 67 = .ok (.goto (-63), 3) := by decide +kernel
theorem dX5_inCommon_70 : decode cX5_inCommon 70 = .ok (.iload_n 1, 1) := by decide +kernel
theorem dX5_inCommon_71 : decode cX5_inCommon 71 = .ok (.ireturn, 1) := by decide +kernel
theorem dX5_leastCount_0 : decode cX5_leastCount 0 = .ok (.aload_n 0, 1) := by decide +kernel
theorem dX5_leastCount_1 : decode cX5_leastCount 1 = .ok (.invokevirtual 130, 3) := by decide +kernel
theorem dX5_leastCount_4 : decode cX5_leastCount 4 = .ok (.aload_n 0, 1) := by decide +kernel
theorem dX5_leastCount_5 : decode cX5_leastCount 5 = .ok (.getfield 116, 3) := by decide +kernel
theorem dX5_leastCount_8 : decode cX5_leastCount 8 = .ok (.ireturn, 1) := by decide +kernel
theorem dX5_counted_0 : decode cX5_counted 0 = .ok (.iload_n 1, 1) := by decide +kernel
theorem dX5_counted_1 : decode cX5_counted 1 = .ok (.tableswitch 116 0 9 #[55, 55, 55, 61, 69, 74, 79, 84, 97, 102], 55) := by decide +kernel
theorem dX5_counted_56 : decode cX5_counted 56 = .ok (.aload_n 0, 1) := by decide +kernel
theorem dX5_counted_57 : decode cX5_counted 57 = .ok (.iload_n 1, 1) := by decide +kernel
theorem dX5_counted_58 : decode cX5_counted 58 = .ok (.invokevirtual 151, 3) := by decide +kernel
theorem dX5_counted_61 : decode cX5_counted 61 = .ok (.ireturn, 1) := by decide +kernel
theorem dX5_counted_62 : decode cX5_counted 62 = .ok (.aload_n 0, 1) := by decide +kernel
theorem dX5_counted_63 : decode cX5_counted 63 = .ok (.invokevirtual 83, 3) := by decide +kernel
theorem dX5_counted_66 : decode cX5_counted 66 = .ok (.invokestatic 97, 3) := by decide +kernel
theorem dX5_counted_69 : decode cX5_counted 69 = .ok (.ireturn, 1) := by decide +kernel
theorem dX5_counted_70 : decode cX5_counted 70 = .ok (.aload_n 0, 1) := by decide +kernel
theorem dX5_counted_71 : decode cX5_counted 71 = .ok (.invokevirtual 214, 3) := by decide +kernel
theorem dX5_counted_74 : decode cX5_counted 74 = .ok (.ireturn, 1) := by decide +kernel
theorem dX5_counted_75 : decode cX5_counted 75 = .ok (.aload_n 0, 1) := by decide +kernel
theorem dX5_counted_76 : decode cX5_counted 76 = .ok (.invokevirtual 217, 3) := by decide +kernel
theorem dX5_counted_79 : decode cX5_counted 79 = .ok (.ireturn, 1) := by decide +kernel
theorem dX5_counted_80 : decode cX5_counted 80 = .ok (.aload_n 0, 1) := by decide +kernel
theorem dX5_counted_81 : decode cX5_counted 81 = .ok (.invokevirtual 220, 3) := by decide +kernel
theorem dX5_counted_84 : decode cX5_counted 84 = .ok (.ireturn, 1) := by decide +kernel
theorem dX5_counted_85 : decode cX5_counted 85 = .ok (.aload_n 0, 1) := by decide +kernel
theorem dX5_counted_86 : decode cX5_counted 86 = .ok (.invokevirtual 223, 3) := by decide +kernel
theorem dX5_counted_89 : decode cX5_counted 89 = .ok (.ifCond .eq 7, 3) := by decide +kernel
theorem dX5_counted_92 : decode cX5_counted 92 = .ok (.iconst 1, 1) := by decide +kernel
theorem dX5_counted_93 : decode cX5_counted 93 = .ok (.goto 4, 3) := by decide +kernel
theorem dX5_counted_96 : decode cX5_counted 96 = .ok (.iconst 0, 1) := by decide +kernel
theorem dX5_counted_97 : decode cX5_counted 97 = .ok (.ireturn, 1) := by decide +kernel
theorem dX5_counted_98 : decode cX5_counted 98 = .ok (.aload_n 0, 1) := by decide +kernel
theorem dX5_counted_99 : decode cX5_counted 99 = .ok (.invokevirtual 226, 3) := by decide +kernel
theorem dX5_counted_102 : decode cX5_counted 102 = .ok (.ireturn, 1) := by decide +kernel
theorem dX5_counted_103 : decode cX5_counted 103 = .ok (.aload_n 0, 1) := by decide +kernel
theorem dX5_counted_104 : decode cX5_counted 104 = .ok (.getfield 19, 3) := by decide +kernel
theorem dX5_counted_107 : decode cX5_counted 107 = .ok (.iconst 0, 1) := by decide +kernel
theorem dX5_counted_108 : decode cX5_counted 108 = .ok (.iaload, 1) := by decide +kernel
theorem dX5_counted_109 : decode cX5_counted 109 = .ok (.aload_n 0, 1) := by decide +kernel
theorem dX5_counted_110 : decode cX5_counted 110 = .ok (.getfield 19, 3) := by decide +kernel
theorem dX5_counted_113 : decode cX5_counted 113 = .ok (.iconst 1, 1) := by decide +kernel
theorem dX5_counted_114 : decode cX5_counted 114 = .ok (.iaload, 1) := by decide +kernel
theorem dX5_counted_115 : decode cX5_counted 115 = .ok (.iadd, 1) := by decide +kernel
theorem dX5_counted_116 : decode cX5_counted 116 = .ok (.ireturn, 1) := by decide +kernel
theorem dX5_counted_117 : decode cX5_counted 117 = .ok (.aload_n 0, 1) := by decide +kernel
theorem dX5_counted_118 : decode cX5_counted 118 = .ok (.getfield 54, 3) := by decide +kernel
theorem dX5_counted_121 : decode cX5_counted 121 = .ok (.ireturn, 1) := by decide +kernel
theorem dX5_count_0 : decode cX5_count 0 = .ok (.aload_n 0, 1) := by decide +kernel
theorem dX5_count_1 : decode cX5_count 1 = .ok (.iload_n 1, 1) := by decide +kernel
theorem dX5_count_2 : decode cX5_count 2 = .ok (.iconst 0, 1) := by decide +kernel
theorem dX5_count_3 : decode cX5_count 3 = .ok (.bipush 10, 2) := by decide +kernel
theorem dX5_count_5 : decode cX5_count 5 = .ok (.invokestatic 61, 3) := by decide +kernel
theorem dX5_count_8 : decode cX5_count 8 = .ok (.ifCond .eq 7, 3) := by decide +kernel
theorem dX5_count_11 : decode cX5_count 11 = .ok (.iconst 0, 1) := by decide +kernel
theorem dX5_count_12 : decode cX5_count 12 = .ok (.goto 4, 3) := by decide +kernel
theorem dX5_count_15 : decode cX5_count 15 = .ok (.iconst 1, 1) := by decide +kernel
theorem dX5_count_16 : decode cX5_count 16 = .ok (.putfield 50, 3) := by decide +kernel
theorem dX5_count_19 : decode cX5_count 19 = .ok (.aload_n 0, 1) := by decide +kernel
theorem dX5_count_20 : decode cX5_count 20 = .ok (.getfield 50, 3) := by decide +kernel
theorem dX5_count_23 : decode cX5_count 23 = .ok (.ifCond .le 7, 3) := by decide +kernel
theorem dX5_count_26 : decode cX5_count 26 = .ok (.iconst 0, 1) := by decide +kernel
theorem dX5_count_27 : decode cX5_count 27 = .ok (.goto 8, 3) := by decide +kernel
theorem dX5_count_30 : decode cX5_count 30 = .ok (.aload_n 0, 1) := by decide +kernel
theorem dX5_count_31 : decode cX5_count 31 = .ok (.iload_n 1, 1) := by decide +kernel
theorem dX5_count_32 : decode cX5_count 32 = .ok (.invokevirtual 229, 3) := by decide +kernel
theorem dX5_count_35 : decode cX5_count 35 = .ok (.ireturn, 1) := by decide +kernel
theorem dX5_setting_0 : decode cX5_setting 0 = .ok (.aload_n 0, 1) := by decide +kernel
theorem dX5_setting_1 : decode cX5_setting 1 = .ok (.iload_n 1, 1) := by decide +kernel
theorem dX5_setting_2 : decode cX5_setting 2 = .ok (.iconst 0, 1) := by decide +kernel
theorem dX5_setting_3 : decode cX5_setting 3 = .ok (.iconst 1, 1) := by decide +kernel
theorem dX5_setting_4 : decode cX5_setting 4 = .ok (.invokestatic 61, 3) := by decide +kernel
theorem dX5_setting_7 : decode cX5_setting 7 = .ok (.ifCond .eq 7, 3) := by decide +kernel
theorem dX5_setting_10 : decode cX5_setting 10 = .ok (.iconst 0, 1) := by decide +kernel
theorem dX5_setting_11 : decode cX5_setting 11 = .ok (.goto 4, 3) := by decide +kernel
theorem dX5_setting_14 : decode cX5_setting 14 = .ok (.iconst 1, 1) := by decide +kernel
theorem dX5_setting_15 : decode cX5_setting 15 = .ok (.putfield 50, 3) := by decide +kernel
theorem dX5_setting_18 : decode cX5_setting 18 = .ok (.aload_n 0, 1) := by decide +kernel
theorem dX5_setting_19 : decode cX5_setting 19 = .ok (.getfield 50, 3) := by decide +kernel
theorem dX5_setting_22 : decode cX5_setting 22 = .ok (.ifCond .le 7, 3) := by decide +kernel
theorem dX5_setting_25 : decode cX5_setting 25 = .ok (.iconst 0, 1) := by decide +kernel
theorem dX5_setting_26 : decode cX5_setting 26 = .ok (.goto 12, 3) := by decide +kernel
theorem dX5_setting_29 : decode cX5_setting 29 = .ok (.aload_n 0, 1) := by decide +kernel
theorem dX5_setting_30 : decode cX5_setting 30 = .ok (.getfield 7, 3) := by decide +kernel
theorem dX5_setting_33 : decode cX5_setting 33 = .ok (.bipush 24, 2) := by decide +kernel
theorem dX5_setting_35 : decode cX5_setting 35 = .ok (.iload_n 1, 1) := by decide +kernel
theorem dX5_setting_36 : decode cX5_setting 36 = .ok (.iadd, 1) := by decide +kernel
theorem dX5_setting_37 : decode cX5_setting 37 = .ok (.iaload, 1) := by decide +kernel
theorem dX5_setting_38 : decode cX5_setting 38 = .ok (.ireturn, 1) := by decide +kernel
theorem dX5_moreThen_0 : decode cX5_moreThen 0 = .ok (.aload_n 0, 1) := by decide +kernel
theorem dX5_moreThen_1 : decode cX5_moreThen 1 = .ok (.iload_n 1, 1) := by decide +kernel
theorem dX5_moreThen_2 : decode cX5_moreThen 2 = .ok (.iload_n 2, 1) := by decide +kernel
theorem dX5_moreThen_3 : decode cX5_moreThen 3 = .ok (.invokevirtual 87, 3) := by decide +kernel
theorem dX5_moreThen_6 : decode cX5_moreThen 6 = .ok (.aload_n 0, 1) := by decide +kernel
theorem dX5_moreThen_7 : decode cX5_moreThen 7 = .ok (.invokevirtual 90, 3) := by decide +kernel
theorem dX5_moreThen_10 : decode cX5_moreThen 10 = .ok (.aload_n 0, 1) := by decide +kernel
theorem dX5_moreThen_11 : decode cX5_moreThen 11 = .ok (.getfield 34, 3) := by decide +kernel
theorem dX5_moreThen_14 : decode cX5_moreThen 14 = .ok (.iconst 0, 1) := by decide +kernel
theorem dX5_moreThen_15 : decode cX5_moreThen 15 = .ok (.laload, 1) := by decide +kernel
theorem dX5_moreThen_16 : decode cX5_moreThen 16 = .ok (.lreturn, 1) := by decide +kernel
theorem dX5_ifMore_0 : decode cX5_ifMore 0 = .ok (.aload_n 0, 1) := by decide +kernel
theorem dX5_ifMore_1 : decode cX5_ifMore 1 = .ok (.iload_n 1, 1) := by decide +kernel
theorem dX5_ifMore_2 : decode cX5_ifMore 2 = .ok (.invokestatic 136, 3) := by decide +kernel
theorem dX5_ifMore_5 : decode cX5_ifMore 5 = .ok (.ifCond .ne 7, 3) := by decide +kernel
theorem dX5_ifMore_8 : decode cX5_ifMore 8 = .ok (.iconst 1, 1) := by decide +kernel
theorem dX5_ifMore_9 : decode cX5_ifMore 9 = .ok (.goto 19, 3) := by decide +kernel
theorem dX5_ifMore_12 : decode cX5_ifMore 12 = .ok (.iload_n 2, 1) := by decide +kernel
theorem dX5_ifMore_13 : decode cX5_ifMore 13 = .ok (.bipush (-9), 2) := by decide +kernel
theorem dX5_ifMore_15 : decode cX5_ifMore 15 = .ok (.bipush 9, 2) := by decide +kernel
theorem dX5_ifMore_17 : decode cX5_ifMore 17 = .ok (.invokestatic 61, 3) := by decide +kernel
theorem dX5_ifMore_20 : decode cX5_ifMore 20 = .ok (.ifCond .eq 7, 3) := by decide +kernel
theorem dX5_ifMore_23 : decode cX5_ifMore 23 = .ok (.iconst 0, 1) := by decide +kernel
theorem dX5_ifMore_24 : decode cX5_ifMore 24 = .ok (.goto 4, 3) := by decide +kernel
theorem dX5_ifMore_27 : decode cX5_ifMore 27 = .ok (.iconst 2, 1) := by decide +kernel
theorem dX5_ifMore_28 : decode cX5_ifMore 28 = .ok (.putfield 50, 3) := by decide +kernel
theorem dX5_ifMore_31 : decode cX5_ifMore 31 = .ok (.aload_n 0, 1) := by decide +kernel
theorem dX5_ifMore_32 : decode cX5_ifMore 32 = .ok (.getfield 50, 3) := by decide +kernel
theorem dX5_ifMore_35 : decode cX5_ifMore 35 = .ok (.ifCond .le 7, 3) := by decide +kernel
theorem dX5_ifMore_38 : decode cX5_ifMore 38 = .ok (.lconst 0, 1) := by decide +kernel
theorem dX5_ifMore_39 : decode cX5_ifMore 39 = .ok (.goto 9, 3) := by decide +kernel
theorem dX5_ifMore_42 : decode cX5_ifMore 42 = .ok (.aload_n 0, 1) := by decide +kernel
theorem dX5_ifMore_43 : decode cX5_ifMore 43 = .ok (.iload_n 1, 1) := by decide +kernel
theorem dX5_ifMore_44 : decode cX5_ifMore 44 = .ok (.iload_n 2, 1) := by decide +kernel
theorem dX5_ifMore_45 : decode cX5_ifMore 45 = .ok (.invokevirtual 232, 3) := by decide +kernel
theorem dX5_ifMore_48 : decode cX5_ifMore 48 = .ok (.lreturn, 1) := by decide +kernel
theorem dX5_rewrittenThen_0 : decode cX5_rewrittenThen 0 = .ok (.aload_n 0, 1) := by decide +kernel
theorem dX5_rewrittenThen_1 : decode cX5_rewrittenThen 1 = .ok (.iload_n 1, 1) := by decide +kernel
theorem dX5_rewrittenThen_2 : decode cX5_rewrittenThen 2 = .ok (.invokevirtual 157, 3) := by decide +kernel
theorem dX5_rewrittenThen_5 : decode cX5_rewrittenThen 5 = .ok (.aload_n 0, 1) := by decide +kernel
theorem dX5_rewrittenThen_6 : decode cX5_rewrittenThen 6 = .ok (.invokevirtual 161, 3) := by decide +kernel
theorem dX5_rewrittenThen_9 : decode cX5_rewrittenThen 9 = .ok (.ifCond .eq 7, 3) := by decide +kernel
theorem dX5_rewrittenThen_12 : decode cX5_rewrittenThen 12 = .ok (.iconst (-1), 1) := by decide +kernel
theorem dX5_rewrittenThen_13 : decode cX5_rewrittenThen 13 = .ok (.goto 8, 3) := by decide +kernel
theorem dX5_rewrittenThen_16 : decode cX5_rewrittenThen 16 = .ok (.aload_n 0, 1) := by decide +kernel
theorem dX5_rewrittenThen_17 : decode cX5_rewrittenThen 17 = .ok (.iload_n 2, 1) := by decide +kernel
theorem dX5_rewrittenThen_18 : decode cX5_rewrittenThen 18 = .ok (.invokevirtual 107, 3) := by decide +kernel
theorem dX5_rewrittenThen_21 : decode cX5_rewrittenThen 21 = .ok (.ireturn, 1) := by decide +kernel
theorem dX5_ifRewritten_0 : decode cX5_ifRewritten 0 = .ok (.aload_n 0, 1) := by decide +kernel
theorem dX5_ifRewritten_1 : decode cX5_ifRewritten 1 = .ok (.iload_n 2, 1) := by decide +kernel
theorem dX5_ifRewritten_2 : decode cX5_ifRewritten 2 = .ok (.invokestatic 136, 3) := by decide +kernel
theorem dX5_ifRewritten_5 : decode cX5_ifRewritten 5 = .ok (.ifCond .ne 7, 3) := by decide +kernel
theorem dX5_ifRewritten_8 : decode cX5_ifRewritten 8 = .ok (.iconst 1, 1) := by decide +kernel
theorem dX5_ifRewritten_9 : decode cX5_ifRewritten 9 = .ok (.goto 16, 3) := by decide +kernel
theorem dX5_ifRewritten_12 : decode cX5_ifRewritten 12 = .ok (.aload_n 0, 1) := by decide +kernel
theorem dX5_ifRewritten_13 : decode cX5_ifRewritten 13 = .ok (.iload_n 1, 1) := by decide +kernel
theorem dX5_ifRewritten_14 : decode cX5_ifRewritten 14 = .ok (.invokevirtual 154, 3) := by decide +kernel
theorem dX5_ifRewritten_17 : decode cX5_ifRewritten 17 = .ok (.ifCond .eq 7, 3) := by decide +kernel
theorem dX5_ifRewritten_20 : decode cX5_ifRewritten 20 = .ok (.iconst 0, 1) := by decide +kernel
theorem dX5_ifRewritten_21 : decode cX5_ifRewritten 21 = .ok (.goto 4, 3) := by decide +kernel
theorem dX5_ifRewritten_24 : decode cX5_ifRewritten 24 = .ok (.iconst 2, 1) := by decide +kernel
theorem dX5_ifRewritten_25 : decode cX5_ifRewritten 25 = .ok (.putfield 50, 3) := by decide +kernel
theorem dX5_ifRewritten_28 : decode cX5_ifRewritten 28 = .ok (.aload_n 0, 1) := by decide +kernel
theorem dX5_ifRewritten_29 : decode cX5_ifRewritten 29 = .ok (.getfield 50, 3) := by decide +kernel
theorem dX5_ifRewritten_32 : decode cX5_ifRewritten 32 = .ok (.ifCond .le 7, 3) := by decide +kernel
theorem dX5_ifRewritten_35 : decode cX5_ifRewritten 35 = .ok (.iconst 0, 1) := by decide +kernel
theorem dX5_ifRewritten_36 : decode cX5_ifRewritten 36 = .ok (.goto 9, 3) := by decide +kernel
theorem dX5_ifRewritten_39 : decode cX5_ifRewritten 39 = .ok (.aload_n 0, 1) := by decide +kernel
theorem dX5_ifRewritten_40 : decode cX5_ifRewritten 40 = .ok (.iload_n 1, 1) := by decide +kernel
theorem dX5_ifRewritten_41 : decode cX5_ifRewritten 41 = .ok (.iload_n 2, 1) := by decide +kernel
theorem dX5_ifRewritten_42 : decode cX5_ifRewritten 42 = .ok (.invokevirtual 236, 3) := by decide +kernel
theorem dX5_ifRewritten_45 : decode cX5_ifRewritten 45 = .ok (.ireturn, 1) := by decide +kernel
theorem dX5_factorsOfValue_0 : decode cX5_factorsOfValue 0 = .ok (.aload_n 0, 1) := by decide +kernel
theorem dX5_factorsOfValue_1 : decode cX5_factorsOfValue 1 = .ok (.getfield 38, 3) := by decide +kernel
theorem dX5_factorsOfValue_4 : decode cX5_factorsOfValue 4 = .ok (.iconst 4, 1) := by decide +kernel
theorem dX5_factorsOfValue_5 : decode cX5_factorsOfValue 5 = .ok (.iload_n 1, 1) := by decide +kernel
theorem dX5_factorsOfValue_6 : decode cX5_factorsOfValue 6 = .ok (.imul, 1) := by decide +kernel
theorem dX5_factorsOfValue_7 : decode cX5_factorsOfValue 7 = .ok (.iaload, 1) := by decide +kernel
theorem dX5_factorsOfValue_8 : decode cX5_factorsOfValue 8 = .ok (.aload_n 0, 1) := by decide +kernel
theorem dX5_factorsOfValue_9 : decode cX5_factorsOfValue 9 = .ok (.getfield 38, 3) := by decide +kernel
theorem dX5_factorsOfValue_12 : decode cX5_factorsOfValue 12 = .ok (.iconst 4, 1) := by decide +kernel
theorem dX5_factorsOfValue_13 : decode cX5_factorsOfValue 13 = .ok (.iload_n 1, 1) := by decide +kernel
theorem dX5_factorsOfValue_14 : decode cX5_factorsOfValue 14 = .ok (.imul, 1) := by decide +kernel
theorem dX5_factorsOfValue_15 : decode cX5_factorsOfValue 15 = .ok (.iconst 1, 1) := by decide +kernel
theorem dX5_factorsOfValue_16 : decode cX5_factorsOfValue 16 = .ok (.iadd, 1) := by decide +kernel
theorem dX5_factorsOfValue_17 : decode cX5_factorsOfValue 17 = .ok (.iaload, 1) := by decide +kernel
theorem dX5_factorsOfValue_18 : decode cX5_factorsOfValue 18 = .ok (.iadd, 1) := by decide +kernel
theorem dX5_factorsOfValue_19 : decode cX5_factorsOfValue 19 = .ok (.aload_n 0, 1) := by decide +kernel
theorem dX5_factorsOfValue_20 : decode cX5_factorsOfValue 20 = .ok (.getfield 38, 3) := by decide +kernel
theorem dX5_factorsOfValue_23 : decode cX5_factorsOfValue 23 = .ok (.iconst 4, 1) := by decide +kernel
theorem dX5_factorsOfValue_24 : decode cX5_factorsOfValue 24 = .ok (.iload_n 1, 1) := by decide +kernel
theorem dX5_factorsOfValue_25 : decode cX5_factorsOfValue 25 = .ok (.imul, 1) := by decide +kernel
theorem dX5_factorsOfValue_26 : decode cX5_factorsOfValue 26 = .ok (.iconst 2, 1) := by decide +kernel
theorem dX5_factorsOfValue_27 : decode cX5_factorsOfValue 27 = .ok (.iadd, 1) := by decide +kernel
theorem dX5_factorsOfValue_28 : decode cX5_factorsOfValue 28 = .ok (.iaload, 1) := by decide +kernel
theorem dX5_factorsOfValue_29 : decode cX5_factorsOfValue 29 = .ok (.iadd, 1) := by decide +kernel
theorem dX5_factorsOfValue_30 : decode cX5_factorsOfValue 30 = .ok (.aload_n 0, 1) := by decide +kernel
theorem dX5_factorsOfValue_31 : decode cX5_factorsOfValue 31 = .ok (.getfield 38, 3) := by decide +kernel
theorem dX5_factorsOfValue_34 : decode cX5_factorsOfValue 34 = .ok (.iconst 4, 1) := by decide +kernel
theorem dX5_factorsOfValue_35 : decode cX5_factorsOfValue 35 = .ok (.iload_n 1, 1) := by decide +kernel
theorem dX5_factorsOfValue_36 : decode cX5_factorsOfValue 36 = .ok (.imul, 1) := by decide +kernel
theorem dX5_factorsOfValue_37 : decode cX5_factorsOfValue 37 = .ok (.iconst 3, 1) := by decide +kernel
theorem dX5_factorsOfValue_38 : decode cX5_factorsOfValue 38 = .ok (.iadd, 1) := by decide +kernel
theorem dX5_factorsOfValue_39 : decode cX5_factorsOfValue 39 = .ok (.iaload, 1) := by decide +kernel
theorem dX5_factorsOfValue_40 : decode cX5_factorsOfValue 40 = .ok (.iadd, 1) := by decide +kernel
theorem dX5_factorsOfValue_41 : decode cX5_factorsOfValue 41 = .ok (.ireturn, 1) := by decide +kernel
theorem dX5_shortestNow_0 : decode cX5_shortestNow 0 = .ok (.aload_n 0, 1) := by decide +kernel
theorem dX5_shortestNow_1 : decode cX5_shortestNow 1 = .ok (.iconst 0, 1) := by decide +kernel
theorem dX5_shortestNow_2 : decode cX5_shortestNow 2 = .ok (.iload_n 1, 1) := by decide +kernel
theorem dX5_shortestNow_3 : decode cX5_shortestNow 3 = .ok (.invokevirtual 65, 3) := by decide +kernel
theorem dX5_shortestNow_6 : decode cX5_shortestNow 6 = .ok (.ifCond .ne 7, 3) := by decide +kernel
theorem dX5_shortestNow_9 : decode cX5_shortestNow 9 = .ok (.lconst 0, 1) := by decide +kernel
theorem dX5_shortestNow_10 : decode cX5_shortestNow 10 = .ok (.goto 7, 3) := by decide +kernel
theorem dX5_shortestNow_13 : decode cX5_shortestNow 13 = .ok (.aload_n 0, 1) := by decide +kernel
theorem dX5_shortestNow_14 : decode cX5_shortestNow 14 = .ok (.invokevirtual 100, 3) := by decide +kernel
theorem dX5_shortestNow_17 : decode cX5_shortestNow 17 = .ok (.lstore_n 2, 1) := by decide +kernel
theorem dX5_shortestNow_18 : decode cX5_shortestNow 18 = .ok (.iconst (-1), 1) := by decide +kernel
theorem dX5_shortestNow_19 : decode cX5_shortestNow 19 = .ok (.istore 4, 2) := by decide +kernel
theorem dX5_shortestNow_21 : decode cX5_shortestNow 21 = .ok (.iconst 0, 1) := by decide +kernel
theorem dX5_shortestNow_22 : decode cX5_shortestNow 22 = .ok (.istore 5, 2) := by decide +kernel
theorem dX5_shortestNow_24 : decode cX5_shortestNow 24 = .ok (.iconst 0, 1) := by decide +kernel
theorem dX5_shortestNow_25 : decode cX5_shortestNow 25 = .ok (.istore 6, 2) := by decide +kernel
theorem dX5_shortestNow_27 : decode cX5_shortestNow 27 = .ok (.iload 6, 2) := by decide +kernel
theorem dX5_shortestNow_29 : decode cX5_shortestNow 29 = .ok (.bipush 20, 2) := by decide +kernel
theorem dX5_shortestNow_31 : decode cX5_shortestNow 31 = .ok (.if_icmp .ge 77, 3) := by decide +kernel
theorem dX5_shortestNow_34 : decode cX5_shortestNow 34 = .ok (.iload 6, 2) := by decide +kernel
theorem dX5_shortestNow_36 : decode cX5_shortestNow 36 = .ok (.i2l, 1) := by decide +kernel
theorem dX5_shortestNow_37 : decode cX5_shortestNow 37 = .ok (.lload_n 2, 1) := by decide +kernel
theorem dX5_shortestNow_38 : decode cX5_shortestNow 38 = .ok (.lcmp, 1) := by decide +kernel
theorem dX5_shortestNow_39 : decode cX5_shortestNow 39 = .ok (.ifCond .ge 69, 3) := by decide +kernel
theorem dX5_shortestNow_42 : decode cX5_shortestNow 42 = .ok (.aload_n 0, 1) := by decide +kernel
theorem dX5_shortestNow_43 : decode cX5_shortestNow 43 = .ok (.iload 6, 2) := by decide +kernel
theorem dX5_shortestNow_45 : decode cX5_shortestNow 45 = .ok (.invokevirtual 157, 3) := by decide +kernel
theorem dX5_shortestNow_48 : decode cX5_shortestNow 48 = .ok (.iload 4, 2) := by decide +kernel
theorem dX5_shortestNow_50 : decode cX5_shortestNow 50 = .ok (.iconst (-1), 1) := by decide +kernel
theorem dX5_shortestNow_51 : decode cX5_shortestNow 51 = .ok (.if_icmp .eq 13, 3) := by decide +kernel
theorem dX5_shortestNow_54 : decode cX5_shortestNow 54 = .ok (.aload_n 0, 1) := by decide +kernel
theorem dX5_shortestNow_55 : decode cX5_shortestNow 55 = .ok (.iload_n 1, 1) := by decide +kernel
theorem dX5_shortestNow_56 : decode cX5_shortestNow 56 = .ok (.invokevirtual 239, 3) := by decide +kernel
theorem dX5_shortestNow_59 : decode cX5_shortestNow 59 = .ok (.iload 5, 2) := by decide +kernel
theorem dX5_shortestNow_61 : decode cX5_shortestNow 61 = .ok (.if_icmp .ge 7, 3) := by decide +kernel
theorem dX5_shortestNow_64 : decode cX5_shortestNow 64 = .ok (.iconst 1, 1) := by decide +kernel
theorem dX5_shortestNow_65 : decode cX5_shortestNow 65 = .ok (.goto 4, 3) := by decide +kernel
theorem dX5_shortestNow_68 : decode cX5_shortestNow 68 = .ok (.iconst 0, 1) := by decide +kernel
theorem dX5_shortestNow_69 : decode cX5_shortestNow 69 = .ok (.istore 7, 2) := by decide +kernel
theorem dX5_shortestNow_71 : decode cX5_shortestNow 71 = .ok (.iload 7, 2) := by decide +kernel
theorem dX5_shortestNow_73 : decode cX5_shortestNow 73 = .ok (.ifCond .eq 8, 3) := by decide +kernel
theorem dX5_shortestNow_76 : decode cX5_shortestNow 76 = .ok (.iload 6, 2) := by decide +kernel
theorem dX5_shortestNow_78 : decode cX5_shortestNow 78 = .ok (.goto 5, 3) := by decide +kernel
theorem dX5_shortestNow_81 : decode cX5_shortestNow 81 = .ok (.iload 4, 2) := by decide +kernel
theorem dX5_shortestNow_83 : decode cX5_shortestNow 83 = .ok (.istore 4, 2) := by decide +kernel
theorem dX5_shortestNow_85 : decode cX5_shortestNow 85 = .ok (.iload 7, 2) := by decide +kernel
theorem dX5_shortestNow_87 : decode cX5_shortestNow 87 = .ok (.ifCond .eq 11, 3) := by decide +kernel
theorem dX5_shortestNow_90 : decode cX5_shortestNow 90 = .ok (.aload_n 0, 1) := by decide +kernel
theorem dX5_shortestNow_91 : decode cX5_shortestNow 91 = .ok (.iload_n 1, 1) := by decide +kernel
theorem dX5_shortestNow_92 : decode cX5_shortestNow 92 = .ok (.invokevirtual 239, 3) := by decide +kernel
theorem dX5_shortestNow_95 : decode cX5_shortestNow 95 = .ok (.goto 5, 3) := by decide +kernel
theorem dX5_shortestNow_98 : decode cX5_shortestNow 98 = .ok (.iload 5, 2) := by decide +kernel
theorem dX5_shortestNow_100 : decode cX5_shortestNow 100 = .ok (.istore 5, 2) := by decide +kernel
theorem dX5_shortestNow_102 : decode cX5_shortestNow 102 = .ok (.iinc 6 1, 3) := by decide +kernel
theorem dX5_shortestNow_105 : decode cX5_shortestNow 105 = .ok (.goto (-78), 3) := by decide +kernel
theorem dX5_shortestNow_108 : decode cX5_shortestNow 108 = .ok (.iload 4, 2) := by decide +kernel
theorem dX5_shortestNow_110 : decode cX5_shortestNow 110 = .ok (.ireturn, 1) := by decide +kernel
theorem dX5_shortest_0 : decode cX5_shortest 0 = .ok (.aload_n 0, 1) := by decide +kernel
theorem dX5_shortest_1 : decode cX5_shortest 1 = .ok (.iload_n 1, 1) := by decide +kernel
theorem dX5_shortest_2 : decode cX5_shortest 2 = .ok (.invokestatic 142, 3) := by decide +kernel
theorem dX5_shortest_5 : decode cX5_shortest 5 = .ok (.ifCond .eq 7, 3) := by decide +kernel
theorem dX5_shortest_8 : decode cX5_shortest 8 = .ok (.iconst 0, 1) := by decide +kernel
theorem dX5_shortest_9 : decode cX5_shortest 9 = .ok (.goto 4, 3) := by decide +kernel
theorem dX5_shortest_12 : decode cX5_shortest 12 = .ok (.iconst 1, 1) := by decide +kernel
theorem dX5_shortest_13 : decode cX5_shortest 13 = .ok (.putfield 50, 3) := by decide +kernel
theorem dX5_shortest_16 : decode cX5_shortest 16 = .ok (.aload_n 0, 1) := by decide +kernel
theorem dX5_shortest_17 : decode cX5_shortest 17 = .ok (.getfield 50, 3) := by decide +kernel
theorem dX5_shortest_20 : decode cX5_shortest 20 = .ok (.ifCond .le 7, 3) := by decide +kernel
theorem dX5_shortest_23 : decode cX5_shortest 23 = .ok (.iconst 0, 1) := by decide +kernel
theorem dX5_shortest_24 : decode cX5_shortest 24 = .ok (.goto 8, 3) := by decide +kernel
theorem dX5_shortest_27 : decode cX5_shortest 27 = .ok (.aload_n 0, 1) := by decide +kernel
theorem dX5_shortest_28 : decode cX5_shortest 28 = .ok (.iload_n 1, 1) := by decide +kernel
theorem dX5_shortest_29 : decode cX5_shortest 29 = .ok (.invokevirtual 242, 3) := by decide +kernel
theorem dX5_shortest_32 : decode cX5_shortest 32 = .ok (.ireturn, 1) := by decide +kernel
theorem dX5_share_0 : decode cX5_share 0 = .ok (.aload_n 0, 1) := by decide +kernel
theorem dX5_share_1 : decode cX5_share 1 = .ok (.iconst 0, 1) := by decide +kernel
theorem dX5_share_2 : decode cX5_share 2 = .ok (.invokevirtual 75, 3) := by decide +kernel
theorem dX5_share_5 : decode cX5_share 5 = .ok (.aload_n 0, 1) := by decide +kernel
theorem dX5_share_6 : decode cX5_share 6 = .ok (.iconst 1, 1) := by decide +kernel
theorem dX5_share_7 : decode cX5_share 7 = .ok (.invokevirtual 75, 3) := by decide +kernel
theorem dX5_share_10 : decode cX5_share 10 = .ok (.iadd, 1) := by decide +kernel
theorem dX5_share_11 : decode cX5_share 11 = .ok (.aload_n 0, 1) := by decide +kernel
theorem dX5_share_12 : decode cX5_share 12 = .ok (.iconst 2, 1) := by decide +kernel
theorem dX5_share_13 : decode cX5_share 13 = .ok (.invokevirtual 75, 3) := by decide +kernel
theorem dX5_share_16 : decode cX5_share 16 = .ok (.iadd, 1) := by decide +kernel
theorem dX5_share_17 : decode cX5_share 17 = .ok (.aload_n 0, 1) := by decide +kernel
theorem dX5_share_18 : decode cX5_share 18 = .ok (.iconst 3, 1) := by decide +kernel
theorem dX5_share_19 : decode cX5_share 19 = .ok (.invokevirtual 75, 3) := by decide +kernel
theorem dX5_share_22 : decode cX5_share 22 = .ok (.iadd, 1) := by decide +kernel
theorem dX5_share_23 : decode cX5_share 23 = .ok (.istore_n 1, 1) := by decide +kernel
theorem dX5_share_24 : decode cX5_share 24 = .ok (.aload_n 0, 1) := by decide +kernel
theorem dX5_share_25 : decode cX5_share 25 = .ok (.iconst 2, 1) := by decide +kernel
theorem dX5_share_26 : decode cX5_share 26 = .ok (.invokevirtual 151, 3) := by decide +kernel
theorem dX5_share_29 : decode cX5_share 29 = .ok (.ifCond .eq 10, 3) := by decide +kernel
theorem dX5_share_32 : decode cX5_share 32 = .ok (.aload_n 0, 1) := by decide +kernel
theorem dX5_share_33 : decode cX5_share 33 = .ok (.invokevirtual 220, 3) := by decide +kernel
theorem dX5_share_36 : decode cX5_share 36 = .ok (.ifCond .le 7, 3) := by decide +kernel
theorem dX5_share_39 : decode cX5_share 39 = .ok (.dconst 0, 1) := by decide +kernel
theorem dX5_share_40 : decode cX5_share 40 = .ok (.goto 12, 3) := by decide +kernel
theorem dX5_share_43 : decode cX5_share 43 = .ok (.iload_n 1, 1) := by decide +kernel
theorem dX5_share_44 : decode cX5_share 44 = .ok (.i2d, 1) := by decide +kernel
theorem dX5_share_45 : decode cX5_share 45 = .ok (.aload_n 0, 1) := by decide +kernel
theorem dX5_share_46 : decode cX5_share 46 = .ok (.iconst 2, 1) := by decide +kernel
theorem dX5_share_47 : decode cX5_share 47 = .ok (.invokevirtual 151, 3) := by decide +kernel
theorem dX5_share_50 : decode cX5_share 50 = .ok (.i2d, 1) := by decide +kernel
theorem dX5_share_51 : decode cX5_share 51 = .ok (.ddiv, 1) := by decide +kernel
theorem dX5_share_52 : decode cX5_share 52 = .ok (.dreturn, 1) := by decide +kernel
theorem dX5_openShare_0 : decode cX5_openShare 0 = .ok (.aload_n 0, 1) := by decide +kernel
theorem dX5_openShare_1 : decode cX5_openShare 1 = .ok (.iconst 0, 1) := by decide +kernel
theorem dX5_openShare_2 : decode cX5_openShare 2 = .ok (.putfield 50, 3) := by decide +kernel
theorem dX5_openShare_5 : decode cX5_openShare 5 = .ok (.aload_n 0, 1) := by decide +kernel
theorem dX5_openShare_6 : decode cX5_openShare 6 = .ok (.invokevirtual 245, 3) := by decide +kernel
theorem dX5_openShare_9 : decode cX5_openShare 9 = .ok (.dreturn, 1) := by decide +kernel
theorem dX5_mix_0 : decode cX5_mix 0 = .ok (.aload_n 0, 1) := by decide +kernel
theorem dX5_mix_1 : decode cX5_mix 1 = .ok (.ldc2_w 249, 3) := by decide +kernel
theorem dX5_mix_4 : decode cX5_mix 4 = .ok (.aload_n 0, 1) := by decide +kernel
theorem dX5_mix_5 : decode cX5_mix 5 = .ok (.getfield 251, 3) := by decide +kernel
theorem dX5_mix_8 : decode cX5_mix 8 = .ok (.lmul, 1) := by decide +kernel
theorem dX5_mix_9 : decode cX5_mix 9 = .ok (.lload_n 1, 1) := by decide +kernel
theorem dX5_mix_10 : decode cX5_mix 10 = .ok (.ladd, 1) := by decide +kernel
theorem dX5_mix_11 : decode cX5_mix 11 = .ok (.putfield 251, 3) := by decide +kernel
theorem dX5_mix_14 : decode cX5_mix 14 = .ok (.return_, 1) := by decide +kernel
theorem dX5_mixMatcher_0 : decode cX5_mixMatcher 0 = .ok (.aload_n 0, 1) := by decide +kernel
theorem dX5_mixMatcher_1 : decode cX5_mixMatcher 1 = .ok (.iload_n 1, 1) := by decide +kernel
theorem dX5_mixMatcher_2 : decode cX5_mixMatcher 2 = .ok (.invokevirtual 157, 3) := by decide +kernel
theorem dX5_mixMatcher_5 : decode cX5_mixMatcher 5 = .ok (.iconst 0, 1) := by decide +kernel
theorem dX5_mixMatcher_6 : decode cX5_mixMatcher 6 = .ok (.istore_n 2, 1) := by decide +kernel
theorem dX5_mixMatcher_7 : decode cX5_mixMatcher 7 = .ok (.iload_n 2, 1) := by decide +kernel
theorem dX5_mixMatcher_8 : decode cX5_mixMatcher 8 = .ok (.bipush 16, 2) := by decide +kernel
theorem dX5_mixMatcher_10 : decode cX5_mixMatcher 10 = .ok (.if_icmp .ge 24, 3) := by decide +kernel
theorem dX5_mixMatcher_13 : decode cX5_mixMatcher 13 = .ok (.aload_n 0, 1) := by decide +kernel
theorem dX5_mixMatcher_14 : decode cX5_mixMatcher 14 = .ok (.aload_n 0, 1) := by decide +kernel
theorem dX5_mixMatcher_15 : decode cX5_mixMatcher 15 = .ok (.iload_n 2, 1) := by decide +kernel
theorem dX5_mixMatcher_16 : decode cX5_mixMatcher 16 = .ok (.iconst 4, 1) := by decide +kernel
theorem dX5_mixMatcher_17 : decode cX5_mixMatcher 17 = .ok (.idiv, 1) := by decide +kernel
theorem dX5_mixMatcher_18 : decode cX5_mixMatcher 18 = .ok (.iload_n 2, 1) := by decide +kernel
theorem dX5_mixMatcher_19 : decode cX5_mixMatcher 19 = .ok (.iconst 4, 1) := by decide +kernel
theorem dX5_mixMatcher_20 : decode cX5_mixMatcher 20 = .ok (.irem, 1) := by decide +kernel
theorem dX5_mixMatcher_21 : decode cX5_mixMatcher 21 = .ok (.invokevirtual 201, 3) := by decide +kernel
theorem dX5_mixMatcher_24 : decode cX5_mixMatcher 24 = .ok (.i2l, 1) := by decide +kernel
theorem dX5_mixMatcher_25 : decode cX5_mixMatcher 25 = .ok (.invokevirtual 255, 3) := by decide +kernel
theorem dX5_mixMatcher_28 : decode cX5_mixMatcher 28 = .ok (.iinc 2 1, 3) := by decide +kernel
theorem dX5_mixMatcher_31 : decode cX5_mixMatcher 31 = .ok (.goto (-24), 3) := by decide +kernel
theorem dX5_mixMatcher_34 : decode cX5_mixMatcher 34 = .ok (.iconst 0, 1) := by decide +kernel
theorem dX5_mixMatcher_35 : decode cX5_mixMatcher 35 = .ok (.istore_n 2, 1) := by decide +kernel
theorem dX5_mixMatcher_36 : decode cX5_mixMatcher 36 = .ok (.iload_n 2, 1) := by decide +kernel
theorem dX5_mixMatcher_37 : decode cX5_mixMatcher 37 = .ok (.iconst 4, 1) := by decide +kernel
theorem dX5_mixMatcher_38 : decode cX5_mixMatcher 38 = .ok (.if_icmp .ge 32, 3) := by decide +kernel
theorem dX5_mixMatcher_41 : decode cX5_mixMatcher 41 = .ok (.aload_n 0, 1) := by decide +kernel
theorem dX5_mixMatcher_42 : decode cX5_mixMatcher 42 = .ok (.aload_n 0, 1) := by decide +kernel
theorem dX5_mixMatcher_43 : decode cX5_mixMatcher 43 = .ok (.invokevirtual 161, 3) := by decide +kernel
theorem dX5_mixMatcher_46 : decode cX5_mixMatcher 46 = .ok (.ifCond .eq 9, 3) := by decide +kernel
theorem dX5_mixMatcher_49 : decode cX5_mixMatcher 49 = .ok (.ldc2_w 259, 3) := by decide +kernel
theorem dX5_mixMatcher_52 : decode cX5_mixMatcher 52 = .ok (.goto 9, 3) := by decide +kernel
theorem dX5_mixMatcher_55 : decode cX5_mixMatcher 55 = .ok (.aload_n 0, 1) := by decide +kernel
theorem dX5_mixMatcher_56 : decode cX5_mixMatcher 56 = .ok (.iload_n 2, 1) := by decide +kernel
theorem dX5_mixMatcher_57 : decode cX5_mixMatcher 57 = .ok (.invokevirtual 107, 3) := by decide +kernel
theorem dX5_mixMatcher_60 : decode cX5_mixMatcher 60 = .ok (.i2l, 1) := by decide +kernel
theorem dX5_mixMatcher_61 : decode cX5_mixMatcher 61 = .ok (.invokevirtual 255, 3) := by decide +kernel
theorem dX5_mixMatcher_64 : decode cX5_mixMatcher 64 = .ok (.iinc 2 1, 3) := by decide +kernel
theorem dX5_mixMatcher_67 : decode cX5_mixMatcher 67 = .ok (.goto (-31), 3) := by decide +kernel
theorem dX5_mixMatcher_70 : decode cX5_mixMatcher 70 = .ok (.return_, 1) := by decide +kernel
theorem dX5_digest_0 : decode cX5_digest 0 = .ok (.aload_n 0, 1) := by decide +kernel
theorem dX5_digest_1 : decode cX5_digest 1 = .ok (.iconst 0, 1) := by decide +kernel
theorem dX5_digest_2 : decode cX5_digest 2 = .ok (.putfield 50, 3) := by decide +kernel
theorem dX5_digest_5 : decode cX5_digest 5 = .ok (.aload_n 0, 1) := by decide +kernel
theorem dX5_digest_6 : decode cX5_digest 6 = .ok (.ldc2_w 261, 3) := by decide +kernel
theorem dX5_digest_9 : decode cX5_digest 9 = .ok (.putfield 251, 3) := by decide +kernel
theorem dX5_digest_12 : decode cX5_digest 12 = .ok (.iconst 0, 1) := by decide +kernel
theorem dX5_digest_13 : decode cX5_digest 13 = .ok (.istore_n 1, 1) := by decide +kernel
theorem dX5_digest_14 : decode cX5_digest 14 = .ok (.iload_n 1, 1) := by decide +kernel
theorem dX5_digest_15 : decode cX5_digest 15 = .ok (.bipush 11, 2) := by decide +kernel
theorem dX5_digest_17 : decode cX5_digest 17 = .ok (.if_icmp .ge 19, 3) := by decide +kernel
theorem dX5_digest_20 : decode cX5_digest 20 = .ok (.aload_n 0, 1) := by decide +kernel
theorem dX5_digest_21 : decode cX5_digest 21 = .ok (.aload_n 0, 1) := by decide +kernel
theorem dX5_digest_22 : decode cX5_digest 22 = .ok (.iload_n 1, 1) := by decide +kernel
theorem dX5_digest_23 : decode cX5_digest 23 = .ok (.invokevirtual 229, 3) := by decide +kernel
theorem dX5_digest_26 : decode cX5_digest 26 = .ok (.i2l, 1) := by decide +kernel
theorem dX5_digest_27 : decode cX5_digest 27 = .ok (.invokevirtual 255, 3) := by decide +kernel
theorem dX5_digest_30 : decode cX5_digest 30 = .ok (.iinc 1 1, 3) := by decide +kernel
theorem dX5_digest_33 : decode cX5_digest 33 = .ok (.goto (-19), 3) := by decide +kernel
theorem dX5_digest_36 : decode cX5_digest 36 = .ok (.aload_n 0, 1) := by decide +kernel
theorem dX5_digest_37 : decode cX5_digest 37 = .ok (.aload_n 0, 1) := by decide +kernel
theorem dX5_digest_38 : decode cX5_digest 38 = .ok (.getfield 7, 3) := by decide +kernel
theorem dX5_digest_41 : decode cX5_digest 41 = .ok (.bipush 24, 2) := by decide +kernel
theorem dX5_digest_43 : decode cX5_digest 43 = .ok (.iaload, 1) := by decide +kernel
theorem dX5_digest_44 : decode cX5_digest 44 = .ok (.i2l, 1) := by decide +kernel
theorem dX5_digest_45 : decode cX5_digest 45 = .ok (.invokevirtual 255, 3) := by decide +kernel
theorem dX5_digest_48 : decode cX5_digest 48 = .ok (.aload_n 0, 1) := by decide +kernel
theorem dX5_digest_49 : decode cX5_digest 49 = .ok (.aload_n 0, 1) := by decide +kernel
theorem dX5_digest_50 : decode cX5_digest 50 = .ok (.getfield 7, 3) := by decide +kernel
theorem dX5_digest_53 : decode cX5_digest 53 = .ok (.bipush 25, 2) := by decide +kernel
theorem dX5_digest_55 : decode cX5_digest 55 = .ok (.iaload, 1) := by decide +kernel
theorem dX5_digest_56 : decode cX5_digest 56 = .ok (.i2l, 1) := by decide +kernel
theorem dX5_digest_57 : decode cX5_digest 57 = .ok (.invokevirtual 255, 3) := by decide +kernel
theorem dX5_digest_60 : decode cX5_digest 60 = .ok (.iconst 0, 1) := by decide +kernel
theorem dX5_digest_61 : decode cX5_digest 61 = .ok (.istore_n 1, 1) := by decide +kernel
theorem dX5_digest_62 : decode cX5_digest 62 = .ok (.iload_n 1, 1) := by decide +kernel
theorem dX5_digest_63 : decode cX5_digest 63 = .ok (.bipush 24, 2) := by decide +kernel
theorem dX5_digest_65 : decode cX5_digest 65 = .ok (.if_icmp .ge 20, 3) := by decide +kernel
theorem dX5_digest_68 : decode cX5_digest 68 = .ok (.aload_n 0, 1) := by decide +kernel
theorem dX5_digest_69 : decode cX5_digest 69 = .ok (.aload_n 0, 1) := by decide +kernel
theorem dX5_digest_70 : decode cX5_digest 70 = .ok (.getfield 7, 3) := by decide +kernel
theorem dX5_digest_73 : decode cX5_digest 73 = .ok (.iload_n 1, 1) := by decide +kernel
theorem dX5_digest_74 : decode cX5_digest 74 = .ok (.iaload, 1) := by decide +kernel
theorem dX5_digest_75 : decode cX5_digest 75 = .ok (.i2l, 1) := by decide +kernel
theorem dX5_digest_76 : decode cX5_digest 76 = .ok (.invokevirtual 255, 3) := by decide +kernel
theorem dX5_digest_79 : decode cX5_digest 79 = .ok (.iinc 1 1, 3) := by decide +kernel
theorem dX5_digest_82 : decode cX5_digest 82 = .ok (.goto (-20), 3) := by decide +kernel
theorem dX5_digest_85 : decode cX5_digest 85 = .ok (.iconst 0, 1) := by decide +kernel
theorem dX5_digest_86 : decode cX5_digest 86 = .ok (.istore_n 1, 1) := by decide +kernel
theorem dX5_digest_87 : decode cX5_digest 87 = .ok (.iload_n 1, 1) := by decide +kernel
theorem dX5_digest_88 : decode cX5_digest 88 = .ok (.iconst 4, 1) := by decide +kernel
theorem dX5_digest_89 : decode cX5_digest 89 = .ok (.if_icmp .ge 39, 3) := by decide +kernel
theorem dX5_digest_92 : decode cX5_digest 92 = .ok (.aload_n 0, 1) := by decide +kernel
theorem dX5_digest_93 : decode cX5_digest 93 = .ok (.aload_n 0, 1) := by decide +kernel
theorem dX5_digest_94 : decode cX5_digest 94 = .ok (.iload_n 1, 1) := by decide +kernel
theorem dX5_digest_95 : decode cX5_digest 95 = .ok (.invokevirtual 75, 3) := by decide +kernel
theorem dX5_digest_98 : decode cX5_digest 98 = .ok (.i2l, 1) := by decide +kernel
theorem dX5_digest_99 : decode cX5_digest 99 = .ok (.invokevirtual 255, 3) := by decide +kernel
theorem dX5_digest_102 : decode cX5_digest 102 = .ok (.aload_n 0, 1) := by decide +kernel
theorem dX5_digest_103 : decode cX5_digest 103 = .ok (.aload_n 0, 1) := by decide +kernel
theorem dX5_digest_104 : decode cX5_digest 104 = .ok (.iload_n 1, 1) := by decide +kernel
theorem dX5_digest_105 : decode cX5_digest 105 = .ok (.invokevirtual 192, 3) := by decide +kernel
theorem dX5_digest_108 : decode cX5_digest 108 = .ok (.i2l, 1) := by decide +kernel
theorem dX5_digest_109 : decode cX5_digest 109 = .ok (.invokevirtual 255, 3) := by decide +kernel
theorem dX5_digest_112 : decode cX5_digest 112 = .ok (.aload_n 0, 1) := by decide +kernel
theorem dX5_digest_113 : decode cX5_digest 113 = .ok (.aload_n 0, 1) := by decide +kernel
theorem dX5_digest_114 : decode cX5_digest 114 = .ok (.iload_n 1, 1) := by decide +kernel
theorem dX5_digest_115 : decode cX5_digest 115 = .ok (.iconst 1, 1) := by decide +kernel
theorem dX5_digest_116 : decode cX5_digest 116 = .ok (.invokevirtual 232, 3) := by decide +kernel
theorem dX5_digest_119 : decode cX5_digest 119 = .ok (.invokevirtual 255, 3) := by decide +kernel
theorem dX5_digest_122 : decode cX5_digest 122 = .ok (.iinc 1 1, 3) := by decide +kernel
theorem dX5_digest_125 : decode cX5_digest 125 = .ok (.goto (-38), 3) := by decide +kernel
theorem dX5_digest_128 : decode cX5_digest 128 = .ok (.aload_n 0, 1) := by decide +kernel
theorem dX5_digest_129 : decode cX5_digest 129 = .ok (.aload_n 0, 1) := by decide +kernel
theorem dX5_digest_130 : decode cX5_digest 130 = .ok (.iconst 0, 1) := by decide +kernel
theorem dX5_digest_131 : decode cX5_digest 131 = .ok (.invokevirtual 198, 3) := by decide +kernel
theorem dX5_digest_134 : decode cX5_digest 134 = .ok (.invokevirtual 255, 3) := by decide +kernel
theorem dX5_digest_137 : decode cX5_digest 137 = .ok (.aload_n 0, 1) := by decide +kernel
theorem dX5_digest_138 : decode cX5_digest 138 = .ok (.aload_n 0, 1) := by decide +kernel
theorem dX5_digest_139 : decode cX5_digest 139 = .ok (.iconst 1, 1) := by decide +kernel
theorem dX5_digest_140 : decode cX5_digest 140 = .ok (.invokevirtual 198, 3) := by decide +kernel
theorem dX5_digest_143 : decode cX5_digest 143 = .ok (.invokevirtual 255, 3) := by decide +kernel
theorem dX5_digest_146 : decode cX5_digest 146 = .ok (.aload_n 0, 1) := by decide +kernel
theorem dX5_digest_147 : decode cX5_digest 147 = .ok (.invokevirtual 100, 3) := by decide +kernel
theorem dX5_digest_150 : decode cX5_digest 150 = .ok (.lstore_n 1, 1) := by decide +kernel
theorem dX5_digest_151 : decode cX5_digest 151 = .ok (.iconst 0, 1) := by decide +kernel
theorem dX5_digest_152 : decode cX5_digest 152 = .ok (.istore_n 3, 1) := by decide +kernel
theorem dX5_digest_153 : decode cX5_digest 153 = .ok (.iload_n 3, 1) := by decide +kernel
theorem dX5_digest_154 : decode cX5_digest 154 = .ok (.iconst 3, 1) := by decide +kernel
theorem dX5_digest_155 : decode cX5_digest 155 = .ok (.if_icmp .ge 21, 3) := by decide +kernel
theorem dX5_digest_158 : decode cX5_digest 158 = .ok (.iload_n 3, 1) := by decide +kernel
theorem dX5_digest_159 : decode cX5_digest 159 = .ok (.i2l, 1) := by decide +kernel
theorem dX5_digest_160 : decode cX5_digest 160 = .ok (.lload_n 1, 1) := by decide +kernel
theorem dX5_digest_161 : decode cX5_digest 161 = .ok (.lcmp, 1) := by decide +kernel
theorem dX5_digest_162 : decode cX5_digest 162 = .ok (.ifCond .ge 14, 3) := by decide +kernel
theorem dX5_digest_165 : decode cX5_digest 165 = .ok (.aload_n 0, 1) := by decide +kernel
theorem dX5_digest_166 : decode cX5_digest 166 = .ok (.iload_n 3, 1) := by decide +kernel
theorem dX5_digest_167 : decode cX5_digest 167 = .ok (.invokevirtual 263, 3) := by decide +kernel
theorem dX5_digest_170 : decode cX5_digest 170 = .ok (.iinc 3 1, 3) := by decide +kernel
theorem dX5_digest_173 : decode cX5_digest 173 = .ok (.goto (-20), 3) := by decide +kernel
theorem dX5_digest_176 : decode cX5_digest 176 = .ok (.iconst 0, 1) := by decide +kernel
theorem dX5_digest_177 : decode cX5_digest 177 = .ok (.istore_n 3, 1) := by decide +kernel
theorem dX5_digest_178 : decode cX5_digest 178 = .ok (.iload_n 3, 1) := by decide +kernel
theorem dX5_digest_179 : decode cX5_digest 179 = .ok (.bipush 16, 2) := by decide +kernel
theorem dX5_digest_181 : decode cX5_digest 181 = .ok (.if_icmp .ge 24, 3) := by decide +kernel
theorem dX5_digest_184 : decode cX5_digest 184 = .ok (.aload_n 0, 1) := by decide +kernel
theorem dX5_digest_185 : decode cX5_digest 185 = .ok (.aload_n 0, 1) := by decide +kernel
theorem dX5_digest_186 : decode cX5_digest 186 = .ok (.iload_n 3, 1) := by decide +kernel
theorem dX5_digest_187 : decode cX5_digest 187 = .ok (.iconst 4, 1) := by decide +kernel
theorem dX5_digest_188 : decode cX5_digest 188 = .ok (.idiv, 1) := by decide +kernel
theorem dX5_digest_189 : decode cX5_digest 189 = .ok (.iload_n 3, 1) := by decide +kernel
theorem dX5_digest_190 : decode cX5_digest 190 = .ok (.iconst 4, 1) := by decide +kernel
theorem dX5_digest_191 : decode cX5_digest 191 = .ok (.irem, 1) := by decide +kernel
theorem dX5_digest_192 : decode cX5_digest 192 = .ok (.invokevirtual 204, 3) := by decide +kernel
theorem dX5_digest_195 : decode cX5_digest 195 = .ok (.i2l, 1) := by decide +kernel
theorem dX5_digest_196 : decode cX5_digest 196 = .ok (.invokevirtual 255, 3) := by decide +kernel
theorem dX5_digest_199 : decode cX5_digest 199 = .ok (.iinc 3 1, 3) := by decide +kernel
theorem dX5_digest_202 : decode cX5_digest 202 = .ok (.goto (-24), 3) := by decide +kernel
theorem dX5_digest_205 : decode cX5_digest 205 = .ok (.aload_n 0, 1) := by decide +kernel
theorem dX5_digest_206 : decode cX5_digest 206 = .ok (.aload_n 0, 1) := by decide +kernel
theorem dX5_digest_207 : decode cX5_digest 207 = .ok (.iconst 2, 1) := by decide +kernel
theorem dX5_digest_208 : decode cX5_digest 208 = .ok (.iconst 2, 1) := by decide +kernel
theorem dX5_digest_209 : decode cX5_digest 209 = .ok (.iconst 2, 1) := by decide +kernel
theorem dX5_digest_210 : decode cX5_digest 210 = .ok (.iconst 2, 1) := by decide +kernel
theorem dX5_digest_211 : decode cX5_digest 211 = .ok (.invokevirtual 210, 3) := by decide +kernel
theorem dX5_digest_214 : decode cX5_digest 214 = .ok (.i2l, 1) := by decide +kernel
theorem dX5_digest_215 : decode cX5_digest 215 = .ok (.invokevirtual 255, 3) := by decide +kernel
theorem dX5_digest_218 : decode cX5_digest 218 = .ok (.iconst 0, 1) := by decide +kernel
theorem dX5_digest_219 : decode cX5_digest 219 = .ok (.istore_n 3, 1) := by decide +kernel
theorem dX5_digest_220 : decode cX5_digest 220 = .ok (.iload_n 3, 1) := by decide +kernel
theorem dX5_digest_221 : decode cX5_digest 221 = .ok (.iconst 4, 1) := by decide +kernel
theorem dX5_digest_222 : decode cX5_digest 222 = .ok (.if_icmp .ge 19, 3) := by decide +kernel
theorem dX5_digest_225 : decode cX5_digest 225 = .ok (.aload_n 0, 1) := by decide +kernel
theorem dX5_digest_226 : decode cX5_digest 226 = .ok (.aload_n 0, 1) := by decide +kernel
theorem dX5_digest_227 : decode cX5_digest 227 = .ok (.iload_n 3, 1) := by decide +kernel
theorem dX5_digest_228 : decode cX5_digest 228 = .ok (.invokevirtual 242, 3) := by decide +kernel
theorem dX5_digest_231 : decode cX5_digest 231 = .ok (.i2l, 1) := by decide +kernel
theorem dX5_digest_232 : decode cX5_digest 232 = .ok (.invokevirtual 255, 3) := by decide +kernel
theorem dX5_digest_235 : decode cX5_digest 235 = .ok (.iinc 3 1, 3) := by decide +kernel
theorem dX5_digest_238 : decode cX5_digest 238 = .ok (.goto (-18), 3) := by decide +kernel
theorem dX5_digest_241 : decode cX5_digest 241 = .ok (.aload_n 0, 1) := by decide +kernel
theorem dX5_digest_242 : decode cX5_digest 242 = .ok (.aload_n 0, 1) := by decide +kernel
theorem dX5_digest_243 : decode cX5_digest 243 = .ok (.invokevirtual 245, 3) := by decide +kernel
theorem dX5_digest_246 : decode cX5_digest 246 = .ok (.invokestatic 266, 3) := by decide +kernel
theorem dX5_digest_249 : decode cX5_digest 249 = .ok (.invokevirtual 255, 3) := by decide +kernel
theorem dX5_digest_252 : decode cX5_digest 252 = .ok (.aload_n 0, 1) := by decide +kernel
theorem dX5_digest_253 : decode cX5_digest 253 = .ok (.aload_n 0, 1) := by decide +kernel
theorem dX5_digest_254 : decode cX5_digest 254 = .ok (.getfield 168, 3) := by decide +kernel
theorem dX5_digest_257 : decode cX5_digest 257 = .ok (.i2l, 1) := by decide +kernel
theorem dX5_digest_258 : decode cX5_digest 258 = .ok (.invokevirtual 255, 3) := by decide +kernel
theorem dX5_digest_261 : decode cX5_digest 261 = .ok (.iconst 0, 1) := by decide +kernel
theorem dX5_digest_262 : decode cX5_digest 262 = .ok (.istore_n 3, 1) := by decide +kernel
theorem dX5_digest_263 : decode cX5_digest 263 = .ok (.iload_n 3, 1) := by decide +kernel
theorem dX5_digest_264 : decode cX5_digest 264 = .ok (.aload_n 0, 1) := by decide +kernel
theorem dX5_digest_265 : decode cX5_digest 265 = .ok (.getfield 168, 3) := by decide +kernel
theorem dX5_digest_268 : decode cX5_digest 268 = .ok (.if_icmp .ge 20, 3) := by decide +kernel
theorem dX5_digest_271 : decode cX5_digest 271 = .ok (.aload_n 0, 1) := by decide +kernel
theorem dX5_digest_272 : decode cX5_digest 272 = .ok (.aload_n 0, 1) := by decide +kernel
theorem dX5_digest_273 : decode cX5_digest 273 = .ok (.getfield 22, 3) := by decide +kernel
theorem dX5_digest_276 : decode cX5_digest 276 = .ok (.iload_n 3, 1) := by decide +kernel
theorem dX5_digest_277 : decode cX5_digest 277 = .ok (.iaload, 1) := by decide +kernel
theorem dX5_digest_278 : decode cX5_digest 278 = .ok (.i2l, 1) := by decide +kernel
theorem dX5_digest_279 : decode cX5_digest 279 = .ok (.invokevirtual 255, 3) := by decide +kernel
theorem dX5_digest_282 : decode cX5_digest 282 = .ok (.iinc 3 1, 3) := by decide +kernel
theorem dX5_digest_285 : decode cX5_digest 285 = .ok (.goto (-22), 3) := by decide +kernel
theorem dX5_digest_288 : decode cX5_digest 288 = .ok (.aload_n 0, 1) := by decide +kernel
theorem dX5_digest_289 : decode cX5_digest 289 = .ok (.getfield 251, 3) := by decide +kernel
theorem dX5_digest_292 : decode cX5_digest 292 = .ok (.lreturn, 1) := by decide +kernel
