theorem dX3_init_0 : decode cX3_init 0 = .ok (.aload_n 0, 1) := by decide +kernel
theorem dX3_init_1 : decode cX3_init 1 = .ok (.invokespecial 3, 3) := by decide +kernel
theorem dX3_init_4 : decode cX3_init 4 = .ok (.aload_n 0, 1) := by decide +kernel
theorem dX3_init_5 : decode cX3_init 5 = .ok (.ldc 9, 2) := by decide +kernel
theorem dX3_init_7 : decode cX3_init 7 = .ok (.newarray .boolean, 2) := by decide +kernel
theorem dX3_init_9 : decode cX3_init 9 = .ok (.putfield 10, 3) := by decide +kernel
theorem dX3_init_12 : decode cX3_init 12 = .ok (.aload_n 0, 1) := by decide +kernel
theorem dX3_init_13 : decode cX3_init 13 = .ok (.sipush 4096, 3) := by decide +kernel
theorem dX3_init_16 : decode cX3_init 16 = .ok (.newarray .boolean, 2) := by decide +kernel
theorem dX3_init_18 : decode cX3_init 18 = .ok (.putfield 14, 3) := by decide +kernel
theorem dX3_init_21 : decode cX3_init 21 = .ok (.aload_n 0, 1) := by decide +kernel
theorem dX3_init_22 : decode cX3_init 22 = .ok (.sipush 4096, 3) := by decide +kernel
theorem dX3_init_25 : decode cX3_init 25 = .ok (.newarray .boolean, 2) := by decide +kernel
theorem dX3_init_27 : decode cX3_init 27 = .ok (.putfield 17, 3) := by decide +kernel
theorem dX3_init_30 : decode cX3_init 30 = .ok (.aload_n 0, 1) := by decide +kernel
theorem dX3_init_31 : decode cX3_init 31 = .ok (.bipush 12, 2) := by decide +kernel
theorem dX3_init_33 : decode cX3_init 33 = .ok (.newarray .int, 2) := by decide +kernel
theorem dX3_init_35 : decode cX3_init 35 = .ok (.putfield 20, 3) := by decide +kernel
theorem dX3_init_38 : decode cX3_init 38 = .ok (.aload_n 0, 1) := by decide +kernel
theorem dX3_init_39 : decode cX3_init 39 = .ok (.bipush 12, 2) := by decide +kernel
theorem dX3_init_41 : decode cX3_init 41 = .ok (.newarray .int, 2) := by decide +kernel
theorem dX3_init_43 : decode cX3_init 43 = .ok (.putfield 24, 3) := by decide +kernel
theorem dX3_init_46 : decode cX3_init 46 = .ok (.aload_n 0, 1) := by decide +kernel
theorem dX3_init_47 : decode cX3_init 47 = .ok (.bipush 12, 2) := by decide +kernel
theorem dX3_init_49 : decode cX3_init 49 = .ok (.newarray .int, 2) := by decide +kernel
theorem dX3_init_51 : decode cX3_init 51 = .ok (.putfield 27, 3) := by decide +kernel
theorem dX3_init_54 : decode cX3_init 54 = .ok (.aload_n 0, 1) := by decide +kernel
theorem dX3_init_55 : decode cX3_init 55 = .ok (.ldc 9, 2) := by decide +kernel
theorem dX3_init_57 : decode cX3_init 57 = .ok (.newarray .int, 2) := by decide +kernel
theorem dX3_init_59 : decode cX3_init 59 = .ok (.putfield 30, 3) := by decide +kernel
theorem dX3_init_62 : decode cX3_init 62 = .ok (.aload_n 0, 1) := by decide +kernel
theorem dX3_init_63 : decode cX3_init 63 = .ok (.ldc 9, 2) := by decide +kernel
theorem dX3_init_65 : decode cX3_init 65 = .ok (.newarray .int, 2) := by decide +kernel
theorem dX3_init_67 : decode cX3_init 67 = .ok (.putfield 33, 3) := by decide +kernel
theorem dX3_init_70 : decode cX3_init 70 = .ok (.aload_n 0, 1) := by decide +kernel
theorem dX3_init_71 : decode cX3_init 71 = .ok (.bipush 12, 2) := by decide +kernel
theorem dX3_init_73 : decode cX3_init 73 = .ok (.newarray .int, 2) := by decide +kernel
theorem dX3_init_75 : decode cX3_init 75 = .ok (.putfield 36, 3) := by decide +kernel
theorem dX3_init_78 : decode cX3_init 78 = .ok (.aload_n 0, 1) := by decide +kernel
theorem dX3_init_79 : decode cX3_init 79 = .ok (.ldc 9, 2) := by decide +kernel
theorem dX3_init_81 : decode cX3_init 81 = .ok (.newarray .int, 2) := by decide +kernel
theorem dX3_init_83 : decode cX3_init 83 = .ok (.putfield 39, 3) := by decide +kernel
theorem dX3_init_86 : decode cX3_init 86 = .ok (.aload_n 0, 1) := by decide +kernel
theorem dX3_init_87 : decode cX3_init 87 = .ok (.ldc 9, 2) := by decide +kernel
theorem dX3_init_89 : decode cX3_init 89 = .ok (.newarray .int, 2) := by decide +kernel
theorem dX3_init_91 : decode cX3_init 91 = .ok (.putfield 42, 3) := by decide +kernel
theorem dX3_init_94 : decode cX3_init 94 = .ok (.aload_n 0, 1) := by decide +kernel
theorem dX3_init_95 : decode cX3_init 95 = .ok (.ldc 9, 2) := by decide +kernel
theorem dX3_init_97 : decode cX3_init 97 = .ok (.newarray .int, 2) := by decide +kernel
theorem dX3_init_99 : decode cX3_init 99 = .ok (.putfield 45, 3) := by decide +kernel
theorem dX3_init_102 : decode cX3_init 102 = .ok (.aload_n 0, 1) := by decide +kernel
theorem dX3_init_103 : decode cX3_init 103 = .ok (.ldc 9, 2) := by decide +kernel
theorem dX3_init_105 : decode cX3_init 105 = .ok (.newarray .int, 2) := by decide +kernel
theorem dX3_init_107 : decode cX3_init 107 = .ok (.putfield 48, 3) := by decide +kernel
theorem dX3_init_110 : decode cX3_init 110 = .ok (.aload_n 0, 1) := by decide +kernel
theorem dX3_init_111 : decode cX3_init 111 = .ok (.bipush 6, 2) := by decide +kernel
theorem dX3_init_113 : decode cX3_init 113 = .ok (.sipush 2000, 3) := by decide +kernel
theorem dX3_init_116 : decode cX3_init 116 = .ok (.invokevirtual 51, 3) := by decide +kernel
theorem dX3_init_119 : decode cX3_init 119 = .ok (.pop, 1) := by decide +kernel
theorem dX3_init_120 : decode cX3_init 120 = .ok (.return_, 1) := by decide +kernel
theorem dX3_isRegister_0 : decode cX3_isRegister 0 = .ok (.iload_n 1, 1) := by decide +kernel
theorem dX3_isRegister_1 : decode cX3_isRegister 1 = .ok (.ifCond .lt 13, 3) := by decide +kernel
theorem dX3_isRegister_4 : decode cX3_isRegister 4 = .ok (.iload_n 1, 1) := by decide +kernel
theorem dX3_isRegister_5 : decode cX3_isRegister 5 = .ok (.bipush 32, 2) := by decide +kernel
theorem dX3_isRegister_7 : decode cX3_isRegister 7 = .ok (.if_icmp .ge 7, 3) := by decide +kernel
theorem dX3_isRegister_10 : decode cX3_isRegister 10 = .ok (.iconst 1, 1) := by decide +kernel
theorem dX3_isRegister_11 : decode cX3_isRegister 11 = .ok (.goto 4, 3) := by decide +kernel
theorem dX3_isRegister_14 : decode cX3_isRegister 14 = .ok (.iconst 0, 1) := by decide +kernel
theorem dX3_isRegister_15 : decode cX3_isRegister 15 = .ok (.ireturn, 1) := by decide +kernel
theorem dX3_isLetter_0 : decode cX3_isLetter 0 = .ok (.iload_n 1, 1) := by decide +kernel
theorem dX3_isLetter_1 : decode cX3_isLetter 1 = .ok (.ifCond .lt 15, 3) := by decide +kernel
theorem dX3_isLetter_4 : decode cX3_isLetter 4 = .ok (.iload_n 1, 1) := by decide +kernel
theorem dX3_isLetter_5 : decode cX3_isLetter 5 = .ok (.aload_n 0, 1) := by decide +kernel
theorem dX3_isLetter_6 : decode cX3_isLetter 6 = .ok (.getfield 55, 3) := by decide +kernel
theorem dX3_isLetter_9 : decode cX3_isLetter 9 = .ok (.if_icmp .ge 7, 3) := by decide +kernel
theorem dX3_isLetter_12 : decode cX3_isLetter 12 = .ok (.iconst 1, 1) := by decide +kernel
theorem dX3_isLetter_13 : decode cX3_isLetter 13 = .ok (.goto 4, 3) := by decide +kernel
theorem dX3_isLetter_16 : decode cX3_isLetter 16 = .ok (.iconst 0, 1) := by decide +kernel
theorem dX3_isLetter_17 : decode cX3_isLetter 17 = .ok (.ireturn, 1) := by decide +kernel
theorem dX3_get_0 : decode cX3_get 0 = .ok (.aload_n 0, 1) := by decide +kernel
theorem dX3_get_1 : decode cX3_get 1 = .ok (.getfield 10, 3) := by decide +kernel
theorem dX3_get_4 : decode cX3_get 4 = .ok (.sipush 4096, 3) := by decide +kernel
theorem dX3_get_7 : decode cX3_get 7 = .ok (.iload_n 1, 1) := by decide +kernel
theorem dX3_get_8 : decode cX3_get 8 = .ok (.imul, 1) := by decide +kernel
theorem dX3_get_9 : decode cX3_get 9 = .ok (.iload_n 2, 1) := by decide +kernel
theorem dX3_get_10 : decode cX3_get 10 = .ok (.iadd, 1) := by decide +kernel
theorem dX3_get_11 : decode cX3_get 11 = .ok (.baload, 1) := by decide +kernel
theorem dX3_get_12 : decode cX3_get 12 = .ok (.ireturn, 1) := by decide +kernel
theorem dX3_done_0 : decode cX3_done 0 = .ok (.iconst 0, 1) := by decide +kernel
theorem dX3_done_1 : decode cX3_done 1 = .ok (.istore_n 1, 1) := by decide +kernel
theorem dX3_done_2 : decode cX3_done 2 = .ok (.iload_n 1, 1) := by decide +kernel
theorem dX3_done_3 : decode cX3_done 3 = .ok (.sipush 4096, 3) := by decide +kernel
theorem dX3_done_6 : decode cX3_done 6 = .ok (.if_icmp .ge 16, 3) := by decide +kernel
theorem dX3_done_9 : decode cX3_done 9 = .ok (.aload_n 0, 1) := by decide +kernel
theorem dX3_done_10 : decode cX3_done 10 = .ok (.getfield 17, 3) := by decide +kernel
theorem dX3_done_13 : decode cX3_done 13 = .ok (.iload_n 1, 1) := by decide +kernel
theorem dX3_done_14 : decode cX3_done 14 = .ok (.iconst 0, 1) := by decide +kernel
theorem dX3_done_15 : decode cX3_done 15 = .ok (.bastore, 1) := by decide +kernel
theorem dX3_done_16 : decode cX3_done 16 = .ok (.iinc 1 1, 3) := by decide +kernel
theorem dX3_done_19 : decode cX3_done 19 = .ok (.goto (-17), 3) := by decide +kernel
theorem dX3_done_22 : decode cX3_done 22 = .ok (.iconst 0, 1) := by decide +kernel
theorem dX3_done_23 : decode cX3_done 23 = .ok (.ireturn, 1) := by decide +kernel
theorem dX3_fresh_0 : decode cX3_fresh 0 = .ok (.iload_n 1, 1) := by decide +kernel
theorem dX3_fresh_1 : decode cX3_fresh 1 = .ok (.iconst 1, 1) := by decide +kernel
theorem dX3_fresh_2 : decode cX3_fresh 2 = .ok (.if_icmp .lt 20, 3) := by decide +kernel
theorem dX3_fresh_5 : decode cX3_fresh 5 = .ok (.iload_n 1, 1) := by decide +kernel
theorem dX3_fresh_6 : decode cX3_fresh 6 = .ok (.bipush 12, 2) := by decide +kernel
theorem dX3_fresh_8 : decode cX3_fresh 8 = .ok (.if_icmp .gt 14, 3) := by decide +kernel
theorem dX3_fresh_11 : decode cX3_fresh 11 = .ok (.iload_n 2, 1) := by decide +kernel
theorem dX3_fresh_12 : decode cX3_fresh 12 = .ok (.ifCond .lt 10, 3) := by decide +kernel
theorem dX3_fresh_15 : decode cX3_fresh 15 = .ok (.iload_n 2, 1) := by decide +kernel
theorem dX3_fresh_16 : decode cX3_fresh 16 = .ok (.sipush 20000, 3) := by decide +kernel
theorem dX3_fresh_19 : decode cX3_fresh 19 = .ok (.if_icmp .le 5, 3) := by decide +kernel
theorem dX3_fresh_22 : decode cX3_fresh 22 = .ok (.iconst 0, 1) := by decide +kernel
theorem dX3_fresh_23 : decode cX3_fresh 23 = .ok (.ireturn, 1) := by decide +kernel
theorem dX3_fresh_24 : decode cX3_fresh 24 = .ok (.aload_n 0, 1) := by decide +kernel
theorem dX3_fresh_25 : decode cX3_fresh 25 = .ok (.iload_n 1, 1) := by decide +kernel
theorem dX3_fresh_26 : decode cX3_fresh 26 = .ok (.putfield 55, 3) := by decide +kernel
theorem dX3_fresh_29 : decode cX3_fresh 29 = .ok (.aload_n 0, 1) := by decide +kernel
theorem dX3_fresh_30 : decode cX3_fresh 30 = .ok (.iconst 1, 1) := by decide +kernel
theorem dX3_fresh_31 : decode cX3_fresh 31 = .ok (.aload_n 0, 1) := by decide +kernel
theorem dX3_fresh_32 : decode cX3_fresh 32 = .ok (.getfield 55, 3) := by decide +kernel
theorem dX3_fresh_35 : decode cX3_fresh 35 = .ok (.ishl, 1) := by decide +kernel
theorem dX3_fresh_36 : decode cX3_fresh 36 = .ok (.putfield 59, 3) := by decide +kernel
theorem dX3_fresh_39 : decode cX3_fresh 39 = .ok (.aload_n 0, 1) := by decide +kernel
theorem dX3_fresh_40 : decode cX3_fresh 40 = .ok (.iload_n 2, 1) := by decide +kernel
theorem dX3_fresh_41 : decode cX3_fresh 41 = .ok (.putfield 62, 3) := by decide +kernel
theorem dX3_fresh_44 : decode cX3_fresh 44 = .ok (.iconst 0, 1) := by decide +kernel
theorem dX3_fresh_45 : decode cX3_fresh 45 = .ok (.istore_n 3, 1) := by decide +kernel
theorem dX3_fresh_46 : decode cX3_fresh 46 = .ok (.iload_n 3, 1) := by decide +kernel
theorem dX3_fresh_47 : decode cX3_fresh 47 = .ok (.ldc 9, 2) := by decide +kernel
theorem dX3_fresh_49 : decode cX3_fresh 49 = .ok (.if_icmp .ge 16, 3) := by decide +kernel
theorem dX3_fresh_52 : decode cX3_fresh 52 = .ok (.aload_n 0, 1) := by decide +kernel
theorem dX3_fresh_53 : decode cX3_fresh 53 = .ok (.getfield 10, 3) := by decide +kernel
theorem dX3_fresh_56 : decode cX3_fresh 56 = .ok (.iload_n 3, 1) := by decide +kernel
theorem dX3_fresh_57 : decode cX3_fresh 57 = .ok (.iconst 0, 1) := by decide +kernel
theorem dX3_fresh_58 : decode cX3_fresh 58 = .ok (.bastore, 1) := by decide +kernel
theorem dX3_fresh_59 : decode cX3_fresh 59 = .ok (.iinc 3 1, 3) := by decide +kernel
theorem dX3_fresh_62 : decode cX3_fresh 62 = .ok (.goto (-16), 3) := by decide +kernel
theorem dX3_fresh_65 : decode cX3_fresh 65 = .ok (.iconst 0, 1) := by decide +kernel
theorem dX3_fresh_66 : decode cX3_fresh 66 = .ok (.istore_n 3, 1) := by decide +kernel
theorem dX3_fresh_67 : decode cX3_fresh 67 = .ok (.iload_n 3, 1) := by decide +kernel
theorem dX3_fresh_68 : decode cX3_fresh 68 = .ok (.bipush 12, 2) := by decide +kernel
theorem dX3_fresh_70 : decode cX3_fresh 70 = .ok (.if_icmp .ge 23, 3) := by decide +kernel
theorem dX3_fresh_73 : decode cX3_fresh 73 = .ok (.aload_n 0, 1) := by decide +kernel
theorem dX3_fresh_74 : decode cX3_fresh 74 = .ok (.getfield 20, 3) := by decide +kernel
theorem dX3_fresh_77 : decode cX3_fresh 77 = .ok (.iload_n 3, 1) := by decide +kernel
theorem dX3_fresh_78 : decode cX3_fresh 78 = .ok (.iconst 0, 1) := by decide +kernel
theorem dX3_fresh_79 : decode cX3_fresh 79 = .ok (.iastore, 1) := by decide +kernel
theorem dX3_fresh_80 : decode cX3_fresh 80 = .ok (.aload_n 0, 1) := by decide +kernel
theorem dX3_fresh_81 : decode cX3_fresh 81 = .ok (.getfield 24, 3) := by decide +kernel
theorem dX3_fresh_84 : decode cX3_fresh 84 = .ok (.iload_n 3, 1) := by decide +kernel
theorem dX3_fresh_85 : decode cX3_fresh 85 = .ok (.iload_n 3, 1) := by decide +kernel
theorem dX3_fresh_86 : decode cX3_fresh 86 = .ok (.iastore, 1) := by decide +kernel
theorem dX3_fresh_87 : decode cX3_fresh 87 = .ok (.iinc 3 1, 3) := by decide +kernel
theorem dX3_fresh_90 : decode cX3_fresh 90 = .ok (.goto (-23), 3) := by decide +kernel
theorem dX3_fresh_93 : decode cX3_fresh 93 = .ok (.aload_n 0, 1) := by decide +kernel
theorem dX3_fresh_94 : decode cX3_fresh 94 = .ok (.invokevirtual 65, 3) := by decide +kernel
theorem dX3_fresh_97 : decode cX3_fresh 97 = .ok (.pop, 1) := by decide +kernel
theorem dX3_fresh_98 : decode cX3_fresh 98 = .ok (.iconst 1, 1) := by decide +kernel
theorem dX3_fresh_99 : decode cX3_fresh 99 = .ok (.ireturn, 1) := by decide +kernel
theorem dX3_pair_0 : decode cX3_pair 0 = .ok (.iload_n 1, 1) := by decide +kernel
theorem dX3_pair_1 : decode cX3_pair 1 = .ok (.iload_n 2, 1) := by decide +kernel
theorem dX3_pair_2 : decode cX3_pair 2 = .ok (.if_icmp .ne 5, 3) := by decide +kernel
theorem dX3_pair_5 : decode cX3_pair 5 = .ok (.iload_n 1, 1) := by decide +kernel
theorem dX3_pair_6 : decode cX3_pair 6 = .ok (.ireturn, 1) := by decide +kernel
theorem dX3_pair_7 : decode cX3_pair 7 = .ok (.iload_n 1, 1) := by decide +kernel
theorem dX3_pair_8 : decode cX3_pair 8 = .ok (.bipush 31, 2) := by decide +kernel
theorem dX3_pair_10 : decode cX3_pair 10 = .ok (.imul, 1) := by decide +kernel
theorem dX3_pair_11 : decode cX3_pair 11 = .ok (.iload_n 2, 1) := by decide +kernel
theorem dX3_pair_12 : decode cX3_pair 12 = .ok (.ldc 69, 2) := by decide +kernel
theorem dX3_pair_14 : decode cX3_pair 14 = .ok (.imul, 1) := by decide +kernel
theorem dX3_pair_15 : decode cX3_pair 15 = .ok (.iadd, 1) := by decide +kernel
theorem dX3_pair_16 : decode cX3_pair 16 = .ok (.bipush 7, 2) := by decide +kernel
theorem dX3_pair_18 : decode cX3_pair 18 = .ok (.iadd, 1) := by decide +kernel
theorem dX3_pair_19 : decode cX3_pair 19 = .ok (.ldc 70, 2) := by decide +kernel
theorem dX3_pair_21 : decode cX3_pair 21 = .ok (.iand, 1) := by decide +kernel
theorem dX3_pair_22 : decode cX3_pair 22 = .ok (.istore 4, 2) := by decide +kernel
theorem dX3_pair_24 : decode cX3_pair 24 = .ok (.aload_n 0, 1) := by decide +kernel
theorem dX3_pair_25 : decode cX3_pair 25 = .ok (.getfield 39, 3) := by decide +kernel
theorem dX3_pair_28 : decode cX3_pair 28 = .ok (.iload 4, 2) := by decide +kernel
theorem dX3_pair_30 : decode cX3_pair 30 = .ok (.iaload, 1) := by decide +kernel
theorem dX3_pair_31 : decode cX3_pair 31 = .ok (.aload_n 0, 1) := by decide +kernel
theorem dX3_pair_32 : decode cX3_pair 32 = .ok (.getfield 71, 3) := by decide +kernel
theorem dX3_pair_35 : decode cX3_pair 35 = .ok (.if_icmp .ne 45, 3) := by decide +kernel
theorem dX3_pair_38 : decode cX3_pair 38 = .ok (.aload_n 0, 1) := by decide +kernel
theorem dX3_pair_39 : decode cX3_pair 39 = .ok (.getfield 42, 3) := by decide +kernel
theorem dX3_pair_42 : decode cX3_pair 42 = .ok (.iload 4, 2) := by decide +kernel
theorem dX3_pair_44 : decode cX3_pair 44 = .ok (.iaload, 1) := by decide +kernel
theorem dX3_pair_45 : decode cX3_pair 45 = .ok (.iload_n 1, 1) := by decide +kernel
theorem dX3_pair_46 : decode cX3_pair 46 = .ok (.if_icmp .ne 22, 3) := by decide +kernel
theorem dX3_pair_49 : decode cX3_pair 49 = .ok (.aload_n 0, 1) := by decide +kernel
theorem dX3_pair_50 : decode cX3_pair 50 = .ok (.getfield 45, 3) := by decide +kernel
theorem dX3_pair_53 : decode cX3_pair 53 = .ok (.iload 4, 2) := by decide +kernel
theorem dX3_pair_55 : decode cX3_pair 55 = .ok (.iaload, 1) := by decide +kernel
theorem dX3_pair_56 : decode cX3_pair 56 = .ok (.iload_n 2, 1) := by decide +kernel
theorem dX3_pair_57 : decode cX3_pair 57 = .ok (.if_icmp .ne 11, 3) := by decide +kernel
theorem dX3_pair_60 : decode cX3_pair 60 = .ok (.aload_n 0, 1) := by decide +kernel
theorem dX3_pair_61 : decode cX3_pair 61 = .ok (.getfield 48, 3) := by decide +kernel
theorem dX3_pair_64 : decode cX3_pair 64 = .ok (.iload 4, 2) := by decide +kernel
theorem dX3_pair_66 : decode cX3_pair 66 = .ok (.iaload, 1) := by decide +kernel
theorem dX3_pair_67 : decode cX3_pair 67 = .ok (.ireturn, 1) := by decide +kernel
theorem dX3_pair_68 : decode cX3_pair 68 = .ok (.iload 4, 2) := by decide +kernel
theorem dX3_pair_70 : decode cX3_pair 70 = .ok (.iconst 1, 1) := by decide +kernel
theorem dX3_pair_71 : decode cX3_pair 71 = .ok (.iadd, 1) := by decide +kernel
theorem dX3_pair_72 : decode cX3_pair 72 = .ok (.ldc 70, 2) := by decide +kernel
theorem dX3_pair_74 : decode cX3_pair 74 = .ok (.iand, 1) := by decide +kernel
theorem dX3_pair_75 : decode cX3_pair 75 = .ok (.istore 4, 2) := by decide +kernel
theorem dX3_pair_77 : decode cX3_pair 77 = .ok (.goto (-53), 3) := by decide +kernel
theorem dX3_pair_80 : decode cX3_pair 80 = .ok (.aload_n 0, 1) := by decide +kernel
theorem dX3_pair_81 : decode cX3_pair 81 = .ok (.getfield 39, 3) := by decide +kernel
theorem dX3_pair_84 : decode cX3_pair 84 = .ok (.iload 4, 2) := by decide +kernel
theorem dX3_pair_86 : decode cX3_pair 86 = .ok (.aload_n 0, 1) := by decide +kernel
theorem dX3_pair_87 : decode cX3_pair 87 = .ok (.getfield 71, 3) := by decide +kernel
theorem dX3_pair_90 : decode cX3_pair 90 = .ok (.iastore, 1) := by decide +kernel
theorem dX3_pair_91 : decode cX3_pair 91 = .ok (.aload_n 0, 1) := by decide +kernel
theorem dX3_pair_92 : decode cX3_pair 92 = .ok (.getfield 42, 3) := by decide +kernel
theorem dX3_pair_95 : decode cX3_pair 95 = .ok (.iload 4, 2) := by decide +kernel
theorem dX3_pair_97 : decode cX3_pair 97 = .ok (.iload_n 1, 1) := by decide +kernel
theorem dX3_pair_98 : decode cX3_pair 98 = .ok (.iastore, 1) := by decide +kernel
theorem dX3_pair_99 : decode cX3_pair 99 = .ok (.aload_n 0, 1) := by decide +kernel
theorem dX3_pair_100 : decode cX3_pair 100 = .ok (.getfield 45, 3) := by decide +kernel
theorem dX3_pair_103 : decode cX3_pair 103 = .ok (.iload 4, 2) := by decide +kernel
theorem dX3_pair_105 : decode cX3_pair 105 = .ok (.iload_n 2, 1) := by decide +kernel
theorem dX3_pair_106 : decode cX3_pair 106 = .ok (.iastore, 1) := by decide +kernel
theorem dX3_pair_107 : decode cX3_pair 107 = .ok (.aload_n 0, 1) := by decide +kernel
theorem dX3_pair_108 : decode cX3_pair 108 = .ok (.getfield 48, 3) := by decide +kernel
theorem dX3_pair_111 : decode cX3_pair 111 = .ok (.iload 4, 2) := by decide +kernel
theorem dX3_pair_113 : decode cX3_pair 113 = .ok (.aload_n 0, 1) := by decide +kernel
theorem dX3_pair_114 : decode cX3_pair 114 = .ok (.getfield 74, 3) := by decide +kernel
theorem dX3_pair_117 : decode cX3_pair 117 = .ok (.iastore, 1) := by decide +kernel
theorem dX3_pair_118 : decode cX3_pair 118 = .ok (.aload_n 0, 1) := by decide +kernel
theorem dX3_pair_119 : decode cX3_pair 119 = .ok (.dup, 1) := by decide +kernel
theorem dX3_pair_120 : decode cX3_pair 120 = .ok (.getfield 74, 3) := by decide +kernel
theorem dX3_pair_123 : decode cX3_pair 123 = .ok (.iconst 1, 1) := by decide +kernel
theorem dX3_pair_124 : decode cX3_pair 124 = .ok (.iadd, 1) := by decide +kernel
theorem dX3_pair_125 : decode cX3_pair 125 = .ok (.putfield 74, 3) := by decide +kernel
theorem dX3_pair_128 : decode cX3_pair 128 = .ok (.aload_n 0, 1) := by decide +kernel
theorem dX3_pair_129 : decode cX3_pair 129 = .ok (.getfield 36, 3) := by decide +kernel
theorem dX3_pair_132 : decode cX3_pair 132 = .ok (.iload_n 3, 1) := by decide +kernel
theorem dX3_pair_133 : decode cX3_pair 133 = .ok (.dup2, 1) := by decide +kernel
theorem dX3_pair_134 : decode cX3_pair 134 = .ok (.iaload, 1) := by decide +kernel
theorem dX3_pair_135 : decode cX3_pair 135 = .ok (.iconst 1, 1) := by decide +kernel
theorem dX3_pair_136 : decode cX3_pair 136 = .ok (.iadd, 1) := by decide +kernel
theorem dX3_pair_137 : decode cX3_pair 137 = .ok (.iastore, 1) := by decide +kernel
theorem dX3_pair_138 : decode cX3_pair 138 = .ok (.aload_n 0, 1) := by decide +kernel
theorem dX3_pair_139 : decode cX3_pair 139 = .ok (.getfield 48, 3) := by decide +kernel
theorem dX3_pair_142 : decode cX3_pair 142 = .ok (.iload 4, 2) := by decide +kernel
theorem dX3_pair_144 : decode cX3_pair 144 = .ok (.iaload, 1) := by decide +kernel
theorem dX3_pair_145 : decode cX3_pair 145 = .ok (.ireturn, 1) := by decide +kernel
theorem dX3_spread_0 : decode cX3_spread 0 = .ok (.iconst 0, 1) := by decide +kernel
theorem dX3_spread_1 : decode cX3_spread 1 = .ok (.istore_n 3, 1) := by decide +kernel
theorem dX3_spread_2 : decode cX3_spread 2 = .ok (.iconst 0, 1) := by decide +kernel
theorem dX3_spread_3 : decode cX3_spread 3 = .ok (.istore 4, 2) := by decide +kernel
theorem dX3_spread_5 : decode cX3_spread 5 = .ok (.iload 4, 2) := by decide +kernel
theorem dX3_spread_7 : decode cX3_spread 7 = .ok (.aload_n 0, 1) := by decide +kernel
theorem dX3_spread_8 : decode cX3_spread 8 = .ok (.getfield 55, 3) := by decide +kernel
theorem dX3_spread_11 : decode cX3_spread 11 = .ok (.if_icmp .ge 35, 3) := by decide +kernel
theorem dX3_spread_14 : decode cX3_spread 14 = .ok (.iload_n 1, 1) := by decide +kernel
theorem dX3_spread_15 : decode cX3_spread 15 = .ok (.aload_n 0, 1) := by decide +kernel
theorem dX3_spread_16 : decode cX3_spread 16 = .ok (.getfield 55, 3) := by decide +kernel
theorem dX3_spread_19 : decode cX3_spread 19 = .ok (.iconst 1, 1) := by decide +kernel
theorem dX3_spread_20 : decode cX3_spread 20 = .ok (.isub, 1) := by decide +kernel
theorem dX3_spread_21 : decode cX3_spread 21 = .ok (.iload 4, 2) := by decide +kernel
theorem dX3_spread_23 : decode cX3_spread 23 = .ok (.isub, 1) := by decide +kernel
theorem dX3_spread_24 : decode cX3_spread 24 = .ok (.ishr, 1) := by decide +kernel
theorem dX3_spread_25 : decode cX3_spread 25 = .ok (.iconst 1, 1) := by decide +kernel
theorem dX3_spread_26 : decode cX3_spread 26 = .ok (.iand, 1) := by decide +kernel
theorem dX3_spread_27 : decode cX3_spread 27 = .ok (.iconst 1, 1) := by decide +kernel
theorem dX3_spread_28 : decode cX3_spread 28 = .ok (.if_icmp .ne 12, 3) := by decide +kernel
theorem dX3_spread_31 : decode cX3_spread 31 = .ok (.iload_n 3, 1) := by decide +kernel
theorem dX3_spread_32 : decode cX3_spread 32 = .ok (.iconst 1, 1) := by decide +kernel
theorem dX3_spread_33 : decode cX3_spread 33 = .ok (.aload_n 2, 1) := by decide +kernel
theorem dX3_spread_34 : decode cX3_spread 34 = .ok (.iload 4, 2) := by decide +kernel
theorem dX3_spread_36 : decode cX3_spread 36 = .ok (.iaload, 1) := by decide +kernel
theorem dX3_spread_37 : decode cX3_spread 37 = .ok (.ishl, 1) := by decide +kernel
theorem dX3_spread_38 : decode cX3_spread 38 = .ok (.ior, 1) := by decide +kernel
theorem dX3_spread_39 : decode cX3_spread 39 = .ok (.istore_n 3, 1) := by decide +kernel
theorem dX3_spread_40 : decode cX3_spread 40 = .ok (.iinc 4 1, 3) := by decide +kernel
theorem dX3_spread_43 : decode cX3_spread 43 = .ok (.goto (-38), 3) := by decide +kernel
theorem dX3_spread_46 : decode cX3_spread 46 = .ok (.iload_n 3, 1) := by decide +kernel
theorem dX3_spread_47 : decode cX3_spread 47 = .ok (.ireturn, 1) := by decide +kernel
theorem dX3_forks_0 : decode cX3_forks 0 = .ok (.aload_n 0, 1) := by decide +kernel
theorem dX3_forks_1 : decode cX3_forks 1 = .ok (.iconst 2, 1) := by decide +kernel
theorem dX3_forks_2 : decode cX3_forks 2 = .ok (.putfield 74, 3) := by decide +kernel
theorem dX3_forks_5 : decode cX3_forks 5 = .ok (.iconst 0, 1) := by decide +kernel
theorem dX3_forks_6 : decode cX3_forks 6 = .ok (.istore 5, 2) := by decide +kernel
theorem dX3_forks_8 : decode cX3_forks 8 = .ok (.iload 5, 2) := by decide +kernel
theorem dX3_forks_10 : decode cX3_forks 10 = .ok (.aload_n 0, 1) := by decide +kernel
theorem dX3_forks_11 : decode cX3_forks 11 = .ok (.getfield 55, 3) := by decide +kernel
theorem dX3_forks_14 : decode cX3_forks 14 = .ok (.if_icmp .ge 17, 3) := by decide +kernel
theorem dX3_forks_17 : decode cX3_forks 17 = .ok (.aload_n 0, 1) := by decide +kernel
theorem dX3_forks_18 : decode cX3_forks 18 = .ok (.getfield 36, 3) := by decide +kernel
theorem dX3_forks_21 : decode cX3_forks 21 = .ok (.iload 5, 2) := by decide +kernel
theorem dX3_forks_23 : decode cX3_forks 23 = .ok (.iconst 0, 1) := by decide +kernel
theorem dX3_forks_24 : decode cX3_forks 24 = .ok (.iastore, 1) := by decide +kernel
theorem dX3_forks_25 : decode cX3_forks 25 = .ok (.iinc 5 1, 3) := by decide +kernel
theorem dX3_forks_28 : decode cX3_forks 28 = .ok (.goto (-20), 3) := by decide +kernel
theorem dX3_forks_31 : decode cX3_forks 31 = .ok (.iconst 0, 1) := by decide +kernel
theorem dX3_forks_32 : decode cX3_forks 32 = .ok (.istore 5, 2) := by decide +kernel
theorem dX3_forks_34 : decode cX3_forks 34 = .ok (.iload 5, 2) := by decide +kernel
theorem dX3_forks_36 : decode cX3_forks 36 = .ok (.aload_n 0, 1) := by decide +kernel
theorem dX3_forks_37 : decode cX3_forks 37 = .ok (.getfield 59, 3) := by decide +kernel
theorem dX3_forks_40 : decode cX3_forks 40 = .ok (.if_icmp .ge 83, 3) := by decide +kernel
theorem dX3_forks_43 : decode cX3_forks 43 = .ok (.aload_n 0, 1) := by decide +kernel
theorem dX3_forks_44 : decode cX3_forks 44 = .ok (.iload 5, 2) := by decide +kernel
theorem dX3_forks_46 : decode cX3_forks 46 = .ok (.aload 4, 2) := by decide +kernel
theorem dX3_forks_48 : decode cX3_forks 48 = .ok (.invokevirtual 77, 3) := by decide +kernel
theorem dX3_forks_51 : decode cX3_forks 51 = .ok (.istore 6, 2) := by decide +kernel
theorem dX3_forks_53 : decode cX3_forks 53 = .ok (.iload_n 1, 1) := by decide +kernel
theorem dX3_forks_54 : decode cX3_forks 54 = .ok (.istore 7, 2) := by decide +kernel
theorem dX3_forks_56 : decode cX3_forks 56 = .ok (.iload 7, 2) := by decide +kernel
theorem dX3_forks_58 : decode cX3_forks 58 = .ok (.iload_n 2, 1) := by decide +kernel
theorem dX3_forks_59 : decode cX3_forks 59 = .ok (.if_icmp .ge 58, 3) := by decide +kernel
theorem dX3_forks_62 : decode cX3_forks 62 = .ok (.aload_n 0, 1) := by decide +kernel
theorem dX3_forks_63 : decode cX3_forks 63 = .ok (.getfield 30, 3) := by decide +kernel
theorem dX3_forks_66 : decode cX3_forks 66 = .ok (.sipush 4096, 3) := by decide +kernel
theorem dX3_forks_69 : decode cX3_forks 69 = .ok (.iload 7, 2) := by decide +kernel
theorem dX3_forks_71 : decode cX3_forks 71 = .ok (.imul, 1) := by decide +kernel
theorem dX3_forks_72 : decode cX3_forks 72 = .ok (.iload 5, 2) := by decide +kernel
theorem dX3_forks_74 : decode cX3_forks 74 = .ok (.iadd, 1) := by decide +kernel
theorem dX3_forks_75 : decode cX3_forks 75 = .ok (.iload 7, 2) := by decide +kernel
theorem dX3_forks_77 : decode cX3_forks 77 = .ok (.iload_n 3, 1) := by decide +kernel
theorem dX3_forks_78 : decode cX3_forks 78 = .ok (.if_icmp .ne 16, 3) := by decide +kernel
theorem dX3_forks_81 : decode cX3_forks 81 = .ok (.aload_n 0, 1) := by decide +kernel
theorem dX3_forks_82 : decode cX3_forks 82 = .ok (.getfield 14, 3) := by decide +kernel
theorem dX3_forks_85 : decode cX3_forks 85 = .ok (.iload 6, 2) := by decide +kernel
theorem dX3_forks_87 : decode cX3_forks 87 = .ok (.baload, 1) := by decide +kernel
theorem dX3_forks_88 : decode cX3_forks 88 = .ok (.ifCond .eq 21, 3) := by decide +kernel
theorem dX3_forks_91 : decode cX3_forks 91 = .ok (.goto 14, 3) := by decide +kernel
theorem dX3_forks_94 : decode cX3_forks 94 = .ok (.aload_n 0, 1) := by decide +kernel
theorem dX3_forks_95 : decode cX3_forks 95 = .ok (.iload 7, 2) := by decide +kernel
theorem dX3_forks_97 : decode cX3_forks 97 = .ok (.iload 6, 2) := by decide +kernel
theorem dX3_forks_99 : decode cX3_forks 99 = .ok (.invokevirtual 81, 3) := by decide +kernel
theorem dX3_forks_102 : decode cX3_forks 102 = .ok (.ifCond .eq 7, 3) := by decide +kernel
theorem dX3_forks_105 : decode cX3_forks 105 = .ok (.iconst 1, 1) := by decide +kernel
theorem dX3_forks_106 : decode cX3_forks 106 = .ok (.goto 4, 3) := by decide +kernel
theorem dX3_forks_109 : decode cX3_forks 109 = .ok (.iconst 0, 1) := by decide +kernel
theorem dX3_forks_110 : decode cX3_forks 110 = .ok (.iastore, 1) := by decide +kernel
theorem dX3_forks_111 : decode cX3_forks 111 = .ok (.iinc 7 1, 3) := by decide +kernel
theorem dX3_forks_114 : decode cX3_forks 114 = .ok (.goto (-58), 3) := by decide +kernel
theorem dX3_forks_117 : decode cX3_forks 117 = .ok (.iinc 5 1, 3) := by decide +kernel
theorem dX3_forks_120 : decode cX3_forks 120 = .ok (.goto (-86), 3) := by decide +kernel
theorem dX3_forks_123 : decode cX3_forks 123 = .ok (.aload_n 0, 1) := by decide +kernel
theorem dX3_forks_124 : decode cX3_forks 124 = .ok (.getfield 55, 3) := by decide +kernel
theorem dX3_forks_127 : decode cX3_forks 127 = .ok (.iconst 1, 1) := by decide +kernel
theorem dX3_forks_128 : decode cX3_forks 128 = .ok (.isub, 1) := by decide +kernel
theorem dX3_forks_129 : decode cX3_forks 129 = .ok (.istore 5, 2) := by decide +kernel
theorem dX3_forks_131 : decode cX3_forks 131 = .ok (.iload 5, 2) := by decide +kernel
theorem dX3_forks_133 : decode cX3_forks 133 = .ok (.ifCond .lt 152, 3) := by decide +kernel
theorem dX3_forks_136 : decode cX3_forks 136 = .ok (.aload_n 0, 1) := by decide +kernel
theorem dX3_forks_137 : decode cX3_forks 137 = .ok (.dup, 1) := by decide +kernel
theorem dX3_forks_138 : decode cX3_forks 138 = .ok (.getfield 71, 3) := by decide +kernel
theorem dX3_forks_141 : decode cX3_forks 141 = .ok (.iconst 1, 1) := by decide +kernel
theorem dX3_forks_142 : decode cX3_forks 142 = .ok (.iadd, 1) := by decide +kernel
theorem dX3_forks_143 : decode cX3_forks 143 = .ok (.putfield 71, 3) := by decide +kernel
theorem dX3_forks_146 : decode cX3_forks 146 = .ok (.iload_n 1, 1) := by decide +kernel
theorem dX3_forks_147 : decode cX3_forks 147 = .ok (.istore 6, 2) := by decide +kernel
theorem dX3_forks_149 : decode cX3_forks 149 = .ok (.iload 6, 2) := by decide +kernel
theorem dX3_forks_151 : decode cX3_forks 151 = .ok (.iload_n 2, 1) := by decide +kernel
theorem dX3_forks_152 : decode cX3_forks 152 = .ok (.if_icmp .ge 127, 3) := by decide +kernel
theorem dX3_forks_155 : decode cX3_forks 155 = .ok (.iconst 0, 1) := by decide +kernel
theorem dX3_forks_156 : decode cX3_forks 156 = .ok (.istore 7, 2) := by decide +kernel
theorem dX3_forks_158 : decode cX3_forks 158 = .ok (.iload 7, 2) := by decide +kernel
theorem dX3_forks_160 : decode cX3_forks 160 = .ok (.iconst 1, 1) := by decide +kernel
theorem dX3_forks_161 : decode cX3_forks 161 = .ok (.iload 5, 2) := by decide +kernel
theorem dX3_forks_163 : decode cX3_forks 163 = .ok (.ishl, 1) := by decide +kernel
theorem dX3_forks_164 : decode cX3_forks 164 = .ok (.if_icmp .ge 63, 3) := by decide +kernel
theorem dX3_forks_167 : decode cX3_forks 167 = .ok (.aload_n 0, 1) := by decide +kernel
theorem dX3_forks_168 : decode cX3_forks 168 = .ok (.getfield 33, 3) := by decide +kernel
theorem dX3_forks_171 : decode cX3_forks 171 = .ok (.sipush 4096, 3) := by decide +kernel
theorem dX3_forks_174 : decode cX3_forks 174 = .ok (.iload 6, 2) := by decide +kernel
theorem dX3_forks_176 : decode cX3_forks 176 = .ok (.imul, 1) := by decide +kernel
theorem dX3_forks_177 : decode cX3_forks 177 = .ok (.iload 7, 2) := by decide +kernel
theorem dX3_forks_179 : decode cX3_forks 179 = .ok (.iadd, 1) := by decide +kernel
theorem dX3_forks_180 : decode cX3_forks 180 = .ok (.aload_n 0, 1) := by decide +kernel
theorem dX3_forks_181 : decode cX3_forks 181 = .ok (.aload_n 0, 1) := by decide +kernel
theorem dX3_forks_182 : decode cX3_forks 182 = .ok (.getfield 30, 3) := by decide +kernel
theorem dX3_forks_185 : decode cX3_forks 185 = .ok (.sipush 4096, 3) := by decide +kernel
theorem dX3_forks_188 : decode cX3_forks 188 = .ok (.iload 6, 2) := by decide +kernel
theorem dX3_forks_190 : decode cX3_forks 190 = .ok (.imul, 1) := by decide +kernel
theorem dX3_forks_191 : decode cX3_forks 191 = .ok (.iconst 2, 1) := by decide +kernel
theorem dX3_forks_192 : decode cX3_forks 192 = .ok (.iload 7, 2) := by decide +kernel
theorem dX3_forks_194 : decode cX3_forks 194 = .ok (.imul, 1) := by decide +kernel
theorem dX3_forks_195 : decode cX3_forks 195 = .ok (.iadd, 1) := by decide +kernel
theorem dX3_forks_196 : decode cX3_forks 196 = .ok (.iaload, 1) := by decide +kernel
theorem dX3_forks_197 : decode cX3_forks 197 = .ok (.aload_n 0, 1) := by decide +kernel
theorem dX3_forks_198 : decode cX3_forks 198 = .ok (.getfield 30, 3) := by decide +kernel
theorem dX3_forks_201 : decode cX3_forks 201 = .ok (.sipush 4096, 3) := by decide +kernel
theorem dX3_forks_204 : decode cX3_forks 204 = .ok (.iload 6, 2) := by decide +kernel
theorem dX3_forks_206 : decode cX3_forks 206 = .ok (.imul, 1) := by decide +kernel
theorem dX3_forks_207 : decode cX3_forks 207 = .ok (.iconst 2, 1) := by decide +kernel
theorem dX3_forks_208 : decode cX3_forks 208 = .ok (.iload 7, 2) := by decide +kernel
theorem dX3_forks_210 : decode cX3_forks 210 = .ok (.imul, 1) := by decide +kernel
theorem dX3_forks_211 : decode cX3_forks 211 = .ok (.iadd, 1) := by decide +kernel
theorem dX3_forks_212 : decode cX3_forks 212 = .ok (.iconst 1, 1) := by decide +kernel
theorem dX3_forks_213 : decode cX3_forks 213 = .ok (.iadd, 1) := by decide +kernel
theorem dX3_forks_214 : decode cX3_forks 214 = .ok (.iaload, 1) := by decide +kernel
theorem dX3_forks_215 : decode cX3_forks 215 = .ok (.iload 5, 2) := by decide +kernel
theorem dX3_forks_217 : decode cX3_forks 217 = .ok (.invokevirtual 84, 3) := by decide +kernel
theorem dX3_forks_220 : decode cX3_forks 220 = .ok (.iastore, 1) := by decide +kernel
theorem dX3_forks_221 : decode cX3_forks 221 = .ok (.iinc 7 1, 3) := by decide +kernel
theorem dX3_forks_224 : decode cX3_forks 224 = .ok (.goto (-66), 3) := by decide +kernel
theorem dX3_forks_227 : decode cX3_forks 227 = .ok (.iconst 0, 1) := by decide +kernel
theorem dX3_forks_228 : decode cX3_forks 228 = .ok (.istore 7, 2) := by decide +kernel
theorem dX3_forks_230 : decode cX3_forks 230 = .ok (.iload 7, 2) := by decide +kernel
theorem dX3_forks_232 : decode cX3_forks 232 = .ok (.iconst 1, 1) := by decide +kernel
theorem dX3_forks_233 : decode cX3_forks 233 = .ok (.iload 5, 2) := by decide +kernel
theorem dX3_forks_235 : decode cX3_forks 235 = .ok (.ishl, 1) := by decide +kernel
theorem dX3_forks_236 : decode cX3_forks 236 = .ok (.if_icmp .ge 37, 3) := by decide +kernel
theorem dX3_forks_239 : decode cX3_forks 239 = .ok (.aload_n 0, 1) := by decide +kernel
theorem dX3_forks_240 : decode cX3_forks 240 = .ok (.getfield 30, 3) := by decide +kernel
theorem dX3_forks_243 : decode cX3_forks 243 = .ok (.sipush 4096, 3) := by decide +kernel
theorem dX3_forks_246 : decode cX3_forks 246 = .ok (.iload 6, 2) := by decide +kernel
theorem dX3_forks_248 : decode cX3_forks 248 = .ok (.imul, 1) := by decide +kernel
theorem dX3_forks_249 : decode cX3_forks 249 = .ok (.iload 7, 2) := by decide +kernel
theorem dX3_forks_251 : decode cX3_forks 251 = .ok (.iadd, 1) := by decide +kernel
theorem dX3_forks_252 : decode cX3_forks 252 = .ok (.aload_n 0, 1) := by decide +kernel
theorem dX3_forks_253 : decode cX3_forks 253 = .ok (.getfield 33, 3) := by decide +kernel
theorem dX3_forks_256 : decode cX3_forks 256 = .ok (.sipush 4096, 3) := by decide +kernel
theorem dX3_forks_259 : decode cX3_forks 259 = .ok (.iload 6, 2) := by decide +kernel
theorem dX3_forks_261 : decode cX3_forks 261 = .ok (.imul, 1) := by decide +kernel
theorem dX3_forks_262 : decode cX3_forks 262 = .ok (.iload 7, 2) := by decide +kernel
theorem dX3_forks_264 : decode cX3_forks 264 = .ok (.iadd, 1) := by decide +kernel
theorem dX3_forks_265 : decode cX3_forks 265 = .ok (.iaload, 1) := by decide +kernel
theorem dX3_forks_266 : decode cX3_forks 266 = .ok (.iastore, 1) := by decide +kernel
theorem dX3_forks_267 : decode cX3_forks 267 = .ok (.iinc 7 1, 3) := by decide +kernel
theorem dX3_forks_270 : decode cX3_forks 270 = .ok (.goto (-40), 3) := by decide +kernel
theorem dX3_forks_273 : decode cX3_forks 273 = .ok (.iinc 6 1, 3) := by decide +kernel
theorem dX3_forks_276 : decode cX3_forks 276 = .ok (.goto (-127), 3) := by decide +kernel
theorem dX3_forks_279 : decode cX3_forks 279 = .ok (.iinc 5 (-1), 3) := by decide +kernel
theorem dX3_forks_282 : decode cX3_forks 282 = .ok (.goto (-151), 3) := by decide +kernel
theorem dX3_forks_285 : decode cX3_forks 285 = .ok (.aload_n 0, 1) := by decide +kernel
theorem dX3_forks_286 : decode cX3_forks 286 = .ok (.getfield 74, 3) := by decide +kernel
theorem dX3_forks_289 : decode cX3_forks 289 = .ok (.iconst 2, 1) := by decide +kernel
theorem dX3_forks_290 : decode cX3_forks 290 = .ok (.isub, 1) := by decide +kernel
theorem dX3_forks_291 : decode cX3_forks 291 = .ok (.ireturn, 1) := by decide +kernel
theorem dX3_puts_0 : decode cX3_puts 0 = .ok (.aload_n 0, 1) := by decide +kernel
theorem dX3_puts_1 : decode cX3_puts 1 = .ok (.iconst 0, 1) := by decide +kernel
theorem dX3_puts_2 : decode cX3_puts 2 = .ok (.bipush 32, 2) := by decide +kernel
theorem dX3_puts_4 : decode cX3_puts 4 = .ok (.iload_n 1, 1) := by decide +kernel
theorem dX3_puts_5 : decode cX3_puts 5 = .ok (.aload_n 0, 1) := by decide +kernel
theorem dX3_puts_6 : decode cX3_puts 6 = .ok (.getfield 24, 3) := by decide +kernel
theorem dX3_puts_9 : decode cX3_puts 9 = .ok (.invokevirtual 88, 3) := by decide +kernel
theorem dX3_puts_12 : decode cX3_puts 12 = .ok (.aload_n 0, 1) := by decide +kernel
theorem dX3_puts_13 : decode cX3_puts 13 = .ok (.getfield 62, 3) := by decide +kernel
theorem dX3_puts_16 : decode cX3_puts 16 = .ok (.if_icmp .le 6, 3) := by decide +kernel
theorem dX3_puts_19 : decode cX3_puts 19 = .ok (.bipush (-8), 2) := by decide +kernel
theorem dX3_puts_21 : decode cX3_puts 21 = .ok (.ireturn, 1) := by decide +kernel
theorem dX3_puts_22 : decode cX3_puts 22 = .ok (.iconst 0, 1) := by decide +kernel
theorem dX3_puts_23 : decode cX3_puts 23 = .ok (.istore_n 2, 1) := by decide +kernel
theorem dX3_puts_24 : decode cX3_puts 24 = .ok (.iload_n 2, 1) := by decide +kernel
theorem dX3_puts_25 : decode cX3_puts 25 = .ok (.aload_n 0, 1) := by decide +kernel
theorem dX3_puts_26 : decode cX3_puts 26 = .ok (.getfield 59, 3) := by decide +kernel
theorem dX3_puts_29 : decode cX3_puts 29 = .ok (.if_icmp .ge 27, 3) := by decide +kernel
theorem dX3_puts_32 : decode cX3_puts 32 = .ok (.aload_n 0, 1) := by decide +kernel
theorem dX3_puts_33 : decode cX3_puts 33 = .ok (.getfield 10, 3) := by decide +kernel
theorem dX3_puts_36 : decode cX3_puts 36 = .ok (.sipush 4096, 3) := by decide +kernel
theorem dX3_puts_39 : decode cX3_puts 39 = .ok (.iload_n 1, 1) := by decide +kernel
theorem dX3_puts_40 : decode cX3_puts 40 = .ok (.imul, 1) := by decide +kernel
theorem dX3_puts_41 : decode cX3_puts 41 = .ok (.iload_n 2, 1) := by decide +kernel
theorem dX3_puts_42 : decode cX3_puts 42 = .ok (.iadd, 1) := by decide +kernel
theorem dX3_puts_43 : decode cX3_puts 43 = .ok (.aload_n 0, 1) := by decide +kernel
theorem dX3_puts_44 : decode cX3_puts 44 = .ok (.getfield 14, 3) := by decide +kernel
theorem dX3_puts_47 : decode cX3_puts 47 = .ok (.iload_n 2, 1) := by decide +kernel
theorem dX3_puts_48 : decode cX3_puts 48 = .ok (.baload, 1) := by decide +kernel
theorem dX3_puts_49 : decode cX3_puts 49 = .ok (.bastore, 1) := by decide +kernel
theorem dX3_puts_50 : decode cX3_puts 50 = .ok (.iinc 2 1, 3) := by decide +kernel
theorem dX3_puts_53 : decode cX3_puts 53 = .ok (.goto (-29), 3) := by decide +kernel
theorem dX3_puts_56 : decode cX3_puts 56 = .ok (.aload_n 0, 1) := by decide +kernel
theorem dX3_puts_57 : decode cX3_puts 57 = .ok (.invokevirtual 65, 3) := by decide +kernel
theorem dX3_puts_60 : decode cX3_puts 60 = .ok (.ireturn, 1) := by decide +kernel
theorem dX3_constant_0 : decode cX3_constant 0 = .ok (.aload_n 0, 1) := by decide +kernel
theorem dX3_constant_1 : decode cX3_constant 1 = .ok (.iload_n 1, 1) := by decide +kernel
theorem dX3_constant_2 : decode cX3_constant 2 = .ok (.invokevirtual 92, 3) := by decide +kernel
theorem dX3_constant_5 : decode cX3_constant 5 = .ok (.ifCond .ne 6, 3) := by decide +kernel
theorem dX3_constant_8 : decode cX3_constant 8 = .ok (.bipush (-2), 2) := by decide +kernel
theorem dX3_constant_10 : decode cX3_constant 10 = .ok (.ireturn, 1) := by decide +kernel
theorem dX3_constant_11 : decode cX3_constant 11 = .ok (.iconst 0, 1) := by decide +kernel
theorem dX3_constant_12 : decode cX3_constant 12 = .ok (.istore_n 3, 1) := by decide +kernel
theorem dX3_constant_13 : decode cX3_constant 13 = .ok (.iload_n 3, 1) := by decide +kernel
theorem dX3_constant_14 : decode cX3_constant 14 = .ok (.aload_n 0, 1) := by decide +kernel
theorem dX3_constant_15 : decode cX3_constant 15 = .ok (.getfield 59, 3) := by decide +kernel
theorem dX3_constant_18 : decode cX3_constant 18 = .ok (.if_icmp .ge 22, 3) := by decide +kernel
theorem dX3_constant_21 : decode cX3_constant 21 = .ok (.aload_n 0, 1) := by decide +kernel
theorem dX3_constant_22 : decode cX3_constant 22 = .ok (.getfield 10, 3) := by decide +kernel
theorem dX3_constant_25 : decode cX3_constant 25 = .ok (.sipush 4096, 3) := by decide +kernel
theorem dX3_constant_28 : decode cX3_constant 28 = .ok (.iload_n 1, 1) := by decide +kernel
theorem dX3_constant_29 : decode cX3_constant 29 = .ok (.imul, 1) := by decide +kernel
theorem dX3_constant_30 : decode cX3_constant 30 = .ok (.iload_n 3, 1) := by decide +kernel
theorem dX3_constant_31 : decode cX3_constant 31 = .ok (.iadd, 1) := by decide +kernel
theorem dX3_constant_32 : decode cX3_constant 32 = .ok (.iload_n 2, 1) := by decide +kernel
theorem dX3_constant_33 : decode cX3_constant 33 = .ok (.bastore, 1) := by decide +kernel
theorem dX3_constant_34 : decode cX3_constant 34 = .ok (.iinc 3 1, 3) := by decide +kernel
theorem dX3_constant_37 : decode cX3_constant 37 = .ok (.goto (-24), 3) := by decide +kernel
theorem dX3_constant_40 : decode cX3_constant 40 = .ok (.aload_n 0, 1) := by decide +kernel
theorem dX3_constant_41 : decode cX3_constant 41 = .ok (.invokevirtual 65, 3) := by decide +kernel
theorem dX3_constant_44 : decode cX3_constant 44 = .ok (.ireturn, 1) := by decide +kernel
theorem dX3_letter_0 : decode cX3_letter 0 = .ok (.aload_n 0, 1) := by decide +kernel
theorem dX3_letter_1 : decode cX3_letter 1 = .ok (.iload_n 1, 1) := by decide +kernel
theorem dX3_letter_2 : decode cX3_letter 2 = .ok (.invokevirtual 92, 3) := by decide +kernel
theorem dX3_letter_5 : decode cX3_letter 5 = .ok (.ifCond .eq 11, 3) := by decide +kernel
theorem dX3_letter_8 : decode cX3_letter 8 = .ok (.aload_n 0, 1) := by decide +kernel
theorem dX3_letter_9 : decode cX3_letter 9 = .ok (.iload_n 2, 1) := by decide +kernel
theorem dX3_letter_10 : decode cX3_letter 10 = .ok (.invokevirtual 96, 3) := by decide +kernel
theorem dX3_letter_13 : decode cX3_letter 13 = .ok (.ifCond .ne 6, 3) := by decide +kernel
theorem dX3_letter_16 : decode cX3_letter 16 = .ok (.bipush (-2), 2) := by decide +kernel
theorem dX3_letter_18 : decode cX3_letter 18 = .ok (.ireturn, 1) := by decide +kernel
theorem dX3_letter_19 : decode cX3_letter 19 = .ok (.iconst 0, 1) := by decide +kernel
theorem dX3_letter_20 : decode cX3_letter 20 = .ok (.istore_n 3, 1) := by decide +kernel
theorem dX3_letter_21 : decode cX3_letter 21 = .ok (.iload_n 3, 1) := by decide +kernel
theorem dX3_letter_22 : decode cX3_letter 22 = .ok (.aload_n 0, 1) := by decide +kernel
theorem dX3_letter_23 : decode cX3_letter 23 = .ok (.getfield 59, 3) := by decide +kernel
theorem dX3_letter_26 : decode cX3_letter 26 = .ok (.if_icmp .ge 29, 3) := by decide +kernel
theorem dX3_letter_29 : decode cX3_letter 29 = .ok (.aload_n 0, 1) := by decide +kernel
theorem dX3_letter_30 : decode cX3_letter 30 = .ok (.getfield 14, 3) := by decide +kernel
theorem dX3_letter_33 : decode cX3_letter 33 = .ok (.iload_n 3, 1) := by decide +kernel
theorem dX3_letter_34 : decode cX3_letter 34 = .ok (.iload_n 3, 1) := by decide +kernel
theorem dX3_letter_35 : decode cX3_letter 35 = .ok (.iload_n 2, 1) := by decide +kernel
theorem dX3_letter_36 : decode cX3_letter 36 = .ok (.ishr, 1) := by decide +kernel
theorem dX3_letter_37 : decode cX3_letter 37 = .ok (.iconst 1, 1) := by decide +kernel
theorem dX3_letter_38 : decode cX3_letter 38 = .ok (.iand, 1) := by decide +kernel
theorem dX3_letter_39 : decode cX3_letter 39 = .ok (.iconst 1, 1) := by decide +kernel
theorem dX3_letter_40 : decode cX3_letter 40 = .ok (.if_icmp .ne 7, 3) := by decide +kernel
theorem dX3_letter_43 : decode cX3_letter 43 = .ok (.iconst 1, 1) := by decide +kernel
theorem dX3_letter_44 : decode cX3_letter 44 = .ok (.goto 4, 3) := by decide +kernel
theorem dX3_letter_47 : decode cX3_letter 47 = .ok (.iconst 0, 1) := by decide +kernel
theorem dX3_letter_48 : decode cX3_letter 48 = .ok (.bastore, 1) := by decide +kernel
theorem dX3_letter_49 : decode cX3_letter 49 = .ok (.iinc 3 1, 3) := by decide +kernel
theorem dX3_letter_52 : decode cX3_letter 52 = .ok (.goto (-31), 3) := by decide +kernel
theorem dX3_letter_55 : decode cX3_letter 55 = .ok (.aload_n 0, 1) := by decide +kernel
theorem dX3_letter_56 : decode cX3_letter 56 = .ok (.iload_n 1, 1) := by decide +kernel
theorem dX3_letter_57 : decode cX3_letter 57 = .ok (.invokevirtual 99, 3) := by decide +kernel
theorem dX3_letter_60 : decode cX3_letter 60 = .ok (.ireturn, 1) := by decide +kernel
theorem dX3_join_0 : decode cX3_join 0 = .ok (.aload_n 0, 1) := by decide +kernel
theorem dX3_join_1 : decode cX3_join 1 = .ok (.iload_n 1, 1) := by decide +kernel
theorem dX3_join_2 : decode cX3_join 2 = .ok (.invokevirtual 92, 3) := by decide +kernel
theorem dX3_join_5 : decode cX3_join 5 = .ok (.ifCond .eq 31, 3) := by decide +kernel
theorem dX3_join_8 : decode cX3_join 8 = .ok (.aload_n 0, 1) := by decide +kernel
theorem dX3_join_9 : decode cX3_join 9 = .ok (.iload_n 2, 1) := by decide +kernel
theorem dX3_join_10 : decode cX3_join 10 = .ok (.invokevirtual 92, 3) := by decide +kernel
theorem dX3_join_13 : decode cX3_join 13 = .ok (.ifCond .eq 23, 3) := by decide +kernel
theorem dX3_join_16 : decode cX3_join 16 = .ok (.aload_n 0, 1) := by decide +kernel
theorem dX3_join_17 : decode cX3_join 17 = .ok (.iload_n 3, 1) := by decide +kernel
theorem dX3_join_18 : decode cX3_join 18 = .ok (.invokevirtual 92, 3) := by decide +kernel
theorem dX3_join_21 : decode cX3_join 21 = .ok (.ifCond .eq 15, 3) := by decide +kernel
theorem dX3_join_24 : decode cX3_join 24 = .ok (.iload 4, 2) := by decide +kernel
theorem dX3_join_26 : decode cX3_join 26 = .ok (.ifCond .lt 10, 3) := by decide +kernel
theorem dX3_join_29 : decode cX3_join 29 = .ok (.iload 4, 2) := by decide +kernel
theorem dX3_join_31 : decode cX3_join 31 = .ok (.bipush 15, 2) := by decide +kernel
theorem dX3_join_33 : decode cX3_join 33 = .ok (.if_icmp .le 6, 3) := by decide +kernel
theorem dX3_join_36 : decode cX3_join 36 = .ok (.bipush (-2), 2) := by decide +kernel
theorem dX3_join_38 : decode cX3_join 38 = .ok (.ireturn, 1) := by decide +kernel
theorem dX3_join_39 : decode cX3_join 39 = .ok (.iconst 0, 1) := by decide +kernel
theorem dX3_join_40 : decode cX3_join 40 = .ok (.istore 5, 2) := by decide +kernel
theorem dX3_join_42 : decode cX3_join 42 = .ok (.iload 5, 2) := by decide +kernel
theorem dX3_join_44 : decode cX3_join 44 = .ok (.aload_n 0, 1) := by decide +kernel
theorem dX3_join_45 : decode cX3_join 45 = .ok (.getfield 59, 3) := by decide +kernel
theorem dX3_join_48 : decode cX3_join 48 = .ok (.if_icmp .ge 61, 3) := by decide +kernel
theorem dX3_join_51 : decode cX3_join 51 = .ok (.aload_n 0, 1) := by decide +kernel
theorem dX3_join_52 : decode cX3_join 52 = .ok (.getfield 14, 3) := by decide +kernel
theorem dX3_join_55 : decode cX3_join 55 = .ok (.iload 5, 2) := by decide +kernel
theorem dX3_join_57 : decode cX3_join 57 = .ok (.iload 4, 2) := by decide +kernel
theorem dX3_join_59 : decode cX3_join 59 = .ok (.aload_n 0, 1) := by decide +kernel
theorem dX3_join_60 : decode cX3_join 60 = .ok (.iload_n 2, 1) := by decide +kernel
theorem dX3_join_61 : decode cX3_join 61 = .ok (.iload 5, 2) := by decide +kernel
theorem dX3_join_63 : decode cX3_join 63 = .ok (.invokevirtual 81, 3) := by decide +kernel
theorem dX3_join_66 : decode cX3_join 66 = .ok (.ifCond .eq 7, 3) := by decide +kernel
theorem dX3_join_69 : decode cX3_join 69 = .ok (.iconst 1, 1) := by decide +kernel
theorem dX3_join_70 : decode cX3_join 70 = .ok (.goto 4, 3) := by decide +kernel
theorem dX3_join_73 : decode cX3_join 73 = .ok (.iconst 0, 1) := by decide +kernel
theorem dX3_join_74 : decode cX3_join 74 = .ok (.aload_n 0, 1) := by decide +kernel
theorem dX3_join_75 : decode cX3_join 75 = .ok (.iload_n 3, 1) := by decide +kernel
theorem dX3_join_76 : decode cX3_join 76 = .ok (.iload 5, 2) := by decide +kernel
theorem dX3_join_78 : decode cX3_join 78 = .ok (.invokevirtual 81, 3) := by decide +kernel
theorem dX3_join_81 : decode cX3_join 81 = .ok (.ifCond .eq 7, 3) := by decide +kernel
theorem dX3_join_84 : decode cX3_join 84 = .ok (.iconst 2, 1) := by decide +kernel
theorem dX3_join_85 : decode cX3_join 85 = .ok (.goto 4, 3) := by decide +kernel
theorem dX3_join_88 : decode cX3_join 88 = .ok (.iconst 0, 1) := by decide +kernel
theorem dX3_join_89 : decode cX3_join 89 = .ok (.iadd, 1) := by decide +kernel
theorem dX3_join_90 : decode cX3_join 90 = .ok (.ishr, 1) := by decide +kernel
theorem dX3_join_91 : decode cX3_join 91 = .ok (.iconst 1, 1) := by decide +kernel
theorem dX3_join_92 : decode cX3_join 92 = .ok (.iand, 1) := by decide +kernel
theorem dX3_join_93 : decode cX3_join 93 = .ok (.iconst 1, 1) := by decide +kernel
theorem dX3_join_94 : decode cX3_join 94 = .ok (.if_icmp .ne 7, 3) := by decide +kernel
theorem dX3_join_97 : decode cX3_join 97 = .ok (.iconst 1, 1) := by decide +kernel
theorem dX3_join_98 : decode cX3_join 98 = .ok (.goto 4, 3) := by decide +kernel
theorem dX3_join_101 : decode cX3_join 101 = .ok (.iconst 0, 1) := by decide +kernel
theorem dX3_join_102 : decode cX3_join 102 = .ok (.bastore, 1) := by decide +kernel
theorem dX3_join_103 : decode cX3_join 103 = .ok (.iinc 5 1, 3) := by decide +kernel
theorem dX3_join_106 : decode cX3_join 106 = .ok (.goto (-64), 3) := by decide +kernel
theorem dX3_join_109 : decode cX3_join 109 = .ok (.aload_n 0, 1) := by decide +kernel
theorem dX3_join_110 : decode cX3_join 110 = .ok (.iload_n 1, 1) := by decide +kernel
theorem dX3_join_111 : decode cX3_join 111 = .ok (.invokevirtual 99, 3) := by decide +kernel
theorem dX3_join_114 : decode cX3_join 114 = .ok (.ireturn, 1) := by decide +kernel
theorem dX3_fork_0 : decode cX3_fork 0 = .ok (.aload_n 0, 1) := by decide +kernel
theorem dX3_fork_1 : decode cX3_fork 1 = .ok (.iload_n 1, 1) := by decide +kernel
theorem dX3_fork_2 : decode cX3_fork 2 = .ok (.invokevirtual 92, 3) := by decide +kernel
theorem dX3_fork_5 : decode cX3_fork 5 = .ok (.ifCond .eq 28, 3) := by decide +kernel
theorem dX3_fork_8 : decode cX3_fork 8 = .ok (.aload_n 0, 1) := by decide +kernel
theorem dX3_fork_9 : decode cX3_fork 9 = .ok (.iload_n 2, 1) := by decide +kernel
theorem dX3_fork_10 : decode cX3_fork 10 = .ok (.invokevirtual 92, 3) := by decide +kernel
theorem dX3_fork_13 : decode cX3_fork 13 = .ok (.ifCond .eq 20, 3) := by decide +kernel
theorem dX3_fork_16 : decode cX3_fork 16 = .ok (.aload_n 0, 1) := by decide +kernel
theorem dX3_fork_17 : decode cX3_fork 17 = .ok (.iload_n 3, 1) := by decide +kernel
theorem dX3_fork_18 : decode cX3_fork 18 = .ok (.invokevirtual 92, 3) := by decide +kernel
theorem dX3_fork_21 : decode cX3_fork 21 = .ok (.ifCond .eq 12, 3) := by decide +kernel
theorem dX3_fork_24 : decode cX3_fork 24 = .ok (.aload_n 0, 1) := by decide +kernel
theorem dX3_fork_25 : decode cX3_fork 25 = .ok (.iload 4, 2) := by decide +kernel
theorem dX3_fork_27 : decode cX3_fork 27 = .ok (.invokevirtual 92, 3) := by decide +kernel
theorem dX3_fork_30 : decode cX3_fork 30 = .ok (.ifCond .ne 6, 3) := by decide +kernel
theorem dX3_fork_33 : decode cX3_fork 33 = .ok (.bipush (-2), 2) := by decide +kernel
theorem dX3_fork_35 : decode cX3_fork 35 = .ok (.ireturn, 1) := by decide +kernel
theorem dX3_fork_36 : decode cX3_fork 36 = .ok (.iconst 0, 1) := by decide +kernel
theorem dX3_fork_37 : decode cX3_fork 37 = .ok (.istore 5, 2) := by decide +kernel
theorem dX3_fork_39 : decode cX3_fork 39 = .ok (.iload 5, 2) := by decide +kernel
theorem dX3_fork_41 : decode cX3_fork 41 = .ok (.aload_n 0, 1) := by decide +kernel
theorem dX3_fork_42 : decode cX3_fork 42 = .ok (.getfield 59, 3) := by decide +kernel
theorem dX3_fork_45 : decode cX3_fork 45 = .ok (.if_icmp .ge 44, 3) := by decide +kernel
theorem dX3_fork_48 : decode cX3_fork 48 = .ok (.aload_n 0, 1) := by decide +kernel
theorem dX3_fork_49 : decode cX3_fork 49 = .ok (.getfield 14, 3) := by decide +kernel
theorem dX3_fork_52 : decode cX3_fork 52 = .ok (.iload 5, 2) := by decide +kernel
theorem dX3_fork_54 : decode cX3_fork 54 = .ok (.aload_n 0, 1) := by decide +kernel
theorem dX3_fork_55 : decode cX3_fork 55 = .ok (.iload_n 2, 1) := by decide +kernel
theorem dX3_fork_56 : decode cX3_fork 56 = .ok (.iload 5, 2) := by decide +kernel
theorem dX3_fork_58 : decode cX3_fork 58 = .ok (.invokevirtual 81, 3) := by decide +kernel
theorem dX3_fork_61 : decode cX3_fork 61 = .ok (.ifCond .eq 13, 3) := by decide +kernel
theorem dX3_fork_64 : decode cX3_fork 64 = .ok (.aload_n 0, 1) := by decide +kernel
theorem dX3_fork_65 : decode cX3_fork 65 = .ok (.iload_n 3, 1) := by decide +kernel
theorem dX3_fork_66 : decode cX3_fork 66 = .ok (.iload 5, 2) := by decide +kernel
theorem dX3_fork_68 : decode cX3_fork 68 = .ok (.invokevirtual 81, 3) := by decide +kernel
theorem dX3_fork_71 : decode cX3_fork 71 = .ok (.goto 11, 3) := by decide +kernel
theorem dX3_fork_74 : decode cX3_fork 74 = .ok (.aload_n 0, 1) := by decide +kernel
theorem dX3_fork_75 : decode cX3_fork 75 = .ok (.iload 4, 2) := by decide +kernel
theorem dX3_fork_77 : decode cX3_fork 77 = .ok (.iload 5, 2) := by decide +kernel
theorem dX3_fork_79 : decode cX3_fork 79 = .ok (.invokevirtual 81, 3) := by decide +kernel
theorem dX3_fork_82 : decode cX3_fork 82 = .ok (.bastore, 1) := by decide +kernel
theorem dX3_fork_83 : decode cX3_fork 83 = .ok (.iinc 5 1, 3) := by decide +kernel
theorem dX3_fork_86 : decode cX3_fork 86 = .ok (.goto (-47), 3) := by decide +kernel
theorem dX3_fork_89 : decode cX3_fork 89 = .ok (.aload_n 0, 1) := by decide +kernel
theorem dX3_fork_90 : decode cX3_fork 90 = .ok (.iload_n 1, 1) := by decide +kernel
theorem dX3_fork_91 : decode cX3_fork 91 = .ok (.invokevirtual 99, 3) := by decide +kernel
theorem dX3_fork_94 : decode cX3_fork 94 = .ok (.ireturn, 1) := by decide +kernel
theorem dX3_with_0 : decode cX3_with 0 = .ok (.iload_n 2, 1) := by decide +kernel
theorem dX3_with_1 : decode cX3_with 1 = .ok (.ifCond .eq 11, 3) := by decide +kernel
theorem dX3_with_4 : decode cX3_with 4 = .ok (.iload_n 0, 1) := by decide +kernel
theorem dX3_with_5 : decode cX3_with 5 = .ok (.iconst 1, 1) := by decide +kernel
theorem dX3_with_6 : decode cX3_with 6 = .ok (.iload_n 1, 1) := by decide +kernel
theorem dX3_with_7 : decode cX3_with 7 = .ok (.ishl, 1) := by decide +kernel
theorem dX3_with_8 : decode cX3_with 8 = .ok (.ior, 1) := by decide +kernel
theorem dX3_with_9 : decode cX3_with 9 = .ok (.goto 10, 3) := by decide +kernel
theorem dX3_with_12 : decode cX3_with 12 = .ok (.iload_n 0, 1) := by decide +kernel
theorem dX3_with_13 : decode cX3_with 13 = .ok (.iconst 1, 1) := by decide +kernel
theorem dX3_with_14 : decode cX3_with 14 = .ok (.iload_n 1, 1) := by decide +kernel
theorem dX3_with_15 : decode cX3_with 15 = .ok (.ishl, 1) := by decide +kernel
theorem dX3_with_16 : decode cX3_with 16 = .ok (.iconst (-1), 1) := by decide +kernel
theorem dX3_with_17 : decode cX3_with 17 = .ok (.ixor, 1) := by decide +kernel
theorem dX3_with_18 : decode cX3_with 18 = .ok (.iand, 1) := by decide +kernel
theorem dX3_with_19 : decode cX3_with 19 = .ok (.ireturn, 1) := by decide +kernel
theorem dX3_fix_0 : decode cX3_fix 0 = .ok (.aload_n 0, 1) := by decide +kernel
theorem dX3_fix_1 : decode cX3_fix 1 = .ok (.iload_n 1, 1) := by decide +kernel
theorem dX3_fix_2 : decode cX3_fix 2 = .ok (.invokevirtual 92, 3) := by decide +kernel
theorem dX3_fix_5 : decode cX3_fix 5 = .ok (.ifCond .eq 19, 3) := by decide +kernel
theorem dX3_fix_8 : decode cX3_fix 8 = .ok (.aload_n 0, 1) := by decide +kernel
theorem dX3_fix_9 : decode cX3_fix 9 = .ok (.iload_n 2, 1) := by decide +kernel
theorem dX3_fix_10 : decode cX3_fix 10 = .ok (.invokevirtual 92, 3) := by decide +kernel
theorem dX3_fix_13 : decode cX3_fix 13 = .ok (.ifCond .eq 11, 3) := by decide +kernel
theorem dX3_fix_16 : decode cX3_fix 16 = .ok (.aload_n 0, 1) := by decide +kernel
theorem dX3_fix_17 : decode cX3_fix 17 = .ok (.iload_n 3, 1) := by decide +kernel
theorem dX3_fix_18 : decode cX3_fix 18 = .ok (.invokevirtual 96, 3) := by decide +kernel
theorem dX3_fix_21 : decode cX3_fix 21 = .ok (.ifCond .ne 6, 3) := by decide +kernel
theorem dX3_fix_24 : decode cX3_fix 24 = .ok (.bipush (-2), 2) := by decide +kernel
theorem dX3_fix_26 : decode cX3_fix 26 = .ok (.ireturn, 1) := by decide +kernel
theorem dX3_fix_27 : decode cX3_fix 27 = .ok (.iconst 0, 1) := by decide +kernel
theorem dX3_fix_28 : decode cX3_fix 28 = .ok (.istore 5, 2) := by decide +kernel
theorem dX3_fix_30 : decode cX3_fix 30 = .ok (.iload 5, 2) := by decide +kernel
theorem dX3_fix_32 : decode cX3_fix 32 = .ok (.aload_n 0, 1) := by decide +kernel
theorem dX3_fix_33 : decode cX3_fix 33 = .ok (.getfield 59, 3) := by decide +kernel
theorem dX3_fix_36 : decode cX3_fix 36 = .ok (.if_icmp .ge 29, 3) := by decide +kernel
theorem dX3_fix_39 : decode cX3_fix 39 = .ok (.aload_n 0, 1) := by decide +kernel
theorem dX3_fix_40 : decode cX3_fix 40 = .ok (.getfield 14, 3) := by decide +kernel
theorem dX3_fix_43 : decode cX3_fix 43 = .ok (.iload 5, 2) := by decide +kernel
theorem dX3_fix_45 : decode cX3_fix 45 = .ok (.aload_n 0, 1) := by decide +kernel
theorem dX3_fix_46 : decode cX3_fix 46 = .ok (.iload_n 2, 1) := by decide +kernel
theorem dX3_fix_47 : decode cX3_fix 47 = .ok (.iload 5, 2) := by decide +kernel
theorem dX3_fix_49 : decode cX3_fix 49 = .ok (.iload_n 3, 1) := by decide +kernel
theorem dX3_fix_50 : decode cX3_fix 50 = .ok (.iload 4, 2) := by decide +kernel
theorem dX3_fix_52 : decode cX3_fix 52 = .ok (.invokestatic 103, 3) := by decide +kernel
theorem dX3_fix_55 : decode cX3_fix 55 = .ok (.invokevirtual 81, 3) := by decide +kernel
theorem dX3_fix_58 : decode cX3_fix 58 = .ok (.bastore, 1) := by decide +kernel
theorem dX3_fix_59 : decode cX3_fix 59 = .ok (.iinc 5 1, 3) := by decide +kernel
theorem dX3_fix_62 : decode cX3_fix 62 = .ok (.goto (-32), 3) := by decide +kernel
theorem dX3_fix_65 : decode cX3_fix 65 = .ok (.aload_n 0, 1) := by decide +kernel
theorem dX3_fix_66 : decode cX3_fix 66 = .ok (.iload_n 1, 1) := by decide +kernel
theorem dX3_fix_67 : decode cX3_fix 67 = .ok (.invokevirtual 99, 3) := by decide +kernel
theorem dX3_fix_70 : decode cX3_fix 70 = .ok (.ireturn, 1) := by decide +kernel
theorem dX3_put_0 : decode cX3_put 0 = .ok (.aload_n 0, 1) := by decide +kernel
theorem dX3_put_1 : decode cX3_put 1 = .ok (.iload_n 1, 1) := by decide +kernel
theorem dX3_put_2 : decode cX3_put 2 = .ok (.invokevirtual 92, 3) := by decide +kernel
theorem dX3_put_5 : decode cX3_put 5 = .ok (.ifCond .eq 28, 3) := by decide +kernel
theorem dX3_put_8 : decode cX3_put 8 = .ok (.aload_n 0, 1) := by decide +kernel
theorem dX3_put_9 : decode cX3_put 9 = .ok (.iload_n 2, 1) := by decide +kernel
theorem dX3_put_10 : decode cX3_put 10 = .ok (.invokevirtual 92, 3) := by decide +kernel
theorem dX3_put_13 : decode cX3_put 13 = .ok (.ifCond .eq 20, 3) := by decide +kernel
theorem dX3_put_16 : decode cX3_put 16 = .ok (.aload_n 0, 1) := by decide +kernel
theorem dX3_put_17 : decode cX3_put 17 = .ok (.iload_n 3, 1) := by decide +kernel
theorem dX3_put_18 : decode cX3_put 18 = .ok (.invokevirtual 96, 3) := by decide +kernel
theorem dX3_put_21 : decode cX3_put 21 = .ok (.ifCond .eq 12, 3) := by decide +kernel
theorem dX3_put_24 : decode cX3_put 24 = .ok (.aload_n 0, 1) := by decide +kernel
theorem dX3_put_25 : decode cX3_put 25 = .ok (.iload 4, 2) := by decide +kernel
theorem dX3_put_27 : decode cX3_put 27 = .ok (.invokevirtual 92, 3) := by decide +kernel
theorem dX3_put_30 : decode cX3_put 30 = .ok (.ifCond .ne 6, 3) := by decide +kernel
theorem dX3_put_33 : decode cX3_put 33 = .ok (.bipush (-2), 2) := by decide +kernel
theorem dX3_put_35 : decode cX3_put 35 = .ok (.ireturn, 1) := by decide +kernel
theorem dX3_put_36 : decode cX3_put 36 = .ok (.iconst 0, 1) := by decide +kernel
theorem dX3_put_37 : decode cX3_put 37 = .ok (.istore 5, 2) := by decide +kernel
theorem dX3_put_39 : decode cX3_put 39 = .ok (.iload 5, 2) := by decide +kernel
theorem dX3_put_41 : decode cX3_put 41 = .ok (.aload_n 0, 1) := by decide +kernel
theorem dX3_put_42 : decode cX3_put 42 = .ok (.getfield 59, 3) := by decide +kernel
theorem dX3_put_45 : decode cX3_put 45 = .ok (.if_icmp .ge 35, 3) := by decide +kernel
theorem dX3_put_48 : decode cX3_put 48 = .ok (.aload_n 0, 1) := by decide +kernel
theorem dX3_put_49 : decode cX3_put 49 = .ok (.getfield 14, 3) := by decide +kernel
theorem dX3_put_52 : decode cX3_put 52 = .ok (.iload 5, 2) := by decide +kernel
theorem dX3_put_54 : decode cX3_put 54 = .ok (.aload_n 0, 1) := by decide +kernel
theorem dX3_put_55 : decode cX3_put 55 = .ok (.iload_n 2, 1) := by decide +kernel
theorem dX3_put_56 : decode cX3_put 56 = .ok (.iload 5, 2) := by decide +kernel
theorem dX3_put_58 : decode cX3_put 58 = .ok (.iload_n 3, 1) := by decide +kernel
theorem dX3_put_59 : decode cX3_put 59 = .ok (.aload_n 0, 1) := by decide +kernel
theorem dX3_put_60 : decode cX3_put 60 = .ok (.iload 4, 2) := by decide +kernel
theorem dX3_put_62 : decode cX3_put 62 = .ok (.iload 5, 2) := by decide +kernel
theorem dX3_put_64 : decode cX3_put 64 = .ok (.invokevirtual 81, 3) := by decide +kernel
theorem dX3_put_67 : decode cX3_put 67 = .ok (.invokestatic 103, 3) := by decide +kernel
theorem dX3_put_70 : decode cX3_put 70 = .ok (.invokevirtual 81, 3) := by decide +kernel
theorem dX3_put_73 : decode cX3_put 73 = .ok (.bastore, 1) := by decide +kernel
theorem dX3_put_74 : decode cX3_put 74 = .ok (.iinc 5 1, 3) := by decide +kernel
theorem dX3_put_77 : decode cX3_put 77 = .ok (.goto (-38), 3) := by decide +kernel
theorem dX3_put_80 : decode cX3_put 80 = .ok (.aload_n 0, 1) := by decide +kernel
theorem dX3_put_81 : decode cX3_put 81 = .ok (.iload_n 1, 1) := by decide +kernel
theorem dX3_put_82 : decode cX3_put 82 = .ok (.invokevirtual 99, 3) := by decide +kernel
theorem dX3_put_85 : decode cX3_put 85 = .ok (.ireturn, 1) := by decide +kernel
theorem dX3_sum_0 : decode cX3_sum 0 = .ok (.aload_n 0, 1) := by decide +kernel
theorem dX3_sum_1 : decode cX3_sum 1 = .ok (.iload_n 1, 1) := by decide +kernel
theorem dX3_sum_2 : decode cX3_sum 2 = .ok (.invokevirtual 92, 3) := by decide +kernel
theorem dX3_sum_5 : decode cX3_sum 5 = .ok (.ifCond .eq 23, 3) := by decide +kernel
theorem dX3_sum_8 : decode cX3_sum 8 = .ok (.aload_n 0, 1) := by decide +kernel
theorem dX3_sum_9 : decode cX3_sum 9 = .ok (.iload_n 2, 1) := by decide +kernel
theorem dX3_sum_10 : decode cX3_sum 10 = .ok (.invokevirtual 92, 3) := by decide +kernel
theorem dX3_sum_13 : decode cX3_sum 13 = .ok (.ifCond .eq 15, 3) := by decide +kernel
theorem dX3_sum_16 : decode cX3_sum 16 = .ok (.iload_n 3, 1) := by decide +kernel
theorem dX3_sum_17 : decode cX3_sum 17 = .ok (.ifCond .lt 11, 3) := by decide +kernel
theorem dX3_sum_20 : decode cX3_sum 20 = .ok (.iload_n 3, 1) := by decide +kernel
theorem dX3_sum_21 : decode cX3_sum 21 = .ok (.aload_n 0, 1) := by decide +kernel
theorem dX3_sum_22 : decode cX3_sum 22 = .ok (.getfield 59, 3) := by decide +kernel
theorem dX3_sum_25 : decode cX3_sum 25 = .ok (.if_icmp .lt 6, 3) := by decide +kernel
theorem dX3_sum_28 : decode cX3_sum 28 = .ok (.bipush (-2), 2) := by decide +kernel
theorem dX3_sum_30 : decode cX3_sum 30 = .ok (.ireturn, 1) := by decide +kernel
theorem dX3_sum_31 : decode cX3_sum 31 = .ok (.iconst 0, 1) := by decide +kernel
theorem dX3_sum_32 : decode cX3_sum 32 = .ok (.istore 5, 2) := by decide +kernel
theorem dX3_sum_34 : decode cX3_sum 34 = .ok (.iload 5, 2) := by decide +kernel
theorem dX3_sum_36 : decode cX3_sum 36 = .ok (.aload_n 0, 1) := by decide +kernel
theorem dX3_sum_37 : decode cX3_sum 37 = .ok (.getfield 59, 3) := by decide +kernel
theorem dX3_sum_40 : decode cX3_sum 40 = .ok (.if_icmp .ge 23, 3) := by decide +kernel
theorem dX3_sum_43 : decode cX3_sum 43 = .ok (.aload_n 0, 1) := by decide +kernel
theorem dX3_sum_44 : decode cX3_sum 44 = .ok (.getfield 14, 3) := by decide +kernel
theorem dX3_sum_47 : decode cX3_sum 47 = .ok (.iload 5, 2) := by decide +kernel
theorem dX3_sum_49 : decode cX3_sum 49 = .ok (.aload_n 0, 1) := by decide +kernel
theorem dX3_sum_50 : decode cX3_sum 50 = .ok (.iload_n 2, 1) := by decide +kernel
theorem dX3_sum_51 : decode cX3_sum 51 = .ok (.iload 5, 2) := by decide +kernel
theorem dX3_sum_53 : decode cX3_sum 53 = .ok (.invokevirtual 81, 3) := by decide +kernel
theorem dX3_sum_56 : decode cX3_sum 56 = .ok (.bastore, 1) := by decide +kernel
theorem dX3_sum_57 : decode cX3_sum 57 = .ok (.iinc 5 1, 3) := by decide +kernel
theorem dX3_sum_60 : decode cX3_sum 60 = .ok (.goto (-26), 3) := by decide +kernel
theorem dX3_sum_63 : decode cX3_sum 63 = .ok (.iconst 0, 1) := by decide +kernel
theorem dX3_sum_64 : decode cX3_sum 64 = .ok (.istore 5, 2) := by decide +kernel
theorem dX3_sum_66 : decode cX3_sum 66 = .ok (.iload 5, 2) := by decide +kernel
theorem dX3_sum_68 : decode cX3_sum 68 = .ok (.aload_n 0, 1) := by decide +kernel
theorem dX3_sum_69 : decode cX3_sum 69 = .ok (.getfield 55, 3) := by decide +kernel
theorem dX3_sum_72 : decode cX3_sum 72 = .ok (.if_icmp .ge 140, 3) := by decide +kernel
theorem dX3_sum_75 : decode cX3_sum 75 = .ok (.iload_n 3, 1) := by decide +kernel
theorem dX3_sum_76 : decode cX3_sum 76 = .ok (.iload 5, 2) := by decide +kernel
theorem dX3_sum_78 : decode cX3_sum 78 = .ok (.ishr, 1) := by decide +kernel
theorem dX3_sum_79 : decode cX3_sum 79 = .ok (.iconst 1, 1) := by decide +kernel
theorem dX3_sum_80 : decode cX3_sum 80 = .ok (.iand, 1) := by decide +kernel
theorem dX3_sum_81 : decode cX3_sum 81 = .ok (.ifCond .ne 6, 3) := by decide +kernel
theorem dX3_sum_84 : decode cX3_sum 84 = .ok (.goto 122, 3) := by decide +kernel
theorem dX3_sum_87 : decode cX3_sum 87 = .ok (.iconst 0, 1) := by decide +kernel
theorem dX3_sum_88 : decode cX3_sum 88 = .ok (.istore 6, 2) := by decide +kernel
theorem dX3_sum_90 : decode cX3_sum 90 = .ok (.iload 6, 2) := by decide +kernel
theorem dX3_sum_92 : decode cX3_sum 92 = .ok (.aload_n 0, 1) := by decide +kernel
theorem dX3_sum_93 : decode cX3_sum 93 = .ok (.getfield 59, 3) := by decide +kernel
theorem dX3_sum_96 : decode cX3_sum 96 = .ok (.if_icmp .ge 110, 3) := by decide +kernel
theorem dX3_sum_99 : decode cX3_sum 99 = .ok (.iload 6, 2) := by decide +kernel
theorem dX3_sum_101 : decode cX3_sum 101 = .ok (.iload 5, 2) := by decide +kernel
theorem dX3_sum_103 : decode cX3_sum 103 = .ok (.ishr, 1) := by decide +kernel
theorem dX3_sum_104 : decode cX3_sum 104 = .ok (.iconst 1, 1) := by decide +kernel
theorem dX3_sum_105 : decode cX3_sum 105 = .ok (.iand, 1) := by decide +kernel
theorem dX3_sum_106 : decode cX3_sum 106 = .ok (.iconst 1, 1) := by decide +kernel
theorem dX3_sum_107 : decode cX3_sum 107 = .ok (.if_icmp .ne 6, 3) := by decide +kernel
theorem dX3_sum_110 : decode cX3_sum 110 = .ok (.goto 90, 3) := by decide +kernel
theorem dX3_sum_113 : decode cX3_sum 113 = .ok (.iload 6, 2) := by decide +kernel
theorem dX3_sum_115 : decode cX3_sum 115 = .ok (.iconst 1, 1) := by decide +kernel
theorem dX3_sum_116 : decode cX3_sum 116 = .ok (.iload 5, 2) := by decide +kernel
theorem dX3_sum_118 : decode cX3_sum 118 = .ok (.ishl, 1) := by decide +kernel
theorem dX3_sum_119 : decode cX3_sum 119 = .ok (.ior, 1) := by decide +kernel
theorem dX3_sum_120 : decode cX3_sum 120 = .ok (.istore 7, 2) := by decide +kernel
theorem dX3_sum_122 : decode cX3_sum 122 = .ok (.iload 4, 2) := by decide +kernel
theorem dX3_sum_124 : decode cX3_sum 124 = .ok (.ifCond .eq 31, 3) := by decide +kernel
theorem dX3_sum_127 : decode cX3_sum 127 = .ok (.aload_n 0, 1) := by decide +kernel
theorem dX3_sum_128 : decode cX3_sum 128 = .ok (.getfield 14, 3) := by decide +kernel
theorem dX3_sum_131 : decode cX3_sum 131 = .ok (.iload 6, 2) := by decide +kernel
theorem dX3_sum_133 : decode cX3_sum 133 = .ok (.baload, 1) := by decide +kernel
theorem dX3_sum_134 : decode cX3_sum 134 = .ok (.ifCond .eq 17, 3) := by decide +kernel
theorem dX3_sum_137 : decode cX3_sum 137 = .ok (.aload_n 0, 1) := by decide +kernel
theorem dX3_sum_138 : decode cX3_sum 138 = .ok (.getfield 14, 3) := by decide +kernel
theorem dX3_sum_141 : decode cX3_sum 141 = .ok (.iload 7, 2) := by decide +kernel
theorem dX3_sum_143 : decode cX3_sum 143 = .ok (.baload, 1) := by decide +kernel
theorem dX3_sum_144 : decode cX3_sum 144 = .ok (.ifCond .eq 7, 3) := by decide +kernel
theorem dX3_sum_147 : decode cX3_sum 147 = .ok (.iconst 1, 1) := by decide +kernel
theorem dX3_sum_148 : decode cX3_sum 148 = .ok (.goto 32, 3) := by decide +kernel
theorem dX3_sum_151 : decode cX3_sum 151 = .ok (.iconst 0, 1) := by decide +kernel
theorem dX3_sum_152 : decode cX3_sum 152 = .ok (.goto 28, 3) := by decide +kernel
theorem dX3_sum_155 : decode cX3_sum 155 = .ok (.aload_n 0, 1) := by decide +kernel
theorem dX3_sum_156 : decode cX3_sum 156 = .ok (.getfield 14, 3) := by decide +kernel
theorem dX3_sum_159 : decode cX3_sum 159 = .ok (.iload 6, 2) := by decide +kernel
theorem dX3_sum_161 : decode cX3_sum 161 = .ok (.baload, 1) := by decide +kernel
theorem dX3_sum_162 : decode cX3_sum 162 = .ok (.ifCond .ne 13, 3) := by decide +kernel
theorem dX3_sum_165 : decode cX3_sum 165 = .ok (.aload_n 0, 1) := by decide +kernel
theorem dX3_sum_166 : decode cX3_sum 166 = .ok (.getfield 14, 3) := by decide +kernel
theorem dX3_sum_169 : decode cX3_sum 169 = .ok (.iload 7, 2) := by decide +kernel
theorem dX3_sum_171 : decode cX3_sum 171 = .ok (.baload, 1) := by decide +kernel
theorem dX3_sum_172 : decode cX3_sum 172 = .ok (.ifCond .eq 7, 3) := by decide +kernel
theorem dX3_sum_175 : decode cX3_sum 175 = .ok (.iconst 1, 1) := by decide +kernel
theorem dX3_sum_176 : decode cX3_sum 176 = .ok (.goto 4, 3) := by decide +kernel
theorem dX3_sum_179 : decode cX3_sum 179 = .ok (.iconst 0, 1) := by decide +kernel
theorem dX3_sum_180 : decode cX3_sum 180 = .ok (.istore 8, 2) := by decide +kernel
theorem dX3_sum_182 : decode cX3_sum 182 = .ok (.aload_n 0, 1) := by decide +kernel
theorem dX3_sum_183 : decode cX3_sum 183 = .ok (.getfield 14, 3) := by decide +kernel
theorem dX3_sum_186 : decode cX3_sum 186 = .ok (.iload 6, 2) := by decide +kernel
theorem dX3_sum_188 : decode cX3_sum 188 = .ok (.iload 8, 2) := by decide +kernel
theorem dX3_sum_190 : decode cX3_sum 190 = .ok (.bastore, 1) := by decide +kernel
theorem dX3_sum_191 : decode cX3_sum 191 = .ok (.aload_n 0, 1) := by decide +kernel
theorem dX3_sum_192 : decode cX3_sum 192 = .ok (.getfield 14, 3) := by decide +kernel
theorem dX3_sum_195 : decode cX3_sum 195 = .ok (.iload 7, 2) := by decide +kernel
theorem dX3_sum_197 : decode cX3_sum 197 = .ok (.iload 8, 2) := by decide +kernel
theorem dX3_sum_199 : decode cX3_sum 199 = .ok (.bastore, 1) := by decide +kernel
theorem dX3_sum_200 : decode cX3_sum 200 = .ok (.iinc 6 1, 3) := by decide +kernel
theorem dX3_sum_203 : decode cX3_sum 203 = .ok (.goto (-113), 3) := by decide +kernel
theorem dX3_sum_206 : decode cX3_sum 206 = .ok (.iinc 5 1, 3) := by decide +kernel
theorem dX3_sum_209 : decode cX3_sum 209 = .ok (.goto (-143), 3) := by decide +kernel
theorem dX3_sum_212 : decode cX3_sum 212 = .ok (.aload_n 0, 1) := by decide +kernel
theorem dX3_sum_213 : decode cX3_sum 213 = .ok (.iload_n 1, 1) := by decide +kernel
theorem dX3_sum_214 : decode cX3_sum 214 = .ok (.invokevirtual 99, 3) := by decide +kernel
theorem dX3_sum_217 : decode cX3_sum 217 = .ok (.ireturn, 1) := by decide +kernel
theorem dX3_trade_0 : decode cX3_trade 0 = .ok (.aload_n 0, 1) := by decide +kernel
theorem dX3_trade_1 : decode cX3_trade 1 = .ok (.iload_n 1, 1) := by decide +kernel
theorem dX3_trade_2 : decode cX3_trade 2 = .ok (.invokevirtual 92, 3) := by decide +kernel
theorem dX3_trade_5 : decode cX3_trade 5 = .ok (.ifCond .eq 28, 3) := by decide +kernel
theorem dX3_trade_8 : decode cX3_trade 8 = .ok (.aload_n 0, 1) := by decide +kernel
theorem dX3_trade_9 : decode cX3_trade 9 = .ok (.iload_n 2, 1) := by decide +kernel
theorem dX3_trade_10 : decode cX3_trade 10 = .ok (.invokevirtual 92, 3) := by decide +kernel
theorem dX3_trade_13 : decode cX3_trade 13 = .ok (.ifCond .eq 20, 3) := by decide +kernel
theorem dX3_trade_16 : decode cX3_trade 16 = .ok (.aload_n 0, 1) := by decide +kernel
theorem dX3_trade_17 : decode cX3_trade 17 = .ok (.iload_n 3, 1) := by decide +kernel
theorem dX3_trade_18 : decode cX3_trade 18 = .ok (.invokevirtual 96, 3) := by decide +kernel
theorem dX3_trade_21 : decode cX3_trade 21 = .ok (.ifCond .eq 12, 3) := by decide +kernel
theorem dX3_trade_24 : decode cX3_trade 24 = .ok (.aload_n 0, 1) := by decide +kernel
theorem dX3_trade_25 : decode cX3_trade 25 = .ok (.iload 4, 2) := by decide +kernel
theorem dX3_trade_27 : decode cX3_trade 27 = .ok (.invokevirtual 96, 3) := by decide +kernel
theorem dX3_trade_30 : decode cX3_trade 30 = .ok (.ifCond .ne 6, 3) := by decide +kernel
theorem dX3_trade_33 : decode cX3_trade 33 = .ok (.bipush (-2), 2) := by decide +kernel
theorem dX3_trade_35 : decode cX3_trade 35 = .ok (.ireturn, 1) := by decide +kernel
theorem dX3_trade_36 : decode cX3_trade 36 = .ok (.iconst 0, 1) := by decide +kernel
theorem dX3_trade_37 : decode cX3_trade 37 = .ok (.istore 5, 2) := by decide +kernel
theorem dX3_trade_39 : decode cX3_trade 39 = .ok (.iload 5, 2) := by decide +kernel
theorem dX3_trade_41 : decode cX3_trade 41 = .ok (.aload_n 0, 1) := by decide +kernel
theorem dX3_trade_42 : decode cX3_trade 42 = .ok (.getfield 59, 3) := by decide +kernel
theorem dX3_trade_45 : decode cX3_trade 45 = .ok (.if_icmp .ge 63, 3) := by decide +kernel
theorem dX3_trade_48 : decode cX3_trade 48 = .ok (.aload_n 0, 1) := by decide +kernel
theorem dX3_trade_49 : decode cX3_trade 49 = .ok (.getfield 14, 3) := by decide +kernel
theorem dX3_trade_52 : decode cX3_trade 52 = .ok (.iload 5, 2) := by decide +kernel
theorem dX3_trade_54 : decode cX3_trade 54 = .ok (.aload_n 0, 1) := by decide +kernel
theorem dX3_trade_55 : decode cX3_trade 55 = .ok (.iload_n 2, 1) := by decide +kernel
theorem dX3_trade_56 : decode cX3_trade 56 = .ok (.iload 5, 2) := by decide +kernel
theorem dX3_trade_58 : decode cX3_trade 58 = .ok (.iload_n 3, 1) := by decide +kernel
theorem dX3_trade_59 : decode cX3_trade 59 = .ok (.iload 5, 2) := by decide +kernel
theorem dX3_trade_61 : decode cX3_trade 61 = .ok (.iload 4, 2) := by decide +kernel
theorem dX3_trade_63 : decode cX3_trade 63 = .ok (.ishr, 1) := by decide +kernel
theorem dX3_trade_64 : decode cX3_trade 64 = .ok (.iconst 1, 1) := by decide +kernel
theorem dX3_trade_65 : decode cX3_trade 65 = .ok (.iand, 1) := by decide +kernel
theorem dX3_trade_66 : decode cX3_trade 66 = .ok (.iconst 1, 1) := by decide +kernel
theorem dX3_trade_67 : decode cX3_trade 67 = .ok (.if_icmp .ne 7, 3) := by decide +kernel
theorem dX3_trade_70 : decode cX3_trade 70 = .ok (.iconst 1, 1) := by decide +kernel
theorem dX3_trade_71 : decode cX3_trade 71 = .ok (.goto 4, 3) := by decide +kernel
theorem dX3_trade_74 : decode cX3_trade 74 = .ok (.iconst 0, 1) := by decide +kernel
theorem dX3_trade_75 : decode cX3_trade 75 = .ok (.invokestatic 103, 3) := by decide +kernel
theorem dX3_trade_78 : decode cX3_trade 78 = .ok (.iload 4, 2) := by decide +kernel
theorem dX3_trade_80 : decode cX3_trade 80 = .ok (.iload 5, 2) := by decide +kernel
theorem dX3_trade_82 : decode cX3_trade 82 = .ok (.iload_n 3, 1) := by decide +kernel
theorem dX3_trade_83 : decode cX3_trade 83 = .ok (.ishr, 1) := by decide +kernel
theorem dX3_trade_84 : decode cX3_trade 84 = .ok (.iconst 1, 1) := by decide +kernel
theorem dX3_trade_85 : decode cX3_trade 85 = .ok (.iand, 1) := by decide +kernel
theorem dX3_trade_86 : decode cX3_trade 86 = .ok (.iconst 1, 1) := by decide +kernel
theorem dX3_trade_87 : decode cX3_trade 87 = .ok (.if_icmp .ne 7, 3) := by decide +kernel
theorem dX3_trade_90 : decode cX3_trade 90 = .ok (.iconst 1, 1) := by decide +kernel
theorem dX3_trade_91 : decode cX3_trade 91 = .ok (.goto 4, 3) := by decide +kernel
theorem dX3_trade_94 : decode cX3_trade 94 = .ok (.iconst 0, 1) := by decide +kernel
theorem dX3_trade_95 : decode cX3_trade 95 = .ok (.invokestatic 103, 3) := by decide +kernel
theorem dX3_trade_98 : decode cX3_trade 98 = .ok (.invokevirtual 81, 3) := by decide +kernel
theorem dX3_trade_101 : decode cX3_trade 101 = .ok (.bastore, 1) := by decide +kernel
theorem dX3_trade_102 : decode cX3_trade 102 = .ok (.iinc 5 1, 3) := by decide +kernel
theorem dX3_trade_105 : decode cX3_trade 105 = .ok (.goto (-66), 3) := by decide +kernel
theorem dX3_trade_108 : decode cX3_trade 108 = .ok (.aload_n 0, 1) := by decide +kernel
theorem dX3_trade_109 : decode cX3_trade 109 = .ok (.iload_n 1, 1) := by decide +kernel
theorem dX3_trade_110 : decode cX3_trade 110 = .ok (.invokevirtual 99, 3) := by decide +kernel
theorem dX3_trade_113 : decode cX3_trade 113 = .ok (.ireturn, 1) := by decide +kernel
theorem dX3_manyOf_0 : decode cX3_manyOf 0 = .ok (.iconst 0, 1) := by decide +kernel
theorem dX3_manyOf_1 : decode cX3_manyOf 1 = .ok (.istore_n 2, 1) := by decide +kernel
theorem dX3_manyOf_2 : decode cX3_manyOf 2 = .ok (.iconst 0, 1) := by decide +kernel
theorem dX3_manyOf_3 : decode cX3_manyOf 3 = .ok (.istore_n 3, 1) := by decide +kernel
theorem dX3_manyOf_4 : decode cX3_manyOf 4 = .ok (.iload_n 3, 1) := by decide +kernel
theorem dX3_manyOf_5 : decode cX3_manyOf 5 = .ok (.aload_n 0, 1) := by decide +kernel
theorem dX3_manyOf_6 : decode cX3_manyOf 6 = .ok (.getfield 59, 3) := by decide +kernel
theorem dX3_manyOf_9 : decode cX3_manyOf 9 = .ok (.if_icmp .ge 26, 3) := by decide +kernel
theorem dX3_manyOf_12 : decode cX3_manyOf 12 = .ok (.iload_n 2, 1) := by decide +kernel
theorem dX3_manyOf_13 : decode cX3_manyOf 13 = .ok (.aload_n 0, 1) := by decide +kernel
theorem dX3_manyOf_14 : decode cX3_manyOf 14 = .ok (.iload_n 1, 1) := by decide +kernel
theorem dX3_manyOf_15 : decode cX3_manyOf 15 = .ok (.iload_n 3, 1) := by decide +kernel
theorem dX3_manyOf_16 : decode cX3_manyOf 16 = .ok (.invokevirtual 81, 3) := by decide +kernel
theorem dX3_manyOf_19 : decode cX3_manyOf 19 = .ok (.ifCond .eq 7, 3) := by decide +kernel
theorem dX3_manyOf_22 : decode cX3_manyOf 22 = .ok (.iconst 1, 1) := by decide +kernel
theorem dX3_manyOf_23 : decode cX3_manyOf 23 = .ok (.goto 4, 3) := by decide +kernel
theorem dX3_manyOf_26 : decode cX3_manyOf 26 = .ok (.iconst 0, 1) := by decide +kernel
theorem dX3_manyOf_27 : decode cX3_manyOf 27 = .ok (.iadd, 1) := by decide +kernel
theorem dX3_manyOf_28 : decode cX3_manyOf 28 = .ok (.istore_n 2, 1) := by decide +kernel
theorem dX3_manyOf_29 : decode cX3_manyOf 29 = .ok (.iinc 3 1, 3) := by decide +kernel
theorem dX3_manyOf_32 : decode cX3_manyOf 32 = .ok (.goto (-28), 3) := by decide +kernel
theorem dX3_manyOf_35 : decode cX3_manyOf 35 = .ok (.iload_n 2, 1) := by decide +kernel
theorem dX3_manyOf_36 : decode cX3_manyOf 36 = .ok (.ireturn, 1) := by decide +kernel
theorem dX3_isSome_0 : decode cX3_isSome 0 = .ok (.aload_n 0, 1) := by decide +kernel
theorem dX3_isSome_1 : decode cX3_isSome 1 = .ok (.getfield 59, 3) := by decide +kernel
theorem dX3_isSome_4 : decode cX3_isSome 4 = .ok (.iconst 1, 1) := by decide +kernel
theorem dX3_isSome_5 : decode cX3_isSome 5 = .ok (.isub, 1) := by decide +kernel
theorem dX3_isSome_6 : decode cX3_isSome 6 = .ok (.iload_n 2, 1) := by decide +kernel
theorem dX3_isSome_7 : decode cX3_isSome 7 = .ok (.iconst (-1), 1) := by decide +kernel
theorem dX3_isSome_8 : decode cX3_isSome 8 = .ok (.ixor, 1) := by decide +kernel
theorem dX3_isSome_9 : decode cX3_isSome 9 = .ok (.iand, 1) := by decide +kernel
theorem dX3_isSome_10 : decode cX3_isSome 10 = .ok (.istore 4, 2) := by decide +kernel
theorem dX3_isSome_12 : decode cX3_isSome 12 = .ok (.iconst 0, 1) := by decide +kernel
theorem dX3_isSome_13 : decode cX3_isSome 13 = .ok (.istore 5, 2) := by decide +kernel
theorem dX3_isSome_15 : decode cX3_isSome 15 = .ok (.aload_n 0, 1) := by decide +kernel
theorem dX3_isSome_16 : decode cX3_isSome 16 = .ok (.iload_n 1, 1) := by decide +kernel
theorem dX3_isSome_17 : decode cX3_isSome 17 = .ok (.iload_n 3, 1) := by decide +kernel
theorem dX3_isSome_18 : decode cX3_isSome 18 = .ok (.iload 5, 2) := by decide +kernel
theorem dX3_isSome_20 : decode cX3_isSome 20 = .ok (.ior, 1) := by decide +kernel
theorem dX3_isSome_21 : decode cX3_isSome 21 = .ok (.invokevirtual 81, 3) := by decide +kernel
theorem dX3_isSome_24 : decode cX3_isSome 24 = .ok (.ifCond .eq 5, 3) := by decide +kernel
theorem dX3_isSome_27 : decode cX3_isSome 27 = .ok (.iconst 1, 1) := by decide +kernel
theorem dX3_isSome_28 : decode cX3_isSome 28 = .ok (.ireturn, 1) := by decide +kernel
theorem dX3_isSome_29 : decode cX3_isSome 29 = .ok (.iload 5, 2) := by decide +kernel
theorem dX3_isSome_31 : decode cX3_isSome 31 = .ok (.iload 4, 2) := by decide +kernel
theorem dX3_isSome_33 : decode cX3_isSome 33 = .ok (.if_icmp .ne 5, 3) := by decide +kernel
theorem dX3_isSome_36 : decode cX3_isSome 36 = .ok (.iconst 0, 1) := by decide +kernel
theorem dX3_isSome_37 : decode cX3_isSome 37 = .ok (.ireturn, 1) := by decide +kernel
theorem dX3_isSome_38 : decode cX3_isSome 38 = .ok (.iload 5, 2) := by decide +kernel
theorem dX3_isSome_40 : decode cX3_isSome 40 = .ok (.iload 4, 2) := by decide +kernel
theorem dX3_isSome_42 : decode cX3_isSome 42 = .ok (.isub, 1) := by decide +kernel
theorem dX3_isSome_43 : decode cX3_isSome 43 = .ok (.iload 4, 2) := by decide +kernel
theorem dX3_isSome_45 : decode cX3_isSome 45 = .ok (.iand, 1) := by decide +kernel
theorem dX3_isSome_46 : decode cX3_isSome 46 = .ok (.istore 5, 2) := by decide +kernel
theorem dX3_isSome_48 : decode cX3_isSome 48 = .ok (.goto (-33), 3) := by decide +kernel
theorem dX3_nearest_0 : decode cX3_nearest 0 = .ok (.iconst 0, 1) := by decide +kernel
theorem dX3_nearest_1 : decode cX3_nearest 1 = .ok (.istore_n 3, 1) := by decide +kernel
theorem dX3_nearest_2 : decode cX3_nearest 2 = .ok (.iconst 0, 1) := by decide +kernel
theorem dX3_nearest_3 : decode cX3_nearest 3 = .ok (.istore 4, 2) := by decide +kernel
theorem dX3_nearest_5 : decode cX3_nearest 5 = .ok (.iconst 0, 1) := by decide +kernel
theorem dX3_nearest_6 : decode cX3_nearest 6 = .ok (.istore 5, 2) := by decide +kernel
theorem dX3_nearest_8 : decode cX3_nearest 8 = .ok (.iload 5, 2) := by decide +kernel
theorem dX3_nearest_10 : decode cX3_nearest 10 = .ok (.aload_n 0, 1) := by decide +kernel
theorem dX3_nearest_11 : decode cX3_nearest 11 = .ok (.getfield 55, 3) := by decide +kernel
theorem dX3_nearest_14 : decode cX3_nearest 14 = .ok (.if_icmp .ge 66, 3) := by decide +kernel
theorem dX3_nearest_17 : decode cX3_nearest 17 = .ok (.iconst 1, 1) := by decide +kernel
theorem dX3_nearest_18 : decode cX3_nearest 18 = .ok (.aload_n 0, 1) := by decide +kernel
theorem dX3_nearest_19 : decode cX3_nearest 19 = .ok (.getfield 24, 3) := by decide +kernel
theorem dX3_nearest_22 : decode cX3_nearest 22 = .ok (.iload 5, 2) := by decide +kernel
theorem dX3_nearest_24 : decode cX3_nearest 24 = .ok (.iaload, 1) := by decide +kernel
theorem dX3_nearest_25 : decode cX3_nearest 25 = .ok (.ishl, 1) := by decide +kernel
theorem dX3_nearest_26 : decode cX3_nearest 26 = .ok (.istore 6, 2) := by decide +kernel
theorem dX3_nearest_28 : decode cX3_nearest 28 = .ok (.aload_n 0, 1) := by decide +kernel
theorem dX3_nearest_29 : decode cX3_nearest 29 = .ok (.iload_n 1, 1) := by decide +kernel
theorem dX3_nearest_30 : decode cX3_nearest 30 = .ok (.iload_n 3, 1) := by decide +kernel
theorem dX3_nearest_31 : decode cX3_nearest 31 = .ok (.iload 6, 2) := by decide +kernel
theorem dX3_nearest_33 : decode cX3_nearest 33 = .ok (.ior, 1) := by decide +kernel
theorem dX3_nearest_34 : decode cX3_nearest 34 = .ok (.iload 4, 2) := by decide +kernel
theorem dX3_nearest_36 : decode cX3_nearest 36 = .ok (.iload_n 2, 1) := by decide +kernel
theorem dX3_nearest_37 : decode cX3_nearest 37 = .ok (.iload 6, 2) := by decide +kernel
theorem dX3_nearest_39 : decode cX3_nearest 39 = .ok (.iand, 1) := by decide +kernel
theorem dX3_nearest_40 : decode cX3_nearest 40 = .ok (.ior, 1) := by decide +kernel
theorem dX3_nearest_41 : decode cX3_nearest 41 = .ok (.invokevirtual 107, 3) := by decide +kernel
theorem dX3_nearest_44 : decode cX3_nearest 44 = .ok (.istore 7, 2) := by decide +kernel
theorem dX3_nearest_46 : decode cX3_nearest 46 = .ok (.iload 4, 2) := by decide +kernel
theorem dX3_nearest_48 : decode cX3_nearest 48 = .ok (.iload 7, 2) := by decide +kernel
theorem dX3_nearest_50 : decode cX3_nearest 50 = .ok (.ifCond .eq 10, 3) := by decide +kernel
theorem dX3_nearest_53 : decode cX3_nearest 53 = .ok (.iload_n 2, 1) := by decide +kernel
theorem dX3_nearest_54 : decode cX3_nearest 54 = .ok (.iload 6, 2) := by decide +kernel
theorem dX3_nearest_56 : decode cX3_nearest 56 = .ok (.iand, 1) := by decide +kernel
theorem dX3_nearest_57 : decode cX3_nearest 57 = .ok (.goto 9, 3) := by decide +kernel
theorem dX3_nearest_60 : decode cX3_nearest 60 = .ok (.iload_n 2, 1) := by decide +kernel
theorem dX3_nearest_61 : decode cX3_nearest 61 = .ok (.iconst (-1), 1) := by decide +kernel
theorem dX3_nearest_62 : decode cX3_nearest 62 = .ok (.ixor, 1) := by decide +kernel
theorem dX3_nearest_63 : decode cX3_nearest 63 = .ok (.iload 6, 2) := by decide +kernel
theorem dX3_nearest_65 : decode cX3_nearest 65 = .ok (.iand, 1) := by decide +kernel
theorem dX3_nearest_66 : decode cX3_nearest 66 = .ok (.ior, 1) := by decide +kernel
theorem dX3_nearest_67 : decode cX3_nearest 67 = .ok (.istore 4, 2) := by decide +kernel
theorem dX3_nearest_69 : decode cX3_nearest 69 = .ok (.iload_n 3, 1) := by decide +kernel
theorem dX3_nearest_70 : decode cX3_nearest 70 = .ok (.iload 6, 2) := by decide +kernel
theorem dX3_nearest_72 : decode cX3_nearest 72 = .ok (.ior, 1) := by decide +kernel
theorem dX3_nearest_73 : decode cX3_nearest 73 = .ok (.istore_n 3, 1) := by decide +kernel
theorem dX3_nearest_74 : decode cX3_nearest 74 = .ok (.iinc 5 1, 3) := by decide +kernel
theorem dX3_nearest_77 : decode cX3_nearest 77 = .ok (.goto (-69), 3) := by decide +kernel
theorem dX3_nearest_80 : decode cX3_nearest 80 = .ok (.iload 4, 2) := by decide +kernel
theorem dX3_nearest_82 : decode cX3_nearest 82 = .ok (.ireturn, 1) := by decide +kernel
theorem dX3_near_0 : decode cX3_near 0 = .ok (.aload_n 0, 1) := by decide +kernel
theorem dX3_near_1 : decode cX3_near 1 = .ok (.iload_n 1, 1) := by decide +kernel
theorem dX3_near_2 : decode cX3_near 2 = .ok (.invokevirtual 92, 3) := by decide +kernel
theorem dX3_near_5 : decode cX3_near 5 = .ok (.ifCond .eq 19, 3) := by decide +kernel
theorem dX3_near_8 : decode cX3_near 8 = .ok (.aload_n 0, 1) := by decide +kernel
theorem dX3_near_9 : decode cX3_near 9 = .ok (.iload_n 2, 1) := by decide +kernel
theorem dX3_near_10 : decode cX3_near 10 = .ok (.invokevirtual 92, 3) := by decide +kernel
theorem dX3_near_13 : decode cX3_near 13 = .ok (.ifCond .eq 11, 3) := by decide +kernel
theorem dX3_near_16 : decode cX3_near 16 = .ok (.aload_n 0, 1) := by decide +kernel
theorem dX3_near_17 : decode cX3_near 17 = .ok (.iload_n 3, 1) := by decide +kernel
theorem dX3_near_18 : decode cX3_near 18 = .ok (.invokevirtual 92, 3) := by decide +kernel
theorem dX3_near_21 : decode cX3_near 21 = .ok (.ifCond .ne 6, 3) := by decide +kernel
theorem dX3_near_24 : decode cX3_near 24 = .ok (.bipush (-2), 2) := by decide +kernel
theorem dX3_near_26 : decode cX3_near 26 = .ok (.ireturn, 1) := by decide +kernel
theorem dX3_near_27 : decode cX3_near 27 = .ok (.aload_n 0, 1) := by decide +kernel
theorem dX3_near_28 : decode cX3_near 28 = .ok (.iload_n 3, 1) := by decide +kernel
theorem dX3_near_29 : decode cX3_near 29 = .ok (.invokevirtual 111, 3) := by decide +kernel
theorem dX3_near_32 : decode cX3_near 32 = .ok (.ifCond .ne 6, 3) := by decide +kernel
theorem dX3_near_35 : decode cX3_near 35 = .ok (.bipush (-3), 2) := by decide +kernel
theorem dX3_near_37 : decode cX3_near 37 = .ok (.ireturn, 1) := by decide +kernel
theorem dX3_near_38 : decode cX3_near 38 = .ok (.iconst 0, 1) := by decide +kernel
theorem dX3_near_39 : decode cX3_near 39 = .ok (.istore 4, 2) := by decide +kernel
theorem dX3_near_41 : decode cX3_near 41 = .ok (.iload 4, 2) := by decide +kernel
theorem dX3_near_43 : decode cX3_near 43 = .ok (.aload_n 0, 1) := by decide +kernel
theorem dX3_near_44 : decode cX3_near 44 = .ok (.getfield 59, 3) := by decide +kernel
theorem dX3_near_47 : decode cX3_near 47 = .ok (.if_icmp .ge 28, 3) := by decide +kernel
theorem dX3_near_50 : decode cX3_near 50 = .ok (.aload_n 0, 1) := by decide +kernel
theorem dX3_near_51 : decode cX3_near 51 = .ok (.getfield 14, 3) := by decide +kernel
theorem dX3_near_54 : decode cX3_near 54 = .ok (.iload 4, 2) := by decide +kernel
theorem dX3_near_56 : decode cX3_near 56 = .ok (.aload_n 0, 1) := by decide +kernel
theorem dX3_near_57 : decode cX3_near 57 = .ok (.iload_n 2, 1) := by decide +kernel
theorem dX3_near_58 : decode cX3_near 58 = .ok (.aload_n 0, 1) := by decide +kernel
theorem dX3_near_59 : decode cX3_near 59 = .ok (.iload_n 3, 1) := by decide +kernel
theorem dX3_near_60 : decode cX3_near 60 = .ok (.iload 4, 2) := by decide +kernel
theorem dX3_near_62 : decode cX3_near 62 = .ok (.invokevirtual 114, 3) := by decide +kernel
theorem dX3_near_65 : decode cX3_near 65 = .ok (.invokevirtual 81, 3) := by decide +kernel
theorem dX3_near_68 : decode cX3_near 68 = .ok (.bastore, 1) := by decide +kernel
theorem dX3_near_69 : decode cX3_near 69 = .ok (.iinc 4 1, 3) := by decide +kernel
theorem dX3_near_72 : decode cX3_near 72 = .ok (.goto (-31), 3) := by decide +kernel
theorem dX3_near_75 : decode cX3_near 75 = .ok (.aload_n 0, 1) := by decide +kernel
theorem dX3_near_76 : decode cX3_near 76 = .ok (.iload_n 1, 1) := by decide +kernel
theorem dX3_near_77 : decode cX3_near 77 = .ok (.invokevirtual 99, 3) := by decide +kernel
theorem dX3_near_80 : decode cX3_near 80 = .ok (.ireturn, 1) := by decide +kernel
theorem dX3_copy_0 : decode cX3_copy 0 = .ok (.aload_n 0, 1) := by decide +kernel
theorem dX3_copy_1 : decode cX3_copy 1 = .ok (.iload_n 1, 1) := by decide +kernel
theorem dX3_copy_2 : decode cX3_copy 2 = .ok (.invokevirtual 92, 3) := by decide +kernel
theorem dX3_copy_5 : decode cX3_copy 5 = .ok (.ifCond .eq 11, 3) := by decide +kernel
theorem dX3_copy_8 : decode cX3_copy 8 = .ok (.aload_n 0, 1) := by decide +kernel
theorem dX3_copy_9 : decode cX3_copy 9 = .ok (.iload_n 2, 1) := by decide +kernel
theorem dX3_copy_10 : decode cX3_copy 10 = .ok (.invokevirtual 92, 3) := by decide +kernel
theorem dX3_copy_13 : decode cX3_copy 13 = .ok (.ifCond .ne 6, 3) := by decide +kernel
theorem dX3_copy_16 : decode cX3_copy 16 = .ok (.bipush (-2), 2) := by decide +kernel
theorem dX3_copy_18 : decode cX3_copy 18 = .ok (.ireturn, 1) := by decide +kernel
theorem dX3_copy_19 : decode cX3_copy 19 = .ok (.iconst 0, 1) := by decide +kernel
theorem dX3_copy_20 : decode cX3_copy 20 = .ok (.istore_n 3, 1) := by decide +kernel
theorem dX3_copy_21 : decode cX3_copy 21 = .ok (.iload_n 3, 1) := by decide +kernel
theorem dX3_copy_22 : decode cX3_copy 22 = .ok (.aload_n 0, 1) := by decide +kernel
theorem dX3_copy_23 : decode cX3_copy 23 = .ok (.getfield 59, 3) := by decide +kernel
theorem dX3_copy_26 : decode cX3_copy 26 = .ok (.if_icmp .ge 27, 3) := by decide +kernel
theorem dX3_copy_29 : decode cX3_copy 29 = .ok (.aload_n 0, 1) := by decide +kernel
theorem dX3_copy_30 : decode cX3_copy 30 = .ok (.getfield 10, 3) := by decide +kernel
theorem dX3_copy_33 : decode cX3_copy 33 = .ok (.sipush 4096, 3) := by decide +kernel
theorem dX3_copy_36 : decode cX3_copy 36 = .ok (.iload_n 1, 1) := by decide +kernel
theorem dX3_copy_37 : decode cX3_copy 37 = .ok (.imul, 1) := by decide +kernel
theorem dX3_copy_38 : decode cX3_copy 38 = .ok (.iload_n 3, 1) := by decide +kernel
theorem dX3_copy_39 : decode cX3_copy 39 = .ok (.iadd, 1) := by decide +kernel
theorem dX3_copy_40 : decode cX3_copy 40 = .ok (.aload_n 0, 1) := by decide +kernel
theorem dX3_copy_41 : decode cX3_copy 41 = .ok (.iload_n 2, 1) := by decide +kernel
theorem dX3_copy_42 : decode cX3_copy 42 = .ok (.iload_n 3, 1) := by decide +kernel
theorem dX3_copy_43 : decode cX3_copy 43 = .ok (.invokevirtual 81, 3) := by decide +kernel
theorem dX3_copy_46 : decode cX3_copy 46 = .ok (.bastore, 1) := by decide +kernel
theorem dX3_copy_47 : decode cX3_copy 47 = .ok (.iinc 3 1, 3) := by decide +kernel
theorem dX3_copy_50 : decode cX3_copy 50 = .ok (.goto (-29), 3) := by decide +kernel
theorem dX3_copy_53 : decode cX3_copy 53 = .ok (.aload_n 0, 1) := by decide +kernel
theorem dX3_copy_54 : decode cX3_copy 54 = .ok (.invokevirtual 65, 3) := by decide +kernel
theorem dX3_copy_57 : decode cX3_copy 57 = .ok (.ireturn, 1) := by decide +kernel
theorem dX3_swap_0 : decode cX3_swap 0 = .ok (.iload_n 1, 1) := by decide +kernel
theorem dX3_swap_1 : decode cX3_swap 1 = .ok (.ifCond .lt 13, 3) := by decide +kernel
theorem dX3_swap_4 : decode cX3_swap 4 = .ok (.iload_n 1, 1) := by decide +kernel
theorem dX3_swap_5 : decode cX3_swap 5 = .ok (.aload_n 0, 1) := by decide +kernel
theorem dX3_swap_6 : decode cX3_swap 6 = .ok (.getfield 55, 3) := by decide +kernel
theorem dX3_swap_9 : decode cX3_swap 9 = .ok (.iconst 1, 1) := by decide +kernel
theorem dX3_swap_10 : decode cX3_swap 10 = .ok (.isub, 1) := by decide +kernel
theorem dX3_swap_11 : decode cX3_swap 11 = .ok (.if_icmp .lt 6, 3) := by decide +kernel
theorem dX3_swap_14 : decode cX3_swap 14 = .ok (.bipush (-2), 2) := by decide +kernel
theorem dX3_swap_16 : decode cX3_swap 16 = .ok (.ireturn, 1) := by decide +kernel
theorem dX3_swap_17 : decode cX3_swap 17 = .ok (.iconst 0, 1) := by decide +kernel
theorem dX3_swap_18 : decode cX3_swap 18 = .ok (.istore_n 2, 1) := by decide +kernel
theorem dX3_swap_19 : decode cX3_swap 19 = .ok (.iload_n 2, 1) := by decide +kernel
theorem dX3_swap_20 : decode cX3_swap 20 = .ok (.aload_n 0, 1) := by decide +kernel
theorem dX3_swap_21 : decode cX3_swap 21 = .ok (.getfield 55, 3) := by decide +kernel
theorem dX3_swap_24 : decode cX3_swap 24 = .ok (.if_icmp .ge 43, 3) := by decide +kernel
theorem dX3_swap_27 : decode cX3_swap 27 = .ok (.aload_n 0, 1) := by decide +kernel
theorem dX3_swap_28 : decode cX3_swap 28 = .ok (.getfield 27, 3) := by decide +kernel
theorem dX3_swap_31 : decode cX3_swap 31 = .ok (.iload_n 2, 1) := by decide +kernel
theorem dX3_swap_32 : decode cX3_swap 32 = .ok (.aload_n 0, 1) := by decide +kernel
theorem dX3_swap_33 : decode cX3_swap 33 = .ok (.getfield 24, 3) := by decide +kernel
theorem dX3_swap_36 : decode cX3_swap 36 = .ok (.iload_n 2, 1) := by decide +kernel
theorem dX3_swap_37 : decode cX3_swap 37 = .ok (.iload_n 1, 1) := by decide +kernel
theorem dX3_swap_38 : decode cX3_swap 38 = .ok (.if_icmp .ne 9, 3) := by decide +kernel
theorem dX3_swap_41 : decode cX3_swap 41 = .ok (.iload_n 1, 1) := by decide +kernel
theorem dX3_swap_42 : decode cX3_swap 42 = .ok (.iconst 1, 1) := by decide +kernel
theorem dX3_swap_43 : decode cX3_swap 43 = .ok (.iadd, 1) := by decide +kernel
theorem dX3_swap_44 : decode cX3_swap 44 = .ok (.goto 15, 3) := by decide +kernel
theorem dX3_swap_47 : decode cX3_swap 47 = .ok (.iload_n 2, 1) := by decide +kernel
theorem dX3_swap_48 : decode cX3_swap 48 = .ok (.iload_n 1, 1) := by decide +kernel
theorem dX3_swap_49 : decode cX3_swap 49 = .ok (.iconst 1, 1) := by decide +kernel
theorem dX3_swap_50 : decode cX3_swap 50 = .ok (.iadd, 1) := by decide +kernel
theorem dX3_swap_51 : decode cX3_swap 51 = .ok (.if_icmp .ne 7, 3) := by decide +kernel
theorem dX3_swap_54 : decode cX3_swap 54 = .ok (.iload_n 1, 1) := by decide +kernel
theorem dX3_swap_55 : decode cX3_swap 55 = .ok (.goto 4, 3) := by decide +kernel
theorem dX3_swap_58 : decode cX3_swap 58 = .ok (.iload_n 2, 1) := by decide +kernel
theorem dX3_swap_59 : decode cX3_swap 59 = .ok (.iaload, 1) := by decide +kernel
theorem dX3_swap_60 : decode cX3_swap 60 = .ok (.iastore, 1) := by decide +kernel
theorem dX3_swap_61 : decode cX3_swap 61 = .ok (.iinc 2 1, 3) := by decide +kernel
theorem dX3_swap_64 : decode cX3_swap 64 = .ok (.goto (-45), 3) := by decide +kernel
theorem dX3_swap_67 : decode cX3_swap 67 = .ok (.aload_n 0, 1) := by decide +kernel
theorem dX3_swap_68 : decode cX3_swap 68 = .ok (.iconst 0, 1) := by decide +kernel
theorem dX3_swap_69 : decode cX3_swap 69 = .ok (.bipush 32, 2) := by decide +kernel
theorem dX3_swap_71 : decode cX3_swap 71 = .ok (.iconst (-1), 1) := by decide +kernel
theorem dX3_swap_72 : decode cX3_swap 72 = .ok (.aload_n 0, 1) := by decide +kernel
theorem dX3_swap_73 : decode cX3_swap 73 = .ok (.getfield 27, 3) := by decide +kernel
theorem dX3_swap_76 : decode cX3_swap 76 = .ok (.invokevirtual 88, 3) := by decide +kernel
theorem dX3_swap_79 : decode cX3_swap 79 = .ok (.aload_n 0, 1) := by decide +kernel
theorem dX3_swap_80 : decode cX3_swap 80 = .ok (.getfield 62, 3) := by decide +kernel
theorem dX3_swap_83 : decode cX3_swap 83 = .ok (.if_icmp .le 6, 3) := by decide +kernel
theorem dX3_swap_86 : decode cX3_swap 86 = .ok (.bipush (-8), 2) := by decide +kernel
theorem dX3_swap_88 : decode cX3_swap 88 = .ok (.ireturn, 1) := by decide +kernel
theorem dX3_swap_89 : decode cX3_swap 89 = .ok (.iconst 0, 1) := by decide +kernel
theorem dX3_swap_90 : decode cX3_swap 90 = .ok (.istore_n 2, 1) := by decide +kernel
theorem dX3_swap_91 : decode cX3_swap 91 = .ok (.iload_n 2, 1) := by decide +kernel
theorem dX3_swap_92 : decode cX3_swap 92 = .ok (.aload_n 0, 1) := by decide +kernel
theorem dX3_swap_93 : decode cX3_swap 93 = .ok (.getfield 55, 3) := by decide +kernel
theorem dX3_swap_96 : decode cX3_swap 96 = .ok (.if_icmp .ge 21, 3) := by decide +kernel
theorem dX3_swap_99 : decode cX3_swap 99 = .ok (.aload_n 0, 1) := by decide +kernel
theorem dX3_swap_100 : decode cX3_swap 100 = .ok (.getfield 24, 3) := by decide +kernel
theorem dX3_swap_103 : decode cX3_swap 103 = .ok (.iload_n 2, 1) := by decide +kernel
theorem dX3_swap_104 : decode cX3_swap 104 = .ok (.aload_n 0, 1) := by decide +kernel
theorem dX3_swap_105 : decode cX3_swap 105 = .ok (.getfield 27, 3) := by decide +kernel
theorem dX3_swap_108 : decode cX3_swap 108 = .ok (.iload_n 2, 1) := by decide +kernel
theorem dX3_swap_109 : decode cX3_swap 109 = .ok (.iaload, 1) := by decide +kernel
theorem dX3_swap_110 : decode cX3_swap 110 = .ok (.iastore, 1) := by decide +kernel
theorem dX3_swap_111 : decode cX3_swap 111 = .ok (.iinc 2 1, 3) := by decide +kernel
theorem dX3_swap_114 : decode cX3_swap 114 = .ok (.goto (-23), 3) := by decide +kernel
theorem dX3_swap_117 : decode cX3_swap 117 = .ok (.aload_n 0, 1) := by decide +kernel
theorem dX3_swap_118 : decode cX3_swap 118 = .ok (.invokevirtual 65, 3) := by decide +kernel
theorem dX3_swap_121 : decode cX3_swap 121 = .ok (.ireturn, 1) := by decide +kernel
theorem dX3_tries_0 : decode cX3_tries 0 = .ok (.iconst 0, 1) := by decide +kernel
theorem dX3_tries_1 : decode cX3_tries 1 = .ok (.istore_n 3, 1) := by decide +kernel
theorem dX3_tries_2 : decode cX3_tries 2 = .ok (.iconst 0, 1) := by decide +kernel
theorem dX3_tries_3 : decode cX3_tries 3 = .ok (.istore 4, 2) := by decide +kernel
theorem dX3_tries_5 : decode cX3_tries 5 = .ok (.iload 4, 2) := by decide +kernel
theorem dX3_tries_7 : decode cX3_tries 7 = .ok (.aload_n 0, 1) := by decide +kernel
theorem dX3_tries_8 : decode cX3_tries 8 = .ok (.getfield 55, 3) := by decide +kernel
theorem dX3_tries_11 : decode cX3_tries 11 = .ok (.if_icmp .ge 50, 3) := by decide +kernel
theorem dX3_tries_14 : decode cX3_tries 14 = .ok (.aload_n 0, 1) := by decide +kernel
theorem dX3_tries_15 : decode cX3_tries 15 = .ok (.getfield 24, 3) := by decide +kernel
theorem dX3_tries_18 : decode cX3_tries 18 = .ok (.iload 4, 2) := by decide +kernel
theorem dX3_tries_20 : decode cX3_tries 20 = .ok (.iaload, 1) := by decide +kernel
theorem dX3_tries_21 : decode cX3_tries 21 = .ok (.iload_n 1, 1) := by decide +kernel
theorem dX3_tries_22 : decode cX3_tries 22 = .ok (.if_icmp .ne 6, 3) := by decide +kernel
theorem dX3_tries_25 : decode cX3_tries 25 = .ok (.goto 30, 3) := by decide +kernel
theorem dX3_tries_28 : decode cX3_tries 28 = .ok (.aload_n 0, 1) := by decide +kernel
theorem dX3_tries_29 : decode cX3_tries 29 = .ok (.getfield 27, 3) := by decide +kernel
theorem dX3_tries_32 : decode cX3_tries 32 = .ok (.iload_n 3, 1) := by decide +kernel
theorem dX3_tries_33 : decode cX3_tries 33 = .ok (.iload_n 2, 1) := by decide +kernel
theorem dX3_tries_34 : decode cX3_tries 34 = .ok (.if_icmp .ge 7, 3) := by decide +kernel
theorem dX3_tries_37 : decode cX3_tries 37 = .ok (.iload_n 3, 1) := by decide +kernel
theorem dX3_tries_38 : decode cX3_tries 38 = .ok (.goto 6, 3) := by decide +kernel
theorem dX3_tries_41 : decode cX3_tries 41 = .ok (.iload_n 3, 1) := by decide +kernel
theorem dX3_tries_42 : decode cX3_tries 42 = .ok (.iconst 1, 1) := by decide +kernel
theorem dX3_tries_43 : decode cX3_tries 43 = .ok (.iadd, 1) := by decide +kernel
theorem dX3_tries_44 : decode cX3_tries 44 = .ok (.aload_n 0, 1) := by decide +kernel
theorem dX3_tries_45 : decode cX3_tries 45 = .ok (.getfield 24, 3) := by decide +kernel
theorem dX3_tries_48 : decode cX3_tries 48 = .ok (.iload 4, 2) := by decide +kernel
theorem dX3_tries_50 : decode cX3_tries 50 = .ok (.iaload, 1) := by decide +kernel
theorem dX3_tries_51 : decode cX3_tries 51 = .ok (.iastore, 1) := by decide +kernel
theorem dX3_tries_52 : decode cX3_tries 52 = .ok (.iinc 3 1, 3) := by decide +kernel
theorem dX3_tries_55 : decode cX3_tries 55 = .ok (.iinc 4 1, 3) := by decide +kernel
theorem dX3_tries_58 : decode cX3_tries 58 = .ok (.goto (-53), 3) := by decide +kernel
theorem dX3_tries_61 : decode cX3_tries 61 = .ok (.aload_n 0, 1) := by decide +kernel
theorem dX3_tries_62 : decode cX3_tries 62 = .ok (.getfield 27, 3) := by decide +kernel
theorem dX3_tries_65 : decode cX3_tries 65 = .ok (.iload_n 2, 1) := by decide +kernel
theorem dX3_tries_66 : decode cX3_tries 66 = .ok (.iload_n 1, 1) := by decide +kernel
theorem dX3_tries_67 : decode cX3_tries 67 = .ok (.iastore, 1) := by decide +kernel
theorem dX3_tries_68 : decode cX3_tries 68 = .ok (.return_, 1) := by decide +kernel
theorem dX3_sift_0 : decode cX3_sift 0 = .ok (.aload_n 0, 1) := by decide +kernel
theorem dX3_sift_1 : decode cX3_sift 1 = .ok (.iload_n 1, 1) := by decide +kernel
theorem dX3_sift_2 : decode cX3_sift 2 = .ok (.invokevirtual 96, 3) := by decide +kernel
theorem dX3_sift_5 : decode cX3_sift 5 = .ok (.ifCond .ne 6, 3) := by decide +kernel
theorem dX3_sift_8 : decode cX3_sift 8 = .ok (.bipush (-2), 2) := by decide +kernel
theorem dX3_sift_10 : decode cX3_sift 10 = .ok (.ireturn, 1) := by decide +kernel
theorem dX3_sift_11 : decode cX3_sift 11 = .ok (.iconst 0, 1) := by decide +kernel
theorem dX3_sift_12 : decode cX3_sift 12 = .ok (.istore_n 2, 1) := by decide +kernel
theorem dX3_sift_13 : decode cX3_sift 13 = .ok (.ldc 120, 2) := by decide +kernel
theorem dX3_sift_15 : decode cX3_sift 15 = .ok (.istore_n 3, 1) := by decide +kernel
theorem dX3_sift_16 : decode cX3_sift 16 = .ok (.iconst 0, 1) := by decide +kernel
theorem dX3_sift_17 : decode cX3_sift 17 = .ok (.istore 4, 2) := by decide +kernel
theorem dX3_sift_19 : decode cX3_sift 19 = .ok (.iload 4, 2) := by decide +kernel
theorem dX3_sift_21 : decode cX3_sift 21 = .ok (.aload_n 0, 1) := by decide +kernel
theorem dX3_sift_22 : decode cX3_sift 22 = .ok (.getfield 55, 3) := by decide +kernel
theorem dX3_sift_25 : decode cX3_sift 25 = .ok (.if_icmp .ge 42, 3) := by decide +kernel
theorem dX3_sift_28 : decode cX3_sift 28 = .ok (.aload_n 0, 1) := by decide +kernel
theorem dX3_sift_29 : decode cX3_sift 29 = .ok (.iload_n 1, 1) := by decide +kernel
theorem dX3_sift_30 : decode cX3_sift 30 = .ok (.iload 4, 2) := by decide +kernel
theorem dX3_sift_32 : decode cX3_sift 32 = .ok (.invokevirtual 121, 3) := by decide +kernel
theorem dX3_sift_35 : decode cX3_sift 35 = .ok (.aload_n 0, 1) := by decide +kernel
theorem dX3_sift_36 : decode cX3_sift 36 = .ok (.iconst 0, 1) := by decide +kernel
theorem dX3_sift_37 : decode cX3_sift 37 = .ok (.bipush 32, 2) := by decide +kernel
theorem dX3_sift_39 : decode cX3_sift 39 = .ok (.iconst (-1), 1) := by decide +kernel
theorem dX3_sift_40 : decode cX3_sift 40 = .ok (.aload_n 0, 1) := by decide +kernel
theorem dX3_sift_41 : decode cX3_sift 41 = .ok (.getfield 27, 3) := by decide +kernel
theorem dX3_sift_44 : decode cX3_sift 44 = .ok (.invokevirtual 88, 3) := by decide +kernel
theorem dX3_sift_47 : decode cX3_sift 47 = .ok (.istore 5, 2) := by decide +kernel
theorem dX3_sift_49 : decode cX3_sift 49 = .ok (.iload 5, 2) := by decide +kernel
theorem dX3_sift_51 : decode cX3_sift 51 = .ok (.iload_n 3, 1) := by decide +kernel
theorem dX3_sift_52 : decode cX3_sift 52 = .ok (.if_icmp .ge 9, 3) := by decide +kernel
theorem dX3_sift_55 : decode cX3_sift 55 = .ok (.iload 5, 2) := by decide +kernel
theorem dX3_sift_57 : decode cX3_sift 57 = .ok (.istore_n 3, 1) := by decide +kernel
theorem dX3_sift_58 : decode cX3_sift 58 = .ok (.iload 4, 2) := by decide +kernel
theorem dX3_sift_60 : decode cX3_sift 60 = .ok (.istore_n 2, 1) := by decide +kernel
theorem dX3_sift_61 : decode cX3_sift 61 = .ok (.iinc 4 1, 3) := by decide +kernel
theorem dX3_sift_64 : decode cX3_sift 64 = .ok (.goto (-45), 3) := by decide +kernel
theorem dX3_sift_67 : decode cX3_sift 67 = .ok (.aload_n 0, 1) := by decide +kernel
theorem dX3_sift_68 : decode cX3_sift 68 = .ok (.iload_n 1, 1) := by decide +kernel
theorem dX3_sift_69 : decode cX3_sift 69 = .ok (.iload_n 2, 1) := by decide +kernel
theorem dX3_sift_70 : decode cX3_sift 70 = .ok (.invokevirtual 121, 3) := by decide +kernel
theorem dX3_sift_73 : decode cX3_sift 73 = .ok (.iconst 0, 1) := by decide +kernel
theorem dX3_sift_74 : decode cX3_sift 74 = .ok (.istore 4, 2) := by decide +kernel
theorem dX3_sift_76 : decode cX3_sift 76 = .ok (.iload 4, 2) := by decide +kernel
theorem dX3_sift_78 : decode cX3_sift 78 = .ok (.aload_n 0, 1) := by decide +kernel
theorem dX3_sift_79 : decode cX3_sift 79 = .ok (.getfield 55, 3) := by decide +kernel
theorem dX3_sift_82 : decode cX3_sift 82 = .ok (.if_icmp .ge 23, 3) := by decide +kernel
theorem dX3_sift_85 : decode cX3_sift 85 = .ok (.aload_n 0, 1) := by decide +kernel
theorem dX3_sift_86 : decode cX3_sift 86 = .ok (.getfield 24, 3) := by decide +kernel
theorem dX3_sift_89 : decode cX3_sift 89 = .ok (.iload 4, 2) := by decide +kernel
theorem dX3_sift_91 : decode cX3_sift 91 = .ok (.aload_n 0, 1) := by decide +kernel
theorem dX3_sift_92 : decode cX3_sift 92 = .ok (.getfield 27, 3) := by decide +kernel
theorem dX3_sift_95 : decode cX3_sift 95 = .ok (.iload 4, 2) := by decide +kernel
theorem dX3_sift_97 : decode cX3_sift 97 = .ok (.iaload, 1) := by decide +kernel
theorem dX3_sift_98 : decode cX3_sift 98 = .ok (.iastore, 1) := by decide +kernel
theorem dX3_sift_99 : decode cX3_sift 99 = .ok (.iinc 4 1, 3) := by decide +kernel
theorem dX3_sift_102 : decode cX3_sift 102 = .ok (.goto (-26), 3) := by decide +kernel
theorem dX3_sift_105 : decode cX3_sift 105 = .ok (.aload_n 0, 1) := by decide +kernel
theorem dX3_sift_106 : decode cX3_sift 106 = .ok (.invokevirtual 65, 3) := by decide +kernel
theorem dX3_sift_109 : decode cX3_sift 109 = .ok (.pop, 1) := by decide +kernel
theorem dX3_sift_110 : decode cX3_sift 110 = .ok (.iload_n 2, 1) := by decide +kernel
theorem dX3_sift_111 : decode cX3_sift 111 = .ok (.ireturn, 1) := by decide +kernel
theorem dX3_cost_0 : decode cX3_cost 0 = .ok (.aload_n 0, 1) := by decide +kernel
theorem dX3_cost_1 : decode cX3_cost 1 = .ok (.iload_n 1, 1) := by decide +kernel
theorem dX3_cost_2 : decode cX3_cost 2 = .ok (.invokevirtual 96, 3) := by decide +kernel
theorem dX3_cost_5 : decode cX3_cost 5 = .ok (.ifCond .eq 13, 3) := by decide +kernel
theorem dX3_cost_8 : decode cX3_cost 8 = .ok (.iload_n 2, 1) := by decide +kernel
theorem dX3_cost_9 : decode cX3_cost 9 = .ok (.ifCond .lt 9, 3) := by decide +kernel
theorem dX3_cost_12 : decode cX3_cost 12 = .ok (.iload_n 2, 1) := by decide +kernel
theorem dX3_cost_13 : decode cX3_cost 13 = .ok (.ldc 125, 2) := by decide +kernel
theorem dX3_cost_15 : decode cX3_cost 15 = .ok (.if_icmp .le 6, 3) := by decide +kernel
theorem dX3_cost_18 : decode cX3_cost 18 = .ok (.bipush (-2), 2) := by decide +kernel
theorem dX3_cost_20 : decode cX3_cost 20 = .ok (.ireturn, 1) := by decide +kernel
theorem dX3_cost_21 : decode cX3_cost 21 = .ok (.aload_n 0, 1) := by decide +kernel
theorem dX3_cost_22 : decode cX3_cost 22 = .ok (.getfield 20, 3) := by decide +kernel
theorem dX3_cost_25 : decode cX3_cost 25 = .ok (.iload_n 1, 1) := by decide +kernel
theorem dX3_cost_26 : decode cX3_cost 26 = .ok (.iaload, 1) := by decide +kernel
theorem dX3_cost_27 : decode cX3_cost 27 = .ok (.istore_n 3, 1) := by decide +kernel
theorem dX3_cost_28 : decode cX3_cost 28 = .ok (.aload_n 0, 1) := by decide +kernel
theorem dX3_cost_29 : decode cX3_cost 29 = .ok (.getfield 20, 3) := by decide +kernel
theorem dX3_cost_32 : decode cX3_cost 32 = .ok (.iload_n 1, 1) := by decide +kernel
theorem dX3_cost_33 : decode cX3_cost 33 = .ok (.iload_n 2, 1) := by decide +kernel
theorem dX3_cost_34 : decode cX3_cost 34 = .ok (.iastore, 1) := by decide +kernel
theorem dX3_cost_35 : decode cX3_cost 35 = .ok (.iload_n 3, 1) := by decide +kernel
theorem dX3_cost_36 : decode cX3_cost 36 = .ok (.ireturn, 1) := by decide +kernel
theorem dX3_same_0 : decode cX3_same 0 = .ok (.aload_n 0, 1) := by decide +kernel
theorem dX3_same_1 : decode cX3_same 1 = .ok (.iload_n 1, 1) := by decide +kernel
theorem dX3_same_2 : decode cX3_same 2 = .ok (.invokevirtual 92, 3) := by decide +kernel
theorem dX3_same_5 : decode cX3_same 5 = .ok (.ifCond .eq 11, 3) := by decide +kernel
theorem dX3_same_8 : decode cX3_same 8 = .ok (.aload_n 0, 1) := by decide +kernel
theorem dX3_same_9 : decode cX3_same 9 = .ok (.iload_n 2, 1) := by decide +kernel
theorem dX3_same_10 : decode cX3_same 10 = .ok (.invokevirtual 92, 3) := by decide +kernel
theorem dX3_same_13 : decode cX3_same 13 = .ok (.ifCond .ne 6, 3) := by decide +kernel
theorem dX3_same_16 : decode cX3_same 16 = .ok (.bipush (-2), 2) := by decide +kernel
theorem dX3_same_18 : decode cX3_same 18 = .ok (.ireturn, 1) := by decide +kernel
theorem dX3_same_19 : decode cX3_same 19 = .ok (.iconst 0, 1) := by decide +kernel
theorem dX3_same_20 : decode cX3_same 20 = .ok (.istore_n 3, 1) := by decide +kernel
theorem dX3_same_21 : decode cX3_same 21 = .ok (.iload_n 3, 1) := by decide +kernel
theorem dX3_same_22 : decode cX3_same 22 = .ok (.aload_n 0, 1) := by decide +kernel
theorem dX3_same_23 : decode cX3_same 23 = .ok (.getfield 59, 3) := by decide +kernel
theorem dX3_same_26 : decode cX3_same 26 = .ok (.if_icmp .ge 26, 3) := by decide +kernel
theorem dX3_same_29 : decode cX3_same 29 = .ok (.aload_n 0, 1) := by decide +kernel
theorem dX3_same_30 : decode cX3_same 30 = .ok (.iload_n 1, 1) := by decide +kernel
theorem dX3_same_31 : decode cX3_same 31 = .ok (.iload_n 3, 1) := by decide +kernel
theorem dX3_same_32 : decode cX3_same 32 = .ok (.invokevirtual 81, 3) := by decide +kernel
theorem dX3_same_35 : decode cX3_same 35 = .ok (.aload_n 0, 1) := by decide +kernel
theorem dX3_same_36 : decode cX3_same 36 = .ok (.iload_n 2, 1) := by decide +kernel
theorem dX3_same_37 : decode cX3_same 37 = .ok (.iload_n 3, 1) := by decide +kernel
theorem dX3_same_38 : decode cX3_same 38 = .ok (.invokevirtual 81, 3) := by decide +kernel
theorem dX3_same_41 : decode cX3_same 41 = .ok (.if_icmp .eq 5, 3) := by decide +kernel
theorem dX3_same_44 : decode cX3_same 44 = .ok (.iconst 0, 1) := by decide +kernel
theorem dX3_same_45 : decode cX3_same 45 = .ok (.ireturn, 1) := by decide +kernel
theorem dX3_same_46 : decode cX3_same 46 = .ok (.iinc 3 1, 3) := by decide +kernel
theorem dX3_same_49 : decode cX3_same 49 = .ok (.goto (-28), 3) := by decide +kernel
theorem dX3_same_52 : decode cX3_same 52 = .ok (.iconst 1, 1) := by decide +kernel
theorem dX3_same_53 : decode cX3_same 53 = .ok (.ireturn, 1) := by decide +kernel
theorem dX3_tells_0 : decode cX3_tells 0 = .ok (.aload_n 0, 1) := by decide +kernel
theorem dX3_tells_1 : decode cX3_tells 1 = .ok (.iload_n 1, 1) := by decide +kernel
theorem dX3_tells_2 : decode cX3_tells 2 = .ok (.invokevirtual 92, 3) := by decide +kernel
theorem dX3_tells_5 : decode cX3_tells 5 = .ok (.ifCond .eq 15, 3) := by decide +kernel
theorem dX3_tells_8 : decode cX3_tells 8 = .ok (.iload_n 2, 1) := by decide +kernel
theorem dX3_tells_9 : decode cX3_tells 9 = .ok (.ifCond .lt 11, 3) := by decide +kernel
theorem dX3_tells_12 : decode cX3_tells 12 = .ok (.iload_n 2, 1) := by decide +kernel
theorem dX3_tells_13 : decode cX3_tells 13 = .ok (.aload_n 0, 1) := by decide +kernel
theorem dX3_tells_14 : decode cX3_tells 14 = .ok (.getfield 59, 3) := by decide +kernel
theorem dX3_tells_17 : decode cX3_tells 17 = .ok (.if_icmp .lt 8, 3) := by decide +kernel
theorem dX3_tells_20 : decode cX3_tells 20 = .ok (.bipush (-2), 2) := by decide +kernel
theorem dX3_tells_22 : decode cX3_tells 22 = .ok (.goto 17, 3) := by decide +kernel
theorem dX3_tells_25 : decode cX3_tells 25 = .ok (.aload_n 0, 1) := by decide +kernel
theorem dX3_tells_26 : decode cX3_tells 26 = .ok (.iload_n 1, 1) := by decide +kernel
theorem dX3_tells_27 : decode cX3_tells 27 = .ok (.iload_n 2, 1) := by decide +kernel
theorem dX3_tells_28 : decode cX3_tells 28 = .ok (.invokevirtual 81, 3) := by decide +kernel
theorem dX3_tells_31 : decode cX3_tells 31 = .ok (.ifCond .eq 7, 3) := by decide +kernel
theorem dX3_tells_34 : decode cX3_tells 34 = .ok (.iconst 1, 1) := by decide +kernel
theorem dX3_tells_35 : decode cX3_tells 35 = .ok (.goto 4, 3) := by decide +kernel
theorem dX3_tells_38 : decode cX3_tells 38 = .ok (.iconst 0, 1) := by decide +kernel
theorem dX3_tells_39 : decode cX3_tells 39 = .ok (.ireturn, 1) := by decide +kernel
theorem dX3_many_0 : decode cX3_many 0 = .ok (.aload_n 0, 1) := by decide +kernel
theorem dX3_many_1 : decode cX3_many 1 = .ok (.iload_n 1, 1) := by decide +kernel
theorem dX3_many_2 : decode cX3_many 2 = .ok (.invokevirtual 92, 3) := by decide +kernel
theorem dX3_many_5 : decode cX3_many 5 = .ok (.ifCond .eq 11, 3) := by decide +kernel
theorem dX3_many_8 : decode cX3_many 8 = .ok (.aload_n 0, 1) := by decide +kernel
theorem dX3_many_9 : decode cX3_many 9 = .ok (.iload_n 1, 1) := by decide +kernel
theorem dX3_many_10 : decode cX3_many 10 = .ok (.invokevirtual 111, 3) := by decide +kernel
theorem dX3_many_13 : decode cX3_many 13 = .ok (.goto 5, 3) := by decide +kernel
theorem dX3_many_16 : decode cX3_many 16 = .ok (.bipush (-2), 2) := by decide +kernel
theorem dX3_many_18 : decode cX3_many 18 = .ok (.ireturn, 1) := by decide +kernel
theorem dX3_pick_0 : decode cX3_pick 0 = .ok (.aload_n 0, 1) := by decide +kernel
theorem dX3_pick_1 : decode cX3_pick 1 = .ok (.iload_n 1, 1) := by decide +kernel
theorem dX3_pick_2 : decode cX3_pick 2 = .ok (.invokevirtual 92, 3) := by decide +kernel
theorem dX3_pick_5 : decode cX3_pick 5 = .ok (.ifCond .ne 6, 3) := by decide +kernel
theorem dX3_pick_8 : decode cX3_pick 8 = .ok (.bipush (-2), 2) := by decide +kernel
theorem dX3_pick_10 : decode cX3_pick 10 = .ok (.ireturn, 1) := by decide +kernel
theorem dX3_pick_11 : decode cX3_pick 11 = .ok (.iconst 0, 1) := by decide +kernel
theorem dX3_pick_12 : decode cX3_pick 12 = .ok (.istore_n 3, 1) := by decide +kernel
theorem dX3_pick_13 : decode cX3_pick 13 = .ok (.iconst 0, 1) := by decide +kernel
theorem dX3_pick_14 : decode cX3_pick 14 = .ok (.istore 4, 2) := by decide +kernel
theorem dX3_pick_16 : decode cX3_pick 16 = .ok (.iload 4, 2) := by decide +kernel
theorem dX3_pick_18 : decode cX3_pick 18 = .ok (.aload_n 0, 1) := by decide +kernel
theorem dX3_pick_19 : decode cX3_pick 19 = .ok (.getfield 59, 3) := by decide +kernel
theorem dX3_pick_22 : decode cX3_pick 22 = .ok (.if_icmp .ge 33, 3) := by decide +kernel
theorem dX3_pick_25 : decode cX3_pick 25 = .ok (.aload_n 0, 1) := by decide +kernel
theorem dX3_pick_26 : decode cX3_pick 26 = .ok (.iload_n 1, 1) := by decide +kernel
theorem dX3_pick_27 : decode cX3_pick 27 = .ok (.iload 4, 2) := by decide +kernel
theorem dX3_pick_29 : decode cX3_pick 29 = .ok (.invokevirtual 81, 3) := by decide +kernel
theorem dX3_pick_32 : decode cX3_pick 32 = .ok (.ifCond .ne 6, 3) := by decide +kernel
theorem dX3_pick_35 : decode cX3_pick 35 = .ok (.goto 14, 3) := by decide +kernel
theorem dX3_pick_38 : decode cX3_pick 38 = .ok (.iload_n 3, 1) := by decide +kernel
theorem dX3_pick_39 : decode cX3_pick 39 = .ok (.iload_n 2, 1) := by decide +kernel
theorem dX3_pick_40 : decode cX3_pick 40 = .ok (.if_icmp .ne 6, 3) := by decide +kernel
theorem dX3_pick_43 : decode cX3_pick 43 = .ok (.iload 4, 2) := by decide +kernel
theorem dX3_pick_45 : decode cX3_pick 45 = .ok (.ireturn, 1) := by decide +kernel
theorem dX3_pick_46 : decode cX3_pick 46 = .ok (.iinc 3 1, 3) := by decide +kernel
theorem dX3_pick_49 : decode cX3_pick 49 = .ok (.iinc 4 1, 3) := by decide +kernel
theorem dX3_pick_52 : decode cX3_pick 52 = .ok (.goto (-36), 3) := by decide +kernel
theorem dX3_pick_55 : decode cX3_pick 55 = .ok (.iconst (-1), 1) := by decide +kernel
theorem dX3_pick_56 : decode cX3_pick 56 = .ok (.ireturn, 1) := by decide +kernel
theorem dX3_costOf_0 : decode cX3_costOf 0 = .ok (.iconst 0, 1) := by decide +kernel
theorem dX3_costOf_1 : decode cX3_costOf 1 = .ok (.istore_n 2, 1) := by decide +kernel
theorem dX3_costOf_2 : decode cX3_costOf 2 = .ok (.iconst 0, 1) := by decide +kernel
theorem dX3_costOf_3 : decode cX3_costOf 3 = .ok (.istore_n 3, 1) := by decide +kernel
theorem dX3_costOf_4 : decode cX3_costOf 4 = .ok (.iload_n 3, 1) := by decide +kernel
theorem dX3_costOf_5 : decode cX3_costOf 5 = .ok (.aload_n 0, 1) := by decide +kernel
theorem dX3_costOf_6 : decode cX3_costOf 6 = .ok (.getfield 55, 3) := by decide +kernel
theorem dX3_costOf_9 : decode cX3_costOf 9 = .ok (.if_icmp .ge 31, 3) := by decide +kernel
theorem dX3_costOf_12 : decode cX3_costOf 12 = .ok (.iload_n 2, 1) := by decide +kernel
theorem dX3_costOf_13 : decode cX3_costOf 13 = .ok (.iload_n 1, 1) := by decide +kernel
theorem dX3_costOf_14 : decode cX3_costOf 14 = .ok (.iload_n 3, 1) := by decide +kernel
theorem dX3_costOf_15 : decode cX3_costOf 15 = .ok (.ishr, 1) := by decide +kernel
theorem dX3_costOf_16 : decode cX3_costOf 16 = .ok (.iconst 1, 1) := by decide +kernel
theorem dX3_costOf_17 : decode cX3_costOf 17 = .ok (.iand, 1) := by decide +kernel
theorem dX3_costOf_18 : decode cX3_costOf 18 = .ok (.iconst 1, 1) := by decide +kernel
theorem dX3_costOf_19 : decode cX3_costOf 19 = .ok (.if_icmp .ne 12, 3) := by decide +kernel
theorem dX3_costOf_22 : decode cX3_costOf 22 = .ok (.aload_n 0, 1) := by decide +kernel
theorem dX3_costOf_23 : decode cX3_costOf 23 = .ok (.getfield 20, 3) := by decide +kernel
theorem dX3_costOf_26 : decode cX3_costOf 26 = .ok (.iload_n 3, 1) := by decide +kernel
theorem dX3_costOf_27 : decode cX3_costOf 27 = .ok (.iaload, 1) := by decide +kernel
theorem dX3_costOf_28 : decode cX3_costOf 28 = .ok (.goto 4, 3) := by decide +kernel
theorem dX3_costOf_31 : decode cX3_costOf 31 = .ok (.iconst 0, 1) := by decide +kernel
theorem dX3_costOf_32 : decode cX3_costOf 32 = .ok (.iadd, 1) := by decide +kernel
theorem dX3_costOf_33 : decode cX3_costOf 33 = .ok (.istore_n 2, 1) := by decide +kernel
theorem dX3_costOf_34 : decode cX3_costOf 34 = .ok (.iinc 3 1, 3) := by decide +kernel
theorem dX3_costOf_37 : decode cX3_costOf 37 = .ok (.goto (-33), 3) := by decide +kernel
theorem dX3_costOf_40 : decode cX3_costOf 40 = .ok (.iload_n 2, 1) := by decide +kernel
theorem dX3_costOf_41 : decode cX3_costOf 41 = .ok (.ireturn, 1) := by decide +kernel
theorem dX3_cheapest_0 : decode cX3_cheapest 0 = .ok (.aload_n 0, 1) := by decide +kernel
theorem dX3_cheapest_1 : decode cX3_cheapest 1 = .ok (.iload_n 1, 1) := by decide +kernel
theorem dX3_cheapest_2 : decode cX3_cheapest 2 = .ok (.invokevirtual 92, 3) := by decide +kernel
theorem dX3_cheapest_5 : decode cX3_cheapest 5 = .ok (.ifCond .ne 6, 3) := by decide +kernel
theorem dX3_cheapest_8 : decode cX3_cheapest 8 = .ok (.bipush (-2), 2) := by decide +kernel
theorem dX3_cheapest_10 : decode cX3_cheapest 10 = .ok (.ireturn, 1) := by decide +kernel
theorem dX3_cheapest_11 : decode cX3_cheapest 11 = .ok (.iconst (-1), 1) := by decide +kernel
theorem dX3_cheapest_12 : decode cX3_cheapest 12 = .ok (.istore_n 2, 1) := by decide +kernel
theorem dX3_cheapest_13 : decode cX3_cheapest 13 = .ok (.iconst 0, 1) := by decide +kernel
theorem dX3_cheapest_14 : decode cX3_cheapest 14 = .ok (.istore_n 3, 1) := by decide +kernel
theorem dX3_cheapest_15 : decode cX3_cheapest 15 = .ok (.iload_n 3, 1) := by decide +kernel
theorem dX3_cheapest_16 : decode cX3_cheapest 16 = .ok (.aload_n 0, 1) := by decide +kernel
theorem dX3_cheapest_17 : decode cX3_cheapest 17 = .ok (.getfield 59, 3) := by decide +kernel
theorem dX3_cheapest_20 : decode cX3_cheapest 20 = .ok (.if_icmp .ge 38, 3) := by decide +kernel
theorem dX3_cheapest_23 : decode cX3_cheapest 23 = .ok (.aload_n 0, 1) := by decide +kernel
theorem dX3_cheapest_24 : decode cX3_cheapest 24 = .ok (.iload_n 1, 1) := by decide +kernel
theorem dX3_cheapest_25 : decode cX3_cheapest 25 = .ok (.iload_n 3, 1) := by decide +kernel
theorem dX3_cheapest_26 : decode cX3_cheapest 26 = .ok (.invokevirtual 81, 3) := by decide +kernel
theorem dX3_cheapest_29 : decode cX3_cheapest 29 = .ok (.ifCond .eq 23, 3) := by decide +kernel
theorem dX3_cheapest_32 : decode cX3_cheapest 32 = .ok (.iload_n 2, 1) := by decide +kernel
theorem dX3_cheapest_33 : decode cX3_cheapest 33 = .ok (.iconst (-1), 1) := by decide +kernel
theorem dX3_cheapest_34 : decode cX3_cheapest 34 = .ok (.if_icmp .eq 16, 3) := by decide +kernel
theorem dX3_cheapest_37 : decode cX3_cheapest 37 = .ok (.aload_n 0, 1) := by decide +kernel
theorem dX3_cheapest_38 : decode cX3_cheapest 38 = .ok (.iload_n 3, 1) := by decide +kernel
theorem dX3_cheapest_39 : decode cX3_cheapest 39 = .ok (.invokevirtual 126, 3) := by decide +kernel
theorem dX3_cheapest_42 : decode cX3_cheapest 42 = .ok (.aload_n 0, 1) := by decide +kernel
theorem dX3_cheapest_43 : decode cX3_cheapest 43 = .ok (.iload_n 2, 1) := by decide +kernel
theorem dX3_cheapest_44 : decode cX3_cheapest 44 = .ok (.invokevirtual 126, 3) := by decide +kernel
theorem dX3_cheapest_47 : decode cX3_cheapest 47 = .ok (.if_icmp .ge 5, 3) := by decide +kernel
theorem dX3_cheapest_50 : decode cX3_cheapest 50 = .ok (.iload_n 3, 1) := by decide +kernel
theorem dX3_cheapest_51 : decode cX3_cheapest 51 = .ok (.istore_n 2, 1) := by decide +kernel
theorem dX3_cheapest_52 : decode cX3_cheapest 52 = .ok (.iinc 3 1, 3) := by decide +kernel
theorem dX3_cheapest_55 : decode cX3_cheapest 55 = .ok (.goto (-40), 3) := by decide +kernel
theorem dX3_cheapest_58 : decode cX3_cheapest 58 = .ok (.iload_n 2, 1) := by decide +kernel
theorem dX3_cheapest_59 : decode cX3_cheapest 59 = .ok (.ireturn, 1) := by decide +kernel
theorem dX3_dearest_0 : decode cX3_dearest 0 = .ok (.aload_n 0, 1) := by decide +kernel
theorem dX3_dearest_1 : decode cX3_dearest 1 = .ok (.iload_n 1, 1) := by decide +kernel
theorem dX3_dearest_2 : decode cX3_dearest 2 = .ok (.invokevirtual 92, 3) := by decide +kernel
theorem dX3_dearest_5 : decode cX3_dearest 5 = .ok (.ifCond .ne 6, 3) := by decide +kernel
theorem dX3_dearest_8 : decode cX3_dearest 8 = .ok (.bipush (-2), 2) := by decide +kernel
theorem dX3_dearest_10 : decode cX3_dearest 10 = .ok (.ireturn, 1) := by decide +kernel
theorem dX3_dearest_11 : decode cX3_dearest 11 = .ok (.iconst (-1), 1) := by decide +kernel
theorem dX3_dearest_12 : decode cX3_dearest 12 = .ok (.istore_n 2, 1) := by decide +kernel
theorem dX3_dearest_13 : decode cX3_dearest 13 = .ok (.iconst 0, 1) := by decide +kernel
theorem dX3_dearest_14 : decode cX3_dearest 14 = .ok (.istore_n 3, 1) := by decide +kernel
theorem dX3_dearest_15 : decode cX3_dearest 15 = .ok (.iload_n 3, 1) := by decide +kernel
theorem dX3_dearest_16 : decode cX3_dearest 16 = .ok (.aload_n 0, 1) := by decide +kernel
theorem dX3_dearest_17 : decode cX3_dearest 17 = .ok (.getfield 59, 3) := by decide +kernel
theorem dX3_dearest_20 : decode cX3_dearest 20 = .ok (.if_icmp .ge 28, 3) := by decide +kernel
theorem dX3_dearest_23 : decode cX3_dearest 23 = .ok (.aload_n 0, 1) := by decide +kernel
theorem dX3_dearest_24 : decode cX3_dearest 24 = .ok (.iload_n 1, 1) := by decide +kernel
theorem dX3_dearest_25 : decode cX3_dearest 25 = .ok (.iload_n 3, 1) := by decide +kernel
theorem dX3_dearest_26 : decode cX3_dearest 26 = .ok (.invokevirtual 81, 3) := by decide +kernel
theorem dX3_dearest_29 : decode cX3_dearest 29 = .ok (.ifCond .eq 13, 3) := by decide +kernel
theorem dX3_dearest_32 : decode cX3_dearest 32 = .ok (.iload_n 2, 1) := by decide +kernel
theorem dX3_dearest_33 : decode cX3_dearest 33 = .ok (.aload_n 0, 1) := by decide +kernel
theorem dX3_dearest_34 : decode cX3_dearest 34 = .ok (.iload_n 3, 1) := by decide +kernel
theorem dX3_dearest_35 : decode cX3_dearest 35 = .ok (.invokevirtual 126, 3) := by decide +kernel
theorem dX3_dearest_38 : decode cX3_dearest 38 = .ok (.invokestatic 129, 3) := by decide +kernel
theorem dX3_dearest_41 : decode cX3_dearest 41 = .ok (.istore_n 2, 1) := by decide +kernel
theorem dX3_dearest_42 : decode cX3_dearest 42 = .ok (.iinc 3 1, 3) := by decide +kernel
theorem dX3_dearest_45 : decode cX3_dearest 45 = .ok (.goto (-30), 3) := by decide +kernel
theorem dX3_dearest_48 : decode cX3_dearest 48 = .ok (.iload_n 2, 1) := by decide +kernel
theorem dX3_dearest_49 : decode cX3_dearest 49 = .ok (.ireturn, 1) := by decide +kernel
theorem dX3_differs_0 : decode cX3_differs 0 = .ok (.iconst 0, 1) := by decide +kernel
theorem dX3_differs_1 : decode cX3_differs 1 = .ok (.istore_n 3, 1) := by decide +kernel
theorem dX3_differs_2 : decode cX3_differs 2 = .ok (.iload_n 3, 1) := by decide +kernel
theorem dX3_differs_3 : decode cX3_differs 3 = .ok (.aload_n 0, 1) := by decide +kernel
theorem dX3_differs_4 : decode cX3_differs 4 = .ok (.getfield 59, 3) := by decide +kernel
theorem dX3_differs_7 : decode cX3_differs 7 = .ok (.if_icmp .ge 30, 3) := by decide +kernel
theorem dX3_differs_10 : decode cX3_differs 10 = .ok (.aload_n 0, 1) := by decide +kernel
theorem dX3_differs_11 : decode cX3_differs 11 = .ok (.iload_n 1, 1) := by decide +kernel
theorem dX3_differs_12 : decode cX3_differs 12 = .ok (.iload_n 3, 1) := by decide +kernel
theorem dX3_differs_13 : decode cX3_differs 13 = .ok (.invokevirtual 81, 3) := by decide +kernel
theorem dX3_differs_16 : decode cX3_differs 16 = .ok (.aload_n 0, 1) := by decide +kernel
theorem dX3_differs_17 : decode cX3_differs 17 = .ok (.iload_n 1, 1) := by decide +kernel
theorem dX3_differs_18 : decode cX3_differs 18 = .ok (.iload_n 3, 1) := by decide +kernel
theorem dX3_differs_19 : decode cX3_differs 19 = .ok (.iconst 1, 1) := by decide +kernel
theorem dX3_differs_20 : decode cX3_differs 20 = .ok (.iload_n 2, 1) := by decide +kernel
theorem dX3_differs_21 : decode cX3_differs 21 = .ok (.ishl, 1) := by decide +kernel
theorem dX3_differs_22 : decode cX3_differs 22 = .ok (.ixor, 1) := by decide +kernel
theorem dX3_differs_23 : decode cX3_differs 23 = .ok (.invokevirtual 81, 3) := by decide +kernel
theorem dX3_differs_26 : decode cX3_differs 26 = .ok (.if_icmp .eq 5, 3) := by decide +kernel
theorem dX3_differs_29 : decode cX3_differs 29 = .ok (.iconst 1, 1) := by decide +kernel
theorem dX3_differs_30 : decode cX3_differs 30 = .ok (.ireturn, 1) := by decide +kernel
theorem dX3_differs_31 : decode cX3_differs 31 = .ok (.iinc 3 1, 3) := by decide +kernel
theorem dX3_differs_34 : decode cX3_differs 34 = .ok (.goto (-32), 3) := by decide +kernel
theorem dX3_differs_37 : decode cX3_differs 37 = .ok (.iconst 0, 1) := by decide +kernel
theorem dX3_differs_38 : decode cX3_differs 38 = .ok (.ireturn, 1) := by decide +kernel
theorem dX3_letters_0 : decode cX3_letters 0 = .ok (.aload_n 0, 1) := by decide +kernel
theorem dX3_letters_1 : decode cX3_letters 1 = .ok (.iload_n 1, 1) := by decide +kernel
theorem dX3_letters_2 : decode cX3_letters 2 = .ok (.invokevirtual 92, 3) := by decide +kernel
theorem dX3_letters_5 : decode cX3_letters 5 = .ok (.ifCond .ne 6, 3) := by decide +kernel
theorem dX3_letters_8 : decode cX3_letters 8 = .ok (.bipush (-2), 2) := by decide +kernel
theorem dX3_letters_10 : decode cX3_letters 10 = .ok (.ireturn, 1) := by decide +kernel
theorem dX3_letters_11 : decode cX3_letters 11 = .ok (.iconst 0, 1) := by decide +kernel
theorem dX3_letters_12 : decode cX3_letters 12 = .ok (.istore_n 2, 1) := by decide +kernel
theorem dX3_letters_13 : decode cX3_letters 13 = .ok (.iconst 0, 1) := by decide +kernel
theorem dX3_letters_14 : decode cX3_letters 14 = .ok (.istore_n 3, 1) := by decide +kernel
theorem dX3_letters_15 : decode cX3_letters 15 = .ok (.iload_n 3, 1) := by decide +kernel
theorem dX3_letters_16 : decode cX3_letters 16 = .ok (.aload_n 0, 1) := by decide +kernel
theorem dX3_letters_17 : decode cX3_letters 17 = .ok (.getfield 55, 3) := by decide +kernel
theorem dX3_letters_20 : decode cX3_letters 20 = .ok (.if_icmp .ge 28, 3) := by decide +kernel
theorem dX3_letters_23 : decode cX3_letters 23 = .ok (.iload_n 2, 1) := by decide +kernel
theorem dX3_letters_24 : decode cX3_letters 24 = .ok (.aload_n 0, 1) := by decide +kernel
theorem dX3_letters_25 : decode cX3_letters 25 = .ok (.iload_n 1, 1) := by decide +kernel
theorem dX3_letters_26 : decode cX3_letters 26 = .ok (.iload_n 3, 1) := by decide +kernel
theorem dX3_letters_27 : decode cX3_letters 27 = .ok (.invokevirtual 134, 3) := by decide +kernel
theorem dX3_letters_30 : decode cX3_letters 30 = .ok (.ifCond .eq 9, 3) := by decide +kernel
theorem dX3_letters_33 : decode cX3_letters 33 = .ok (.iconst 1, 1) := by decide +kernel
theorem dX3_letters_34 : decode cX3_letters 34 = .ok (.iload_n 3, 1) := by decide +kernel
theorem dX3_letters_35 : decode cX3_letters 35 = .ok (.ishl, 1) := by decide +kernel
theorem dX3_letters_36 : decode cX3_letters 36 = .ok (.goto 4, 3) := by decide +kernel
theorem dX3_letters_39 : decode cX3_letters 39 = .ok (.iconst 0, 1) := by decide +kernel
theorem dX3_letters_40 : decode cX3_letters 40 = .ok (.ior, 1) := by decide +kernel
theorem dX3_letters_41 : decode cX3_letters 41 = .ok (.istore_n 2, 1) := by decide +kernel
theorem dX3_letters_42 : decode cX3_letters 42 = .ok (.iinc 3 1, 3) := by decide +kernel
theorem dX3_letters_45 : decode cX3_letters 45 = .ok (.goto (-30), 3) := by decide +kernel
theorem dX3_letters_48 : decode cX3_letters 48 = .ok (.iload_n 2, 1) := by decide +kernel
theorem dX3_letters_49 : decode cX3_letters 49 = .ok (.ireturn, 1) := by decide +kernel
theorem dX3_size_0 : decode cX3_size 0 = .ok (.aload_n 0, 1) := by decide +kernel
theorem dX3_size_1 : decode cX3_size 1 = .ok (.iload_n 1, 1) := by decide +kernel
theorem dX3_size_2 : decode cX3_size 2 = .ok (.invokevirtual 92, 3) := by decide +kernel
theorem dX3_size_5 : decode cX3_size 5 = .ok (.ifCond .eq 19, 3) := by decide +kernel
theorem dX3_size_8 : decode cX3_size 8 = .ok (.aload_n 0, 1) := by decide +kernel
theorem dX3_size_9 : decode cX3_size 9 = .ok (.iload_n 1, 1) := by decide +kernel
theorem dX3_size_10 : decode cX3_size 10 = .ok (.iload_n 1, 1) := by decide +kernel
theorem dX3_size_11 : decode cX3_size 11 = .ok (.iconst 1, 1) := by decide +kernel
theorem dX3_size_12 : decode cX3_size 12 = .ok (.iadd, 1) := by decide +kernel
theorem dX3_size_13 : decode cX3_size 13 = .ok (.iconst (-1), 1) := by decide +kernel
theorem dX3_size_14 : decode cX3_size 14 = .ok (.aload_n 0, 1) := by decide +kernel
theorem dX3_size_15 : decode cX3_size 15 = .ok (.getfield 24, 3) := by decide +kernel
theorem dX3_size_18 : decode cX3_size 18 = .ok (.invokevirtual 88, 3) := by decide +kernel
theorem dX3_size_21 : decode cX3_size 21 = .ok (.goto 5, 3) := by decide +kernel
theorem dX3_size_24 : decode cX3_size 24 = .ok (.bipush (-2), 2) := by decide +kernel
theorem dX3_size_26 : decode cX3_size 26 = .ok (.ireturn, 1) := by decide +kernel
theorem dX3_width_0 : decode cX3_width 0 = .ok (.aload_n 0, 1) := by decide +kernel
theorem dX3_width_1 : decode cX3_width 1 = .ok (.iload_n 1, 1) := by decide +kernel
theorem dX3_width_2 : decode cX3_width 2 = .ok (.invokevirtual 92, 3) := by decide +kernel
theorem dX3_width_5 : decode cX3_width 5 = .ok (.ifCond .eq 15, 3) := by decide +kernel
theorem dX3_width_8 : decode cX3_width 8 = .ok (.iload_n 2, 1) := by decide +kernel
theorem dX3_width_9 : decode cX3_width 9 = .ok (.ifCond .lt 11, 3) := by decide +kernel
theorem dX3_width_12 : decode cX3_width 12 = .ok (.iload_n 2, 1) := by decide +kernel
theorem dX3_width_13 : decode cX3_width 13 = .ok (.aload_n 0, 1) := by decide +kernel
theorem dX3_width_14 : decode cX3_width 14 = .ok (.getfield 55, 3) := by decide +kernel
theorem dX3_width_17 : decode cX3_width 17 = .ok (.if_icmp .lt 6, 3) := by decide +kernel
theorem dX3_width_20 : decode cX3_width 20 = .ok (.bipush (-2), 2) := by decide +kernel
theorem dX3_width_22 : decode cX3_width 22 = .ok (.ireturn, 1) := by decide +kernel
theorem dX3_width_23 : decode cX3_width 23 = .ok (.aload_n 0, 1) := by decide +kernel
theorem dX3_width_24 : decode cX3_width 24 = .ok (.iload_n 1, 1) := by decide +kernel
theorem dX3_width_25 : decode cX3_width 25 = .ok (.iload_n 1, 1) := by decide +kernel
theorem dX3_width_26 : decode cX3_width 26 = .ok (.iconst 1, 1) := by decide +kernel
theorem dX3_width_27 : decode cX3_width 27 = .ok (.iadd, 1) := by decide +kernel
theorem dX3_width_28 : decode cX3_width 28 = .ok (.iconst (-1), 1) := by decide +kernel
theorem dX3_width_29 : decode cX3_width 29 = .ok (.aload_n 0, 1) := by decide +kernel
theorem dX3_width_30 : decode cX3_width 30 = .ok (.getfield 24, 3) := by decide +kernel
theorem dX3_width_33 : decode cX3_width 33 = .ok (.invokevirtual 88, 3) := by decide +kernel
theorem dX3_width_36 : decode cX3_width 36 = .ok (.pop, 1) := by decide +kernel
theorem dX3_width_37 : decode cX3_width 37 = .ok (.aload_n 0, 1) := by decide +kernel
theorem dX3_width_38 : decode cX3_width 38 = .ok (.getfield 36, 3) := by decide +kernel
theorem dX3_width_41 : decode cX3_width 41 = .ok (.iload_n 2, 1) := by decide +kernel
theorem dX3_width_42 : decode cX3_width 42 = .ok (.iaload, 1) := by decide +kernel
theorem dX3_width_43 : decode cX3_width 43 = .ok (.ireturn, 1) := by decide +kernel
theorem dX3_point_0 : decode cX3_point 0 = .ok (.aload_n 0, 1) := by decide +kernel
theorem dX3_point_1 : decode cX3_point 1 = .ok (.iload_n 1, 1) := by decide +kernel
theorem dX3_point_2 : decode cX3_point 2 = .ok (.invokevirtual 92, 3) := by decide +kernel
theorem dX3_point_5 : decode cX3_point 5 = .ok (.ifCond .ne 6, 3) := by decide +kernel
theorem dX3_point_8 : decode cX3_point 8 = .ok (.bipush (-2), 2) := by decide +kernel
theorem dX3_point_10 : decode cX3_point 10 = .ok (.ireturn, 1) := by decide +kernel
theorem dX3_point_11 : decode cX3_point 11 = .ok (.iconst 0, 1) := by decide +kernel
theorem dX3_point_12 : decode cX3_point 12 = .ok (.istore_n 2, 1) := by decide +kernel
theorem dX3_point_13 : decode cX3_point 13 = .ok (.iload_n 2, 1) := by decide +kernel
theorem dX3_point_14 : decode cX3_point 14 = .ok (.aload_n 0, 1) := by decide +kernel
theorem dX3_point_15 : decode cX3_point 15 = .ok (.getfield 59, 3) := by decide +kernel
theorem dX3_point_18 : decode cX3_point 18 = .ok (.if_icmp .ge 21, 3) := by decide +kernel
theorem dX3_point_21 : decode cX3_point 21 = .ok (.aload_n 0, 1) := by decide +kernel
theorem dX3_point_22 : decode cX3_point 22 = .ok (.getfield 17, 3) := by decide +kernel
theorem dX3_point_25 : decode cX3_point 25 = .ok (.iload_n 2, 1) := by decide +kernel
theorem dX3_point_26 : decode cX3_point 26 = .ok (.aload_n 0, 1) := by decide +kernel
theorem dX3_point_27 : decode cX3_point 27 = .ok (.iload_n 1, 1) := by decide +kernel
theorem dX3_point_28 : decode cX3_point 28 = .ok (.iload_n 2, 1) := by decide +kernel
theorem dX3_point_29 : decode cX3_point 29 = .ok (.invokevirtual 81, 3) := by decide +kernel
theorem dX3_point_32 : decode cX3_point 32 = .ok (.bastore, 1) := by decide +kernel
theorem dX3_point_33 : decode cX3_point 33 = .ok (.iinc 2 1, 3) := by decide +kernel
theorem dX3_point_36 : decode cX3_point 36 = .ok (.goto (-23), 3) := by decide +kernel
theorem dX3_point_39 : decode cX3_point 39 = .ok (.iconst 0, 1) := by decide +kernel
theorem dX3_point_40 : decode cX3_point 40 = .ok (.ireturn, 1) := by decide +kernel
theorem dX3_firstLetter_0 : decode cX3_firstLetter 0 = .ok (.iconst 0, 1) := by decide +kernel
theorem dX3_firstLetter_1 : decode cX3_firstLetter 1 = .ok (.istore_n 1, 1) := by decide +kernel
theorem dX3_firstLetter_2 : decode cX3_firstLetter 2 = .ok (.iload_n 1, 1) := by decide +kernel
theorem dX3_firstLetter_3 : decode cX3_firstLetter 3 = .ok (.aload_n 0, 1) := by decide +kernel
theorem dX3_firstLetter_4 : decode cX3_firstLetter 4 = .ok (.getfield 55, 3) := by decide +kernel
theorem dX3_firstLetter_7 : decode cX3_firstLetter 7 = .ok (.if_icmp .ge 56, 3) := by decide +kernel
theorem dX3_firstLetter_10 : decode cX3_firstLetter 10 = .ok (.iconst 0, 1) := by decide +kernel
theorem dX3_firstLetter_11 : decode cX3_firstLetter 11 = .ok (.istore_n 2, 1) := by decide +kernel
theorem dX3_firstLetter_12 : decode cX3_firstLetter 12 = .ok (.iload_n 2, 1) := by decide +kernel
theorem dX3_firstLetter_13 : decode cX3_firstLetter 13 = .ok (.aload_n 0, 1) := by decide +kernel
theorem dX3_firstLetter_14 : decode cX3_firstLetter 14 = .ok (.getfield 59, 3) := by decide +kernel
theorem dX3_firstLetter_17 : decode cX3_firstLetter 17 = .ok (.if_icmp .ge 40, 3) := by decide +kernel
theorem dX3_firstLetter_20 : decode cX3_firstLetter 20 = .ok (.aload_n 0, 1) := by decide +kernel
theorem dX3_firstLetter_21 : decode cX3_firstLetter 21 = .ok (.getfield 17, 3) := by decide +kernel
theorem dX3_firstLetter_24 : decode cX3_firstLetter 24 = .ok (.iload_n 2, 1) := by decide +kernel
theorem dX3_firstLetter_25 : decode cX3_firstLetter 25 = .ok (.baload, 1) := by decide +kernel
theorem dX3_firstLetter_26 : decode cX3_firstLetter 26 = .ok (.aload_n 0, 1) := by decide +kernel
theorem dX3_firstLetter_27 : decode cX3_firstLetter 27 = .ok (.getfield 17, 3) := by decide +kernel
theorem dX3_firstLetter_30 : decode cX3_firstLetter 30 = .ok (.iload_n 2, 1) := by decide +kernel
theorem dX3_firstLetter_31 : decode cX3_firstLetter 31 = .ok (.iconst 1, 1) := by decide +kernel
theorem dX3_firstLetter_32 : decode cX3_firstLetter 32 = .ok (.aload_n 0, 1) := by decide +kernel
theorem dX3_firstLetter_33 : decode cX3_firstLetter 33 = .ok (.getfield 24, 3) := by decide +kernel
theorem dX3_firstLetter_36 : decode cX3_firstLetter 36 = .ok (.iload_n 1, 1) := by decide +kernel
theorem dX3_firstLetter_37 : decode cX3_firstLetter 37 = .ok (.iaload, 1) := by decide +kernel
theorem dX3_firstLetter_38 : decode cX3_firstLetter 38 = .ok (.ishl, 1) := by decide +kernel
theorem dX3_firstLetter_39 : decode cX3_firstLetter 39 = .ok (.ixor, 1) := by decide +kernel
theorem dX3_firstLetter_40 : decode cX3_firstLetter 40 = .ok (.baload, 1) := by decide +kernel
theorem dX3_firstLetter_41 : decode cX3_firstLetter 41 = .ok (.if_icmp .eq 10, 3) := by decide +kernel
theorem dX3_firstLetter_44 : decode cX3_firstLetter 44 = .ok (.aload_n 0, 1) := by decide +kernel
theorem dX3_firstLetter_45 : decode cX3_firstLetter 45 = .ok (.getfield 24, 3) := by decide +kernel
theorem dX3_firstLetter_48 : decode cX3_firstLetter 48 = .ok (.iload_n 1, 1) := by decide +kernel
theorem dX3_firstLetter_49 : decode cX3_firstLetter 49 = .ok (.iaload, 1) := by decide +kernel
theorem dX3_firstLetter_50 : decode cX3_firstLetter 50 = .ok (.ireturn, 1) := by decide +kernel
theorem dX3_firstLetter_51 : decode cX3_firstLetter 51 = .ok (.iinc 2 1, 3) := by decide +kernel
theorem dX3_firstLetter_54 : decode cX3_firstLetter 54 = .ok (.goto (-42), 3) := by decide +kernel
theorem dX3_firstLetter_57 : decode cX3_firstLetter 57 = .ok (.iinc 1 1, 3) := by decide +kernel
theorem dX3_firstLetter_60 : decode cX3_firstLetter 60 = .ok (.goto (-58), 3) := by decide +kernel
theorem dX3_firstLetter_63 : decode cX3_firstLetter 63 = .ok (.iconst (-1), 1) := by decide +kernel
theorem dX3_firstLetter_64 : decode cX3_firstLetter 64 = .ok (.ireturn, 1) := by decide +kernel
theorem dX3_go_0 : decode cX3_go 0 = .ok (.aload_n 0, 1) := by decide +kernel
theorem dX3_go_1 : decode cX3_go 1 = .ok (.invokevirtual 137, 3) := by decide +kernel
theorem dX3_go_4 : decode cX3_go 4 = .ok (.istore_n 2, 1) := by decide +kernel
theorem dX3_go_5 : decode cX3_go 5 = .ok (.iload_n 2, 1) := by decide +kernel
theorem dX3_go_6 : decode cX3_go 6 = .ok (.iconst (-1), 1) := by decide +kernel
theorem dX3_go_7 : decode cX3_go 7 = .ok (.if_icmp .ne 5, 3) := by decide +kernel
theorem dX3_go_10 : decode cX3_go 10 = .ok (.iconst 0, 1) := by decide +kernel
theorem dX3_go_11 : decode cX3_go 11 = .ok (.ireturn, 1) := by decide +kernel
theorem dX3_go_12 : decode cX3_go 12 = .ok (.iconst 0, 1) := by decide +kernel
theorem dX3_go_13 : decode cX3_go 13 = .ok (.istore_n 3, 1) := by decide +kernel
theorem dX3_go_14 : decode cX3_go 14 = .ok (.iload_n 3, 1) := by decide +kernel
theorem dX3_go_15 : decode cX3_go 15 = .ok (.aload_n 0, 1) := by decide +kernel
theorem dX3_go_16 : decode cX3_go 16 = .ok (.getfield 59, 3) := by decide +kernel
theorem dX3_go_19 : decode cX3_go 19 = .ok (.if_icmp .ge 26, 3) := by decide +kernel
theorem dX3_go_22 : decode cX3_go 22 = .ok (.aload_n 0, 1) := by decide +kernel
theorem dX3_go_23 : decode cX3_go 23 = .ok (.getfield 14, 3) := by decide +kernel
theorem dX3_go_26 : decode cX3_go 26 = .ok (.iload_n 3, 1) := by decide +kernel
theorem dX3_go_27 : decode cX3_go 27 = .ok (.aload_n 0, 1) := by decide +kernel
theorem dX3_go_28 : decode cX3_go 28 = .ok (.getfield 17, 3) := by decide +kernel
theorem dX3_go_31 : decode cX3_go 31 = .ok (.iload_n 3, 1) := by decide +kernel
theorem dX3_go_32 : decode cX3_go 32 = .ok (.iload_n 2, 1) := by decide +kernel
theorem dX3_go_33 : decode cX3_go 33 = .ok (.iload_n 1, 1) := by decide +kernel
theorem dX3_go_34 : decode cX3_go 34 = .ok (.invokestatic 103, 3) := by decide +kernel
theorem dX3_go_37 : decode cX3_go 37 = .ok (.baload, 1) := by decide +kernel
theorem dX3_go_38 : decode cX3_go 38 = .ok (.bastore, 1) := by decide +kernel
theorem dX3_go_39 : decode cX3_go 39 = .ok (.iinc 3 1, 3) := by decide +kernel
theorem dX3_go_42 : decode cX3_go 42 = .ok (.goto (-28), 3) := by decide +kernel
theorem dX3_go_45 : decode cX3_go 45 = .ok (.iconst 0, 1) := by decide +kernel
theorem dX3_go_46 : decode cX3_go 46 = .ok (.istore_n 3, 1) := by decide +kernel
theorem dX3_go_47 : decode cX3_go 47 = .ok (.iload_n 3, 1) := by decide +kernel
theorem dX3_go_48 : decode cX3_go 48 = .ok (.aload_n 0, 1) := by decide +kernel
theorem dX3_go_49 : decode cX3_go 49 = .ok (.getfield 59, 3) := by decide +kernel
theorem dX3_go_52 : decode cX3_go 52 = .ok (.if_icmp .ge 21, 3) := by decide +kernel
theorem dX3_go_55 : decode cX3_go 55 = .ok (.aload_n 0, 1) := by decide +kernel
theorem dX3_go_56 : decode cX3_go 56 = .ok (.getfield 17, 3) := by decide +kernel
theorem dX3_go_59 : decode cX3_go 59 = .ok (.iload_n 3, 1) := by decide +kernel
theorem dX3_go_60 : decode cX3_go 60 = .ok (.aload_n 0, 1) := by decide +kernel
theorem dX3_go_61 : decode cX3_go 61 = .ok (.getfield 14, 3) := by decide +kernel
theorem dX3_go_64 : decode cX3_go 64 = .ok (.iload_n 3, 1) := by decide +kernel
theorem dX3_go_65 : decode cX3_go 65 = .ok (.baload, 1) := by decide +kernel
theorem dX3_go_66 : decode cX3_go 66 = .ok (.bastore, 1) := by decide +kernel
theorem dX3_go_67 : decode cX3_go 67 = .ok (.iinc 3 1, 3) := by decide +kernel
theorem dX3_go_70 : decode cX3_go 70 = .ok (.goto (-23), 3) := by decide +kernel
theorem dX3_go_73 : decode cX3_go 73 = .ok (.iconst 1, 1) := by decide +kernel
theorem dX3_go_74 : decode cX3_go 74 = .ok (.ireturn, 1) := by decide +kernel
theorem dX3_at_0 : decode cX3_at 0 = .ok (.aload_n 0, 1) := by decide +kernel
theorem dX3_at_1 : decode cX3_at 1 = .ok (.invokevirtual 137, 3) := by decide +kernel
theorem dX3_at_4 : decode cX3_at 4 = .ok (.istore_n 1, 1) := by decide +kernel
theorem dX3_at_5 : decode cX3_at 5 = .ok (.iload_n 1, 1) := by decide +kernel
theorem dX3_at_6 : decode cX3_at 6 = .ok (.iconst (-1), 1) := by decide +kernel
theorem dX3_at_7 : decode cX3_at 7 = .ok (.if_icmp .eq 7, 3) := by decide +kernel
theorem dX3_at_10 : decode cX3_at 10 = .ok (.iload_n 1, 1) := by decide +kernel
theorem dX3_at_11 : decode cX3_at 11 = .ok (.goto 19, 3) := by decide +kernel
theorem dX3_at_14 : decode cX3_at 14 = .ok (.aload_n 0, 1) := by decide +kernel
theorem dX3_at_15 : decode cX3_at 15 = .ok (.getfield 17, 3) := by decide +kernel
theorem dX3_at_18 : decode cX3_at 18 = .ok (.iconst 0, 1) := by decide +kernel
theorem dX3_at_19 : decode cX3_at 19 = .ok (.baload, 1) := by decide +kernel
theorem dX3_at_20 : decode cX3_at 20 = .ok (.ifCond .eq 8, 3) := by decide +kernel
theorem dX3_at_23 : decode cX3_at 23 = .ok (.bipush (-3), 2) := by decide +kernel
theorem dX3_at_25 : decode cX3_at 25 = .ok (.goto 5, 3) := by decide +kernel
theorem dX3_at_28 : decode cX3_at 28 = .ok (.bipush (-2), 2) := by decide +kernel
theorem dX3_at_30 : decode cX3_at 30 = .ok (.ireturn, 1) := by decide +kernel
theorem dX3_level_0 : decode cX3_level 0 = .ok (.iload_n 1, 1) := by decide +kernel
theorem dX3_level_1 : decode cX3_level 1 = .ok (.ifCond .lt 20, 3) := by decide +kernel
theorem dX3_level_4 : decode cX3_level 4 = .ok (.iload_n 1, 1) := by decide +kernel
theorem dX3_level_5 : decode cX3_level 5 = .ok (.aload_n 0, 1) := by decide +kernel
theorem dX3_level_6 : decode cX3_level 6 = .ok (.getfield 55, 3) := by decide +kernel
theorem dX3_level_9 : decode cX3_level 9 = .ok (.if_icmp .ge 12, 3) := by decide +kernel
theorem dX3_level_12 : decode cX3_level 12 = .ok (.iload_n 2, 1) := by decide +kernel
theorem dX3_level_13 : decode cX3_level 13 = .ok (.ifCond .lt 8, 3) := by decide +kernel
theorem dX3_level_16 : decode cX3_level 16 = .ok (.iload_n 2, 1) := by decide +kernel
theorem dX3_level_17 : decode cX3_level 17 = .ok (.iconst 1, 1) := by decide +kernel
theorem dX3_level_18 : decode cX3_level 18 = .ok (.if_icmp .le 5, 3) := by decide +kernel
theorem dX3_level_21 : decode cX3_level 21 = .ok (.iconst (-1), 1) := by decide +kernel
theorem dX3_level_22 : decode cX3_level 22 = .ok (.ireturn, 1) := by decide +kernel
theorem dX3_level_23 : decode cX3_level 23 = .ok (.iload_n 2, 1) := by decide +kernel
theorem dX3_level_24 : decode cX3_level 24 = .ok (.ifCond .ne 10, 3) := by decide +kernel
theorem dX3_level_27 : decode cX3_level 27 = .ok (.aload_n 0, 1) := by decide +kernel
theorem dX3_level_28 : decode cX3_level 28 = .ok (.getfield 24, 3) := by decide +kernel
theorem dX3_level_31 : decode cX3_level 31 = .ok (.iload_n 1, 1) := by decide +kernel
theorem dX3_level_32 : decode cX3_level 32 = .ok (.iaload, 1) := by decide +kernel
theorem dX3_level_33 : decode cX3_level 33 = .ok (.ireturn, 1) := by decide +kernel
theorem dX3_level_34 : decode cX3_level 34 = .ok (.aload_n 0, 1) := by decide +kernel
theorem dX3_level_35 : decode cX3_level 35 = .ok (.iconst 0, 1) := by decide +kernel
theorem dX3_level_36 : decode cX3_level 36 = .ok (.bipush 32, 2) := by decide +kernel
theorem dX3_level_38 : decode cX3_level 38 = .ok (.iconst (-1), 1) := by decide +kernel
theorem dX3_level_39 : decode cX3_level 39 = .ok (.aload_n 0, 1) := by decide +kernel
theorem dX3_level_40 : decode cX3_level 40 = .ok (.getfield 24, 3) := by decide +kernel
theorem dX3_level_43 : decode cX3_level 43 = .ok (.invokevirtual 88, 3) := by decide +kernel
theorem dX3_level_46 : decode cX3_level 46 = .ok (.pop, 1) := by decide +kernel
theorem dX3_level_47 : decode cX3_level 47 = .ok (.aload_n 0, 1) := by decide +kernel
theorem dX3_level_48 : decode cX3_level 48 = .ok (.getfield 36, 3) := by decide +kernel
theorem dX3_level_51 : decode cX3_level 51 = .ok (.iload_n 1, 1) := by decide +kernel
theorem dX3_level_52 : decode cX3_level 52 = .ok (.iaload, 1) := by decide +kernel
theorem dX3_level_53 : decode cX3_level 53 = .ok (.ireturn, 1) := by decide +kernel
theorem dX3_count_0 : decode cX3_count 0 = .ok (.iload_n 1, 1) := by decide +kernel
theorem dX3_count_1 : decode cX3_count 1 = .ok (.tableswitch 59 0 3 #[31, 36, 41, 54], 31) := by decide +kernel
theorem dX3_count_32 : decode cX3_count 32 = .ok (.aload_n 0, 1) := by decide +kernel
theorem dX3_count_33 : decode cX3_count 33 = .ok (.getfield 55, 3) := by decide +kernel
theorem dX3_count_36 : decode cX3_count 36 = .ok (.ireturn, 1) := by decide +kernel
theorem dX3_count_37 : decode cX3_count 37 = .ok (.aload_n 0, 1) := by decide +kernel
theorem dX3_count_38 : decode cX3_count 38 = .ok (.getfield 62, 3) := by decide +kernel
theorem dX3_count_41 : decode cX3_count 41 = .ok (.ireturn, 1) := by decide +kernel
theorem dX3_count_42 : decode cX3_count 42 = .ok (.aload_n 0, 1) := by decide +kernel
theorem dX3_count_43 : decode cX3_count 43 = .ok (.iconst 0, 1) := by decide +kernel
theorem dX3_count_44 : decode cX3_count 44 = .ok (.bipush 32, 2) := by decide +kernel
theorem dX3_count_46 : decode cX3_count 46 = .ok (.iconst (-1), 1) := by decide +kernel
theorem dX3_count_47 : decode cX3_count 47 = .ok (.aload_n 0, 1) := by decide +kernel
theorem dX3_count_48 : decode cX3_count 48 = .ok (.getfield 24, 3) := by decide +kernel
theorem dX3_count_51 : decode cX3_count 51 = .ok (.invokevirtual 88, 3) := by decide +kernel
theorem dX3_count_54 : decode cX3_count 54 = .ok (.ireturn, 1) := by decide +kernel
theorem dX3_count_55 : decode cX3_count 55 = .ok (.aload_n 0, 1) := by decide +kernel
theorem dX3_count_56 : decode cX3_count 56 = .ok (.invokevirtual 140, 3) := by decide +kernel
theorem dX3_count_59 : decode cX3_count 59 = .ok (.ireturn, 1) := by decide +kernel
theorem dX3_count_60 : decode cX3_count 60 = .ok (.iconst (-1), 1) := by decide +kernel
theorem dX3_count_61 : decode cX3_count 61 = .ok (.ireturn, 1) := by decide +kernel
theorem dX3_mixed_0 : decode cX3_mixed 0 = .ok (.iconst 0, 1) := by decide +kernel
theorem dX3_mixed_1 : decode cX3_mixed 1 = .ok (.istore_n 1, 1) := by decide +kernel
theorem dX3_mixed_2 : decode cX3_mixed 2 = .ok (.iconst 0, 1) := by decide +kernel
theorem dX3_mixed_3 : decode cX3_mixed 3 = .ok (.istore_n 2, 1) := by decide +kernel
theorem dX3_mixed_4 : decode cX3_mixed 4 = .ok (.iload_n 2, 1) := by decide +kernel
theorem dX3_mixed_5 : decode cX3_mixed 5 = .ok (.bipush 32, 2) := by decide +kernel
theorem dX3_mixed_7 : decode cX3_mixed 7 = .ok (.if_icmp .ge 37, 3) := by decide +kernel
theorem dX3_mixed_10 : decode cX3_mixed 10 = .ok (.iload_n 1, 1) := by decide +kernel
theorem dX3_mixed_11 : decode cX3_mixed 11 = .ok (.aload_n 0, 1) := by decide +kernel
theorem dX3_mixed_12 : decode cX3_mixed 12 = .ok (.iload_n 2, 1) := by decide +kernel
theorem dX3_mixed_13 : decode cX3_mixed 13 = .ok (.invokevirtual 111, 3) := by decide +kernel
theorem dX3_mixed_16 : decode cX3_mixed 16 = .ok (.ifCond .le 19, 3) := by decide +kernel
theorem dX3_mixed_19 : decode cX3_mixed 19 = .ok (.aload_n 0, 1) := by decide +kernel
theorem dX3_mixed_20 : decode cX3_mixed 20 = .ok (.iload_n 2, 1) := by decide +kernel
theorem dX3_mixed_21 : decode cX3_mixed 21 = .ok (.invokevirtual 111, 3) := by decide +kernel
theorem dX3_mixed_24 : decode cX3_mixed 24 = .ok (.aload_n 0, 1) := by decide +kernel
theorem dX3_mixed_25 : decode cX3_mixed 25 = .ok (.getfield 59, 3) := by decide +kernel
theorem dX3_mixed_28 : decode cX3_mixed 28 = .ok (.if_icmp .ge 7, 3) := by decide +kernel
theorem dX3_mixed_31 : decode cX3_mixed 31 = .ok (.iconst 1, 1) := by decide +kernel
theorem dX3_mixed_32 : decode cX3_mixed 32 = .ok (.goto 4, 3) := by decide +kernel
theorem dX3_mixed_35 : decode cX3_mixed 35 = .ok (.iconst 0, 1) := by decide +kernel
theorem dX3_mixed_36 : decode cX3_mixed 36 = .ok (.iadd, 1) := by decide +kernel
theorem dX3_mixed_37 : decode cX3_mixed 37 = .ok (.istore_n 1, 1) := by decide +kernel
theorem dX3_mixed_38 : decode cX3_mixed 38 = .ok (.iinc 2 1, 3) := by decide +kernel
theorem dX3_mixed_41 : decode cX3_mixed 41 = .ok (.goto (-37), 3) := by decide +kernel
theorem dX3_mixed_44 : decode cX3_mixed 44 = .ok (.iload_n 1, 1) := by decide +kernel
theorem dX3_mixed_45 : decode cX3_mixed 45 = .ok (.ireturn, 1) := by decide +kernel
