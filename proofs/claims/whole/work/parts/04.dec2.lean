theorem dX2_init_0 : decode cX2_init 0 = .ok (.aload_n 0, 1) := by decide +kernel
theorem dX2_init_1 : decode cX2_init 1 = .ok (.invokespecial 3, 3) := by decide +kernel
theorem dX2_init_4 : decode cX2_init 4 = .ok (.aload_n 0, 1) := by decide +kernel
theorem dX2_init_5 : decode cX2_init 5 = .ok (.bipush 34, 2) := by decide +kernel
theorem dX2_init_7 : decode cX2_init 7 = .ok (.bipush 64, 2) := by decide +kernel
theorem dX2_init_9 : decode cX2_init 9 = .ok (.multianewarray 11 2, 4) := by decide +kernel
theorem dX2_init_13 : decode cX2_init 13 = .ok (.putfield 13, 3) := by decide +kernel
theorem dX2_init_16 : decode cX2_init 16 = .ok (.aload_n 0, 1) := by decide +kernel
theorem dX2_init_17 : decode cX2_init 17 = .ok (.bipush 12, 2) := by decide +kernel
theorem dX2_init_19 : decode cX2_init 19 = .ok (.newarray .int, 2) := by decide +kernel
theorem dX2_init_21 : decode cX2_init 21 = .ok (.putfield 16, 3) := by decide +kernel
theorem dX2_init_24 : decode cX2_init 24 = .ok (.aload_n 0, 1) := by decide +kernel
theorem dX2_init_25 : decode cX2_init 25 = .ok (.bipush 12, 2) := by decide +kernel
theorem dX2_init_27 : decode cX2_init 27 = .ok (.newarray .int, 2) := by decide +kernel
theorem dX2_init_29 : decode cX2_init 29 = .ok (.putfield 20, 3) := by decide +kernel
theorem dX2_init_32 : decode cX2_init 32 = .ok (.aload_n 0, 1) := by decide +kernel
theorem dX2_init_33 : decode cX2_init 33 = .ok (.sipush 8192, 3) := by decide +kernel
theorem dX2_init_36 : decode cX2_init 36 = .ok (.newarray .int, 2) := by decide +kernel
theorem dX2_init_38 : decode cX2_init 38 = .ok (.putfield 23, 3) := by decide +kernel
theorem dX2_init_41 : decode cX2_init 41 = .ok (.aload_n 0, 1) := by decide +kernel
theorem dX2_init_42 : decode cX2_init 42 = .ok (.sipush 8192, 3) := by decide +kernel
theorem dX2_init_45 : decode cX2_init 45 = .ok (.newarray .int, 2) := by decide +kernel
theorem dX2_init_47 : decode cX2_init 47 = .ok (.putfield 26, 3) := by decide +kernel
theorem dX2_init_50 : decode cX2_init 50 = .ok (.aload_n 0, 1) := by decide +kernel
theorem dX2_init_51 : decode cX2_init 51 = .ok (.new 29, 3) := by decide +kernel
theorem dX2_init_54 : decode cX2_init 54 = .ok (.dup, 1) := by decide +kernel
theorem dX2_init_55 : decode cX2_init 55 = .ok (.invokespecial 31, 3) := by decide +kernel
theorem dX2_init_58 : decode cX2_init 58 = .ok (.putfield 32, 3) := by decide +kernel
theorem dX2_init_61 : decode cX2_init 61 = .ok (.aload_n 0, 1) := by decide +kernel
theorem dX2_init_62 : decode cX2_init 62 = .ok (.bipush 6, 2) := by decide +kernel
theorem dX2_init_64 : decode cX2_init 64 = .ok (.sipush 2000, 3) := by decide +kernel
theorem dX2_init_67 : decode cX2_init 67 = .ok (.invokevirtual 36, 3) := by decide +kernel
theorem dX2_init_70 : decode cX2_init 70 = .ok (.return_, 1) := by decide +kernel
theorem dX2_fresh_0 : decode cX2_fresh 0 = .ok (.iload_n 1, 1) := by decide +kernel
theorem dX2_fresh_1 : decode cX2_fresh 1 = .ok (.iconst 1, 1) := by decide +kernel
theorem dX2_fresh_2 : decode cX2_fresh 2 = .ok (.if_icmp .lt 20, 3) := by decide +kernel
theorem dX2_fresh_5 : decode cX2_fresh 5 = .ok (.iload_n 1, 1) := by decide +kernel
theorem dX2_fresh_6 : decode cX2_fresh 6 = .ok (.bipush 12, 2) := by decide +kernel
theorem dX2_fresh_8 : decode cX2_fresh 8 = .ok (.if_icmp .gt 14, 3) := by decide +kernel
theorem dX2_fresh_11 : decode cX2_fresh 11 = .ok (.iload_n 2, 1) := by decide +kernel
theorem dX2_fresh_12 : decode cX2_fresh 12 = .ok (.ifCond .lt 10, 3) := by decide +kernel
theorem dX2_fresh_15 : decode cX2_fresh 15 = .ok (.iload_n 2, 1) := by decide +kernel
theorem dX2_fresh_16 : decode cX2_fresh 16 = .ok (.sipush 20000, 3) := by decide +kernel
theorem dX2_fresh_19 : decode cX2_fresh 19 = .ok (.if_icmp .le 5, 3) := by decide +kernel
theorem dX2_fresh_22 : decode cX2_fresh 22 = .ok (.iconst 0, 1) := by decide +kernel
theorem dX2_fresh_23 : decode cX2_fresh 23 = .ok (.ireturn, 1) := by decide +kernel
theorem dX2_fresh_24 : decode cX2_fresh 24 = .ok (.aload_n 0, 1) := by decide +kernel
theorem dX2_fresh_25 : decode cX2_fresh 25 = .ok (.iload_n 1, 1) := by decide +kernel
theorem dX2_fresh_26 : decode cX2_fresh 26 = .ok (.iload_n 2, 1) := by decide +kernel
theorem dX2_fresh_27 : decode cX2_fresh 27 = .ok (.invokevirtual 36, 3) := by decide +kernel
theorem dX2_fresh_30 : decode cX2_fresh 30 = .ok (.iconst 1, 1) := by decide +kernel
theorem dX2_fresh_31 : decode cX2_fresh 31 = .ok (.ireturn, 1) := by decide +kernel
theorem dX2_constant_0 : decode cX2_constant 0 = .ok (.iload_n 1, 1) := by decide +kernel
theorem dX2_constant_1 : decode cX2_constant 1 = .ok (.invokestatic 40, 3) := by decide +kernel
theorem dX2_constant_4 : decode cX2_constant 4 = .ok (.ifCond .ne 6, 3) := by decide +kernel
theorem dX2_constant_7 : decode cX2_constant 7 = .ok (.bipush (-2), 2) := by decide +kernel
theorem dX2_constant_9 : decode cX2_constant 9 = .ok (.ireturn, 1) := by decide +kernel
theorem dX2_constant_10 : decode cX2_constant 10 = .ok (.aload_n 0, 1) := by decide +kernel
theorem dX2_constant_11 : decode cX2_constant 11 = .ok (.getfield 13, 3) := by decide +kernel
theorem dX2_constant_14 : decode cX2_constant 14 = .ok (.iload_n 1, 1) := by decide +kernel
theorem dX2_constant_15 : decode cX2_constant 15 = .ok (.aaload, 1) := by decide +kernel
theorem dX2_constant_16 : decode cX2_constant 16 = .ok (.iconst 0, 1) := by decide +kernel
theorem dX2_constant_17 : decode cX2_constant 17 = .ok (.aload_n 0, 1) := by decide +kernel
theorem dX2_constant_18 : decode cX2_constant 18 = .ok (.getfield 44, 3) := by decide +kernel
theorem dX2_constant_21 : decode cX2_constant 21 = .ok (.iload_n 2, 1) := by decide +kernel
theorem dX2_constant_22 : decode cX2_constant 22 = .ok (.ifCond .eq 10, 3) := by decide +kernel
theorem dX2_constant_25 : decode cX2_constant 25 = .ok (.aload_n 0, 1) := by decide +kernel
theorem dX2_constant_26 : decode cX2_constant 26 = .ok (.getfield 48, 3) := by decide +kernel
theorem dX2_constant_29 : decode cX2_constant 29 = .ok (.goto 4, 3) := by decide +kernel
theorem dX2_constant_32 : decode cX2_constant 32 = .ok (.lconst 0, 1) := by decide +kernel
theorem dX2_constant_33 : decode cX2_constant 33 = .ok (.invokestatic 52, 3) := by decide +kernel
theorem dX2_constant_36 : decode cX2_constant 36 = .ok (.aload_n 0, 1) := by decide +kernel
theorem dX2_constant_37 : decode cX2_constant 37 = .ok (.invokevirtual 58, 3) := by decide +kernel
theorem dX2_constant_40 : decode cX2_constant 40 = .ok (.iconst 0, 1) := by decide +kernel
theorem dX2_constant_41 : decode cX2_constant 41 = .ok (.ireturn, 1) := by decide +kernel
theorem dX2_letter_0 : decode cX2_letter 0 = .ok (.iload_n 1, 1) := by decide +kernel
theorem dX2_letter_1 : decode cX2_letter 1 = .ok (.invokestatic 40, 3) := by decide +kernel
theorem dX2_letter_4 : decode cX2_letter 4 = .ok (.ifCond .eq 11, 3) := by decide +kernel
theorem dX2_letter_7 : decode cX2_letter 7 = .ok (.aload_n 0, 1) := by decide +kernel
theorem dX2_letter_8 : decode cX2_letter 8 = .ok (.iload_n 2, 1) := by decide +kernel
theorem dX2_letter_9 : decode cX2_letter 9 = .ok (.invokevirtual 61, 3) := by decide +kernel
theorem dX2_letter_12 : decode cX2_letter 12 = .ok (.ifCond .ne 6, 3) := by decide +kernel
theorem dX2_letter_15 : decode cX2_letter 15 = .ok (.bipush (-2), 2) := by decide +kernel
theorem dX2_letter_17 : decode cX2_letter 17 = .ok (.ireturn, 1) := by decide +kernel
theorem dX2_letter_18 : decode cX2_letter 18 = .ok (.aload_n 0, 1) := by decide +kernel
theorem dX2_letter_19 : decode cX2_letter 19 = .ok (.iload_n 2, 1) := by decide +kernel
theorem dX2_letter_20 : decode cX2_letter 20 = .ok (.invokevirtual 64, 3) := by decide +kernel
theorem dX2_letter_23 : decode cX2_letter 23 = .ok (.istore_n 3, 1) := by decide +kernel
theorem dX2_letter_24 : decode cX2_letter 24 = .ok (.aload_n 0, 1) := by decide +kernel
theorem dX2_letter_25 : decode cX2_letter 25 = .ok (.getfield 13, 3) := by decide +kernel
theorem dX2_letter_28 : decode cX2_letter 28 = .ok (.bipush 32, 2) := by decide +kernel
theorem dX2_letter_30 : decode cX2_letter 30 = .ok (.aaload, 1) := by decide +kernel
theorem dX2_letter_31 : decode cX2_letter 31 = .ok (.astore 4, 2) := by decide +kernel
theorem dX2_letter_33 : decode cX2_letter 33 = .ok (.iconst 0, 1) := by decide +kernel
theorem dX2_letter_34 : decode cX2_letter 34 = .ok (.istore 5, 2) := by decide +kernel
theorem dX2_letter_36 : decode cX2_letter 36 = .ok (.iload 5, 2) := by decide +kernel
theorem dX2_letter_38 : decode cX2_letter 38 = .ok (.aload_n 0, 1) := by decide +kernel
theorem dX2_letter_39 : decode cX2_letter 39 = .ok (.getfield 44, 3) := by decide +kernel
theorem dX2_letter_42 : decode cX2_letter 42 = .ok (.if_icmp .ge 25, 3) := by decide +kernel
theorem dX2_letter_45 : decode cX2_letter 45 = .ok (.aload 4, 2) := by decide +kernel
theorem dX2_letter_47 : decode cX2_letter 47 = .ok (.iload 5, 2) := by decide +kernel
theorem dX2_letter_49 : decode cX2_letter 49 = .ok (.iload 5, 2) := by decide +kernel
theorem dX2_letter_51 : decode cX2_letter 51 = .ok (.iload_n 3, 1) := by decide +kernel
theorem dX2_letter_52 : decode cX2_letter 52 = .ok (.invokestatic 68, 3) := by decide +kernel
theorem dX2_letter_55 : decode cX2_letter 55 = .ok (.aload_n 0, 1) := by decide +kernel
theorem dX2_letter_56 : decode cX2_letter 56 = .ok (.getfield 48, 3) := by decide +kernel
theorem dX2_letter_59 : decode cX2_letter 59 = .ok (.land, 1) := by decide +kernel
theorem dX2_letter_60 : decode cX2_letter 60 = .ok (.lastore, 1) := by decide +kernel
theorem dX2_letter_61 : decode cX2_letter 61 = .ok (.iinc 5 1, 3) := by decide +kernel
theorem dX2_letter_64 : decode cX2_letter 64 = .ok (.goto (-28), 3) := by decide +kernel
theorem dX2_letter_67 : decode cX2_letter 67 = .ok (.aload_n 0, 1) := by decide +kernel
theorem dX2_letter_68 : decode cX2_letter 68 = .ok (.iload_n 1, 1) := by decide +kernel
theorem dX2_letter_69 : decode cX2_letter 69 = .ok (.invokevirtual 72, 3) := by decide +kernel
theorem dX2_letter_72 : decode cX2_letter 72 = .ok (.ireturn, 1) := by decide +kernel
theorem dX2_join_0 : decode cX2_join 0 = .ok (.iload_n 1, 1) := by decide +kernel
theorem dX2_join_1 : decode cX2_join 1 = .ok (.invokestatic 40, 3) := by decide +kernel
theorem dX2_join_4 : decode cX2_join 4 = .ok (.ifCond .eq 29, 3) := by decide +kernel
theorem dX2_join_7 : decode cX2_join 7 = .ok (.iload_n 2, 1) := by decide +kernel
theorem dX2_join_8 : decode cX2_join 8 = .ok (.invokestatic 40, 3) := by decide +kernel
theorem dX2_join_11 : decode cX2_join 11 = .ok (.ifCond .eq 22, 3) := by decide +kernel
theorem dX2_join_14 : decode cX2_join 14 = .ok (.iload_n 3, 1) := by decide +kernel
theorem dX2_join_15 : decode cX2_join 15 = .ok (.invokestatic 40, 3) := by decide +kernel
theorem dX2_join_18 : decode cX2_join 18 = .ok (.ifCond .eq 15, 3) := by decide +kernel
theorem dX2_join_21 : decode cX2_join 21 = .ok (.iload 4, 2) := by decide +kernel
theorem dX2_join_23 : decode cX2_join 23 = .ok (.ifCond .lt 10, 3) := by decide +kernel
theorem dX2_join_26 : decode cX2_join 26 = .ok (.iload 4, 2) := by decide +kernel
theorem dX2_join_28 : decode cX2_join 28 = .ok (.bipush 15, 2) := by decide +kernel
theorem dX2_join_30 : decode cX2_join 30 = .ok (.if_icmp .le 6, 3) := by decide +kernel
theorem dX2_join_33 : decode cX2_join 33 = .ok (.bipush (-2), 2) := by decide +kernel
theorem dX2_join_35 : decode cX2_join 35 = .ok (.ireturn, 1) := by decide +kernel
theorem dX2_join_36 : decode cX2_join 36 = .ok (.aload_n 0, 1) := by decide +kernel
theorem dX2_join_37 : decode cX2_join 37 = .ok (.getfield 13, 3) := by decide +kernel
theorem dX2_join_40 : decode cX2_join 40 = .ok (.bipush 32, 2) := by decide +kernel
theorem dX2_join_42 : decode cX2_join 42 = .ok (.aaload, 1) := by decide +kernel
theorem dX2_join_43 : decode cX2_join 43 = .ok (.astore 5, 2) := by decide +kernel
theorem dX2_join_45 : decode cX2_join 45 = .ok (.iconst 0, 1) := by decide +kernel
theorem dX2_join_46 : decode cX2_join 46 = .ok (.istore 6, 2) := by decide +kernel
theorem dX2_join_48 : decode cX2_join 48 = .ok (.iload 6, 2) := by decide +kernel
theorem dX2_join_50 : decode cX2_join 50 = .ok (.aload_n 0, 1) := by decide +kernel
theorem dX2_join_51 : decode cX2_join 51 = .ok (.getfield 44, 3) := by decide +kernel
theorem dX2_join_54 : decode cX2_join 54 = .ok (.if_icmp .ge 42, 3) := by decide +kernel
theorem dX2_join_57 : decode cX2_join 57 = .ok (.aload 5, 2) := by decide +kernel
theorem dX2_join_59 : decode cX2_join 59 = .ok (.iload 6, 2) := by decide +kernel
theorem dX2_join_61 : decode cX2_join 61 = .ok (.aload_n 0, 1) := by decide +kernel
theorem dX2_join_62 : decode cX2_join 62 = .ok (.getfield 13, 3) := by decide +kernel
theorem dX2_join_65 : decode cX2_join 65 = .ok (.iload_n 2, 1) := by decide +kernel
theorem dX2_join_66 : decode cX2_join 66 = .ok (.aaload, 1) := by decide +kernel
theorem dX2_join_67 : decode cX2_join 67 = .ok (.iload 6, 2) := by decide +kernel
theorem dX2_join_69 : decode cX2_join 69 = .ok (.laload, 1) := by decide +kernel
theorem dX2_join_70 : decode cX2_join 70 = .ok (.aload_n 0, 1) := by decide +kernel
theorem dX2_join_71 : decode cX2_join 71 = .ok (.getfield 13, 3) := by decide +kernel
theorem dX2_join_74 : decode cX2_join 74 = .ok (.iload_n 3, 1) := by decide +kernel
theorem dX2_join_75 : decode cX2_join 75 = .ok (.aaload, 1) := by decide +kernel
theorem dX2_join_76 : decode cX2_join 76 = .ok (.iload 6, 2) := by decide +kernel
theorem dX2_join_78 : decode cX2_join 78 = .ok (.laload, 1) := by decide +kernel
theorem dX2_join_79 : decode cX2_join 79 = .ok (.iload 4, 2) := by decide +kernel
theorem dX2_join_81 : decode cX2_join 81 = .ok (.invokestatic 75, 3) := by decide +kernel
theorem dX2_join_84 : decode cX2_join 84 = .ok (.aload_n 0, 1) := by decide +kernel
theorem dX2_join_85 : decode cX2_join 85 = .ok (.getfield 48, 3) := by decide +kernel
theorem dX2_join_88 : decode cX2_join 88 = .ok (.land, 1) := by decide +kernel
theorem dX2_join_89 : decode cX2_join 89 = .ok (.lastore, 1) := by decide +kernel
theorem dX2_join_90 : decode cX2_join 90 = .ok (.iinc 6 1, 3) := by decide +kernel
theorem dX2_join_93 : decode cX2_join 93 = .ok (.goto (-45), 3) := by decide +kernel
theorem dX2_join_96 : decode cX2_join 96 = .ok (.aload_n 0, 1) := by decide +kernel
theorem dX2_join_97 : decode cX2_join 97 = .ok (.iload_n 1, 1) := by decide +kernel
theorem dX2_join_98 : decode cX2_join 98 = .ok (.invokevirtual 72, 3) := by decide +kernel
theorem dX2_join_101 : decode cX2_join 101 = .ok (.ireturn, 1) := by decide +kernel
theorem dX2_fork_0 : decode cX2_fork 0 = .ok (.iload_n 1, 1) := by decide +kernel
theorem dX2_fork_1 : decode cX2_fork 1 = .ok (.invokestatic 40, 3) := by decide +kernel
theorem dX2_fork_4 : decode cX2_fork 4 = .ok (.ifCond .eq 25, 3) := by decide +kernel
theorem dX2_fork_7 : decode cX2_fork 7 = .ok (.iload_n 2, 1) := by decide +kernel
theorem dX2_fork_8 : decode cX2_fork 8 = .ok (.invokestatic 40, 3) := by decide +kernel
theorem dX2_fork_11 : decode cX2_fork 11 = .ok (.ifCond .eq 18, 3) := by decide +kernel
theorem dX2_fork_14 : decode cX2_fork 14 = .ok (.iload_n 3, 1) := by decide +kernel
theorem dX2_fork_15 : decode cX2_fork 15 = .ok (.invokestatic 40, 3) := by decide +kernel
theorem dX2_fork_18 : decode cX2_fork 18 = .ok (.ifCond .eq 11, 3) := by decide +kernel
theorem dX2_fork_21 : decode cX2_fork 21 = .ok (.iload 4, 2) := by decide +kernel
theorem dX2_fork_23 : decode cX2_fork 23 = .ok (.invokestatic 40, 3) := by decide +kernel
theorem dX2_fork_26 : decode cX2_fork 26 = .ok (.ifCond .ne 6, 3) := by decide +kernel
theorem dX2_fork_29 : decode cX2_fork 29 = .ok (.bipush (-2), 2) := by decide +kernel
theorem dX2_fork_31 : decode cX2_fork 31 = .ok (.ireturn, 1) := by decide +kernel
theorem dX2_fork_32 : decode cX2_fork 32 = .ok (.aload_n 0, 1) := by decide +kernel
theorem dX2_fork_33 : decode cX2_fork 33 = .ok (.getfield 13, 3) := by decide +kernel
theorem dX2_fork_36 : decode cX2_fork 36 = .ok (.bipush 32, 2) := by decide +kernel
theorem dX2_fork_38 : decode cX2_fork 38 = .ok (.aaload, 1) := by decide +kernel
theorem dX2_fork_39 : decode cX2_fork 39 = .ok (.astore 5, 2) := by decide +kernel
theorem dX2_fork_41 : decode cX2_fork 41 = .ok (.iconst 0, 1) := by decide +kernel
theorem dX2_fork_42 : decode cX2_fork 42 = .ok (.istore 6, 2) := by decide +kernel
theorem dX2_fork_44 : decode cX2_fork 44 = .ok (.iload 6, 2) := by decide +kernel
theorem dX2_fork_46 : decode cX2_fork 46 = .ok (.aload_n 0, 1) := by decide +kernel
theorem dX2_fork_47 : decode cX2_fork 47 = .ok (.getfield 44, 3) := by decide +kernel
theorem dX2_fork_50 : decode cX2_fork 50 = .ok (.if_icmp .ge 45, 3) := by decide +kernel
theorem dX2_fork_53 : decode cX2_fork 53 = .ok (.aload 5, 2) := by decide +kernel
theorem dX2_fork_55 : decode cX2_fork 55 = .ok (.iload 6, 2) := by decide +kernel
theorem dX2_fork_57 : decode cX2_fork 57 = .ok (.aload_n 0, 1) := by decide +kernel
theorem dX2_fork_58 : decode cX2_fork 58 = .ok (.getfield 13, 3) := by decide +kernel
theorem dX2_fork_61 : decode cX2_fork 61 = .ok (.iload_n 2, 1) := by decide +kernel
theorem dX2_fork_62 : decode cX2_fork 62 = .ok (.aaload, 1) := by decide +kernel
theorem dX2_fork_63 : decode cX2_fork 63 = .ok (.iload 6, 2) := by decide +kernel
theorem dX2_fork_65 : decode cX2_fork 65 = .ok (.laload, 1) := by decide +kernel
theorem dX2_fork_66 : decode cX2_fork 66 = .ok (.aload_n 0, 1) := by decide +kernel
theorem dX2_fork_67 : decode cX2_fork 67 = .ok (.getfield 13, 3) := by decide +kernel
theorem dX2_fork_70 : decode cX2_fork 70 = .ok (.iload_n 3, 1) := by decide +kernel
theorem dX2_fork_71 : decode cX2_fork 71 = .ok (.aaload, 1) := by decide +kernel
theorem dX2_fork_72 : decode cX2_fork 72 = .ok (.iload 6, 2) := by decide +kernel
theorem dX2_fork_74 : decode cX2_fork 74 = .ok (.laload, 1) := by decide +kernel
theorem dX2_fork_75 : decode cX2_fork 75 = .ok (.aload_n 0, 1) := by decide +kernel
theorem dX2_fork_76 : decode cX2_fork 76 = .ok (.getfield 13, 3) := by decide +kernel
theorem dX2_fork_79 : decode cX2_fork 79 = .ok (.iload 4, 2) := by decide +kernel
theorem dX2_fork_81 : decode cX2_fork 81 = .ok (.aaload, 1) := by decide +kernel
theorem dX2_fork_82 : decode cX2_fork 82 = .ok (.iload 6, 2) := by decide +kernel
theorem dX2_fork_84 : decode cX2_fork 84 = .ok (.laload, 1) := by decide +kernel
theorem dX2_fork_85 : decode cX2_fork 85 = .ok (.invokestatic 79, 3) := by decide +kernel
theorem dX2_fork_88 : decode cX2_fork 88 = .ok (.lastore, 1) := by decide +kernel
theorem dX2_fork_89 : decode cX2_fork 89 = .ok (.iinc 6 1, 3) := by decide +kernel
theorem dX2_fork_92 : decode cX2_fork 92 = .ok (.goto (-48), 3) := by decide +kernel
theorem dX2_fork_95 : decode cX2_fork 95 = .ok (.aload_n 0, 1) := by decide +kernel
theorem dX2_fork_96 : decode cX2_fork 96 = .ok (.iload_n 1, 1) := by decide +kernel
theorem dX2_fork_97 : decode cX2_fork 97 = .ok (.invokevirtual 72, 3) := by decide +kernel
theorem dX2_fork_100 : decode cX2_fork 100 = .ok (.ireturn, 1) := by decide +kernel
theorem dX2_fix_0 : decode cX2_fix 0 = .ok (.iload_n 1, 1) := by decide +kernel
theorem dX2_fix_1 : decode cX2_fix 1 = .ok (.invokestatic 40, 3) := by decide +kernel
theorem dX2_fix_4 : decode cX2_fix 4 = .ok (.ifCond .eq 18, 3) := by decide +kernel
theorem dX2_fix_7 : decode cX2_fix 7 = .ok (.iload_n 2, 1) := by decide +kernel
theorem dX2_fix_8 : decode cX2_fix 8 = .ok (.invokestatic 40, 3) := by decide +kernel
theorem dX2_fix_11 : decode cX2_fix 11 = .ok (.ifCond .eq 11, 3) := by decide +kernel
theorem dX2_fix_14 : decode cX2_fix 14 = .ok (.aload_n 0, 1) := by decide +kernel
theorem dX2_fix_15 : decode cX2_fix 15 = .ok (.iload_n 3, 1) := by decide +kernel
theorem dX2_fix_16 : decode cX2_fix 16 = .ok (.invokevirtual 61, 3) := by decide +kernel
theorem dX2_fix_19 : decode cX2_fix 19 = .ok (.ifCond .ne 6, 3) := by decide +kernel
theorem dX2_fix_22 : decode cX2_fix 22 = .ok (.bipush (-2), 2) := by decide +kernel
theorem dX2_fix_24 : decode cX2_fix 24 = .ok (.ireturn, 1) := by decide +kernel
theorem dX2_fix_25 : decode cX2_fix 25 = .ok (.aload_n 0, 1) := by decide +kernel
theorem dX2_fix_26 : decode cX2_fix 26 = .ok (.iload_n 3, 1) := by decide +kernel
theorem dX2_fix_27 : decode cX2_fix 27 = .ok (.invokevirtual 64, 3) := by decide +kernel
theorem dX2_fix_30 : decode cX2_fix 30 = .ok (.istore 5, 2) := by decide +kernel
theorem dX2_fix_32 : decode cX2_fix 32 = .ok (.aload_n 0, 1) := by decide +kernel
theorem dX2_fix_33 : decode cX2_fix 33 = .ok (.getfield 13, 3) := by decide +kernel
theorem dX2_fix_36 : decode cX2_fix 36 = .ok (.bipush 32, 2) := by decide +kernel
theorem dX2_fix_38 : decode cX2_fix 38 = .ok (.aaload, 1) := by decide +kernel
theorem dX2_fix_39 : decode cX2_fix 39 = .ok (.astore 6, 2) := by decide +kernel
theorem dX2_fix_41 : decode cX2_fix 41 = .ok (.iconst 0, 1) := by decide +kernel
theorem dX2_fix_42 : decode cX2_fix 42 = .ok (.istore 7, 2) := by decide +kernel
theorem dX2_fix_44 : decode cX2_fix 44 = .ok (.iload 7, 2) := by decide +kernel
theorem dX2_fix_46 : decode cX2_fix 46 = .ok (.aload_n 0, 1) := by decide +kernel
theorem dX2_fix_47 : decode cX2_fix 47 = .ok (.getfield 44, 3) := by decide +kernel
theorem dX2_fix_50 : decode cX2_fix 50 = .ok (.if_icmp .ge 29, 3) := by decide +kernel
theorem dX2_fix_53 : decode cX2_fix 53 = .ok (.aload 6, 2) := by decide +kernel
theorem dX2_fix_55 : decode cX2_fix 55 = .ok (.iload 7, 2) := by decide +kernel
theorem dX2_fix_57 : decode cX2_fix 57 = .ok (.aload_n 0, 1) := by decide +kernel
theorem dX2_fix_58 : decode cX2_fix 58 = .ok (.getfield 13, 3) := by decide +kernel
theorem dX2_fix_61 : decode cX2_fix 61 = .ok (.iload_n 2, 1) := by decide +kernel
theorem dX2_fix_62 : decode cX2_fix 62 = .ok (.aaload, 1) := by decide +kernel
theorem dX2_fix_63 : decode cX2_fix 63 = .ok (.iload 7, 2) := by decide +kernel
theorem dX2_fix_65 : decode cX2_fix 65 = .ok (.iload 5, 2) := by decide +kernel
theorem dX2_fix_67 : decode cX2_fix 67 = .ok (.iload 4, 2) := by decide +kernel
theorem dX2_fix_69 : decode cX2_fix 69 = .ok (.invokestatic 83, 3) := by decide +kernel
theorem dX2_fix_72 : decode cX2_fix 72 = .ok (.lastore, 1) := by decide +kernel
theorem dX2_fix_73 : decode cX2_fix 73 = .ok (.iinc 7 1, 3) := by decide +kernel
theorem dX2_fix_76 : decode cX2_fix 76 = .ok (.goto (-32), 3) := by decide +kernel
theorem dX2_fix_79 : decode cX2_fix 79 = .ok (.aload_n 0, 1) := by decide +kernel
theorem dX2_fix_80 : decode cX2_fix 80 = .ok (.iload_n 1, 1) := by decide +kernel
theorem dX2_fix_81 : decode cX2_fix 81 = .ok (.invokevirtual 72, 3) := by decide +kernel
theorem dX2_fix_84 : decode cX2_fix 84 = .ok (.ireturn, 1) := by decide +kernel
theorem dX2_put_0 : decode cX2_put 0 = .ok (.iload_n 1, 1) := by decide +kernel
theorem dX2_put_1 : decode cX2_put 1 = .ok (.invokestatic 40, 3) := by decide +kernel
theorem dX2_put_4 : decode cX2_put 4 = .ok (.ifCond .eq 26, 3) := by decide +kernel
theorem dX2_put_7 : decode cX2_put 7 = .ok (.iload_n 2, 1) := by decide +kernel
theorem dX2_put_8 : decode cX2_put 8 = .ok (.invokestatic 40, 3) := by decide +kernel
theorem dX2_put_11 : decode cX2_put 11 = .ok (.ifCond .eq 19, 3) := by decide +kernel
theorem dX2_put_14 : decode cX2_put 14 = .ok (.aload_n 0, 1) := by decide +kernel
theorem dX2_put_15 : decode cX2_put 15 = .ok (.iload_n 3, 1) := by decide +kernel
theorem dX2_put_16 : decode cX2_put 16 = .ok (.invokevirtual 61, 3) := by decide +kernel
theorem dX2_put_19 : decode cX2_put 19 = .ok (.ifCond .eq 11, 3) := by decide +kernel
theorem dX2_put_22 : decode cX2_put 22 = .ok (.iload 4, 2) := by decide +kernel
theorem dX2_put_24 : decode cX2_put 24 = .ok (.invokestatic 40, 3) := by decide +kernel
theorem dX2_put_27 : decode cX2_put 27 = .ok (.ifCond .ne 6, 3) := by decide +kernel
theorem dX2_put_30 : decode cX2_put 30 = .ok (.bipush (-2), 2) := by decide +kernel
theorem dX2_put_32 : decode cX2_put 32 = .ok (.ireturn, 1) := by decide +kernel
theorem dX2_put_33 : decode cX2_put 33 = .ok (.aload_n 0, 1) := by decide +kernel
theorem dX2_put_34 : decode cX2_put 34 = .ok (.iload_n 3, 1) := by decide +kernel
theorem dX2_put_35 : decode cX2_put 35 = .ok (.invokevirtual 64, 3) := by decide +kernel
theorem dX2_put_38 : decode cX2_put 38 = .ok (.istore 5, 2) := by decide +kernel
theorem dX2_put_40 : decode cX2_put 40 = .ok (.aload_n 0, 1) := by decide +kernel
theorem dX2_put_41 : decode cX2_put 41 = .ok (.getfield 13, 3) := by decide +kernel
theorem dX2_put_44 : decode cX2_put 44 = .ok (.bipush 32, 2) := by decide +kernel
theorem dX2_put_46 : decode cX2_put 46 = .ok (.aaload, 1) := by decide +kernel
theorem dX2_put_47 : decode cX2_put 47 = .ok (.astore 6, 2) := by decide +kernel
theorem dX2_put_49 : decode cX2_put 49 = .ok (.iconst 0, 1) := by decide +kernel
theorem dX2_put_50 : decode cX2_put 50 = .ok (.istore 7, 2) := by decide +kernel
theorem dX2_put_52 : decode cX2_put 52 = .ok (.iload 7, 2) := by decide +kernel
theorem dX2_put_54 : decode cX2_put 54 = .ok (.aload_n 0, 1) := by decide +kernel
theorem dX2_put_55 : decode cX2_put 55 = .ok (.getfield 44, 3) := by decide +kernel
theorem dX2_put_58 : decode cX2_put 58 = .ok (.if_icmp .ge 63, 3) := by decide +kernel
theorem dX2_put_61 : decode cX2_put 61 = .ok (.aload_n 0, 1) := by decide +kernel
theorem dX2_put_62 : decode cX2_put 62 = .ok (.getfield 13, 3) := by decide +kernel
theorem dX2_put_65 : decode cX2_put 65 = .ok (.iload_n 2, 1) := by decide +kernel
theorem dX2_put_66 : decode cX2_put 66 = .ok (.aaload, 1) := by decide +kernel
theorem dX2_put_67 : decode cX2_put 67 = .ok (.iload 7, 2) := by decide +kernel
theorem dX2_put_69 : decode cX2_put 69 = .ok (.iload 5, 2) := by decide +kernel
theorem dX2_put_71 : decode cX2_put 71 = .ok (.iconst 1, 1) := by decide +kernel
theorem dX2_put_72 : decode cX2_put 72 = .ok (.invokestatic 83, 3) := by decide +kernel
theorem dX2_put_75 : decode cX2_put 75 = .ok (.lstore 8, 2) := by decide +kernel
theorem dX2_put_77 : decode cX2_put 77 = .ok (.aload_n 0, 1) := by decide +kernel
theorem dX2_put_78 : decode cX2_put 78 = .ok (.getfield 13, 3) := by decide +kernel
theorem dX2_put_81 : decode cX2_put 81 = .ok (.iload_n 2, 1) := by decide +kernel
theorem dX2_put_82 : decode cX2_put 82 = .ok (.aaload, 1) := by decide +kernel
theorem dX2_put_83 : decode cX2_put 83 = .ok (.iload 7, 2) := by decide +kernel
theorem dX2_put_85 : decode cX2_put 85 = .ok (.iload 5, 2) := by decide +kernel
theorem dX2_put_87 : decode cX2_put 87 = .ok (.iconst 0, 1) := by decide +kernel
theorem dX2_put_88 : decode cX2_put 88 = .ok (.invokestatic 83, 3) := by decide +kernel
theorem dX2_put_91 : decode cX2_put 91 = .ok (.lstore 10, 2) := by decide +kernel
theorem dX2_put_93 : decode cX2_put 93 = .ok (.aload 6, 2) := by decide +kernel
theorem dX2_put_95 : decode cX2_put 95 = .ok (.iload 7, 2) := by decide +kernel
theorem dX2_put_97 : decode cX2_put 97 = .ok (.aload_n 0, 1) := by decide +kernel
theorem dX2_put_98 : decode cX2_put 98 = .ok (.getfield 13, 3) := by decide +kernel
theorem dX2_put_101 : decode cX2_put 101 = .ok (.iload 4, 2) := by decide +kernel
theorem dX2_put_103 : decode cX2_put 103 = .ok (.aaload, 1) := by decide +kernel
theorem dX2_put_104 : decode cX2_put 104 = .ok (.iload 7, 2) := by decide +kernel
theorem dX2_put_106 : decode cX2_put 106 = .ok (.laload, 1) := by decide +kernel
theorem dX2_put_107 : decode cX2_put 107 = .ok (.lload 8, 2) := by decide +kernel
theorem dX2_put_109 : decode cX2_put 109 = .ok (.lload 10, 2) := by decide +kernel
theorem dX2_put_111 : decode cX2_put 111 = .ok (.invokestatic 79, 3) := by decide +kernel
theorem dX2_put_114 : decode cX2_put 114 = .ok (.lastore, 1) := by decide +kernel
theorem dX2_put_115 : decode cX2_put 115 = .ok (.iinc 7 1, 3) := by decide +kernel
theorem dX2_put_118 : decode cX2_put 118 = .ok (.goto (-66), 3) := by decide +kernel
theorem dX2_put_121 : decode cX2_put 121 = .ok (.aload_n 0, 1) := by decide +kernel
theorem dX2_put_122 : decode cX2_put 122 = .ok (.iload_n 1, 1) := by decide +kernel
theorem dX2_put_123 : decode cX2_put 123 = .ok (.invokevirtual 72, 3) := by decide +kernel
theorem dX2_put_126 : decode cX2_put 126 = .ok (.ireturn, 1) := by decide +kernel
theorem dX2_sum_0 : decode cX2_sum 0 = .ok (.iload_n 1, 1) := by decide +kernel
theorem dX2_sum_1 : decode cX2_sum 1 = .ok (.invokestatic 40, 3) := by decide +kernel
theorem dX2_sum_4 : decode cX2_sum 4 = .ok (.ifCond .eq 18, 3) := by decide +kernel
theorem dX2_sum_7 : decode cX2_sum 7 = .ok (.iload_n 2, 1) := by decide +kernel
theorem dX2_sum_8 : decode cX2_sum 8 = .ok (.invokestatic 40, 3) := by decide +kernel
theorem dX2_sum_11 : decode cX2_sum 11 = .ok (.ifCond .eq 11, 3) := by decide +kernel
theorem dX2_sum_14 : decode cX2_sum 14 = .ok (.aload_n 0, 1) := by decide +kernel
theorem dX2_sum_15 : decode cX2_sum 15 = .ok (.iload_n 3, 1) := by decide +kernel
theorem dX2_sum_16 : decode cX2_sum 16 = .ok (.invokevirtual 87, 3) := by decide +kernel
theorem dX2_sum_19 : decode cX2_sum 19 = .ok (.ifCond .ne 6, 3) := by decide +kernel
theorem dX2_sum_22 : decode cX2_sum 22 = .ok (.bipush (-2), 2) := by decide +kernel
theorem dX2_sum_24 : decode cX2_sum 24 = .ok (.ireturn, 1) := by decide +kernel
theorem dX2_sum_25 : decode cX2_sum 25 = .ok (.aload_n 0, 1) := by decide +kernel
theorem dX2_sum_26 : decode cX2_sum 26 = .ok (.iload_n 2, 1) := by decide +kernel
theorem dX2_sum_27 : decode cX2_sum 27 = .ok (.invokevirtual 90, 3) := by decide +kernel
theorem dX2_sum_30 : decode cX2_sum 30 = .ok (.iconst 0, 1) := by decide +kernel
theorem dX2_sum_31 : decode cX2_sum 31 = .ok (.istore 5, 2) := by decide +kernel
theorem dX2_sum_33 : decode cX2_sum 33 = .ok (.iload 5, 2) := by decide +kernel
theorem dX2_sum_35 : decode cX2_sum 35 = .ok (.aload_n 0, 1) := by decide +kernel
theorem dX2_sum_36 : decode cX2_sum 36 = .ok (.getfield 94, 3) := by decide +kernel
theorem dX2_sum_39 : decode cX2_sum 39 = .ok (.if_icmp .ge 30, 3) := by decide +kernel
theorem dX2_sum_42 : decode cX2_sum 42 = .ok (.iload_n 3, 1) := by decide +kernel
theorem dX2_sum_43 : decode cX2_sum 43 = .ok (.iload 5, 2) := by decide +kernel
theorem dX2_sum_45 : decode cX2_sum 45 = .ok (.ishr, 1) := by decide +kernel
theorem dX2_sum_46 : decode cX2_sum 46 = .ok (.iconst 1, 1) := by decide +kernel
theorem dX2_sum_47 : decode cX2_sum 47 = .ok (.iand, 1) := by decide +kernel
theorem dX2_sum_48 : decode cX2_sum 48 = .ok (.ifCond .eq 15, 3) := by decide +kernel
theorem dX2_sum_51 : decode cX2_sum 51 = .ok (.aload_n 0, 1) := by decide +kernel
theorem dX2_sum_52 : decode cX2_sum 52 = .ok (.aload_n 0, 1) := by decide +kernel
theorem dX2_sum_53 : decode cX2_sum 53 = .ok (.iload 5, 2) := by decide +kernel
theorem dX2_sum_55 : decode cX2_sum 55 = .ok (.invokevirtual 64, 3) := by decide +kernel
theorem dX2_sum_58 : decode cX2_sum 58 = .ok (.iload 4, 2) := by decide +kernel
theorem dX2_sum_60 : decode cX2_sum 60 = .ok (.invokevirtual 97, 3) := by decide +kernel
theorem dX2_sum_63 : decode cX2_sum 63 = .ok (.iinc 5 1, 3) := by decide +kernel
theorem dX2_sum_66 : decode cX2_sum 66 = .ok (.goto (-33), 3) := by decide +kernel
theorem dX2_sum_69 : decode cX2_sum 69 = .ok (.aload_n 0, 1) := by decide +kernel
theorem dX2_sum_70 : decode cX2_sum 70 = .ok (.iload_n 1, 1) := by decide +kernel
theorem dX2_sum_71 : decode cX2_sum 71 = .ok (.invokevirtual 72, 3) := by decide +kernel
theorem dX2_sum_74 : decode cX2_sum 74 = .ok (.ireturn, 1) := by decide +kernel
theorem dX2_trade_0 : decode cX2_trade 0 = .ok (.iload_n 1, 1) := by decide +kernel
theorem dX2_trade_1 : decode cX2_trade 1 = .ok (.invokestatic 40, 3) := by decide +kernel
theorem dX2_trade_4 : decode cX2_trade 4 = .ok (.ifCond .eq 27, 3) := by decide +kernel
theorem dX2_trade_7 : decode cX2_trade 7 = .ok (.iload_n 2, 1) := by decide +kernel
theorem dX2_trade_8 : decode cX2_trade 8 = .ok (.invokestatic 40, 3) := by decide +kernel
theorem dX2_trade_11 : decode cX2_trade 11 = .ok (.ifCond .eq 20, 3) := by decide +kernel
theorem dX2_trade_14 : decode cX2_trade 14 = .ok (.aload_n 0, 1) := by decide +kernel
theorem dX2_trade_15 : decode cX2_trade 15 = .ok (.iload_n 3, 1) := by decide +kernel
theorem dX2_trade_16 : decode cX2_trade 16 = .ok (.invokevirtual 61, 3) := by decide +kernel
theorem dX2_trade_19 : decode cX2_trade 19 = .ok (.ifCond .eq 12, 3) := by decide +kernel
theorem dX2_trade_22 : decode cX2_trade 22 = .ok (.aload_n 0, 1) := by decide +kernel
theorem dX2_trade_23 : decode cX2_trade 23 = .ok (.iload 4, 2) := by decide +kernel
theorem dX2_trade_25 : decode cX2_trade 25 = .ok (.invokevirtual 61, 3) := by decide +kernel
theorem dX2_trade_28 : decode cX2_trade 28 = .ok (.ifCond .ne 6, 3) := by decide +kernel
theorem dX2_trade_31 : decode cX2_trade 31 = .ok (.bipush (-2), 2) := by decide +kernel
theorem dX2_trade_33 : decode cX2_trade 33 = .ok (.ireturn, 1) := by decide +kernel
theorem dX2_trade_34 : decode cX2_trade 34 = .ok (.aload_n 0, 1) := by decide +kernel
theorem dX2_trade_35 : decode cX2_trade 35 = .ok (.iload_n 2, 1) := by decide +kernel
theorem dX2_trade_36 : decode cX2_trade 36 = .ok (.invokevirtual 90, 3) := by decide +kernel
theorem dX2_trade_39 : decode cX2_trade 39 = .ok (.aload_n 0, 1) := by decide +kernel
theorem dX2_trade_40 : decode cX2_trade 40 = .ok (.getfield 13, 3) := by decide +kernel
theorem dX2_trade_43 : decode cX2_trade 43 = .ok (.bipush 32, 2) := by decide +kernel
theorem dX2_trade_45 : decode cX2_trade 45 = .ok (.aaload, 1) := by decide +kernel
theorem dX2_trade_46 : decode cX2_trade 46 = .ok (.aload_n 0, 1) := by decide +kernel
theorem dX2_trade_47 : decode cX2_trade 47 = .ok (.getfield 44, 3) := by decide +kernel
theorem dX2_trade_50 : decode cX2_trade 50 = .ok (.aload_n 0, 1) := by decide +kernel
theorem dX2_trade_51 : decode cX2_trade 51 = .ok (.iload_n 3, 1) := by decide +kernel
theorem dX2_trade_52 : decode cX2_trade 52 = .ok (.invokevirtual 64, 3) := by decide +kernel
theorem dX2_trade_55 : decode cX2_trade 55 = .ok (.aload_n 0, 1) := by decide +kernel
theorem dX2_trade_56 : decode cX2_trade 56 = .ok (.iload 4, 2) := by decide +kernel
theorem dX2_trade_58 : decode cX2_trade 58 = .ok (.invokevirtual 64, 3) := by decide +kernel
theorem dX2_trade_61 : decode cX2_trade 61 = .ok (.invokestatic 101, 3) := by decide +kernel
theorem dX2_trade_64 : decode cX2_trade 64 = .ok (.aload_n 0, 1) := by decide +kernel
theorem dX2_trade_65 : decode cX2_trade 65 = .ok (.iload_n 1, 1) := by decide +kernel
theorem dX2_trade_66 : decode cX2_trade 66 = .ok (.invokevirtual 72, 3) := by decide +kernel
theorem dX2_trade_69 : decode cX2_trade 69 = .ok (.ireturn, 1) := by decide +kernel
theorem dX2_near_0 : decode cX2_near 0 = .ok (.iload_n 1, 1) := by decide +kernel
theorem dX2_near_1 : decode cX2_near 1 = .ok (.invokestatic 40, 3) := by decide +kernel
theorem dX2_near_4 : decode cX2_near 4 = .ok (.ifCond .eq 17, 3) := by decide +kernel
theorem dX2_near_7 : decode cX2_near 7 = .ok (.iload_n 2, 1) := by decide +kernel
theorem dX2_near_8 : decode cX2_near 8 = .ok (.invokestatic 40, 3) := by decide +kernel
theorem dX2_near_11 : decode cX2_near 11 = .ok (.ifCond .eq 10, 3) := by decide +kernel
theorem dX2_near_14 : decode cX2_near 14 = .ok (.iload_n 3, 1) := by decide +kernel
theorem dX2_near_15 : decode cX2_near 15 = .ok (.invokestatic 40, 3) := by decide +kernel
theorem dX2_near_18 : decode cX2_near 18 = .ok (.ifCond .ne 6, 3) := by decide +kernel
theorem dX2_near_21 : decode cX2_near 21 = .ok (.bipush (-2), 2) := by decide +kernel
theorem dX2_near_23 : decode cX2_near 23 = .ok (.ireturn, 1) := by decide +kernel
theorem dX2_near_24 : decode cX2_near 24 = .ok (.aload_n 0, 1) := by decide +kernel
theorem dX2_near_25 : decode cX2_near 25 = .ok (.iload_n 3, 1) := by decide +kernel
theorem dX2_near_26 : decode cX2_near 26 = .ok (.lconst 0, 1) := by decide +kernel
theorem dX2_near_27 : decode cX2_near 27 = .ok (.invokevirtual 105, 3) := by decide +kernel
theorem dX2_near_30 : decode cX2_near 30 = .ok (.ifCond .eq 6, 3) := by decide +kernel
theorem dX2_near_33 : decode cX2_near 33 = .ok (.bipush (-3), 2) := by decide +kernel
theorem dX2_near_35 : decode cX2_near 35 = .ok (.ireturn, 1) := by decide +kernel
theorem dX2_near_36 : decode cX2_near 36 = .ok (.aload_n 0, 1) := by decide +kernel
theorem dX2_near_37 : decode cX2_near 37 = .ok (.aload_n 0, 1) := by decide +kernel
theorem dX2_near_38 : decode cX2_near 38 = .ok (.getfield 13, 3) := by decide +kernel
theorem dX2_near_41 : decode cX2_near 41 = .ok (.iload_n 3, 1) := by decide +kernel
theorem dX2_near_42 : decode cX2_near 42 = .ok (.aaload, 1) := by decide +kernel
theorem dX2_near_43 : decode cX2_near 43 = .ok (.aload_n 0, 1) := by decide +kernel
theorem dX2_near_44 : decode cX2_near 44 = .ok (.getfield 23, 3) := by decide +kernel
theorem dX2_near_47 : decode cX2_near 47 = .ok (.aload_n 0, 1) := by decide +kernel
theorem dX2_near_48 : decode cX2_near 48 = .ok (.getfield 26, 3) := by decide +kernel
theorem dX2_near_51 : decode cX2_near 51 = .ok (.invokevirtual 109, 3) := by decide +kernel
theorem dX2_near_54 : decode cX2_near 54 = .ok (.iconst 1, 1) := by decide +kernel
theorem dX2_near_55 : decode cX2_near 55 = .ok (.aload_n 0, 1) := by decide +kernel
theorem dX2_near_56 : decode cX2_near 56 = .ok (.getfield 94, 3) := by decide +kernel
theorem dX2_near_59 : decode cX2_near 59 = .ok (.ishl, 1) := by decide +kernel
theorem dX2_near_60 : decode cX2_near 60 = .ok (.istore 4, 2) := by decide +kernel
theorem dX2_near_62 : decode cX2_near 62 = .ok (.aload_n 0, 1) := by decide +kernel
theorem dX2_near_63 : decode cX2_near 63 = .ok (.getfield 13, 3) := by decide +kernel
theorem dX2_near_66 : decode cX2_near 66 = .ok (.bipush 32, 2) := by decide +kernel
theorem dX2_near_68 : decode cX2_near 68 = .ok (.aaload, 1) := by decide +kernel
theorem dX2_near_69 : decode cX2_near 69 = .ok (.astore 5, 2) := by decide +kernel
theorem dX2_near_71 : decode cX2_near 71 = .ok (.aload 5, 2) := by decide +kernel
theorem dX2_near_73 : decode cX2_near 73 = .ok (.iconst 0, 1) := by decide +kernel
theorem dX2_near_74 : decode cX2_near 74 = .ok (.aload_n 0, 1) := by decide +kernel
theorem dX2_near_75 : decode cX2_near 75 = .ok (.getfield 44, 3) := by decide +kernel
theorem dX2_near_78 : decode cX2_near 78 = .ok (.lconst 0, 1) := by decide +kernel
theorem dX2_near_79 : decode cX2_near 79 = .ok (.invokestatic 52, 3) := by decide +kernel
theorem dX2_near_82 : decode cX2_near 82 = .ok (.iconst 0, 1) := by decide +kernel
theorem dX2_near_83 : decode cX2_near 83 = .ok (.istore 6, 2) := by decide +kernel
theorem dX2_near_85 : decode cX2_near 85 = .ok (.iload 6, 2) := by decide +kernel
theorem dX2_near_87 : decode cX2_near 87 = .ok (.iload 4, 2) := by decide +kernel
theorem dX2_near_89 : decode cX2_near 89 = .ok (.if_icmp .ge 41, 3) := by decide +kernel
theorem dX2_near_92 : decode cX2_near 92 = .ok (.aload_n 0, 1) := by decide +kernel
theorem dX2_near_93 : decode cX2_near 93 = .ok (.getfield 13, 3) := by decide +kernel
theorem dX2_near_96 : decode cX2_near 96 = .ok (.iload_n 2, 1) := by decide +kernel
theorem dX2_near_97 : decode cX2_near 97 = .ok (.aaload, 1) := by decide +kernel
theorem dX2_near_98 : decode cX2_near 98 = .ok (.aload_n 0, 1) := by decide +kernel
theorem dX2_near_99 : decode cX2_near 99 = .ok (.getfield 26, 3) := by decide +kernel
theorem dX2_near_102 : decode cX2_near 102 = .ok (.iload 4, 2) := by decide +kernel
theorem dX2_near_104 : decode cX2_near 104 = .ok (.iload 6, 2) := by decide +kernel
theorem dX2_near_106 : decode cX2_near 106 = .ok (.iadd, 1) := by decide +kernel
theorem dX2_near_107 : decode cX2_near 107 = .ok (.iaload, 1) := by decide +kernel
theorem dX2_near_108 : decode cX2_near 108 = .ok (.iload 4, 2) := by decide +kernel
theorem dX2_near_110 : decode cX2_near 110 = .ok (.isub, 1) := by decide +kernel
theorem dX2_near_111 : decode cX2_near 111 = .ok (.invokestatic 113, 3) := by decide +kernel
theorem dX2_near_114 : decode cX2_near 114 = .ok (.ifCond .eq 10, 3) := by decide +kernel
theorem dX2_near_117 : decode cX2_near 117 = .ok (.aload 5, 2) := by decide +kernel
theorem dX2_near_119 : decode cX2_near 119 = .ok (.iload 6, 2) := by decide +kernel
theorem dX2_near_121 : decode cX2_near 121 = .ok (.invokestatic 117, 3) := by decide +kernel
theorem dX2_near_124 : decode cX2_near 124 = .ok (.iinc 6 1, 3) := by decide +kernel
theorem dX2_near_127 : decode cX2_near 127 = .ok (.goto (-42), 3) := by decide +kernel
theorem dX2_near_130 : decode cX2_near 130 = .ok (.aload_n 0, 1) := by decide +kernel
theorem dX2_near_131 : decode cX2_near 131 = .ok (.iload_n 1, 1) := by decide +kernel
theorem dX2_near_132 : decode cX2_near 132 = .ok (.invokevirtual 72, 3) := by decide +kernel
theorem dX2_near_135 : decode cX2_near 135 = .ok (.ireturn, 1) := by decide +kernel
theorem dX2_copy_0 : decode cX2_copy 0 = .ok (.iload_n 1, 1) := by decide +kernel
theorem dX2_copy_1 : decode cX2_copy 1 = .ok (.invokestatic 40, 3) := by decide +kernel
theorem dX2_copy_4 : decode cX2_copy 4 = .ok (.ifCond .eq 10, 3) := by decide +kernel
theorem dX2_copy_7 : decode cX2_copy 7 = .ok (.iload_n 2, 1) := by decide +kernel
theorem dX2_copy_8 : decode cX2_copy 8 = .ok (.invokestatic 40, 3) := by decide +kernel
theorem dX2_copy_11 : decode cX2_copy 11 = .ok (.ifCond .ne 6, 3) := by decide +kernel
theorem dX2_copy_14 : decode cX2_copy 14 = .ok (.bipush (-2), 2) := by decide +kernel
theorem dX2_copy_16 : decode cX2_copy 16 = .ok (.ireturn, 1) := by decide +kernel
theorem dX2_copy_17 : decode cX2_copy 17 = .ok (.aload_n 0, 1) := by decide +kernel
theorem dX2_copy_18 : decode cX2_copy 18 = .ok (.getfield 13, 3) := by decide +kernel
theorem dX2_copy_21 : decode cX2_copy 21 = .ok (.iload_n 2, 1) := by decide +kernel
theorem dX2_copy_22 : decode cX2_copy 22 = .ok (.aaload, 1) := by decide +kernel
theorem dX2_copy_23 : decode cX2_copy 23 = .ok (.iconst 0, 1) := by decide +kernel
theorem dX2_copy_24 : decode cX2_copy 24 = .ok (.aload_n 0, 1) := by decide +kernel
theorem dX2_copy_25 : decode cX2_copy 25 = .ok (.getfield 13, 3) := by decide +kernel
theorem dX2_copy_28 : decode cX2_copy 28 = .ok (.iload_n 1, 1) := by decide +kernel
theorem dX2_copy_29 : decode cX2_copy 29 = .ok (.aaload, 1) := by decide +kernel
theorem dX2_copy_30 : decode cX2_copy 30 = .ok (.iconst 0, 1) := by decide +kernel
theorem dX2_copy_31 : decode cX2_copy 31 = .ok (.aload_n 0, 1) := by decide +kernel
theorem dX2_copy_32 : decode cX2_copy 32 = .ok (.getfield 44, 3) := by decide +kernel
theorem dX2_copy_35 : decode cX2_copy 35 = .ok (.invokestatic 121, 3) := by decide +kernel
theorem dX2_copy_38 : decode cX2_copy 38 = .ok (.aload_n 0, 1) := by decide +kernel
theorem dX2_copy_39 : decode cX2_copy 39 = .ok (.invokevirtual 58, 3) := by decide +kernel
theorem dX2_copy_42 : decode cX2_copy 42 = .ok (.iconst 0, 1) := by decide +kernel
theorem dX2_copy_43 : decode cX2_copy 43 = .ok (.ireturn, 1) := by decide +kernel
theorem dX2_swap_0 : decode cX2_swap 0 = .ok (.aload_n 0, 1) := by decide +kernel
theorem dX2_swap_1 : decode cX2_swap 1 = .ok (.iload_n 1, 1) := by decide +kernel
theorem dX2_swap_2 : decode cX2_swap 2 = .ok (.invokevirtual 127, 3) := by decide +kernel
theorem dX2_swap_5 : decode cX2_swap 5 = .ok (.ifCond .eq 13, 3) := by decide +kernel
theorem dX2_swap_8 : decode cX2_swap 8 = .ok (.iload_n 1, 1) := by decide +kernel
theorem dX2_swap_9 : decode cX2_swap 9 = .ok (.aload_n 0, 1) := by decide +kernel
theorem dX2_swap_10 : decode cX2_swap 10 = .ok (.getfield 94, 3) := by decide +kernel
theorem dX2_swap_13 : decode cX2_swap 13 = .ok (.iconst 1, 1) := by decide +kernel
theorem dX2_swap_14 : decode cX2_swap 14 = .ok (.isub, 1) := by decide +kernel
theorem dX2_swap_15 : decode cX2_swap 15 = .ok (.if_icmp .ne 6, 3) := by decide +kernel
theorem dX2_swap_18 : decode cX2_swap 18 = .ok (.bipush (-2), 2) := by decide +kernel
theorem dX2_swap_20 : decode cX2_swap 20 = .ok (.ireturn, 1) := by decide +kernel
theorem dX2_swap_21 : decode cX2_swap 21 = .ok (.aload_n 0, 1) := by decide +kernel
theorem dX2_swap_22 : decode cX2_swap 22 = .ok (.iload_n 1, 1) := by decide +kernel
theorem dX2_swap_23 : decode cX2_swap 23 = .ok (.invokevirtual 130, 3) := by decide +kernel
theorem dX2_swap_26 : decode cX2_swap 26 = .ok (.aload_n 0, 1) := by decide +kernel
theorem dX2_swap_27 : decode cX2_swap 27 = .ok (.invokevirtual 133, 3) := by decide +kernel
theorem dX2_swap_30 : decode cX2_swap 30 = .ok (.aload_n 0, 1) := by decide +kernel
theorem dX2_swap_31 : decode cX2_swap 31 = .ok (.getfield 137, 3) := by decide +kernel
theorem dX2_swap_34 : decode cX2_swap 34 = .ok (.if_icmp .le 11, 3) := by decide +kernel
theorem dX2_swap_37 : decode cX2_swap 37 = .ok (.aload_n 0, 1) := by decide +kernel
theorem dX2_swap_38 : decode cX2_swap 38 = .ok (.iload_n 1, 1) := by decide +kernel
theorem dX2_swap_39 : decode cX2_swap 39 = .ok (.invokevirtual 130, 3) := by decide +kernel
theorem dX2_swap_42 : decode cX2_swap 42 = .ok (.bipush (-8), 2) := by decide +kernel
theorem dX2_swap_44 : decode cX2_swap 44 = .ok (.ireturn, 1) := by decide +kernel
theorem dX2_swap_45 : decode cX2_swap 45 = .ok (.aload_n 0, 1) := by decide +kernel
theorem dX2_swap_46 : decode cX2_swap 46 = .ok (.invokevirtual 58, 3) := by decide +kernel
theorem dX2_swap_49 : decode cX2_swap 49 = .ok (.iconst 0, 1) := by decide +kernel
theorem dX2_swap_50 : decode cX2_swap 50 = .ok (.ireturn, 1) := by decide +kernel
theorem dX2_sift_0 : decode cX2_sift 0 = .ok (.aload_n 0, 1) := by decide +kernel
theorem dX2_sift_1 : decode cX2_sift 1 = .ok (.iload_n 1, 1) := by decide +kernel
theorem dX2_sift_2 : decode cX2_sift 2 = .ok (.invokevirtual 61, 3) := by decide +kernel
theorem dX2_sift_5 : decode cX2_sift 5 = .ok (.ifCond .ne 6, 3) := by decide +kernel
theorem dX2_sift_8 : decode cX2_sift 8 = .ok (.bipush (-2), 2) := by decide +kernel
theorem dX2_sift_10 : decode cX2_sift 10 = .ok (.ireturn, 1) := by decide +kernel
theorem dX2_sift_11 : decode cX2_sift 11 = .ok (.aload_n 0, 1) := by decide +kernel
theorem dX2_sift_12 : decode cX2_sift 12 = .ok (.iload_n 1, 1) := by decide +kernel
theorem dX2_sift_13 : decode cX2_sift 13 = .ok (.invokevirtual 140, 3) := by decide +kernel
theorem dX2_sift_16 : decode cX2_sift 16 = .ok (.iconst 1, 1) := by decide +kernel
theorem dX2_sift_17 : decode cX2_sift 17 = .ok (.isub, 1) := by decide +kernel
theorem dX2_sift_18 : decode cX2_sift 18 = .ok (.istore_n 2, 1) := by decide +kernel
theorem dX2_sift_19 : decode cX2_sift 19 = .ok (.iload_n 2, 1) := by decide +kernel
theorem dX2_sift_20 : decode cX2_sift 20 = .ok (.ifCond .lt 14, 3) := by decide +kernel
theorem dX2_sift_23 : decode cX2_sift 23 = .ok (.aload_n 0, 1) := by decide +kernel
theorem dX2_sift_24 : decode cX2_sift 24 = .ok (.iload_n 2, 1) := by decide +kernel
theorem dX2_sift_25 : decode cX2_sift 25 = .ok (.invokevirtual 130, 3) := by decide +kernel
theorem dX2_sift_28 : decode cX2_sift 28 = .ok (.iinc 2 (-1), 3) := by decide +kernel
theorem dX2_sift_31 : decode cX2_sift 31 = .ok (.goto (-12), 3) := by decide +kernel
theorem dX2_sift_34 : decode cX2_sift 34 = .ok (.aload_n 0, 1) := by decide +kernel
theorem dX2_sift_35 : decode cX2_sift 35 = .ok (.aload_n 0, 1) := by decide +kernel
theorem dX2_sift_36 : decode cX2_sift 36 = .ok (.invokevirtual 133, 3) := by decide +kernel
theorem dX2_sift_39 : decode cX2_sift 39 = .ok (.invokevirtual 143, 3) := by decide +kernel
theorem dX2_sift_42 : decode cX2_sift 42 = .ok (.istore_n 2, 1) := by decide +kernel
theorem dX2_sift_43 : decode cX2_sift 43 = .ok (.aload_n 0, 1) := by decide +kernel
theorem dX2_sift_44 : decode cX2_sift 44 = .ok (.getfield 94, 3) := by decide +kernel
theorem dX2_sift_47 : decode cX2_sift 47 = .ok (.iconst 2, 1) := by decide +kernel
theorem dX2_sift_48 : decode cX2_sift 48 = .ok (.isub, 1) := by decide +kernel
theorem dX2_sift_49 : decode cX2_sift 49 = .ok (.istore_n 3, 1) := by decide +kernel
theorem dX2_sift_50 : decode cX2_sift 50 = .ok (.iload_n 3, 1) := by decide +kernel
theorem dX2_sift_51 : decode cX2_sift 51 = .ok (.iload_n 2, 1) := by decide +kernel
theorem dX2_sift_52 : decode cX2_sift 52 = .ok (.if_icmp .lt 14, 3) := by decide +kernel
theorem dX2_sift_55 : decode cX2_sift 55 = .ok (.aload_n 0, 1) := by decide +kernel
theorem dX2_sift_56 : decode cX2_sift 56 = .ok (.iload_n 3, 1) := by decide +kernel
theorem dX2_sift_57 : decode cX2_sift 57 = .ok (.invokevirtual 130, 3) := by decide +kernel
theorem dX2_sift_60 : decode cX2_sift 60 = .ok (.iinc 3 (-1), 3) := by decide +kernel
theorem dX2_sift_63 : decode cX2_sift 63 = .ok (.goto (-13), 3) := by decide +kernel
theorem dX2_sift_66 : decode cX2_sift 66 = .ok (.aload_n 0, 1) := by decide +kernel
theorem dX2_sift_67 : decode cX2_sift 67 = .ok (.invokevirtual 58, 3) := by decide +kernel
theorem dX2_sift_70 : decode cX2_sift 70 = .ok (.iload_n 2, 1) := by decide +kernel
theorem dX2_sift_71 : decode cX2_sift 71 = .ok (.ireturn, 1) := by decide +kernel
theorem dX2_cost_0 : decode cX2_cost 0 = .ok (.aload_n 0, 1) := by decide +kernel
theorem dX2_cost_1 : decode cX2_cost 1 = .ok (.iload_n 1, 1) := by decide +kernel
theorem dX2_cost_2 : decode cX2_cost 2 = .ok (.invokevirtual 61, 3) := by decide +kernel
theorem dX2_cost_5 : decode cX2_cost 5 = .ok (.ifCond .eq 13, 3) := by decide +kernel
theorem dX2_cost_8 : decode cX2_cost 8 = .ok (.iload_n 2, 1) := by decide +kernel
theorem dX2_cost_9 : decode cX2_cost 9 = .ok (.ifCond .lt 9, 3) := by decide +kernel
theorem dX2_cost_12 : decode cX2_cost 12 = .ok (.iload_n 2, 1) := by decide +kernel
theorem dX2_cost_13 : decode cX2_cost 13 = .ok (.ldc 146, 2) := by decide +kernel
theorem dX2_cost_15 : decode cX2_cost 15 = .ok (.if_icmp .le 6, 3) := by decide +kernel
theorem dX2_cost_18 : decode cX2_cost 18 = .ok (.bipush (-2), 2) := by decide +kernel
theorem dX2_cost_20 : decode cX2_cost 20 = .ok (.ireturn, 1) := by decide +kernel
theorem dX2_cost_21 : decode cX2_cost 21 = .ok (.aload_n 0, 1) := by decide +kernel
theorem dX2_cost_22 : decode cX2_cost 22 = .ok (.getfield 20, 3) := by decide +kernel
theorem dX2_cost_25 : decode cX2_cost 25 = .ok (.iload_n 1, 1) := by decide +kernel
theorem dX2_cost_26 : decode cX2_cost 26 = .ok (.iaload, 1) := by decide +kernel
theorem dX2_cost_27 : decode cX2_cost 27 = .ok (.istore_n 3, 1) := by decide +kernel
theorem dX2_cost_28 : decode cX2_cost 28 = .ok (.aload_n 0, 1) := by decide +kernel
theorem dX2_cost_29 : decode cX2_cost 29 = .ok (.getfield 20, 3) := by decide +kernel
theorem dX2_cost_32 : decode cX2_cost 32 = .ok (.iload_n 1, 1) := by decide +kernel
theorem dX2_cost_33 : decode cX2_cost 33 = .ok (.iload_n 2, 1) := by decide +kernel
theorem dX2_cost_34 : decode cX2_cost 34 = .ok (.iastore, 1) := by decide +kernel
theorem dX2_cost_35 : decode cX2_cost 35 = .ok (.iload_n 3, 1) := by decide +kernel
theorem dX2_cost_36 : decode cX2_cost 36 = .ok (.ireturn, 1) := by decide +kernel
theorem dX2_same_0 : decode cX2_same 0 = .ok (.iload_n 1, 1) := by decide +kernel
theorem dX2_same_1 : decode cX2_same 1 = .ok (.invokestatic 40, 3) := by decide +kernel
theorem dX2_same_4 : decode cX2_same 4 = .ok (.ifCond .eq 10, 3) := by decide +kernel
theorem dX2_same_7 : decode cX2_same 7 = .ok (.iload_n 2, 1) := by decide +kernel
theorem dX2_same_8 : decode cX2_same 8 = .ok (.invokestatic 40, 3) := by decide +kernel
theorem dX2_same_11 : decode cX2_same 11 = .ok (.ifCond .ne 6, 3) := by decide +kernel
theorem dX2_same_14 : decode cX2_same 14 = .ok (.bipush (-2), 2) := by decide +kernel
theorem dX2_same_16 : decode cX2_same 16 = .ok (.ireturn, 1) := by decide +kernel
theorem dX2_same_17 : decode cX2_same 17 = .ok (.aload_n 0, 1) := by decide +kernel
theorem dX2_same_18 : decode cX2_same 18 = .ok (.getfield 13, 3) := by decide +kernel
theorem dX2_same_21 : decode cX2_same 21 = .ok (.iload_n 1, 1) := by decide +kernel
theorem dX2_same_22 : decode cX2_same 22 = .ok (.aaload, 1) := by decide +kernel
theorem dX2_same_23 : decode cX2_same 23 = .ok (.iconst 0, 1) := by decide +kernel
theorem dX2_same_24 : decode cX2_same 24 = .ok (.aload_n 0, 1) := by decide +kernel
theorem dX2_same_25 : decode cX2_same 25 = .ok (.getfield 13, 3) := by decide +kernel
theorem dX2_same_28 : decode cX2_same 28 = .ok (.iload_n 2, 1) := by decide +kernel
theorem dX2_same_29 : decode cX2_same 29 = .ok (.aaload, 1) := by decide +kernel
theorem dX2_same_30 : decode cX2_same 30 = .ok (.iconst 0, 1) := by decide +kernel
theorem dX2_same_31 : decode cX2_same 31 = .ok (.iconst 1, 1) := by decide +kernel
theorem dX2_same_32 : decode cX2_same 32 = .ok (.aload_n 0, 1) := by decide +kernel
theorem dX2_same_33 : decode cX2_same 33 = .ok (.getfield 94, 3) := by decide +kernel
theorem dX2_same_36 : decode cX2_same 36 = .ok (.ishl, 1) := by decide +kernel
theorem dX2_same_37 : decode cX2_same 37 = .ok (.invokestatic 147, 3) := by decide +kernel
theorem dX2_same_40 : decode cX2_same 40 = .ok (.ifCond .eq 7, 3) := by decide +kernel
theorem dX2_same_43 : decode cX2_same 43 = .ok (.iconst 1, 1) := by decide +kernel
theorem dX2_same_44 : decode cX2_same 44 = .ok (.goto 4, 3) := by decide +kernel
theorem dX2_same_47 : decode cX2_same 47 = .ok (.iconst 0, 1) := by decide +kernel
theorem dX2_same_48 : decode cX2_same 48 = .ok (.ireturn, 1) := by decide +kernel
theorem dX2_tells_0 : decode cX2_tells 0 = .ok (.iload_n 1, 1) := by decide +kernel
theorem dX2_tells_1 : decode cX2_tells 1 = .ok (.invokestatic 40, 3) := by decide +kernel
theorem dX2_tells_4 : decode cX2_tells 4 = .ok (.ifCond .eq 11, 3) := by decide +kernel
theorem dX2_tells_7 : decode cX2_tells 7 = .ok (.aload_n 0, 1) := by decide +kernel
theorem dX2_tells_8 : decode cX2_tells 8 = .ok (.iload_n 2, 1) := by decide +kernel
theorem dX2_tells_9 : decode cX2_tells 9 = .ok (.invokevirtual 87, 3) := by decide +kernel
theorem dX2_tells_12 : decode cX2_tells 12 = .ok (.ifCond .ne 6, 3) := by decide +kernel
theorem dX2_tells_15 : decode cX2_tells 15 = .ok (.bipush (-2), 2) := by decide +kernel
theorem dX2_tells_17 : decode cX2_tells 17 = .ok (.ireturn, 1) := by decide +kernel
theorem dX2_tells_18 : decode cX2_tells 18 = .ok (.aload_n 0, 1) := by decide +kernel
theorem dX2_tells_19 : decode cX2_tells 19 = .ok (.getfield 13, 3) := by decide +kernel
theorem dX2_tells_22 : decode cX2_tells 22 = .ok (.iload_n 1, 1) := by decide +kernel
theorem dX2_tells_23 : decode cX2_tells 23 = .ok (.aaload, 1) := by decide +kernel
theorem dX2_tells_24 : decode cX2_tells 24 = .ok (.aload_n 0, 1) := by decide +kernel
theorem dX2_tells_25 : decode cX2_tells 25 = .ok (.iload_n 2, 1) := by decide +kernel
theorem dX2_tells_26 : decode cX2_tells 26 = .ok (.invokevirtual 151, 3) := by decide +kernel
theorem dX2_tells_29 : decode cX2_tells 29 = .ok (.invokestatic 113, 3) := by decide +kernel
theorem dX2_tells_32 : decode cX2_tells 32 = .ok (.ifCond .eq 7, 3) := by decide +kernel
theorem dX2_tells_35 : decode cX2_tells 35 = .ok (.iconst 1, 1) := by decide +kernel
theorem dX2_tells_36 : decode cX2_tells 36 = .ok (.goto 4, 3) := by decide +kernel
theorem dX2_tells_39 : decode cX2_tells 39 = .ok (.iconst 0, 1) := by decide +kernel
theorem dX2_tells_40 : decode cX2_tells 40 = .ok (.ireturn, 1) := by decide +kernel
theorem dX2_many_0 : decode cX2_many 0 = .ok (.iload_n 1, 1) := by decide +kernel
theorem dX2_many_1 : decode cX2_many 1 = .ok (.invokestatic 40, 3) := by decide +kernel
theorem dX2_many_4 : decode cX2_many 4 = .ok (.ifCond .ne 6, 3) := by decide +kernel
theorem dX2_many_7 : decode cX2_many 7 = .ok (.bipush (-2), 2) := by decide +kernel
theorem dX2_many_9 : decode cX2_many 9 = .ok (.ireturn, 1) := by decide +kernel
theorem dX2_many_10 : decode cX2_many 10 = .ok (.iconst 0, 1) := by decide +kernel
theorem dX2_many_11 : decode cX2_many 11 = .ok (.istore_n 2, 1) := by decide +kernel
theorem dX2_many_12 : decode cX2_many 12 = .ok (.iconst 0, 1) := by decide +kernel
theorem dX2_many_13 : decode cX2_many 13 = .ok (.istore_n 3, 1) := by decide +kernel
theorem dX2_many_14 : decode cX2_many 14 = .ok (.iload_n 3, 1) := by decide +kernel
theorem dX2_many_15 : decode cX2_many 15 = .ok (.aload_n 0, 1) := by decide +kernel
theorem dX2_many_16 : decode cX2_many 16 = .ok (.getfield 44, 3) := by decide +kernel
theorem dX2_many_19 : decode cX2_many 19 = .ok (.if_icmp .ge 23, 3) := by decide +kernel
theorem dX2_many_22 : decode cX2_many 22 = .ok (.iload_n 2, 1) := by decide +kernel
theorem dX2_many_23 : decode cX2_many 23 = .ok (.aload_n 0, 1) := by decide +kernel
theorem dX2_many_24 : decode cX2_many 24 = .ok (.getfield 13, 3) := by decide +kernel
theorem dX2_many_27 : decode cX2_many 27 = .ok (.iload_n 1, 1) := by decide +kernel
theorem dX2_many_28 : decode cX2_many 28 = .ok (.aaload, 1) := by decide +kernel
theorem dX2_many_29 : decode cX2_many 29 = .ok (.iload_n 3, 1) := by decide +kernel
theorem dX2_many_30 : decode cX2_many 30 = .ok (.laload, 1) := by decide +kernel
theorem dX2_many_31 : decode cX2_many 31 = .ok (.invokestatic 154, 3) := by decide +kernel
theorem dX2_many_34 : decode cX2_many 34 = .ok (.iadd, 1) := by decide +kernel
theorem dX2_many_35 : decode cX2_many 35 = .ok (.istore_n 2, 1) := by decide +kernel
theorem dX2_many_36 : decode cX2_many 36 = .ok (.iinc 3 1, 3) := by decide +kernel
theorem dX2_many_39 : decode cX2_many 39 = .ok (.goto (-25), 3) := by decide +kernel
theorem dX2_many_42 : decode cX2_many 42 = .ok (.iload_n 2, 1) := by decide +kernel
theorem dX2_many_43 : decode cX2_many 43 = .ok (.ireturn, 1) := by decide +kernel
theorem dX2_pick_0 : decode cX2_pick 0 = .ok (.iload_n 1, 1) := by decide +kernel
theorem dX2_pick_1 : decode cX2_pick 1 = .ok (.invokestatic 40, 3) := by decide +kernel
theorem dX2_pick_4 : decode cX2_pick 4 = .ok (.ifCond .ne 6, 3) := by decide +kernel
theorem dX2_pick_7 : decode cX2_pick 7 = .ok (.bipush (-2), 2) := by decide +kernel
theorem dX2_pick_9 : decode cX2_pick 9 = .ok (.ireturn, 1) := by decide +kernel
theorem dX2_pick_10 : decode cX2_pick 10 = .ok (.iload_n 2, 1) := by decide +kernel
theorem dX2_pick_11 : decode cX2_pick 11 = .ok (.ifCond .ge 5, 3) := by decide +kernel
theorem dX2_pick_14 : decode cX2_pick 14 = .ok (.iconst (-1), 1) := by decide +kernel
theorem dX2_pick_15 : decode cX2_pick 15 = .ok (.ireturn, 1) := by decide +kernel
theorem dX2_pick_16 : decode cX2_pick 16 = .ok (.aload_n 0, 1) := by decide +kernel
theorem dX2_pick_17 : decode cX2_pick 17 = .ok (.aload_n 0, 1) := by decide +kernel
theorem dX2_pick_18 : decode cX2_pick 18 = .ok (.getfield 23, 3) := by decide +kernel
theorem dX2_pick_21 : decode cX2_pick 21 = .ok (.invokevirtual 160, 3) := by decide +kernel
theorem dX2_pick_24 : decode cX2_pick 24 = .ok (.iconst 0, 1) := by decide +kernel
theorem dX2_pick_25 : decode cX2_pick 25 = .ok (.istore_n 3, 1) := by decide +kernel
theorem dX2_pick_26 : decode cX2_pick 26 = .ok (.iconst 0, 1) := by decide +kernel
theorem dX2_pick_27 : decode cX2_pick 27 = .ok (.istore 4, 2) := by decide +kernel
theorem dX2_pick_29 : decode cX2_pick 29 = .ok (.iload 4, 2) := by decide +kernel
theorem dX2_pick_31 : decode cX2_pick 31 = .ok (.iconst 1, 1) := by decide +kernel
theorem dX2_pick_32 : decode cX2_pick 32 = .ok (.aload_n 0, 1) := by decide +kernel
theorem dX2_pick_33 : decode cX2_pick 33 = .ok (.getfield 94, 3) := by decide +kernel
theorem dX2_pick_36 : decode cX2_pick 36 = .ok (.ishl, 1) := by decide +kernel
theorem dX2_pick_37 : decode cX2_pick 37 = .ok (.if_icmp .ge 39, 3) := by decide +kernel
theorem dX2_pick_40 : decode cX2_pick 40 = .ok (.aload_n 0, 1) := by decide +kernel
theorem dX2_pick_41 : decode cX2_pick 41 = .ok (.getfield 13, 3) := by decide +kernel
theorem dX2_pick_44 : decode cX2_pick 44 = .ok (.iload_n 1, 1) := by decide +kernel
theorem dX2_pick_45 : decode cX2_pick 45 = .ok (.aaload, 1) := by decide +kernel
theorem dX2_pick_46 : decode cX2_pick 46 = .ok (.aload_n 0, 1) := by decide +kernel
theorem dX2_pick_47 : decode cX2_pick 47 = .ok (.getfield 23, 3) := by decide +kernel
theorem dX2_pick_50 : decode cX2_pick 50 = .ok (.iload 4, 2) := by decide +kernel
theorem dX2_pick_52 : decode cX2_pick 52 = .ok (.iaload, 1) := by decide +kernel
theorem dX2_pick_53 : decode cX2_pick 53 = .ok (.invokestatic 113, 3) := by decide +kernel
theorem dX2_pick_56 : decode cX2_pick 56 = .ok (.ifCond .eq 14, 3) := by decide +kernel
theorem dX2_pick_59 : decode cX2_pick 59 = .ok (.iload_n 3, 1) := by decide +kernel
theorem dX2_pick_60 : decode cX2_pick 60 = .ok (.iload_n 2, 1) := by decide +kernel
theorem dX2_pick_61 : decode cX2_pick 61 = .ok (.if_icmp .ne 6, 3) := by decide +kernel
theorem dX2_pick_64 : decode cX2_pick 64 = .ok (.iload 4, 2) := by decide +kernel
theorem dX2_pick_66 : decode cX2_pick 66 = .ok (.ireturn, 1) := by decide +kernel
theorem dX2_pick_67 : decode cX2_pick 67 = .ok (.iinc 3 1, 3) := by decide +kernel
theorem dX2_pick_70 : decode cX2_pick 70 = .ok (.iinc 4 1, 3) := by decide +kernel
theorem dX2_pick_73 : decode cX2_pick 73 = .ok (.goto (-44), 3) := by decide +kernel
theorem dX2_pick_76 : decode cX2_pick 76 = .ok (.iconst (-1), 1) := by decide +kernel
theorem dX2_pick_77 : decode cX2_pick 77 = .ok (.ireturn, 1) := by decide +kernel
theorem dX2_cheapest_0 : decode cX2_cheapest 0 = .ok (.iload_n 1, 1) := by decide +kernel
theorem dX2_cheapest_1 : decode cX2_cheapest 1 = .ok (.invokestatic 40, 3) := by decide +kernel
theorem dX2_cheapest_4 : decode cX2_cheapest 4 = .ok (.ifCond .ne 6, 3) := by decide +kernel
theorem dX2_cheapest_7 : decode cX2_cheapest 7 = .ok (.bipush (-2), 2) := by decide +kernel
theorem dX2_cheapest_9 : decode cX2_cheapest 9 = .ok (.ireturn, 1) := by decide +kernel
theorem dX2_cheapest_10 : decode cX2_cheapest 10 = .ok (.aload_n 0, 1) := by decide +kernel
theorem dX2_cheapest_11 : decode cX2_cheapest 11 = .ok (.aload_n 0, 1) := by decide +kernel
theorem dX2_cheapest_12 : decode cX2_cheapest 12 = .ok (.getfield 23, 3) := by decide +kernel
theorem dX2_cheapest_15 : decode cX2_cheapest 15 = .ok (.invokevirtual 160, 3) := by decide +kernel
theorem dX2_cheapest_18 : decode cX2_cheapest 18 = .ok (.aload_n 0, 1) := by decide +kernel
theorem dX2_cheapest_19 : decode cX2_cheapest 19 = .ok (.aload_n 0, 1) := by decide +kernel
theorem dX2_cheapest_20 : decode cX2_cheapest 20 = .ok (.getfield 26, 3) := by decide +kernel
theorem dX2_cheapest_23 : decode cX2_cheapest 23 = .ok (.invokevirtual 164, 3) := by decide +kernel
theorem dX2_cheapest_26 : decode cX2_cheapest 26 = .ok (.iconst (-1), 1) := by decide +kernel
theorem dX2_cheapest_27 : decode cX2_cheapest 27 = .ok (.istore_n 2, 1) := by decide +kernel
theorem dX2_cheapest_28 : decode cX2_cheapest 28 = .ok (.iconst 0, 1) := by decide +kernel
theorem dX2_cheapest_29 : decode cX2_cheapest 29 = .ok (.istore_n 3, 1) := by decide +kernel
theorem dX2_cheapest_30 : decode cX2_cheapest 30 = .ok (.iload_n 3, 1) := by decide +kernel
theorem dX2_cheapest_31 : decode cX2_cheapest 31 = .ok (.iconst 1, 1) := by decide +kernel
theorem dX2_cheapest_32 : decode cX2_cheapest 32 = .ok (.aload_n 0, 1) := by decide +kernel
theorem dX2_cheapest_33 : decode cX2_cheapest 33 = .ok (.getfield 94, 3) := by decide +kernel
theorem dX2_cheapest_36 : decode cX2_cheapest 36 = .ok (.ishl, 1) := by decide +kernel
theorem dX2_cheapest_37 : decode cX2_cheapest 37 = .ok (.if_icmp .ge 49, 3) := by decide +kernel
theorem dX2_cheapest_40 : decode cX2_cheapest 40 = .ok (.aload_n 0, 1) := by decide +kernel
theorem dX2_cheapest_41 : decode cX2_cheapest 41 = .ok (.getfield 13, 3) := by decide +kernel
theorem dX2_cheapest_44 : decode cX2_cheapest 44 = .ok (.iload_n 1, 1) := by decide +kernel
theorem dX2_cheapest_45 : decode cX2_cheapest 45 = .ok (.aaload, 1) := by decide +kernel
theorem dX2_cheapest_46 : decode cX2_cheapest 46 = .ok (.aload_n 0, 1) := by decide +kernel
theorem dX2_cheapest_47 : decode cX2_cheapest 47 = .ok (.getfield 23, 3) := by decide +kernel
theorem dX2_cheapest_50 : decode cX2_cheapest 50 = .ok (.iload_n 3, 1) := by decide +kernel
theorem dX2_cheapest_51 : decode cX2_cheapest 51 = .ok (.iaload, 1) := by decide +kernel
theorem dX2_cheapest_52 : decode cX2_cheapest 52 = .ok (.invokestatic 113, 3) := by decide +kernel
theorem dX2_cheapest_55 : decode cX2_cheapest 55 = .ok (.ifCond .eq 25, 3) := by decide +kernel
theorem dX2_cheapest_58 : decode cX2_cheapest 58 = .ok (.iload_n 2, 1) := by decide +kernel
theorem dX2_cheapest_59 : decode cX2_cheapest 59 = .ok (.iconst (-1), 1) := by decide +kernel
theorem dX2_cheapest_60 : decode cX2_cheapest 60 = .ok (.if_icmp .eq 18, 3) := by decide +kernel
theorem dX2_cheapest_63 : decode cX2_cheapest 63 = .ok (.aload_n 0, 1) := by decide +kernel
theorem dX2_cheapest_64 : decode cX2_cheapest 64 = .ok (.getfield 26, 3) := by decide +kernel
theorem dX2_cheapest_67 : decode cX2_cheapest 67 = .ok (.iload_n 3, 1) := by decide +kernel
theorem dX2_cheapest_68 : decode cX2_cheapest 68 = .ok (.iaload, 1) := by decide +kernel
theorem dX2_cheapest_69 : decode cX2_cheapest 69 = .ok (.aload_n 0, 1) := by decide +kernel
theorem dX2_cheapest_70 : decode cX2_cheapest 70 = .ok (.getfield 26, 3) := by decide +kernel
theorem dX2_cheapest_73 : decode cX2_cheapest 73 = .ok (.iload_n 2, 1) := by decide +kernel
theorem dX2_cheapest_74 : decode cX2_cheapest 74 = .ok (.iaload, 1) := by decide +kernel
theorem dX2_cheapest_75 : decode cX2_cheapest 75 = .ok (.if_icmp .ge 5, 3) := by decide +kernel
theorem dX2_cheapest_78 : decode cX2_cheapest 78 = .ok (.iload_n 3, 1) := by decide +kernel
theorem dX2_cheapest_79 : decode cX2_cheapest 79 = .ok (.istore_n 2, 1) := by decide +kernel
theorem dX2_cheapest_80 : decode cX2_cheapest 80 = .ok (.iinc 3 1, 3) := by decide +kernel
theorem dX2_cheapest_83 : decode cX2_cheapest 83 = .ok (.goto (-53), 3) := by decide +kernel
theorem dX2_cheapest_86 : decode cX2_cheapest 86 = .ok (.iload_n 2, 1) := by decide +kernel
theorem dX2_cheapest_87 : decode cX2_cheapest 87 = .ok (.ireturn, 1) := by decide +kernel
theorem dX2_dearest_0 : decode cX2_dearest 0 = .ok (.iload_n 1, 1) := by decide +kernel
theorem dX2_dearest_1 : decode cX2_dearest 1 = .ok (.invokestatic 40, 3) := by decide +kernel
theorem dX2_dearest_4 : decode cX2_dearest 4 = .ok (.ifCond .ne 6, 3) := by decide +kernel
theorem dX2_dearest_7 : decode cX2_dearest 7 = .ok (.bipush (-2), 2) := by decide +kernel
theorem dX2_dearest_9 : decode cX2_dearest 9 = .ok (.ireturn, 1) := by decide +kernel
theorem dX2_dearest_10 : decode cX2_dearest 10 = .ok (.aload_n 0, 1) := by decide +kernel
theorem dX2_dearest_11 : decode cX2_dearest 11 = .ok (.aload_n 0, 1) := by decide +kernel
theorem dX2_dearest_12 : decode cX2_dearest 12 = .ok (.getfield 23, 3) := by decide +kernel
theorem dX2_dearest_15 : decode cX2_dearest 15 = .ok (.invokevirtual 160, 3) := by decide +kernel
theorem dX2_dearest_18 : decode cX2_dearest 18 = .ok (.aload_n 0, 1) := by decide +kernel
theorem dX2_dearest_19 : decode cX2_dearest 19 = .ok (.aload_n 0, 1) := by decide +kernel
theorem dX2_dearest_20 : decode cX2_dearest 20 = .ok (.getfield 26, 3) := by decide +kernel
theorem dX2_dearest_23 : decode cX2_dearest 23 = .ok (.invokevirtual 164, 3) := by decide +kernel
theorem dX2_dearest_26 : decode cX2_dearest 26 = .ok (.iconst (-1), 1) := by decide +kernel
theorem dX2_dearest_27 : decode cX2_dearest 27 = .ok (.istore_n 2, 1) := by decide +kernel
theorem dX2_dearest_28 : decode cX2_dearest 28 = .ok (.iconst 0, 1) := by decide +kernel
theorem dX2_dearest_29 : decode cX2_dearest 29 = .ok (.istore_n 3, 1) := by decide +kernel
theorem dX2_dearest_30 : decode cX2_dearest 30 = .ok (.iload_n 3, 1) := by decide +kernel
theorem dX2_dearest_31 : decode cX2_dearest 31 = .ok (.iconst 1, 1) := by decide +kernel
theorem dX2_dearest_32 : decode cX2_dearest 32 = .ok (.aload_n 0, 1) := by decide +kernel
theorem dX2_dearest_33 : decode cX2_dearest 33 = .ok (.getfield 94, 3) := by decide +kernel
theorem dX2_dearest_36 : decode cX2_dearest 36 = .ok (.ishl, 1) := by decide +kernel
theorem dX2_dearest_37 : decode cX2_dearest 37 = .ok (.if_icmp .ge 38, 3) := by decide +kernel
theorem dX2_dearest_40 : decode cX2_dearest 40 = .ok (.aload_n 0, 1) := by decide +kernel
theorem dX2_dearest_41 : decode cX2_dearest 41 = .ok (.getfield 13, 3) := by decide +kernel
theorem dX2_dearest_44 : decode cX2_dearest 44 = .ok (.iload_n 1, 1) := by decide +kernel
theorem dX2_dearest_45 : decode cX2_dearest 45 = .ok (.aaload, 1) := by decide +kernel
theorem dX2_dearest_46 : decode cX2_dearest 46 = .ok (.aload_n 0, 1) := by decide +kernel
theorem dX2_dearest_47 : decode cX2_dearest 47 = .ok (.getfield 23, 3) := by decide +kernel
theorem dX2_dearest_50 : decode cX2_dearest 50 = .ok (.iload_n 3, 1) := by decide +kernel
theorem dX2_dearest_51 : decode cX2_dearest 51 = .ok (.iaload, 1) := by decide +kernel
theorem dX2_dearest_52 : decode cX2_dearest 52 = .ok (.invokestatic 113, 3) := by decide +kernel
theorem dX2_dearest_55 : decode cX2_dearest 55 = .ok (.ifCond .eq 14, 3) := by decide +kernel
theorem dX2_dearest_58 : decode cX2_dearest 58 = .ok (.iload_n 2, 1) := by decide +kernel
theorem dX2_dearest_59 : decode cX2_dearest 59 = .ok (.aload_n 0, 1) := by decide +kernel
theorem dX2_dearest_60 : decode cX2_dearest 60 = .ok (.getfield 26, 3) := by decide +kernel
theorem dX2_dearest_63 : decode cX2_dearest 63 = .ok (.iload_n 3, 1) := by decide +kernel
theorem dX2_dearest_64 : decode cX2_dearest 64 = .ok (.iaload, 1) := by decide +kernel
theorem dX2_dearest_65 : decode cX2_dearest 65 = .ok (.invokestatic 167, 3) := by decide +kernel
theorem dX2_dearest_68 : decode cX2_dearest 68 = .ok (.istore_n 2, 1) := by decide +kernel
theorem dX2_dearest_69 : decode cX2_dearest 69 = .ok (.iinc 3 1, 3) := by decide +kernel
theorem dX2_dearest_72 : decode cX2_dearest 72 = .ok (.goto (-42), 3) := by decide +kernel
theorem dX2_dearest_75 : decode cX2_dearest 75 = .ok (.iload_n 2, 1) := by decide +kernel
theorem dX2_dearest_76 : decode cX2_dearest 76 = .ok (.ireturn, 1) := by decide +kernel
theorem dX2_letters_0 : decode cX2_letters 0 = .ok (.iload_n 1, 1) := by decide +kernel
theorem dX2_letters_1 : decode cX2_letters 1 = .ok (.invokestatic 40, 3) := by decide +kernel
theorem dX2_letters_4 : decode cX2_letters 4 = .ok (.ifCond .ne 6, 3) := by decide +kernel
theorem dX2_letters_7 : decode cX2_letters 7 = .ok (.bipush (-2), 2) := by decide +kernel
theorem dX2_letters_9 : decode cX2_letters 9 = .ok (.ireturn, 1) := by decide +kernel
theorem dX2_letters_10 : decode cX2_letters 10 = .ok (.iconst 0, 1) := by decide +kernel
theorem dX2_letters_11 : decode cX2_letters 11 = .ok (.istore_n 2, 1) := by decide +kernel
theorem dX2_letters_12 : decode cX2_letters 12 = .ok (.iconst 0, 1) := by decide +kernel
theorem dX2_letters_13 : decode cX2_letters 13 = .ok (.istore_n 3, 1) := by decide +kernel
theorem dX2_letters_14 : decode cX2_letters 14 = .ok (.iload_n 3, 1) := by decide +kernel
theorem dX2_letters_15 : decode cX2_letters 15 = .ok (.aload_n 0, 1) := by decide +kernel
theorem dX2_letters_16 : decode cX2_letters 16 = .ok (.getfield 94, 3) := by decide +kernel
theorem dX2_letters_19 : decode cX2_letters 19 = .ok (.if_icmp .ge 33, 3) := by decide +kernel
theorem dX2_letters_22 : decode cX2_letters 22 = .ok (.aload_n 0, 1) := by decide +kernel
theorem dX2_letters_23 : decode cX2_letters 23 = .ok (.aload_n 0, 1) := by decide +kernel
theorem dX2_letters_24 : decode cX2_letters 24 = .ok (.getfield 13, 3) := by decide +kernel
theorem dX2_letters_27 : decode cX2_letters 27 = .ok (.iload_n 1, 1) := by decide +kernel
theorem dX2_letters_28 : decode cX2_letters 28 = .ok (.aaload, 1) := by decide +kernel
theorem dX2_letters_29 : decode cX2_letters 29 = .ok (.aload_n 0, 1) := by decide +kernel
theorem dX2_letters_30 : decode cX2_letters 30 = .ok (.iload_n 3, 1) := by decide +kernel
theorem dX2_letters_31 : decode cX2_letters 31 = .ok (.invokevirtual 64, 3) := by decide +kernel
theorem dX2_letters_34 : decode cX2_letters 34 = .ok (.invokevirtual 173, 3) := by decide +kernel
theorem dX2_letters_37 : decode cX2_letters 37 = .ok (.ifCond .eq 9, 3) := by decide +kernel
theorem dX2_letters_40 : decode cX2_letters 40 = .ok (.iload_n 2, 1) := by decide +kernel
theorem dX2_letters_41 : decode cX2_letters 41 = .ok (.iconst 1, 1) := by decide +kernel
theorem dX2_letters_42 : decode cX2_letters 42 = .ok (.iload_n 3, 1) := by decide +kernel
theorem dX2_letters_43 : decode cX2_letters 43 = .ok (.ishl, 1) := by decide +kernel
theorem dX2_letters_44 : decode cX2_letters 44 = .ok (.ior, 1) := by decide +kernel
theorem dX2_letters_45 : decode cX2_letters 45 = .ok (.istore_n 2, 1) := by decide +kernel
theorem dX2_letters_46 : decode cX2_letters 46 = .ok (.iinc 3 1, 3) := by decide +kernel
theorem dX2_letters_49 : decode cX2_letters 49 = .ok (.goto (-35), 3) := by decide +kernel
theorem dX2_letters_52 : decode cX2_letters 52 = .ok (.iload_n 2, 1) := by decide +kernel
theorem dX2_letters_53 : decode cX2_letters 53 = .ok (.ireturn, 1) := by decide +kernel
theorem dX2_size_0 : decode cX2_size 0 = .ok (.iload_n 1, 1) := by decide +kernel
theorem dX2_size_1 : decode cX2_size 1 = .ok (.invokestatic 40, 3) := by decide +kernel
theorem dX2_size_4 : decode cX2_size 4 = .ok (.ifCond .ne 6, 3) := by decide +kernel
theorem dX2_size_7 : decode cX2_size 7 = .ok (.bipush (-2), 2) := by decide +kernel
theorem dX2_size_9 : decode cX2_size 9 = .ok (.ireturn, 1) := by decide +kernel
theorem dX2_size_10 : decode cX2_size 10 = .ok (.aload_n 0, 1) := by decide +kernel
theorem dX2_size_11 : decode cX2_size 11 = .ok (.iload_n 1, 1) := by decide +kernel
theorem dX2_size_12 : decode cX2_size 12 = .ok (.invokevirtual 176, 3) := by decide +kernel
theorem dX2_size_15 : decode cX2_size 15 = .ok (.ireturn, 1) := by decide +kernel
theorem dX2_width_0 : decode cX2_width 0 = .ok (.iload_n 1, 1) := by decide +kernel
theorem dX2_width_1 : decode cX2_width 1 = .ok (.invokestatic 40, 3) := by decide +kernel
theorem dX2_width_4 : decode cX2_width 4 = .ok (.ifCond .eq 11, 3) := by decide +kernel
theorem dX2_width_7 : decode cX2_width 7 = .ok (.aload_n 0, 1) := by decide +kernel
theorem dX2_width_8 : decode cX2_width 8 = .ok (.iload_n 2, 1) := by decide +kernel
theorem dX2_width_9 : decode cX2_width 9 = .ok (.invokevirtual 127, 3) := by decide +kernel
theorem dX2_width_12 : decode cX2_width 12 = .ok (.ifCond .ne 6, 3) := by decide +kernel
theorem dX2_width_15 : decode cX2_width 15 = .ok (.bipush (-2), 2) := by decide +kernel
theorem dX2_width_17 : decode cX2_width 17 = .ok (.ireturn, 1) := by decide +kernel
theorem dX2_width_18 : decode cX2_width 18 = .ok (.aload_n 0, 1) := by decide +kernel
theorem dX2_width_19 : decode cX2_width 19 = .ok (.iload_n 1, 1) := by decide +kernel
theorem dX2_width_20 : decode cX2_width 20 = .ok (.invokevirtual 176, 3) := by decide +kernel
theorem dX2_width_23 : decode cX2_width 23 = .ok (.pop, 1) := by decide +kernel
theorem dX2_width_24 : decode cX2_width 24 = .ok (.aload_n 0, 1) := by decide +kernel
theorem dX2_width_25 : decode cX2_width 25 = .ok (.getfield 32, 3) := by decide +kernel
theorem dX2_width_28 : decode cX2_width 28 = .ok (.getfield 179, 3) := by decide +kernel
theorem dX2_width_31 : decode cX2_width 31 = .ok (.iload_n 2, 1) := by decide +kernel
theorem dX2_width_32 : decode cX2_width 32 = .ok (.iaload, 1) := by decide +kernel
theorem dX2_width_33 : decode cX2_width 33 = .ok (.ireturn, 1) := by decide +kernel
theorem dX2_point_0 : decode cX2_point 0 = .ok (.iload_n 1, 1) := by decide +kernel
theorem dX2_point_1 : decode cX2_point 1 = .ok (.invokestatic 40, 3) := by decide +kernel
theorem dX2_point_4 : decode cX2_point 4 = .ok (.ifCond .ne 6, 3) := by decide +kernel
theorem dX2_point_7 : decode cX2_point 7 = .ok (.bipush (-2), 2) := by decide +kernel
theorem dX2_point_9 : decode cX2_point 9 = .ok (.ireturn, 1) := by decide +kernel
theorem dX2_point_10 : decode cX2_point 10 = .ok (.aload_n 0, 1) := by decide +kernel
theorem dX2_point_11 : decode cX2_point 11 = .ok (.iload_n 1, 1) := by decide +kernel
theorem dX2_point_12 : decode cX2_point 12 = .ok (.invokevirtual 182, 3) := by decide +kernel
theorem dX2_point_15 : decode cX2_point 15 = .ok (.iconst 0, 1) := by decide +kernel
theorem dX2_point_16 : decode cX2_point 16 = .ok (.ireturn, 1) := by decide +kernel
theorem dX2_go_0 : decode cX2_go 0 = .ok (.aload_n 0, 1) := by decide +kernel
theorem dX2_go_1 : decode cX2_go 1 = .ok (.invokevirtual 185, 3) := by decide +kernel
theorem dX2_go_4 : decode cX2_go 4 = .ok (.istore_n 2, 1) := by decide +kernel
theorem dX2_go_5 : decode cX2_go 5 = .ok (.iload_n 2, 1) := by decide +kernel
theorem dX2_go_6 : decode cX2_go 6 = .ok (.aload_n 0, 1) := by decide +kernel
theorem dX2_go_7 : decode cX2_go 7 = .ok (.getfield 94, 3) := by decide +kernel
theorem dX2_go_10 : decode cX2_go 10 = .ok (.if_icmp .ne 5, 3) := by decide +kernel
theorem dX2_go_13 : decode cX2_go 13 = .ok (.iconst 0, 1) := by decide +kernel
theorem dX2_go_14 : decode cX2_go 14 = .ok (.ireturn, 1) := by decide +kernel
theorem dX2_go_15 : decode cX2_go 15 = .ok (.iload_n 1, 1) := by decide +kernel
theorem dX2_go_16 : decode cX2_go 16 = .ok (.ifCond .eq 19, 3) := by decide +kernel
theorem dX2_go_19 : decode cX2_go 19 = .ok (.aload_n 0, 1) := by decide +kernel
theorem dX2_go_20 : decode cX2_go 20 = .ok (.dup, 1) := by decide +kernel
theorem dX2_go_21 : decode cX2_go 21 = .ok (.getfield 188, 3) := by decide +kernel
theorem dX2_go_24 : decode cX2_go 24 = .ok (.iconst 1, 1) := by decide +kernel
theorem dX2_go_25 : decode cX2_go 25 = .ok (.aload_n 0, 1) := by decide +kernel
theorem dX2_go_26 : decode cX2_go 26 = .ok (.iload_n 2, 1) := by decide +kernel
theorem dX2_go_27 : decode cX2_go 27 = .ok (.invokevirtual 191, 3) := by decide +kernel
theorem dX2_go_30 : decode cX2_go 30 = .ok (.ishl, 1) := by decide +kernel
theorem dX2_go_31 : decode cX2_go 31 = .ok (.iadd, 1) := by decide +kernel
theorem dX2_go_32 : decode cX2_go 32 = .ok (.putfield 188, 3) := by decide +kernel
theorem dX2_go_35 : decode cX2_go 35 = .ok (.aload_n 0, 1) := by decide +kernel
theorem dX2_go_36 : decode cX2_go 36 = .ok (.iload_n 2, 1) := by decide +kernel
theorem dX2_go_37 : decode cX2_go 37 = .ok (.iconst 1, 1) := by decide +kernel
theorem dX2_go_38 : decode cX2_go 38 = .ok (.iadd, 1) := by decide +kernel
theorem dX2_go_39 : decode cX2_go 39 = .ok (.putfield 194, 3) := by decide +kernel
theorem dX2_go_42 : decode cX2_go 42 = .ok (.iconst 1, 1) := by decide +kernel
theorem dX2_go_43 : decode cX2_go 43 = .ok (.ireturn, 1) := by decide +kernel
theorem dX2_at_0 : decode cX2_at 0 = .ok (.aload_n 0, 1) := by decide +kernel
theorem dX2_at_1 : decode cX2_at 1 = .ok (.invokevirtual 185, 3) := by decide +kernel
theorem dX2_at_4 : decode cX2_at 4 = .ok (.istore_n 1, 1) := by decide +kernel
theorem dX2_at_5 : decode cX2_at 5 = .ok (.iload_n 1, 1) := by decide +kernel
theorem dX2_at_6 : decode cX2_at 6 = .ok (.aload_n 0, 1) := by decide +kernel
theorem dX2_at_7 : decode cX2_at 7 = .ok (.getfield 94, 3) := by decide +kernel
theorem dX2_at_10 : decode cX2_at 10 = .ok (.if_icmp .ge 10, 3) := by decide +kernel
theorem dX2_at_13 : decode cX2_at 13 = .ok (.aload_n 0, 1) := by decide +kernel
theorem dX2_at_14 : decode cX2_at 14 = .ok (.getfield 16, 3) := by decide +kernel
theorem dX2_at_17 : decode cX2_at 17 = .ok (.iload_n 1, 1) := by decide +kernel
theorem dX2_at_18 : decode cX2_at 18 = .ok (.iaload, 1) := by decide +kernel
theorem dX2_at_19 : decode cX2_at 19 = .ok (.ireturn, 1) := by decide +kernel
theorem dX2_at_20 : decode cX2_at 20 = .ok (.aload_n 0, 1) := by decide +kernel
theorem dX2_at_21 : decode cX2_at 21 = .ok (.getfield 13, 3) := by decide +kernel
theorem dX2_at_24 : decode cX2_at 24 = .ok (.aload_n 0, 1) := by decide +kernel
theorem dX2_at_25 : decode cX2_at 25 = .ok (.getfield 197, 3) := by decide +kernel
theorem dX2_at_28 : decode cX2_at 28 = .ok (.aaload, 1) := by decide +kernel
theorem dX2_at_29 : decode cX2_at 29 = .ok (.aload_n 0, 1) := by decide +kernel
theorem dX2_at_30 : decode cX2_at 30 = .ok (.getfield 188, 3) := by decide +kernel
theorem dX2_at_33 : decode cX2_at 33 = .ok (.invokestatic 113, 3) := by decide +kernel
theorem dX2_at_36 : decode cX2_at 36 = .ok (.ifCond .eq 8, 3) := by decide +kernel
theorem dX2_at_39 : decode cX2_at 39 = .ok (.bipush (-3), 2) := by decide +kernel
theorem dX2_at_41 : decode cX2_at 41 = .ok (.goto 5, 3) := by decide +kernel
theorem dX2_at_44 : decode cX2_at 44 = .ok (.bipush (-2), 2) := by decide +kernel
theorem dX2_at_46 : decode cX2_at 46 = .ok (.ireturn, 1) := by decide +kernel
theorem dX2_level_0 : decode cX2_level 0 = .ok (.aload_n 0, 1) := by decide +kernel
theorem dX2_level_1 : decode cX2_level 1 = .ok (.iload_n 1, 1) := by decide +kernel
theorem dX2_level_2 : decode cX2_level 2 = .ok (.invokevirtual 127, 3) := by decide +kernel
theorem dX2_level_5 : decode cX2_level 5 = .ok (.ifCond .ne 5, 3) := by decide +kernel
theorem dX2_level_8 : decode cX2_level 8 = .ok (.iconst (-1), 1) := by decide +kernel
theorem dX2_level_9 : decode cX2_level 9 = .ok (.ireturn, 1) := by decide +kernel
theorem dX2_level_10 : decode cX2_level 10 = .ok (.iload_n 2, 1) := by decide +kernel
theorem dX2_level_11 : decode cX2_level 11 = .ok (.ifCond .ne 10, 3) := by decide +kernel
theorem dX2_level_14 : decode cX2_level 14 = .ok (.aload_n 0, 1) := by decide +kernel
theorem dX2_level_15 : decode cX2_level 15 = .ok (.getfield 16, 3) := by decide +kernel
theorem dX2_level_18 : decode cX2_level 18 = .ok (.iload_n 1, 1) := by decide +kernel
theorem dX2_level_19 : decode cX2_level 19 = .ok (.iaload, 1) := by decide +kernel
theorem dX2_level_20 : decode cX2_level 20 = .ok (.ireturn, 1) := by decide +kernel
theorem dX2_level_21 : decode cX2_level 21 = .ok (.iload_n 2, 1) := by decide +kernel
theorem dX2_level_22 : decode cX2_level 22 = .ok (.iconst 1, 1) := by decide +kernel
theorem dX2_level_23 : decode cX2_level 23 = .ok (.if_icmp .ne 18, 3) := by decide +kernel
theorem dX2_level_26 : decode cX2_level 26 = .ok (.aload_n 0, 1) := by decide +kernel
theorem dX2_level_27 : decode cX2_level 27 = .ok (.invokevirtual 133, 3) := by decide +kernel
theorem dX2_level_30 : decode cX2_level 30 = .ok (.pop, 1) := by decide +kernel
theorem dX2_level_31 : decode cX2_level 31 = .ok (.aload_n 0, 1) := by decide +kernel
theorem dX2_level_32 : decode cX2_level 32 = .ok (.getfield 32, 3) := by decide +kernel
theorem dX2_level_35 : decode cX2_level 35 = .ok (.getfield 179, 3) := by decide +kernel
theorem dX2_level_38 : decode cX2_level 38 = .ok (.iload_n 1, 1) := by decide +kernel
theorem dX2_level_39 : decode cX2_level 39 = .ok (.iaload, 1) := by decide +kernel
theorem dX2_level_40 : decode cX2_level 40 = .ok (.ireturn, 1) := by decide +kernel
theorem dX2_level_41 : decode cX2_level 41 = .ok (.iconst (-1), 1) := by decide +kernel
theorem dX2_level_42 : decode cX2_level 42 = .ok (.ireturn, 1) := by decide +kernel
theorem dX2_count_0 : decode cX2_count 0 = .ok (.iload_n 1, 1) := by decide +kernel
theorem dX2_count_1 : decode cX2_count 1 = .ok (.tableswitch 51 0 3 #[31, 36, 41, 46], 31) := by decide +kernel
theorem dX2_count_32 : decode cX2_count 32 = .ok (.aload_n 0, 1) := by decide +kernel
theorem dX2_count_33 : decode cX2_count 33 = .ok (.getfield 94, 3) := by decide +kernel
theorem dX2_count_36 : decode cX2_count 36 = .ok (.ireturn, 1) := by decide +kernel
theorem dX2_count_37 : decode cX2_count 37 = .ok (.aload_n 0, 1) := by decide +kernel
theorem dX2_count_38 : decode cX2_count 38 = .ok (.getfield 137, 3) := by decide +kernel
theorem dX2_count_41 : decode cX2_count 41 = .ok (.ireturn, 1) := by decide +kernel
theorem dX2_count_42 : decode cX2_count 42 = .ok (.aload_n 0, 1) := by decide +kernel
theorem dX2_count_43 : decode cX2_count 43 = .ok (.invokevirtual 133, 3) := by decide +kernel
theorem dX2_count_46 : decode cX2_count 46 = .ok (.ireturn, 1) := by decide +kernel
theorem dX2_count_47 : decode cX2_count 47 = .ok (.aload_n 0, 1) := by decide +kernel
theorem dX2_count_48 : decode cX2_count 48 = .ok (.invokevirtual 200, 3) := by decide +kernel
theorem dX2_count_51 : decode cX2_count 51 = .ok (.ireturn, 1) := by decide +kernel
theorem dX2_count_52 : decode cX2_count 52 = .ok (.iconst (-1), 1) := by decide +kernel
theorem dX2_count_53 : decode cX2_count 53 = .ok (.ireturn, 1) := by decide +kernel
theorem dX2_begin_0 : decode cX2_begin 0 = .ok (.aload_n 0, 1) := by decide +kernel
theorem dX2_begin_1 : decode cX2_begin 1 = .ok (.iload_n 1, 1) := by decide +kernel
theorem dX2_begin_2 : decode cX2_begin 2 = .ok (.putfield 94, 3) := by decide +kernel
theorem dX2_begin_5 : decode cX2_begin 5 = .ok (.aload_n 0, 1) := by decide +kernel
theorem dX2_begin_6 : decode cX2_begin 6 = .ok (.iload_n 2, 1) := by decide +kernel
theorem dX2_begin_7 : decode cX2_begin 7 = .ok (.putfield 137, 3) := by decide +kernel
theorem dX2_begin_10 : decode cX2_begin 10 = .ok (.iconst 1, 1) := by decide +kernel
theorem dX2_begin_11 : decode cX2_begin 11 = .ok (.iload_n 1, 1) := by decide +kernel
theorem dX2_begin_12 : decode cX2_begin 12 = .ok (.ishl, 1) := by decide +kernel
theorem dX2_begin_13 : decode cX2_begin 13 = .ok (.istore_n 3, 1) := by decide +kernel
theorem dX2_begin_14 : decode cX2_begin 14 = .ok (.aload_n 0, 1) := by decide +kernel
theorem dX2_begin_15 : decode cX2_begin 15 = .ok (.iconst 1, 1) := by decide +kernel
theorem dX2_begin_16 : decode cX2_begin 16 = .ok (.iload_n 3, 1) := by decide +kernel
theorem dX2_begin_17 : decode cX2_begin 17 = .ok (.bipush 6, 2) := by decide +kernel
theorem dX2_begin_19 : decode cX2_begin 19 = .ok (.ishr, 1) := by decide +kernel
theorem dX2_begin_20 : decode cX2_begin 20 = .ok (.invokestatic 167, 3) := by decide +kernel
theorem dX2_begin_23 : decode cX2_begin 23 = .ok (.putfield 44, 3) := by decide +kernel
theorem dX2_begin_26 : decode cX2_begin 26 = .ok (.aload_n 0, 1) := by decide +kernel
theorem dX2_begin_27 : decode cX2_begin 27 = .ok (.iload_n 3, 1) := by decide +kernel
theorem dX2_begin_28 : decode cX2_begin 28 = .ok (.invokestatic 203, 3) := by decide +kernel
theorem dX2_begin_31 : decode cX2_begin 31 = .ok (.putfield 48, 3) := by decide +kernel
theorem dX2_begin_34 : decode cX2_begin 34 = .ok (.iconst 0, 1) := by decide +kernel
theorem dX2_begin_35 : decode cX2_begin 35 = .ok (.istore 4, 2) := by decide +kernel
theorem dX2_begin_37 : decode cX2_begin 37 = .ok (.iload 4, 2) := by decide +kernel
theorem dX2_begin_39 : decode cX2_begin 39 = .ok (.bipush 34, 2) := by decide +kernel
theorem dX2_begin_41 : decode cX2_begin 41 = .ok (.if_icmp .ge 20, 3) := by decide +kernel
theorem dX2_begin_44 : decode cX2_begin 44 = .ok (.aload_n 0, 1) := by decide +kernel
theorem dX2_begin_45 : decode cX2_begin 45 = .ok (.getfield 13, 3) := by decide +kernel
theorem dX2_begin_48 : decode cX2_begin 48 = .ok (.iload 4, 2) := by decide +kernel
theorem dX2_begin_50 : decode cX2_begin 50 = .ok (.aaload, 1) := by decide +kernel
theorem dX2_begin_51 : decode cX2_begin 51 = .ok (.lconst 0, 1) := by decide +kernel
theorem dX2_begin_52 : decode cX2_begin 52 = .ok (.invokestatic 207, 3) := by decide +kernel
theorem dX2_begin_55 : decode cX2_begin 55 = .ok (.iinc 4 1, 3) := by decide +kernel
theorem dX2_begin_58 : decode cX2_begin 58 = .ok (.goto (-21), 3) := by decide +kernel
theorem dX2_begin_61 : decode cX2_begin 61 = .ok (.iconst 0, 1) := by decide +kernel
theorem dX2_begin_62 : decode cX2_begin 62 = .ok (.istore 4, 2) := by decide +kernel
theorem dX2_begin_64 : decode cX2_begin 64 = .ok (.iload 4, 2) := by decide +kernel
theorem dX2_begin_66 : decode cX2_begin 66 = .ok (.bipush 12, 2) := by decide +kernel
theorem dX2_begin_68 : decode cX2_begin 68 = .ok (.if_icmp .ge 26, 3) := by decide +kernel
theorem dX2_begin_71 : decode cX2_begin 71 = .ok (.aload_n 0, 1) := by decide +kernel
theorem dX2_begin_72 : decode cX2_begin 72 = .ok (.getfield 16, 3) := by decide +kernel
theorem dX2_begin_75 : decode cX2_begin 75 = .ok (.iload 4, 2) := by decide +kernel
theorem dX2_begin_77 : decode cX2_begin 77 = .ok (.iload 4, 2) := by decide +kernel
theorem dX2_begin_79 : decode cX2_begin 79 = .ok (.iastore, 1) := by decide +kernel
theorem dX2_begin_80 : decode cX2_begin 80 = .ok (.aload_n 0, 1) := by decide +kernel
theorem dX2_begin_81 : decode cX2_begin 81 = .ok (.getfield 20, 3) := by decide +kernel
theorem dX2_begin_84 : decode cX2_begin 84 = .ok (.iload 4, 2) := by decide +kernel
theorem dX2_begin_86 : decode cX2_begin 86 = .ok (.iconst 0, 1) := by decide +kernel
theorem dX2_begin_87 : decode cX2_begin 87 = .ok (.iastore, 1) := by decide +kernel
theorem dX2_begin_88 : decode cX2_begin 88 = .ok (.iinc 4 1, 3) := by decide +kernel
theorem dX2_begin_91 : decode cX2_begin 91 = .ok (.goto (-27), 3) := by decide +kernel
theorem dX2_begin_94 : decode cX2_begin 94 = .ok (.aload_n 0, 1) := by decide +kernel
theorem dX2_begin_95 : decode cX2_begin 95 = .ok (.invokevirtual 58, 3) := by decide +kernel
theorem dX2_begin_98 : decode cX2_begin 98 = .ok (.return_, 1) := by decide +kernel
theorem dX2_isRegister_0 : decode cX2_isRegister 0 = .ok (.iload_n 0, 1) := by decide +kernel
theorem dX2_isRegister_1 : decode cX2_isRegister 1 = .ok (.ifCond .lt 13, 3) := by decide +kernel
theorem dX2_isRegister_4 : decode cX2_isRegister 4 = .ok (.iload_n 0, 1) := by decide +kernel
theorem dX2_isRegister_5 : decode cX2_isRegister 5 = .ok (.bipush 32, 2) := by decide +kernel
theorem dX2_isRegister_7 : decode cX2_isRegister 7 = .ok (.if_icmp .ge 7, 3) := by decide +kernel
theorem dX2_isRegister_10 : decode cX2_isRegister 10 = .ok (.iconst 1, 1) := by decide +kernel
theorem dX2_isRegister_11 : decode cX2_isRegister 11 = .ok (.goto 4, 3) := by decide +kernel
theorem dX2_isRegister_14 : decode cX2_isRegister 14 = .ok (.iconst 0, 1) := by decide +kernel
theorem dX2_isRegister_15 : decode cX2_isRegister 15 = .ok (.ireturn, 1) := by decide +kernel
theorem dX2_isLetter_0 : decode cX2_isLetter 0 = .ok (.iload_n 1, 1) := by decide +kernel
theorem dX2_isLetter_1 : decode cX2_isLetter 1 = .ok (.ifCond .lt 15, 3) := by decide +kernel
theorem dX2_isLetter_4 : decode cX2_isLetter 4 = .ok (.iload_n 1, 1) := by decide +kernel
theorem dX2_isLetter_5 : decode cX2_isLetter 5 = .ok (.aload_n 0, 1) := by decide +kernel
theorem dX2_isLetter_6 : decode cX2_isLetter 6 = .ok (.getfield 94, 3) := by decide +kernel
theorem dX2_isLetter_9 : decode cX2_isLetter 9 = .ok (.if_icmp .ge 7, 3) := by decide +kernel
theorem dX2_isLetter_12 : decode cX2_isLetter 12 = .ok (.iconst 1, 1) := by decide +kernel
theorem dX2_isLetter_13 : decode cX2_isLetter 13 = .ok (.goto 4, 3) := by decide +kernel
theorem dX2_isLetter_16 : decode cX2_isLetter 16 = .ok (.iconst 0, 1) := by decide +kernel
theorem dX2_isLetter_17 : decode cX2_isLetter 17 = .ok (.ireturn, 1) := by decide +kernel
theorem dX2_isLevel_0 : decode cX2_isLevel 0 = .ok (.iload_n 1, 1) := by decide +kernel
theorem dX2_isLevel_1 : decode cX2_isLevel 1 = .ok (.ifCond .lt 15, 3) := by decide +kernel
theorem dX2_isLevel_4 : decode cX2_isLevel 4 = .ok (.iload_n 1, 1) := by decide +kernel
theorem dX2_isLevel_5 : decode cX2_isLevel 5 = .ok (.aload_n 0, 1) := by decide +kernel
theorem dX2_isLevel_6 : decode cX2_isLevel 6 = .ok (.getfield 94, 3) := by decide +kernel
theorem dX2_isLevel_9 : decode cX2_isLevel 9 = .ok (.if_icmp .ge 7, 3) := by decide +kernel
theorem dX2_isLevel_12 : decode cX2_isLevel 12 = .ok (.iconst 1, 1) := by decide +kernel
theorem dX2_isLevel_13 : decode cX2_isLevel 13 = .ok (.goto 4, 3) := by decide +kernel
theorem dX2_isLevel_16 : decode cX2_isLevel 16 = .ok (.iconst 0, 1) := by decide +kernel
theorem dX2_isLevel_17 : decode cX2_isLevel 17 = .ok (.ireturn, 1) := by decide +kernel
theorem dX2_isAssignment_0 : decode cX2_isAssignment 0 = .ok (.iload_n 1, 1) := by decide +kernel
theorem dX2_isAssignment_1 : decode cX2_isAssignment 1 = .ok (.ifCond .lt 17, 3) := by decide +kernel
theorem dX2_isAssignment_4 : decode cX2_isAssignment 4 = .ok (.iload_n 1, 1) := by decide +kernel
theorem dX2_isAssignment_5 : decode cX2_isAssignment 5 = .ok (.iconst 1, 1) := by decide +kernel
theorem dX2_isAssignment_6 : decode cX2_isAssignment 6 = .ok (.aload_n 0, 1) := by decide +kernel
theorem dX2_isAssignment_7 : decode cX2_isAssignment 7 = .ok (.getfield 94, 3) := by decide +kernel
theorem dX2_isAssignment_10 : decode cX2_isAssignment 10 = .ok (.ishl, 1) := by decide +kernel
theorem dX2_isAssignment_11 : decode cX2_isAssignment 11 = .ok (.if_icmp .ge 7, 3) := by decide +kernel
theorem dX2_isAssignment_14 : decode cX2_isAssignment 14 = .ok (.iconst 1, 1) := by decide +kernel
theorem dX2_isAssignment_15 : decode cX2_isAssignment 15 = .ok (.goto 4, 3) := by decide +kernel
theorem dX2_isAssignment_18 : decode cX2_isAssignment 18 = .ok (.iconst 0, 1) := by decide +kernel
theorem dX2_isAssignment_19 : decode cX2_isAssignment 19 = .ok (.ireturn, 1) := by decide +kernel
theorem dX2_levelOf_0 : decode cX2_levelOf 0 = .ok (.iconst 0, 1) := by decide +kernel
theorem dX2_levelOf_1 : decode cX2_levelOf 1 = .ok (.istore_n 2, 1) := by decide +kernel
theorem dX2_levelOf_2 : decode cX2_levelOf 2 = .ok (.iconst 0, 1) := by decide +kernel
theorem dX2_levelOf_3 : decode cX2_levelOf 3 = .ok (.istore_n 3, 1) := by decide +kernel
theorem dX2_levelOf_4 : decode cX2_levelOf 4 = .ok (.iload_n 3, 1) := by decide +kernel
theorem dX2_levelOf_5 : decode cX2_levelOf 5 = .ok (.aload_n 0, 1) := by decide +kernel
theorem dX2_levelOf_6 : decode cX2_levelOf 6 = .ok (.getfield 94, 3) := by decide +kernel
theorem dX2_levelOf_9 : decode cX2_levelOf 9 = .ok (.if_icmp .ge 21, 3) := by decide +kernel
theorem dX2_levelOf_12 : decode cX2_levelOf 12 = .ok (.aload_n 0, 1) := by decide +kernel
theorem dX2_levelOf_13 : decode cX2_levelOf 13 = .ok (.getfield 16, 3) := by decide +kernel
theorem dX2_levelOf_16 : decode cX2_levelOf 16 = .ok (.iload_n 3, 1) := by decide +kernel
theorem dX2_levelOf_17 : decode cX2_levelOf 17 = .ok (.iaload, 1) := by decide +kernel
theorem dX2_levelOf_18 : decode cX2_levelOf 18 = .ok (.iload_n 1, 1) := by decide +kernel
theorem dX2_levelOf_19 : decode cX2_levelOf 19 = .ok (.if_icmp .ne 5, 3) := by decide +kernel
theorem dX2_levelOf_22 : decode cX2_levelOf 22 = .ok (.iload_n 3, 1) := by decide +kernel
theorem dX2_levelOf_23 : decode cX2_levelOf 23 = .ok (.istore_n 2, 1) := by decide +kernel
theorem dX2_levelOf_24 : decode cX2_levelOf 24 = .ok (.iinc 3 1, 3) := by decide +kernel
theorem dX2_levelOf_27 : decode cX2_levelOf 27 = .ok (.goto (-23), 3) := by decide +kernel
theorem dX2_levelOf_30 : decode cX2_levelOf 30 = .ok (.iload_n 2, 1) := by decide +kernel
theorem dX2_levelOf_31 : decode cX2_levelOf 31 = .ok (.ireturn, 1) := by decide +kernel
theorem dX2_placeAt_0 : decode cX2_placeAt 0 = .ok (.aload_n 0, 1) := by decide +kernel
theorem dX2_placeAt_1 : decode cX2_placeAt 1 = .ok (.getfield 94, 3) := by decide +kernel
theorem dX2_placeAt_4 : decode cX2_placeAt 4 = .ok (.iconst 1, 1) := by decide +kernel
theorem dX2_placeAt_5 : decode cX2_placeAt 5 = .ok (.isub, 1) := by decide +kernel
theorem dX2_placeAt_6 : decode cX2_placeAt 6 = .ok (.iload_n 1, 1) := by decide +kernel
theorem dX2_placeAt_7 : decode cX2_placeAt 7 = .ok (.isub, 1) := by decide +kernel
theorem dX2_placeAt_8 : decode cX2_placeAt 8 = .ok (.ireturn, 1) := by decide +kernel
theorem dX2_placeOf_0 : decode cX2_placeOf 0 = .ok (.aload_n 0, 1) := by decide +kernel
theorem dX2_placeOf_1 : decode cX2_placeOf 1 = .ok (.aload_n 0, 1) := by decide +kernel
theorem dX2_placeOf_2 : decode cX2_placeOf 2 = .ok (.iload_n 1, 1) := by decide +kernel
theorem dX2_placeOf_3 : decode cX2_placeOf 3 = .ok (.invokevirtual 140, 3) := by decide +kernel
theorem dX2_placeOf_6 : decode cX2_placeOf 6 = .ok (.invokevirtual 191, 3) := by decide +kernel
theorem dX2_placeOf_9 : decode cX2_placeOf 9 = .ok (.ireturn, 1) := by decide +kernel
theorem dX2_bitOf_0 : decode cX2_bitOf 0 = .ok (.iconst 0, 1) := by decide +kernel
theorem dX2_bitOf_1 : decode cX2_bitOf 1 = .ok (.istore_n 2, 1) := by decide +kernel
theorem dX2_bitOf_2 : decode cX2_bitOf 2 = .ok (.iconst 0, 1) := by decide +kernel
theorem dX2_bitOf_3 : decode cX2_bitOf 3 = .ok (.istore_n 3, 1) := by decide +kernel
theorem dX2_bitOf_4 : decode cX2_bitOf 4 = .ok (.iload_n 3, 1) := by decide +kernel
theorem dX2_bitOf_5 : decode cX2_bitOf 5 = .ok (.aload_n 0, 1) := by decide +kernel
theorem dX2_bitOf_6 : decode cX2_bitOf 6 = .ok (.getfield 94, 3) := by decide +kernel
theorem dX2_bitOf_9 : decode cX2_bitOf 9 = .ok (.if_icmp .ge 24, 3) := by decide +kernel
theorem dX2_bitOf_12 : decode cX2_bitOf 12 = .ok (.iconst 2, 1) := by decide +kernel
theorem dX2_bitOf_13 : decode cX2_bitOf 13 = .ok (.iload_n 2, 1) := by decide +kernel
theorem dX2_bitOf_14 : decode cX2_bitOf 14 = .ok (.imul, 1) := by decide +kernel
theorem dX2_bitOf_15 : decode cX2_bitOf 15 = .ok (.iload_n 1, 1) := by decide +kernel
theorem dX2_bitOf_16 : decode cX2_bitOf 16 = .ok (.aload_n 0, 1) := by decide +kernel
theorem dX2_bitOf_17 : decode cX2_bitOf 17 = .ok (.getfield 16, 3) := by decide +kernel
theorem dX2_bitOf_20 : decode cX2_bitOf 20 = .ok (.iload_n 3, 1) := by decide +kernel
theorem dX2_bitOf_21 : decode cX2_bitOf 21 = .ok (.iaload, 1) := by decide +kernel
theorem dX2_bitOf_22 : decode cX2_bitOf 22 = .ok (.ishr, 1) := by decide +kernel
theorem dX2_bitOf_23 : decode cX2_bitOf 23 = .ok (.iconst 1, 1) := by decide +kernel
theorem dX2_bitOf_24 : decode cX2_bitOf 24 = .ok (.iand, 1) := by decide +kernel
theorem dX2_bitOf_25 : decode cX2_bitOf 25 = .ok (.iadd, 1) := by decide +kernel
theorem dX2_bitOf_26 : decode cX2_bitOf 26 = .ok (.istore_n 2, 1) := by decide +kernel
theorem dX2_bitOf_27 : decode cX2_bitOf 27 = .ok (.iinc 3 1, 3) := by decide +kernel
theorem dX2_bitOf_30 : decode cX2_bitOf 30 = .ok (.goto (-26), 3) := by decide +kernel
theorem dX2_bitOf_33 : decode cX2_bitOf 33 = .ok (.iload_n 2, 1) := by decide +kernel
theorem dX2_bitOf_34 : decode cX2_bitOf 34 = .ok (.ireturn, 1) := by decide +kernel
theorem dX2_listBits_0 : decode cX2_listBits 0 = .ok (.aload_n 1, 1) := by decide +kernel
theorem dX2_listBits_1 : decode cX2_listBits 1 = .ok (.iconst 0, 1) := by decide +kernel
theorem dX2_listBits_2 : decode cX2_listBits 2 = .ok (.iconst 0, 1) := by decide +kernel
theorem dX2_listBits_3 : decode cX2_listBits 3 = .ok (.iastore, 1) := by decide +kernel
theorem dX2_listBits_4 : decode cX2_listBits 4 = .ok (.iconst 0, 1) := by decide +kernel
theorem dX2_listBits_5 : decode cX2_listBits 5 = .ok (.istore_n 2, 1) := by decide +kernel
theorem dX2_listBits_6 : decode cX2_listBits 6 = .ok (.iload_n 2, 1) := by decide +kernel
theorem dX2_listBits_7 : decode cX2_listBits 7 = .ok (.aload_n 0, 1) := by decide +kernel
theorem dX2_listBits_8 : decode cX2_listBits 8 = .ok (.getfield 94, 3) := by decide +kernel
theorem dX2_listBits_11 : decode cX2_listBits 11 = .ok (.if_icmp .ge 21, 3) := by decide +kernel
theorem dX2_listBits_14 : decode cX2_listBits 14 = .ok (.aload_n 1, 1) := by decide +kernel
theorem dX2_listBits_15 : decode cX2_listBits 15 = .ok (.iload_n 2, 1) := by decide +kernel
theorem dX2_listBits_16 : decode cX2_listBits 16 = .ok (.iconst 1, 1) := by decide +kernel
theorem dX2_listBits_17 : decode cX2_listBits 17 = .ok (.aload_n 0, 1) := by decide +kernel
theorem dX2_listBits_18 : decode cX2_listBits 18 = .ok (.iload_n 2, 1) := by decide +kernel
theorem dX2_listBits_19 : decode cX2_listBits 19 = .ok (.invokevirtual 64, 3) := by decide +kernel
theorem dX2_listBits_22 : decode cX2_listBits 22 = .ok (.ishl, 1) := by decide +kernel
theorem dX2_listBits_23 : decode cX2_listBits 23 = .ok (.invokestatic 210, 3) := by decide +kernel
theorem dX2_listBits_26 : decode cX2_listBits 26 = .ok (.iinc 2 1, 3) := by decide +kernel
theorem dX2_listBits_29 : decode cX2_listBits 29 = .ok (.goto (-23), 3) := by decide +kernel
theorem dX2_listBits_32 : decode cX2_listBits 32 = .ok (.return_, 1) := by decide +kernel
theorem dX2_listCosts_0 : decode cX2_listCosts 0 = .ok (.aload_n 1, 1) := by decide +kernel
theorem dX2_listCosts_1 : decode cX2_listCosts 1 = .ok (.iconst 0, 1) := by decide +kernel
theorem dX2_listCosts_2 : decode cX2_listCosts 2 = .ok (.iconst 0, 1) := by decide +kernel
theorem dX2_listCosts_3 : decode cX2_listCosts 3 = .ok (.iastore, 1) := by decide +kernel
theorem dX2_listCosts_4 : decode cX2_listCosts 4 = .ok (.iconst 0, 1) := by decide +kernel
theorem dX2_listCosts_5 : decode cX2_listCosts 5 = .ok (.istore_n 2, 1) := by decide +kernel
theorem dX2_listCosts_6 : decode cX2_listCosts 6 = .ok (.iload_n 2, 1) := by decide +kernel
theorem dX2_listCosts_7 : decode cX2_listCosts 7 = .ok (.aload_n 0, 1) := by decide +kernel
theorem dX2_listCosts_8 : decode cX2_listCosts 8 = .ok (.getfield 94, 3) := by decide +kernel
theorem dX2_listCosts_11 : decode cX2_listCosts 11 = .ok (.if_icmp .ge 20, 3) := by decide +kernel
theorem dX2_listCosts_14 : decode cX2_listCosts 14 = .ok (.aload_n 1, 1) := by decide +kernel
theorem dX2_listCosts_15 : decode cX2_listCosts 15 = .ok (.iload_n 2, 1) := by decide +kernel
theorem dX2_listCosts_16 : decode cX2_listCosts 16 = .ok (.aload_n 0, 1) := by decide +kernel
theorem dX2_listCosts_17 : decode cX2_listCosts 17 = .ok (.getfield 20, 3) := by decide +kernel
theorem dX2_listCosts_20 : decode cX2_listCosts 20 = .ok (.iload_n 2, 1) := by decide +kernel
theorem dX2_listCosts_21 : decode cX2_listCosts 21 = .ok (.iaload, 1) := by decide +kernel
theorem dX2_listCosts_22 : decode cX2_listCosts 22 = .ok (.invokestatic 210, 3) := by decide +kernel
theorem dX2_listCosts_25 : decode cX2_listCosts 25 = .ok (.iinc 2 1, 3) := by decide +kernel
theorem dX2_listCosts_28 : decode cX2_listCosts 28 = .ok (.goto (-22), 3) := by decide +kernel
theorem dX2_listCosts_31 : decode cX2_listCosts 31 = .ok (.return_, 1) := by decide +kernel
theorem dX2_extend_0 : decode cX2_extend 0 = .ok (.iconst 1, 1) := by decide +kernel
theorem dX2_extend_1 : decode cX2_extend 1 = .ok (.iload_n 1, 1) := by decide +kernel
theorem dX2_extend_2 : decode cX2_extend 2 = .ok (.ishl, 1) := by decide +kernel
theorem dX2_extend_3 : decode cX2_extend 3 = .ok (.istore_n 3, 1) := by decide +kernel
theorem dX2_extend_4 : decode cX2_extend 4 = .ok (.iconst 0, 1) := by decide +kernel
theorem dX2_extend_5 : decode cX2_extend 5 = .ok (.istore 4, 2) := by decide +kernel
theorem dX2_extend_7 : decode cX2_extend 7 = .ok (.iload 4, 2) := by decide +kernel
theorem dX2_extend_9 : decode cX2_extend 9 = .ok (.iload_n 3, 1) := by decide +kernel
theorem dX2_extend_10 : decode cX2_extend 10 = .ok (.if_icmp .ge 21, 3) := by decide +kernel
theorem dX2_extend_13 : decode cX2_extend 13 = .ok (.aload_n 0, 1) := by decide +kernel
theorem dX2_extend_14 : decode cX2_extend 14 = .ok (.iload_n 3, 1) := by decide +kernel
theorem dX2_extend_15 : decode cX2_extend 15 = .ok (.iload 4, 2) := by decide +kernel
theorem dX2_extend_17 : decode cX2_extend 17 = .ok (.iadd, 1) := by decide +kernel
theorem dX2_extend_18 : decode cX2_extend 18 = .ok (.aload_n 0, 1) := by decide +kernel
theorem dX2_extend_19 : decode cX2_extend 19 = .ok (.iload 4, 2) := by decide +kernel
theorem dX2_extend_21 : decode cX2_extend 21 = .ok (.iaload, 1) := by decide +kernel
theorem dX2_extend_22 : decode cX2_extend 22 = .ok (.iload_n 2, 1) := by decide +kernel
theorem dX2_extend_23 : decode cX2_extend 23 = .ok (.iadd, 1) := by decide +kernel
theorem dX2_extend_24 : decode cX2_extend 24 = .ok (.iastore, 1) := by decide +kernel
theorem dX2_extend_25 : decode cX2_extend 25 = .ok (.iinc 4 1, 3) := by decide +kernel
theorem dX2_extend_28 : decode cX2_extend 28 = .ok (.goto (-21), 3) := by decide +kernel
theorem dX2_extend_31 : decode cX2_extend 31 = .ok (.return_, 1) := by decide +kernel
theorem dX2_copyToSpare_0 : decode cX2_copyToSpare 0 = .ok (.aload_n 0, 1) := by decide +kernel
theorem dX2_copyToSpare_1 : decode cX2_copyToSpare 1 = .ok (.getfield 13, 3) := by decide +kernel
theorem dX2_copyToSpare_4 : decode cX2_copyToSpare 4 = .ok (.iload_n 1, 1) := by decide +kernel
theorem dX2_copyToSpare_5 : decode cX2_copyToSpare 5 = .ok (.aaload, 1) := by decide +kernel
theorem dX2_copyToSpare_6 : decode cX2_copyToSpare 6 = .ok (.iconst 0, 1) := by decide +kernel
theorem dX2_copyToSpare_7 : decode cX2_copyToSpare 7 = .ok (.aload_n 0, 1) := by decide +kernel
theorem dX2_copyToSpare_8 : decode cX2_copyToSpare 8 = .ok (.getfield 13, 3) := by decide +kernel
theorem dX2_copyToSpare_11 : decode cX2_copyToSpare 11 = .ok (.bipush 32, 2) := by decide +kernel
theorem dX2_copyToSpare_13 : decode cX2_copyToSpare 13 = .ok (.aaload, 1) := by decide +kernel
theorem dX2_copyToSpare_14 : decode cX2_copyToSpare 14 = .ok (.iconst 0, 1) := by decide +kernel
theorem dX2_copyToSpare_15 : decode cX2_copyToSpare 15 = .ok (.aload_n 0, 1) := by decide +kernel
theorem dX2_copyToSpare_16 : decode cX2_copyToSpare 16 = .ok (.getfield 44, 3) := by decide +kernel
theorem dX2_copyToSpare_19 : decode cX2_copyToSpare 19 = .ok (.invokestatic 121, 3) := by decide +kernel
theorem dX2_copyToSpare_22 : decode cX2_copyToSpare 22 = .ok (.return_, 1) := by decide +kernel
theorem dX2_sumSpare_0 : decode cX2_sumSpare 0 = .ok (.aload_n 0, 1) := by decide +kernel
theorem dX2_sumSpare_1 : decode cX2_sumSpare 1 = .ok (.getfield 13, 3) := by decide +kernel
theorem dX2_sumSpare_4 : decode cX2_sumSpare 4 = .ok (.bipush 32, 2) := by decide +kernel
theorem dX2_sumSpare_6 : decode cX2_sumSpare 6 = .ok (.aaload, 1) := by decide +kernel
theorem dX2_sumSpare_7 : decode cX2_sumSpare 7 = .ok (.astore_n 3, 1) := by decide +kernel
theorem dX2_sumSpare_8 : decode cX2_sumSpare 8 = .ok (.iconst 0, 1) := by decide +kernel
theorem dX2_sumSpare_9 : decode cX2_sumSpare 9 = .ok (.istore 4, 2) := by decide +kernel
theorem dX2_sumSpare_11 : decode cX2_sumSpare 11 = .ok (.iload 4, 2) := by decide +kernel
theorem dX2_sumSpare_13 : decode cX2_sumSpare 13 = .ok (.aload_n 0, 1) := by decide +kernel
theorem dX2_sumSpare_14 : decode cX2_sumSpare 14 = .ok (.getfield 44, 3) := by decide +kernel
theorem dX2_sumSpare_17 : decode cX2_sumSpare 17 = .ok (.if_icmp .ge 50, 3) := by decide +kernel
theorem dX2_sumSpare_20 : decode cX2_sumSpare 20 = .ok (.aload_n 3, 1) := by decide +kernel
theorem dX2_sumSpare_21 : decode cX2_sumSpare 21 = .ok (.iload 4, 2) := by decide +kernel
theorem dX2_sumSpare_23 : decode cX2_sumSpare 23 = .ok (.iload_n 1, 1) := by decide +kernel
theorem dX2_sumSpare_24 : decode cX2_sumSpare 24 = .ok (.iconst 1, 1) := by decide +kernel
theorem dX2_sumSpare_25 : decode cX2_sumSpare 25 = .ok (.invokestatic 83, 3) := by decide +kernel
theorem dX2_sumSpare_28 : decode cX2_sumSpare 28 = .ok (.lstore 5, 2) := by decide +kernel
theorem dX2_sumSpare_30 : decode cX2_sumSpare 30 = .ok (.aload_n 3, 1) := by decide +kernel
theorem dX2_sumSpare_31 : decode cX2_sumSpare 31 = .ok (.iload 4, 2) := by decide +kernel
theorem dX2_sumSpare_33 : decode cX2_sumSpare 33 = .ok (.iload_n 1, 1) := by decide +kernel
theorem dX2_sumSpare_34 : decode cX2_sumSpare 34 = .ok (.iconst 0, 1) := by decide +kernel
theorem dX2_sumSpare_35 : decode cX2_sumSpare 35 = .ok (.invokestatic 83, 3) := by decide +kernel
theorem dX2_sumSpare_38 : decode cX2_sumSpare 38 = .ok (.lstore 7, 2) := by decide +kernel
theorem dX2_sumSpare_40 : decode cX2_sumSpare 40 = .ok (.aload_n 3, 1) := by decide +kernel
theorem dX2_sumSpare_41 : decode cX2_sumSpare 41 = .ok (.iload 4, 2) := by decide +kernel
theorem dX2_sumSpare_43 : decode cX2_sumSpare 43 = .ok (.iload_n 2, 1) := by decide +kernel
theorem dX2_sumSpare_44 : decode cX2_sumSpare 44 = .ok (.ifCond .eq 11, 3) := by decide +kernel
theorem dX2_sumSpare_47 : decode cX2_sumSpare 47 = .ok (.lload 5, 2) := by decide +kernel
theorem dX2_sumSpare_49 : decode cX2_sumSpare 49 = .ok (.lload 7, 2) := by decide +kernel
theorem dX2_sumSpare_51 : decode cX2_sumSpare 51 = .ok (.land, 1) := by decide +kernel
theorem dX2_sumSpare_52 : decode cX2_sumSpare 52 = .ok (.goto 8, 3) := by decide +kernel
theorem dX2_sumSpare_55 : decode cX2_sumSpare 55 = .ok (.lload 5, 2) := by decide +kernel
theorem dX2_sumSpare_57 : decode cX2_sumSpare 57 = .ok (.lload 7, 2) := by decide +kernel
theorem dX2_sumSpare_59 : decode cX2_sumSpare 59 = .ok (.lor, 1) := by decide +kernel
theorem dX2_sumSpare_60 : decode cX2_sumSpare 60 = .ok (.lastore, 1) := by decide +kernel
theorem dX2_sumSpare_61 : decode cX2_sumSpare 61 = .ok (.iinc 4 1, 3) := by decide +kernel
theorem dX2_sumSpare_64 : decode cX2_sumSpare 64 = .ok (.goto (-53), 3) := by decide +kernel
theorem dX2_sumSpare_67 : decode cX2_sumSpare 67 = .ok (.return_, 1) := by decide +kernel
theorem dX2_findNearest_0 : decode cX2_findNearest 0 = .ok (.iconst 1, 1) := by decide +kernel
theorem dX2_findNearest_1 : decode cX2_findNearest 1 = .ok (.aload_n 0, 1) := by decide +kernel
theorem dX2_findNearest_2 : decode cX2_findNearest 2 = .ok (.getfield 94, 3) := by decide +kernel
theorem dX2_findNearest_5 : decode cX2_findNearest 5 = .ok (.ishl, 1) := by decide +kernel
theorem dX2_findNearest_6 : decode cX2_findNearest 6 = .ok (.istore 4, 2) := by decide +kernel
theorem dX2_findNearest_8 : decode cX2_findNearest 8 = .ok (.iconst 0, 1) := by decide +kernel
theorem dX2_findNearest_9 : decode cX2_findNearest 9 = .ok (.istore 5, 2) := by decide +kernel
theorem dX2_findNearest_11 : decode cX2_findNearest 11 = .ok (.iload 5, 2) := by decide +kernel
theorem dX2_findNearest_13 : decode cX2_findNearest 13 = .ok (.iload 4, 2) := by decide +kernel
theorem dX2_findNearest_15 : decode cX2_findNearest 15 = .ok (.if_icmp .ge 30, 3) := by decide +kernel
theorem dX2_findNearest_18 : decode cX2_findNearest 18 = .ok (.aload_n 2, 1) := by decide +kernel
theorem dX2_findNearest_19 : decode cX2_findNearest 19 = .ok (.iload 4, 2) := by decide +kernel
theorem dX2_findNearest_21 : decode cX2_findNearest 21 = .ok (.iload 5, 2) := by decide +kernel
theorem dX2_findNearest_23 : decode cX2_findNearest 23 = .ok (.iadd, 1) := by decide +kernel
theorem dX2_findNearest_24 : decode cX2_findNearest 24 = .ok (.aload_n 1, 1) := by decide +kernel
theorem dX2_findNearest_25 : decode cX2_findNearest 25 = .ok (.iload 5, 2) := by decide +kernel
theorem dX2_findNearest_27 : decode cX2_findNearest 27 = .ok (.invokestatic 113, 3) := by decide +kernel
theorem dX2_findNearest_30 : decode cX2_findNearest 30 = .ok (.ifCond .eq 7, 3) := by decide +kernel
theorem dX2_findNearest_33 : decode cX2_findNearest 33 = .ok (.iconst 1, 1) := by decide +kernel
theorem dX2_findNearest_34 : decode cX2_findNearest 34 = .ok (.goto 4, 3) := by decide +kernel
theorem dX2_findNearest_37 : decode cX2_findNearest 37 = .ok (.iconst 0, 1) := by decide +kernel
theorem dX2_findNearest_38 : decode cX2_findNearest 38 = .ok (.iastore, 1) := by decide +kernel
theorem dX2_findNearest_39 : decode cX2_findNearest 39 = .ok (.iinc 5 1, 3) := by decide +kernel
theorem dX2_findNearest_42 : decode cX2_findNearest 42 = .ok (.goto (-31), 3) := by decide +kernel
theorem dX2_findNearest_45 : decode cX2_findNearest 45 = .ok (.iload 4, 2) := by decide +kernel
theorem dX2_findNearest_47 : decode cX2_findNearest 47 = .ok (.iconst 1, 1) := by decide +kernel
theorem dX2_findNearest_48 : decode cX2_findNearest 48 = .ok (.isub, 1) := by decide +kernel
theorem dX2_findNearest_49 : decode cX2_findNearest 49 = .ok (.istore 5, 2) := by decide +kernel
theorem dX2_findNearest_51 : decode cX2_findNearest 51 = .ok (.iload 5, 2) := by decide +kernel
theorem dX2_findNearest_53 : decode cX2_findNearest 53 = .ok (.iconst 1, 1) := by decide +kernel
theorem dX2_findNearest_54 : decode cX2_findNearest 54 = .ok (.if_icmp .lt 28, 3) := by decide +kernel
theorem dX2_findNearest_57 : decode cX2_findNearest 57 = .ok (.aload_n 2, 1) := by decide +kernel
theorem dX2_findNearest_58 : decode cX2_findNearest 58 = .ok (.iload 5, 2) := by decide +kernel
theorem dX2_findNearest_60 : decode cX2_findNearest 60 = .ok (.aload_n 2, 1) := by decide +kernel
theorem dX2_findNearest_61 : decode cX2_findNearest 61 = .ok (.iconst 2, 1) := by decide +kernel
theorem dX2_findNearest_62 : decode cX2_findNearest 62 = .ok (.iload 5, 2) := by decide +kernel
theorem dX2_findNearest_64 : decode cX2_findNearest 64 = .ok (.imul, 1) := by decide +kernel
theorem dX2_findNearest_65 : decode cX2_findNearest 65 = .ok (.iaload, 1) := by decide +kernel
theorem dX2_findNearest_66 : decode cX2_findNearest 66 = .ok (.aload_n 2, 1) := by decide +kernel
theorem dX2_findNearest_67 : decode cX2_findNearest 67 = .ok (.iconst 2, 1) := by decide +kernel
theorem dX2_findNearest_68 : decode cX2_findNearest 68 = .ok (.iload 5, 2) := by decide +kernel
theorem dX2_findNearest_70 : decode cX2_findNearest 70 = .ok (.imul, 1) := by decide +kernel
theorem dX2_findNearest_71 : decode cX2_findNearest 71 = .ok (.iconst 1, 1) := by decide +kernel
theorem dX2_findNearest_72 : decode cX2_findNearest 72 = .ok (.iadd, 1) := by decide +kernel
theorem dX2_findNearest_73 : decode cX2_findNearest 73 = .ok (.iaload, 1) := by decide +kernel
theorem dX2_findNearest_74 : decode cX2_findNearest 74 = .ok (.ior, 1) := by decide +kernel
theorem dX2_findNearest_75 : decode cX2_findNearest 75 = .ok (.iastore, 1) := by decide +kernel
theorem dX2_findNearest_76 : decode cX2_findNearest 76 = .ok (.iinc 5 (-1), 3) := by decide +kernel
theorem dX2_findNearest_79 : decode cX2_findNearest 79 = .ok (.goto (-28), 3) := by decide +kernel
theorem dX2_findNearest_82 : decode cX2_findNearest 82 = .ok (.aload_n 3, 1) := by decide +kernel
theorem dX2_findNearest_83 : decode cX2_findNearest 83 = .ok (.iconst 1, 1) := by decide +kernel
theorem dX2_findNearest_84 : decode cX2_findNearest 84 = .ok (.iconst 1, 1) := by decide +kernel
theorem dX2_findNearest_85 : decode cX2_findNearest 85 = .ok (.iastore, 1) := by decide +kernel
theorem dX2_findNearest_86 : decode cX2_findNearest 86 = .ok (.iconst 2, 1) := by decide +kernel
theorem dX2_findNearest_87 : decode cX2_findNearest 87 = .ok (.istore 5, 2) := by decide +kernel
theorem dX2_findNearest_89 : decode cX2_findNearest 89 = .ok (.iload 5, 2) := by decide +kernel
theorem dX2_findNearest_91 : decode cX2_findNearest 91 = .ok (.iconst 2, 1) := by decide +kernel
theorem dX2_findNearest_92 : decode cX2_findNearest 92 = .ok (.iload 4, 2) := by decide +kernel
theorem dX2_findNearest_94 : decode cX2_findNearest 94 = .ok (.imul, 1) := by decide +kernel
theorem dX2_findNearest_95 : decode cX2_findNearest 95 = .ok (.if_icmp .ge 44, 3) := by decide +kernel
theorem dX2_findNearest_98 : decode cX2_findNearest 98 = .ok (.iconst 2, 1) := by decide +kernel
theorem dX2_findNearest_99 : decode cX2_findNearest 99 = .ok (.aload_n 3, 1) := by decide +kernel
theorem dX2_findNearest_100 : decode cX2_findNearest 100 = .ok (.iload 5, 2) := by decide +kernel
theorem dX2_findNearest_102 : decode cX2_findNearest 102 = .ok (.iconst 1, 1) := by decide +kernel
theorem dX2_findNearest_103 : decode cX2_findNearest 103 = .ok (.ishr, 1) := by decide +kernel
theorem dX2_findNearest_104 : decode cX2_findNearest 104 = .ok (.iaload, 1) := by decide +kernel
theorem dX2_findNearest_105 : decode cX2_findNearest 105 = .ok (.imul, 1) := by decide +kernel
theorem dX2_findNearest_106 : decode cX2_findNearest 106 = .ok (.iload 5, 2) := by decide +kernel
theorem dX2_findNearest_108 : decode cX2_findNearest 108 = .ok (.iconst 1, 1) := by decide +kernel
theorem dX2_findNearest_109 : decode cX2_findNearest 109 = .ok (.iand, 1) := by decide +kernel
theorem dX2_findNearest_110 : decode cX2_findNearest 110 = .ok (.iadd, 1) := by decide +kernel
theorem dX2_findNearest_111 : decode cX2_findNearest 111 = .ok (.istore 6, 2) := by decide +kernel
theorem dX2_findNearest_113 : decode cX2_findNearest 113 = .ok (.aload_n 3, 1) := by decide +kernel
theorem dX2_findNearest_114 : decode cX2_findNearest 114 = .ok (.iload 5, 2) := by decide +kernel
theorem dX2_findNearest_116 : decode cX2_findNearest 116 = .ok (.aload_n 2, 1) := by decide +kernel
theorem dX2_findNearest_117 : decode cX2_findNearest 117 = .ok (.iload 6, 2) := by decide +kernel
theorem dX2_findNearest_119 : decode cX2_findNearest 119 = .ok (.iaload, 1) := by decide +kernel
theorem dX2_findNearest_120 : decode cX2_findNearest 120 = .ok (.ifCond .eq 8, 3) := by decide +kernel
theorem dX2_findNearest_123 : decode cX2_findNearest 123 = .ok (.iload 6, 2) := by decide +kernel
theorem dX2_findNearest_125 : decode cX2_findNearest 125 = .ok (.goto 7, 3) := by decide +kernel
theorem dX2_findNearest_128 : decode cX2_findNearest 128 = .ok (.iload 6, 2) := by decide +kernel
theorem dX2_findNearest_130 : decode cX2_findNearest 130 = .ok (.iconst 1, 1) := by decide +kernel
theorem dX2_findNearest_131 : decode cX2_findNearest 131 = .ok (.ixor, 1) := by decide +kernel
theorem dX2_findNearest_132 : decode cX2_findNearest 132 = .ok (.iastore, 1) := by decide +kernel
theorem dX2_findNearest_133 : decode cX2_findNearest 133 = .ok (.iinc 5 1, 3) := by decide +kernel
theorem dX2_findNearest_136 : decode cX2_findNearest 136 = .ok (.goto (-47), 3) := by decide +kernel
theorem dX2_findNearest_139 : decode cX2_findNearest 139 = .ok (.return_, 1) := by decide +kernel
theorem dX2_keep_0 : decode cX2_keep 0 = .ok (.aload_n 0, 1) := by decide +kernel
theorem dX2_keep_1 : decode cX2_keep 1 = .ok (.getfield 137, 3) := by decide +kernel
theorem dX2_keep_4 : decode cX2_keep 4 = .ok (.getstatic 214, 3) := by decide +kernel
theorem dX2_keep_7 : decode cX2_keep 7 = .ok (.aload_n 0, 1) := by decide +kernel
theorem dX2_keep_8 : decode cX2_keep 8 = .ok (.getfield 94, 3) := by decide +kernel
theorem dX2_keep_11 : decode cX2_keep 11 = .ok (.iaload, 1) := by decide +kernel
theorem dX2_keep_12 : decode cX2_keep 12 = .ok (.if_icmp .ge 32, 3) := by decide +kernel
theorem dX2_keep_15 : decode cX2_keep 15 = .ok (.aload_n 0, 1) := by decide +kernel
theorem dX2_keep_16 : decode cX2_keep 16 = .ok (.getfield 32, 3) := by decide +kernel
theorem dX2_keep_19 : decode cX2_keep 19 = .ok (.aload_n 0, 1) := by decide +kernel
theorem dX2_keep_20 : decode cX2_keep 20 = .ok (.getfield 13, 3) := by decide +kernel
theorem dX2_keep_23 : decode cX2_keep 23 = .ok (.iconst 0, 1) := by decide +kernel
theorem dX2_keep_24 : decode cX2_keep 24 = .ok (.bipush 31, 2) := by decide +kernel
theorem dX2_keep_26 : decode cX2_keep 26 = .ok (.iload_n 1, 1) := by decide +kernel
theorem dX2_keep_27 : decode cX2_keep 27 = .ok (.aload_n 0, 1) := by decide +kernel
theorem dX2_keep_28 : decode cX2_keep 28 = .ok (.getfield 94, 3) := by decide +kernel
theorem dX2_keep_31 : decode cX2_keep 31 = .ok (.invokevirtual 217, 3) := by decide +kernel
theorem dX2_keep_34 : decode cX2_keep 34 = .ok (.aload_n 0, 1) := by decide +kernel
theorem dX2_keep_35 : decode cX2_keep 35 = .ok (.getfield 137, 3) := by decide +kernel
theorem dX2_keep_38 : decode cX2_keep 38 = .ok (.if_icmp .le 6, 3) := by decide +kernel
theorem dX2_keep_41 : decode cX2_keep 41 = .ok (.bipush (-8), 2) := by decide +kernel
theorem dX2_keep_43 : decode cX2_keep 43 = .ok (.ireturn, 1) := by decide +kernel
theorem dX2_keep_44 : decode cX2_keep 44 = .ok (.aload_n 0, 1) := by decide +kernel
theorem dX2_keep_45 : decode cX2_keep 45 = .ok (.getfield 13, 3) := by decide +kernel
theorem dX2_keep_48 : decode cX2_keep 48 = .ok (.bipush 32, 2) := by decide +kernel
theorem dX2_keep_50 : decode cX2_keep 50 = .ok (.aaload, 1) := by decide +kernel
theorem dX2_keep_51 : decode cX2_keep 51 = .ok (.iconst 0, 1) := by decide +kernel
theorem dX2_keep_52 : decode cX2_keep 52 = .ok (.aload_n 0, 1) := by decide +kernel
theorem dX2_keep_53 : decode cX2_keep 53 = .ok (.getfield 13, 3) := by decide +kernel
theorem dX2_keep_56 : decode cX2_keep 56 = .ok (.iload_n 1, 1) := by decide +kernel
theorem dX2_keep_57 : decode cX2_keep 57 = .ok (.aaload, 1) := by decide +kernel
theorem dX2_keep_58 : decode cX2_keep 58 = .ok (.iconst 0, 1) := by decide +kernel
theorem dX2_keep_59 : decode cX2_keep 59 = .ok (.aload_n 0, 1) := by decide +kernel
theorem dX2_keep_60 : decode cX2_keep 60 = .ok (.getfield 44, 3) := by decide +kernel
theorem dX2_keep_63 : decode cX2_keep 63 = .ok (.invokestatic 121, 3) := by decide +kernel
theorem dX2_keep_66 : decode cX2_keep 66 = .ok (.aload_n 0, 1) := by decide +kernel
theorem dX2_keep_67 : decode cX2_keep 67 = .ok (.invokevirtual 58, 3) := by decide +kernel
theorem dX2_keep_70 : decode cX2_keep 70 = .ok (.iconst 0, 1) := by decide +kernel
theorem dX2_keep_71 : decode cX2_keep 71 = .ok (.ireturn, 1) := by decide +kernel
theorem dX2_forksOfAll_0 : decode cX2_forksOfAll 0 = .ok (.aload_n 0, 1) := by decide +kernel
theorem dX2_forksOfAll_1 : decode cX2_forksOfAll 1 = .ok (.getfield 32, 3) := by decide +kernel
theorem dX2_forksOfAll_4 : decode cX2_forksOfAll 4 = .ok (.aload_n 0, 1) := by decide +kernel
theorem dX2_forksOfAll_5 : decode cX2_forksOfAll 5 = .ok (.getfield 13, 3) := by decide +kernel
theorem dX2_forksOfAll_8 : decode cX2_forksOfAll 8 = .ok (.iconst 0, 1) := by decide +kernel
theorem dX2_forksOfAll_9 : decode cX2_forksOfAll 9 = .ok (.bipush 31, 2) := by decide +kernel
theorem dX2_forksOfAll_11 : decode cX2_forksOfAll 11 = .ok (.iconst (-1), 1) := by decide +kernel
theorem dX2_forksOfAll_12 : decode cX2_forksOfAll 12 = .ok (.aload_n 0, 1) := by decide +kernel
theorem dX2_forksOfAll_13 : decode cX2_forksOfAll 13 = .ok (.getfield 94, 3) := by decide +kernel
theorem dX2_forksOfAll_16 : decode cX2_forksOfAll 16 = .ok (.invokevirtual 217, 3) := by decide +kernel
theorem dX2_forksOfAll_19 : decode cX2_forksOfAll 19 = .ok (.ireturn, 1) := by decide +kernel
theorem dX2_forksOfOne_0 : decode cX2_forksOfOne 0 = .ok (.aload_n 0, 1) := by decide +kernel
theorem dX2_forksOfOne_1 : decode cX2_forksOfOne 1 = .ok (.getfield 32, 3) := by decide +kernel
theorem dX2_forksOfOne_4 : decode cX2_forksOfOne 4 = .ok (.aload_n 0, 1) := by decide +kernel
theorem dX2_forksOfOne_5 : decode cX2_forksOfOne 5 = .ok (.getfield 13, 3) := by decide +kernel
theorem dX2_forksOfOne_8 : decode cX2_forksOfOne 8 = .ok (.iload_n 1, 1) := by decide +kernel
theorem dX2_forksOfOne_9 : decode cX2_forksOfOne 9 = .ok (.iload_n 1, 1) := by decide +kernel
theorem dX2_forksOfOne_10 : decode cX2_forksOfOne 10 = .ok (.iconst (-1), 1) := by decide +kernel
theorem dX2_forksOfOne_11 : decode cX2_forksOfOne 11 = .ok (.aload_n 0, 1) := by decide +kernel
theorem dX2_forksOfOne_12 : decode cX2_forksOfOne 12 = .ok (.getfield 94, 3) := by decide +kernel
theorem dX2_forksOfOne_15 : decode cX2_forksOfOne 15 = .ok (.invokevirtual 217, 3) := by decide +kernel
theorem dX2_forksOfOne_18 : decode cX2_forksOfOne 18 = .ok (.ireturn, 1) := by decide +kernel
theorem dX2_bestLevelGoingDown_0 : decode cX2_bestLevelGoingDown 0 = .ok (.iload_n 1, 1) := by decide +kernel
theorem dX2_bestLevelGoingDown_1 : decode cX2_bestLevelGoingDown 1 = .ok (.istore_n 2, 1) := by decide +kernel
theorem dX2_bestLevelGoingDown_2 : decode cX2_bestLevelGoingDown 2 = .ok (.iload_n 2, 1) := by decide +kernel
theorem dX2_bestLevelGoingDown_3 : decode cX2_bestLevelGoingDown 3 = .ok (.istore_n 3, 1) := by decide +kernel
theorem dX2_bestLevelGoingDown_4 : decode cX2_bestLevelGoingDown 4 = .ok (.iconst 0, 1) := by decide +kernel
theorem dX2_bestLevelGoingDown_5 : decode cX2_bestLevelGoingDown 5 = .ok (.istore 4, 2) := by decide +kernel
theorem dX2_bestLevelGoingDown_7 : decode cX2_bestLevelGoingDown 7 = .ok (.aload_n 0, 1) := by decide +kernel
theorem dX2_bestLevelGoingDown_8 : decode cX2_bestLevelGoingDown 8 = .ok (.getfield 32, 3) := by decide +kernel
theorem dX2_bestLevelGoingDown_11 : decode cX2_bestLevelGoingDown 11 = .ok (.getfield 179, 3) := by decide +kernel
theorem dX2_bestLevelGoingDown_14 : decode cX2_bestLevelGoingDown 14 = .ok (.iconst 0, 1) := by decide +kernel
theorem dX2_bestLevelGoingDown_15 : decode cX2_bestLevelGoingDown 15 = .ok (.iaload, 1) := by decide +kernel
theorem dX2_bestLevelGoingDown_16 : decode cX2_bestLevelGoingDown 16 = .ok (.istore 5, 2) := by decide +kernel
theorem dX2_bestLevelGoingDown_18 : decode cX2_bestLevelGoingDown 18 = .ok (.aload_n 0, 1) := by decide +kernel
theorem dX2_bestLevelGoingDown_19 : decode cX2_bestLevelGoingDown 19 = .ok (.getfield 32, 3) := by decide +kernel
theorem dX2_bestLevelGoingDown_22 : decode cX2_bestLevelGoingDown 22 = .ok (.aload_n 0, 1) := by decide +kernel
theorem dX2_bestLevelGoingDown_23 : decode cX2_bestLevelGoingDown 23 = .ok (.getfield 13, 3) := by decide +kernel
theorem dX2_bestLevelGoingDown_26 : decode cX2_bestLevelGoingDown 26 = .ok (.iconst 0, 1) := by decide +kernel
theorem dX2_bestLevelGoingDown_27 : decode cX2_bestLevelGoingDown 27 = .ok (.bipush 31, 2) := by decide +kernel
theorem dX2_bestLevelGoingDown_29 : decode cX2_bestLevelGoingDown 29 = .ok (.iconst (-1), 1) := by decide +kernel
theorem dX2_bestLevelGoingDown_30 : decode cX2_bestLevelGoingDown 30 = .ok (.aload_n 0, 1) := by decide +kernel
theorem dX2_bestLevelGoingDown_31 : decode cX2_bestLevelGoingDown 31 = .ok (.getfield 94, 3) := by decide +kernel
theorem dX2_bestLevelGoingDown_34 : decode cX2_bestLevelGoingDown 34 = .ok (.invokevirtual 221, 3) := by decide +kernel
theorem dX2_bestLevelGoingDown_37 : decode cX2_bestLevelGoingDown 37 = .ok (.iconst 1, 1) := by decide +kernel
theorem dX2_bestLevelGoingDown_38 : decode cX2_bestLevelGoingDown 38 = .ok (.istore 6, 2) := by decide +kernel
theorem dX2_bestLevelGoingDown_40 : decode cX2_bestLevelGoingDown 40 = .ok (.iload 6, 2) := by decide +kernel
theorem dX2_bestLevelGoingDown_42 : decode cX2_bestLevelGoingDown 42 = .ok (.aload_n 0, 1) := by decide +kernel
theorem dX2_bestLevelGoingDown_43 : decode cX2_bestLevelGoingDown 43 = .ok (.getfield 94, 3) := by decide +kernel
theorem dX2_bestLevelGoingDown_46 : decode cX2_bestLevelGoingDown 46 = .ok (.if_icmp .ge 98, 3) := by decide +kernel
theorem dX2_bestLevelGoingDown_49 : decode cX2_bestLevelGoingDown 49 = .ok (.iload 5, 2) := by decide +kernel
theorem dX2_bestLevelGoingDown_51 : decode cX2_bestLevelGoingDown 51 = .ok (.aload_n 0, 1) := by decide +kernel
theorem dX2_bestLevelGoingDown_52 : decode cX2_bestLevelGoingDown 52 = .ok (.getfield 32, 3) := by decide +kernel
theorem dX2_bestLevelGoingDown_55 : decode cX2_bestLevelGoingDown 55 = .ok (.getfield 179, 3) := by decide +kernel
theorem dX2_bestLevelGoingDown_58 : decode cX2_bestLevelGoingDown 58 = .ok (.iload 6, 2) := by decide +kernel
theorem dX2_bestLevelGoingDown_60 : decode cX2_bestLevelGoingDown 60 = .ok (.iaload, 1) := by decide +kernel
theorem dX2_bestLevelGoingDown_61 : decode cX2_bestLevelGoingDown 61 = .ok (.iadd, 1) := by decide +kernel
theorem dX2_bestLevelGoingDown_62 : decode cX2_bestLevelGoingDown 62 = .ok (.istore 7, 2) := by decide +kernel
theorem dX2_bestLevelGoingDown_64 : decode cX2_bestLevelGoingDown 64 = .ok (.aload_n 0, 1) := by decide +kernel
theorem dX2_bestLevelGoingDown_65 : decode cX2_bestLevelGoingDown 65 = .ok (.iload 6, 2) := by decide +kernel
theorem dX2_bestLevelGoingDown_67 : decode cX2_bestLevelGoingDown 67 = .ok (.iconst 1, 1) := by decide +kernel
theorem dX2_bestLevelGoingDown_68 : decode cX2_bestLevelGoingDown 68 = .ok (.isub, 1) := by decide +kernel
theorem dX2_bestLevelGoingDown_69 : decode cX2_bestLevelGoingDown 69 = .ok (.invokevirtual 130, 3) := by decide +kernel
theorem dX2_bestLevelGoingDown_72 : decode cX2_bestLevelGoingDown 72 = .ok (.aload_n 0, 1) := by decide +kernel
theorem dX2_bestLevelGoingDown_73 : decode cX2_bestLevelGoingDown 73 = .ok (.getfield 32, 3) := by decide +kernel
theorem dX2_bestLevelGoingDown_76 : decode cX2_bestLevelGoingDown 76 = .ok (.aload_n 0, 1) := by decide +kernel
theorem dX2_bestLevelGoingDown_77 : decode cX2_bestLevelGoingDown 77 = .ok (.getfield 13, 3) := by decide +kernel
theorem dX2_bestLevelGoingDown_80 : decode cX2_bestLevelGoingDown 80 = .ok (.iconst 1, 1) := by decide +kernel
theorem dX2_bestLevelGoingDown_81 : decode cX2_bestLevelGoingDown 81 = .ok (.aload_n 0, 1) := by decide +kernel
theorem dX2_bestLevelGoingDown_82 : decode cX2_bestLevelGoingDown 82 = .ok (.iload 6, 2) := by decide +kernel
theorem dX2_bestLevelGoingDown_84 : decode cX2_bestLevelGoingDown 84 = .ok (.iconst 1, 1) := by decide +kernel
theorem dX2_bestLevelGoingDown_85 : decode cX2_bestLevelGoingDown 85 = .ok (.isub, 1) := by decide +kernel
theorem dX2_bestLevelGoingDown_86 : decode cX2_bestLevelGoingDown 86 = .ok (.invokevirtual 191, 3) := by decide +kernel
theorem dX2_bestLevelGoingDown_89 : decode cX2_bestLevelGoingDown 89 = .ok (.ishl, 1) := by decide +kernel
theorem dX2_bestLevelGoingDown_90 : decode cX2_bestLevelGoingDown 90 = .ok (.invokevirtual 225, 3) := by decide +kernel
theorem dX2_bestLevelGoingDown_93 : decode cX2_bestLevelGoingDown 93 = .ok (.istore 8, 2) := by decide +kernel
theorem dX2_bestLevelGoingDown_95 : decode cX2_bestLevelGoingDown 95 = .ok (.aload_n 0, 1) := by decide +kernel
theorem dX2_bestLevelGoingDown_96 : decode cX2_bestLevelGoingDown 96 = .ok (.getfield 32, 3) := by decide +kernel
theorem dX2_bestLevelGoingDown_99 : decode cX2_bestLevelGoingDown 99 = .ok (.aload_n 0, 1) := by decide +kernel
theorem dX2_bestLevelGoingDown_100 : decode cX2_bestLevelGoingDown 100 = .ok (.getfield 13, 3) := by decide +kernel
theorem dX2_bestLevelGoingDown_103 : decode cX2_bestLevelGoingDown 103 = .ok (.iconst 1, 1) := by decide +kernel
theorem dX2_bestLevelGoingDown_104 : decode cX2_bestLevelGoingDown 104 = .ok (.aload_n 0, 1) := by decide +kernel
theorem dX2_bestLevelGoingDown_105 : decode cX2_bestLevelGoingDown 105 = .ok (.iload 6, 2) := by decide +kernel
theorem dX2_bestLevelGoingDown_107 : decode cX2_bestLevelGoingDown 107 = .ok (.invokevirtual 191, 3) := by decide +kernel
theorem dX2_bestLevelGoingDown_110 : decode cX2_bestLevelGoingDown 110 = .ok (.ishl, 1) := by decide +kernel
theorem dX2_bestLevelGoingDown_111 : decode cX2_bestLevelGoingDown 111 = .ok (.invokevirtual 229, 3) := by decide +kernel
theorem dX2_bestLevelGoingDown_114 : decode cX2_bestLevelGoingDown 114 = .ok (.istore 5, 2) := by decide +kernel
theorem dX2_bestLevelGoingDown_116 : decode cX2_bestLevelGoingDown 116 = .ok (.iload_n 2, 1) := by decide +kernel
theorem dX2_bestLevelGoingDown_117 : decode cX2_bestLevelGoingDown 117 = .ok (.iload 8, 2) := by decide +kernel
theorem dX2_bestLevelGoingDown_119 : decode cX2_bestLevelGoingDown 119 = .ok (.iload 5, 2) := by decide +kernel
theorem dX2_bestLevelGoingDown_121 : decode cX2_bestLevelGoingDown 121 = .ok (.iadd, 1) := by decide +kernel
theorem dX2_bestLevelGoingDown_122 : decode cX2_bestLevelGoingDown 122 = .ok (.iload 7, 2) := by decide +kernel
theorem dX2_bestLevelGoingDown_124 : decode cX2_bestLevelGoingDown 124 = .ok (.isub, 1) := by decide +kernel
theorem dX2_bestLevelGoingDown_125 : decode cX2_bestLevelGoingDown 125 = .ok (.iadd, 1) := by decide +kernel
theorem dX2_bestLevelGoingDown_126 : decode cX2_bestLevelGoingDown 126 = .ok (.istore_n 2, 1) := by decide +kernel
theorem dX2_bestLevelGoingDown_127 : decode cX2_bestLevelGoingDown 127 = .ok (.iload_n 2, 1) := by decide +kernel
theorem dX2_bestLevelGoingDown_128 : decode cX2_bestLevelGoingDown 128 = .ok (.iload_n 3, 1) := by decide +kernel
theorem dX2_bestLevelGoingDown_129 : decode cX2_bestLevelGoingDown 129 = .ok (.if_icmp .ge 9, 3) := by decide +kernel
theorem dX2_bestLevelGoingDown_132 : decode cX2_bestLevelGoingDown 132 = .ok (.iload_n 2, 1) := by decide +kernel
theorem dX2_bestLevelGoingDown_133 : decode cX2_bestLevelGoingDown 133 = .ok (.istore_n 3, 1) := by decide +kernel
theorem dX2_bestLevelGoingDown_134 : decode cX2_bestLevelGoingDown 134 = .ok (.iload 6, 2) := by decide +kernel
theorem dX2_bestLevelGoingDown_136 : decode cX2_bestLevelGoingDown 136 = .ok (.istore 4, 2) := by decide +kernel
theorem dX2_bestLevelGoingDown_138 : decode cX2_bestLevelGoingDown 138 = .ok (.iinc 6 1, 3) := by decide +kernel
theorem dX2_bestLevelGoingDown_141 : decode cX2_bestLevelGoingDown 141 = .ok (.goto (-101), 3) := by decide +kernel
theorem dX2_bestLevelGoingDown_144 : decode cX2_bestLevelGoingDown 144 = .ok (.iload 4, 2) := by decide +kernel
theorem dX2_bestLevelGoingDown_146 : decode cX2_bestLevelGoingDown 146 = .ok (.ireturn, 1) := by decide +kernel
theorem dX2_turn_0 : decode cX2_turn 0 = .ok (.aload_n 0, 1) := by decide +kernel
theorem dX2_turn_1 : decode cX2_turn 1 = .ok (.getfield 16, 3) := by decide +kernel
theorem dX2_turn_4 : decode cX2_turn 4 = .ok (.iload_n 1, 1) := by decide +kernel
theorem dX2_turn_5 : decode cX2_turn 5 = .ok (.iaload, 1) := by decide +kernel
theorem dX2_turn_6 : decode cX2_turn 6 = .ok (.istore_n 2, 1) := by decide +kernel
theorem dX2_turn_7 : decode cX2_turn 7 = .ok (.aload_n 0, 1) := by decide +kernel
theorem dX2_turn_8 : decode cX2_turn 8 = .ok (.getfield 16, 3) := by decide +kernel
theorem dX2_turn_11 : decode cX2_turn 11 = .ok (.iload_n 1, 1) := by decide +kernel
theorem dX2_turn_12 : decode cX2_turn 12 = .ok (.aload_n 0, 1) := by decide +kernel
theorem dX2_turn_13 : decode cX2_turn 13 = .ok (.getfield 16, 3) := by decide +kernel
theorem dX2_turn_16 : decode cX2_turn 16 = .ok (.iload_n 1, 1) := by decide +kernel
theorem dX2_turn_17 : decode cX2_turn 17 = .ok (.iconst 1, 1) := by decide +kernel
theorem dX2_turn_18 : decode cX2_turn 18 = .ok (.iadd, 1) := by decide +kernel
theorem dX2_turn_19 : decode cX2_turn 19 = .ok (.iaload, 1) := by decide +kernel
theorem dX2_turn_20 : decode cX2_turn 20 = .ok (.iastore, 1) := by decide +kernel
theorem dX2_turn_21 : decode cX2_turn 21 = .ok (.aload_n 0, 1) := by decide +kernel
theorem dX2_turn_22 : decode cX2_turn 22 = .ok (.getfield 16, 3) := by decide +kernel
theorem dX2_turn_25 : decode cX2_turn 25 = .ok (.iload_n 1, 1) := by decide +kernel
theorem dX2_turn_26 : decode cX2_turn 26 = .ok (.iconst 1, 1) := by decide +kernel
theorem dX2_turn_27 : decode cX2_turn 27 = .ok (.iadd, 1) := by decide +kernel
theorem dX2_turn_28 : decode cX2_turn 28 = .ok (.iload_n 2, 1) := by decide +kernel
theorem dX2_turn_29 : decode cX2_turn 29 = .ok (.iastore, 1) := by decide +kernel
theorem dX2_turn_30 : decode cX2_turn 30 = .ok (.iconst 0, 1) := by decide +kernel
theorem dX2_turn_31 : decode cX2_turn 31 = .ok (.istore_n 3, 1) := by decide +kernel
theorem dX2_turn_32 : decode cX2_turn 32 = .ok (.iload_n 3, 1) := by decide +kernel
theorem dX2_turn_33 : decode cX2_turn 33 = .ok (.bipush 32, 2) := by decide +kernel
theorem dX2_turn_35 : decode cX2_turn 35 = .ok (.if_icmp .ge 34, 3) := by decide +kernel
theorem dX2_turn_38 : decode cX2_turn 38 = .ok (.aload_n 0, 1) := by decide +kernel
theorem dX2_turn_39 : decode cX2_turn 39 = .ok (.getfield 13, 3) := by decide +kernel
theorem dX2_turn_42 : decode cX2_turn 42 = .ok (.iload_n 3, 1) := by decide +kernel
theorem dX2_turn_43 : decode cX2_turn 43 = .ok (.aaload, 1) := by decide +kernel
theorem dX2_turn_44 : decode cX2_turn 44 = .ok (.aload_n 0, 1) := by decide +kernel
theorem dX2_turn_45 : decode cX2_turn 45 = .ok (.getfield 44, 3) := by decide +kernel
theorem dX2_turn_48 : decode cX2_turn 48 = .ok (.aload_n 0, 1) := by decide +kernel
theorem dX2_turn_49 : decode cX2_turn 49 = .ok (.iload_n 1, 1) := by decide +kernel
theorem dX2_turn_50 : decode cX2_turn 50 = .ok (.invokevirtual 191, 3) := by decide +kernel
theorem dX2_turn_53 : decode cX2_turn 53 = .ok (.aload_n 0, 1) := by decide +kernel
theorem dX2_turn_54 : decode cX2_turn 54 = .ok (.iload_n 1, 1) := by decide +kernel
theorem dX2_turn_55 : decode cX2_turn 55 = .ok (.iconst 1, 1) := by decide +kernel
theorem dX2_turn_56 : decode cX2_turn 56 = .ok (.iadd, 1) := by decide +kernel
theorem dX2_turn_57 : decode cX2_turn 57 = .ok (.invokevirtual 191, 3) := by decide +kernel
theorem dX2_turn_60 : decode cX2_turn 60 = .ok (.invokestatic 101, 3) := by decide +kernel
theorem dX2_turn_63 : decode cX2_turn 63 = .ok (.iinc 3 1, 3) := by decide +kernel
theorem dX2_turn_66 : decode cX2_turn 66 = .ok (.goto (-34), 3) := by decide +kernel
theorem dX2_turn_69 : decode cX2_turn 69 = .ok (.return_, 1) := by decide +kernel
theorem dX2_differsBy_0 : decode cX2_differsBy 0 = .ok (.iconst 0, 1) := by decide +kernel
theorem dX2_differsBy_1 : decode cX2_differsBy 1 = .ok (.istore_n 3, 1) := by decide +kernel
theorem dX2_differsBy_2 : decode cX2_differsBy 2 = .ok (.iload_n 3, 1) := by decide +kernel
theorem dX2_differsBy_3 : decode cX2_differsBy 3 = .ok (.aload_n 0, 1) := by decide +kernel
theorem dX2_differsBy_4 : decode cX2_differsBy 4 = .ok (.getfield 44, 3) := by decide +kernel
theorem dX2_differsBy_7 : decode cX2_differsBy 7 = .ok (.if_icmp .ge 29, 3) := by decide +kernel
theorem dX2_differsBy_10 : decode cX2_differsBy 10 = .ok (.aload_n 1, 1) := by decide +kernel
theorem dX2_differsBy_11 : decode cX2_differsBy 11 = .ok (.iload_n 3, 1) := by decide +kernel
theorem dX2_differsBy_12 : decode cX2_differsBy 12 = .ok (.iload_n 2, 1) := by decide +kernel
theorem dX2_differsBy_13 : decode cX2_differsBy 13 = .ok (.iconst 1, 1) := by decide +kernel
theorem dX2_differsBy_14 : decode cX2_differsBy 14 = .ok (.invokestatic 83, 3) := by decide +kernel
theorem dX2_differsBy_17 : decode cX2_differsBy 17 = .ok (.aload_n 1, 1) := by decide +kernel
theorem dX2_differsBy_18 : decode cX2_differsBy 18 = .ok (.iload_n 3, 1) := by decide +kernel
theorem dX2_differsBy_19 : decode cX2_differsBy 19 = .ok (.iload_n 2, 1) := by decide +kernel
theorem dX2_differsBy_20 : decode cX2_differsBy 20 = .ok (.iconst 0, 1) := by decide +kernel
theorem dX2_differsBy_21 : decode cX2_differsBy 21 = .ok (.invokestatic 83, 3) := by decide +kernel
theorem dX2_differsBy_24 : decode cX2_differsBy 24 = .ok (.lcmp, 1) := by decide +kernel
theorem dX2_differsBy_25 : decode cX2_differsBy 25 = .ok (.ifCond .eq 5, 3) := by decide +kernel
theorem dX2_differsBy_28 : decode cX2_differsBy 28 = .ok (.iconst 1, 1) := by decide +kernel
theorem dX2_differsBy_29 : decode cX2_differsBy 29 = .ok (.ireturn, 1) := by decide +kernel
theorem dX2_differsBy_30 : decode cX2_differsBy 30 = .ok (.iinc 3 1, 3) := by decide +kernel
theorem dX2_differsBy_33 : decode cX2_differsBy 33 = .ok (.goto (-31), 3) := by decide +kernel
theorem dX2_differsBy_36 : decode cX2_differsBy 36 = .ok (.iconst 0, 1) := by decide +kernel
theorem dX2_differsBy_37 : decode cX2_differsBy 37 = .ok (.ireturn, 1) := by decide +kernel
theorem dX2_isAll_0 : decode cX2_isAll 0 = .ok (.iconst 0, 1) := by decide +kernel
theorem dX2_isAll_1 : decode cX2_isAll 1 = .ok (.istore 4, 2) := by decide +kernel
theorem dX2_isAll_3 : decode cX2_isAll 3 = .ok (.iload 4, 2) := by decide +kernel
theorem dX2_isAll_5 : decode cX2_isAll 5 = .ok (.aload_n 0, 1) := by decide +kernel
theorem dX2_isAll_6 : decode cX2_isAll 6 = .ok (.getfield 44, 3) := by decide +kernel
theorem dX2_isAll_9 : decode cX2_isAll 9 = .ok (.if_icmp .ge 25, 3) := by decide +kernel
theorem dX2_isAll_12 : decode cX2_isAll 12 = .ok (.aload_n 0, 1) := by decide +kernel
theorem dX2_isAll_13 : decode cX2_isAll 13 = .ok (.getfield 13, 3) := by decide +kernel
theorem dX2_isAll_16 : decode cX2_isAll 16 = .ok (.iload_n 1, 1) := by decide +kernel
theorem dX2_isAll_17 : decode cX2_isAll 17 = .ok (.aaload, 1) := by decide +kernel
theorem dX2_isAll_18 : decode cX2_isAll 18 = .ok (.iload 4, 2) := by decide +kernel
theorem dX2_isAll_20 : decode cX2_isAll 20 = .ok (.laload, 1) := by decide +kernel
theorem dX2_isAll_21 : decode cX2_isAll 21 = .ok (.lload_n 2, 1) := by decide +kernel
theorem dX2_isAll_22 : decode cX2_isAll 22 = .ok (.lcmp, 1) := by decide +kernel
theorem dX2_isAll_23 : decode cX2_isAll 23 = .ok (.ifCond .eq 5, 3) := by decide +kernel
theorem dX2_isAll_26 : decode cX2_isAll 26 = .ok (.iconst 0, 1) := by decide +kernel
theorem dX2_isAll_27 : decode cX2_isAll 27 = .ok (.ireturn, 1) := by decide +kernel
theorem dX2_isAll_28 : decode cX2_isAll 28 = .ok (.iinc 4 1, 3) := by decide +kernel
theorem dX2_isAll_31 : decode cX2_isAll 31 = .ok (.goto (-28), 3) := by decide +kernel
theorem dX2_isAll_34 : decode cX2_isAll 34 = .ok (.iconst 1, 1) := by decide +kernel
theorem dX2_isAll_35 : decode cX2_isAll 35 = .ok (.ireturn, 1) := by decide +kernel
theorem dX2_unsettledRegisters_0 : decode cX2_unsettledRegisters 0 = .ok (.iconst 0, 1) := by decide +kernel
theorem dX2_unsettledRegisters_1 : decode cX2_unsettledRegisters 1 = .ok (.istore_n 1, 1) := by decide +kernel
theorem dX2_unsettledRegisters_2 : decode cX2_unsettledRegisters 2 = .ok (.iconst 0, 1) := by decide +kernel
theorem dX2_unsettledRegisters_3 : decode cX2_unsettledRegisters 3 = .ok (.istore_n 2, 1) := by decide +kernel
theorem dX2_unsettledRegisters_4 : decode cX2_unsettledRegisters 4 = .ok (.iload_n 2, 1) := by decide +kernel
theorem dX2_unsettledRegisters_5 : decode cX2_unsettledRegisters 5 = .ok (.bipush 32, 2) := by decide +kernel
theorem dX2_unsettledRegisters_7 : decode cX2_unsettledRegisters 7 = .ok (.if_icmp .ge 33, 3) := by decide +kernel
theorem dX2_unsettledRegisters_10 : decode cX2_unsettledRegisters 10 = .ok (.aload_n 0, 1) := by decide +kernel
theorem dX2_unsettledRegisters_11 : decode cX2_unsettledRegisters 11 = .ok (.iload_n 2, 1) := by decide +kernel
theorem dX2_unsettledRegisters_12 : decode cX2_unsettledRegisters 12 = .ok (.lconst 0, 1) := by decide +kernel
theorem dX2_unsettledRegisters_13 : decode cX2_unsettledRegisters 13 = .ok (.invokevirtual 105, 3) := by decide +kernel
theorem dX2_unsettledRegisters_16 : decode cX2_unsettledRegisters 16 = .ok (.ifCond .ne 18, 3) := by decide +kernel
theorem dX2_unsettledRegisters_19 : decode cX2_unsettledRegisters 19 = .ok (.aload_n 0, 1) := by decide +kernel
theorem dX2_unsettledRegisters_20 : decode cX2_unsettledRegisters 20 = .ok (.iload_n 2, 1) := by decide +kernel
theorem dX2_unsettledRegisters_21 : decode cX2_unsettledRegisters 21 = .ok (.aload_n 0, 1) := by decide +kernel
theorem dX2_unsettledRegisters_22 : decode cX2_unsettledRegisters 22 = .ok (.getfield 48, 3) := by decide +kernel
theorem dX2_unsettledRegisters_25 : decode cX2_unsettledRegisters 25 = .ok (.invokevirtual 105, 3) := by decide +kernel
theorem dX2_unsettledRegisters_28 : decode cX2_unsettledRegisters 28 = .ok (.ifCond .ne 6, 3) := by decide +kernel
theorem dX2_unsettledRegisters_31 : decode cX2_unsettledRegisters 31 = .ok (.iinc 1 1, 3) := by decide +kernel
theorem dX2_unsettledRegisters_34 : decode cX2_unsettledRegisters 34 = .ok (.iinc 2 1, 3) := by decide +kernel
theorem dX2_unsettledRegisters_37 : decode cX2_unsettledRegisters 37 = .ok (.goto (-33), 3) := by decide +kernel
theorem dX2_unsettledRegisters_40 : decode cX2_unsettledRegisters 40 = .ok (.iload_n 1, 1) := by decide +kernel
theorem dX2_unsettledRegisters_41 : decode cX2_unsettledRegisters 41 = .ok (.ireturn, 1) := by decide +kernel
theorem dX2_restPointer_0 : decode cX2_restPointer 0 = .ok (.aload_n 0, 1) := by decide +kernel
theorem dX2_restPointer_1 : decode cX2_restPointer 1 = .ok (.bipush 33, 2) := by decide +kernel
theorem dX2_restPointer_3 : decode cX2_restPointer 3 = .ok (.invokevirtual 182, 3) := by decide +kernel
theorem dX2_restPointer_6 : decode cX2_restPointer 6 = .ok (.return_, 1) := by decide +kernel
theorem dX2_pointAt_0 : decode cX2_pointAt 0 = .ok (.aload_n 0, 1) := by decide +kernel
theorem dX2_pointAt_1 : decode cX2_pointAt 1 = .ok (.iload_n 1, 1) := by decide +kernel
theorem dX2_pointAt_2 : decode cX2_pointAt 2 = .ok (.putfield 197, 3) := by decide +kernel
theorem dX2_pointAt_5 : decode cX2_pointAt 5 = .ok (.aload_n 0, 1) := by decide +kernel
theorem dX2_pointAt_6 : decode cX2_pointAt 6 = .ok (.iconst 0, 1) := by decide +kernel
theorem dX2_pointAt_7 : decode cX2_pointAt 7 = .ok (.putfield 188, 3) := by decide +kernel
theorem dX2_pointAt_10 : decode cX2_pointAt 10 = .ok (.aload_n 0, 1) := by decide +kernel
theorem dX2_pointAt_11 : decode cX2_pointAt 11 = .ok (.iconst 0, 1) := by decide +kernel
theorem dX2_pointAt_12 : decode cX2_pointAt 12 = .ok (.putfield 194, 3) := by decide +kernel
theorem dX2_pointAt_15 : decode cX2_pointAt 15 = .ok (.return_, 1) := by decide +kernel
theorem dX2_pointerFork_0 : decode cX2_pointerFork 0 = .ok (.aload_n 0, 1) := by decide +kernel
theorem dX2_pointerFork_1 : decode cX2_pointerFork 1 = .ok (.getfield 13, 3) := by decide +kernel
theorem dX2_pointerFork_4 : decode cX2_pointerFork 4 = .ok (.aload_n 0, 1) := by decide +kernel
theorem dX2_pointerFork_5 : decode cX2_pointerFork 5 = .ok (.getfield 197, 3) := by decide +kernel
theorem dX2_pointerFork_8 : decode cX2_pointerFork 8 = .ok (.aaload, 1) := by decide +kernel
theorem dX2_pointerFork_9 : decode cX2_pointerFork 9 = .ok (.astore_n 1, 1) := by decide +kernel
theorem dX2_pointerFork_10 : decode cX2_pointerFork 10 = .ok (.aload_n 0, 1) := by decide +kernel
theorem dX2_pointerFork_11 : decode cX2_pointerFork 11 = .ok (.getfield 194, 3) := by decide +kernel
theorem dX2_pointerFork_14 : decode cX2_pointerFork 14 = .ok (.istore_n 2, 1) := by decide +kernel
theorem dX2_pointerFork_15 : decode cX2_pointerFork 15 = .ok (.iload_n 2, 1) := by decide +kernel
theorem dX2_pointerFork_16 : decode cX2_pointerFork 16 = .ok (.aload_n 0, 1) := by decide +kernel
theorem dX2_pointerFork_17 : decode cX2_pointerFork 17 = .ok (.getfield 94, 3) := by decide +kernel
theorem dX2_pointerFork_20 : decode cX2_pointerFork 20 = .ok (.if_icmp .ge 38, 3) := by decide +kernel
theorem dX2_pointerFork_23 : decode cX2_pointerFork 23 = .ok (.iconst 1, 1) := by decide +kernel
theorem dX2_pointerFork_24 : decode cX2_pointerFork 24 = .ok (.aload_n 0, 1) := by decide +kernel
theorem dX2_pointerFork_25 : decode cX2_pointerFork 25 = .ok (.iload_n 2, 1) := by decide +kernel
theorem dX2_pointerFork_26 : decode cX2_pointerFork 26 = .ok (.invokevirtual 191, 3) := by decide +kernel
theorem dX2_pointerFork_29 : decode cX2_pointerFork 29 = .ok (.ishl, 1) := by decide +kernel
theorem dX2_pointerFork_30 : decode cX2_pointerFork 30 = .ok (.istore_n 3, 1) := by decide +kernel
theorem dX2_pointerFork_31 : decode cX2_pointerFork 31 = .ok (.aload_n 1, 1) := by decide +kernel
theorem dX2_pointerFork_32 : decode cX2_pointerFork 32 = .ok (.aload_n 0, 1) := by decide +kernel
theorem dX2_pointerFork_33 : decode cX2_pointerFork 33 = .ok (.getfield 188, 3) := by decide +kernel
theorem dX2_pointerFork_36 : decode cX2_pointerFork 36 = .ok (.aload_n 1, 1) := by decide +kernel
theorem dX2_pointerFork_37 : decode cX2_pointerFork 37 = .ok (.aload_n 0, 1) := by decide +kernel
theorem dX2_pointerFork_38 : decode cX2_pointerFork 38 = .ok (.getfield 188, 3) := by decide +kernel
theorem dX2_pointerFork_41 : decode cX2_pointerFork 41 = .ok (.iload_n 3, 1) := by decide +kernel
theorem dX2_pointerFork_42 : decode cX2_pointerFork 42 = .ok (.iadd, 1) := by decide +kernel
theorem dX2_pointerFork_43 : decode cX2_pointerFork 43 = .ok (.iload_n 3, 1) := by decide +kernel
theorem dX2_pointerFork_44 : decode cX2_pointerFork 44 = .ok (.invokestatic 147, 3) := by decide +kernel
theorem dX2_pointerFork_47 : decode cX2_pointerFork 47 = .ok (.ifCond .ne 5, 3) := by decide +kernel
theorem dX2_pointerFork_50 : decode cX2_pointerFork 50 = .ok (.iload_n 2, 1) := by decide +kernel
theorem dX2_pointerFork_51 : decode cX2_pointerFork 51 = .ok (.ireturn, 1) := by decide +kernel
theorem dX2_pointerFork_52 : decode cX2_pointerFork 52 = .ok (.iinc 2 1, 3) := by decide +kernel
theorem dX2_pointerFork_55 : decode cX2_pointerFork 55 = .ok (.goto (-40), 3) := by decide +kernel
theorem dX2_pointerFork_58 : decode cX2_pointerFork 58 = .ok (.aload_n 0, 1) := by decide +kernel
theorem dX2_pointerFork_59 : decode cX2_pointerFork 59 = .ok (.getfield 94, 3) := by decide +kernel
theorem dX2_pointerFork_62 : decode cX2_pointerFork 62 = .ok (.ireturn, 1) := by decide +kernel
