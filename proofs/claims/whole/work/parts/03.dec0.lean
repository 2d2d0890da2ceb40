theorem dX0_has_0 : decode cX0_has 0 = .ok (.aload_n 0, 1) := by decide +kernel
theorem dX0_has_1 : decode cX0_has 1 = .ok (.iload_n 1, 1) := by decide +kernel
theorem dX0_has_2 : decode cX0_has 2 = .ok (.bipush 6, 2) := by decide +kernel
theorem dX0_has_4 : decode cX0_has 4 = .ok (.ishr, 1) := by decide +kernel
theorem dX0_has_5 : decode cX0_has 5 = .ok (.laload, 1) := by decide +kernel
theorem dX0_has_6 : decode cX0_has 6 = .ok (.iload_n 1, 1) := by decide +kernel
theorem dX0_has_7 : decode cX0_has 7 = .ok (.bipush 63, 2) := by decide +kernel
theorem dX0_has_9 : decode cX0_has 9 = .ok (.iand, 1) := by decide +kernel
theorem dX0_has_10 : decode cX0_has 10 = .ok (.lushr, 1) := by decide +kernel
theorem dX0_has_11 : decode cX0_has 11 = .ok (.lconst 1, 1) := by decide +kernel
theorem dX0_has_12 : decode cX0_has 12 = .ok (.land, 1) := by decide +kernel
theorem dX0_has_13 : decode cX0_has 13 = .ok (.lconst 0, 1) := by decide +kernel
theorem dX0_has_14 : decode cX0_has 14 = .ok (.lcmp, 1) := by decide +kernel
theorem dX0_has_15 : decode cX0_has 15 = .ok (.ifCond .eq 7, 3) := by decide +kernel
theorem dX0_has_18 : decode cX0_has 18 = .ok (.iconst 1, 1) := by decide +kernel
theorem dX0_has_19 : decode cX0_has 19 = .ok (.goto 4, 3) := by decide +kernel
theorem dX0_has_22 : decode cX0_has 22 = .ok (.iconst 0, 1) := by decide +kernel
theorem dX0_has_23 : decode cX0_has 23 = .ok (.ireturn, 1) := by decide +kernel
theorem dX0_mark_0 : decode cX0_mark 0 = .ok (.aload_n 0, 1) := by decide +kernel
theorem dX0_mark_1 : decode cX0_mark 1 = .ok (.iload_n 1, 1) := by decide +kernel
theorem dX0_mark_2 : decode cX0_mark 2 = .ok (.bipush 6, 2) := by decide +kernel
theorem dX0_mark_4 : decode cX0_mark 4 = .ok (.ishr, 1) := by decide +kernel
theorem dX0_mark_5 : decode cX0_mark 5 = .ok (.dup2, 1) := by decide +kernel
theorem dX0_mark_6 : decode cX0_mark 6 = .ok (.laload, 1) := by decide +kernel
theorem dX0_mark_7 : decode cX0_mark 7 = .ok (.lconst 1, 1) := by decide +kernel
theorem dX0_mark_8 : decode cX0_mark 8 = .ok (.iload_n 1, 1) := by decide +kernel
theorem dX0_mark_9 : decode cX0_mark 9 = .ok (.bipush 63, 2) := by decide +kernel
theorem dX0_mark_11 : decode cX0_mark 11 = .ok (.iand, 1) := by decide +kernel
theorem dX0_mark_12 : decode cX0_mark 12 = .ok (.lshl, 1) := by decide +kernel
theorem dX0_mark_13 : decode cX0_mark 13 = .ok (.lor, 1) := by decide +kernel
theorem dX0_mark_14 : decode cX0_mark 14 = .ok (.lastore, 1) := by decide +kernel
theorem dX0_mark_15 : decode cX0_mark 15 = .ok (.return_, 1) := by decide +kernel
theorem dX0_lowOnes_0 : decode cX0_lowOnes 0 = .ok (.iload_n 0, 1) := by decide +kernel
theorem dX0_lowOnes_1 : decode cX0_lowOnes 1 = .ok (.bipush 64, 2) := by decide +kernel
theorem dX0_lowOnes_3 : decode cX0_lowOnes 3 = .ok (.if_icmp .lt 9, 3) := by decide +kernel
theorem dX0_lowOnes_6 : decode cX0_lowOnes 6 = .ok (.ldc2_w 9, 3) := by decide +kernel
theorem dX0_lowOnes_9 : decode cX0_lowOnes 9 = .ok (.goto 8, 3) := by decide +kernel
theorem dX0_lowOnes_12 : decode cX0_lowOnes 12 = .ok (.lconst 1, 1) := by decide +kernel
theorem dX0_lowOnes_13 : decode cX0_lowOnes 13 = .ok (.iload_n 0, 1) := by decide +kernel
theorem dX0_lowOnes_14 : decode cX0_lowOnes 14 = .ok (.lshl, 1) := by decide +kernel
theorem dX0_lowOnes_15 : decode cX0_lowOnes 15 = .ok (.lconst 1, 1) := by decide +kernel
theorem dX0_lowOnes_16 : decode cX0_lowOnes 16 = .ok (.lsub, 1) := by decide +kernel
theorem dX0_lowOnes_17 : decode cX0_lowOnes 17 = .ok (.lreturn, 1) := by decide +kernel
theorem dX0_letterWord_0 : decode cX0_letterWord 0 = .ok (.iload_n 1, 1) := by decide +kernel
theorem dX0_letterWord_1 : decode cX0_letterWord 1 = .ok (.bipush 6, 2) := by decide +kernel
theorem dX0_letterWord_3 : decode cX0_letterWord 3 = .ok (.if_icmp .ge 9, 3) := by decide +kernel
theorem dX0_letterWord_6 : decode cX0_letterWord 6 = .ok (.getstatic 11, 3) := by decide +kernel
theorem dX0_letterWord_9 : decode cX0_letterWord 9 = .ok (.iload_n 1, 1) := by decide +kernel
theorem dX0_letterWord_10 : decode cX0_letterWord 10 = .ok (.laload, 1) := by decide +kernel
theorem dX0_letterWord_11 : decode cX0_letterWord 11 = .ok (.lreturn, 1) := by decide +kernel
theorem dX0_letterWord_12 : decode cX0_letterWord 12 = .ok (.iload_n 0, 1) := by decide +kernel
theorem dX0_letterWord_13 : decode cX0_letterWord 13 = .ok (.iload_n 1, 1) := by decide +kernel
theorem dX0_letterWord_14 : decode cX0_letterWord 14 = .ok (.bipush 6, 2) := by decide +kernel
theorem dX0_letterWord_16 : decode cX0_letterWord 16 = .ok (.isub, 1) := by decide +kernel
theorem dX0_letterWord_17 : decode cX0_letterWord 17 = .ok (.ishr, 1) := by decide +kernel
theorem dX0_letterWord_18 : decode cX0_letterWord 18 = .ok (.iconst 1, 1) := by decide +kernel
theorem dX0_letterWord_19 : decode cX0_letterWord 19 = .ok (.iand, 1) := by decide +kernel
theorem dX0_letterWord_20 : decode cX0_letterWord 20 = .ok (.ifCond .eq 9, 3) := by decide +kernel
theorem dX0_letterWord_23 : decode cX0_letterWord 23 = .ok (.ldc2_w 9, 3) := by decide +kernel
theorem dX0_letterWord_26 : decode cX0_letterWord 26 = .ok (.goto 4, 3) := by decide +kernel
theorem dX0_letterWord_29 : decode cX0_letterWord 29 = .ok (.lconst 0, 1) := by decide +kernel
theorem dX0_letterWord_30 : decode cX0_letterWord 30 = .ok (.lreturn, 1) := by decide +kernel
theorem dX0_joinedWord_0 : decode cX0_joinedWord 0 = .ok (.lconst 0, 1) := by decide +kernel
theorem dX0_joinedWord_1 : decode cX0_joinedWord 1 = .ok (.lstore 5, 2) := by decide +kernel
theorem dX0_joinedWord_3 : decode cX0_joinedWord 3 = .ok (.iload 4, 2) := by decide +kernel
theorem dX0_joinedWord_5 : decode cX0_joinedWord 5 = .ok (.iconst 1, 1) := by decide +kernel
theorem dX0_joinedWord_6 : decode cX0_joinedWord 6 = .ok (.iand, 1) := by decide +kernel
theorem dX0_joinedWord_7 : decode cX0_joinedWord 7 = .ok (.ifCond .eq 19, 3) := by decide +kernel
theorem dX0_joinedWord_10 : decode cX0_joinedWord 10 = .ok (.lload 5, 2) := by decide +kernel
theorem dX0_joinedWord_12 : decode cX0_joinedWord 12 = .ok (.lload_n 0, 1) := by decide +kernel
theorem dX0_joinedWord_13 : decode cX0_joinedWord 13 = .ok (.ldc2_w 9, 3) := by decide +kernel
theorem dX0_joinedWord_16 : decode cX0_joinedWord 16 = .ok (.lxor, 1) := by decide +kernel
theorem dX0_joinedWord_17 : decode cX0_joinedWord 17 = .ok (.lload_n 2, 1) := by decide +kernel
theorem dX0_joinedWord_18 : decode cX0_joinedWord 18 = .ok (.ldc2_w 9, 3) := by decide +kernel
theorem dX0_joinedWord_21 : decode cX0_joinedWord 21 = .ok (.lxor, 1) := by decide +kernel
theorem dX0_joinedWord_22 : decode cX0_joinedWord 22 = .ok (.land, 1) := by decide +kernel
theorem dX0_joinedWord_23 : decode cX0_joinedWord 23 = .ok (.lor, 1) := by decide +kernel
theorem dX0_joinedWord_24 : decode cX0_joinedWord 24 = .ok (.lstore 5, 2) := by decide +kernel
theorem dX0_joinedWord_26 : decode cX0_joinedWord 26 = .ok (.iload 4, 2) := by decide +kernel
theorem dX0_joinedWord_28 : decode cX0_joinedWord 28 = .ok (.iconst 2, 1) := by decide +kernel
theorem dX0_joinedWord_29 : decode cX0_joinedWord 29 = .ok (.iand, 1) := by decide +kernel
theorem dX0_joinedWord_30 : decode cX0_joinedWord 30 = .ok (.ifCond .eq 15, 3) := by decide +kernel
theorem dX0_joinedWord_33 : decode cX0_joinedWord 33 = .ok (.lload 5, 2) := by decide +kernel
theorem dX0_joinedWord_35 : decode cX0_joinedWord 35 = .ok (.lload_n 0, 1) := by decide +kernel
theorem dX0_joinedWord_36 : decode cX0_joinedWord 36 = .ok (.lload_n 2, 1) := by decide +kernel
theorem dX0_joinedWord_37 : decode cX0_joinedWord 37 = .ok (.ldc2_w 9, 3) := by decide +kernel
theorem dX0_joinedWord_40 : decode cX0_joinedWord 40 = .ok (.lxor, 1) := by decide +kernel
theorem dX0_joinedWord_41 : decode cX0_joinedWord 41 = .ok (.land, 1) := by decide +kernel
theorem dX0_joinedWord_42 : decode cX0_joinedWord 42 = .ok (.lor, 1) := by decide +kernel
theorem dX0_joinedWord_43 : decode cX0_joinedWord 43 = .ok (.lstore 5, 2) := by decide +kernel
theorem dX0_joinedWord_45 : decode cX0_joinedWord 45 = .ok (.iload 4, 2) := by decide +kernel
theorem dX0_joinedWord_47 : decode cX0_joinedWord 47 = .ok (.iconst 4, 1) := by decide +kernel
theorem dX0_joinedWord_48 : decode cX0_joinedWord 48 = .ok (.iand, 1) := by decide +kernel
theorem dX0_joinedWord_49 : decode cX0_joinedWord 49 = .ok (.ifCond .eq 15, 3) := by decide +kernel
theorem dX0_joinedWord_52 : decode cX0_joinedWord 52 = .ok (.lload 5, 2) := by decide +kernel
theorem dX0_joinedWord_54 : decode cX0_joinedWord 54 = .ok (.lload_n 0, 1) := by decide +kernel
theorem dX0_joinedWord_55 : decode cX0_joinedWord 55 = .ok (.ldc2_w 9, 3) := by decide +kernel
theorem dX0_joinedWord_58 : decode cX0_joinedWord 58 = .ok (.lxor, 1) := by decide +kernel
theorem dX0_joinedWord_59 : decode cX0_joinedWord 59 = .ok (.lload_n 2, 1) := by decide +kernel
theorem dX0_joinedWord_60 : decode cX0_joinedWord 60 = .ok (.land, 1) := by decide +kernel
theorem dX0_joinedWord_61 : decode cX0_joinedWord 61 = .ok (.lor, 1) := by decide +kernel
theorem dX0_joinedWord_62 : decode cX0_joinedWord 62 = .ok (.lstore 5, 2) := by decide +kernel
theorem dX0_joinedWord_64 : decode cX0_joinedWord 64 = .ok (.iload 4, 2) := by decide +kernel
theorem dX0_joinedWord_66 : decode cX0_joinedWord 66 = .ok (.bipush 8, 2) := by decide +kernel
theorem dX0_joinedWord_68 : decode cX0_joinedWord 68 = .ok (.iand, 1) := by decide +kernel
theorem dX0_joinedWord_69 : decode cX0_joinedWord 69 = .ok (.ifCond .eq 11, 3) := by decide +kernel
theorem dX0_joinedWord_72 : decode cX0_joinedWord 72 = .ok (.lload 5, 2) := by decide +kernel
theorem dX0_joinedWord_74 : decode cX0_joinedWord 74 = .ok (.lload_n 0, 1) := by decide +kernel
theorem dX0_joinedWord_75 : decode cX0_joinedWord 75 = .ok (.lload_n 2, 1) := by decide +kernel
theorem dX0_joinedWord_76 : decode cX0_joinedWord 76 = .ok (.land, 1) := by decide +kernel
theorem dX0_joinedWord_77 : decode cX0_joinedWord 77 = .ok (.lor, 1) := by decide +kernel
theorem dX0_joinedWord_78 : decode cX0_joinedWord 78 = .ok (.lstore 5, 2) := by decide +kernel
theorem dX0_joinedWord_80 : decode cX0_joinedWord 80 = .ok (.lload 5, 2) := by decide +kernel
theorem dX0_joinedWord_82 : decode cX0_joinedWord 82 = .ok (.lreturn, 1) := by decide +kernel
theorem dX0_chosenWord_0 : decode cX0_chosenWord 0 = .ok (.lload_n 0, 1) := by decide +kernel
theorem dX0_chosenWord_1 : decode cX0_chosenWord 1 = .ok (.lload_n 2, 1) := by decide +kernel
theorem dX0_chosenWord_2 : decode cX0_chosenWord 2 = .ok (.land, 1) := by decide +kernel
theorem dX0_chosenWord_3 : decode cX0_chosenWord 3 = .ok (.lload_n 0, 1) := by decide +kernel
theorem dX0_chosenWord_4 : decode cX0_chosenWord 4 = .ok (.ldc2_w 9, 3) := by decide +kernel
theorem dX0_chosenWord_7 : decode cX0_chosenWord 7 = .ok (.lxor, 1) := by decide +kernel
theorem dX0_chosenWord_8 : decode cX0_chosenWord 8 = .ok (.lload 4, 2) := by decide +kernel
theorem dX0_chosenWord_10 : decode cX0_chosenWord 10 = .ok (.land, 1) := by decide +kernel
theorem dX0_chosenWord_11 : decode cX0_chosenWord 11 = .ok (.lor, 1) := by decide +kernel
theorem dX0_chosenWord_12 : decode cX0_chosenWord 12 = .ok (.lreturn, 1) := by decide +kernel
theorem dX0_fixedWord_0 : decode cX0_fixedWord 0 = .ok (.iload_n 2, 1) := by decide +kernel
theorem dX0_fixedWord_1 : decode cX0_fixedWord 1 = .ok (.bipush 6, 2) := by decide +kernel
theorem dX0_fixedWord_3 : decode cX0_fixedWord 3 = .ok (.if_icmp .lt 31, 3) := by decide +kernel
theorem dX0_fixedWord_6 : decode cX0_fixedWord 6 = .ok (.iconst 1, 1) := by decide +kernel
theorem dX0_fixedWord_7 : decode cX0_fixedWord 7 = .ok (.iload_n 2, 1) := by decide +kernel
theorem dX0_fixedWord_8 : decode cX0_fixedWord 8 = .ok (.bipush 6, 2) := by decide +kernel
theorem dX0_fixedWord_10 : decode cX0_fixedWord 10 = .ok (.isub, 1) := by decide +kernel
theorem dX0_fixedWord_11 : decode cX0_fixedWord 11 = .ok (.ishl, 1) := by decide +kernel
theorem dX0_fixedWord_12 : decode cX0_fixedWord 12 = .ok (.istore 4, 2) := by decide +kernel
theorem dX0_fixedWord_14 : decode cX0_fixedWord 14 = .ok (.aload_n 0, 1) := by decide +kernel
theorem dX0_fixedWord_15 : decode cX0_fixedWord 15 = .ok (.iload_n 3, 1) := by decide +kernel
theorem dX0_fixedWord_16 : decode cX0_fixedWord 16 = .ok (.ifCond .eq 10, 3) := by decide +kernel
theorem dX0_fixedWord_19 : decode cX0_fixedWord 19 = .ok (.iload_n 1, 1) := by decide +kernel
theorem dX0_fixedWord_20 : decode cX0_fixedWord 20 = .ok (.iload 4, 2) := by decide +kernel
theorem dX0_fixedWord_22 : decode cX0_fixedWord 22 = .ok (.ior, 1) := by decide +kernel
theorem dX0_fixedWord_23 : decode cX0_fixedWord 23 = .ok (.goto 9, 3) := by decide +kernel
theorem dX0_fixedWord_26 : decode cX0_fixedWord 26 = .ok (.iload_n 1, 1) := by decide +kernel
theorem dX0_fixedWord_27 : decode cX0_fixedWord 27 = .ok (.iload 4, 2) := by decide +kernel
theorem dX0_fixedWord_29 : decode cX0_fixedWord 29 = .ok (.iconst (-1), 1) := by decide +kernel
theorem dX0_fixedWord_30 : decode cX0_fixedWord 30 = .ok (.ixor, 1) := by decide +kernel
theorem dX0_fixedWord_31 : decode cX0_fixedWord 31 = .ok (.iand, 1) := by decide +kernel
theorem dX0_fixedWord_32 : decode cX0_fixedWord 32 = .ok (.laload, 1) := by decide +kernel
theorem dX0_fixedWord_33 : decode cX0_fixedWord 33 = .ok (.lreturn, 1) := by decide +kernel
theorem dX0_fixedWord_34 : decode cX0_fixedWord 34 = .ok (.iconst 1, 1) := by decide +kernel
theorem dX0_fixedWord_35 : decode cX0_fixedWord 35 = .ok (.iload_n 2, 1) := by decide +kernel
theorem dX0_fixedWord_36 : decode cX0_fixedWord 36 = .ok (.ishl, 1) := by decide +kernel
theorem dX0_fixedWord_37 : decode cX0_fixedWord 37 = .ok (.istore 4, 2) := by decide +kernel
theorem dX0_fixedWord_39 : decode cX0_fixedWord 39 = .ok (.iload_n 3, 1) := by decide +kernel
theorem dX0_fixedWord_40 : decode cX0_fixedWord 40 = .ok (.ifCond .eq 23, 3) := by decide +kernel
theorem dX0_fixedWord_43 : decode cX0_fixedWord 43 = .ok (.aload_n 0, 1) := by decide +kernel
theorem dX0_fixedWord_44 : decode cX0_fixedWord 44 = .ok (.iload_n 1, 1) := by decide +kernel
theorem dX0_fixedWord_45 : decode cX0_fixedWord 45 = .ok (.laload, 1) := by decide +kernel
theorem dX0_fixedWord_46 : decode cX0_fixedWord 46 = .ok (.getstatic 11, 3) := by decide +kernel
theorem dX0_fixedWord_49 : decode cX0_fixedWord 49 = .ok (.iload_n 2, 1) := by decide +kernel
theorem dX0_fixedWord_50 : decode cX0_fixedWord 50 = .ok (.laload, 1) := by decide +kernel
theorem dX0_fixedWord_51 : decode cX0_fixedWord 51 = .ok (.land, 1) := by decide +kernel
theorem dX0_fixedWord_52 : decode cX0_fixedWord 52 = .ok (.lstore 5, 2) := by decide +kernel
theorem dX0_fixedWord_54 : decode cX0_fixedWord 54 = .ok (.lload 5, 2) := by decide +kernel
theorem dX0_fixedWord_56 : decode cX0_fixedWord 56 = .ok (.lload 5, 2) := by decide +kernel
theorem dX0_fixedWord_58 : decode cX0_fixedWord 58 = .ok (.iload 4, 2) := by decide +kernel
theorem dX0_fixedWord_60 : decode cX0_fixedWord 60 = .ok (.lushr, 1) := by decide +kernel
theorem dX0_fixedWord_61 : decode cX0_fixedWord 61 = .ok (.lor, 1) := by decide +kernel
theorem dX0_fixedWord_62 : decode cX0_fixedWord 62 = .ok (.lreturn, 1) := by decide +kernel
theorem dX0_fixedWord_63 : decode cX0_fixedWord 63 = .ok (.aload_n 0, 1) := by decide +kernel
theorem dX0_fixedWord_64 : decode cX0_fixedWord 64 = .ok (.iload_n 1, 1) := by decide +kernel
theorem dX0_fixedWord_65 : decode cX0_fixedWord 65 = .ok (.laload, 1) := by decide +kernel
theorem dX0_fixedWord_66 : decode cX0_fixedWord 66 = .ok (.getstatic 11, 3) := by decide +kernel
theorem dX0_fixedWord_69 : decode cX0_fixedWord 69 = .ok (.iload_n 2, 1) := by decide +kernel
theorem dX0_fixedWord_70 : decode cX0_fixedWord 70 = .ok (.laload, 1) := by decide +kernel
theorem dX0_fixedWord_71 : decode cX0_fixedWord 71 = .ok (.ldc2_w 9, 3) := by decide +kernel
theorem dX0_fixedWord_74 : decode cX0_fixedWord 74 = .ok (.lxor, 1) := by decide +kernel
theorem dX0_fixedWord_75 : decode cX0_fixedWord 75 = .ok (.land, 1) := by decide +kernel
theorem dX0_fixedWord_76 : decode cX0_fixedWord 76 = .ok (.lstore 5, 2) := by decide +kernel
theorem dX0_fixedWord_78 : decode cX0_fixedWord 78 = .ok (.lload 5, 2) := by decide +kernel
theorem dX0_fixedWord_80 : decode cX0_fixedWord 80 = .ok (.lload 5, 2) := by decide +kernel
theorem dX0_fixedWord_82 : decode cX0_fixedWord 82 = .ok (.iload 4, 2) := by decide +kernel
theorem dX0_fixedWord_84 : decode cX0_fixedWord 84 = .ok (.lshl, 1) := by decide +kernel
theorem dX0_fixedWord_85 : decode cX0_fixedWord 85 = .ok (.lor, 1) := by decide +kernel
theorem dX0_fixedWord_86 : decode cX0_fixedWord 86 = .ok (.lreturn, 1) := by decide +kernel
theorem dX0_alike_0 : decode cX0_alike 0 = .ok (.iload 4, 2) := by decide +kernel
theorem dX0_alike_2 : decode cX0_alike 2 = .ok (.bipush 64, 2) := by decide +kernel
theorem dX0_alike_4 : decode cX0_alike 4 = .ok (.if_icmp .ge 27, 3) := by decide +kernel
theorem dX0_alike_7 : decode cX0_alike 7 = .ok (.aload_n 0, 1) := by decide +kernel
theorem dX0_alike_8 : decode cX0_alike 8 = .ok (.iload_n 1, 1) := by decide +kernel
theorem dX0_alike_9 : decode cX0_alike 9 = .ok (.iload 4, 2) := by decide +kernel
theorem dX0_alike_11 : decode cX0_alike 11 = .ok (.invokestatic 15, 3) := by decide +kernel
theorem dX0_alike_14 : decode cX0_alike 14 = .ok (.aload_n 2, 1) := by decide +kernel
theorem dX0_alike_15 : decode cX0_alike 15 = .ok (.iload_n 3, 1) := by decide +kernel
theorem dX0_alike_16 : decode cX0_alike 16 = .ok (.iload 4, 2) := by decide +kernel
theorem dX0_alike_18 : decode cX0_alike 18 = .ok (.invokestatic 15, 3) := by decide +kernel
theorem dX0_alike_21 : decode cX0_alike 21 = .ok (.lcmp, 1) := by decide +kernel
theorem dX0_alike_22 : decode cX0_alike 22 = .ok (.ifCond .ne 7, 3) := by decide +kernel
theorem dX0_alike_25 : decode cX0_alike 25 = .ok (.iconst 1, 1) := by decide +kernel
theorem dX0_alike_26 : decode cX0_alike 26 = .ok (.goto 4, 3) := by decide +kernel
theorem dX0_alike_29 : decode cX0_alike 29 = .ok (.iconst 0, 1) := by decide +kernel
theorem dX0_alike_30 : decode cX0_alike 30 = .ok (.ireturn, 1) := by decide +kernel
theorem dX0_alike_31 : decode cX0_alike 31 = .ok (.iload_n 1, 1) := by decide +kernel
theorem dX0_alike_32 : decode cX0_alike 32 = .ok (.bipush 6, 2) := by decide +kernel
theorem dX0_alike_34 : decode cX0_alike 34 = .ok (.ishr, 1) := by decide +kernel
theorem dX0_alike_35 : decode cX0_alike 35 = .ok (.istore 5, 2) := by decide +kernel
theorem dX0_alike_37 : decode cX0_alike 37 = .ok (.iload_n 3, 1) := by decide +kernel
theorem dX0_alike_38 : decode cX0_alike 38 = .ok (.bipush 6, 2) := by decide +kernel
theorem dX0_alike_40 : decode cX0_alike 40 = .ok (.ishr, 1) := by decide +kernel
theorem dX0_alike_41 : decode cX0_alike 41 = .ok (.istore 6, 2) := by decide +kernel
theorem dX0_alike_43 : decode cX0_alike 43 = .ok (.iload 4, 2) := by decide +kernel
theorem dX0_alike_45 : decode cX0_alike 45 = .ok (.bipush 6, 2) := by decide +kernel
theorem dX0_alike_47 : decode cX0_alike 47 = .ok (.ishr, 1) := by decide +kernel
theorem dX0_alike_48 : decode cX0_alike 48 = .ok (.istore 7, 2) := by decide +kernel
theorem dX0_alike_50 : decode cX0_alike 50 = .ok (.iconst 0, 1) := by decide +kernel
theorem dX0_alike_51 : decode cX0_alike 51 = .ok (.istore 8, 2) := by decide +kernel
theorem dX0_alike_53 : decode cX0_alike 53 = .ok (.iload 8, 2) := by decide +kernel
theorem dX0_alike_55 : decode cX0_alike 55 = .ok (.iload 7, 2) := by decide +kernel
theorem dX0_alike_57 : decode cX0_alike 57 = .ok (.if_icmp .ge 29, 3) := by decide +kernel
theorem dX0_alike_60 : decode cX0_alike 60 = .ok (.aload_n 0, 1) := by decide +kernel
theorem dX0_alike_61 : decode cX0_alike 61 = .ok (.iload 5, 2) := by decide +kernel
theorem dX0_alike_63 : decode cX0_alike 63 = .ok (.iload 8, 2) := by decide +kernel
theorem dX0_alike_65 : decode cX0_alike 65 = .ok (.iadd, 1) := by decide +kernel
theorem dX0_alike_66 : decode cX0_alike 66 = .ok (.laload, 1) := by decide +kernel
theorem dX0_alike_67 : decode cX0_alike 67 = .ok (.aload_n 2, 1) := by decide +kernel
theorem dX0_alike_68 : decode cX0_alike 68 = .ok (.iload 6, 2) := by decide +kernel
theorem dX0_alike_70 : decode cX0_alike 70 = .ok (.iload 8, 2) := by decide +kernel
theorem dX0_alike_72 : decode cX0_alike 72 = .ok (.iadd, 1) := by decide +kernel
theorem dX0_alike_73 : decode cX0_alike 73 = .ok (.laload, 1) := by decide +kernel
theorem dX0_alike_74 : decode cX0_alike 74 = .ok (.lcmp, 1) := by decide +kernel
theorem dX0_alike_75 : decode cX0_alike 75 = .ok (.ifCond .eq 5, 3) := by decide +kernel
theorem dX0_alike_78 : decode cX0_alike 78 = .ok (.iconst 0, 1) := by decide +kernel
theorem dX0_alike_79 : decode cX0_alike 79 = .ok (.ireturn, 1) := by decide +kernel
theorem dX0_alike_80 : decode cX0_alike 80 = .ok (.iinc 8 1, 3) := by decide +kernel
theorem dX0_alike_83 : decode cX0_alike 83 = .ok (.goto (-30), 3) := by decide +kernel
theorem dX0_alike_86 : decode cX0_alike 86 = .ok (.iconst 1, 1) := by decide +kernel
theorem dX0_alike_87 : decode cX0_alike 87 = .ok (.ireturn, 1) := by decide +kernel
theorem dX0_shortPart_0 : decode cX0_shortPart 0 = .ok (.aload_n 0, 1) := by decide +kernel
theorem dX0_shortPart_1 : decode cX0_shortPart 1 = .ok (.iload_n 1, 1) := by decide +kernel
theorem dX0_shortPart_2 : decode cX0_shortPart 2 = .ok (.bipush 6, 2) := by decide +kernel
theorem dX0_shortPart_4 : decode cX0_shortPart 4 = .ok (.ishr, 1) := by decide +kernel
theorem dX0_shortPart_5 : decode cX0_shortPart 5 = .ok (.laload, 1) := by decide +kernel
theorem dX0_shortPart_6 : decode cX0_shortPart 6 = .ok (.iload_n 1, 1) := by decide +kernel
theorem dX0_shortPart_7 : decode cX0_shortPart 7 = .ok (.bipush 63, 2) := by decide +kernel
theorem dX0_shortPart_9 : decode cX0_shortPart 9 = .ok (.iand, 1) := by decide +kernel
theorem dX0_shortPart_10 : decode cX0_shortPart 10 = .ok (.lushr, 1) := by decide +kernel
theorem dX0_shortPart_11 : decode cX0_shortPart 11 = .ok (.lconst 1, 1) := by decide +kernel
theorem dX0_shortPart_12 : decode cX0_shortPart 12 = .ok (.iload_n 2, 1) := by decide +kernel
theorem dX0_shortPart_13 : decode cX0_shortPart 13 = .ok (.lshl, 1) := by decide +kernel
theorem dX0_shortPart_14 : decode cX0_shortPart 14 = .ok (.lconst 1, 1) := by decide +kernel
theorem dX0_shortPart_15 : decode cX0_shortPart 15 = .ok (.lsub, 1) := by decide +kernel
theorem dX0_shortPart_16 : decode cX0_shortPart 16 = .ok (.land, 1) := by decide +kernel
theorem dX0_shortPart_17 : decode cX0_shortPart 17 = .ok (.lreturn, 1) := by decide +kernel
theorem dX0_hash_0 : decode cX0_hash 0 = .ok (.iload_n 2, 1) := by decide +kernel
theorem dX0_hash_1 : decode cX0_hash 1 = .ok (.bipush 64, 2) := by decide +kernel
theorem dX0_hash_3 : decode cX0_hash 3 = .ok (.if_icmp .ge 18, 3) := by decide +kernel
theorem dX0_hash_6 : decode cX0_hash 6 = .ok (.aload_n 0, 1) := by decide +kernel
theorem dX0_hash_7 : decode cX0_hash 7 = .ok (.iload_n 1, 1) := by decide +kernel
theorem dX0_hash_8 : decode cX0_hash 8 = .ok (.iload_n 2, 1) := by decide +kernel
theorem dX0_hash_9 : decode cX0_hash 9 = .ok (.invokestatic 15, 3) := by decide +kernel
theorem dX0_hash_12 : decode cX0_hash 12 = .ok (.ldc2_w 19, 3) := by decide +kernel
theorem dX0_hash_15 : decode cX0_hash 15 = .ok (.lmul, 1) := by decide +kernel
theorem dX0_hash_16 : decode cX0_hash 16 = .ok (.bipush 32, 2) := by decide +kernel
theorem dX0_hash_18 : decode cX0_hash 18 = .ok (.lushr, 1) := by decide +kernel
theorem dX0_hash_19 : decode cX0_hash 19 = .ok (.l2i, 1) := by decide +kernel
theorem dX0_hash_20 : decode cX0_hash 20 = .ok (.ireturn, 1) := by decide +kernel
theorem dX0_hash_21 : decode cX0_hash 21 = .ok (.iload_n 1, 1) := by decide +kernel
theorem dX0_hash_22 : decode cX0_hash 22 = .ok (.bipush 6, 2) := by decide +kernel
theorem dX0_hash_24 : decode cX0_hash 24 = .ok (.ishr, 1) := by decide +kernel
theorem dX0_hash_25 : decode cX0_hash 25 = .ok (.istore_n 3, 1) := by decide +kernel
theorem dX0_hash_26 : decode cX0_hash 26 = .ok (.iload_n 2, 1) := by decide +kernel
theorem dX0_hash_27 : decode cX0_hash 27 = .ok (.bipush 6, 2) := by decide +kernel
theorem dX0_hash_29 : decode cX0_hash 29 = .ok (.ishr, 1) := by decide +kernel
theorem dX0_hash_30 : decode cX0_hash 30 = .ok (.istore 4, 2) := by decide +kernel
theorem dX0_hash_32 : decode cX0_hash 32 = .ok (.lconst 0, 1) := by decide +kernel
theorem dX0_hash_33 : decode cX0_hash 33 = .ok (.lstore 5, 2) := by decide +kernel
theorem dX0_hash_35 : decode cX0_hash 35 = .ok (.iconst 0, 1) := by decide +kernel
theorem dX0_hash_36 : decode cX0_hash 36 = .ok (.istore 7, 2) := by decide +kernel
theorem dX0_hash_38 : decode cX0_hash 38 = .ok (.iload 7, 2) := by decide +kernel
theorem dX0_hash_40 : decode cX0_hash 40 = .ok (.iload 4, 2) := by decide +kernel
theorem dX0_hash_42 : decode cX0_hash 42 = .ok (.if_icmp .ge 34, 3) := by decide +kernel
theorem dX0_hash_45 : decode cX0_hash 45 = .ok (.lload 5, 2) := by decide +kernel
theorem dX0_hash_47 : decode cX0_hash 47 = .ok (.aload_n 0, 1) := by decide +kernel
theorem dX0_hash_48 : decode cX0_hash 48 = .ok (.iload_n 3, 1) := by decide +kernel
theorem dX0_hash_49 : decode cX0_hash 49 = .ok (.iload 7, 2) := by decide +kernel
theorem dX0_hash_51 : decode cX0_hash 51 = .ok (.iadd, 1) := by decide +kernel
theorem dX0_hash_52 : decode cX0_hash 52 = .ok (.laload, 1) := by decide +kernel
theorem dX0_hash_53 : decode cX0_hash 53 = .ok (.lxor, 1) := by decide +kernel
theorem dX0_hash_54 : decode cX0_hash 54 = .ok (.ldc2_w 19, 3) := by decide +kernel
theorem dX0_hash_57 : decode cX0_hash 57 = .ok (.lmul, 1) := by decide +kernel
theorem dX0_hash_58 : decode cX0_hash 58 = .ok (.lstore 5, 2) := by decide +kernel
theorem dX0_hash_60 : decode cX0_hash 60 = .ok (.lload 5, 2) := by decide +kernel
theorem dX0_hash_62 : decode cX0_hash 62 = .ok (.lload 5, 2) := by decide +kernel
theorem dX0_hash_64 : decode cX0_hash 64 = .ok (.bipush 32, 2) := by decide +kernel
theorem dX0_hash_66 : decode cX0_hash 66 = .ok (.lushr, 1) := by decide +kernel
theorem dX0_hash_67 : decode cX0_hash 67 = .ok (.lxor, 1) := by decide +kernel
theorem dX0_hash_68 : decode cX0_hash 68 = .ok (.lstore 5, 2) := by decide +kernel
theorem dX0_hash_70 : decode cX0_hash 70 = .ok (.iinc 7 1, 3) := by decide +kernel
theorem dX0_hash_73 : decode cX0_hash 73 = .ok (.goto (-35), 3) := by decide +kernel
theorem dX0_hash_76 : decode cX0_hash 76 = .ok (.lload 5, 2) := by decide +kernel
theorem dX0_hash_78 : decode cX0_hash 78 = .ok (.l2i, 1) := by decide +kernel
theorem dX0_hash_79 : decode cX0_hash 79 = .ok (.ireturn, 1) := by decide +kernel
theorem dX0_exchange_0 : decode cX0_exchange 0 = .ok (.iload_n 2, 1) := by decide +kernel
theorem dX0_exchange_1 : decode cX0_exchange 1 = .ok (.iload_n 3, 1) := by decide +kernel
theorem dX0_exchange_2 : decode cX0_exchange 2 = .ok (.invokestatic 21, 3) := by decide +kernel
theorem dX0_exchange_5 : decode cX0_exchange 5 = .ok (.istore 4, 2) := by decide +kernel
theorem dX0_exchange_7 : decode cX0_exchange 7 = .ok (.iload_n 2, 1) := by decide +kernel
theorem dX0_exchange_8 : decode cX0_exchange 8 = .ok (.iload_n 3, 1) := by decide +kernel
theorem dX0_exchange_9 : decode cX0_exchange 9 = .ok (.invokestatic 27, 3) := by decide +kernel
theorem dX0_exchange_12 : decode cX0_exchange 12 = .ok (.istore 5, 2) := by decide +kernel
theorem dX0_exchange_14 : decode cX0_exchange 14 = .ok (.iload 4, 2) := by decide +kernel
theorem dX0_exchange_16 : decode cX0_exchange 16 = .ok (.iload 5, 2) := by decide +kernel
theorem dX0_exchange_18 : decode cX0_exchange 18 = .ok (.if_icmp .ne 4, 3) := by decide +kernel
theorem dX0_exchange_21 : decode cX0_exchange 21 = .ok (.return_, 1) := by decide +kernel
theorem dX0_exchange_22 : decode cX0_exchange 22 = .ok (.iload 4, 2) := by decide +kernel
theorem dX0_exchange_24 : decode cX0_exchange 24 = .ok (.bipush 6, 2) := by decide +kernel
theorem dX0_exchange_26 : decode cX0_exchange 26 = .ok (.if_icmp .ge 15, 3) := by decide +kernel
theorem dX0_exchange_29 : decode cX0_exchange 29 = .ok (.aload_n 0, 1) := by decide +kernel
theorem dX0_exchange_30 : decode cX0_exchange 30 = .ok (.iload_n 1, 1) := by decide +kernel
theorem dX0_exchange_31 : decode cX0_exchange 31 = .ok (.iload 4, 2) := by decide +kernel
theorem dX0_exchange_33 : decode cX0_exchange 33 = .ok (.iload 5, 2) := by decide +kernel
theorem dX0_exchange_35 : decode cX0_exchange 35 = .ok (.invokestatic 30, 3) := by decide +kernel
theorem dX0_exchange_38 : decode cX0_exchange 38 = .ok (.goto 31, 3) := by decide +kernel
theorem dX0_exchange_41 : decode cX0_exchange 41 = .ok (.iload 5, 2) := by decide +kernel
theorem dX0_exchange_43 : decode cX0_exchange 43 = .ok (.bipush 6, 2) := by decide +kernel
theorem dX0_exchange_45 : decode cX0_exchange 45 = .ok (.if_icmp .ge 15, 3) := by decide +kernel
theorem dX0_exchange_48 : decode cX0_exchange 48 = .ok (.aload_n 0, 1) := by decide +kernel
theorem dX0_exchange_49 : decode cX0_exchange 49 = .ok (.iload_n 1, 1) := by decide +kernel
theorem dX0_exchange_50 : decode cX0_exchange 50 = .ok (.iload 4, 2) := by decide +kernel
theorem dX0_exchange_52 : decode cX0_exchange 52 = .ok (.iload 5, 2) := by decide +kernel
theorem dX0_exchange_54 : decode cX0_exchange 54 = .ok (.invokestatic 34, 3) := by decide +kernel
theorem dX0_exchange_57 : decode cX0_exchange 57 = .ok (.goto 12, 3) := by decide +kernel
theorem dX0_exchange_60 : decode cX0_exchange 60 = .ok (.aload_n 0, 1) := by decide +kernel
theorem dX0_exchange_61 : decode cX0_exchange 61 = .ok (.iload_n 1, 1) := by decide +kernel
theorem dX0_exchange_62 : decode cX0_exchange 62 = .ok (.iload 4, 2) := by decide +kernel
theorem dX0_exchange_64 : decode cX0_exchange 64 = .ok (.iload 5, 2) := by decide +kernel
theorem dX0_exchange_66 : decode cX0_exchange 66 = .ok (.invokestatic 37, 3) := by decide +kernel
theorem dX0_exchange_69 : decode cX0_exchange 69 = .ok (.return_, 1) := by decide +kernel
theorem dX0_exchangeInWords_0 : decode cX0_exchangeInWords 0 = .ok (.iconst 1, 1) := by decide +kernel
theorem dX0_exchangeInWords_1 : decode cX0_exchangeInWords 1 = .ok (.iload_n 2, 1) := by decide +kernel
theorem dX0_exchangeInWords_2 : decode cX0_exchangeInWords 2 = .ok (.ishl, 1) := by decide +kernel
theorem dX0_exchangeInWords_3 : decode cX0_exchangeInWords 3 = .ok (.iconst 1, 1) := by decide +kernel
theorem dX0_exchangeInWords_4 : decode cX0_exchangeInWords 4 = .ok (.iload_n 3, 1) := by decide +kernel
theorem dX0_exchangeInWords_5 : decode cX0_exchangeInWords 5 = .ok (.ishl, 1) := by decide +kernel
theorem dX0_exchangeInWords_6 : decode cX0_exchangeInWords 6 = .ok (.isub, 1) := by decide +kernel
theorem dX0_exchangeInWords_7 : decode cX0_exchangeInWords 7 = .ok (.istore 4, 2) := by decide +kernel
theorem dX0_exchangeInWords_9 : decode cX0_exchangeInWords 9 = .ok (.getstatic 11, 3) := by decide +kernel
theorem dX0_exchangeInWords_12 : decode cX0_exchangeInWords 12 = .ok (.iload_n 3, 1) := by decide +kernel
theorem dX0_exchangeInWords_13 : decode cX0_exchangeInWords 13 = .ok (.laload, 1) := by decide +kernel
theorem dX0_exchangeInWords_14 : decode cX0_exchangeInWords 14 = .ok (.getstatic 11, 3) := by decide +kernel
theorem dX0_exchangeInWords_17 : decode cX0_exchangeInWords 17 = .ok (.iload_n 2, 1) := by decide +kernel
theorem dX0_exchangeInWords_18 : decode cX0_exchangeInWords 18 = .ok (.laload, 1) := by decide +kernel
theorem dX0_exchangeInWords_19 : decode cX0_exchangeInWords 19 = .ok (.ldc2_w 9, 3) := by decide +kernel
theorem dX0_exchangeInWords_22 : decode cX0_exchangeInWords 22 = .ok (.lxor, 1) := by decide +kernel
theorem dX0_exchangeInWords_23 : decode cX0_exchangeInWords 23 = .ok (.land, 1) := by decide +kernel
theorem dX0_exchangeInWords_24 : decode cX0_exchangeInWords 24 = .ok (.lstore 5, 2) := by decide +kernel
theorem dX0_exchangeInWords_26 : decode cX0_exchangeInWords 26 = .ok (.iconst 0, 1) := by decide +kernel
theorem dX0_exchangeInWords_27 : decode cX0_exchangeInWords 27 = .ok (.istore 7, 2) := by decide +kernel
theorem dX0_exchangeInWords_29 : decode cX0_exchangeInWords 29 = .ok (.iload 7, 2) := by decide +kernel
theorem dX0_exchangeInWords_31 : decode cX0_exchangeInWords 31 = .ok (.iload_n 1, 1) := by decide +kernel
theorem dX0_exchangeInWords_32 : decode cX0_exchangeInWords 32 = .ok (.if_icmp .ge 43, 3) := by decide +kernel
theorem dX0_exchangeInWords_35 : decode cX0_exchangeInWords 35 = .ok (.aload_n 0, 1) := by decide +kernel
theorem dX0_exchangeInWords_36 : decode cX0_exchangeInWords 36 = .ok (.iload 7, 2) := by decide +kernel
theorem dX0_exchangeInWords_38 : decode cX0_exchangeInWords 38 = .ok (.laload, 1) := by decide +kernel
theorem dX0_exchangeInWords_39 : decode cX0_exchangeInWords 39 = .ok (.lstore 8, 2) := by decide +kernel
theorem dX0_exchangeInWords_41 : decode cX0_exchangeInWords 41 = .ok (.lload 8, 2) := by decide +kernel
theorem dX0_exchangeInWords_43 : decode cX0_exchangeInWords 43 = .ok (.iload 4, 2) := by decide +kernel
theorem dX0_exchangeInWords_45 : decode cX0_exchangeInWords 45 = .ok (.lushr, 1) := by decide +kernel
theorem dX0_exchangeInWords_46 : decode cX0_exchangeInWords 46 = .ok (.lload 8, 2) := by decide +kernel
theorem dX0_exchangeInWords_48 : decode cX0_exchangeInWords 48 = .ok (.lxor, 1) := by decide +kernel
theorem dX0_exchangeInWords_49 : decode cX0_exchangeInWords 49 = .ok (.lload 5, 2) := by decide +kernel
theorem dX0_exchangeInWords_51 : decode cX0_exchangeInWords 51 = .ok (.land, 1) := by decide +kernel
theorem dX0_exchangeInWords_52 : decode cX0_exchangeInWords 52 = .ok (.lstore 10, 2) := by decide +kernel
theorem dX0_exchangeInWords_54 : decode cX0_exchangeInWords 54 = .ok (.aload_n 0, 1) := by decide +kernel
theorem dX0_exchangeInWords_55 : decode cX0_exchangeInWords 55 = .ok (.iload 7, 2) := by decide +kernel
theorem dX0_exchangeInWords_57 : decode cX0_exchangeInWords 57 = .ok (.lload 8, 2) := by decide +kernel
theorem dX0_exchangeInWords_59 : decode cX0_exchangeInWords 59 = .ok (.lload 10, 2) := by decide +kernel
theorem dX0_exchangeInWords_61 : decode cX0_exchangeInWords 61 = .ok (.lxor, 1) := by decide +kernel
theorem dX0_exchangeInWords_62 : decode cX0_exchangeInWords 62 = .ok (.lload 10, 2) := by decide +kernel
theorem dX0_exchangeInWords_64 : decode cX0_exchangeInWords 64 = .ok (.iload 4, 2) := by decide +kernel
theorem dX0_exchangeInWords_66 : decode cX0_exchangeInWords 66 = .ok (.lshl, 1) := by decide +kernel
theorem dX0_exchangeInWords_67 : decode cX0_exchangeInWords 67 = .ok (.lxor, 1) := by decide +kernel
theorem dX0_exchangeInWords_68 : decode cX0_exchangeInWords 68 = .ok (.lastore, 1) := by decide +kernel
theorem dX0_exchangeInWords_69 : decode cX0_exchangeInWords 69 = .ok (.iinc 7 1, 3) := by decide +kernel
theorem dX0_exchangeInWords_72 : decode cX0_exchangeInWords 72 = .ok (.goto (-43), 3) := by decide +kernel
theorem dX0_exchangeInWords_75 : decode cX0_exchangeInWords 75 = .ok (.return_, 1) := by decide +kernel
theorem dX0_exchangeAcrossWords_0 : decode cX0_exchangeAcrossWords 0 = .ok (.iconst 1, 1) := by decide +kernel
theorem dX0_exchangeAcrossWords_1 : decode cX0_exchangeAcrossWords 1 = .ok (.iload_n 2, 1) := by decide +kernel
theorem dX0_exchangeAcrossWords_2 : decode cX0_exchangeAcrossWords 2 = .ok (.bipush 6, 2) := by decide +kernel
theorem dX0_exchangeAcrossWords_4 : decode cX0_exchangeAcrossWords 4 = .ok (.isub, 1) := by decide +kernel
theorem dX0_exchangeAcrossWords_5 : decode cX0_exchangeAcrossWords 5 = .ok (.ishl, 1) := by decide +kernel
theorem dX0_exchangeAcrossWords_6 : decode cX0_exchangeAcrossWords 6 = .ok (.istore 4, 2) := by decide +kernel
theorem dX0_exchangeAcrossWords_8 : decode cX0_exchangeAcrossWords 8 = .ok (.iconst 1, 1) := by decide +kernel
theorem dX0_exchangeAcrossWords_9 : decode cX0_exchangeAcrossWords 9 = .ok (.iload_n 3, 1) := by decide +kernel
theorem dX0_exchangeAcrossWords_10 : decode cX0_exchangeAcrossWords 10 = .ok (.ishl, 1) := by decide +kernel
theorem dX0_exchangeAcrossWords_11 : decode cX0_exchangeAcrossWords 11 = .ok (.istore 5, 2) := by decide +kernel
theorem dX0_exchangeAcrossWords_13 : decode cX0_exchangeAcrossWords 13 = .ok (.iconst 0, 1) := by decide +kernel
theorem dX0_exchangeAcrossWords_14 : decode cX0_exchangeAcrossWords 14 = .ok (.istore 6, 2) := by decide +kernel
theorem dX0_exchangeAcrossWords_16 : decode cX0_exchangeAcrossWords 16 = .ok (.iload 6, 2) := by decide +kernel
theorem dX0_exchangeAcrossWords_18 : decode cX0_exchangeAcrossWords 18 = .ok (.iload_n 1, 1) := by decide +kernel
theorem dX0_exchangeAcrossWords_19 : decode cX0_exchangeAcrossWords 19 = .ok (.if_icmp .ge 68, 3) := by decide +kernel
theorem dX0_exchangeAcrossWords_22 : decode cX0_exchangeAcrossWords 22 = .ok (.iload 6, 2) := by decide +kernel
theorem dX0_exchangeAcrossWords_24 : decode cX0_exchangeAcrossWords 24 = .ok (.iload 4, 2) := by decide +kernel
theorem dX0_exchangeAcrossWords_26 : decode cX0_exchangeAcrossWords 26 = .ok (.iand, 1) := by decide +kernel
theorem dX0_exchangeAcrossWords_27 : decode cX0_exchangeAcrossWords 27 = .ok (.ifCond .ne 54, 3) := by decide +kernel
theorem dX0_exchangeAcrossWords_30 : decode cX0_exchangeAcrossWords 30 = .ok (.aload_n 0, 1) := by decide +kernel
theorem dX0_exchangeAcrossWords_31 : decode cX0_exchangeAcrossWords 31 = .ok (.iload 6, 2) := by decide +kernel
theorem dX0_exchangeAcrossWords_33 : decode cX0_exchangeAcrossWords 33 = .ok (.laload, 1) := by decide +kernel
theorem dX0_exchangeAcrossWords_34 : decode cX0_exchangeAcrossWords 34 = .ok (.iload 5, 2) := by decide +kernel
theorem dX0_exchangeAcrossWords_36 : decode cX0_exchangeAcrossWords 36 = .ok (.lushr, 1) := by decide +kernel
theorem dX0_exchangeAcrossWords_37 : decode cX0_exchangeAcrossWords 37 = .ok (.aload_n 0, 1) := by decide +kernel
theorem dX0_exchangeAcrossWords_38 : decode cX0_exchangeAcrossWords 38 = .ok (.iload 6, 2) := by decide +kernel
theorem dX0_exchangeAcrossWords_40 : decode cX0_exchangeAcrossWords 40 = .ok (.iload 4, 2) := by decide +kernel
theorem dX0_exchangeAcrossWords_42 : decode cX0_exchangeAcrossWords 42 = .ok (.iadd, 1) := by decide +kernel
theorem dX0_exchangeAcrossWords_43 : decode cX0_exchangeAcrossWords 43 = .ok (.laload, 1) := by decide +kernel
theorem dX0_exchangeAcrossWords_44 : decode cX0_exchangeAcrossWords 44 = .ok (.lxor, 1) := by decide +kernel
theorem dX0_exchangeAcrossWords_45 : decode cX0_exchangeAcrossWords 45 = .ok (.getstatic 11, 3) := by decide +kernel
theorem dX0_exchangeAcrossWords_48 : decode cX0_exchangeAcrossWords 48 = .ok (.iload_n 3, 1) := by decide +kernel
theorem dX0_exchangeAcrossWords_49 : decode cX0_exchangeAcrossWords 49 = .ok (.laload, 1) := by decide +kernel
theorem dX0_exchangeAcrossWords_50 : decode cX0_exchangeAcrossWords 50 = .ok (.ldc2_w 9, 3) := by decide +kernel
theorem dX0_exchangeAcrossWords_53 : decode cX0_exchangeAcrossWords 53 = .ok (.lxor, 1) := by decide +kernel
theorem dX0_exchangeAcrossWords_54 : decode cX0_exchangeAcrossWords 54 = .ok (.land, 1) := by decide +kernel
theorem dX0_exchangeAcrossWords_55 : decode cX0_exchangeAcrossWords 55 = .ok (.lstore 7, 2) := by decide +kernel
theorem dX0_exchangeAcrossWords_57 : decode cX0_exchangeAcrossWords 57 = .ok (.aload_n 0, 1) := by decide +kernel
theorem dX0_exchangeAcrossWords_58 : decode cX0_exchangeAcrossWords 58 = .ok (.iload 6, 2) := by decide +kernel
theorem dX0_exchangeAcrossWords_60 : decode cX0_exchangeAcrossWords 60 = .ok (.iload 4, 2) := by decide +kernel
theorem dX0_exchangeAcrossWords_62 : decode cX0_exchangeAcrossWords 62 = .ok (.iadd, 1) := by decide +kernel
theorem dX0_exchangeAcrossWords_63 : decode cX0_exchangeAcrossWords 63 = .ok (.dup2, 1) := by decide +kernel
theorem dX0_exchangeAcrossWords_64 : decode cX0_exchangeAcrossWords 64 = .ok (.laload, 1) := by decide +kernel
theorem dX0_exchangeAcrossWords_65 : decode cX0_exchangeAcrossWords 65 = .ok (.lload 7, 2) := by decide +kernel
theorem dX0_exchangeAcrossWords_67 : decode cX0_exchangeAcrossWords 67 = .ok (.lxor, 1) := by decide +kernel
theorem dX0_exchangeAcrossWords_68 : decode cX0_exchangeAcrossWords 68 = .ok (.lastore, 1) := by decide +kernel
theorem dX0_exchangeAcrossWords_69 : decode cX0_exchangeAcrossWords 69 = .ok (.aload_n 0, 1) := by decide +kernel
theorem dX0_exchangeAcrossWords_70 : decode cX0_exchangeAcrossWords 70 = .ok (.iload 6, 2) := by decide +kernel
theorem dX0_exchangeAcrossWords_72 : decode cX0_exchangeAcrossWords 72 = .ok (.dup2, 1) := by decide +kernel
theorem dX0_exchangeAcrossWords_73 : decode cX0_exchangeAcrossWords 73 = .ok (.laload, 1) := by decide +kernel
theorem dX0_exchangeAcrossWords_74 : decode cX0_exchangeAcrossWords 74 = .ok (.lload 7, 2) := by decide +kernel
theorem dX0_exchangeAcrossWords_76 : decode cX0_exchangeAcrossWords 76 = .ok (.iload 5, 2) := by decide +kernel
theorem dX0_exchangeAcrossWords_78 : decode cX0_exchangeAcrossWords 78 = .ok (.lshl, 1) := by decide +kernel
theorem dX0_exchangeAcrossWords_79 : decode cX0_exchangeAcrossWords 79 = .ok (.lxor, 1) := by decide +kernel
theorem dX0_exchangeAcrossWords_80 : decode cX0_exchangeAcrossWords 80 = .ok (.lastore, 1) := by decide +kernel
theorem dX0_exchangeAcrossWords_81 : decode cX0_exchangeAcrossWords 81 = .ok (.iinc 6 1, 3) := by decide +kernel
theorem dX0_exchangeAcrossWords_84 : decode cX0_exchangeAcrossWords 84 = .ok (.goto (-68), 3) := by decide +kernel
theorem dX0_exchangeAcrossWords_87 : decode cX0_exchangeAcrossWords 87 = .ok (.return_, 1) := by decide +kernel
theorem dX0_exchangeWords_0 : decode cX0_exchangeWords 0 = .ok (.iconst 1, 1) := by decide +kernel
theorem dX0_exchangeWords_1 : decode cX0_exchangeWords 1 = .ok (.iload_n 2, 1) := by decide +kernel
theorem dX0_exchangeWords_2 : decode cX0_exchangeWords 2 = .ok (.bipush 6, 2) := by decide +kernel
theorem dX0_exchangeWords_4 : decode cX0_exchangeWords 4 = .ok (.isub, 1) := by decide +kernel
theorem dX0_exchangeWords_5 : decode cX0_exchangeWords 5 = .ok (.ishl, 1) := by decide +kernel
theorem dX0_exchangeWords_6 : decode cX0_exchangeWords 6 = .ok (.istore 4, 2) := by decide +kernel
theorem dX0_exchangeWords_8 : decode cX0_exchangeWords 8 = .ok (.iconst 1, 1) := by decide +kernel
theorem dX0_exchangeWords_9 : decode cX0_exchangeWords 9 = .ok (.iload_n 3, 1) := by decide +kernel
theorem dX0_exchangeWords_10 : decode cX0_exchangeWords 10 = .ok (.bipush 6, 2) := by decide +kernel
theorem dX0_exchangeWords_12 : decode cX0_exchangeWords 12 = .ok (.isub, 1) := by decide +kernel
theorem dX0_exchangeWords_13 : decode cX0_exchangeWords 13 = .ok (.ishl, 1) := by decide +kernel
theorem dX0_exchangeWords_14 : decode cX0_exchangeWords 14 = .ok (.istore 5, 2) := by decide +kernel
theorem dX0_exchangeWords_16 : decode cX0_exchangeWords 16 = .ok (.iconst 0, 1) := by decide +kernel
theorem dX0_exchangeWords_17 : decode cX0_exchangeWords 17 = .ok (.istore 6, 2) := by decide +kernel
theorem dX0_exchangeWords_19 : decode cX0_exchangeWords 19 = .ok (.iload 6, 2) := by decide +kernel
theorem dX0_exchangeWords_21 : decode cX0_exchangeWords 21 = .ok (.iload_n 1, 1) := by decide +kernel
theorem dX0_exchangeWords_22 : decode cX0_exchangeWords 22 = .ok (.if_icmp .ge 55, 3) := by decide +kernel
theorem dX0_exchangeWords_25 : decode cX0_exchangeWords 25 = .ok (.iload 6, 2) := by decide +kernel
theorem dX0_exchangeWords_27 : decode cX0_exchangeWords 27 = .ok (.iload 4, 2) := by decide +kernel
theorem dX0_exchangeWords_29 : decode cX0_exchangeWords 29 = .ok (.iand, 1) := by decide +kernel
theorem dX0_exchangeWords_30 : decode cX0_exchangeWords 30 = .ok (.ifCond .ne 41, 3) := by decide +kernel
theorem dX0_exchangeWords_33 : decode cX0_exchangeWords 33 = .ok (.iload 6, 2) := by decide +kernel
theorem dX0_exchangeWords_35 : decode cX0_exchangeWords 35 = .ok (.iload 5, 2) := by decide +kernel
theorem dX0_exchangeWords_37 : decode cX0_exchangeWords 37 = .ok (.iand, 1) := by decide +kernel
theorem dX0_exchangeWords_38 : decode cX0_exchangeWords 38 = .ok (.ifCond .eq 33, 3) := by decide +kernel
theorem dX0_exchangeWords_41 : decode cX0_exchangeWords 41 = .ok (.iload 6, 2) := by decide +kernel
theorem dX0_exchangeWords_43 : decode cX0_exchangeWords 43 = .ok (.iload 4, 2) := by decide +kernel
theorem dX0_exchangeWords_45 : decode cX0_exchangeWords 45 = .ok (.iadd, 1) := by decide +kernel
theorem dX0_exchangeWords_46 : decode cX0_exchangeWords 46 = .ok (.iload 5, 2) := by decide +kernel
theorem dX0_exchangeWords_48 : decode cX0_exchangeWords 48 = .ok (.isub, 1) := by decide +kernel
theorem dX0_exchangeWords_49 : decode cX0_exchangeWords 49 = .ok (.istore 7, 2) := by decide +kernel
theorem dX0_exchangeWords_51 : decode cX0_exchangeWords 51 = .ok (.aload_n 0, 1) := by decide +kernel
theorem dX0_exchangeWords_52 : decode cX0_exchangeWords 52 = .ok (.iload 6, 2) := by decide +kernel
theorem dX0_exchangeWords_54 : decode cX0_exchangeWords 54 = .ok (.laload, 1) := by decide +kernel
theorem dX0_exchangeWords_55 : decode cX0_exchangeWords 55 = .ok (.lstore 8, 2) := by decide +kernel
theorem dX0_exchangeWords_57 : decode cX0_exchangeWords 57 = .ok (.aload_n 0, 1) := by decide +kernel
theorem dX0_exchangeWords_58 : decode cX0_exchangeWords 58 = .ok (.iload 6, 2) := by decide +kernel
theorem dX0_exchangeWords_60 : decode cX0_exchangeWords 60 = .ok (.aload_n 0, 1) := by decide +kernel
theorem dX0_exchangeWords_61 : decode cX0_exchangeWords 61 = .ok (.iload 7, 2) := by decide +kernel
theorem dX0_exchangeWords_63 : decode cX0_exchangeWords 63 = .ok (.laload, 1) := by decide +kernel
theorem dX0_exchangeWords_64 : decode cX0_exchangeWords 64 = .ok (.lastore, 1) := by decide +kernel
theorem dX0_exchangeWords_65 : decode cX0_exchangeWords 65 = .ok (.aload_n 0, 1) := by decide +kernel
theorem dX0_exchangeWords_66 : decode cX0_exchangeWords 66 = .ok (.iload 7, 2) := by decide +kernel
theorem dX0_exchangeWords_68 : decode cX0_exchangeWords 68 = .ok (.lload 8, 2) := by decide +kernel
theorem dX0_exchangeWords_70 : decode cX0_exchangeWords 70 = .ok (.lastore, 1) := by decide +kernel
theorem dX0_exchangeWords_71 : decode cX0_exchangeWords 71 = .ok (.iinc 6 1, 3) := by decide +kernel
theorem dX0_exchangeWords_74 : decode cX0_exchangeWords 74 = .ok (.goto (-55), 3) := by decide +kernel
theorem dX0_exchangeWords_77 : decode cX0_exchangeWords 77 = .ok (.return_, 1) := by decide +kernel
theorem dX1_init_0 : decode cX1_init 0 = .ok (.aload_n 0, 1) := by decide +kernel
theorem dX1_init_1 : decode cX1_init 1 = .ok (.invokespecial 5, 3) := by decide +kernel
theorem dX1_init_4 : decode cX1_init 4 = .ok (.aload_n 0, 1) := by decide +kernel
theorem dX1_init_5 : decode cX1_init 5 = .ok (.bipush 12, 2) := by decide +kernel
theorem dX1_init_7 : decode cX1_init 7 = .ok (.newarray .int, 2) := by decide +kernel
theorem dX1_init_9 : decode cX1_init 9 = .ok (.putfield 11, 3) := by decide +kernel
theorem dX1_init_12 : decode cX1_init 12 = .ok (.aload_n 0, 1) := by decide +kernel
theorem dX1_init_13 : decode cX1_init 13 = .ok (.sipush 8192, 3) := by decide +kernel
theorem dX1_init_16 : decode cX1_init 16 = .ok (.newarray .int, 2) := by decide +kernel
theorem dX1_init_18 : decode cX1_init 18 = .ok (.putfield 15, 3) := by decide +kernel
theorem dX1_init_21 : decode cX1_init 21 = .ok (.aload_n 0, 1) := by decide +kernel
theorem dX1_init_22 : decode cX1_init 22 = .ok (.sipush 8192, 3) := by decide +kernel
theorem dX1_init_25 : decode cX1_init 25 = .ok (.newarray .int, 2) := by decide +kernel
theorem dX1_init_27 : decode cX1_init 27 = .ok (.putfield 18, 3) := by decide +kernel
theorem dX1_init_30 : decode cX1_init 30 = .ok (.aload_n 0, 1) := by decide +kernel
theorem dX1_init_31 : decode cX1_init 31 = .ok (.sipush 16384, 3) := by decide +kernel
theorem dX1_init_34 : decode cX1_init 34 = .ok (.newarray .int, 2) := by decide +kernel
theorem dX1_init_36 : decode cX1_init 36 = .ok (.putfield 21, 3) := by decide +kernel
theorem dX1_init_39 : decode cX1_init 39 = .ok (.return_, 1) := by decide +kernel
theorem dX1_forksOf_0 : decode cX1_forksOf 0 = .ok (.aload_n 0, 1) := by decide +kernel
theorem dX1_forksOf_1 : decode cX1_forksOf 1 = .ok (.aload_n 1, 1) := by decide +kernel
theorem dX1_forksOf_2 : decode cX1_forksOf 2 = .ok (.iload_n 2, 1) := by decide +kernel
theorem dX1_forksOf_3 : decode cX1_forksOf 3 = .ok (.iload_n 3, 1) := by decide +kernel
theorem dX1_forksOf_4 : decode cX1_forksOf 4 = .ok (.iload 4, 2) := by decide +kernel
theorem dX1_forksOf_6 : decode cX1_forksOf 6 = .ok (.iload 5, 2) := by decide +kernel
theorem dX1_forksOf_8 : decode cX1_forksOf 8 = .ok (.invokevirtual 24, 3) := by decide +kernel
theorem dX1_forksOf_11 : decode cX1_forksOf 11 = .ok (.iconst 0, 1) := by decide +kernel
theorem dX1_forksOf_12 : decode cX1_forksOf 12 = .ok (.istore 6, 2) := by decide +kernel
theorem dX1_forksOf_14 : decode cX1_forksOf 14 = .ok (.iconst 0, 1) := by decide +kernel
theorem dX1_forksOf_15 : decode cX1_forksOf 15 = .ok (.istore 7, 2) := by decide +kernel
theorem dX1_forksOf_17 : decode cX1_forksOf 17 = .ok (.iload 7, 2) := by decide +kernel
theorem dX1_forksOf_19 : decode cX1_forksOf 19 = .ok (.iload 5, 2) := by decide +kernel
theorem dX1_forksOf_21 : decode cX1_forksOf 21 = .ok (.if_icmp .ge 42, 3) := by decide +kernel
theorem dX1_forksOf_24 : decode cX1_forksOf 24 = .ok (.aload_n 0, 1) := by decide +kernel
theorem dX1_forksOf_25 : decode cX1_forksOf 25 = .ok (.getfield 11, 3) := by decide +kernel
theorem dX1_forksOf_28 : decode cX1_forksOf 28 = .ok (.iload 7, 2) := by decide +kernel
theorem dX1_forksOf_30 : decode cX1_forksOf 30 = .ok (.aload_n 0, 1) := by decide +kernel
theorem dX1_forksOf_31 : decode cX1_forksOf 31 = .ok (.aload_n 1, 1) := by decide +kernel
theorem dX1_forksOf_32 : decode cX1_forksOf 32 = .ok (.iconst 1, 1) := by decide +kernel
theorem dX1_forksOf_33 : decode cX1_forksOf 33 = .ok (.iload 5, 2) := by decide +kernel
theorem dX1_forksOf_35 : decode cX1_forksOf 35 = .ok (.iconst 1, 1) := by decide +kernel
theorem dX1_forksOf_36 : decode cX1_forksOf 36 = .ok (.isub, 1) := by decide +kernel
theorem dX1_forksOf_37 : decode cX1_forksOf 37 = .ok (.iload 7, 2) := by decide +kernel
theorem dX1_forksOf_39 : decode cX1_forksOf 39 = .ok (.isub, 1) := by decide +kernel
theorem dX1_forksOf_40 : decode cX1_forksOf 40 = .ok (.ishl, 1) := by decide +kernel
theorem dX1_forksOf_41 : decode cX1_forksOf 41 = .ok (.invokevirtual 28, 3) := by decide +kernel
theorem dX1_forksOf_44 : decode cX1_forksOf 44 = .ok (.iastore, 1) := by decide +kernel
theorem dX1_forksOf_45 : decode cX1_forksOf 45 = .ok (.iload 6, 2) := by decide +kernel
theorem dX1_forksOf_47 : decode cX1_forksOf 47 = .ok (.aload_n 0, 1) := by decide +kernel
theorem dX1_forksOf_48 : decode cX1_forksOf 48 = .ok (.getfield 11, 3) := by decide +kernel
theorem dX1_forksOf_51 : decode cX1_forksOf 51 = .ok (.iload 7, 2) := by decide +kernel
theorem dX1_forksOf_53 : decode cX1_forksOf 53 = .ok (.iaload, 1) := by decide +kernel
theorem dX1_forksOf_54 : decode cX1_forksOf 54 = .ok (.iadd, 1) := by decide +kernel
theorem dX1_forksOf_55 : decode cX1_forksOf 55 = .ok (.istore 6, 2) := by decide +kernel
theorem dX1_forksOf_57 : decode cX1_forksOf 57 = .ok (.iinc 7 1, 3) := by decide +kernel
theorem dX1_forksOf_60 : decode cX1_forksOf 60 = .ok (.goto (-43), 3) := by decide +kernel
theorem dX1_forksOf_63 : decode cX1_forksOf 63 = .ok (.iload 6, 2) := by decide +kernel
theorem dX1_forksOf_65 : decode cX1_forksOf 65 = .ok (.ireturn, 1) := by decide +kernel
theorem dX1_list_0 : decode cX1_list 0 = .ok (.aload_n 0, 1) := by decide +kernel
theorem dX1_list_1 : decode cX1_list 1 = .ok (.iload_n 3, 1) := by decide +kernel
theorem dX1_list_2 : decode cX1_list 2 = .ok (.iload_n 2, 1) := by decide +kernel
theorem dX1_list_3 : decode cX1_list 3 = .ok (.isub, 1) := by decide +kernel
theorem dX1_list_4 : decode cX1_list 4 = .ok (.iconst 1, 1) := by decide +kernel
theorem dX1_list_5 : decode cX1_list 5 = .ok (.iadd, 1) := by decide +kernel
theorem dX1_list_6 : decode cX1_list 6 = .ok (.invokevirtual 32, 3) := by decide +kernel
theorem dX1_list_9 : decode cX1_list 9 = .ok (.iload_n 2, 1) := by decide +kernel
theorem dX1_list_10 : decode cX1_list 10 = .ok (.istore 6, 2) := by decide +kernel
theorem dX1_list_12 : decode cX1_list 12 = .ok (.iload 6, 2) := by decide +kernel
theorem dX1_list_14 : decode cX1_list 14 = .ok (.iload_n 3, 1) := by decide +kernel
theorem dX1_list_15 : decode cX1_list 15 = .ok (.if_icmp .gt 33, 3) := by decide +kernel
theorem dX1_list_18 : decode cX1_list 18 = .ok (.aload_n 0, 1) := by decide +kernel
theorem dX1_list_19 : decode cX1_list 19 = .ok (.aload_n 1, 1) := by decide +kernel
theorem dX1_list_20 : decode cX1_list 20 = .ok (.iload 6, 2) := by decide +kernel
theorem dX1_list_22 : decode cX1_list 22 = .ok (.iload 4, 2) := by decide +kernel
theorem dX1_list_24 : decode cX1_list 24 = .ok (.if_icmp .ne 8, 3) := by decide +kernel
theorem dX1_list_27 : decode cX1_list 27 = .ok (.bipush 32, 2) := by decide +kernel
theorem dX1_list_29 : decode cX1_list 29 = .ok (.goto 5, 3) := by decide +kernel
theorem dX1_list_32 : decode cX1_list 32 = .ok (.iload 6, 2) := by decide +kernel
theorem dX1_list_34 : decode cX1_list 34 = .ok (.iconst 0, 1) := by decide +kernel
theorem dX1_list_35 : decode cX1_list 35 = .ok (.iconst 1, 1) := by decide +kernel
theorem dX1_list_36 : decode cX1_list 36 = .ok (.iload 5, 2) := by decide +kernel
theorem dX1_list_38 : decode cX1_list 38 = .ok (.ishl, 1) := by decide +kernel
theorem dX1_list_39 : decode cX1_list 39 = .ok (.invokevirtual 36, 3) := by decide +kernel
theorem dX1_list_42 : decode cX1_list 42 = .ok (.iinc 6 1, 3) := by decide +kernel
theorem dX1_list_45 : decode cX1_list 45 = .ok (.goto (-33), 3) := by decide +kernel
theorem dX1_list_48 : decode cX1_list 48 = .ok (.return_, 1) := by decide +kernel
theorem dX1_forksListed_0 : decode cX1_forksListed 0 = .ok (.iconst 0, 1) := by decide +kernel
theorem dX1_forksListed_1 : decode cX1_forksListed 1 = .ok (.istore_n 3, 1) := by decide +kernel
theorem dX1_forksListed_2 : decode cX1_forksListed 2 = .ok (.iconst 0, 1) := by decide +kernel
theorem dX1_forksListed_3 : decode cX1_forksListed 3 = .ok (.istore 4, 2) := by decide +kernel
theorem dX1_forksListed_5 : decode cX1_forksListed 5 = .ok (.iload 4, 2) := by decide +kernel
theorem dX1_forksListed_7 : decode cX1_forksListed 7 = .ok (.aload_n 0, 1) := by decide +kernel
theorem dX1_forksListed_8 : decode cX1_forksListed 8 = .ok (.getfield 40, 3) := by decide +kernel
theorem dX1_forksListed_11 : decode cX1_forksListed 11 = .ok (.if_icmp .ge 56, 3) := by decide +kernel
theorem dX1_forksListed_14 : decode cX1_forksListed 14 = .ok (.aload_n 1, 1) := by decide +kernel
theorem dX1_forksListed_15 : decode cX1_forksListed 15 = .ok (.aload_n 0, 1) := by decide +kernel
theorem dX1_forksListed_16 : decode cX1_forksListed 16 = .ok (.getfield 18, 3) := by decide +kernel
theorem dX1_forksListed_19 : decode cX1_forksListed 19 = .ok (.iload 4, 2) := by decide +kernel
theorem dX1_forksListed_21 : decode cX1_forksListed 21 = .ok (.iaload, 1) := by decide +kernel
theorem dX1_forksListed_22 : decode cX1_forksListed 22 = .ok (.bipush 12, 2) := by decide +kernel
theorem dX1_forksListed_24 : decode cX1_forksListed 24 = .ok (.ishr, 1) := by decide +kernel
theorem dX1_forksListed_25 : decode cX1_forksListed 25 = .ok (.aaload, 1) := by decide +kernel
theorem dX1_forksListed_26 : decode cX1_forksListed 26 = .ok (.astore 5, 2) := by decide +kernel
theorem dX1_forksListed_28 : decode cX1_forksListed 28 = .ok (.aload_n 0, 1) := by decide +kernel
theorem dX1_forksListed_29 : decode cX1_forksListed 29 = .ok (.getfield 18, 3) := by decide +kernel
theorem dX1_forksListed_32 : decode cX1_forksListed 32 = .ok (.iload 4, 2) := by decide +kernel
theorem dX1_forksListed_34 : decode cX1_forksListed 34 = .ok (.iaload, 1) := by decide +kernel
theorem dX1_forksListed_35 : decode cX1_forksListed 35 = .ok (.sipush 4095, 3) := by decide +kernel
theorem dX1_forksListed_38 : decode cX1_forksListed 38 = .ok (.iand, 1) := by decide +kernel
theorem dX1_forksListed_39 : decode cX1_forksListed 39 = .ok (.istore 6, 2) := by decide +kernel
theorem dX1_forksListed_41 : decode cX1_forksListed 41 = .ok (.aload 5, 2) := by decide +kernel
theorem dX1_forksListed_43 : decode cX1_forksListed 43 = .ok (.iload 6, 2) := by decide +kernel
theorem dX1_forksListed_45 : decode cX1_forksListed 45 = .ok (.aload 5, 2) := by decide +kernel
theorem dX1_forksListed_47 : decode cX1_forksListed 47 = .ok (.iload 6, 2) := by decide +kernel
theorem dX1_forksListed_49 : decode cX1_forksListed 49 = .ok (.iload_n 2, 1) := by decide +kernel
theorem dX1_forksListed_50 : decode cX1_forksListed 50 = .ok (.iadd, 1) := by decide +kernel
theorem dX1_forksListed_51 : decode cX1_forksListed 51 = .ok (.iload_n 2, 1) := by decide +kernel
theorem dX1_forksListed_52 : decode cX1_forksListed 52 = .ok (.invokestatic 44, 3) := by decide +kernel
theorem dX1_forksListed_55 : decode cX1_forksListed 55 = .ok (.ifCond .ne 6, 3) := by decide +kernel
theorem dX1_forksListed_58 : decode cX1_forksListed 58 = .ok (.iinc 3 1, 3) := by decide +kernel
theorem dX1_forksListed_61 : decode cX1_forksListed 61 = .ok (.iinc 4 1, 3) := by decide +kernel
theorem dX1_forksListed_64 : decode cX1_forksListed 64 = .ok (.goto (-59), 3) := by decide +kernel
theorem dX1_forksListed_67 : decode cX1_forksListed 67 = .ok (.iload_n 3, 1) := by decide +kernel
theorem dX1_forksListed_68 : decode cX1_forksListed 68 = .ok (.ireturn, 1) := by decide +kernel
theorem dX1_cut_0 : decode cX1_cut 0 = .ok (.aload_n 0, 1) := by decide +kernel
theorem dX1_cut_1 : decode cX1_cut 1 = .ok (.getfield 18, 3) := by decide +kernel
theorem dX1_cut_4 : decode cX1_cut 4 = .ok (.astore_n 3, 1) := by decide +kernel
theorem dX1_cut_5 : decode cX1_cut 5 = .ok (.aload_n 0, 1) := by decide +kernel
theorem dX1_cut_6 : decode cX1_cut 6 = .ok (.aload_n 0, 1) := by decide +kernel
theorem dX1_cut_7 : decode cX1_cut 7 = .ok (.getfield 15, 3) := by decide +kernel
theorem dX1_cut_10 : decode cX1_cut 10 = .ok (.putfield 18, 3) := by decide +kernel
theorem dX1_cut_13 : decode cX1_cut 13 = .ok (.aload_n 0, 1) := by decide +kernel
theorem dX1_cut_14 : decode cX1_cut 14 = .ok (.aload_n 3, 1) := by decide +kernel
theorem dX1_cut_15 : decode cX1_cut 15 = .ok (.putfield 15, 3) := by decide +kernel
theorem dX1_cut_18 : decode cX1_cut 18 = .ok (.aload_n 0, 1) := by decide +kernel
theorem dX1_cut_19 : decode cX1_cut 19 = .ok (.getfield 40, 3) := by decide +kernel
theorem dX1_cut_22 : decode cX1_cut 22 = .ok (.istore 4, 2) := by decide +kernel
theorem dX1_cut_24 : decode cX1_cut 24 = .ok (.aload_n 0, 1) := by decide +kernel
theorem dX1_cut_25 : decode cX1_cut 25 = .ok (.iconst 2, 1) := by decide +kernel
theorem dX1_cut_26 : decode cX1_cut 26 = .ok (.iload 4, 2) := by decide +kernel
theorem dX1_cut_28 : decode cX1_cut 28 = .ok (.imul, 1) := by decide +kernel
theorem dX1_cut_29 : decode cX1_cut 29 = .ok (.invokevirtual 32, 3) := by decide +kernel
theorem dX1_cut_32 : decode cX1_cut 32 = .ok (.iconst 0, 1) := by decide +kernel
theorem dX1_cut_33 : decode cX1_cut 33 = .ok (.istore 5, 2) := by decide +kernel
theorem dX1_cut_35 : decode cX1_cut 35 = .ok (.iconst 0, 1) := by decide +kernel
theorem dX1_cut_36 : decode cX1_cut 36 = .ok (.istore 6, 2) := by decide +kernel
theorem dX1_cut_38 : decode cX1_cut 38 = .ok (.iload 6, 2) := by decide +kernel
theorem dX1_cut_40 : decode cX1_cut 40 = .ok (.iload 4, 2) := by decide +kernel
theorem dX1_cut_42 : decode cX1_cut 42 = .ok (.if_icmp .ge 80, 3) := by decide +kernel
theorem dX1_cut_45 : decode cX1_cut 45 = .ok (.aload_n 0, 1) := by decide +kernel
theorem dX1_cut_46 : decode cX1_cut 46 = .ok (.getfield 15, 3) := by decide +kernel
theorem dX1_cut_49 : decode cX1_cut 49 = .ok (.iload 6, 2) := by decide +kernel
theorem dX1_cut_51 : decode cX1_cut 51 = .ok (.iaload, 1) := by decide +kernel
theorem dX1_cut_52 : decode cX1_cut 52 = .ok (.bipush 12, 2) := by decide +kernel
theorem dX1_cut_54 : decode cX1_cut 54 = .ok (.ishr, 1) := by decide +kernel
theorem dX1_cut_55 : decode cX1_cut 55 = .ok (.istore 7, 2) := by decide +kernel
theorem dX1_cut_57 : decode cX1_cut 57 = .ok (.aload_n 0, 1) := by decide +kernel
theorem dX1_cut_58 : decode cX1_cut 58 = .ok (.getfield 15, 3) := by decide +kernel
theorem dX1_cut_61 : decode cX1_cut 61 = .ok (.iload 6, 2) := by decide +kernel
theorem dX1_cut_63 : decode cX1_cut 63 = .ok (.iaload, 1) := by decide +kernel
theorem dX1_cut_64 : decode cX1_cut 64 = .ok (.sipush 4095, 3) := by decide +kernel
theorem dX1_cut_67 : decode cX1_cut 67 = .ok (.iand, 1) := by decide +kernel
theorem dX1_cut_68 : decode cX1_cut 68 = .ok (.istore 8, 2) := by decide +kernel
theorem dX1_cut_70 : decode cX1_cut 70 = .ok (.aload_n 0, 1) := by decide +kernel
theorem dX1_cut_71 : decode cX1_cut 71 = .ok (.aload_n 1, 1) := by decide +kernel
theorem dX1_cut_72 : decode cX1_cut 72 = .ok (.iload 7, 2) := by decide +kernel
theorem dX1_cut_74 : decode cX1_cut 74 = .ok (.iload 8, 2) := by decide +kernel
theorem dX1_cut_76 : decode cX1_cut 76 = .ok (.iload_n 2, 1) := by decide +kernel
theorem dX1_cut_77 : decode cX1_cut 77 = .ok (.invokevirtual 36, 3) := by decide +kernel
theorem dX1_cut_80 : decode cX1_cut 80 = .ok (.aload_n 1, 1) := by decide +kernel
theorem dX1_cut_81 : decode cX1_cut 81 = .ok (.iload 7, 2) := by decide +kernel
theorem dX1_cut_83 : decode cX1_cut 83 = .ok (.aaload, 1) := by decide +kernel
theorem dX1_cut_84 : decode cX1_cut 84 = .ok (.iload 8, 2) := by decide +kernel
theorem dX1_cut_86 : decode cX1_cut 86 = .ok (.aload_n 1, 1) := by decide +kernel
theorem dX1_cut_87 : decode cX1_cut 87 = .ok (.iload 7, 2) := by decide +kernel
theorem dX1_cut_89 : decode cX1_cut 89 = .ok (.aaload, 1) := by decide +kernel
theorem dX1_cut_90 : decode cX1_cut 90 = .ok (.iload 8, 2) := by decide +kernel
theorem dX1_cut_92 : decode cX1_cut 92 = .ok (.iload_n 2, 1) := by decide +kernel
theorem dX1_cut_93 : decode cX1_cut 93 = .ok (.iadd, 1) := by decide +kernel
theorem dX1_cut_94 : decode cX1_cut 94 = .ok (.iload_n 2, 1) := by decide +kernel
theorem dX1_cut_95 : decode cX1_cut 95 = .ok (.invokestatic 44, 3) := by decide +kernel
theorem dX1_cut_98 : decode cX1_cut 98 = .ok (.ifCond .ne 18, 3) := by decide +kernel
theorem dX1_cut_101 : decode cX1_cut 101 = .ok (.aload_n 0, 1) := by decide +kernel
theorem dX1_cut_102 : decode cX1_cut 102 = .ok (.aload_n 1, 1) := by decide +kernel
theorem dX1_cut_103 : decode cX1_cut 103 = .ok (.iload 7, 2) := by decide +kernel
theorem dX1_cut_105 : decode cX1_cut 105 = .ok (.iload 8, 2) := by decide +kernel
theorem dX1_cut_107 : decode cX1_cut 107 = .ok (.iload_n 2, 1) := by decide +kernel
theorem dX1_cut_108 : decode cX1_cut 108 = .ok (.iadd, 1) := by decide +kernel
theorem dX1_cut_109 : decode cX1_cut 109 = .ok (.iload_n 2, 1) := by decide +kernel
theorem dX1_cut_110 : decode cX1_cut 110 = .ok (.invokevirtual 36, 3) := by decide +kernel
theorem dX1_cut_113 : decode cX1_cut 113 = .ok (.iinc 5 1, 3) := by decide +kernel
theorem dX1_cut_116 : decode cX1_cut 116 = .ok (.iinc 6 1, 3) := by decide +kernel
theorem dX1_cut_119 : decode cX1_cut 119 = .ok (.goto (-81), 3) := by decide +kernel
theorem dX1_cut_122 : decode cX1_cut 122 = .ok (.iload 5, 2) := by decide +kernel
theorem dX1_cut_124 : decode cX1_cut 124 = .ok (.ireturn, 1) := by decide +kernel
theorem dX1_clear_0 : decode cX1_clear 0 = .ok (.aload_n 0, 1) := by decide +kernel
theorem dX1_clear_1 : decode cX1_clear 1 = .ok (.iconst 2, 1) := by decide +kernel
theorem dX1_clear_2 : decode cX1_clear 2 = .ok (.putfield 50, 3) := by decide +kernel
theorem dX1_clear_5 : decode cX1_clear 5 = .ok (.aload_n 0, 1) := by decide +kernel
theorem dX1_clear_6 : decode cX1_clear 6 = .ok (.getfield 50, 3) := by decide +kernel
theorem dX1_clear_9 : decode cX1_clear 9 = .ok (.iconst 2, 1) := by decide +kernel
theorem dX1_clear_10 : decode cX1_clear 10 = .ok (.iload_n 1, 1) := by decide +kernel
theorem dX1_clear_11 : decode cX1_clear 11 = .ok (.imul, 1) := by decide +kernel
theorem dX1_clear_12 : decode cX1_clear 12 = .ok (.if_icmp .ge 26, 3) := by decide +kernel
theorem dX1_clear_15 : decode cX1_clear 15 = .ok (.aload_n 0, 1) := by decide +kernel
theorem dX1_clear_16 : decode cX1_clear 16 = .ok (.getfield 50, 3) := by decide +kernel
theorem dX1_clear_19 : decode cX1_clear 19 = .ok (.sipush 16384, 3) := by decide +kernel
theorem dX1_clear_22 : decode cX1_clear 22 = .ok (.if_icmp .ge 16, 3) := by decide +kernel
theorem dX1_clear_25 : decode cX1_clear 25 = .ok (.aload_n 0, 1) := by decide +kernel
theorem dX1_clear_26 : decode cX1_clear 26 = .ok (.dup, 1) := by decide +kernel
theorem dX1_clear_27 : decode cX1_clear 27 = .ok (.getfield 50, 3) := by decide +kernel
theorem dX1_clear_30 : decode cX1_clear 30 = .ok (.iconst 2, 1) := by decide +kernel
theorem dX1_clear_31 : decode cX1_clear 31 = .ok (.imul, 1) := by decide +kernel
theorem dX1_clear_32 : decode cX1_clear 32 = .ok (.putfield 50, 3) := by decide +kernel
theorem dX1_clear_35 : decode cX1_clear 35 = .ok (.goto (-30), 3) := by decide +kernel
theorem dX1_clear_38 : decode cX1_clear 38 = .ok (.aload_n 0, 1) := by decide +kernel
theorem dX1_clear_39 : decode cX1_clear 39 = .ok (.getfield 21, 3) := by decide +kernel
theorem dX1_clear_42 : decode cX1_clear 42 = .ok (.iconst 0, 1) := by decide +kernel
theorem dX1_clear_43 : decode cX1_clear 43 = .ok (.aload_n 0, 1) := by decide +kernel
theorem dX1_clear_44 : decode cX1_clear 44 = .ok (.getfield 50, 3) := by decide +kernel
theorem dX1_clear_47 : decode cX1_clear 47 = .ok (.iconst 0, 1) := by decide +kernel
theorem dX1_clear_48 : decode cX1_clear 48 = .ok (.invokestatic 53, 3) := by decide +kernel
theorem dX1_clear_51 : decode cX1_clear 51 = .ok (.aload_n 0, 1) := by decide +kernel
theorem dX1_clear_52 : decode cX1_clear 52 = .ok (.iconst 0, 1) := by decide +kernel
theorem dX1_clear_53 : decode cX1_clear 53 = .ok (.putfield 40, 3) := by decide +kernel
theorem dX1_clear_56 : decode cX1_clear 56 = .ok (.return_, 1) := by decide +kernel
theorem dX1_find_0 : decode cX1_find 0 = .ok (.aload_n 1, 1) := by decide +kernel
theorem dX1_find_1 : decode cX1_find 1 = .ok (.iload_n 2, 1) := by decide +kernel
theorem dX1_find_2 : decode cX1_find 2 = .ok (.aaload, 1) := by decide +kernel
theorem dX1_find_3 : decode cX1_find 3 = .ok (.astore 5, 2) := by decide +kernel
theorem dX1_find_5 : decode cX1_find 5 = .ok (.aload 5, 2) := by decide +kernel
theorem dX1_find_7 : decode cX1_find 7 = .ok (.iload_n 3, 1) := by decide +kernel
theorem dX1_find_8 : decode cX1_find 8 = .ok (.iload 4, 2) := by decide +kernel
theorem dX1_find_10 : decode cX1_find 10 = .ok (.invokestatic 59, 3) := by decide +kernel
theorem dX1_find_13 : decode cX1_find 13 = .ok (.aload_n 0, 1) := by decide +kernel
theorem dX1_find_14 : decode cX1_find 14 = .ok (.getfield 50, 3) := by decide +kernel
theorem dX1_find_17 : decode cX1_find 17 = .ok (.iconst 1, 1) := by decide +kernel
theorem dX1_find_18 : decode cX1_find 18 = .ok (.isub, 1) := by decide +kernel
theorem dX1_find_19 : decode cX1_find 19 = .ok (.iand, 1) := by decide +kernel
theorem dX1_find_20 : decode cX1_find 20 = .ok (.istore 6, 2) := by decide +kernel
theorem dX1_find_22 : decode cX1_find 22 = .ok (.iconst 0, 1) := by decide +kernel
theorem dX1_find_23 : decode cX1_find 23 = .ok (.istore 7, 2) := by decide +kernel
theorem dX1_find_25 : decode cX1_find 25 = .ok (.iload 7, 2) := by decide +kernel
theorem dX1_find_27 : decode cX1_find 27 = .ok (.aload_n 0, 1) := by decide +kernel
theorem dX1_find_28 : decode cX1_find 28 = .ok (.getfield 50, 3) := by decide +kernel
theorem dX1_find_31 : decode cX1_find 31 = .ok (.if_icmp .ge 90, 3) := by decide +kernel
theorem dX1_find_34 : decode cX1_find 34 = .ok (.aload_n 0, 1) := by decide +kernel
theorem dX1_find_35 : decode cX1_find 35 = .ok (.getfield 21, 3) := by decide +kernel
theorem dX1_find_38 : decode cX1_find 38 = .ok (.iload 6, 2) := by decide +kernel
theorem dX1_find_40 : decode cX1_find 40 = .ok (.iaload, 1) := by decide +kernel
theorem dX1_find_41 : decode cX1_find 41 = .ok (.iconst 1, 1) := by decide +kernel
theorem dX1_find_42 : decode cX1_find 42 = .ok (.isub, 1) := by decide +kernel
theorem dX1_find_43 : decode cX1_find 43 = .ok (.istore 8, 2) := by decide +kernel
theorem dX1_find_45 : decode cX1_find 45 = .ok (.iload 8, 2) := by decide +kernel
theorem dX1_find_47 : decode cX1_find 47 = .ok (.ifCond .ge 16, 3) := by decide +kernel
theorem dX1_find_50 : decode cX1_find 50 = .ok (.aload_n 0, 1) := by decide +kernel
theorem dX1_find_51 : decode cX1_find 51 = .ok (.iload 6, 2) := by decide +kernel
theorem dX1_find_53 : decode cX1_find 53 = .ok (.iload_n 2, 1) := by decide +kernel
theorem dX1_find_54 : decode cX1_find 54 = .ok (.bipush 12, 2) := by decide +kernel
theorem dX1_find_56 : decode cX1_find 56 = .ok (.ishl, 1) := by decide +kernel
theorem dX1_find_57 : decode cX1_find 57 = .ok (.iload_n 3, 1) := by decide +kernel
theorem dX1_find_58 : decode cX1_find 58 = .ok (.ior, 1) := by decide +kernel
theorem dX1_find_59 : decode cX1_find 59 = .ok (.invokevirtual 63, 3) := by decide +kernel
theorem dX1_find_62 : decode cX1_find 62 = .ok (.return_, 1) := by decide +kernel
theorem dX1_find_63 : decode cX1_find 63 = .ok (.aload_n 1, 1) := by decide +kernel
theorem dX1_find_64 : decode cX1_find 64 = .ok (.aload_n 0, 1) := by decide +kernel
theorem dX1_find_65 : decode cX1_find 65 = .ok (.getfield 18, 3) := by decide +kernel
theorem dX1_find_68 : decode cX1_find 68 = .ok (.iload 8, 2) := by decide +kernel
theorem dX1_find_70 : decode cX1_find 70 = .ok (.iaload, 1) := by decide +kernel
theorem dX1_find_71 : decode cX1_find 71 = .ok (.bipush 12, 2) := by decide +kernel
theorem dX1_find_73 : decode cX1_find 73 = .ok (.ishr, 1) := by decide +kernel
theorem dX1_find_74 : decode cX1_find 74 = .ok (.aaload, 1) := by decide +kernel
theorem dX1_find_75 : decode cX1_find 75 = .ok (.astore 9, 2) := by decide +kernel
theorem dX1_find_77 : decode cX1_find 77 = .ok (.aload 5, 2) := by decide +kernel
theorem dX1_find_79 : decode cX1_find 79 = .ok (.iload_n 3, 1) := by decide +kernel
theorem dX1_find_80 : decode cX1_find 80 = .ok (.aload 9, 2) := by decide +kernel
theorem dX1_find_82 : decode cX1_find 82 = .ok (.aload_n 0, 1) := by decide +kernel
theorem dX1_find_83 : decode cX1_find 83 = .ok (.getfield 18, 3) := by decide +kernel
theorem dX1_find_86 : decode cX1_find 86 = .ok (.iload 8, 2) := by decide +kernel
theorem dX1_find_88 : decode cX1_find 88 = .ok (.iaload, 1) := by decide +kernel
theorem dX1_find_89 : decode cX1_find 89 = .ok (.sipush 4095, 3) := by decide +kernel
theorem dX1_find_92 : decode cX1_find 92 = .ok (.iand, 1) := by decide +kernel
theorem dX1_find_93 : decode cX1_find 93 = .ok (.iload 4, 2) := by decide +kernel
theorem dX1_find_95 : decode cX1_find 95 = .ok (.invokestatic 44, 3) := by decide +kernel
theorem dX1_find_98 : decode cX1_find 98 = .ok (.ifCond .eq 4, 3) := by decide +kernel
theorem dX1_find_101 : decode cX1_find 101 = .ok (.return_, 1) := by decide +kernel
theorem dX1_find_102 : decode cX1_find 102 = .ok (.iload 6, 2) := by decide +kernel
theorem dX1_find_104 : decode cX1_find 104 = .ok (.iconst 1, 1) := by decide +kernel
theorem dX1_find_105 : decode cX1_find 105 = .ok (.iadd, 1) := by decide +kernel
theorem dX1_find_106 : decode cX1_find 106 = .ok (.aload_n 0, 1) := by decide +kernel
theorem dX1_find_107 : decode cX1_find 107 = .ok (.getfield 50, 3) := by decide +kernel
theorem dX1_find_110 : decode cX1_find 110 = .ok (.iconst 1, 1) := by decide +kernel
theorem dX1_find_111 : decode cX1_find 111 = .ok (.isub, 1) := by decide +kernel
theorem dX1_find_112 : decode cX1_find 112 = .ok (.iand, 1) := by decide +kernel
theorem dX1_find_113 : decode cX1_find 113 = .ok (.istore 6, 2) := by decide +kernel
theorem dX1_find_115 : decode cX1_find 115 = .ok (.iinc 7 1, 3) := by decide +kernel
theorem dX1_find_118 : decode cX1_find 118 = .ok (.goto (-93), 3) := by decide +kernel
theorem dX1_find_121 : decode cX1_find 121 = .ok (.return_, 1) := by decide +kernel
theorem dX1_note_0 : decode cX1_note 0 = .ok (.aload_n 0, 1) := by decide +kernel
theorem dX1_note_1 : decode cX1_note 1 = .ok (.getfield 40, 3) := by decide +kernel
theorem dX1_note_4 : decode cX1_note 4 = .ok (.sipush 8192, 3) := by decide +kernel
theorem dX1_note_7 : decode cX1_note 7 = .ok (.if_icmp .ge 33, 3) := by decide +kernel
theorem dX1_note_10 : decode cX1_note 10 = .ok (.aload_n 0, 1) := by decide +kernel
theorem dX1_note_11 : decode cX1_note 11 = .ok (.getfield 18, 3) := by decide +kernel
theorem dX1_note_14 : decode cX1_note 14 = .ok (.aload_n 0, 1) := by decide +kernel
theorem dX1_note_15 : decode cX1_note 15 = .ok (.getfield 40, 3) := by decide +kernel
theorem dX1_note_18 : decode cX1_note 18 = .ok (.iload_n 2, 1) := by decide +kernel
theorem dX1_note_19 : decode cX1_note 19 = .ok (.iastore, 1) := by decide +kernel
theorem dX1_note_20 : decode cX1_note 20 = .ok (.aload_n 0, 1) := by decide +kernel
theorem dX1_note_21 : decode cX1_note 21 = .ok (.dup, 1) := by decide +kernel
theorem dX1_note_22 : decode cX1_note 22 = .ok (.getfield 40, 3) := by decide +kernel
theorem dX1_note_25 : decode cX1_note 25 = .ok (.iconst 1, 1) := by decide +kernel
theorem dX1_note_26 : decode cX1_note 26 = .ok (.iadd, 1) := by decide +kernel
theorem dX1_note_27 : decode cX1_note 27 = .ok (.putfield 40, 3) := by decide +kernel
theorem dX1_note_30 : decode cX1_note 30 = .ok (.aload_n 0, 1) := by decide +kernel
theorem dX1_note_31 : decode cX1_note 31 = .ok (.getfield 21, 3) := by decide +kernel
theorem dX1_note_34 : decode cX1_note 34 = .ok (.iload_n 1, 1) := by decide +kernel
theorem dX1_note_35 : decode cX1_note 35 = .ok (.aload_n 0, 1) := by decide +kernel
theorem dX1_note_36 : decode cX1_note 36 = .ok (.getfield 40, 3) := by decide +kernel
theorem dX1_note_39 : decode cX1_note 39 = .ok (.iastore, 1) := by decide +kernel
theorem dX1_note_40 : decode cX1_note 40 = .ok (.return_, 1) := by decide +kernel
theorem dJ13_bitCount_95d88_0 : decode cJ13_bitCount_95d88 0 = .ok (.lload_n 0, 1) := by decide +kernel
theorem dJ13_bitCount_95d88_1 : decode cJ13_bitCount_95d88 1 = .ok (.lload_n 0, 1) := by decide +kernel
theorem dJ13_bitCount_95d88_2 : decode cJ13_bitCount_95d88 2 = .ok (.iconst 1, 1) := by decide +kernel
theorem dJ13_bitCount_95d88_3 : decode cJ13_bitCount_95d88 3 = .ok (.lushr, 1) := by decide +kernel
theorem dJ13_bitCount_95d88_4 : decode cJ13_bitCount_95d88 4 = .ok (.ldc2_w 314, 3) := by decide +kernel
theorem dJ13_bitCount_95d88_7 : decode cJ13_bitCount_95d88 7 = .ok (.land, 1) := by decide +kernel
theorem dJ13_bitCount_95d88_8 : decode cJ13_bitCount_95d88 8 = .ok (.lsub, 1) := by decide +kernel
theorem dJ13_bitCount_95d88_9 : decode cJ13_bitCount_95d88 9 = .ok (.lstore_n 0, 1) := by decide +kernel
theorem dJ13_bitCount_95d88_10 : decode cJ13_bitCount_95d88 10 = .ok (.lload_n 0, 1) := by decide +kernel
theorem dJ13_bitCount_95d88_11 : decode cJ13_bitCount_95d88 11 = .ok (.ldc2_w 316, 3) := by decide +kernel
theorem dJ13_bitCount_95d88_14 : decode cJ13_bitCount_95d88 14 = .ok (.land, 1) := by decide +kernel
theorem dJ13_bitCount_95d88_15 : decode cJ13_bitCount_95d88 15 = .ok (.lload_n 0, 1) := by decide +kernel
theorem dJ13_bitCount_95d88_16 : decode cJ13_bitCount_95d88 16 = .ok (.iconst 2, 1) := by decide +kernel
theorem dJ13_bitCount_95d88_17 : decode cJ13_bitCount_95d88 17 = .ok (.lushr, 1) := by decide +kernel
theorem dJ13_bitCount_95d88_18 : decode cJ13_bitCount_95d88 18 = .ok (.ldc2_w 316, 3) := by decide +kernel
theorem dJ13_bitCount_95d88_21 : decode cJ13_bitCount_95d88 21 = .ok (.land, 1) := by decide +kernel
theorem dJ13_bitCount_95d88_22 : decode cJ13_bitCount_95d88 22 = .ok (.ladd, 1) := by decide +kernel
theorem dJ13_bitCount_95d88_23 : decode cJ13_bitCount_95d88 23 = .ok (.lstore_n 0, 1) := by decide +kernel
theorem dJ13_bitCount_95d88_24 : decode cJ13_bitCount_95d88 24 = .ok (.lload_n 0, 1) := by decide +kernel
theorem dJ13_bitCount_95d88_25 : decode cJ13_bitCount_95d88 25 = .ok (.lload_n 0, 1) := by decide +kernel
theorem dJ13_bitCount_95d88_26 : decode cJ13_bitCount_95d88 26 = .ok (.iconst 4, 1) := by decide +kernel
theorem dJ13_bitCount_95d88_27 : decode cJ13_bitCount_95d88 27 = .ok (.lushr, 1) := by decide +kernel
theorem dJ13_bitCount_95d88_28 : decode cJ13_bitCount_95d88 28 = .ok (.ladd, 1) := by decide +kernel
theorem dJ13_bitCount_95d88_29 : decode cJ13_bitCount_95d88 29 = .ok (.ldc2_w 318, 3) := by decide +kernel
theorem dJ13_bitCount_95d88_32 : decode cJ13_bitCount_95d88 32 = .ok (.land, 1) := by decide +kernel
theorem dJ13_bitCount_95d88_33 : decode cJ13_bitCount_95d88 33 = .ok (.lstore_n 0, 1) := by decide +kernel
theorem dJ13_bitCount_95d88_34 : decode cJ13_bitCount_95d88 34 = .ok (.lload_n 0, 1) := by decide +kernel
theorem dJ13_bitCount_95d88_35 : decode cJ13_bitCount_95d88 35 = .ok (.lload_n 0, 1) := by decide +kernel
theorem dJ13_bitCount_95d88_36 : decode cJ13_bitCount_95d88 36 = .ok (.bipush 8, 2) := by decide +kernel
theorem dJ13_bitCount_95d88_38 : decode cJ13_bitCount_95d88 38 = .ok (.lushr, 1) := by decide +kernel
theorem dJ13_bitCount_95d88_39 : decode cJ13_bitCount_95d88 39 = .ok (.ladd, 1) := by decide +kernel
theorem dJ13_bitCount_95d88_40 : decode cJ13_bitCount_95d88 40 = .ok (.lstore_n 0, 1) := by decide +kernel
theorem dJ13_bitCount_95d88_41 : decode cJ13_bitCount_95d88 41 = .ok (.lload_n 0, 1) := by decide +kernel
theorem dJ13_bitCount_95d88_42 : decode cJ13_bitCount_95d88 42 = .ok (.lload_n 0, 1) := by decide +kernel
theorem dJ13_bitCount_95d88_43 : decode cJ13_bitCount_95d88 43 = .ok (.bipush 16, 2) := by decide +kernel
theorem dJ13_bitCount_95d88_45 : decode cJ13_bitCount_95d88 45 = .ok (.lushr, 1) := by decide +kernel
theorem dJ13_bitCount_95d88_46 : decode cJ13_bitCount_95d88 46 = .ok (.ladd, 1) := by decide +kernel
theorem dJ13_bitCount_95d88_47 : decode cJ13_bitCount_95d88 47 = .ok (.lstore_n 0, 1) := by decide +kernel
theorem dJ13_bitCount_95d88_48 : decode cJ13_bitCount_95d88 48 = .ok (.lload_n 0, 1) := by decide +kernel
theorem dJ13_bitCount_95d88_49 : decode cJ13_bitCount_95d88 49 = .ok (.lload_n 0, 1) := by decide +kernel
theorem dJ13_bitCount_95d88_50 : decode cJ13_bitCount_95d88 50 = .ok (.bipush 32, 2) := by decide +kernel
theorem dJ13_bitCount_95d88_52 : decode cJ13_bitCount_95d88 52 = .ok (.lushr, 1) := by decide +kernel
theorem dJ13_bitCount_95d88_53 : decode cJ13_bitCount_95d88 53 = .ok (.ladd, 1) := by decide +kernel
theorem dJ13_bitCount_95d88_54 : decode cJ13_bitCount_95d88 54 = .ok (.lstore_n 0, 1) := by decide +kernel
theorem dJ13_bitCount_95d88_55 : decode cJ13_bitCount_95d88 55 = .ok (.lload_n 0, 1) := by decide +kernel
theorem dJ13_bitCount_95d88_56 : decode cJ13_bitCount_95d88 56 = .ok (.l2i, 1) := by decide +kernel
theorem dJ13_bitCount_95d88_57 : decode cJ13_bitCount_95d88 57 = .ok (.bipush 127, 2) := by decide +kernel
theorem dJ13_bitCount_95d88_59 : decode cJ13_bitCount_95d88 59 = .ok (.iand, 1) := by decide +kernel
theorem dJ13_bitCount_95d88_60 : decode cJ13_bitCount_95d88 60 = .ok (.ireturn, 1) := by decide +kernel
theorem dJ9_max_7cf53_0 : decode cJ9_max_7cf53 0 = .ok (.iload_n 0, 1) := by decide +kernel
theorem dJ9_max_7cf53_1 : decode cJ9_max_7cf53 1 = .ok (.iload_n 1, 1) := by decide +kernel
theorem dJ9_max_7cf53_2 : decode cJ9_max_7cf53 2 = .ok (.if_icmp .lt 7, 3) := by decide +kernel
theorem dJ9_max_7cf53_5 : decode cJ9_max_7cf53 5 = .ok (.iload_n 0, 1) := by decide +kernel
theorem dJ9_max_7cf53_6 : decode cJ9_max_7cf53 6 = .ok (.goto 4, 3) := by decide +kernel
theorem dJ9_max_7cf53_9 : decode cJ9_max_7cf53 9 = .ok (.iload_n 1, 1) := by decide +kernel
theorem dJ9_max_7cf53_10 : decode cJ9_max_7cf53 10 = .ok (.ireturn, 1) := by decide +kernel
theorem dJ9_min_7cf53_0 : decode cJ9_min_7cf53 0 = .ok (.iload_n 0, 1) := by decide +kernel
theorem dJ9_min_7cf53_1 : decode cJ9_min_7cf53 1 = .ok (.iload_n 1, 1) := by decide +kernel
theorem dJ9_min_7cf53_2 : decode cJ9_min_7cf53 2 = .ok (.if_icmp .gt 7, 3) := by decide +kernel
theorem dJ9_min_7cf53_5 : decode cJ9_min_7cf53 5 = .ok (.iload_n 0, 1) := by decide +kernel
theorem dJ9_min_7cf53_6 : decode cJ9_min_7cf53 6 = .ok (.goto 4, 3) := by decide +kernel
theorem dJ9_min_7cf53_9 : decode cJ9_min_7cf53 9 = .ok (.iload_n 1, 1) := by decide +kernel
theorem dJ9_min_7cf53_10 : decode cJ9_min_7cf53 10 = .ok (.ireturn, 1) := by decide +kernel
theorem dJ7_rangeCheck_23922_0 : decode cJ7_rangeCheck_23922 0 = .ok (.iload_n 1, 1) := by decide +kernel
theorem dJ7_rangeCheck_23922_1 : decode cJ7_rangeCheck_23922 1 = .ok (.iload_n 2, 1) := by decide +kernel
theorem dJ7_rangeCheck_23922_2 : decode cJ7_rangeCheck_23922 2 = .ok (.if_icmp .le 44, 3) := by decide +kernel
theorem dJ7_rangeCheck_23922_5 : decode cJ7_rangeCheck_23922 5 = .ok (.new 43, 3) := by decide +kernel
theorem dJ7_rangeCheck_23922_8 : decode cJ7_rangeCheck_23922 8 = .ok (.dup, 1) := by decide +kernel
theorem dJ7_rangeCheck_23922_9 : decode cJ7_rangeCheck_23922 9 = .ok (.new 45, 3) := by decide +kernel
theorem dJ7_rangeCheck_23922_12 : decode cJ7_rangeCheck_23922 12 = .ok (.dup, 1) := by decide +kernel
theorem dJ7_rangeCheck_23922_13 : decode cJ7_rangeCheck_23922 13 = .ok (.invokespecial 47, 3) := by decide +kernel
theorem dJ7_rangeCheck_23922_16 : decode cJ7_rangeCheck_23922 16 = .ok (.ldc 48, 2) := by decide +kernel
theorem dJ7_rangeCheck_23922_18 : decode cJ7_rangeCheck_23922 18 = .ok (.invokevirtual 50, 3) := by decide +kernel
theorem dJ7_rangeCheck_23922_21 : decode cJ7_rangeCheck_23922 21 = .ok (.iload_n 1, 1) := by decide +kernel
theorem dJ7_rangeCheck_23922_22 : decode cJ7_rangeCheck_23922 22 = .ok (.invokevirtual 54, 3) := by decide +kernel
theorem dJ7_rangeCheck_23922_25 : decode cJ7_rangeCheck_23922 25 = .ok (.ldc 57, 2) := by decide +kernel
theorem dJ7_rangeCheck_23922_27 : decode cJ7_rangeCheck_23922 27 = .ok (.invokevirtual 50, 3) := by decide +kernel
theorem dJ7_rangeCheck_23922_30 : decode cJ7_rangeCheck_23922 30 = .ok (.iload_n 2, 1) := by decide +kernel
theorem dJ7_rangeCheck_23922_31 : decode cJ7_rangeCheck_23922 31 = .ok (.invokevirtual 54, 3) := by decide +kernel
theorem dJ7_rangeCheck_23922_34 : decode cJ7_rangeCheck_23922 34 = .ok (.ldc 59, 2) := by decide +kernel
theorem dJ7_rangeCheck_23922_36 : decode cJ7_rangeCheck_23922 36 = .ok (.invokevirtual 50, 3) := by decide +kernel
theorem dJ7_rangeCheck_23922_39 : decode cJ7_rangeCheck_23922 39 = .ok (.invokevirtual 61, 3) := by decide +kernel
theorem dJ7_rangeCheck_23922_42 : decode cJ7_rangeCheck_23922 42 = .ok (.invokespecial 65, 3) := by decide +kernel
theorem dJ7_rangeCheck_23922_45 : decode cJ7_rangeCheck_23922 45 = .ok (.athrow, 1) := by decide +kernel
theorem dJ7_rangeCheck_23922_46 : decode cJ7_rangeCheck_23922 46 = .ok (.iload_n 1, 1) := by decide +kernel
theorem dJ7_rangeCheck_23922_47 : decode cJ7_rangeCheck_23922 47 = .ok (.ifCond .ge 12, 3) := by decide +kernel
theorem dJ7_rangeCheck_23922_50 : decode cJ7_rangeCheck_23922 50 = .ok (.new 68, 3) := by decide +kernel
theorem dJ7_rangeCheck_23922_53 : decode cJ7_rangeCheck_23922 53 = .ok (.dup, 1) := by decide +kernel
theorem dJ7_rangeCheck_23922_54 : decode cJ7_rangeCheck_23922 54 = .ok (.iload_n 1, 1) := by decide +kernel
theorem dJ7_rangeCheck_23922_55 : decode cJ7_rangeCheck_23922 55 = .ok (.invokespecial 70, 3) := by decide +kernel
theorem dJ7_rangeCheck_23922_58 : decode cJ7_rangeCheck_23922 58 = .ok (.athrow, 1) := by decide +kernel
theorem dJ7_rangeCheck_23922_59 : decode cJ7_rangeCheck_23922 59 = .ok (.iload_n 2, 1) := by decide +kernel
theorem dJ7_rangeCheck_23922_60 : decode cJ7_rangeCheck_23922 60 = .ok (.iload_n 0, 1) := by decide +kernel
theorem dJ7_rangeCheck_23922_61 : decode cJ7_rangeCheck_23922 61 = .ok (.if_icmp .le 12, 3) := by decide +kernel
theorem dJ7_rangeCheck_23922_64 : decode cJ7_rangeCheck_23922 64 = .ok (.new 68, 3) := by decide +kernel
theorem dJ7_rangeCheck_23922_67 : decode cJ7_rangeCheck_23922 67 = .ok (.dup, 1) := by decide +kernel
theorem dJ7_rangeCheck_23922_68 : decode cJ7_rangeCheck_23922 68 = .ok (.iload_n 2, 1) := by decide +kernel
theorem dJ7_rangeCheck_23922_69 : decode cJ7_rangeCheck_23922 69 = .ok (.invokespecial 70, 3) := by decide +kernel
theorem dJ7_rangeCheck_23922_72 : decode cJ7_rangeCheck_23922 72 = .ok (.athrow, 1) := by decide +kernel
theorem dJ7_rangeCheck_23922_73 : decode cJ7_rangeCheck_23922 73 = .ok (.return_, 1) := by decide +kernel
theorem dJ7_fill_d0a16_0 : decode cJ7_fill_d0a16 0 = .ok (.iconst 0, 1) := by decide +kernel
theorem dJ7_fill_d0a16_1 : decode cJ7_fill_d0a16 1 = .ok (.istore_n 3, 1) := by decide +kernel
theorem dJ7_fill_d0a16_2 : decode cJ7_fill_d0a16 2 = .ok (.aload_n 0, 1) := by decide +kernel
theorem dJ7_fill_d0a16_3 : decode cJ7_fill_d0a16 3 = .ok (.arraylength, 1) := by decide +kernel
theorem dJ7_fill_d0a16_4 : decode cJ7_fill_d0a16 4 = .ok (.istore 4, 2) := by decide +kernel
theorem dJ7_fill_d0a16_6 : decode cJ7_fill_d0a16 6 = .ok (.iload_n 3, 1) := by decide +kernel
theorem dJ7_fill_d0a16_7 : decode cJ7_fill_d0a16 7 = .ok (.iload 4, 2) := by decide +kernel
theorem dJ7_fill_d0a16_9 : decode cJ7_fill_d0a16 9 = .ok (.if_icmp .ge 13, 3) := by decide +kernel
theorem dJ7_fill_d0a16_12 : decode cJ7_fill_d0a16 12 = .ok (.aload_n 0, 1) := by decide +kernel
theorem dJ7_fill_d0a16_13 : decode cJ7_fill_d0a16 13 = .ok (.iload_n 3, 1) := by decide +kernel
theorem dJ7_fill_d0a16_14 : decode cJ7_fill_d0a16 14 = .ok (.lload_n 1, 1) := by decide +kernel
theorem dJ7_fill_d0a16_15 : decode cJ7_fill_d0a16 15 = .ok (.lastore, 1) := by decide +kernel
theorem dJ7_fill_d0a16_16 : decode cJ7_fill_d0a16 16 = .ok (.iinc 3 1, 3) := by decide +kernel
theorem dJ7_fill_d0a16_19 : decode cJ7_fill_d0a16 19 = .ok (.goto (-13), 3) := by decide +kernel
theorem dJ7_fill_d0a16_22 : decode cJ7_fill_d0a16 22 = .ok (.return_, 1) := by decide +kernel
theorem dJ7_fill_bad5a_0 : decode cJ7_fill_bad5a 0 = .ok (.aload_n 0, 1) := by decide +kernel
theorem dJ7_fill_bad5a_1 : decode cJ7_fill_bad5a 1 = .ok (.arraylength, 1) := by decide +kernel
theorem dJ7_fill_bad5a_2 : decode cJ7_fill_bad5a 2 = .ok (.iload_n 1, 1) := by decide +kernel
theorem dJ7_fill_bad5a_3 : decode cJ7_fill_bad5a 3 = .ok (.iload_n 2, 1) := by decide +kernel
theorem dJ7_fill_bad5a_4 : decode cJ7_fill_bad5a 4 = .ok (.invokestatic 13, 3) := by decide +kernel
theorem dJ7_fill_bad5a_7 : decode cJ7_fill_bad5a 7 = .ok (.iload_n 1, 1) := by decide +kernel
theorem dJ7_fill_bad5a_8 : decode cJ7_fill_bad5a 8 = .ok (.istore 5, 2) := by decide +kernel
theorem dJ7_fill_bad5a_10 : decode cJ7_fill_bad5a 10 = .ok (.iload 5, 2) := by decide +kernel
theorem dJ7_fill_bad5a_12 : decode cJ7_fill_bad5a 12 = .ok (.iload_n 2, 1) := by decide +kernel
theorem dJ7_fill_bad5a_13 : decode cJ7_fill_bad5a 13 = .ok (.if_icmp .ge 14, 3) := by decide +kernel
theorem dJ7_fill_bad5a_16 : decode cJ7_fill_bad5a 16 = .ok (.aload_n 0, 1) := by decide +kernel
theorem dJ7_fill_bad5a_17 : decode cJ7_fill_bad5a 17 = .ok (.iload 5, 2) := by decide +kernel
theorem dJ7_fill_bad5a_19 : decode cJ7_fill_bad5a 19 = .ok (.lload_n 3, 1) := by decide +kernel
theorem dJ7_fill_bad5a_20 : decode cJ7_fill_bad5a 20 = .ok (.lastore, 1) := by decide +kernel
theorem dJ7_fill_bad5a_21 : decode cJ7_fill_bad5a 21 = .ok (.iinc 5 1, 3) := by decide +kernel
theorem dJ7_fill_bad5a_24 : decode cJ7_fill_bad5a 24 = .ok (.goto (-14), 3) := by decide +kernel
theorem dJ7_fill_bad5a_27 : decode cJ7_fill_bad5a 27 = .ok (.return_, 1) := by decide +kernel
theorem dJ7_fill_fda19_0 : decode cJ7_fill_fda19 0 = .ok (.aload_n 0, 1) := by decide +kernel
theorem dJ7_fill_fda19_1 : decode cJ7_fill_fda19 1 = .ok (.arraylength, 1) := by decide +kernel
theorem dJ7_fill_fda19_2 : decode cJ7_fill_fda19 2 = .ok (.iload_n 1, 1) := by decide +kernel
theorem dJ7_fill_fda19_3 : decode cJ7_fill_fda19 3 = .ok (.iload_n 2, 1) := by decide +kernel
theorem dJ7_fill_fda19_4 : decode cJ7_fill_fda19 4 = .ok (.invokestatic 13, 3) := by decide +kernel
theorem dJ7_fill_fda19_7 : decode cJ7_fill_fda19 7 = .ok (.iload_n 1, 1) := by decide +kernel
theorem dJ7_fill_fda19_8 : decode cJ7_fill_fda19 8 = .ok (.istore 4, 2) := by decide +kernel
theorem dJ7_fill_fda19_10 : decode cJ7_fill_fda19 10 = .ok (.iload 4, 2) := by decide +kernel
theorem dJ7_fill_fda19_12 : decode cJ7_fill_fda19 12 = .ok (.iload_n 2, 1) := by decide +kernel
theorem dJ7_fill_fda19_13 : decode cJ7_fill_fda19 13 = .ok (.if_icmp .ge 14, 3) := by decide +kernel
theorem dJ7_fill_fda19_16 : decode cJ7_fill_fda19 16 = .ok (.aload_n 0, 1) := by decide +kernel
theorem dJ7_fill_fda19_17 : decode cJ7_fill_fda19 17 = .ok (.iload 4, 2) := by decide +kernel
theorem dJ7_fill_fda19_19 : decode cJ7_fill_fda19 19 = .ok (.iload_n 3, 1) := by decide +kernel
theorem dJ7_fill_fda19_20 : decode cJ7_fill_fda19 20 = .ok (.iastore, 1) := by decide +kernel
theorem dJ7_fill_fda19_21 : decode cJ7_fill_fda19 21 = .ok (.iinc 4 1, 3) := by decide +kernel
theorem dJ7_fill_fda19_24 : decode cJ7_fill_fda19 24 = .ok (.goto (-14), 3) := by decide +kernel
theorem dJ7_fill_fda19_27 : decode cJ7_fill_fda19 27 = .ok (.return_, 1) := by decide +kernel
