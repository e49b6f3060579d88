theorem dL_cell_0 : decode cL_cell 0 = .ok (.iload_n 1, 1) := by decide +kernel
theorem dL_cell_1 : decode cL_cell 1 = .ok (.aload_n 0, 1) := by decide +kernel
theorem dL_cell_2 : decode cL_cell 2 = .ok (.arraylength, 1) := by decide +kernel
theorem dL_cell_3 : decode cL_cell 3 = .ok (.if_icmp .ge 9, 3) := by decide +kernel
theorem dL_cell_6 : decode cL_cell 6 = .ok (.aload_n 0, 1) := by decide +kernel
theorem dL_cell_7 : decode cL_cell 7 = .ok (.iload_n 1, 1) := by decide +kernel
theorem dL_cell_8 : decode cL_cell 8 = .ok (.iaload, 1) := by decide +kernel
theorem dL_cell_9 : decode cL_cell 9 = .ok (.goto 9, 3) := by decide +kernel
theorem dL_cell_12 : decode cL_cell 12 = .ok (.ldc 7, 2) := by decide +kernel
theorem dL_cell_14 : decode cL_cell 14 = .ok (.iload_n 1, 1) := by decide +kernel
theorem dL_cell_15 : decode cL_cell 15 = .ok (.iconst 1, 1) := by decide +kernel
theorem dL_cell_16 : decode cL_cell 16 = .ok (.iadd, 1) := by decide +kernel
theorem dL_cell_17 : decode cL_cell 17 = .ok (.imul, 1) := by decide +kernel
theorem dL_cell_18 : decode cL_cell 18 = .ok (.ireturn, 1) := by decide +kernel
theorem dL_low_0 : decode cL_low 0 = .ok (.iload_n 0, 1) := by decide +kernel
theorem dL_low_1 : decode cL_low 1 = .ok (.ldc 8, 2) := by decide +kernel
theorem dL_low_3 : decode cL_low 3 = .ok (.iand, 1) := by decide +kernel
theorem dL_low_4 : decode cL_low 4 = .ok (.iload_n 1, 1) := by decide +kernel
theorem dL_low_5 : decode cL_low 5 = .ok (.irem, 1) := by decide +kernel
theorem dL_low_6 : decode cL_low 6 = .ok (.ireturn, 1) := by decide +kernel
theorem dL_parsed_0 : decode cL_parsed 0 = .ok (.aload_n 0, 1) := by decide +kernel
theorem dL_parsed_1 : decode cL_parsed 1 = .ok (.invokevirtual 9, 3) := by decide +kernel
theorem dL_parsed_4 : decode cL_parsed 4 = .ok (.istore 4, 2) := by decide +kernel
theorem dL_parsed_6 : decode cL_parsed 6 = .ok (.bipush 56, 2) := by decide +kernel
theorem dL_parsed_8 : decode cL_parsed 8 = .ok (.istore 5, 2) := by decide +kernel
theorem dL_parsed_10 : decode cL_parsed 10 = .ok (.iload 5, 2) := by decide +kernel
theorem dL_parsed_12 : decode cL_parsed 12 = .ok (.ifCond .lt 43, 3) := by decide +kernel
theorem dL_parsed_15 : decode cL_parsed 15 = .ok (.iload 4, 2) := by decide +kernel
theorem dL_parsed_17 : decode cL_parsed 17 = .ok (.ifCond .lt 38, 3) := by decide +kernel
theorem dL_parsed_20 : decode cL_parsed 20 = .ok (.lload_n 1, 1) := by decide +kernel
theorem dL_parsed_21 : decode cL_parsed 21 = .ok (.iload 5, 2) := by decide +kernel
theorem dL_parsed_23 : decode cL_parsed 23 = .ok (.lshr, 1) := by decide +kernel
theorem dL_parsed_24 : decode cL_parsed 24 = .ok (.ldc2_w 15, 3) := by decide +kernel
theorem dL_parsed_27 : decode cL_parsed 27 = .ok (.land, 1) := by decide +kernel
theorem dL_parsed_28 : decode cL_parsed 28 = .ok (.l2i, 1) := by decide +kernel
theorem dL_parsed_29 : decode cL_parsed 29 = .ok (.istore 6, 2) := by decide +kernel
theorem dL_parsed_31 : decode cL_parsed 31 = .ok (.iload 6, 2) := by decide +kernel
theorem dL_parsed_33 : decode cL_parsed 33 = .ok (.ifCond .ne 8, 3) := by decide +kernel
theorem dL_parsed_36 : decode cL_parsed 36 = .ok (.iload 4, 2) := by decide +kernel
theorem dL_parsed_38 : decode cL_parsed 38 = .ok (.goto 9, 3) := by decide +kernel
theorem dL_parsed_41 : decode cL_parsed 41 = .ok (.aload_n 0, 1) := by decide +kernel
theorem dL_parsed_42 : decode cL_parsed 42 = .ok (.iload 6, 2) := by decide +kernel
theorem dL_parsed_44 : decode cL_parsed 44 = .ok (.invokevirtual 17, 3) := by decide +kernel
theorem dL_parsed_47 : decode cL_parsed 47 = .ok (.istore 4, 2) := by decide +kernel
theorem dL_parsed_49 : decode cL_parsed 49 = .ok (.iinc 5 (-8), 3) := by decide +kernel
theorem dL_parsed_52 : decode cL_parsed 52 = .ok (.goto (-42), 3) := by decide +kernel
theorem dL_parsed_55 : decode cL_parsed 55 = .ok (.aload_n 0, 1) := by decide +kernel
theorem dL_parsed_56 : decode cL_parsed 56 = .ok (.iload_n 3, 1) := by decide +kernel
theorem dL_parsed_57 : decode cL_parsed 57 = .ok (.invokevirtual 21, 3) := by decide +kernel
theorem dL_parsed_60 : decode cL_parsed 60 = .ok (.ireturn, 1) := by decide +kernel
theorem dL_letter_0 : decode cL_letter 0 = .ok (.bipush 112, 2) := by decide +kernel
theorem dL_letter_2 : decode cL_letter 2 = .ok (.iload_n 0, 1) := by decide +kernel
theorem dL_letter_3 : decode cL_letter 3 = .ok (.iadd, 1) := by decide +kernel
theorem dL_letter_4 : decode cL_letter 4 = .ok (.i2l, 1) := by decide +kernel
theorem dL_letter_5 : decode cL_letter 5 = .ok (.lreturn, 1) := by decide +kernel
theorem dL_filled_0 : decode cL_filled 0 = .ok (.lconst 0, 1) := by decide +kernel
theorem dL_filled_1 : decode cL_filled 1 = .ok (.lstore 5, 2) := by decide +kernel
theorem dL_filled_3 : decode cL_filled 3 = .ok (.bipush 56, 2) := by decide +kernel
theorem dL_filled_5 : decode cL_filled 5 = .ok (.istore 7, 2) := by decide +kernel
theorem dL_filled_7 : decode cL_filled 7 = .ok (.iload 7, 2) := by decide +kernel
theorem dL_filled_9 : decode cL_filled 9 = .ok (.ifCond .lt 78, 3) := by decide +kernel
theorem dL_filled_12 : decode cL_filled 12 = .ok (.lload_n 0, 1) := by decide +kernel
theorem dL_filled_13 : decode cL_filled 13 = .ok (.iload 7, 2) := by decide +kernel
theorem dL_filled_15 : decode cL_filled 15 = .ok (.lshr, 1) := by decide +kernel
theorem dL_filled_16 : decode cL_filled 16 = .ok (.ldc2_w 15, 3) := by decide +kernel
theorem dL_filled_19 : decode cL_filled 19 = .ok (.land, 1) := by decide +kernel
theorem dL_filled_20 : decode cL_filled 20 = .ok (.lstore 8, 2) := by decide +kernel
theorem dL_filled_22 : decode cL_filled 22 = .ok (.lload 5, 2) := by decide +kernel
theorem dL_filled_24 : decode cL_filled 24 = .ok (.bipush 8, 2) := by decide +kernel
theorem dL_filled_26 : decode cL_filled 26 = .ok (.lshl, 1) := by decide +kernel
theorem dL_filled_27 : decode cL_filled 27 = .ok (.lload 8, 2) := by decide +kernel
theorem dL_filled_29 : decode cL_filled 29 = .ok (.ldc2_w 24, 3) := by decide +kernel
theorem dL_filled_32 : decode cL_filled 32 = .ok (.lcmp, 1) := by decide +kernel
theorem dL_filled_33 : decode cL_filled 33 = .ok (.ifCond .ne 10, 3) := by decide +kernel
theorem dL_filled_36 : decode cL_filled 36 = .ok (.iload_n 2, 1) := by decide +kernel
theorem dL_filled_37 : decode cL_filled 37 = .ok (.invokestatic 26, 3) := by decide +kernel
theorem dL_filled_40 : decode cL_filled 40 = .ok (.goto 38, 3) := by decide +kernel
theorem dL_filled_43 : decode cL_filled 43 = .ok (.lload 8, 2) := by decide +kernel
theorem dL_filled_45 : decode cL_filled 45 = .ok (.ldc2_w 32, 3) := by decide +kernel
theorem dL_filled_48 : decode cL_filled 48 = .ok (.lcmp, 1) := by decide +kernel
theorem dL_filled_49 : decode cL_filled 49 = .ok (.ifCond .ne 10, 3) := by decide +kernel
theorem dL_filled_52 : decode cL_filled 52 = .ok (.iload_n 3, 1) := by decide +kernel
theorem dL_filled_53 : decode cL_filled 53 = .ok (.invokestatic 26, 3) := by decide +kernel
theorem dL_filled_56 : decode cL_filled 56 = .ok (.goto 22, 3) := by decide +kernel
theorem dL_filled_59 : decode cL_filled 59 = .ok (.lload 8, 2) := by decide +kernel
theorem dL_filled_61 : decode cL_filled 61 = .ok (.ldc2_w 34, 3) := by decide +kernel
theorem dL_filled_64 : decode cL_filled 64 = .ok (.lcmp, 1) := by decide +kernel
theorem dL_filled_65 : decode cL_filled 65 = .ok (.ifCond .ne 11, 3) := by decide +kernel
theorem dL_filled_68 : decode cL_filled 68 = .ok (.iload 4, 2) := by decide +kernel
theorem dL_filled_70 : decode cL_filled 70 = .ok (.invokestatic 26, 3) := by decide +kernel
theorem dL_filled_73 : decode cL_filled 73 = .ok (.goto 5, 3) := by decide +kernel
theorem dL_filled_76 : decode cL_filled 76 = .ok (.lload 8, 2) := by decide +kernel
theorem dL_filled_78 : decode cL_filled 78 = .ok (.lor, 1) := by decide +kernel
theorem dL_filled_79 : decode cL_filled 79 = .ok (.lstore 5, 2) := by decide +kernel
theorem dL_filled_81 : decode cL_filled 81 = .ok (.iinc 7 (-8), 3) := by decide +kernel
theorem dL_filled_84 : decode cL_filled 84 = .ok (.goto (-77), 3) := by decide +kernel
theorem dL_filled_87 : decode cL_filled 87 = .ok (.lload 5, 2) := by decide +kernel
theorem dL_filled_89 : decode cL_filled 89 = .ok (.lreturn, 1) := by decide +kernel
theorem dL_ones_0 : decode cL_ones 0 = .ok (.iconst 0, 1) := by decide +kernel
theorem dL_ones_1 : decode cL_ones 1 = .ok (.istore_n 2, 1) := by decide +kernel
theorem dL_ones_2 : decode cL_ones 2 = .ok (.lload_n 0, 1) := by decide +kernel
theorem dL_ones_3 : decode cL_ones 3 = .ok (.lstore_n 3, 1) := by decide +kernel
theorem dL_ones_4 : decode cL_ones 4 = .ok (.lload_n 3, 1) := by decide +kernel
theorem dL_ones_5 : decode cL_ones 5 = .ok (.lconst 0, 1) := by decide +kernel
theorem dL_ones_6 : decode cL_ones 6 = .ok (.lcmp, 1) := by decide +kernel
theorem dL_ones_7 : decode cL_ones 7 = .ok (.ifCond .eq 15, 3) := by decide +kernel
theorem dL_ones_10 : decode cL_ones 10 = .ok (.iinc 2 1, 3) := by decide +kernel
theorem dL_ones_13 : decode cL_ones 13 = .ok (.lload_n 3, 1) := by decide +kernel
theorem dL_ones_14 : decode cL_ones 14 = .ok (.lload_n 3, 1) := by decide +kernel
theorem dL_ones_15 : decode cL_ones 15 = .ok (.lconst 1, 1) := by decide +kernel
theorem dL_ones_16 : decode cL_ones 16 = .ok (.lsub, 1) := by decide +kernel
theorem dL_ones_17 : decode cL_ones 17 = .ok (.land, 1) := by decide +kernel
theorem dL_ones_18 : decode cL_ones 18 = .ok (.lstore_n 3, 1) := by decide +kernel
theorem dL_ones_19 : decode cL_ones 19 = .ok (.goto (-15), 3) := by decide +kernel
theorem dL_ones_22 : decode cL_ones 22 = .ok (.iload_n 2, 1) := by decide +kernel
theorem dL_ones_23 : decode cL_ones 23 = .ok (.ireturn, 1) := by decide +kernel
theorem dL_print_0 : decode cL_print 0 = .ok (.ldc2_w 36, 3) := by decide +kernel
theorem dL_print_3 : decode cL_print 3 = .ok (.lstore_n 1, 1) := by decide +kernel
theorem dL_print_4 : decode cL_print 4 = .ok (.iconst 0, 1) := by decide +kernel
theorem dL_print_5 : decode cL_print 5 = .ok (.istore_n 3, 1) := by decide +kernel
theorem dL_print_6 : decode cL_print 6 = .ok (.iload_n 3, 1) := by decide +kernel
theorem dL_print_7 : decode cL_print 7 = .ok (.iconst 4, 1) := by decide +kernel
theorem dL_print_8 : decode cL_print 8 = .ok (.if_icmp .ge 72, 3) := by decide +kernel
theorem dL_print_11 : decode cL_print 11 = .ok (.ldc2_w 38, 3) := by decide +kernel
theorem dL_print_14 : decode cL_print 14 = .ok (.ldc2_w 38, 3) := by decide +kernel
theorem dL_print_17 : decode cL_print 17 = .ok (.lload_n 1, 1) := by decide +kernel
theorem dL_print_18 : decode cL_print 18 = .ok (.lmul, 1) := by decide +kernel
theorem dL_print_19 : decode cL_print 19 = .ok (.aload_n 0, 1) := by decide +kernel
theorem dL_print_20 : decode cL_print 20 = .ok (.iload_n 3, 1) := by decide +kernel
theorem dL_print_21 : decode cL_print 21 = .ok (.invokevirtual 40, 3) := by decide +kernel
theorem dL_print_24 : decode cL_print 24 = .ok (.i2l, 1) := by decide +kernel
theorem dL_print_25 : decode cL_print 25 = .ok (.ladd, 1) := by decide +kernel
theorem dL_print_26 : decode cL_print 26 = .ok (.lmul, 1) := by decide +kernel
theorem dL_print_27 : decode cL_print 27 = .ok (.aload_n 0, 1) := by decide +kernel
theorem dL_print_28 : decode cL_print 28 = .ok (.iload_n 3, 1) := by decide +kernel
theorem dL_print_29 : decode cL_print 29 = .ok (.invokevirtual 43, 3) := by decide +kernel
theorem dL_print_32 : decode cL_print 32 = .ok (.i2l, 1) := by decide +kernel
theorem dL_print_33 : decode cL_print 33 = .ok (.ladd, 1) := by decide +kernel
theorem dL_print_34 : decode cL_print 34 = .ok (.lstore_n 1, 1) := by decide +kernel
theorem dL_print_35 : decode cL_print 35 = .ok (.aload_n 0, 1) := by decide +kernel
theorem dL_print_36 : decode cL_print 36 = .ok (.iload_n 3, 1) := by decide +kernel
theorem dL_print_37 : decode cL_print 37 = .ok (.iconst (-1), 1) := by decide +kernel
theorem dL_print_38 : decode cL_print 38 = .ok (.invokevirtual 46, 3) := by decide +kernel
theorem dL_print_41 : decode cL_print 41 = .ok (.istore 4, 2) := by decide +kernel
theorem dL_print_43 : decode cL_print 43 = .ok (.iconst 0, 1) := by decide +kernel
theorem dL_print_44 : decode cL_print 44 = .ok (.istore 5, 2) := by decide +kernel
theorem dL_print_46 : decode cL_print 46 = .ok (.iload 5, 2) := by decide +kernel
theorem dL_print_48 : decode cL_print 48 = .ok (.iload 4, 2) := by decide +kernel
theorem dL_print_50 : decode cL_print 50 = .ok (.if_icmp .ge 24, 3) := by decide +kernel
theorem dL_print_53 : decode cL_print 53 = .ok (.ldc2_w 38, 3) := by decide +kernel
theorem dL_print_56 : decode cL_print 56 = .ok (.lload_n 1, 1) := by decide +kernel
theorem dL_print_57 : decode cL_print 57 = .ok (.lmul, 1) := by decide +kernel
theorem dL_print_58 : decode cL_print 58 = .ok (.aload_n 0, 1) := by decide +kernel
theorem dL_print_59 : decode cL_print 59 = .ok (.iload_n 3, 1) := by decide +kernel
theorem dL_print_60 : decode cL_print 60 = .ok (.iload 5, 2) := by decide +kernel
theorem dL_print_62 : decode cL_print 62 = .ok (.invokevirtual 46, 3) := by decide +kernel
theorem dL_print_65 : decode cL_print 65 = .ok (.i2l, 1) := by decide +kernel
theorem dL_print_66 : decode cL_print 66 = .ok (.ladd, 1) := by decide +kernel
theorem dL_print_67 : decode cL_print 67 = .ok (.lstore_n 1, 1) := by decide +kernel
theorem dL_print_68 : decode cL_print 68 = .ok (.iinc 5 1, 3) := by decide +kernel
theorem dL_print_71 : decode cL_print 71 = .ok (.goto (-25), 3) := by decide +kernel
theorem dL_print_74 : decode cL_print 74 = .ok (.iinc 3 1, 3) := by decide +kernel
theorem dL_print_77 : decode cL_print 77 = .ok (.goto (-71), 3) := by decide +kernel
theorem dL_print_80 : decode cL_print 80 = .ok (.lload_n 1, 1) := by decide +kernel
theorem dL_print_81 : decode cL_print 81 = .ok (.lreturn, 1) := by decide +kernel
theorem dL_isJoined_0 : decode cL_isJoined 0 = .ok (.aload_n 0, 1) := by decide +kernel
theorem dL_isJoined_1 : decode cL_isJoined 1 = .ok (.invokestatic 50, 3) := by decide +kernel
theorem dL_isJoined_4 : decode cL_isJoined 4 = .ok (.lstore 5, 2) := by decide +kernel
theorem dL_isJoined_6 : decode cL_isJoined 6 = .ok (.aload_n 0, 1) := by decide +kernel
theorem dL_isJoined_7 : decode cL_isJoined 7 = .ok (.iload_n 2, 1) := by decide +kernel
theorem dL_isJoined_8 : decode cL_isJoined 8 = .ok (.iload 4, 2) := by decide +kernel
theorem dL_isJoined_10 : decode cL_isJoined 10 = .ok (.invokevirtual 54, 3) := by decide +kernel
theorem dL_isJoined_13 : decode cL_isJoined 13 = .ok (.lstore 7, 2) := by decide +kernel
theorem dL_isJoined_15 : decode cL_isJoined 15 = .ok (.iload_n 1, 1) := by decide +kernel
theorem dL_isJoined_16 : decode cL_isJoined 16 = .ok (.ifCond .ne 16, 3) := by decide +kernel
theorem dL_isJoined_19 : decode cL_isJoined 19 = .ok (.lload 7, 2) := by decide +kernel
theorem dL_isJoined_21 : decode cL_isJoined 21 = .ok (.aload_n 0, 1) := by decide +kernel
theorem dL_isJoined_22 : decode cL_isJoined 22 = .ok (.iload_n 3, 1) := by decide +kernel
theorem dL_isJoined_23 : decode cL_isJoined 23 = .ok (.iload 4, 2) := by decide +kernel
theorem dL_isJoined_25 : decode cL_isJoined 25 = .ok (.invokevirtual 54, 3) := by decide +kernel
theorem dL_isJoined_28 : decode cL_isJoined 28 = .ok (.lor, 1) := by decide +kernel
theorem dL_isJoined_29 : decode cL_isJoined 29 = .ok (.goto 4, 3) := by decide +kernel
theorem dL_isJoined_32 : decode cL_isJoined 32 = .ok (.lconst 0, 1) := by decide +kernel
theorem dL_isJoined_33 : decode cL_isJoined 33 = .ok (.lstore 9, 2) := by decide +kernel
theorem dL_isJoined_35 : decode cL_isJoined 35 = .ok (.iconst 0, 1) := by decide +kernel
theorem dL_isJoined_36 : decode cL_isJoined 36 = .ok (.istore 11, 2) := by decide +kernel
theorem dL_isJoined_38 : decode cL_isJoined 38 = .ok (.iload 11, 2) := by decide +kernel
theorem dL_isJoined_40 : decode cL_isJoined 40 = .ok (.bipush 64, 2) := by decide +kernel
theorem dL_isJoined_42 : decode cL_isJoined 42 = .ok (.if_icmp .ge 42, 3) := by decide +kernel
theorem dL_isJoined_45 : decode cL_isJoined 45 = .ok (.iload_n 1, 1) := by decide +kernel
theorem dL_isJoined_46 : decode cL_isJoined 46 = .ok (.iconst 1, 1) := by decide +kernel
theorem dL_isJoined_47 : decode cL_isJoined 47 = .ok (.if_icmp .ne 37, 3) := by decide +kernel
theorem dL_isJoined_50 : decode cL_isJoined 50 = .ok (.lload 9, 2) := by decide +kernel
theorem dL_isJoined_52 : decode cL_isJoined 52 = .ok (.lload 7, 2) := by decide +kernel
theorem dL_isJoined_54 : decode cL_isJoined 54 = .ok (.iload 11, 2) := by decide +kernel
theorem dL_isJoined_56 : decode cL_isJoined 56 = .ok (.lshr, 1) := by decide +kernel
theorem dL_isJoined_57 : decode cL_isJoined 57 = .ok (.lconst 1, 1) := by decide +kernel
theorem dL_isJoined_58 : decode cL_isJoined 58 = .ok (.land, 1) := by decide +kernel
theorem dL_isJoined_59 : decode cL_isJoined 59 = .ok (.lconst 1, 1) := by decide +kernel
theorem dL_isJoined_60 : decode cL_isJoined 60 = .ok (.lcmp, 1) := by decide +kernel
theorem dL_isJoined_61 : decode cL_isJoined 61 = .ok (.ifCond .ne 13, 3) := by decide +kernel
theorem dL_isJoined_64 : decode cL_isJoined 64 = .ok (.aload_n 0, 1) := by decide +kernel
theorem dL_isJoined_65 : decode cL_isJoined 65 = .ok (.iload_n 3, 1) := by decide +kernel
theorem dL_isJoined_66 : decode cL_isJoined 66 = .ok (.iload 11, 2) := by decide +kernel
theorem dL_isJoined_68 : decode cL_isJoined 68 = .ok (.invokevirtual 54, 3) := by decide +kernel
theorem dL_isJoined_71 : decode cL_isJoined 71 = .ok (.goto 4, 3) := by decide +kernel
theorem dL_isJoined_74 : decode cL_isJoined 74 = .ok (.lconst 0, 1) := by decide +kernel
theorem dL_isJoined_75 : decode cL_isJoined 75 = .ok (.lor, 1) := by decide +kernel
theorem dL_isJoined_76 : decode cL_isJoined 76 = .ok (.lstore 9, 2) := by decide +kernel
theorem dL_isJoined_78 : decode cL_isJoined 78 = .ok (.iinc 11 1, 3) := by decide +kernel
theorem dL_isJoined_81 : decode cL_isJoined 81 = .ok (.goto (-43), 3) := by decide +kernel
theorem dL_isJoined_84 : decode cL_isJoined 84 = .ok (.aload_n 0, 1) := by decide +kernel
theorem dL_isJoined_85 : decode cL_isJoined 85 = .ok (.iload_n 2, 1) := by decide +kernel
theorem dL_isJoined_86 : decode cL_isJoined 86 = .ok (.invokevirtual 40, 3) := by decide +kernel
theorem dL_isJoined_89 : decode cL_isJoined 89 = .ok (.aload_n 0, 1) := by decide +kernel
theorem dL_isJoined_90 : decode cL_isJoined 90 = .ok (.iload_n 3, 1) := by decide +kernel
theorem dL_isJoined_91 : decode cL_isJoined 91 = .ok (.invokevirtual 40, 3) := by decide +kernel
theorem dL_isJoined_94 : decode cL_isJoined 94 = .ok (.iadd, 1) := by decide +kernel
theorem dL_isJoined_95 : decode cL_isJoined 95 = .ok (.iconst 1, 1) := by decide +kernel
theorem dL_isJoined_96 : decode cL_isJoined 96 = .ok (.iadd, 1) := by decide +kernel
theorem dL_isJoined_97 : decode cL_isJoined 97 = .ok (.istore 11, 2) := by decide +kernel
theorem dL_isJoined_99 : decode cL_isJoined 99 = .ok (.aload_n 0, 1) := by decide +kernel
theorem dL_isJoined_100 : decode cL_isJoined 100 = .ok (.iload_n 2, 1) := by decide +kernel
theorem dL_isJoined_101 : decode cL_isJoined 101 = .ok (.invokevirtual 43, 3) := by decide +kernel
theorem dL_isJoined_104 : decode cL_isJoined 104 = .ok (.aload_n 0, 1) := by decide +kernel
theorem dL_isJoined_105 : decode cL_isJoined 105 = .ok (.iload_n 3, 1) := by decide +kernel
theorem dL_isJoined_106 : decode cL_isJoined 106 = .ok (.invokevirtual 43, 3) := by decide +kernel
theorem dL_isJoined_109 : decode cL_isJoined 109 = .ok (.iadd, 1) := by decide +kernel
theorem dL_isJoined_110 : decode cL_isJoined 110 = .ok (.iconst 2, 1) := by decide +kernel
theorem dL_isJoined_111 : decode cL_isJoined 111 = .ok (.if_icmp .ne 7, 3) := by decide +kernel
theorem dL_isJoined_114 : decode cL_isJoined 114 = .ok (.iconst 1, 1) := by decide +kernel
theorem dL_isJoined_115 : decode cL_isJoined 115 = .ok (.goto 4, 3) := by decide +kernel
theorem dL_isJoined_118 : decode cL_isJoined 118 = .ok (.iconst 0, 1) := by decide +kernel
theorem dL_isJoined_119 : decode cL_isJoined 119 = .ok (.istore 12, 2) := by decide +kernel
theorem dL_isJoined_121 : decode cL_isJoined 121 = .ok (.aload_n 0, 1) := by decide +kernel
theorem dL_isJoined_122 : decode cL_isJoined 122 = .ok (.iload_n 1, 1) := by decide +kernel
theorem dL_isJoined_123 : decode cL_isJoined 123 = .ok (.iload_n 2, 1) := by decide +kernel
theorem dL_isJoined_124 : decode cL_isJoined 124 = .ok (.iload_n 3, 1) := by decide +kernel
theorem dL_isJoined_125 : decode cL_isJoined 125 = .ok (.iconst 3, 1) := by decide +kernel
theorem dL_isJoined_126 : decode cL_isJoined 126 = .ok (.invokevirtual 58, 3) := by decide +kernel
theorem dL_isJoined_129 : decode cL_isJoined 129 = .ok (.istore 13, 2) := by decide +kernel
theorem dL_isJoined_131 : decode cL_isJoined 131 = .ok (.iload 11, 2) := by decide +kernel
theorem dL_isJoined_133 : decode cL_isJoined 133 = .ok (.bipush 60, 2) := by decide +kernel
theorem dL_isJoined_135 : decode cL_isJoined 135 = .ok (.if_icmp .le 26, 3) := by decide +kernel
theorem dL_isJoined_138 : decode cL_isJoined 138 = .ok (.iload 13, 2) := by decide +kernel
theorem dL_isJoined_140 : decode cL_isJoined 140 = .ok (.bipush (-4), 2) := by decide +kernel
theorem dL_isJoined_142 : decode cL_isJoined 142 = .ok (.if_icmp .ne 17, 3) := by decide +kernel
theorem dL_isJoined_145 : decode cL_isJoined 145 = .ok (.aload_n 0, 1) := by decide +kernel
theorem dL_isJoined_146 : decode cL_isJoined 146 = .ok (.invokestatic 50, 3) := by decide +kernel
theorem dL_isJoined_149 : decode cL_isJoined 149 = .ok (.lload 5, 2) := by decide +kernel
theorem dL_isJoined_151 : decode cL_isJoined 151 = .ok (.lcmp, 1) := by decide +kernel
theorem dL_isJoined_152 : decode cL_isJoined 152 = .ok (.ifCond .ne 7, 3) := by decide +kernel
theorem dL_isJoined_155 : decode cL_isJoined 155 = .ok (.iconst 1, 1) := by decide +kernel
theorem dL_isJoined_156 : decode cL_isJoined 156 = .ok (.goto 4, 3) := by decide +kernel
theorem dL_isJoined_159 : decode cL_isJoined 159 = .ok (.iconst 0, 1) := by decide +kernel
theorem dL_isJoined_160 : decode cL_isJoined 160 = .ok (.ireturn, 1) := by decide +kernel
theorem dL_isJoined_161 : decode cL_isJoined 161 = .ok (.iload 13, 2) := by decide +kernel
theorem dL_isJoined_163 : decode cL_isJoined 163 = .ok (.iload 11, 2) := by decide +kernel
theorem dL_isJoined_165 : decode cL_isJoined 165 = .ok (.if_icmp .ne 55, 3) := by decide +kernel
theorem dL_isJoined_168 : decode cL_isJoined 168 = .ok (.aload_n 0, 1) := by decide +kernel
theorem dL_isJoined_169 : decode cL_isJoined 169 = .ok (.iconst 3, 1) := by decide +kernel
theorem dL_isJoined_170 : decode cL_isJoined 170 = .ok (.iload 4, 2) := by decide +kernel
theorem dL_isJoined_172 : decode cL_isJoined 172 = .ok (.invokevirtual 54, 3) := by decide +kernel
theorem dL_isJoined_175 : decode cL_isJoined 175 = .ok (.lload 9, 2) := by decide +kernel
theorem dL_isJoined_177 : decode cL_isJoined 177 = .ok (.lcmp, 1) := by decide +kernel
theorem dL_isJoined_178 : decode cL_isJoined 178 = .ok (.ifCond .ne 42, 3) := by decide +kernel
theorem dL_isJoined_181 : decode cL_isJoined 181 = .ok (.aload_n 0, 1) := by decide +kernel
theorem dL_isJoined_182 : decode cL_isJoined 182 = .ok (.iconst 3, 1) := by decide +kernel
theorem dL_isJoined_183 : decode cL_isJoined 183 = .ok (.invokevirtual 43, 3) := by decide +kernel
theorem dL_isJoined_186 : decode cL_isJoined 186 = .ok (.iload 12, 2) := by decide +kernel
theorem dL_isJoined_188 : decode cL_isJoined 188 = .ok (.ifCond .eq 7, 3) := by decide +kernel
theorem dL_isJoined_191 : decode cL_isJoined 191 = .ok (.iconst 1, 1) := by decide +kernel
theorem dL_isJoined_192 : decode cL_isJoined 192 = .ok (.goto 4, 3) := by decide +kernel
theorem dL_isJoined_195 : decode cL_isJoined 195 = .ok (.iconst 0, 1) := by decide +kernel
theorem dL_isJoined_196 : decode cL_isJoined 196 = .ok (.if_icmp .ne 24, 3) := by decide +kernel
theorem dL_isJoined_199 : decode cL_isJoined 199 = .ok (.aload_n 0, 1) := by decide +kernel
theorem dL_isJoined_200 : decode cL_isJoined 200 = .ok (.invokevirtual 62, 3) := by decide +kernel
theorem dL_isJoined_203 : decode cL_isJoined 203 = .ok (.ifCond .lt 17, 3) := by decide +kernel
theorem dL_isJoined_206 : decode cL_isJoined 206 = .ok (.aload_n 0, 1) := by decide +kernel
theorem dL_isJoined_207 : decode cL_isJoined 207 = .ok (.invokestatic 50, 3) := by decide +kernel
theorem dL_isJoined_210 : decode cL_isJoined 210 = .ok (.lload 5, 2) := by decide +kernel
theorem dL_isJoined_212 : decode cL_isJoined 212 = .ok (.lcmp, 1) := by decide +kernel
theorem dL_isJoined_213 : decode cL_isJoined 213 = .ok (.ifCond .ne 7, 3) := by decide +kernel
theorem dL_isJoined_216 : decode cL_isJoined 216 = .ok (.iconst 1, 1) := by decide +kernel
theorem dL_isJoined_217 : decode cL_isJoined 217 = .ok (.goto 4, 3) := by decide +kernel
theorem dL_isJoined_220 : decode cL_isJoined 220 = .ok (.iconst 0, 1) := by decide +kernel
theorem dL_isJoined_221 : decode cL_isJoined 221 = .ok (.ireturn, 1) := by decide +kernel
theorem dL_isChanged_0 : decode cL_isChanged 0 = .ok (.aload_n 0, 1) := by decide +kernel
theorem dL_isChanged_1 : decode cL_isChanged 1 = .ok (.invokestatic 50, 3) := by decide +kernel
theorem dL_isChanged_4 : decode cL_isChanged 4 = .ok (.lstore_n 3, 1) := by decide +kernel
theorem dL_isChanged_5 : decode cL_isChanged 5 = .ok (.aload_n 0, 1) := by decide +kernel
theorem dL_isChanged_6 : decode cL_isChanged 6 = .ok (.iload_n 1, 1) := by decide +kernel
theorem dL_isChanged_7 : decode cL_isChanged 7 = .ok (.iload_n 2, 1) := by decide +kernel
theorem dL_isChanged_8 : decode cL_isChanged 8 = .ok (.invokevirtual 54, 3) := by decide +kernel
theorem dL_isChanged_11 : decode cL_isChanged 11 = .ok (.lstore 5, 2) := by decide +kernel
theorem dL_isChanged_13 : decode cL_isChanged 13 = .ok (.aload_n 0, 1) := by decide +kernel
theorem dL_isChanged_14 : decode cL_isChanged 14 = .ok (.iload_n 1, 1) := by decide +kernel
theorem dL_isChanged_15 : decode cL_isChanged 15 = .ok (.invokevirtual 40, 3) := by decide +kernel
theorem dL_isChanged_18 : decode cL_isChanged 18 = .ok (.iconst 1, 1) := by decide +kernel
theorem dL_isChanged_19 : decode cL_isChanged 19 = .ok (.iadd, 1) := by decide +kernel
theorem dL_isChanged_20 : decode cL_isChanged 20 = .ok (.istore 7, 2) := by decide +kernel
theorem dL_isChanged_22 : decode cL_isChanged 22 = .ok (.aload_n 0, 1) := by decide +kernel
theorem dL_isChanged_23 : decode cL_isChanged 23 = .ok (.iload_n 1, 1) := by decide +kernel
theorem dL_isChanged_24 : decode cL_isChanged 24 = .ok (.invokevirtual 43, 3) := by decide +kernel
theorem dL_isChanged_27 : decode cL_isChanged 27 = .ok (.iconst 1, 1) := by decide +kernel
theorem dL_isChanged_28 : decode cL_isChanged 28 = .ok (.if_icmp .ne 7, 3) := by decide +kernel
theorem dL_isChanged_31 : decode cL_isChanged 31 = .ok (.iconst 1, 1) := by decide +kernel
theorem dL_isChanged_32 : decode cL_isChanged 32 = .ok (.goto 4, 3) := by decide +kernel
theorem dL_isChanged_35 : decode cL_isChanged 35 = .ok (.iconst 0, 1) := by decide +kernel
theorem dL_isChanged_36 : decode cL_isChanged 36 = .ok (.istore 8, 2) := by decide +kernel
theorem dL_isChanged_38 : decode cL_isChanged 38 = .ok (.aload_n 0, 1) := by decide +kernel
theorem dL_isChanged_39 : decode cL_isChanged 39 = .ok (.iconst 1, 1) := by decide +kernel
theorem dL_isChanged_40 : decode cL_isChanged 40 = .ok (.iload_n 1, 1) := by decide +kernel
theorem dL_isChanged_41 : decode cL_isChanged 41 = .ok (.iconst 3, 1) := by decide +kernel
theorem dL_isChanged_42 : decode cL_isChanged 42 = .ok (.invokevirtual 65, 3) := by decide +kernel
theorem dL_isChanged_45 : decode cL_isChanged 45 = .ok (.istore 9, 2) := by decide +kernel
theorem dL_isChanged_47 : decode cL_isChanged 47 = .ok (.iload 8, 2) := by decide +kernel
theorem dL_isChanged_49 : decode cL_isChanged 49 = .ok (.ifCond .ne 18, 3) := by decide +kernel
theorem dL_isChanged_52 : decode cL_isChanged 52 = .ok (.iload 9, 2) := by decide +kernel
theorem dL_isChanged_54 : decode cL_isChanged 54 = .ok (.bipush (-3), 2) := by decide +kernel
theorem dL_isChanged_56 : decode cL_isChanged 56 = .ok (.if_icmp .ne 7, 3) := by decide +kernel
theorem dL_isChanged_59 : decode cL_isChanged 59 = .ok (.iconst 1, 1) := by decide +kernel
theorem dL_isChanged_60 : decode cL_isChanged 60 = .ok (.goto 81, 3) := by decide +kernel
theorem dL_isChanged_63 : decode cL_isChanged 63 = .ok (.iconst 0, 1) := by decide +kernel
theorem dL_isChanged_64 : decode cL_isChanged 64 = .ok (.goto 77, 3) := by decide +kernel
theorem dL_isChanged_67 : decode cL_isChanged 67 = .ok (.iload 7, 2) := by decide +kernel
theorem dL_isChanged_69 : decode cL_isChanged 69 = .ok (.bipush 60, 2) := by decide +kernel
theorem dL_isChanged_71 : decode cL_isChanged 71 = .ok (.if_icmp .le 18, 3) := by decide +kernel
theorem dL_isChanged_74 : decode cL_isChanged 74 = .ok (.iload 9, 2) := by decide +kernel
theorem dL_isChanged_76 : decode cL_isChanged 76 = .ok (.bipush (-4), 2) := by decide +kernel
theorem dL_isChanged_78 : decode cL_isChanged 78 = .ok (.if_icmp .ne 7, 3) := by decide +kernel
theorem dL_isChanged_81 : decode cL_isChanged 81 = .ok (.iconst 1, 1) := by decide +kernel
theorem dL_isChanged_82 : decode cL_isChanged 82 = .ok (.goto 59, 3) := by decide +kernel
theorem dL_isChanged_85 : decode cL_isChanged 85 = .ok (.iconst 0, 1) := by decide +kernel
theorem dL_isChanged_86 : decode cL_isChanged 86 = .ok (.goto 55, 3) := by decide +kernel
theorem dL_isChanged_89 : decode cL_isChanged 89 = .ok (.iload 9, 2) := by decide +kernel
theorem dL_isChanged_91 : decode cL_isChanged 91 = .ok (.iload 7, 2) := by decide +kernel
theorem dL_isChanged_93 : decode cL_isChanged 93 = .ok (.if_icmp .ne 47, 3) := by decide +kernel
theorem dL_isChanged_96 : decode cL_isChanged 96 = .ok (.aload_n 0, 1) := by decide +kernel
theorem dL_isChanged_97 : decode cL_isChanged 97 = .ok (.iconst 3, 1) := by decide +kernel
theorem dL_isChanged_98 : decode cL_isChanged 98 = .ok (.invokevirtual 43, 3) := by decide +kernel
theorem dL_isChanged_101 : decode cL_isChanged 101 = .ok (.iconst 1, 1) := by decide +kernel
theorem dL_isChanged_102 : decode cL_isChanged 102 = .ok (.if_icmp .ne 38, 3) := by decide +kernel
theorem dL_isChanged_105 : decode cL_isChanged 105 = .ok (.aload_n 0, 1) := by decide +kernel
theorem dL_isChanged_106 : decode cL_isChanged 106 = .ok (.iconst 3, 1) := by decide +kernel
theorem dL_isChanged_107 : decode cL_isChanged 107 = .ok (.iload_n 2, 1) := by decide +kernel
theorem dL_isChanged_108 : decode cL_isChanged 108 = .ok (.invokevirtual 54, 3) := by decide +kernel
theorem dL_isChanged_111 : decode cL_isChanged 111 = .ok (.lload 5, 2) := by decide +kernel
theorem dL_isChanged_113 : decode cL_isChanged 113 = .ok (.lconst 0, 1) := by decide +kernel
theorem dL_isChanged_114 : decode cL_isChanged 114 = .ok (.lcmp, 1) := by decide +kernel
theorem dL_isChanged_115 : decode cL_isChanged 115 = .ok (.ifCond .ne 9, 3) := by decide +kernel
theorem dL_isChanged_118 : decode cL_isChanged 118 = .ok (.lconst 1, 1) := by decide +kernel
theorem dL_isChanged_119 : decode cL_isChanged 119 = .ok (.iload_n 2, 1) := by decide +kernel
theorem dL_isChanged_120 : decode cL_isChanged 120 = .ok (.lshl, 1) := by decide +kernel
theorem dL_isChanged_121 : decode cL_isChanged 121 = .ok (.goto 4, 3) := by decide +kernel
theorem dL_isChanged_124 : decode cL_isChanged 124 = .ok (.lconst 0, 1) := by decide +kernel
theorem dL_isChanged_125 : decode cL_isChanged 125 = .ok (.lcmp, 1) := by decide +kernel
theorem dL_isChanged_126 : decode cL_isChanged 126 = .ok (.ifCond .ne 14, 3) := by decide +kernel
theorem dL_isChanged_129 : decode cL_isChanged 129 = .ok (.aload_n 0, 1) := by decide +kernel
theorem dL_isChanged_130 : decode cL_isChanged 130 = .ok (.invokevirtual 62, 3) := by decide +kernel
theorem dL_isChanged_133 : decode cL_isChanged 133 = .ok (.ifCond .lt 7, 3) := by decide +kernel
theorem dL_isChanged_136 : decode cL_isChanged 136 = .ok (.iconst 1, 1) := by decide +kernel
theorem dL_isChanged_137 : decode cL_isChanged 137 = .ok (.goto 4, 3) := by decide +kernel
theorem dL_isChanged_140 : decode cL_isChanged 140 = .ok (.iconst 0, 1) := by decide +kernel
theorem dL_isChanged_141 : decode cL_isChanged 141 = .ok (.istore 10, 2) := by decide +kernel
theorem dL_isChanged_143 : decode cL_isChanged 143 = .ok (.iload 10, 2) := by decide +kernel
theorem dL_isChanged_145 : decode cL_isChanged 145 = .ok (.ifCond .eq 16, 3) := by decide +kernel
theorem dL_isChanged_148 : decode cL_isChanged 148 = .ok (.aload_n 0, 1) := by decide +kernel
theorem dL_isChanged_149 : decode cL_isChanged 149 = .ok (.invokestatic 50, 3) := by decide +kernel
theorem dL_isChanged_152 : decode cL_isChanged 152 = .ok (.lload_n 3, 1) := by decide +kernel
theorem dL_isChanged_153 : decode cL_isChanged 153 = .ok (.lcmp, 1) := by decide +kernel
theorem dL_isChanged_154 : decode cL_isChanged 154 = .ok (.ifCond .ne 7, 3) := by decide +kernel
theorem dL_isChanged_157 : decode cL_isChanged 157 = .ok (.iconst 1, 1) := by decide +kernel
theorem dL_isChanged_158 : decode cL_isChanged 158 = .ok (.goto 4, 3) := by decide +kernel
theorem dL_isChanged_161 : decode cL_isChanged 161 = .ok (.iconst 0, 1) := by decide +kernel
theorem dL_isChanged_162 : decode cL_isChanged 162 = .ok (.istore 10, 2) := by decide +kernel
theorem dL_isChanged_164 : decode cL_isChanged 164 = .ok (.iload 10, 2) := by decide +kernel
theorem dL_isChanged_166 : decode cL_isChanged 166 = .ok (.ifCond .eq 169, 3) := by decide +kernel
theorem dL_isChanged_169 : decode cL_isChanged 169 = .ok (.iload 7, 2) := by decide +kernel
theorem dL_isChanged_171 : decode cL_isChanged 171 = .ok (.bipush 60, 2) := by decide +kernel
theorem dL_isChanged_173 : decode cL_isChanged 173 = .ok (.if_icmp .gt 162, 3) := by decide +kernel
theorem dL_isChanged_176 : decode cL_isChanged 176 = .ok (.aload_n 0, 1) := by decide +kernel
theorem dL_isChanged_177 : decode cL_isChanged 177 = .ok (.iconst 0, 1) := by decide +kernel
theorem dL_isChanged_178 : decode cL_isChanged 178 = .ok (.iload_n 1, 1) := by decide +kernel
theorem dL_isChanged_179 : decode cL_isChanged 179 = .ok (.iconst 3, 1) := by decide +kernel
theorem dL_isChanged_180 : decode cL_isChanged 180 = .ok (.invokevirtual 65, 3) := by decide +kernel
theorem dL_isChanged_183 : decode cL_isChanged 183 = .ok (.iload 7, 2) := by decide +kernel
theorem dL_isChanged_185 : decode cL_isChanged 185 = .ok (.if_icmp .ne 15, 3) := by decide +kernel
theorem dL_isChanged_188 : decode cL_isChanged 188 = .ok (.aload_n 0, 1) := by decide +kernel
theorem dL_isChanged_189 : decode cL_isChanged 189 = .ok (.iconst 3, 1) := by decide +kernel
theorem dL_isChanged_190 : decode cL_isChanged 190 = .ok (.invokevirtual 43, 3) := by decide +kernel
theorem dL_isChanged_193 : decode cL_isChanged 193 = .ok (.ifCond .ne 7, 3) := by decide +kernel
theorem dL_isChanged_196 : decode cL_isChanged 196 = .ok (.iconst 1, 1) := by decide +kernel
theorem dL_isChanged_197 : decode cL_isChanged 197 = .ok (.goto 4, 3) := by decide +kernel
theorem dL_isChanged_200 : decode cL_isChanged 200 = .ok (.iconst 0, 1) := by decide +kernel
theorem dL_isChanged_201 : decode cL_isChanged 201 = .ok (.istore 10, 2) := by decide +kernel
theorem dL_isChanged_203 : decode cL_isChanged 203 = .ok (.aload_n 0, 1) := by decide +kernel
theorem dL_isChanged_204 : decode cL_isChanged 204 = .ok (.iconst 3, 1) := by decide +kernel
theorem dL_isChanged_205 : decode cL_isChanged 205 = .ok (.iload_n 2, 1) := by decide +kernel
theorem dL_isChanged_206 : decode cL_isChanged 206 = .ok (.invokevirtual 54, 3) := by decide +kernel
theorem dL_isChanged_209 : decode cL_isChanged 209 = .ok (.lstore 11, 2) := by decide +kernel
theorem dL_isChanged_211 : decode cL_isChanged 211 = .ok (.iload 10, 2) := by decide +kernel
theorem dL_isChanged_213 : decode cL_isChanged 213 = .ok (.ifCond .eq 41, 3) := by decide +kernel
theorem dL_isChanged_216 : decode cL_isChanged 216 = .ok (.lload 11, 2) := by decide +kernel
theorem dL_isChanged_218 : decode cL_isChanged 218 = .ok (.iload_n 2, 1) := by decide +kernel
theorem dL_isChanged_219 : decode cL_isChanged 219 = .ok (.lshr, 1) := by decide +kernel
theorem dL_isChanged_220 : decode cL_isChanged 220 = .ok (.lconst 1, 1) := by decide +kernel
theorem dL_isChanged_221 : decode cL_isChanged 221 = .ok (.land, 1) := by decide +kernel
theorem dL_isChanged_222 : decode cL_isChanged 222 = .ok (.lconst 1, 1) := by decide +kernel
theorem dL_isChanged_223 : decode cL_isChanged 223 = .ok (.lcmp, 1) := by decide +kernel
theorem dL_isChanged_224 : decode cL_isChanged 224 = .ok (.ifCond .ne 30, 3) := by decide +kernel
theorem dL_isChanged_227 : decode cL_isChanged 227 = .ok (.lload 5, 2) := by decide +kernel
theorem dL_isChanged_229 : decode cL_isChanged 229 = .ok (.lload 11, 2) := by decide +kernel
theorem dL_isChanged_231 : decode cL_isChanged 231 = .ok (.ldc2_w 69, 3) := by decide +kernel
theorem dL_isChanged_234 : decode cL_isChanged 234 = .ok (.lxor, 1) := by decide +kernel
theorem dL_isChanged_235 : decode cL_isChanged 235 = .ok (.land, 1) := by decide +kernel
theorem dL_isChanged_236 : decode cL_isChanged 236 = .ok (.lconst 0, 1) := by decide +kernel
theorem dL_isChanged_237 : decode cL_isChanged 237 = .ok (.lcmp, 1) := by decide +kernel
theorem dL_isChanged_238 : decode cL_isChanged 238 = .ok (.ifCond .ne 16, 3) := by decide +kernel
theorem dL_isChanged_241 : decode cL_isChanged 241 = .ok (.aload_n 0, 1) := by decide +kernel
theorem dL_isChanged_242 : decode cL_isChanged 242 = .ok (.iconst 3, 1) := by decide +kernel
theorem dL_isChanged_243 : decode cL_isChanged 243 = .ok (.invokevirtual 71, 3) := by decide +kernel
theorem dL_isChanged_246 : decode cL_isChanged 246 = .ok (.iconst 1, 1) := by decide +kernel
theorem dL_isChanged_247 : decode cL_isChanged 247 = .ok (.if_icmp .gt 7, 3) := by decide +kernel
theorem dL_isChanged_250 : decode cL_isChanged 250 = .ok (.iconst 1, 1) := by decide +kernel
theorem dL_isChanged_251 : decode cL_isChanged 251 = .ok (.goto 4, 3) := by decide +kernel
theorem dL_isChanged_254 : decode cL_isChanged 254 = .ok (.iconst 0, 1) := by decide +kernel
theorem dL_isChanged_255 : decode cL_isChanged 255 = .ok (.istore 10, 2) := by decide +kernel
theorem dL_isChanged_257 : decode cL_isChanged 257 = .ok (.iconst 0, 1) := by decide +kernel
theorem dL_isChanged_258 : decode cL_isChanged 258 = .ok (.istore 13, 2) := by decide +kernel
theorem dL_isChanged_260 : decode cL_isChanged 260 = .ok (.iload 13, 2) := by decide +kernel
theorem dL_isChanged_262 : decode cL_isChanged 262 = .ok (.bipush 64, 2) := by decide +kernel
theorem dL_isChanged_264 : decode cL_isChanged 264 = .ok (.if_icmp .ge 52, 3) := by decide +kernel
theorem dL_isChanged_267 : decode cL_isChanged 267 = .ok (.iload 10, 2) := by decide +kernel
theorem dL_isChanged_269 : decode cL_isChanged 269 = .ok (.ifCond .eq 47, 3) := by decide +kernel
theorem dL_isChanged_272 : decode cL_isChanged 272 = .ok (.lload 11, 2) := by decide +kernel
theorem dL_isChanged_274 : decode cL_isChanged 274 = .ok (.iload 13, 2) := by decide +kernel
theorem dL_isChanged_276 : decode cL_isChanged 276 = .ok (.lshr, 1) := by decide +kernel
theorem dL_isChanged_277 : decode cL_isChanged 277 = .ok (.lconst 1, 1) := by decide +kernel
theorem dL_isChanged_278 : decode cL_isChanged 278 = .ok (.land, 1) := by decide +kernel
theorem dL_isChanged_279 : decode cL_isChanged 279 = .ok (.lconst 0, 1) := by decide +kernel
theorem dL_isChanged_280 : decode cL_isChanged 280 = .ok (.lcmp, 1) := by decide +kernel
theorem dL_isChanged_281 : decode cL_isChanged 281 = .ok (.ifCond .eq 22, 3) := by decide +kernel
theorem dL_isChanged_284 : decode cL_isChanged 284 = .ok (.aload_n 0, 1) := by decide +kernel
theorem dL_isChanged_285 : decode cL_isChanged 285 = .ok (.iconst 3, 1) := by decide +kernel
theorem dL_isChanged_286 : decode cL_isChanged 286 = .ok (.iload 13, 2) := by decide +kernel
theorem dL_isChanged_288 : decode cL_isChanged 288 = .ok (.invokevirtual 54, 3) := by decide +kernel
theorem dL_isChanged_291 : decode cL_isChanged 291 = .ok (.lload 11, 2) := by decide +kernel
theorem dL_isChanged_293 : decode cL_isChanged 293 = .ok (.ldc2_w 69, 3) := by decide +kernel
theorem dL_isChanged_296 : decode cL_isChanged 296 = .ok (.lxor, 1) := by decide +kernel
theorem dL_isChanged_297 : decode cL_isChanged 297 = .ok (.land, 1) := by decide +kernel
theorem dL_isChanged_298 : decode cL_isChanged 298 = .ok (.lconst 0, 1) := by decide +kernel
theorem dL_isChanged_299 : decode cL_isChanged 299 = .ok (.lcmp, 1) := by decide +kernel
theorem dL_isChanged_300 : decode cL_isChanged 300 = .ok (.ifCond .ne 7, 3) := by decide +kernel
theorem dL_isChanged_303 : decode cL_isChanged 303 = .ok (.iconst 1, 1) := by decide +kernel
theorem dL_isChanged_304 : decode cL_isChanged 304 = .ok (.goto 4, 3) := by decide +kernel
theorem dL_isChanged_307 : decode cL_isChanged 307 = .ok (.iconst 0, 1) := by decide +kernel
theorem dL_isChanged_308 : decode cL_isChanged 308 = .ok (.istore 10, 2) := by decide +kernel
theorem dL_isChanged_310 : decode cL_isChanged 310 = .ok (.iinc 13 3, 3) := by decide +kernel
theorem dL_isChanged_313 : decode cL_isChanged 313 = .ok (.goto (-53), 3) := by decide +kernel
theorem dL_isChanged_316 : decode cL_isChanged 316 = .ok (.iload 10, 2) := by decide +kernel
theorem dL_isChanged_318 : decode cL_isChanged 318 = .ok (.ifCond .eq 14, 3) := by decide +kernel
theorem dL_isChanged_321 : decode cL_isChanged 321 = .ok (.aload_n 0, 1) := by decide +kernel
theorem dL_isChanged_322 : decode cL_isChanged 322 = .ok (.invokevirtual 62, 3) := by decide +kernel
theorem dL_isChanged_325 : decode cL_isChanged 325 = .ok (.ifCond .lt 7, 3) := by decide +kernel
theorem dL_isChanged_328 : decode cL_isChanged 328 = .ok (.iconst 1, 1) := by decide +kernel
theorem dL_isChanged_329 : decode cL_isChanged 329 = .ok (.goto 4, 3) := by decide +kernel
theorem dL_isChanged_332 : decode cL_isChanged 332 = .ok (.iconst 0, 1) := by decide +kernel
theorem dL_isChanged_333 : decode cL_isChanged 333 = .ok (.istore 10, 2) := by decide +kernel
theorem dL_isChanged_335 : decode cL_isChanged 335 = .ok (.iload 10, 2) := by decide +kernel
theorem dL_isChanged_337 : decode cL_isChanged 337 = .ok (.ifCond .eq 16, 3) := by decide +kernel
theorem dL_isChanged_340 : decode cL_isChanged 340 = .ok (.aload_n 0, 1) := by decide +kernel
theorem dL_isChanged_341 : decode cL_isChanged 341 = .ok (.invokestatic 50, 3) := by decide +kernel
theorem dL_isChanged_344 : decode cL_isChanged 344 = .ok (.lload_n 3, 1) := by decide +kernel
theorem dL_isChanged_345 : decode cL_isChanged 345 = .ok (.lcmp, 1) := by decide +kernel
theorem dL_isChanged_346 : decode cL_isChanged 346 = .ok (.ifCond .ne 7, 3) := by decide +kernel
theorem dL_isChanged_349 : decode cL_isChanged 349 = .ok (.iconst 1, 1) := by decide +kernel
theorem dL_isChanged_350 : decode cL_isChanged 350 = .ok (.goto 4, 3) := by decide +kernel
theorem dL_isChanged_353 : decode cL_isChanged 353 = .ok (.iconst 0, 1) := by decide +kernel
theorem dL_isChanged_354 : decode cL_isChanged 354 = .ok (.ireturn, 1) := by decide +kernel
theorem dL_isCompared_0 : decode cL_isCompared 0 = .ok (.aload_n 0, 1) := by decide +kernel
theorem dL_isCompared_1 : decode cL_isCompared 1 = .ok (.iload_n 1, 1) := by decide +kernel
theorem dL_isCompared_2 : decode cL_isCompared 2 = .ok (.iload_n 2, 1) := by decide +kernel
theorem dL_isCompared_3 : decode cL_isCompared 3 = .ok (.invokevirtual 74, 3) := by decide +kernel
theorem dL_isCompared_6 : decode cL_isCompared 6 = .ok (.istore_n 3, 1) := by decide +kernel
theorem dL_isCompared_7 : decode cL_isCompared 7 = .ok (.aload_n 0, 1) := by decide +kernel
theorem dL_isCompared_8 : decode cL_isCompared 8 = .ok (.iload_n 2, 1) := by decide +kernel
theorem dL_isCompared_9 : decode cL_isCompared 9 = .ok (.iload_n 1, 1) := by decide +kernel
theorem dL_isCompared_10 : decode cL_isCompared 10 = .ok (.invokevirtual 74, 3) := by decide +kernel
theorem dL_isCompared_13 : decode cL_isCompared 13 = .ok (.istore 4, 2) := by decide +kernel
theorem dL_isCompared_15 : decode cL_isCompared 15 = .ok (.aload_n 0, 1) := by decide +kernel
theorem dL_isCompared_16 : decode cL_isCompared 16 = .ok (.iload_n 1, 1) := by decide +kernel
theorem dL_isCompared_17 : decode cL_isCompared 17 = .ok (.iload_n 2, 1) := by decide +kernel
theorem dL_isCompared_18 : decode cL_isCompared 18 = .ok (.invokevirtual 77, 3) := by decide +kernel
theorem dL_isCompared_21 : decode cL_isCompared 21 = .ok (.istore 5, 2) := by decide +kernel
theorem dL_isCompared_23 : decode cL_isCompared 23 = .ok (.aload_n 0, 1) := by decide +kernel
theorem dL_isCompared_24 : decode cL_isCompared 24 = .ok (.iload_n 1, 1) := by decide +kernel
theorem dL_isCompared_25 : decode cL_isCompared 25 = .ok (.iload_n 2, 1) := by decide +kernel
theorem dL_isCompared_26 : decode cL_isCompared 26 = .ok (.invokevirtual 80, 3) := by decide +kernel
theorem dL_isCompared_29 : decode cL_isCompared 29 = .ok (.istore 6, 2) := by decide +kernel
theorem dL_isCompared_31 : decode cL_isCompared 31 = .ok (.iload 4, 2) := by decide +kernel
theorem dL_isCompared_33 : decode cL_isCompared 33 = .ok (.iload_n 3, 1) := by decide +kernel
theorem dL_isCompared_34 : decode cL_isCompared 34 = .ok (.iconst 1, 1) := by decide +kernel
theorem dL_isCompared_35 : decode cL_isCompared 35 = .ok (.if_icmp .ne 7, 3) := by decide +kernel
theorem dL_isCompared_38 : decode cL_isCompared 38 = .ok (.iconst 2, 1) := by decide +kernel
theorem dL_isCompared_39 : decode cL_isCompared 39 = .ok (.goto 13, 3) := by decide +kernel
theorem dL_isCompared_42 : decode cL_isCompared 42 = .ok (.iload_n 3, 1) := by decide +kernel
theorem dL_isCompared_43 : decode cL_isCompared 43 = .ok (.iconst 2, 1) := by decide +kernel
theorem dL_isCompared_44 : decode cL_isCompared 44 = .ok (.if_icmp .ne 7, 3) := by decide +kernel
theorem dL_isCompared_47 : decode cL_isCompared 47 = .ok (.iconst 1, 1) := by decide +kernel
theorem dL_isCompared_48 : decode cL_isCompared 48 = .ok (.goto 4, 3) := by decide +kernel
theorem dL_isCompared_51 : decode cL_isCompared 51 = .ok (.iload_n 3, 1) := by decide +kernel
theorem dL_isCompared_52 : decode cL_isCompared 52 = .ok (.if_icmp .ne 77, 3) := by decide +kernel
theorem dL_isCompared_55 : decode cL_isCompared 55 = .ok (.aload_n 0, 1) := by decide +kernel
theorem dL_isCompared_56 : decode cL_isCompared 56 = .ok (.iload_n 2, 1) := by decide +kernel
theorem dL_isCompared_57 : decode cL_isCompared 57 = .ok (.iload_n 1, 1) := by decide +kernel
theorem dL_isCompared_58 : decode cL_isCompared 58 = .ok (.invokevirtual 77, 3) := by decide +kernel
theorem dL_isCompared_61 : decode cL_isCompared 61 = .ok (.iload 5, 2) := by decide +kernel
theorem dL_isCompared_63 : decode cL_isCompared 63 = .ok (.if_icmp .ne 66, 3) := by decide +kernel
theorem dL_isCompared_66 : decode cL_isCompared 66 = .ok (.aload_n 0, 1) := by decide +kernel
theorem dL_isCompared_67 : decode cL_isCompared 67 = .ok (.iload_n 2, 1) := by decide +kernel
theorem dL_isCompared_68 : decode cL_isCompared 68 = .ok (.iload_n 1, 1) := by decide +kernel
theorem dL_isCompared_69 : decode cL_isCompared 69 = .ok (.invokevirtual 80, 3) := by decide +kernel
theorem dL_isCompared_72 : decode cL_isCompared 72 = .ok (.iload 6, 2) := by decide +kernel
theorem dL_isCompared_74 : decode cL_isCompared 74 = .ok (.if_icmp .ne 55, 3) := by decide +kernel
theorem dL_isCompared_77 : decode cL_isCompared 77 = .ok (.iload_n 3, 1) := by decide +kernel
theorem dL_isCompared_78 : decode cL_isCompared 78 = .ok (.ifCond .ne 7, 3) := by decide +kernel
theorem dL_isCompared_81 : decode cL_isCompared 81 = .ok (.iconst 1, 1) := by decide +kernel
theorem dL_isCompared_82 : decode cL_isCompared 82 = .ok (.goto 4, 3) := by decide +kernel
theorem dL_isCompared_85 : decode cL_isCompared 85 = .ok (.iconst 0, 1) := by decide +kernel
theorem dL_isCompared_86 : decode cL_isCompared 86 = .ok (.iload 5, 2) := by decide +kernel
theorem dL_isCompared_88 : decode cL_isCompared 88 = .ok (.iconst (-1), 1) := by decide +kernel
theorem dL_isCompared_89 : decode cL_isCompared 89 = .ok (.if_icmp .ne 7, 3) := by decide +kernel
theorem dL_isCompared_92 : decode cL_isCompared 92 = .ok (.iconst 1, 1) := by decide +kernel
theorem dL_isCompared_93 : decode cL_isCompared 93 = .ok (.goto 4, 3) := by decide +kernel
theorem dL_isCompared_96 : decode cL_isCompared 96 = .ok (.iconst 0, 1) := by decide +kernel
theorem dL_isCompared_97 : decode cL_isCompared 97 = .ok (.if_icmp .ne 32, 3) := by decide +kernel
theorem dL_isCompared_100 : decode cL_isCompared 100 = .ok (.iload 5, 2) := by decide +kernel
theorem dL_isCompared_102 : decode cL_isCompared 102 = .ok (.iconst (-1), 1) := by decide +kernel
theorem dL_isCompared_103 : decode cL_isCompared 103 = .ok (.if_icmp .ne 7, 3) := by decide +kernel
theorem dL_isCompared_106 : decode cL_isCompared 106 = .ok (.iconst 1, 1) := by decide +kernel
theorem dL_isCompared_107 : decode cL_isCompared 107 = .ok (.goto 4, 3) := by decide +kernel
theorem dL_isCompared_110 : decode cL_isCompared 110 = .ok (.iconst 0, 1) := by decide +kernel
theorem dL_isCompared_111 : decode cL_isCompared 111 = .ok (.iload 6, 2) := by decide +kernel
theorem dL_isCompared_113 : decode cL_isCompared 113 = .ok (.iconst (-1), 1) := by decide +kernel
theorem dL_isCompared_114 : decode cL_isCompared 114 = .ok (.if_icmp .ne 7, 3) := by decide +kernel
theorem dL_isCompared_117 : decode cL_isCompared 117 = .ok (.iconst 1, 1) := by decide +kernel
theorem dL_isCompared_118 : decode cL_isCompared 118 = .ok (.goto 4, 3) := by decide +kernel
theorem dL_isCompared_121 : decode cL_isCompared 121 = .ok (.iconst 0, 1) := by decide +kernel
theorem dL_isCompared_122 : decode cL_isCompared 122 = .ok (.if_icmp .ne 7, 3) := by decide +kernel
theorem dL_isCompared_125 : decode cL_isCompared 125 = .ok (.iconst 1, 1) := by decide +kernel
theorem dL_isCompared_126 : decode cL_isCompared 126 = .ok (.goto 4, 3) := by decide +kernel
theorem dL_isCompared_129 : decode cL_isCompared 129 = .ok (.iconst 0, 1) := by decide +kernel
theorem dL_isCompared_130 : decode cL_isCompared 130 = .ok (.istore 7, 2) := by decide +kernel
theorem dL_isCompared_132 : decode cL_isCompared 132 = .ok (.iload 7, 2) := by decide +kernel
theorem dL_isCompared_134 : decode cL_isCompared 134 = .ok (.ifCond .eq 143, 3) := by decide +kernel
theorem dL_isCompared_137 : decode cL_isCompared 137 = .ok (.iload 5, 2) := by decide +kernel
theorem dL_isCompared_139 : decode cL_isCompared 139 = .ok (.ifCond .lt 138, 3) := by decide +kernel
theorem dL_isCompared_142 : decode cL_isCompared 142 = .ok (.aload_n 0, 1) := by decide +kernel
theorem dL_isCompared_143 : decode cL_isCompared 143 = .ok (.iload_n 1, 1) := by decide +kernel
theorem dL_isCompared_144 : decode cL_isCompared 144 = .ok (.iload 5, 2) := by decide +kernel
theorem dL_isCompared_146 : decode cL_isCompared 146 = .ok (.invokevirtual 54, 3) := by decide +kernel
theorem dL_isCompared_149 : decode cL_isCompared 149 = .ok (.lstore 8, 2) := by decide +kernel
theorem dL_isCompared_151 : decode cL_isCompared 151 = .ok (.aload_n 0, 1) := by decide +kernel
theorem dL_isCompared_152 : decode cL_isCompared 152 = .ok (.iload_n 2, 1) := by decide +kernel
theorem dL_isCompared_153 : decode cL_isCompared 153 = .ok (.iload 5, 2) := by decide +kernel
theorem dL_isCompared_155 : decode cL_isCompared 155 = .ok (.invokevirtual 54, 3) := by decide +kernel
theorem dL_isCompared_158 : decode cL_isCompared 158 = .ok (.lstore 10, 2) := by decide +kernel
theorem dL_isCompared_160 : decode cL_isCompared 160 = .ok (.lload 8, 2) := by decide +kernel
theorem dL_isCompared_162 : decode cL_isCompared 162 = .ok (.lload 10, 2) := by decide +kernel
theorem dL_isCompared_164 : decode cL_isCompared 164 = .ok (.lcmp, 1) := by decide +kernel
theorem dL_isCompared_165 : decode cL_isCompared 165 = .ok (.ifCond .eq 109, 3) := by decide +kernel
theorem dL_isCompared_168 : decode cL_isCompared 168 = .ok (.lload 8, 2) := by decide +kernel
theorem dL_isCompared_170 : decode cL_isCompared 170 = .ok (.lload 10, 2) := by decide +kernel
theorem dL_isCompared_172 : decode cL_isCompared 172 = .ok (.lxor, 1) := by decide +kernel
theorem dL_isCompared_173 : decode cL_isCompared 173 = .ok (.iload 6, 2) := by decide +kernel
theorem dL_isCompared_175 : decode cL_isCompared 175 = .ok (.lshr, 1) := by decide +kernel
theorem dL_isCompared_176 : decode cL_isCompared 176 = .ok (.lconst 1, 1) := by decide +kernel
theorem dL_isCompared_177 : decode cL_isCompared 177 = .ok (.land, 1) := by decide +kernel
theorem dL_isCompared_178 : decode cL_isCompared 178 = .ok (.lconst 1, 1) := by decide +kernel
theorem dL_isCompared_179 : decode cL_isCompared 179 = .ok (.lcmp, 1) := by decide +kernel
theorem dL_isCompared_180 : decode cL_isCompared 180 = .ok (.ifCond .ne 94, 3) := by decide +kernel
theorem dL_isCompared_183 : decode cL_isCompared 183 = .ok (.iload 6, 2) := by decide +kernel
theorem dL_isCompared_185 : decode cL_isCompared 185 = .ok (.ifCond .eq 20, 3) := by decide +kernel
theorem dL_isCompared_188 : decode cL_isCompared 188 = .ok (.lload 8, 2) := by decide +kernel
theorem dL_isCompared_190 : decode cL_isCompared 190 = .ok (.lload 10, 2) := by decide +kernel
theorem dL_isCompared_192 : decode cL_isCompared 192 = .ok (.lxor, 1) := by decide +kernel
theorem dL_isCompared_193 : decode cL_isCompared 193 = .ok (.lconst 1, 1) := by decide +kernel
theorem dL_isCompared_194 : decode cL_isCompared 194 = .ok (.iload 6, 2) := by decide +kernel
theorem dL_isCompared_196 : decode cL_isCompared 196 = .ok (.lshl, 1) := by decide +kernel
theorem dL_isCompared_197 : decode cL_isCompared 197 = .ok (.lconst 1, 1) := by decide +kernel
theorem dL_isCompared_198 : decode cL_isCompared 198 = .ok (.lsub, 1) := by decide +kernel
theorem dL_isCompared_199 : decode cL_isCompared 199 = .ok (.land, 1) := by decide +kernel
theorem dL_isCompared_200 : decode cL_isCompared 200 = .ok (.lconst 0, 1) := by decide +kernel
theorem dL_isCompared_201 : decode cL_isCompared 201 = .ok (.lcmp, 1) := by decide +kernel
theorem dL_isCompared_202 : decode cL_isCompared 202 = .ok (.ifCond .ne 72, 3) := by decide +kernel
theorem dL_isCompared_205 : decode cL_isCompared 205 = .ok (.iload_n 3, 1) := by decide +kernel
theorem dL_isCompared_206 : decode cL_isCompared 206 = .ok (.iconst 1, 1) := by decide +kernel
theorem dL_isCompared_207 : decode cL_isCompared 207 = .ok (.if_icmp .ne 17, 3) := by decide +kernel
theorem dL_isCompared_210 : decode cL_isCompared 210 = .ok (.lload 8, 2) := by decide +kernel
theorem dL_isCompared_212 : decode cL_isCompared 212 = .ok (.lload 10, 2) := by decide +kernel
theorem dL_isCompared_214 : decode cL_isCompared 214 = .ok (.ldc2_w 69, 3) := by decide +kernel
theorem dL_isCompared_217 : decode cL_isCompared 217 = .ok (.lxor, 1) := by decide +kernel
theorem dL_isCompared_218 : decode cL_isCompared 218 = .ok (.land, 1) := by decide +kernel
theorem dL_isCompared_219 : decode cL_isCompared 219 = .ok (.lconst 0, 1) := by decide +kernel
theorem dL_isCompared_220 : decode cL_isCompared 220 = .ok (.lcmp, 1) := by decide +kernel
theorem dL_isCompared_221 : decode cL_isCompared 221 = .ok (.ifCond .ne 53, 3) := by decide +kernel
theorem dL_isCompared_224 : decode cL_isCompared 224 = .ok (.iload_n 3, 1) := by decide +kernel
theorem dL_isCompared_225 : decode cL_isCompared 225 = .ok (.iconst 2, 1) := by decide +kernel
theorem dL_isCompared_226 : decode cL_isCompared 226 = .ok (.if_icmp .ne 17, 3) := by decide +kernel
theorem dL_isCompared_229 : decode cL_isCompared 229 = .ok (.lload 10, 2) := by decide +kernel
theorem dL_isCompared_231 : decode cL_isCompared 231 = .ok (.lload 8, 2) := by decide +kernel
theorem dL_isCompared_233 : decode cL_isCompared 233 = .ok (.ldc2_w 69, 3) := by decide +kernel
theorem dL_isCompared_236 : decode cL_isCompared 236 = .ok (.lxor, 1) := by decide +kernel
theorem dL_isCompared_237 : decode cL_isCompared 237 = .ok (.land, 1) := by decide +kernel
theorem dL_isCompared_238 : decode cL_isCompared 238 = .ok (.lconst 0, 1) := by decide +kernel
theorem dL_isCompared_239 : decode cL_isCompared 239 = .ok (.lcmp, 1) := by decide +kernel
theorem dL_isCompared_240 : decode cL_isCompared 240 = .ok (.ifCond .ne 34, 3) := by decide +kernel
theorem dL_isCompared_243 : decode cL_isCompared 243 = .ok (.iload 5, 2) := by decide +kernel
theorem dL_isCompared_245 : decode cL_isCompared 245 = .ok (.ifCond .eq 25, 3) := by decide +kernel
theorem dL_isCompared_248 : decode cL_isCompared 248 = .ok (.aload_n 0, 1) := by decide +kernel
theorem dL_isCompared_249 : decode cL_isCompared 249 = .ok (.iload_n 1, 1) := by decide +kernel
theorem dL_isCompared_250 : decode cL_isCompared 250 = .ok (.iload 5, 2) := by decide +kernel
theorem dL_isCompared_252 : decode cL_isCompared 252 = .ok (.iconst 1, 1) := by decide +kernel
theorem dL_isCompared_253 : decode cL_isCompared 253 = .ok (.isub, 1) := by decide +kernel
theorem dL_isCompared_254 : decode cL_isCompared 254 = .ok (.invokevirtual 54, 3) := by decide +kernel
theorem dL_isCompared_257 : decode cL_isCompared 257 = .ok (.aload_n 0, 1) := by decide +kernel
theorem dL_isCompared_258 : decode cL_isCompared 258 = .ok (.iload_n 2, 1) := by decide +kernel
theorem dL_isCompared_259 : decode cL_isCompared 259 = .ok (.iload 5, 2) := by decide +kernel
theorem dL_isCompared_261 : decode cL_isCompared 261 = .ok (.iconst 1, 1) := by decide +kernel
theorem dL_isCompared_262 : decode cL_isCompared 262 = .ok (.isub, 1) := by decide +kernel
theorem dL_isCompared_263 : decode cL_isCompared 263 = .ok (.invokevirtual 54, 3) := by decide +kernel
theorem dL_isCompared_266 : decode cL_isCompared 266 = .ok (.lcmp, 1) := by decide +kernel
theorem dL_isCompared_267 : decode cL_isCompared 267 = .ok (.ifCond .ne 7, 3) := by decide +kernel
theorem dL_isCompared_270 : decode cL_isCompared 270 = .ok (.iconst 1, 1) := by decide +kernel
theorem dL_isCompared_271 : decode cL_isCompared 271 = .ok (.goto 4, 3) := by decide +kernel
theorem dL_isCompared_274 : decode cL_isCompared 274 = .ok (.iconst 0, 1) := by decide +kernel
theorem dL_isCompared_275 : decode cL_isCompared 275 = .ok (.istore 7, 2) := by decide +kernel
theorem dL_isCompared_277 : decode cL_isCompared 277 = .ok (.iload 7, 2) := by decide +kernel
theorem dL_isCompared_279 : decode cL_isCompared 279 = .ok (.ifCond .eq 26, 3) := by decide +kernel
theorem dL_isCompared_282 : decode cL_isCompared 282 = .ok (.aload_n 0, 1) := by decide +kernel
theorem dL_isCompared_283 : decode cL_isCompared 283 = .ok (.iload_n 1, 1) := by decide +kernel
theorem dL_isCompared_284 : decode cL_isCompared 284 = .ok (.iload_n 1, 1) := by decide +kernel
theorem dL_isCompared_285 : decode cL_isCompared 285 = .ok (.invokevirtual 74, 3) := by decide +kernel
theorem dL_isCompared_288 : decode cL_isCompared 288 = .ok (.ifCond .ne 17, 3) := by decide +kernel
theorem dL_isCompared_291 : decode cL_isCompared 291 = .ok (.aload_n 0, 1) := by decide +kernel
theorem dL_isCompared_292 : decode cL_isCompared 292 = .ok (.iload_n 2, 1) := by decide +kernel
theorem dL_isCompared_293 : decode cL_isCompared 293 = .ok (.iload_n 2, 1) := by decide +kernel
theorem dL_isCompared_294 : decode cL_isCompared 294 = .ok (.invokevirtual 77, 3) := by decide +kernel
theorem dL_isCompared_297 : decode cL_isCompared 297 = .ok (.iconst (-1), 1) := by decide +kernel
theorem dL_isCompared_298 : decode cL_isCompared 298 = .ok (.if_icmp .ne 7, 3) := by decide +kernel
theorem dL_isCompared_301 : decode cL_isCompared 301 = .ok (.iconst 1, 1) := by decide +kernel
theorem dL_isCompared_302 : decode cL_isCompared 302 = .ok (.goto 4, 3) := by decide +kernel
theorem dL_isCompared_305 : decode cL_isCompared 305 = .ok (.iconst 0, 1) := by decide +kernel
theorem dL_isCompared_306 : decode cL_isCompared 306 = .ok (.ireturn, 1) := by decide +kernel
theorem dL_isHit_0 : decode cL_isHit 0 = .ok (.aload_n 0, 1) := by decide +kernel
theorem dL_isHit_1 : decode cL_isHit 1 = .ok (.iload_n 1, 1) := by decide +kernel
theorem dL_isHit_2 : decode cL_isHit 2 = .ok (.invokevirtual 83, 3) := by decide +kernel
theorem dL_isHit_5 : decode cL_isHit 5 = .ok (.istore_n 3, 1) := by decide +kernel
theorem dL_isHit_6 : decode cL_isHit 6 = .ok (.aload_n 0, 1) := by decide +kernel
theorem dL_isHit_7 : decode cL_isHit 7 = .ok (.iload_n 1, 1) := by decide +kernel
theorem dL_isHit_8 : decode cL_isHit 8 = .ok (.iload_n 2, 1) := by decide +kernel
theorem dL_isHit_9 : decode cL_isHit 9 = .ok (.invokevirtual 86, 3) := by decide +kernel
theorem dL_isHit_12 : decode cL_isHit 12 = .ok (.istore 4, 2) := by decide +kernel
theorem dL_isHit_14 : decode cL_isHit 14 = .ok (.aload_n 0, 1) := by decide +kernel
theorem dL_isHit_15 : decode cL_isHit 15 = .ok (.iload_n 1, 1) := by decide +kernel
theorem dL_isHit_16 : decode cL_isHit 16 = .ok (.iload_n 2, 1) := by decide +kernel
theorem dL_isHit_17 : decode cL_isHit 17 = .ok (.invokevirtual 54, 3) := by decide +kernel
theorem dL_isHit_20 : decode cL_isHit 20 = .ok (.lstore 5, 2) := by decide +kernel
theorem dL_isHit_22 : decode cL_isHit 22 = .ok (.iload 4, 2) := by decide +kernel
theorem dL_isHit_24 : decode cL_isHit 24 = .ok (.iconst (-1), 1) := by decide +kernel
theorem dL_isHit_25 : decode cL_isHit 25 = .ok (.if_icmp .lt 13, 3) := by decide +kernel
theorem dL_isHit_28 : decode cL_isHit 28 = .ok (.iload 4, 2) := by decide +kernel
theorem dL_isHit_30 : decode cL_isHit 30 = .ok (.iload_n 3, 1) := by decide +kernel
theorem dL_isHit_31 : decode cL_isHit 31 = .ok (.if_icmp .ge 7, 3) := by decide +kernel
theorem dL_isHit_34 : decode cL_isHit 34 = .ok (.iconst 1, 1) := by decide +kernel
theorem dL_isHit_35 : decode cL_isHit 35 = .ok (.goto 4, 3) := by decide +kernel
theorem dL_isHit_38 : decode cL_isHit 38 = .ok (.iconst 0, 1) := by decide +kernel
theorem dL_isHit_39 : decode cL_isHit 39 = .ok (.istore 7, 2) := by decide +kernel
theorem dL_isHit_41 : decode cL_isHit 41 = .ok (.iload 4, 2) := by decide +kernel
theorem dL_isHit_43 : decode cL_isHit 43 = .ok (.iconst (-1), 1) := by decide +kernel
theorem dL_isHit_44 : decode cL_isHit 44 = .ok (.if_icmp .ne 21, 3) := by decide +kernel
theorem dL_isHit_47 : decode cL_isHit 47 = .ok (.iload 7, 2) := by decide +kernel
theorem dL_isHit_49 : decode cL_isHit 49 = .ok (.ifCond .eq 14, 3) := by decide +kernel
theorem dL_isHit_52 : decode cL_isHit 52 = .ok (.lload 5, 2) := by decide +kernel
theorem dL_isHit_54 : decode cL_isHit 54 = .ok (.lconst 0, 1) := by decide +kernel
theorem dL_isHit_55 : decode cL_isHit 55 = .ok (.lcmp, 1) := by decide +kernel
theorem dL_isHit_56 : decode cL_isHit 56 = .ok (.ifCond .ne 7, 3) := by decide +kernel
theorem dL_isHit_59 : decode cL_isHit 59 = .ok (.iconst 1, 1) := by decide +kernel
theorem dL_isHit_60 : decode cL_isHit 60 = .ok (.goto 4, 3) := by decide +kernel
theorem dL_isHit_63 : decode cL_isHit 63 = .ok (.iconst 0, 1) := by decide +kernel
theorem dL_isHit_64 : decode cL_isHit 64 = .ok (.ireturn, 1) := by decide +kernel
theorem dL_isHit_65 : decode cL_isHit 65 = .ok (.lconst 0, 1) := by decide +kernel
theorem dL_isHit_66 : decode cL_isHit 66 = .ok (.lstore 8, 2) := by decide +kernel
theorem dL_isHit_68 : decode cL_isHit 68 = .ok (.aload_n 0, 1) := by decide +kernel
theorem dL_isHit_69 : decode cL_isHit 69 = .ok (.iload_n 1, 1) := by decide +kernel
theorem dL_isHit_70 : decode cL_isHit 70 = .ok (.iload 4, 2) := by decide +kernel
theorem dL_isHit_72 : decode cL_isHit 72 = .ok (.iconst (-1), 1) := by decide +kernel
theorem dL_isHit_73 : decode cL_isHit 73 = .ok (.invokevirtual 89, 3) := by decide +kernel
theorem dL_isHit_76 : decode cL_isHit 76 = .ok (.istore 10, 2) := by decide +kernel
theorem dL_isHit_78 : decode cL_isHit 78 = .ok (.iconst (-1), 1) := by decide +kernel
theorem dL_isHit_79 : decode cL_isHit 79 = .ok (.istore 11, 2) := by decide +kernel
theorem dL_isHit_81 : decode cL_isHit 81 = .ok (.iconst 0, 1) := by decide +kernel
theorem dL_isHit_82 : decode cL_isHit 82 = .ok (.istore 12, 2) := by decide +kernel
theorem dL_isHit_84 : decode cL_isHit 84 = .ok (.iload 12, 2) := by decide +kernel
theorem dL_isHit_86 : decode cL_isHit 86 = .ok (.iload 10, 2) := by decide +kernel
theorem dL_isHit_88 : decode cL_isHit 88 = .ok (.if_icmp .ge 139, 3) := by decide +kernel
theorem dL_isHit_91 : decode cL_isHit 91 = .ok (.iload 7, 2) := by decide +kernel
theorem dL_isHit_93 : decode cL_isHit 93 = .ok (.ifCond .eq 134, 3) := by decide +kernel
theorem dL_isHit_96 : decode cL_isHit 96 = .ok (.aload_n 0, 1) := by decide +kernel
theorem dL_isHit_97 : decode cL_isHit 97 = .ok (.iload_n 1, 1) := by decide +kernel
theorem dL_isHit_98 : decode cL_isHit 98 = .ok (.iload 4, 2) := by decide +kernel
theorem dL_isHit_100 : decode cL_isHit 100 = .ok (.iload 12, 2) := by decide +kernel
theorem dL_isHit_102 : decode cL_isHit 102 = .ok (.invokevirtual 89, 3) := by decide +kernel
theorem dL_isHit_105 : decode cL_isHit 105 = .ok (.istore 13, 2) := by decide +kernel
theorem dL_isHit_107 : decode cL_isHit 107 = .ok (.iload 13, 2) := by decide +kernel
theorem dL_isHit_109 : decode cL_isHit 109 = .ok (.iload 11, 2) := by decide +kernel
theorem dL_isHit_111 : decode cL_isHit 111 = .ok (.if_icmp .le 14, 3) := by decide +kernel
theorem dL_isHit_114 : decode cL_isHit 114 = .ok (.iload 13, 2) := by decide +kernel
theorem dL_isHit_116 : decode cL_isHit 116 = .ok (.bipush 125, 2) := by decide +kernel
theorem dL_isHit_118 : decode cL_isHit 118 = .ok (.if_icmp .ge 7, 3) := by decide +kernel
theorem dL_isHit_121 : decode cL_isHit 121 = .ok (.iconst 1, 1) := by decide +kernel
theorem dL_isHit_122 : decode cL_isHit 122 = .ok (.goto 4, 3) := by decide +kernel
theorem dL_isHit_125 : decode cL_isHit 125 = .ok (.iconst 0, 1) := by decide +kernel
theorem dL_isHit_126 : decode cL_isHit 126 = .ok (.istore 7, 2) := by decide +kernel
theorem dL_isHit_128 : decode cL_isHit 128 = .ok (.iload 13, 2) := by decide +kernel
theorem dL_isHit_130 : decode cL_isHit 130 = .ok (.istore 11, 2) := by decide +kernel
theorem dL_isHit_132 : decode cL_isHit 132 = .ok (.iload 13, 2) := by decide +kernel
theorem dL_isHit_134 : decode cL_isHit 134 = .ok (.bipush 25, 2) := by decide +kernel
theorem dL_isHit_136 : decode cL_isHit 136 = .ok (.idiv, 1) := by decide +kernel
theorem dL_isHit_137 : decode cL_isHit 137 = .ok (.iconst 4, 1) := by decide +kernel
theorem dL_isHit_138 : decode cL_isHit 138 = .ok (.if_icmp .ne 10, 3) := by decide +kernel
theorem dL_isHit_141 : decode cL_isHit 141 = .ok (.iload_n 2, 1) := by decide +kernel
theorem dL_isHit_142 : decode cL_isHit 142 = .ok (.bipush 16, 2) := by decide +kernel
theorem dL_isHit_144 : decode cL_isHit 144 = .ok (.idiv, 1) := by decide +kernel
theorem dL_isHit_145 : decode cL_isHit 145 = .ok (.goto 8, 3) := by decide +kernel
theorem dL_isHit_148 : decode cL_isHit 148 = .ok (.iload 13, 2) := by decide +kernel
theorem dL_isHit_150 : decode cL_isHit 150 = .ok (.bipush 25, 2) := by decide +kernel
theorem dL_isHit_152 : decode cL_isHit 152 = .ok (.idiv, 1) := by decide +kernel
theorem dL_isHit_153 : decode cL_isHit 153 = .ok (.istore 14, 2) := by decide +kernel
theorem dL_isHit_155 : decode cL_isHit 155 = .ok (.iload 13, 2) := by decide +kernel
theorem dL_isHit_157 : decode cL_isHit 157 = .ok (.iconst 5, 1) := by decide +kernel
theorem dL_isHit_158 : decode cL_isHit 158 = .ok (.idiv, 1) := by decide +kernel
theorem dL_isHit_159 : decode cL_isHit 159 = .ok (.iconst 5, 1) := by decide +kernel
theorem dL_isHit_160 : decode cL_isHit 160 = .ok (.irem, 1) := by decide +kernel
theorem dL_isHit_161 : decode cL_isHit 161 = .ok (.iconst 4, 1) := by decide +kernel
theorem dL_isHit_162 : decode cL_isHit 162 = .ok (.if_icmp .ne 11, 3) := by decide +kernel
theorem dL_isHit_165 : decode cL_isHit 165 = .ok (.iload_n 2, 1) := by decide +kernel
theorem dL_isHit_166 : decode cL_isHit 166 = .ok (.iconst 4, 1) := by decide +kernel
theorem dL_isHit_167 : decode cL_isHit 167 = .ok (.idiv, 1) := by decide +kernel
theorem dL_isHit_168 : decode cL_isHit 168 = .ok (.iconst 4, 1) := by decide +kernel
theorem dL_isHit_169 : decode cL_isHit 169 = .ok (.irem, 1) := by decide +kernel
theorem dL_isHit_170 : decode cL_isHit 170 = .ok (.goto 9, 3) := by decide +kernel
theorem dL_isHit_173 : decode cL_isHit 173 = .ok (.iload 13, 2) := by decide +kernel
theorem dL_isHit_175 : decode cL_isHit 175 = .ok (.iconst 5, 1) := by decide +kernel
theorem dL_isHit_176 : decode cL_isHit 176 = .ok (.idiv, 1) := by decide +kernel
theorem dL_isHit_177 : decode cL_isHit 177 = .ok (.iconst 5, 1) := by decide +kernel
theorem dL_isHit_178 : decode cL_isHit 178 = .ok (.irem, 1) := by decide +kernel
theorem dL_isHit_179 : decode cL_isHit 179 = .ok (.istore 15, 2) := by decide +kernel
theorem dL_isHit_181 : decode cL_isHit 181 = .ok (.iload 13, 2) := by decide +kernel
theorem dL_isHit_183 : decode cL_isHit 183 = .ok (.iconst 5, 1) := by decide +kernel
theorem dL_isHit_184 : decode cL_isHit 184 = .ok (.irem, 1) := by decide +kernel
theorem dL_isHit_185 : decode cL_isHit 185 = .ok (.iconst 4, 1) := by decide +kernel
theorem dL_isHit_186 : decode cL_isHit 186 = .ok (.if_icmp .ne 9, 3) := by decide +kernel
theorem dL_isHit_189 : decode cL_isHit 189 = .ok (.iload_n 2, 1) := by decide +kernel
theorem dL_isHit_190 : decode cL_isHit 190 = .ok (.iconst 4, 1) := by decide +kernel
theorem dL_isHit_191 : decode cL_isHit 191 = .ok (.irem, 1) := by decide +kernel
theorem dL_isHit_192 : decode cL_isHit 192 = .ok (.goto 7, 3) := by decide +kernel
theorem dL_isHit_195 : decode cL_isHit 195 = .ok (.iload 13, 2) := by decide +kernel
theorem dL_isHit_197 : decode cL_isHit 197 = .ok (.iconst 5, 1) := by decide +kernel
theorem dL_isHit_198 : decode cL_isHit 198 = .ok (.irem, 1) := by decide +kernel
theorem dL_isHit_199 : decode cL_isHit 199 = .ok (.istore 16, 2) := by decide +kernel
theorem dL_isHit_201 : decode cL_isHit 201 = .ok (.lload 8, 2) := by decide +kernel
theorem dL_isHit_203 : decode cL_isHit 203 = .ok (.lconst 1, 1) := by decide +kernel
theorem dL_isHit_204 : decode cL_isHit 204 = .ok (.bipush 16, 2) := by decide +kernel
theorem dL_isHit_206 : decode cL_isHit 206 = .ok (.iload 14, 2) := by decide +kernel
theorem dL_isHit_208 : decode cL_isHit 208 = .ok (.imul, 1) := by decide +kernel
theorem dL_isHit_209 : decode cL_isHit 209 = .ok (.iconst 4, 1) := by decide +kernel
theorem dL_isHit_210 : decode cL_isHit 210 = .ok (.iload 15, 2) := by decide +kernel
theorem dL_isHit_212 : decode cL_isHit 212 = .ok (.imul, 1) := by decide +kernel
theorem dL_isHit_213 : decode cL_isHit 213 = .ok (.iadd, 1) := by decide +kernel
theorem dL_isHit_214 : decode cL_isHit 214 = .ok (.iload 16, 2) := by decide +kernel
theorem dL_isHit_216 : decode cL_isHit 216 = .ok (.iadd, 1) := by decide +kernel
theorem dL_isHit_217 : decode cL_isHit 217 = .ok (.lshl, 1) := by decide +kernel
theorem dL_isHit_218 : decode cL_isHit 218 = .ok (.lor, 1) := by decide +kernel
theorem dL_isHit_219 : decode cL_isHit 219 = .ok (.lstore 8, 2) := by decide +kernel
theorem dL_isHit_221 : decode cL_isHit 221 = .ok (.iinc 12 1, 3) := by decide +kernel
theorem dL_isHit_224 : decode cL_isHit 224 = .ok (.goto (-140), 3) := by decide +kernel
theorem dL_isHit_227 : decode cL_isHit 227 = .ok (.iconst 0, 1) := by decide +kernel
theorem dL_isHit_228 : decode cL_isHit 228 = .ok (.istore 12, 2) := by decide +kernel
theorem dL_isHit_230 : decode cL_isHit 230 = .ok (.iload 12, 2) := by decide +kernel
theorem dL_isHit_232 : decode cL_isHit 232 = .ok (.iconst 3, 1) := by decide +kernel
theorem dL_isHit_233 : decode cL_isHit 233 = .ok (.if_icmp .ge 72, 3) := by decide +kernel
theorem dL_isHit_236 : decode cL_isHit 236 = .ok (.aload_n 0, 1) := by decide +kernel
theorem dL_isHit_237 : decode cL_isHit 237 = .ok (.iload_n 1, 1) := by decide +kernel
theorem dL_isHit_238 : decode cL_isHit 238 = .ok (.iload 4, 2) := by decide +kernel
theorem dL_isHit_240 : decode cL_isHit 240 = .ok (.iload 12, 2) := by decide +kernel
theorem dL_isHit_242 : decode cL_isHit 242 = .ok (.invokevirtual 92, 3) := by decide +kernel
theorem dL_isHit_245 : decode cL_isHit 245 = .ok (.istore 13, 2) := by decide +kernel
theorem dL_isHit_247 : decode cL_isHit 247 = .ok (.iload 7, 2) := by decide +kernel
theorem dL_isHit_249 : decode cL_isHit 249 = .ok (.ifCond .eq 47, 3) := by decide +kernel
theorem dL_isHit_252 : decode cL_isHit 252 = .ok (.iload 13, 2) := by decide +kernel
theorem dL_isHit_254 : decode cL_isHit 254 = .ok (.iconst 4, 1) := by decide +kernel
theorem dL_isHit_255 : decode cL_isHit 255 = .ok (.if_icmp .eq 37, 3) := by decide +kernel
theorem dL_isHit_258 : decode cL_isHit 258 = .ok (.iload 13, 2) := by decide +kernel
theorem dL_isHit_260 : decode cL_isHit 260 = .ok (.iload 12, 2) := by decide +kernel
theorem dL_isHit_262 : decode cL_isHit 262 = .ok (.ifCond .ne 10, 3) := by decide +kernel
theorem dL_isHit_265 : decode cL_isHit 265 = .ok (.iload_n 2, 1) := by decide +kernel
theorem dL_isHit_266 : decode cL_isHit 266 = .ok (.bipush 16, 2) := by decide +kernel
theorem dL_isHit_268 : decode cL_isHit 268 = .ok (.idiv, 1) := by decide +kernel
theorem dL_isHit_269 : decode cL_isHit 269 = .ok (.goto 20, 3) := by decide +kernel
theorem dL_isHit_272 : decode cL_isHit 272 = .ok (.iload 12, 2) := by decide +kernel
theorem dL_isHit_274 : decode cL_isHit 274 = .ok (.iconst 1, 1) := by decide +kernel
theorem dL_isHit_275 : decode cL_isHit 275 = .ok (.if_icmp .ne 11, 3) := by decide +kernel
theorem dL_isHit_278 : decode cL_isHit 278 = .ok (.iload_n 2, 1) := by decide +kernel
theorem dL_isHit_279 : decode cL_isHit 279 = .ok (.iconst 4, 1) := by decide +kernel
theorem dL_isHit_280 : decode cL_isHit 280 = .ok (.idiv, 1) := by decide +kernel
theorem dL_isHit_281 : decode cL_isHit 281 = .ok (.iconst 4, 1) := by decide +kernel
theorem dL_isHit_282 : decode cL_isHit 282 = .ok (.irem, 1) := by decide +kernel
theorem dL_isHit_283 : decode cL_isHit 283 = .ok (.goto 6, 3) := by decide +kernel
theorem dL_isHit_286 : decode cL_isHit 286 = .ok (.iload_n 2, 1) := by decide +kernel
theorem dL_isHit_287 : decode cL_isHit 287 = .ok (.iconst 4, 1) := by decide +kernel
theorem dL_isHit_288 : decode cL_isHit 288 = .ok (.irem, 1) := by decide +kernel
theorem dL_isHit_289 : decode cL_isHit 289 = .ok (.if_icmp .ne 7, 3) := by decide +kernel
theorem dL_isHit_292 : decode cL_isHit 292 = .ok (.iconst 1, 1) := by decide +kernel
theorem dL_isHit_293 : decode cL_isHit 293 = .ok (.goto 4, 3) := by decide +kernel
theorem dL_isHit_296 : decode cL_isHit 296 = .ok (.iconst 0, 1) := by decide +kernel
theorem dL_isHit_297 : decode cL_isHit 297 = .ok (.istore 7, 2) := by decide +kernel
theorem dL_isHit_299 : decode cL_isHit 299 = .ok (.iinc 12 1, 3) := by decide +kernel
theorem dL_isHit_302 : decode cL_isHit 302 = .ok (.goto (-72), 3) := by decide +kernel
theorem dL_isHit_305 : decode cL_isHit 305 = .ok (.iload 7, 2) := by decide +kernel
theorem dL_isHit_307 : decode cL_isHit 307 = .ok (.ifCond .eq 38, 3) := by decide +kernel
theorem dL_isHit_310 : decode cL_isHit 310 = .ok (.lload 8, 2) := by decide +kernel
theorem dL_isHit_312 : decode cL_isHit 312 = .ok (.lload 5, 2) := by decide +kernel
theorem dL_isHit_314 : decode cL_isHit 314 = .ok (.lcmp, 1) := by decide +kernel
theorem dL_isHit_315 : decode cL_isHit 315 = .ok (.ifCond .ne 30, 3) := by decide +kernel
theorem dL_isHit_318 : decode cL_isHit 318 = .ok (.aload_n 0, 1) := by decide +kernel
theorem dL_isHit_319 : decode cL_isHit 319 = .ok (.iload_n 1, 1) := by decide +kernel
theorem dL_isHit_320 : decode cL_isHit 320 = .ok (.iload 4, 2) := by decide +kernel
theorem dL_isHit_322 : decode cL_isHit 322 = .ok (.iload 10, 2) := by decide +kernel
theorem dL_isHit_324 : decode cL_isHit 324 = .ok (.invokevirtual 89, 3) := by decide +kernel
theorem dL_isHit_327 : decode cL_isHit 327 = .ok (.iconst (-1), 1) := by decide +kernel
theorem dL_isHit_328 : decode cL_isHit 328 = .ok (.if_icmp .ne 17, 3) := by decide +kernel
theorem dL_isHit_331 : decode cL_isHit 331 = .ok (.aload_n 0, 1) := by decide +kernel
theorem dL_isHit_332 : decode cL_isHit 332 = .ok (.iload_n 1, 1) := by decide +kernel
theorem dL_isHit_333 : decode cL_isHit 333 = .ok (.iload 4, 2) := by decide +kernel
theorem dL_isHit_335 : decode cL_isHit 335 = .ok (.invokevirtual 95, 3) := by decide +kernel
theorem dL_isHit_338 : decode cL_isHit 338 = .ok (.ifCond .le 7, 3) := by decide +kernel
theorem dL_isHit_341 : decode cL_isHit 341 = .ok (.iconst 1, 1) := by decide +kernel
theorem dL_isHit_342 : decode cL_isHit 342 = .ok (.goto 4, 3) := by decide +kernel
theorem dL_isHit_345 : decode cL_isHit 345 = .ok (.iconst 0, 1) := by decide +kernel
theorem dL_isHit_346 : decode cL_isHit 346 = .ok (.ireturn, 1) := by decide +kernel
theorem dL_isDrawn_0 : decode cL_isDrawn 0 = .ok (.aload_n 0, 1) := by decide +kernel
theorem dL_isDrawn_1 : decode cL_isDrawn 1 = .ok (.iload_n 1, 1) := by decide +kernel
theorem dL_isDrawn_2 : decode cL_isDrawn 2 = .ok (.invokevirtual 98, 3) := by decide +kernel
theorem dL_isDrawn_5 : decode cL_isDrawn 5 = .ok (.istore_n 3, 1) := by decide +kernel
theorem dL_isDrawn_6 : decode cL_isDrawn 6 = .ok (.aload_n 0, 1) := by decide +kernel
theorem dL_isDrawn_7 : decode cL_isDrawn 7 = .ok (.iload_n 1, 1) := by decide +kernel
theorem dL_isDrawn_8 : decode cL_isDrawn 8 = .ok (.invokevirtual 101, 3) := by decide +kernel
theorem dL_isDrawn_11 : decode cL_isDrawn 11 = .ok (.istore 4, 2) := by decide +kernel
theorem dL_isDrawn_13 : decode cL_isDrawn 13 = .ok (.aload_n 0, 1) := by decide +kernel
theorem dL_isDrawn_14 : decode cL_isDrawn 14 = .ok (.iload_n 1, 1) := by decide +kernel
theorem dL_isDrawn_15 : decode cL_isDrawn 15 = .ok (.invokevirtual 104, 3) := by decide +kernel
theorem dL_isDrawn_18 : decode cL_isDrawn 18 = .ok (.istore 5, 2) := by decide +kernel
theorem dL_isDrawn_20 : decode cL_isDrawn 20 = .ok (.aload_n 0, 1) := by decide +kernel
theorem dL_isDrawn_21 : decode cL_isDrawn 21 = .ok (.iload_n 1, 1) := by decide +kernel
theorem dL_isDrawn_22 : decode cL_isDrawn 22 = .ok (.invokevirtual 83, 3) := by decide +kernel
theorem dL_isDrawn_25 : decode cL_isDrawn 25 = .ok (.istore 6, 2) := by decide +kernel
theorem dL_isDrawn_27 : decode cL_isDrawn 27 = .ok (.iload 4, 2) := by decide +kernel
theorem dL_isDrawn_29 : decode cL_isDrawn 29 = .ok (.ifCond .le 122, 3) := by decide +kernel
theorem dL_isDrawn_32 : decode cL_isDrawn 32 = .ok (.iload 4, 2) := by decide +kernel
theorem dL_isDrawn_34 : decode cL_isDrawn 34 = .ok (.bipush 65, 2) := by decide +kernel
theorem dL_isDrawn_36 : decode cL_isDrawn 36 = .ok (.if_icmp .ge 115, 3) := by decide +kernel
theorem dL_isDrawn_39 : decode cL_isDrawn 39 = .ok (.iload_n 3, 1) := by decide +kernel
theorem dL_isDrawn_40 : decode cL_isDrawn 40 = .ok (.iload 4, 2) := by decide +kernel
theorem dL_isDrawn_42 : decode cL_isDrawn 42 = .ok (.if_icmp .lt 109, 3) := by decide +kernel
theorem dL_isDrawn_45 : decode cL_isDrawn 45 = .ok (.iload_n 3, 1) := by decide +kernel
theorem dL_isDrawn_46 : decode cL_isDrawn 46 = .ok (.iload 4, 2) := by decide +kernel
theorem dL_isDrawn_48 : decode cL_isDrawn 48 = .ok (.bipush 22, 2) := by decide +kernel
theorem dL_isDrawn_50 : decode cL_isDrawn 50 = .ok (.iadd, 1) := by decide +kernel
theorem dL_isDrawn_51 : decode cL_isDrawn 51 = .ok (.if_icmp .ge 100, 3) := by decide +kernel
theorem dL_isDrawn_54 : decode cL_isDrawn 54 = .ok (.iload 5, 2) := by decide +kernel
theorem dL_isDrawn_56 : decode cL_isDrawn 56 = .ok (.ifCond .lt 95, 3) := by decide +kernel
theorem dL_isDrawn_59 : decode cL_isDrawn 59 = .ok (.iload 5, 2) := by decide +kernel
theorem dL_isDrawn_61 : decode cL_isDrawn 61 = .ok (.iconst 4, 1) := by decide +kernel
theorem dL_isDrawn_62 : decode cL_isDrawn 62 = .ok (.if_icmp .ge 89, 3) := by decide +kernel
theorem dL_isDrawn_65 : decode cL_isDrawn 65 = .ok (.iload 5, 2) := by decide +kernel
theorem dL_isDrawn_67 : decode cL_isDrawn 67 = .ok (.ifCond .ne 7, 3) := by decide +kernel
theorem dL_isDrawn_70 : decode cL_isDrawn 70 = .ok (.iconst 1, 1) := by decide +kernel
theorem dL_isDrawn_71 : decode cL_isDrawn 71 = .ok (.goto 4, 3) := by decide +kernel
theorem dL_isDrawn_74 : decode cL_isDrawn 74 = .ok (.iconst 0, 1) := by decide +kernel
theorem dL_isDrawn_75 : decode cL_isDrawn 75 = .ok (.iload_n 3, 1) := by decide +kernel
theorem dL_isDrawn_76 : decode cL_isDrawn 76 = .ok (.iload 4, 2) := by decide +kernel
theorem dL_isDrawn_78 : decode cL_isDrawn 78 = .ok (.if_icmp .ne 7, 3) := by decide +kernel
theorem dL_isDrawn_81 : decode cL_isDrawn 81 = .ok (.iconst 1, 1) := by decide +kernel
theorem dL_isDrawn_82 : decode cL_isDrawn 82 = .ok (.goto 4, 3) := by decide +kernel
theorem dL_isDrawn_85 : decode cL_isDrawn 85 = .ok (.iconst 0, 1) := by decide +kernel
theorem dL_isDrawn_86 : decode cL_isDrawn 86 = .ok (.if_icmp .ne 65, 3) := by decide +kernel
theorem dL_isDrawn_89 : decode cL_isDrawn 89 = .ok (.iload 5, 2) := by decide +kernel
theorem dL_isDrawn_91 : decode cL_isDrawn 91 = .ok (.ifCond .gt 9, 3) := by decide +kernel
theorem dL_isDrawn_94 : decode cL_isDrawn 94 = .ok (.iload 4, 2) := by decide +kernel
theorem dL_isDrawn_96 : decode cL_isDrawn 96 = .ok (.iconst 1, 1) := by decide +kernel
theorem dL_isDrawn_97 : decode cL_isDrawn 97 = .ok (.if_icmp .ne 54, 3) := by decide +kernel
theorem dL_isDrawn_100 : decode cL_isDrawn 100 = .ok (.aload_n 0, 1) := by decide +kernel
theorem dL_isDrawn_101 : decode cL_isDrawn 101 = .ok (.iload_n 1, 1) := by decide +kernel
theorem dL_isDrawn_102 : decode cL_isDrawn 102 = .ok (.iload_n 1, 1) := by decide +kernel
theorem dL_isDrawn_103 : decode cL_isDrawn 103 = .ok (.invokevirtual 107, 3) := by decide +kernel
theorem dL_isDrawn_106 : decode cL_isDrawn 106 = .ok (.iload_n 3, 1) := by decide +kernel
theorem dL_isDrawn_107 : decode cL_isDrawn 107 = .ok (.if_icmp .ne 44, 3) := by decide +kernel
theorem dL_isDrawn_110 : decode cL_isDrawn 110 = .ok (.aload_n 0, 1) := by decide +kernel
theorem dL_isDrawn_111 : decode cL_isDrawn 111 = .ok (.iload_n 1, 1) := by decide +kernel
theorem dL_isDrawn_112 : decode cL_isDrawn 112 = .ok (.iload_n 2, 1) := by decide +kernel
theorem dL_isDrawn_113 : decode cL_isDrawn 113 = .ok (.invokevirtual 107, 3) := by decide +kernel
theorem dL_isDrawn_116 : decode cL_isDrawn 116 = .ok (.aload_n 0, 1) := by decide +kernel
theorem dL_isDrawn_117 : decode cL_isDrawn 117 = .ok (.iload_n 2, 1) := by decide +kernel
theorem dL_isDrawn_118 : decode cL_isDrawn 118 = .ok (.iload_n 1, 1) := by decide +kernel
theorem dL_isDrawn_119 : decode cL_isDrawn 119 = .ok (.invokevirtual 107, 3) := by decide +kernel
theorem dL_isDrawn_122 : decode cL_isDrawn 122 = .ok (.if_icmp .ne 29, 3) := by decide +kernel
theorem dL_isDrawn_125 : decode cL_isDrawn 125 = .ok (.aload_n 0, 1) := by decide +kernel
theorem dL_isDrawn_126 : decode cL_isDrawn 126 = .ok (.iload_n 1, 1) := by decide +kernel
theorem dL_isDrawn_127 : decode cL_isDrawn 127 = .ok (.iload_n 2, 1) := by decide +kernel
theorem dL_isDrawn_128 : decode cL_isDrawn 128 = .ok (.invokevirtual 107, 3) := by decide +kernel
theorem dL_isDrawn_131 : decode cL_isDrawn 131 = .ok (.iload_n 3, 1) := by decide +kernel
theorem dL_isDrawn_132 : decode cL_isDrawn 132 = .ok (.if_icmp .gt 19, 3) := by decide +kernel
theorem dL_isDrawn_135 : decode cL_isDrawn 135 = .ok (.iload 6, 2) := by decide +kernel
theorem dL_isDrawn_137 : decode cL_isDrawn 137 = .ok (.ifCond .lt 14, 3) := by decide +kernel
theorem dL_isDrawn_140 : decode cL_isDrawn 140 = .ok (.iload 6, 2) := by decide +kernel
theorem dL_isDrawn_142 : decode cL_isDrawn 142 = .ok (.bipush 65, 2) := by decide +kernel
theorem dL_isDrawn_144 : decode cL_isDrawn 144 = .ok (.if_icmp .ge 7, 3) := by decide +kernel
theorem dL_isDrawn_147 : decode cL_isDrawn 147 = .ok (.iconst 1, 1) := by decide +kernel
theorem dL_isDrawn_148 : decode cL_isDrawn 148 = .ok (.goto 4, 3) := by decide +kernel
theorem dL_isDrawn_151 : decode cL_isDrawn 151 = .ok (.iconst 0, 1) := by decide +kernel
theorem dL_isDrawn_152 : decode cL_isDrawn 152 = .ok (.istore 7, 2) := by decide +kernel
theorem dL_isDrawn_154 : decode cL_isDrawn 154 = .ok (.iload 7, 2) := by decide +kernel
theorem dL_isDrawn_156 : decode cL_isDrawn 156 = .ok (.ifCond .eq 76, 3) := by decide +kernel
theorem dL_isDrawn_159 : decode cL_isDrawn 159 = .ok (.iload 6, 2) := by decide +kernel
theorem dL_isDrawn_161 : decode cL_isDrawn 161 = .ok (.ifCond .ne 16, 3) := by decide +kernel
theorem dL_isDrawn_164 : decode cL_isDrawn 164 = .ok (.aload_n 0, 1) := by decide +kernel
theorem dL_isDrawn_165 : decode cL_isDrawn 165 = .ok (.iload_n 1, 1) := by decide +kernel
theorem dL_isDrawn_166 : decode cL_isDrawn 166 = .ok (.invokevirtual 110, 3) := by decide +kernel
theorem dL_isDrawn_169 : decode cL_isDrawn 169 = .ok (.lconst 0, 1) := by decide +kernel
theorem dL_isDrawn_170 : decode cL_isDrawn 170 = .ok (.lcmp, 1) := by decide +kernel
theorem dL_isDrawn_171 : decode cL_isDrawn 171 = .ok (.ifCond .ne 61, 3) := by decide +kernel
theorem dL_isDrawn_174 : decode cL_isDrawn 174 = .ok (.goto 16, 3) := by decide +kernel
theorem dL_isDrawn_177 : decode cL_isDrawn 177 = .ok (.aload_n 0, 1) := by decide +kernel
theorem dL_isDrawn_178 : decode cL_isDrawn 178 = .ok (.iload_n 1, 1) := by decide +kernel
theorem dL_isDrawn_179 : decode cL_isDrawn 179 = .ok (.iload 6, 2) := by decide +kernel
theorem dL_isDrawn_181 : decode cL_isDrawn 181 = .ok (.iconst 1, 1) := by decide +kernel
theorem dL_isDrawn_182 : decode cL_isDrawn 182 = .ok (.isub, 1) := by decide +kernel
theorem dL_isDrawn_183 : decode cL_isDrawn 183 = .ok (.iconst (-1), 1) := by decide +kernel
theorem dL_isDrawn_184 : decode cL_isDrawn 184 = .ok (.invokevirtual 89, 3) := by decide +kernel
theorem dL_isDrawn_187 : decode cL_isDrawn 187 = .ok (.ifCond .le 45, 3) := by decide +kernel
theorem dL_isDrawn_190 : decode cL_isDrawn 190 = .ok (.aload_n 0, 1) := by decide +kernel
theorem dL_isDrawn_191 : decode cL_isDrawn 191 = .ok (.iload_n 1, 1) := by decide +kernel
theorem dL_isDrawn_192 : decode cL_isDrawn 192 = .ok (.iload_n 2, 1) := by decide +kernel
theorem dL_isDrawn_193 : decode cL_isDrawn 193 = .ok (.invokevirtual 74, 3) := by decide +kernel
theorem dL_isDrawn_196 : decode cL_isDrawn 196 = .ok (.ifCond .ne 32, 3) := by decide +kernel
theorem dL_isDrawn_199 : decode cL_isDrawn 199 = .ok (.aload_n 0, 1) := by decide +kernel
theorem dL_isDrawn_200 : decode cL_isDrawn 200 = .ok (.iload_n 1, 1) := by decide +kernel
theorem dL_isDrawn_201 : decode cL_isDrawn 201 = .ok (.iload_n 2, 1) := by decide +kernel
theorem dL_isDrawn_202 : decode cL_isDrawn 202 = .ok (.invokevirtual 107, 3) := by decide +kernel
theorem dL_isDrawn_205 : decode cL_isDrawn 205 = .ok (.iload_n 3, 1) := by decide +kernel
theorem dL_isDrawn_206 : decode cL_isDrawn 206 = .ok (.if_icmp .ne 26, 3) := by decide +kernel
theorem dL_isDrawn_209 : decode cL_isDrawn 209 = .ok (.aload_n 0, 1) := by decide +kernel
theorem dL_isDrawn_210 : decode cL_isDrawn 210 = .ok (.iload_n 2, 1) := by decide +kernel
theorem dL_isDrawn_211 : decode cL_isDrawn 211 = .ok (.invokevirtual 98, 3) := by decide +kernel
theorem dL_isDrawn_214 : decode cL_isDrawn 214 = .ok (.iload_n 3, 1) := by decide +kernel
theorem dL_isDrawn_215 : decode cL_isDrawn 215 = .ok (.if_icmp .ne 17, 3) := by decide +kernel
theorem dL_isDrawn_218 : decode cL_isDrawn 218 = .ok (.aload_n 0, 1) := by decide +kernel
theorem dL_isDrawn_219 : decode cL_isDrawn 219 = .ok (.iload_n 2, 1) := by decide +kernel
theorem dL_isDrawn_220 : decode cL_isDrawn 220 = .ok (.invokevirtual 83, 3) := by decide +kernel
theorem dL_isDrawn_223 : decode cL_isDrawn 223 = .ok (.iload 6, 2) := by decide +kernel
theorem dL_isDrawn_225 : decode cL_isDrawn 225 = .ok (.if_icmp .ne 7, 3) := by decide +kernel
theorem dL_isDrawn_228 : decode cL_isDrawn 228 = .ok (.iconst 1, 1) := by decide +kernel
theorem dL_isDrawn_229 : decode cL_isDrawn 229 = .ok (.goto 4, 3) := by decide +kernel
theorem dL_isDrawn_232 : decode cL_isDrawn 232 = .ok (.iconst 0, 1) := by decide +kernel
theorem dL_isDrawn_233 : decode cL_isDrawn 233 = .ok (.istore 7, 2) := by decide +kernel
theorem dL_isDrawn_235 : decode cL_isDrawn 235 = .ok (.iconst 0, 1) := by decide +kernel
theorem dL_isDrawn_236 : decode cL_isDrawn 236 = .ok (.istore 8, 2) := by decide +kernel
theorem dL_isDrawn_238 : decode cL_isDrawn 238 = .ok (.iconst 0, 1) := by decide +kernel
theorem dL_isDrawn_239 : decode cL_isDrawn 239 = .ok (.istore 9, 2) := by decide +kernel
theorem dL_isDrawn_241 : decode cL_isDrawn 241 = .ok (.iload 9, 2) := by decide +kernel
theorem dL_isDrawn_243 : decode cL_isDrawn 243 = .ok (.iload 6, 2) := by decide +kernel
theorem dL_isDrawn_245 : decode cL_isDrawn 245 = .ok (.if_icmp .ge 26, 3) := by decide +kernel
theorem dL_isDrawn_248 : decode cL_isDrawn 248 = .ok (.iload 7, 2) := by decide +kernel
theorem dL_isDrawn_250 : decode cL_isDrawn 250 = .ok (.ifCond .eq 21, 3) := by decide +kernel
theorem dL_isDrawn_253 : decode cL_isDrawn 253 = .ok (.iload 8, 2) := by decide +kernel
theorem dL_isDrawn_255 : decode cL_isDrawn 255 = .ok (.aload_n 0, 1) := by decide +kernel
theorem dL_isDrawn_256 : decode cL_isDrawn 256 = .ok (.iload_n 1, 1) := by decide +kernel
theorem dL_isDrawn_257 : decode cL_isDrawn 257 = .ok (.iload 9, 2) := by decide +kernel
theorem dL_isDrawn_259 : decode cL_isDrawn 259 = .ok (.invokevirtual 95, 3) := by decide +kernel
theorem dL_isDrawn_262 : decode cL_isDrawn 262 = .ok (.iadd, 1) := by decide +kernel
theorem dL_isDrawn_263 : decode cL_isDrawn 263 = .ok (.istore 8, 2) := by decide +kernel
theorem dL_isDrawn_265 : decode cL_isDrawn 265 = .ok (.iinc 9 1, 3) := by decide +kernel
theorem dL_isDrawn_268 : decode cL_isDrawn 268 = .ok (.goto (-27), 3) := by decide +kernel
theorem dL_isDrawn_271 : decode cL_isDrawn 271 = .ok (.iload 7, 2) := by decide +kernel
theorem dL_isDrawn_273 : decode cL_isDrawn 273 = .ok (.ifCond .eq 93, 3) := by decide +kernel
theorem dL_isDrawn_276 : decode cL_isDrawn 276 = .ok (.iload 8, 2) := by decide +kernel
theorem dL_isDrawn_278 : decode cL_isDrawn 278 = .ok (.bipush 64, 2) := by decide +kernel
theorem dL_isDrawn_280 : decode cL_isDrawn 280 = .ok (.if_icmp .gt 86, 3) := by decide +kernel
theorem dL_isDrawn_283 : decode cL_isDrawn 283 = .ok (.iload 8, 2) := by decide +kernel
theorem dL_isDrawn_285 : decode cL_isDrawn 285 = .ok (.aload_n 0, 1) := by decide +kernel
theorem dL_isDrawn_286 : decode cL_isDrawn 286 = .ok (.iload_n 1, 1) := by decide +kernel
theorem dL_isDrawn_287 : decode cL_isDrawn 287 = .ok (.invokevirtual 110, 3) := by decide +kernel
theorem dL_isDrawn_290 : decode cL_isDrawn 290 = .ok (.invokestatic 113, 3) := by decide +kernel
theorem dL_isDrawn_293 : decode cL_isDrawn 293 = .ok (.if_icmp .lt 73, 3) := by decide +kernel
theorem dL_isDrawn_296 : decode cL_isDrawn 296 = .ok (.aload_n 0, 1) := by decide +kernel
theorem dL_isDrawn_297 : decode cL_isDrawn 297 = .ok (.iload_n 1, 1) := by decide +kernel
theorem dL_isDrawn_298 : decode cL_isDrawn 298 = .ok (.invokevirtual 117, 3) := by decide +kernel
theorem dL_isDrawn_301 : decode cL_isDrawn 301 = .ok (.bipush 64, 2) := by decide +kernel
theorem dL_isDrawn_303 : decode cL_isDrawn 303 = .ok (.if_icmp .gt 63, 3) := by decide +kernel
theorem dL_isDrawn_306 : decode cL_isDrawn 306 = .ok (.aload_n 0, 1) := by decide +kernel
theorem dL_isDrawn_307 : decode cL_isDrawn 307 = .ok (.iload_n 1, 1) := by decide +kernel
theorem dL_isDrawn_308 : decode cL_isDrawn 308 = .ok (.invokevirtual 117, 3) := by decide +kernel
theorem dL_isDrawn_311 : decode cL_isDrawn 311 = .ok (.ifCond .ne 7, 3) := by decide +kernel
theorem dL_isDrawn_314 : decode cL_isDrawn 314 = .ok (.iconst 1, 1) := by decide +kernel
theorem dL_isDrawn_315 : decode cL_isDrawn 315 = .ok (.goto 4, 3) := by decide +kernel
theorem dL_isDrawn_318 : decode cL_isDrawn 318 = .ok (.iconst 0, 1) := by decide +kernel
theorem dL_isDrawn_319 : decode cL_isDrawn 319 = .ok (.aload_n 0, 1) := by decide +kernel
theorem dL_isDrawn_320 : decode cL_isDrawn 320 = .ok (.iload_n 1, 1) := by decide +kernel
theorem dL_isDrawn_321 : decode cL_isDrawn 321 = .ok (.invokevirtual 110, 3) := by decide +kernel
theorem dL_isDrawn_324 : decode cL_isDrawn 324 = .ok (.lconst 0, 1) := by decide +kernel
theorem dL_isDrawn_325 : decode cL_isDrawn 325 = .ok (.lcmp, 1) := by decide +kernel
theorem dL_isDrawn_326 : decode cL_isDrawn 326 = .ok (.ifCond .ne 7, 3) := by decide +kernel
theorem dL_isDrawn_329 : decode cL_isDrawn 329 = .ok (.iconst 1, 1) := by decide +kernel
theorem dL_isDrawn_330 : decode cL_isDrawn 330 = .ok (.goto 4, 3) := by decide +kernel
theorem dL_isDrawn_333 : decode cL_isDrawn 333 = .ok (.iconst 0, 1) := by decide +kernel
theorem dL_isDrawn_334 : decode cL_isDrawn 334 = .ok (.if_icmp .ne 32, 3) := by decide +kernel
theorem dL_isDrawn_337 : decode cL_isDrawn 337 = .ok (.aload_n 0, 1) := by decide +kernel
theorem dL_isDrawn_338 : decode cL_isDrawn 338 = .ok (.iload_n 1, 1) := by decide +kernel
theorem dL_isDrawn_339 : decode cL_isDrawn 339 = .ok (.invokevirtual 43, 3) := by decide +kernel
theorem dL_isDrawn_342 : decode cL_isDrawn 342 = .ok (.ifCond .eq 20, 3) := by decide +kernel
theorem dL_isDrawn_345 : decode cL_isDrawn 345 = .ok (.aload_n 0, 1) := by decide +kernel
theorem dL_isDrawn_346 : decode cL_isDrawn 346 = .ok (.iload_n 1, 1) := by decide +kernel
theorem dL_isDrawn_347 : decode cL_isDrawn 347 = .ok (.invokevirtual 117, 3) := by decide +kernel
theorem dL_isDrawn_350 : decode cL_isDrawn 350 = .ok (.iconst 2, 1) := by decide +kernel
theorem dL_isDrawn_351 : decode cL_isDrawn 351 = .ok (.if_icmp .ge 15, 3) := by decide +kernel
theorem dL_isDrawn_354 : decode cL_isDrawn 354 = .ok (.aload_n 0, 1) := by decide +kernel
theorem dL_isDrawn_355 : decode cL_isDrawn 355 = .ok (.iload_n 1, 1) := by decide +kernel
theorem dL_isDrawn_356 : decode cL_isDrawn 356 = .ok (.invokevirtual 71, 3) := by decide +kernel
theorem dL_isDrawn_359 : decode cL_isDrawn 359 = .ok (.ifCond .ne 7, 3) := by decide +kernel
theorem dL_isDrawn_362 : decode cL_isDrawn 362 = .ok (.iconst 1, 1) := by decide +kernel
theorem dL_isDrawn_363 : decode cL_isDrawn 363 = .ok (.goto 4, 3) := by decide +kernel
theorem dL_isDrawn_366 : decode cL_isDrawn 366 = .ok (.iconst 0, 1) := by decide +kernel
theorem dL_isDrawn_367 : decode cL_isDrawn 367 = .ok (.ireturn, 1) := by decide +kernel
theorem dL_refused_0 : decode cL_refused 0 = .ok (.aload_n 0, 1) := by decide +kernel
theorem dL_refused_1 : decode cL_refused 1 = .ok (.invokestatic 50, 3) := by decide +kernel
theorem dL_refused_4 : decode cL_refused 4 = .ok (.lstore_n 1, 1) := by decide +kernel
theorem dL_refused_5 : decode cL_refused 5 = .ok (.aload_n 0, 1) := by decide +kernel
theorem dL_refused_6 : decode cL_refused 6 = .ok (.bipush (-2), 2) := by decide +kernel
theorem dL_refused_8 : decode cL_refused 8 = .ok (.invokevirtual 120, 3) := by decide +kernel
theorem dL_refused_11 : decode cL_refused 11 = .ok (.istore_n 3, 1) := by decide +kernel
theorem dL_refused_12 : decode cL_refused 12 = .ok (.aload_n 0, 1) := by decide +kernel
theorem dL_refused_13 : decode cL_refused 13 = .ok (.iconst (-1), 1) := by decide +kernel
theorem dL_refused_14 : decode cL_refused 14 = .ok (.invokevirtual 17, 3) := by decide +kernel
theorem dL_refused_17 : decode cL_refused 17 = .ok (.bipush (-2), 2) := by decide +kernel
theorem dL_refused_19 : decode cL_refused 19 = .ok (.if_icmp .ne 258, 3) := by decide +kernel
theorem dL_refused_22 : decode cL_refused 22 = .ok (.aload_n 0, 1) := by decide +kernel
theorem dL_refused_23 : decode cL_refused 23 = .ok (.iconst (-1), 1) := by decide +kernel
theorem dL_refused_24 : decode cL_refused 24 = .ok (.invokevirtual 21, 3) := by decide +kernel
theorem dL_refused_27 : decode cL_refused 27 = .ok (.bipush (-2), 2) := by decide +kernel
theorem dL_refused_29 : decode cL_refused 29 = .ok (.if_icmp .ne 248, 3) := by decide +kernel
theorem dL_refused_32 : decode cL_refused 32 = .ok (.aload_n 0, 1) := by decide +kernel
theorem dL_refused_33 : decode cL_refused 33 = .ok (.iconst (-1), 1) := by decide +kernel
theorem dL_refused_34 : decode cL_refused 34 = .ok (.iconst 0, 1) := by decide +kernel
theorem dL_refused_35 : decode cL_refused 35 = .ok (.iconst 0, 1) := by decide +kernel
theorem dL_refused_36 : decode cL_refused 36 = .ok (.iconst 0, 1) := by decide +kernel
theorem dL_refused_37 : decode cL_refused 37 = .ok (.invokevirtual 58, 3) := by decide +kernel
theorem dL_refused_40 : decode cL_refused 40 = .ok (.bipush (-2), 2) := by decide +kernel
theorem dL_refused_42 : decode cL_refused 42 = .ok (.if_icmp .ne 235, 3) := by decide +kernel
theorem dL_refused_45 : decode cL_refused 45 = .ok (.aload_n 0, 1) := by decide +kernel
theorem dL_refused_46 : decode cL_refused 46 = .ok (.iconst 0, 1) := by decide +kernel
theorem dL_refused_47 : decode cL_refused 47 = .ok (.iconst 4, 1) := by decide +kernel
theorem dL_refused_48 : decode cL_refused 48 = .ok (.iconst 0, 1) := by decide +kernel
theorem dL_refused_49 : decode cL_refused 49 = .ok (.invokevirtual 65, 3) := by decide +kernel
theorem dL_refused_52 : decode cL_refused 52 = .ok (.bipush (-2), 2) := by decide +kernel
theorem dL_refused_54 : decode cL_refused 54 = .ok (.if_icmp .ne 223, 3) := by decide +kernel
theorem dL_refused_57 : decode cL_refused 57 = .ok (.aload_n 0, 1) := by decide +kernel
theorem dL_refused_58 : decode cL_refused 58 = .ok (.iconst (-1), 1) := by decide +kernel
theorem dL_refused_59 : decode cL_refused 59 = .ok (.invokevirtual 40, 3) := by decide +kernel
theorem dL_refused_62 : decode cL_refused 62 = .ok (.bipush (-2), 2) := by decide +kernel
theorem dL_refused_64 : decode cL_refused 64 = .ok (.if_icmp .ne 213, 3) := by decide +kernel
theorem dL_refused_67 : decode cL_refused 67 = .ok (.aload_n 0, 1) := by decide +kernel
theorem dL_refused_68 : decode cL_refused 68 = .ok (.iconst 4, 1) := by decide +kernel
theorem dL_refused_69 : decode cL_refused 69 = .ok (.invokevirtual 43, 3) := by decide +kernel
theorem dL_refused_72 : decode cL_refused 72 = .ok (.bipush (-2), 2) := by decide +kernel
theorem dL_refused_74 : decode cL_refused 74 = .ok (.if_icmp .ne 203, 3) := by decide +kernel
theorem dL_refused_77 : decode cL_refused 77 = .ok (.aload_n 0, 1) := by decide +kernel
theorem dL_refused_78 : decode cL_refused 78 = .ok (.iconst (-1), 1) := by decide +kernel
theorem dL_refused_79 : decode cL_refused 79 = .ok (.iconst 0, 1) := by decide +kernel
theorem dL_refused_80 : decode cL_refused 80 = .ok (.invokevirtual 46, 3) := by decide +kernel
theorem dL_refused_83 : decode cL_refused 83 = .ok (.bipush (-2), 2) := by decide +kernel
theorem dL_refused_85 : decode cL_refused 85 = .ok (.if_icmp .ne 192, 3) := by decide +kernel
theorem dL_refused_88 : decode cL_refused 88 = .ok (.aload_n 0, 1) := by decide +kernel
theorem dL_refused_89 : decode cL_refused 89 = .ok (.iconst 0, 1) := by decide +kernel
theorem dL_refused_90 : decode cL_refused 90 = .ok (.iconst (-1), 1) := by decide +kernel
theorem dL_refused_91 : decode cL_refused 91 = .ok (.invokevirtual 54, 3) := by decide +kernel
theorem dL_refused_94 : decode cL_refused 94 = .ok (.ldc2_w 123, 3) := by decide +kernel
theorem dL_refused_97 : decode cL_refused 97 = .ok (.lcmp, 1) := by decide +kernel
theorem dL_refused_98 : decode cL_refused 98 = .ok (.ifCond .ne 179, 3) := by decide +kernel
theorem dL_refused_101 : decode cL_refused 101 = .ok (.aload_n 0, 1) := by decide +kernel
theorem dL_refused_102 : decode cL_refused 102 = .ok (.iconst 4, 1) := by decide +kernel
theorem dL_refused_103 : decode cL_refused 103 = .ok (.invokevirtual 110, 3) := by decide +kernel
theorem dL_refused_106 : decode cL_refused 106 = .ok (.ldc2_w 123, 3) := by decide +kernel
theorem dL_refused_109 : decode cL_refused 109 = .ok (.lcmp, 1) := by decide +kernel
theorem dL_refused_110 : decode cL_refused 110 = .ok (.ifCond .ne 167, 3) := by decide +kernel
theorem dL_refused_113 : decode cL_refused 113 = .ok (.aload_n 0, 1) := by decide +kernel
theorem dL_refused_114 : decode cL_refused 114 = .ok (.iconst (-1), 1) := by decide +kernel
theorem dL_refused_115 : decode cL_refused 115 = .ok (.invokevirtual 117, 3) := by decide +kernel
theorem dL_refused_118 : decode cL_refused 118 = .ok (.bipush (-2), 2) := by decide +kernel
theorem dL_refused_120 : decode cL_refused 120 = .ok (.if_icmp .ne 157, 3) := by decide +kernel
theorem dL_refused_123 : decode cL_refused 123 = .ok (.aload_n 0, 1) := by decide +kernel
theorem dL_refused_124 : decode cL_refused 124 = .ok (.iconst 4, 1) := by decide +kernel
theorem dL_refused_125 : decode cL_refused 125 = .ok (.invokevirtual 71, 3) := by decide +kernel
theorem dL_refused_128 : decode cL_refused 128 = .ok (.bipush (-2), 2) := by decide +kernel
theorem dL_refused_130 : decode cL_refused 130 = .ok (.if_icmp .ne 147, 3) := by decide +kernel
theorem dL_refused_133 : decode cL_refused 133 = .ok (.aload_n 0, 1) := by decide +kernel
theorem dL_refused_134 : decode cL_refused 134 = .ok (.iconst (-1), 1) := by decide +kernel
theorem dL_refused_135 : decode cL_refused 135 = .ok (.iconst 0, 1) := by decide +kernel
theorem dL_refused_136 : decode cL_refused 136 = .ok (.invokevirtual 74, 3) := by decide +kernel
theorem dL_refused_139 : decode cL_refused 139 = .ok (.bipush (-2), 2) := by decide +kernel
theorem dL_refused_141 : decode cL_refused 141 = .ok (.if_icmp .ne 136, 3) := by decide +kernel
theorem dL_refused_144 : decode cL_refused 144 = .ok (.aload_n 0, 1) := by decide +kernel
theorem dL_refused_145 : decode cL_refused 145 = .ok (.iconst 0, 1) := by decide +kernel
theorem dL_refused_146 : decode cL_refused 146 = .ok (.iconst 4, 1) := by decide +kernel
theorem dL_refused_147 : decode cL_refused 147 = .ok (.invokevirtual 77, 3) := by decide +kernel
theorem dL_refused_150 : decode cL_refused 150 = .ok (.bipush (-2), 2) := by decide +kernel
theorem dL_refused_152 : decode cL_refused 152 = .ok (.if_icmp .ne 125, 3) := by decide +kernel
theorem dL_refused_155 : decode cL_refused 155 = .ok (.aload_n 0, 1) := by decide +kernel
theorem dL_refused_156 : decode cL_refused 156 = .ok (.iconst 0, 1) := by decide +kernel
theorem dL_refused_157 : decode cL_refused 157 = .ok (.iconst (-1), 1) := by decide +kernel
theorem dL_refused_158 : decode cL_refused 158 = .ok (.invokevirtual 80, 3) := by decide +kernel
theorem dL_refused_161 : decode cL_refused 161 = .ok (.bipush (-2), 2) := by decide +kernel
theorem dL_refused_163 : decode cL_refused 163 = .ok (.if_icmp .ne 114, 3) := by decide +kernel
theorem dL_refused_166 : decode cL_refused 166 = .ok (.aload_n 0, 1) := by decide +kernel
theorem dL_refused_167 : decode cL_refused 167 = .ok (.iconst (-1), 1) := by decide +kernel
theorem dL_refused_168 : decode cL_refused 168 = .ok (.invokevirtual 98, 3) := by decide +kernel
theorem dL_refused_171 : decode cL_refused 171 = .ok (.bipush (-2), 2) := by decide +kernel
theorem dL_refused_173 : decode cL_refused 173 = .ok (.if_icmp .ne 104, 3) := by decide +kernel
theorem dL_refused_176 : decode cL_refused 176 = .ok (.aload_n 0, 1) := by decide +kernel
theorem dL_refused_177 : decode cL_refused 177 = .ok (.iconst 4, 1) := by decide +kernel
theorem dL_refused_178 : decode cL_refused 178 = .ok (.invokevirtual 101, 3) := by decide +kernel
theorem dL_refused_181 : decode cL_refused 181 = .ok (.bipush (-2), 2) := by decide +kernel
theorem dL_refused_183 : decode cL_refused 183 = .ok (.if_icmp .ne 94, 3) := by decide +kernel
theorem dL_refused_186 : decode cL_refused 186 = .ok (.aload_n 0, 1) := by decide +kernel
theorem dL_refused_187 : decode cL_refused 187 = .ok (.iconst 4, 1) := by decide +kernel
theorem dL_refused_188 : decode cL_refused 188 = .ok (.invokevirtual 104, 3) := by decide +kernel
theorem dL_refused_191 : decode cL_refused 191 = .ok (.bipush (-2), 2) := by decide +kernel
theorem dL_refused_193 : decode cL_refused 193 = .ok (.if_icmp .ne 84, 3) := by decide +kernel
theorem dL_refused_196 : decode cL_refused 196 = .ok (.aload_n 0, 1) := by decide +kernel
theorem dL_refused_197 : decode cL_refused 197 = .ok (.iconst (-1), 1) := by decide +kernel
theorem dL_refused_198 : decode cL_refused 198 = .ok (.iconst 0, 1) := by decide +kernel
theorem dL_refused_199 : decode cL_refused 199 = .ok (.invokevirtual 107, 3) := by decide +kernel
theorem dL_refused_202 : decode cL_refused 202 = .ok (.bipush (-2), 2) := by decide +kernel
theorem dL_refused_204 : decode cL_refused 204 = .ok (.if_icmp .ne 73, 3) := by decide +kernel
theorem dL_refused_207 : decode cL_refused 207 = .ok (.aload_n 0, 1) := by decide +kernel
theorem dL_refused_208 : decode cL_refused 208 = .ok (.iconst 4, 1) := by decide +kernel
theorem dL_refused_209 : decode cL_refused 209 = .ok (.invokevirtual 83, 3) := by decide +kernel
theorem dL_refused_212 : decode cL_refused 212 = .ok (.bipush (-2), 2) := by decide +kernel
theorem dL_refused_214 : decode cL_refused 214 = .ok (.if_icmp .ne 63, 3) := by decide +kernel
theorem dL_refused_217 : decode cL_refused 217 = .ok (.aload_n 0, 1) := by decide +kernel
theorem dL_refused_218 : decode cL_refused 218 = .ok (.iconst 0, 1) := by decide +kernel
theorem dL_refused_219 : decode cL_refused 219 = .ok (.iconst (-1), 1) := by decide +kernel
theorem dL_refused_220 : decode cL_refused 220 = .ok (.iconst 0, 1) := by decide +kernel
theorem dL_refused_221 : decode cL_refused 221 = .ok (.invokevirtual 92, 3) := by decide +kernel
theorem dL_refused_224 : decode cL_refused 224 = .ok (.bipush (-2), 2) := by decide +kernel
theorem dL_refused_226 : decode cL_refused 226 = .ok (.if_icmp .ne 51, 3) := by decide +kernel
theorem dL_refused_229 : decode cL_refused 229 = .ok (.aload_n 0, 1) := by decide +kernel
theorem dL_refused_230 : decode cL_refused 230 = .ok (.iconst 0, 1) := by decide +kernel
theorem dL_refused_231 : decode cL_refused 231 = .ok (.iconst (-1), 1) := by decide +kernel
theorem dL_refused_232 : decode cL_refused 232 = .ok (.iconst 0, 1) := by decide +kernel
theorem dL_refused_233 : decode cL_refused 233 = .ok (.invokevirtual 89, 3) := by decide +kernel
theorem dL_refused_236 : decode cL_refused 236 = .ok (.bipush (-2), 2) := by decide +kernel
theorem dL_refused_238 : decode cL_refused 238 = .ok (.if_icmp .ne 39, 3) := by decide +kernel
theorem dL_refused_241 : decode cL_refused 241 = .ok (.aload_n 0, 1) := by decide +kernel
theorem dL_refused_242 : decode cL_refused 242 = .ok (.iconst 0, 1) := by decide +kernel
theorem dL_refused_243 : decode cL_refused 243 = .ok (.iconst (-1), 1) := by decide +kernel
theorem dL_refused_244 : decode cL_refused 244 = .ok (.invokevirtual 86, 3) := by decide +kernel
theorem dL_refused_247 : decode cL_refused 247 = .ok (.bipush (-2), 2) := by decide +kernel
theorem dL_refused_249 : decode cL_refused 249 = .ok (.if_icmp .ne 28, 3) := by decide +kernel
theorem dL_refused_252 : decode cL_refused 252 = .ok (.aload_n 0, 1) := by decide +kernel
theorem dL_refused_253 : decode cL_refused 253 = .ok (.iconst 0, 1) := by decide +kernel
theorem dL_refused_254 : decode cL_refused 254 = .ok (.iconst (-1), 1) := by decide +kernel
theorem dL_refused_255 : decode cL_refused 255 = .ok (.invokevirtual 95, 3) := by decide +kernel
theorem dL_refused_258 : decode cL_refused 258 = .ok (.bipush (-2), 2) := by decide +kernel
theorem dL_refused_260 : decode cL_refused 260 = .ok (.if_icmp .ne 17, 3) := by decide +kernel
theorem dL_refused_263 : decode cL_refused 263 = .ok (.aload_n 0, 1) := by decide +kernel
theorem dL_refused_264 : decode cL_refused 264 = .ok (.iconst 0, 1) := by decide +kernel
theorem dL_refused_265 : decode cL_refused 265 = .ok (.invokevirtual 120, 3) := by decide +kernel
theorem dL_refused_268 : decode cL_refused 268 = .ok (.bipush (-2), 2) := by decide +kernel
theorem dL_refused_270 : decode cL_refused 270 = .ok (.if_icmp .ne 7, 3) := by decide +kernel
theorem dL_refused_273 : decode cL_refused 273 = .ok (.iconst 1, 1) := by decide +kernel
theorem dL_refused_274 : decode cL_refused 274 = .ok (.goto 4, 3) := by decide +kernel
theorem dL_refused_277 : decode cL_refused 277 = .ok (.iconst 0, 1) := by decide +kernel
theorem dL_refused_278 : decode cL_refused 278 = .ok (.istore 4, 2) := by decide +kernel
theorem dL_refused_280 : decode cL_refused 280 = .ok (.iload 4, 2) := by decide +kernel
theorem dL_refused_282 : decode cL_refused 282 = .ok (.ifCond .eq 29, 3) := by decide +kernel
theorem dL_refused_285 : decode cL_refused 285 = .ok (.aload_n 0, 1) := by decide +kernel
theorem dL_refused_286 : decode cL_refused 286 = .ok (.bipush (-2), 2) := by decide +kernel
theorem dL_refused_288 : decode cL_refused 288 = .ok (.invokevirtual 120, 3) := by decide +kernel
theorem dL_refused_291 : decode cL_refused 291 = .ok (.iload_n 3, 1) := by decide +kernel
theorem dL_refused_292 : decode cL_refused 292 = .ok (.bipush 24, 2) := by decide +kernel
theorem dL_refused_294 : decode cL_refused 294 = .ok (.iadd, 1) := by decide +kernel
theorem dL_refused_295 : decode cL_refused 295 = .ok (.if_icmp .ne 16, 3) := by decide +kernel
theorem dL_refused_298 : decode cL_refused 298 = .ok (.aload_n 0, 1) := by decide +kernel
theorem dL_refused_299 : decode cL_refused 299 = .ok (.invokestatic 50, 3) := by decide +kernel
theorem dL_refused_302 : decode cL_refused 302 = .ok (.lload_n 1, 1) := by decide +kernel
theorem dL_refused_303 : decode cL_refused 303 = .ok (.lcmp, 1) := by decide +kernel
theorem dL_refused_304 : decode cL_refused 304 = .ok (.ifCond .ne 7, 3) := by decide +kernel
theorem dL_refused_307 : decode cL_refused 307 = .ok (.iconst 1, 1) := by decide +kernel
theorem dL_refused_308 : decode cL_refused 308 = .ok (.goto 4, 3) := by decide +kernel
theorem dL_refused_311 : decode cL_refused 311 = .ok (.iconst 0, 1) := by decide +kernel
theorem dL_refused_312 : decode cL_refused 312 = .ok (.ireturn, 1) := by decide +kernel
theorem dL_law_0 : decode cL_law 0 = .ok (.new 10, 3) := by decide +kernel
theorem dL_law_3 : decode cL_law 3 = .ok (.dup, 1) := by decide +kernel
theorem dL_law_4 : decode cL_law 4 = .ok (.invokespecial 125, 3) := by decide +kernel
theorem dL_law_7 : decode cL_law 7 = .ok (.astore_n 1, 1) := by decide +kernel
theorem dL_law_8 : decode cL_law 8 = .ok (.aload_n 1, 1) := by decide +kernel
theorem dL_law_9 : decode cL_law 9 = .ok (.invokevirtual 62, 3) := by decide +kernel
theorem dL_law_12 : decode cL_law 12 = .ok (.bipush (-6), 2) := by decide +kernel
theorem dL_law_14 : decode cL_law 14 = .ok (.if_icmp .ne 35, 3) := by decide +kernel
theorem dL_law_17 : decode cL_law 17 = .ok (.aload_n 1, 1) := by decide +kernel
theorem dL_law_18 : decode cL_law 18 = .ok (.iconst 0, 1) := by decide +kernel
theorem dL_law_19 : decode cL_law 19 = .ok (.iconst 1, 1) := by decide +kernel
theorem dL_law_20 : decode cL_law 20 = .ok (.invokestatic 126, 3) := by decide +kernel
theorem dL_law_23 : decode cL_law 23 = .ok (.ifCond .eq 26, 3) := by decide +kernel
theorem dL_law_26 : decode cL_law 26 = .ok (.aload_n 1, 1) := by decide +kernel
theorem dL_law_27 : decode cL_law 27 = .ok (.iconst 2, 1) := by decide +kernel
theorem dL_law_28 : decode cL_law 28 = .ok (.bipush 27, 2) := by decide +kernel
theorem dL_law_30 : decode cL_law 30 = .ok (.invokestatic 130, 3) := by decide +kernel
theorem dL_law_33 : decode cL_law 33 = .ok (.ifCond .eq 16, 3) := by decide +kernel
theorem dL_law_36 : decode cL_law 36 = .ok (.aload_n 1, 1) := by decide +kernel
theorem dL_law_37 : decode cL_law 37 = .ok (.iconst 0, 1) := by decide +kernel
theorem dL_law_38 : decode cL_law 38 = .ok (.iconst 3, 1) := by decide +kernel
theorem dL_law_39 : decode cL_law 39 = .ok (.invokestatic 133, 3) := by decide +kernel
theorem dL_law_42 : decode cL_law 42 = .ok (.ifCond .eq 7, 3) := by decide +kernel
theorem dL_law_45 : decode cL_law 45 = .ok (.iconst 1, 1) := by decide +kernel
theorem dL_law_46 : decode cL_law 46 = .ok (.goto 4, 3) := by decide +kernel
theorem dL_law_49 : decode cL_law 49 = .ok (.iconst 0, 1) := by decide +kernel
theorem dL_law_50 : decode cL_law 50 = .ok (.istore_n 2, 1) := by decide +kernel
theorem dL_law_51 : decode cL_law 51 = .ok (.iconst 0, 1) := by decide +kernel
theorem dL_law_52 : decode cL_law 52 = .ok (.istore_n 3, 1) := by decide +kernel
theorem dL_law_53 : decode cL_law 53 = .ok (.iload_n 3, 1) := by decide +kernel
theorem dL_law_54 : decode cL_law 54 = .ok (.bipush 22, 2) := by decide +kernel
theorem dL_law_56 : decode cL_law 56 = .ok (.if_icmp .ge 586, 3) := by decide +kernel
theorem dL_law_59 : decode cL_law 59 = .ok (.iload_n 2, 1) := by decide +kernel
theorem dL_law_60 : decode cL_law 60 = .ok (.ifCond .eq 582, 3) := by decide +kernel
theorem dL_law_63 : decode cL_law 63 = .ok (.aload_n 0, 1) := by decide +kernel
theorem dL_law_64 : decode cL_law 64 = .ok (.iconst 2, 1) := by decide +kernel
theorem dL_law_65 : decode cL_law 65 = .ok (.iload_n 3, 1) := by decide +kernel
theorem dL_law_66 : decode cL_law 66 = .ok (.imul, 1) := by decide +kernel
theorem dL_law_67 : decode cL_law 67 = .ok (.invokestatic 136, 3) := by decide +kernel
theorem dL_law_70 : decode cL_law 70 = .ok (.istore 4, 2) := by decide +kernel
theorem dL_law_72 : decode cL_law 72 = .ok (.aload_n 0, 1) := by decide +kernel
theorem dL_law_73 : decode cL_law 73 = .ok (.iconst 2, 1) := by decide +kernel
theorem dL_law_74 : decode cL_law 74 = .ok (.iload_n 3, 1) := by decide +kernel
theorem dL_law_75 : decode cL_law 75 = .ok (.imul, 1) := by decide +kernel
theorem dL_law_76 : decode cL_law 76 = .ok (.iconst 1, 1) := by decide +kernel
theorem dL_law_77 : decode cL_law 77 = .ok (.iadd, 1) := by decide +kernel
theorem dL_law_78 : decode cL_law 78 = .ok (.invokestatic 136, 3) := by decide +kernel
theorem dL_law_81 : decode cL_law 81 = .ok (.istore 5, 2) := by decide +kernel
theorem dL_law_83 : decode cL_law 83 = .ok (.iload 5, 2) := by decide +kernel
theorem dL_law_85 : decode cL_law 85 = .ok (.iconst 4, 1) := by decide +kernel
theorem dL_law_86 : decode cL_law 86 = .ok (.invokestatic 140, 3) := by decide +kernel
theorem dL_law_89 : decode cL_law 89 = .ok (.istore 6, 2) := by decide +kernel
theorem dL_law_91 : decode cL_law 91 = .ok (.iload 5, 2) := by decide +kernel
theorem dL_law_93 : decode cL_law 93 = .ok (.iconst 3, 1) := by decide +kernel
theorem dL_law_94 : decode cL_law 94 = .ok (.ishr, 1) := by decide +kernel
theorem dL_law_95 : decode cL_law 95 = .ok (.iconst 4, 1) := by decide +kernel
theorem dL_law_96 : decode cL_law 96 = .ok (.invokestatic 140, 3) := by decide +kernel
theorem dL_law_99 : decode cL_law 99 = .ok (.istore 7, 2) := by decide +kernel
theorem dL_law_101 : decode cL_law 101 = .ok (.iload 5, 2) := by decide +kernel
theorem dL_law_103 : decode cL_law 103 = .ok (.bipush 6, 2) := by decide +kernel
theorem dL_law_105 : decode cL_law 105 = .ok (.ishr, 1) := by decide +kernel
theorem dL_law_106 : decode cL_law 106 = .ok (.iconst 3, 1) := by decide +kernel
theorem dL_law_107 : decode cL_law 107 = .ok (.invokestatic 140, 3) := by decide +kernel
theorem dL_law_110 : decode cL_law 110 = .ok (.istore 8, 2) := by decide +kernel
theorem dL_law_112 : decode cL_law 112 = .ok (.iload 5, 2) := by decide +kernel
theorem dL_law_114 : decode cL_law 114 = .ok (.bipush 9, 2) := by decide +kernel
theorem dL_law_116 : decode cL_law 116 = .ok (.ishr, 1) := by decide +kernel
theorem dL_law_117 : decode cL_law 117 = .ok (.bipush 64, 2) := by decide +kernel
theorem dL_law_119 : decode cL_law 119 = .ok (.invokestatic 140, 3) := by decide +kernel
theorem dL_law_122 : decode cL_law 122 = .ok (.istore 9, 2) := by decide +kernel
theorem dL_law_124 : decode cL_law 124 = .ok (.aload_n 1, 1) := by decide +kernel
theorem dL_law_125 : decode cL_law 125 = .ok (.invokestatic 50, 3) := by decide +kernel
theorem dL_law_128 : decode cL_law 128 = .ok (.lstore 10, 2) := by decide +kernel
theorem dL_law_130 : decode cL_law 130 = .ok (.iload_n 3, 1) := by decide +kernel
theorem dL_law_131 : decode cL_law 131 = .ok (.iconst 4, 1) := by decide +kernel
theorem dL_law_132 : decode cL_law 132 = .ok (.if_icmp .ge 7, 3) := by decide +kernel
theorem dL_law_135 : decode cL_law 135 = .ok (.iconst 0, 1) := by decide +kernel
theorem dL_law_136 : decode cL_law 136 = .ok (.goto 10, 3) := by decide +kernel
theorem dL_law_139 : decode cL_law 139 = .ok (.iload 4, 2) := by decide +kernel
theorem dL_law_141 : decode cL_law 141 = .ok (.bipush 10, 2) := by decide +kernel
theorem dL_law_143 : decode cL_law 143 = .ok (.invokestatic 140, 3) := by decide +kernel
theorem dL_law_146 : decode cL_law 146 = .ok (.istore 13, 2) := by decide +kernel
theorem dL_law_148 : decode cL_law 148 = .ok (.iload 13, 2) := by decide +kernel
theorem dL_law_150 : decode cL_law 150 = .ok (.iconst 4, 1) := by decide +kernel
theorem dL_law_151 : decode cL_law 151 = .ok (.if_icmp .ge 86, 3) := by decide +kernel
theorem dL_law_154 : decode cL_law 154 = .ok (.aload_n 1, 1) := by decide +kernel
theorem dL_law_155 : decode cL_law 155 = .ok (.bipush 120, 2) := by decide +kernel
theorem dL_law_157 : decode cL_law 157 = .ok (.iload 4, 2) := by decide +kernel
theorem dL_law_159 : decode cL_law 159 = .ok (.bipush 8, 2) := by decide +kernel
theorem dL_law_161 : decode cL_law 161 = .ok (.ishr, 1) := by decide +kernel
theorem dL_law_162 : decode cL_law 162 = .ok (.iconst 3, 1) := by decide +kernel
theorem dL_law_163 : decode cL_law 163 = .ok (.invokestatic 140, 3) := by decide +kernel
theorem dL_law_166 : decode cL_law 166 = .ok (.iadd, 1) := by decide +kernel
theorem dL_law_167 : decode cL_law 167 = .ok (.i2l, 1) := by decide +kernel
theorem dL_law_168 : decode cL_law 168 = .ok (.bipush 8, 2) := by decide +kernel
theorem dL_law_170 : decode cL_law 170 = .ok (.lshl, 1) := by decide +kernel
theorem dL_law_171 : decode cL_law 171 = .ok (.iload 4, 2) := by decide +kernel
theorem dL_law_173 : decode cL_law 173 = .ok (.bipush 11, 2) := by decide +kernel
theorem dL_law_175 : decode cL_law 175 = .ok (.ishr, 1) := by decide +kernel
theorem dL_law_176 : decode cL_law 176 = .ok (.iconst 1, 1) := by decide +kernel
theorem dL_law_177 : decode cL_law 177 = .ok (.iand, 1) := by decide +kernel
theorem dL_law_178 : decode cL_law 178 = .ok (.ifCond .ne 8, 3) := by decide +kernel
theorem dL_law_181 : decode cL_law 181 = .ok (.bipush 61, 2) := by decide +kernel
theorem dL_law_183 : decode cL_law 183 = .ok (.goto 5, 3) := by decide +kernel
theorem dL_law_186 : decode cL_law 186 = .ok (.bipush 58, 2) := by decide +kernel
theorem dL_law_188 : decode cL_law 188 = .ok (.i2l, 1) := by decide +kernel
theorem dL_law_189 : decode cL_law 189 = .ok (.lor, 1) := by decide +kernel
theorem dL_law_190 : decode cL_law 190 = .ok (.bipush 8, 2) := by decide +kernel
theorem dL_law_192 : decode cL_law 192 = .ok (.lshl, 1) := by decide +kernel
theorem dL_law_193 : decode cL_law 193 = .ok (.bipush 48, 2) := by decide +kernel
theorem dL_law_195 : decode cL_law 195 = .ok (.iload 4, 2) := by decide +kernel
theorem dL_law_197 : decode cL_law 197 = .ok (.iconst 5, 1) := by decide +kernel
theorem dL_law_198 : decode cL_law 198 = .ok (.ishr, 1) := by decide +kernel
theorem dL_law_199 : decode cL_law 199 = .ok (.iconst 4, 1) := by decide +kernel
theorem dL_law_200 : decode cL_law 200 = .ok (.invokestatic 140, 3) := by decide +kernel
theorem dL_law_203 : decode cL_law 203 = .ok (.iadd, 1) := by decide +kernel
theorem dL_law_204 : decode cL_law 204 = .ok (.i2l, 1) := by decide +kernel
theorem dL_law_205 : decode cL_law 205 = .ok (.lor, 1) := by decide +kernel
theorem dL_law_206 : decode cL_law 206 = .ok (.iload_n 3, 1) := by decide +kernel
theorem dL_law_207 : decode cL_law 207 = .ok (.iconst 4, 1) := by decide +kernel
theorem dL_law_208 : decode cL_law 208 = .ok (.if_icmp .ge 7, 3) := by decide +kernel
theorem dL_law_211 : decode cL_law 211 = .ok (.iload_n 3, 1) := by decide +kernel
theorem dL_law_212 : decode cL_law 212 = .ok (.goto 5, 3) := by decide +kernel
theorem dL_law_215 : decode cL_law 215 = .ok (.iload 8, 2) := by decide +kernel
theorem dL_law_217 : decode cL_law 217 = .ok (.invokestatic 143, 3) := by decide +kernel
theorem dL_law_220 : decode cL_law 220 = .ok (.istore 12, 2) := by decide +kernel
theorem dL_law_222 : decode cL_law 222 = .ok (.iload 12, 2) := by decide +kernel
theorem dL_law_224 : decode cL_law 224 = .ok (.iconst 1, 1) := by decide +kernel
theorem dL_law_225 : decode cL_law 225 = .ok (.if_icmp .ne 7, 3) := by decide +kernel
theorem dL_law_228 : decode cL_law 228 = .ok (.iconst 1, 1) := by decide +kernel
theorem dL_law_229 : decode cL_law 229 = .ok (.goto 4, 3) := by decide +kernel
theorem dL_law_232 : decode cL_law 232 = .ok (.iconst 0, 1) := by decide +kernel
theorem dL_law_233 : decode cL_law 233 = .ok (.istore_n 2, 1) := by decide +kernel
theorem dL_law_234 : decode cL_law 234 = .ok (.goto 204, 3) := by decide +kernel
theorem dL_law_237 : decode cL_law 237 = .ok (.iload 13, 2) := by decide +kernel
theorem dL_law_239 : decode cL_law 239 = .ok (.bipush 6, 2) := by decide +kernel
theorem dL_law_241 : decode cL_law 241 = .ok (.if_icmp .ge 49, 3) := by decide +kernel
theorem dL_law_244 : decode cL_law 244 = .ok (.aload_n 1, 1) := by decide +kernel
theorem dL_law_245 : decode cL_law 245 = .ok (.iload 4, 2) := by decide +kernel
theorem dL_law_247 : decode cL_law 247 = .ok (.iconst 5, 1) := by decide +kernel
theorem dL_law_248 : decode cL_law 248 = .ok (.ishr, 1) := by decide +kernel
theorem dL_law_249 : decode cL_law 249 = .ok (.iconst 1, 1) := by decide +kernel
theorem dL_law_250 : decode cL_law 250 = .ok (.iand, 1) := by decide +kernel
theorem dL_law_251 : decode cL_law 251 = .ok (.iload 6, 2) := by decide +kernel
theorem dL_law_253 : decode cL_law 253 = .ok (.iload 7, 2) := by decide +kernel
theorem dL_law_255 : decode cL_law 255 = .ok (.iload 8, 2) := by decide +kernel
theorem dL_law_257 : decode cL_law 257 = .ok (.invokevirtual 58, 3) := by decide +kernel
theorem dL_law_260 : decode cL_law 260 = .ok (.istore 12, 2) := by decide +kernel
theorem dL_law_262 : decode cL_law 262 = .ok (.iload 12, 2) := by decide +kernel
theorem dL_law_264 : decode cL_law 264 = .ok (.ifCond .le 10, 3) := by decide +kernel
theorem dL_law_267 : decode cL_law 267 = .ok (.iload 12, 2) := by decide +kernel
theorem dL_law_269 : decode cL_law 269 = .ok (.bipush 61, 2) := by decide +kernel
theorem dL_law_271 : decode cL_law 271 = .ok (.if_icmp .lt 10, 3) := by decide +kernel
theorem dL_law_274 : decode cL_law 274 = .ok (.iload 12, 2) := by decide +kernel
theorem dL_law_276 : decode cL_law 276 = .ok (.bipush (-4), 2) := by decide +kernel
theorem dL_law_278 : decode cL_law 278 = .ok (.if_icmp .ne 7, 3) := by decide +kernel
theorem dL_law_281 : decode cL_law 281 = .ok (.iconst 1, 1) := by decide +kernel
theorem dL_law_282 : decode cL_law 282 = .ok (.goto 4, 3) := by decide +kernel
theorem dL_law_285 : decode cL_law 285 = .ok (.iconst 0, 1) := by decide +kernel
theorem dL_law_286 : decode cL_law 286 = .ok (.istore_n 2, 1) := by decide +kernel
theorem dL_law_287 : decode cL_law 287 = .ok (.goto 151, 3) := by decide +kernel
theorem dL_law_290 : decode cL_law 290 = .ok (.iload 13, 2) := by decide +kernel
theorem dL_law_292 : decode cL_law 292 = .ok (.bipush 7, 2) := by decide +kernel
theorem dL_law_294 : decode cL_law 294 = .ok (.if_icmp .ge 54, 3) := by decide +kernel
theorem dL_law_297 : decode cL_law 297 = .ok (.aload_n 1, 1) := by decide +kernel
theorem dL_law_298 : decode cL_law 298 = .ok (.iload 4, 2) := by decide +kernel
theorem dL_law_300 : decode cL_law 300 = .ok (.iconst 5, 1) := by decide +kernel
theorem dL_law_301 : decode cL_law 301 = .ok (.ishr, 1) := by decide +kernel
theorem dL_law_302 : decode cL_law 302 = .ok (.iconst 1, 1) := by decide +kernel
theorem dL_law_303 : decode cL_law 303 = .ok (.iand, 1) := by decide +kernel
theorem dL_law_304 : decode cL_law 304 = .ok (.iload 6, 2) := by decide +kernel
theorem dL_law_306 : decode cL_law 306 = .ok (.iload 8, 2) := by decide +kernel
theorem dL_law_308 : decode cL_law 308 = .ok (.invokevirtual 65, 3) := by decide +kernel
theorem dL_law_311 : decode cL_law 311 = .ok (.istore 12, 2) := by decide +kernel
theorem dL_law_313 : decode cL_law 313 = .ok (.iload 12, 2) := by decide +kernel
theorem dL_law_315 : decode cL_law 315 = .ok (.ifCond .le 10, 3) := by decide +kernel
theorem dL_law_318 : decode cL_law 318 = .ok (.iload 12, 2) := by decide +kernel
theorem dL_law_320 : decode cL_law 320 = .ok (.bipush 61, 2) := by decide +kernel
theorem dL_law_322 : decode cL_law 322 = .ok (.if_icmp .lt 17, 3) := by decide +kernel
theorem dL_law_325 : decode cL_law 325 = .ok (.iload 12, 2) := by decide +kernel
theorem dL_law_327 : decode cL_law 327 = .ok (.bipush (-4), 2) := by decide +kernel
theorem dL_law_329 : decode cL_law 329 = .ok (.if_icmp .eq 10, 3) := by decide +kernel
theorem dL_law_332 : decode cL_law 332 = .ok (.iload 12, 2) := by decide +kernel
theorem dL_law_334 : decode cL_law 334 = .ok (.bipush (-3), 2) := by decide +kernel
theorem dL_law_336 : decode cL_law 336 = .ok (.if_icmp .ne 7, 3) := by decide +kernel
theorem dL_law_339 : decode cL_law 339 = .ok (.iconst 1, 1) := by decide +kernel
theorem dL_law_340 : decode cL_law 340 = .ok (.goto 4, 3) := by decide +kernel
theorem dL_law_343 : decode cL_law 343 = .ok (.iconst 0, 1) := by decide +kernel
theorem dL_law_344 : decode cL_law 344 = .ok (.istore_n 2, 1) := by decide +kernel
theorem dL_law_345 : decode cL_law 345 = .ok (.goto 93, 3) := by decide +kernel
theorem dL_law_348 : decode cL_law 348 = .ok (.aload_n 1, 1) := by decide +kernel
theorem dL_law_349 : decode cL_law 349 = .ok (.iload 4, 2) := by decide +kernel
theorem dL_law_351 : decode cL_law 351 = .ok (.iconst 5, 1) := by decide +kernel
theorem dL_law_352 : decode cL_law 352 = .ok (.ishr, 1) := by decide +kernel
theorem dL_law_353 : decode cL_law 353 = .ok (.iconst 3, 1) := by decide +kernel
theorem dL_law_354 : decode cL_law 354 = .ok (.iand, 1) := by decide +kernel
theorem dL_law_355 : decode cL_law 355 = .ok (.ifCond .ne 9, 3) := by decide +kernel
theorem dL_law_358 : decode cL_law 358 = .ok (.ldc2_w 147, 3) := by decide +kernel
theorem dL_law_361 : decode cL_law 361 = .ok (.goto 22, 3) := by decide +kernel
theorem dL_law_364 : decode cL_law 364 = .ok (.iload 4, 2) := by decide +kernel
theorem dL_law_366 : decode cL_law 366 = .ok (.iconst 5, 1) := by decide +kernel
theorem dL_law_367 : decode cL_law 367 = .ok (.ishr, 1) := by decide +kernel
theorem dL_law_368 : decode cL_law 368 = .ok (.iconst 3, 1) := by decide +kernel
theorem dL_law_369 : decode cL_law 369 = .ok (.iand, 1) := by decide +kernel
theorem dL_law_370 : decode cL_law 370 = .ok (.iconst 1, 1) := by decide +kernel
theorem dL_law_371 : decode cL_law 371 = .ok (.if_icmp .ne 9, 3) := by decide +kernel
theorem dL_law_374 : decode cL_law 374 = .ok (.ldc2_w 149, 3) := by decide +kernel
theorem dL_law_377 : decode cL_law 377 = .ok (.goto 6, 3) := by decide +kernel
theorem dL_law_380 : decode cL_law 380 = .ok (.ldc2_w 151, 3) := by decide +kernel
theorem dL_law_383 : decode cL_law 383 = .ok (.iload 6, 2) := by decide +kernel
theorem dL_law_385 : decode cL_law 385 = .ok (.iload 7, 2) := by decide +kernel
theorem dL_law_387 : decode cL_law 387 = .ok (.iload 5, 2) := by decide +kernel
theorem dL_law_389 : decode cL_law 389 = .ok (.bipush 12, 2) := by decide +kernel
theorem dL_law_391 : decode cL_law 391 = .ok (.ishr, 1) := by decide +kernel
theorem dL_law_392 : decode cL_law 392 = .ok (.iconst 4, 1) := by decide +kernel
theorem dL_law_393 : decode cL_law 393 = .ok (.invokestatic 140, 3) := by decide +kernel
theorem dL_law_396 : decode cL_law 396 = .ok (.invokestatic 153, 3) := by decide +kernel
theorem dL_law_399 : decode cL_law 399 = .ok (.iload 8, 2) := by decide +kernel
theorem dL_law_401 : decode cL_law 401 = .ok (.invokestatic 143, 3) := by decide +kernel
theorem dL_law_404 : decode cL_law 404 = .ok (.istore 12, 2) := by decide +kernel
theorem dL_law_406 : decode cL_law 406 = .ok (.iload 12, 2) := by decide +kernel
theorem dL_law_408 : decode cL_law 408 = .ok (.ifCond .le 10, 3) := by decide +kernel
theorem dL_law_411 : decode cL_law 411 = .ok (.iload 12, 2) := by decide +kernel
theorem dL_law_413 : decode cL_law 413 = .ok (.bipush 61, 2) := by decide +kernel
theorem dL_law_415 : decode cL_law 415 = .ok (.if_icmp .lt 17, 3) := by decide +kernel
theorem dL_law_418 : decode cL_law 418 = .ok (.iload 12, 2) := by decide +kernel
theorem dL_law_420 : decode cL_law 420 = .ok (.bipush (-4), 2) := by decide +kernel
theorem dL_law_422 : decode cL_law 422 = .ok (.if_icmp .eq 10, 3) := by decide +kernel
theorem dL_law_425 : decode cL_law 425 = .ok (.iload 12, 2) := by decide +kernel
theorem dL_law_427 : decode cL_law 427 = .ok (.bipush (-11), 2) := by decide +kernel
theorem dL_law_429 : decode cL_law 429 = .ok (.if_icmp .ne 7, 3) := by decide +kernel
theorem dL_law_432 : decode cL_law 432 = .ok (.iconst 1, 1) := by decide +kernel
theorem dL_law_433 : decode cL_law 433 = .ok (.goto 4, 3) := by decide +kernel
theorem dL_law_436 : decode cL_law 436 = .ok (.iconst 0, 1) := by decide +kernel
theorem dL_law_437 : decode cL_law 437 = .ok (.istore_n 2, 1) := by decide +kernel
theorem dL_law_438 : decode cL_law 438 = .ok (.iload_n 2, 1) := by decide +kernel
theorem dL_law_439 : decode cL_law 439 = .ok (.ifCond .eq 22, 3) := by decide +kernel
theorem dL_law_442 : decode cL_law 442 = .ok (.iload 12, 2) := by decide +kernel
theorem dL_law_444 : decode cL_law 444 = .ok (.ifCond .gt 13, 3) := by decide +kernel
theorem dL_law_447 : decode cL_law 447 = .ok (.aload_n 1, 1) := by decide +kernel
theorem dL_law_448 : decode cL_law 448 = .ok (.invokestatic 50, 3) := by decide +kernel
theorem dL_law_451 : decode cL_law 451 = .ok (.lload 10, 2) := by decide +kernel
theorem dL_law_453 : decode cL_law 453 = .ok (.lcmp, 1) := by decide +kernel
theorem dL_law_454 : decode cL_law 454 = .ok (.ifCond .ne 7, 3) := by decide +kernel
theorem dL_law_457 : decode cL_law 457 = .ok (.iconst 1, 1) := by decide +kernel
theorem dL_law_458 : decode cL_law 458 = .ok (.goto 4, 3) := by decide +kernel
theorem dL_law_461 : decode cL_law 461 = .ok (.iconst 0, 1) := by decide +kernel
theorem dL_law_462 : decode cL_law 462 = .ok (.istore_n 2, 1) := by decide +kernel
theorem dL_law_463 : decode cL_law 463 = .ok (.iload_n 2, 1) := by decide +kernel
theorem dL_law_464 : decode cL_law 464 = .ok (.ifCond .eq 42, 3) := by decide +kernel
theorem dL_law_467 : decode cL_law 467 = .ok (.iload 12, 2) := by decide +kernel
theorem dL_law_469 : decode cL_law 469 = .ok (.ifCond .le 37, 3) := by decide +kernel
theorem dL_law_472 : decode cL_law 472 = .ok (.iload 4, 2) := by decide +kernel
theorem dL_law_474 : decode cL_law 474 = .ok (.bipush 17, 2) := by decide +kernel
theorem dL_law_476 : decode cL_law 476 = .ok (.ishr, 1) := by decide +kernel
theorem dL_law_477 : decode cL_law 477 = .ok (.bipush 7, 2) := by decide +kernel
theorem dL_law_479 : decode cL_law 479 = .ok (.iand, 1) := by decide +kernel
theorem dL_law_480 : decode cL_law 480 = .ok (.ifCond .ne 26, 3) := by decide +kernel
theorem dL_law_483 : decode cL_law 483 = .ok (.aload_n 1, 1) := by decide +kernel
theorem dL_law_484 : decode cL_law 484 = .ok (.invokevirtual 62, 3) := by decide +kernel
theorem dL_law_487 : decode cL_law 487 = .ok (.ifCond .lt 17, 3) := by decide +kernel
theorem dL_law_490 : decode cL_law 490 = .ok (.aload_n 1, 1) := by decide +kernel
theorem dL_law_491 : decode cL_law 491 = .ok (.invokestatic 50, 3) := by decide +kernel
theorem dL_law_494 : decode cL_law 494 = .ok (.lload 10, 2) := by decide +kernel
theorem dL_law_496 : decode cL_law 496 = .ok (.lcmp, 1) := by decide +kernel
theorem dL_law_497 : decode cL_law 497 = .ok (.ifCond .ne 7, 3) := by decide +kernel
theorem dL_law_500 : decode cL_law 500 = .ok (.iconst 1, 1) := by decide +kernel
theorem dL_law_501 : decode cL_law 501 = .ok (.goto 4, 3) := by decide +kernel
theorem dL_law_504 : decode cL_law 504 = .ok (.iconst 0, 1) := by decide +kernel
theorem dL_law_505 : decode cL_law 505 = .ok (.istore_n 2, 1) := by decide +kernel
theorem dL_law_506 : decode cL_law 506 = .ok (.iload_n 2, 1) := by decide +kernel
theorem dL_law_507 : decode cL_law 507 = .ok (.ifCond .eq 127, 3) := by decide +kernel
theorem dL_law_510 : decode cL_law 510 = .ok (.aload_n 1, 1) := by decide +kernel
theorem dL_law_511 : decode cL_law 511 = .ok (.iload 8, 2) := by decide +kernel
theorem dL_law_513 : decode cL_law 513 = .ok (.iload 9, 2) := by decide +kernel
theorem dL_law_515 : decode cL_law 515 = .ok (.invokestatic 130, 3) := by decide +kernel
theorem dL_law_518 : decode cL_law 518 = .ok (.ifCond .eq 116, 3) := by decide +kernel
theorem dL_law_521 : decode cL_law 521 = .ok (.aload_n 1, 1) := by decide +kernel
theorem dL_law_522 : decode cL_law 522 = .ok (.iload 6, 2) := by decide +kernel
theorem dL_law_524 : decode cL_law 524 = .ok (.bipush 63, 2) := by decide +kernel
theorem dL_law_526 : decode cL_law 526 = .ok (.iload 9, 2) := by decide +kernel
theorem dL_law_528 : decode cL_law 528 = .ok (.isub, 1) := by decide +kernel
theorem dL_law_529 : decode cL_law 529 = .ok (.invokestatic 130, 3) := by decide +kernel
theorem dL_law_532 : decode cL_law 532 = .ok (.ifCond .eq 102, 3) := by decide +kernel
theorem dL_law_535 : decode cL_law 535 = .ok (.iload_n 3, 1) := by decide +kernel
theorem dL_law_536 : decode cL_law 536 = .ok (.iconst 2, 1) := by decide +kernel
theorem dL_law_537 : decode cL_law 537 = .ok (.irem, 1) := by decide +kernel
theorem dL_law_538 : decode cL_law 538 = .ok (.ifCond .eq 23, 3) := by decide +kernel
theorem dL_law_541 : decode cL_law 541 = .ok (.aload_n 1, 1) := by decide +kernel
theorem dL_law_542 : decode cL_law 542 = .ok (.iload 4, 2) := by decide +kernel
theorem dL_law_544 : decode cL_law 544 = .ok (.bipush 7, 2) := by decide +kernel
theorem dL_law_546 : decode cL_law 546 = .ok (.ishr, 1) := by decide +kernel
theorem dL_law_547 : decode cL_law 547 = .ok (.iconst 1, 1) := by decide +kernel
theorem dL_law_548 : decode cL_law 548 = .ok (.iand, 1) := by decide +kernel
theorem dL_law_549 : decode cL_law 549 = .ok (.iload 6, 2) := by decide +kernel
theorem dL_law_551 : decode cL_law 551 = .ok (.iload 7, 2) := by decide +kernel
theorem dL_law_553 : decode cL_law 553 = .ok (.iload 9, 2) := by decide +kernel
theorem dL_law_555 : decode cL_law 555 = .ok (.invokestatic 157, 3) := by decide +kernel
theorem dL_law_558 : decode cL_law 558 = .ok (.ifCond .eq 76, 3) := by decide +kernel
theorem dL_law_561 : decode cL_law 561 = .ok (.iload_n 3, 1) := by decide +kernel
theorem dL_law_562 : decode cL_law 562 = .ok (.iconst 3, 1) := by decide +kernel
theorem dL_law_563 : decode cL_law 563 = .ok (.irem, 1) := by decide +kernel
theorem dL_law_564 : decode cL_law 564 = .ok (.iconst 1, 1) := by decide +kernel
theorem dL_law_565 : decode cL_law 565 = .ok (.if_icmp .ne 14, 3) := by decide +kernel
theorem dL_law_568 : decode cL_law 568 = .ok (.aload_n 1, 1) := by decide +kernel
theorem dL_law_569 : decode cL_law 569 = .ok (.iload 8, 2) := by decide +kernel
theorem dL_law_571 : decode cL_law 571 = .ok (.iload 9, 2) := by decide +kernel
theorem dL_law_573 : decode cL_law 573 = .ok (.invokestatic 161, 3) := by decide +kernel
theorem dL_law_576 : decode cL_law 576 = .ok (.ifCond .eq 58, 3) := by decide +kernel
theorem dL_law_579 : decode cL_law 579 = .ok (.iload_n 3, 1) := by decide +kernel
theorem dL_law_580 : decode cL_law 580 = .ok (.iconst 3, 1) := by decide +kernel
theorem dL_law_581 : decode cL_law 581 = .ok (.irem, 1) := by decide +kernel
theorem dL_law_582 : decode cL_law 582 = .ok (.iconst 2, 1) := by decide +kernel
theorem dL_law_583 : decode cL_law 583 = .ok (.if_icmp .ne 14, 3) := by decide +kernel
theorem dL_law_586 : decode cL_law 586 = .ok (.aload_n 1, 1) := by decide +kernel
theorem dL_law_587 : decode cL_law 587 = .ok (.iload 6, 2) := by decide +kernel
theorem dL_law_589 : decode cL_law 589 = .ok (.iload 8, 2) := by decide +kernel
theorem dL_law_591 : decode cL_law 591 = .ok (.invokestatic 133, 3) := by decide +kernel
theorem dL_law_594 : decode cL_law 594 = .ok (.ifCond .eq 40, 3) := by decide +kernel
theorem dL_law_597 : decode cL_law 597 = .ok (.iload_n 3, 1) := by decide +kernel
theorem dL_law_598 : decode cL_law 598 = .ok (.iconst 4, 1) := by decide +kernel
theorem dL_law_599 : decode cL_law 599 = .ok (.irem, 1) := by decide +kernel
theorem dL_law_600 : decode cL_law 600 = .ok (.iconst 3, 1) := by decide +kernel
theorem dL_law_601 : decode cL_law 601 = .ok (.if_icmp .ne 14, 3) := by decide +kernel
theorem dL_law_604 : decode cL_law 604 = .ok (.aload_n 1, 1) := by decide +kernel
theorem dL_law_605 : decode cL_law 605 = .ok (.iload 8, 2) := by decide +kernel
theorem dL_law_607 : decode cL_law 607 = .ok (.iload 6, 2) := by decide +kernel
theorem dL_law_609 : decode cL_law 609 = .ok (.invokestatic 126, 3) := by decide +kernel
theorem dL_law_612 : decode cL_law 612 = .ok (.ifCond .eq 22, 3) := by decide +kernel
theorem dL_law_615 : decode cL_law 615 = .ok (.iload_n 3, 1) := by decide +kernel
theorem dL_law_616 : decode cL_law 616 = .ok (.bipush 7, 2) := by decide +kernel
theorem dL_law_618 : decode cL_law 618 = .ok (.irem, 1) := by decide +kernel
theorem dL_law_619 : decode cL_law 619 = .ok (.iconst 5, 1) := by decide +kernel
theorem dL_law_620 : decode cL_law 620 = .ok (.if_icmp .ne 10, 3) := by decide +kernel
theorem dL_law_623 : decode cL_law 623 = .ok (.aload_n 1, 1) := by decide +kernel
theorem dL_law_624 : decode cL_law 624 = .ok (.invokestatic 164, 3) := by decide +kernel
theorem dL_law_627 : decode cL_law 627 = .ok (.ifCond .eq 7, 3) := by decide +kernel
theorem dL_law_630 : decode cL_law 630 = .ok (.iconst 1, 1) := by decide +kernel
theorem dL_law_631 : decode cL_law 631 = .ok (.goto 4, 3) := by decide +kernel
theorem dL_law_634 : decode cL_law 634 = .ok (.iconst 0, 1) := by decide +kernel
theorem dL_law_635 : decode cL_law 635 = .ok (.istore_n 2, 1) := by decide +kernel
theorem dL_law_636 : decode cL_law 636 = .ok (.iinc 3 1, 3) := by decide +kernel
theorem dL_law_639 : decode cL_law 639 = .ok (.goto (-586), 3) := by decide +kernel
theorem dL_law_642 : decode cL_law 642 = .ok (.iload_n 2, 1) := by decide +kernel
theorem dL_law_643 : decode cL_law 643 = .ok (.ireturn, 1) := by decide +kernel
