/-! printed by wip/whole/gen.py: decode rows, functions, contracts -/
theorem dX4_readText_0 : decode cX4_readText 0 = .ok (.aload_n 0, 1) := by decide +kernel
theorem dX4_readText_1 : decode cX4_readText 1 = .ok (.getfield 18, 3) := by decide +kernel
theorem dX4_readText_4 : decode cX4_readText 4 = .ok (.invokevirtual 32, 3) := by decide +kernel
theorem dX4_readText_7 : decode cX4_readText 7 = .ok (.aload_n 0, 1) := by decide +kernel
theorem dX4_readText_8 : decode cX4_readText 8 = .ok (.iconst 0, 1) := by decide +kernel
theorem dX4_readText_9 : decode cX4_readText 9 = .ok (.putfield 35, 3) := by decide +kernel
theorem dX4_readText_12 : decode cX4_readText 12 = .ok (.aload_n 0, 1) := by decide +kernel
theorem dX4_readText_13 : decode cX4_readText 13 = .ok (.iconst (-1), 1) := by decide +kernel
theorem dX4_readText_14 : decode cX4_readText 14 = .ok (.putfield 9, 3) := by decide +kernel
theorem dX4_readText_17 : decode cX4_readText 17 = .ok (.aload_n 0, 1) := by decide +kernel
theorem dX4_readText_18 : decode cX4_readText 18 = .ok (.iconst 0, 1) := by decide +kernel
theorem dX4_readText_19 : decode cX4_readText 19 = .ok (.putfield 38, 3) := by decide +kernel
theorem dX4_readText_22 : decode cX4_readText 22 = .ok (.aload_n 0, 1) := by decide +kernel
theorem dX4_readText_23 : decode cX4_readText 23 = .ok (.iconst (-1), 1) := by decide +kernel
theorem dX4_readText_24 : decode cX4_readText 24 = .ok (.putfield 41, 3) := by decide +kernel
theorem dX4_readText_27 : decode cX4_readText 27 = .ok (.aload_n 0, 1) := by decide +kernel
theorem dX4_readText_28 : decode cX4_readText 28 = .ok (.invokevirtual 44, 3) := by decide +kernel
theorem dX4_readText_31 : decode cX4_readText 31 = .ok (.iconst 0, 1) := by decide +kernel
theorem dX4_readText_32 : decode cX4_readText 32 = .ok (.istore_n 1, 1) := by decide +kernel
theorem dX4_readText_33 : decode cX4_readText 33 = .ok (.iload_n 1, 1) := by decide +kernel
theorem dX4_readText_34 : decode cX4_readText 34 = .ok (.sipush 240, 3) := by decide +kernel
theorem dX4_readText_37 : decode cX4_readText 37 = .ok (.if_icmp .ge 35, 3) := by decide +kernel
theorem dX4_readText_40 : decode cX4_readText 40 = .ok (.aload_n 0, 1) := by decide +kernel
theorem dX4_readText_41 : decode cX4_readText 41 = .ok (.getfield 38, 3) := by decide +kernel
theorem dX4_readText_44 : decode cX4_readText 44 = .ok (.aload_n 0, 1) := by decide +kernel
theorem dX4_readText_45 : decode cX4_readText 45 = .ok (.getfield 29, 3) := by decide +kernel
theorem dX4_readText_48 : decode cX4_readText 48 = .ok (.if_icmp .ge 24, 3) := by decide +kernel
theorem dX4_readText_51 : decode cX4_readText 51 = .ok (.aload_n 0, 1) := by decide +kernel
theorem dX4_readText_52 : decode cX4_readText 52 = .ok (.getfield 35, 3) := by decide +kernel
theorem dX4_readText_55 : decode cX4_readText 55 = .ok (.ifCond .ne 17, 3) := by decide +kernel
theorem dX4_readText_58 : decode cX4_readText 58 = .ok (.aload_n 0, 1) := by decide +kernel
theorem dX4_readText_59 : decode cX4_readText 59 = .ok (.invokevirtual 47, 3) := by decide +kernel
theorem dX4_readText_62 : decode cX4_readText 62 = .ok (.aload_n 0, 1) := by decide +kernel
theorem dX4_readText_63 : decode cX4_readText 63 = .ok (.invokevirtual 44, 3) := by decide +kernel
theorem dX4_readText_66 : decode cX4_readText 66 = .ok (.iinc 1 1, 3) := by decide +kernel
theorem dX4_readText_69 : decode cX4_readText 69 = .ok (.goto (-36), 3) := by decide +kernel
theorem dX4_readText_72 : decode cX4_readText 72 = .ok (.aload_n 0, 1) := by decide +kernel
theorem dX4_readText_73 : decode cX4_readText 73 = .ok (.getfield 35, 3) := by decide +kernel
theorem dX4_readText_76 : decode cX4_readText 76 = .ok (.ifCond .ne 20, 3) := by decide +kernel
theorem dX4_readText_79 : decode cX4_readText 79 = .ok (.aload_n 0, 1) := by decide +kernel
theorem dX4_readText_80 : decode cX4_readText 80 = .ok (.getfield 41, 3) := by decide +kernel
theorem dX4_readText_83 : decode cX4_readText 83 = .ok (.iconst (-1), 1) := by decide +kernel
theorem dX4_readText_84 : decode cX4_readText 84 = .ok (.if_icmp .eq 12, 3) := by decide +kernel
theorem dX4_readText_87 : decode cX4_readText 87 = .ok (.aload_n 0, 1) := by decide +kernel
theorem dX4_readText_88 : decode cX4_readText 88 = .ok (.iconst 1, 1) := by decide +kernel
theorem dX4_readText_89 : decode cX4_readText 89 = .ok (.aload_n 0, 1) := by decide +kernel
theorem dX4_readText_90 : decode cX4_readText 90 = .ok (.getfield 29, 3) := by decide +kernel
theorem dX4_readText_93 : decode cX4_readText 93 = .ok (.invokevirtual 50, 3) := by decide +kernel
theorem dX4_readText_96 : decode cX4_readText 96 = .ok (.aload_n 0, 1) := by decide +kernel
theorem dX4_readText_97 : decode cX4_readText 97 = .ok (.getfield 35, 3) := by decide +kernel
theorem dX4_readText_100 : decode cX4_readText 100 = .ok (.ifCond .ne 7, 3) := by decide +kernel
theorem dX4_readText_103 : decode cX4_readText 103 = .ok (.aload_n 0, 1) := by decide +kernel
theorem dX4_readText_104 : decode cX4_readText 104 = .ok (.invokevirtual 54, 3) := by decide +kernel
theorem dX4_readText_107 : decode cX4_readText 107 = .ok (.aload_n 0, 1) := by decide +kernel
theorem dX4_readText_108 : decode cX4_readText 108 = .ok (.iconst 0, 1) := by decide +kernel
theorem dX4_readText_109 : decode cX4_readText 109 = .ok (.putfield 29, 3) := by decide +kernel
theorem dX4_readText_112 : decode cX4_readText 112 = .ok (.aload_n 0, 1) := by decide +kernel
theorem dX4_readText_113 : decode cX4_readText 113 = .ok (.getfield 35, 3) := by decide +kernel
theorem dX4_readText_116 : decode cX4_readText 116 = .ok (.ireturn, 1) := by decide +kernel
theorem dX5_put_0 : decode cX5_put 0 = .ok (.aload_n 0, 1) := by decide +kernel
theorem dX5_put_1 : decode cX5_put 1 = .ok (.getfield 22, 3) := by decide +kernel
theorem dX5_put_4 : decode cX5_put 4 = .ok (.aload_n 0, 1) := by decide +kernel
theorem dX5_put_5 : decode cX5_put 5 = .ok (.getfield 19, 3) := by decide +kernel
theorem dX5_put_8 : decode cX5_put 8 = .ok (.if_icmp .ne 8, 3) := by decide +kernel
theorem dX5_put_11 : decode cX5_put 11 = .ok (.aload_n 0, 1) := by decide +kernel
theorem dX5_put_12 : decode cX5_put 12 = .ok (.iload_n 1, 1) := by decide +kernel
theorem dX5_put_13 : decode cX5_put 13 = .ok (.putfield 25, 3) := by decide +kernel
theorem dX5_put_16 : decode cX5_put 16 = .ok (.aload_n 0, 1) := by decide +kernel
theorem dX5_put_17 : decode cX5_put 17 = .ok (.dup, 1) := by decide +kernel
theorem dX5_put_18 : decode cX5_put 18 = .ok (.getfield 22, 3) := by decide +kernel
theorem dX5_put_21 : decode cX5_put 21 = .ok (.iconst 1, 1) := by decide +kernel
theorem dX5_put_22 : decode cX5_put 22 = .ok (.iadd, 1) := by decide +kernel
theorem dX5_put_23 : decode cX5_put 23 = .ok (.putfield 22, 3) := by decide +kernel
theorem dX5_put_26 : decode cX5_put 26 = .ok (.return_, 1) := by decide +kernel
theorem dX5_writeFigures_0 : decode cX5_writeFigures 0 = .ok (.iload_n 1, 1) := by decide +kernel
theorem dX5_writeFigures_1 : decode cX5_writeFigures 1 = .ok (.bipush 10, 2) := by decide +kernel
theorem dX5_writeFigures_3 : decode cX5_writeFigures 3 = .ok (.if_icmp .lt 14, 3) := by decide +kernel
theorem dX5_writeFigures_6 : decode cX5_writeFigures 6 = .ok (.aload_n 0, 1) := by decide +kernel
theorem dX5_writeFigures_7 : decode cX5_writeFigures 7 = .ok (.bipush 48, 2) := by decide +kernel
theorem dX5_writeFigures_9 : decode cX5_writeFigures 9 = .ok (.iload_n 1, 1) := by decide +kernel
theorem dX5_writeFigures_10 : decode cX5_writeFigures 10 = .ok (.bipush 10, 2) := by decide +kernel
theorem dX5_writeFigures_12 : decode cX5_writeFigures 12 = .ok (.idiv, 1) := by decide +kernel
theorem dX5_writeFigures_13 : decode cX5_writeFigures 13 = .ok (.iadd, 1) := by decide +kernel
theorem dX5_writeFigures_14 : decode cX5_writeFigures 14 = .ok (.invokevirtual 44, 3) := by decide +kernel
theorem dX5_writeFigures_17 : decode cX5_writeFigures 17 = .ok (.aload_n 0, 1) := by decide +kernel
theorem dX5_writeFigures_18 : decode cX5_writeFigures 18 = .ok (.bipush 48, 2) := by decide +kernel
theorem dX5_writeFigures_20 : decode cX5_writeFigures 20 = .ok (.iload_n 1, 1) := by decide +kernel
theorem dX5_writeFigures_21 : decode cX5_writeFigures 21 = .ok (.bipush 10, 2) := by decide +kernel
theorem dX5_writeFigures_23 : decode cX5_writeFigures 23 = .ok (.irem, 1) := by decide +kernel
theorem dX5_writeFigures_24 : decode cX5_writeFigures 24 = .ok (.iadd, 1) := by decide +kernel
theorem dX5_writeFigures_25 : decode cX5_writeFigures 25 = .ok (.invokevirtual 44, 3) := by decide +kernel
theorem dX5_writeFigures_28 : decode cX5_writeFigures 28 = .ok (.return_, 1) := by decide +kernel
theorem dX5_writeNumber_0 : decode cX5_writeNumber 0 = .ok (.iload_n 1, 1) := by decide +kernel
theorem dX5_writeNumber_1 : decode cX5_writeNumber 1 = .ok (.ifCond .lt 14, 3) := by decide +kernel
theorem dX5_writeNumber_4 : decode cX5_writeNumber 4 = .ok (.iload_n 1, 1) := by decide +kernel
theorem dX5_writeNumber_5 : decode cX5_writeNumber 5 = .ok (.aload_n 0, 1) := by decide +kernel
theorem dX5_writeNumber_6 : decode cX5_writeNumber 6 = .ok (.getfield 9, 3) := by decide +kernel
theorem dX5_writeNumber_9 : decode cX5_writeNumber 9 = .ok (.getfield 28, 3) := by decide +kernel
theorem dX5_writeNumber_12 : decode cX5_writeNumber 12 = .ok (.if_icmp .lt 4, 3) := by decide +kernel
theorem dX5_writeNumber_15 : decode cX5_writeNumber 15 = .ok (.return_, 1) := by decide +kernel
theorem dX5_writeNumber_16 : decode cX5_writeNumber 16 = .ok (.iconst 0, 1) := by decide +kernel
theorem dX5_writeNumber_17 : decode cX5_writeNumber 17 = .ok (.istore_n 2, 1) := by decide +kernel
theorem dX5_writeNumber_18 : decode cX5_writeNumber 18 = .ok (.iload_n 2, 1) := by decide +kernel
theorem dX5_writeNumber_19 : decode cX5_writeNumber 19 = .ok (.aload_n 0, 1) := by decide +kernel
theorem dX5_writeNumber_20 : decode cX5_writeNumber 20 = .ok (.getfield 9, 3) := by decide +kernel
theorem dX5_writeNumber_23 : decode cX5_writeNumber 23 = .ok (.getfield 64, 3) := by decide +kernel
theorem dX5_writeNumber_26 : decode cX5_writeNumber 26 = .ok (.iload_n 1, 1) := by decide +kernel
theorem dX5_writeNumber_27 : decode cX5_writeNumber 27 = .ok (.iaload, 1) := by decide +kernel
theorem dX5_writeNumber_28 : decode cX5_writeNumber 28 = .ok (.if_icmp .gt 43, 3) := by decide +kernel
theorem dX5_writeNumber_31 : decode cX5_writeNumber 31 = .ok (.iload_n 2, 1) := by decide +kernel
theorem dX5_writeNumber_32 : decode cX5_writeNumber 32 = .ok (.ifCond .le 9, 3) := by decide +kernel
theorem dX5_writeNumber_35 : decode cX5_writeNumber 35 = .ok (.aload_n 0, 1) := by decide +kernel
theorem dX5_writeNumber_36 : decode cX5_writeNumber 36 = .ok (.bipush 46, 2) := by decide +kernel
theorem dX5_writeNumber_38 : decode cX5_writeNumber 38 = .ok (.invokevirtual 44, 3) := by decide +kernel
theorem dX5_writeNumber_41 : decode cX5_writeNumber 41 = .ok (.aload_n 0, 1) := by decide +kernel
theorem dX5_writeNumber_42 : decode cX5_writeNumber 42 = .ok (.aload_n 0, 1) := by decide +kernel
theorem dX5_writeNumber_43 : decode cX5_writeNumber 43 = .ok (.getfield 9, 3) := by decide +kernel
theorem dX5_writeNumber_46 : decode cX5_writeNumber 46 = .ok (.aload_n 0, 1) := by decide +kernel
theorem dX5_writeNumber_47 : decode cX5_writeNumber 47 = .ok (.getfield 9, 3) := by decide +kernel
theorem dX5_writeNumber_50 : decode cX5_writeNumber 50 = .ok (.iload_n 1, 1) := by decide +kernel
theorem dX5_writeNumber_51 : decode cX5_writeNumber 51 = .ok (.iload_n 2, 1) := by decide +kernel
theorem dX5_writeNumber_52 : decode cX5_writeNumber 52 = .ok (.invokevirtual 67, 3) := by decide +kernel
theorem dX5_writeNumber_55 : decode cX5_writeNumber 55 = .ok (.aload_n 0, 1) := by decide +kernel
theorem dX5_writeNumber_56 : decode cX5_writeNumber 56 = .ok (.getfield 15, 3) := by decide +kernel
theorem dX5_writeNumber_59 : decode cX5_writeNumber 59 = .ok (.invokevirtual 71, 3) := by decide +kernel
theorem dX5_writeNumber_62 : decode cX5_writeNumber 62 = .ok (.invokevirtual 74, 3) := by decide +kernel
theorem dX5_writeNumber_65 : decode cX5_writeNumber 65 = .ok (.iinc 2 1, 3) := by decide +kernel
theorem dX5_writeNumber_68 : decode cX5_writeNumber 68 = .ok (.goto (-50), 3) := by decide +kernel
theorem dX5_writeNumber_71 : decode cX5_writeNumber 71 = .ok (.return_, 1) := by decide +kernel
theorem dX5_writePart_0 : decode cX5_writePart 0 = .ok (.iload_n 1, 1) := by decide +kernel
theorem dX5_writePart_1 : decode cX5_writePart 1 = .ok (.ifCond .ne 14, 3) := by decide +kernel
theorem dX5_writePart_4 : decode cX5_writePart 4 = .ok (.aload_n 0, 1) := by decide +kernel
theorem dX5_writePart_5 : decode cX5_writePart 5 = .ok (.bipush 65, 2) := by decide +kernel
theorem dX5_writePart_7 : decode cX5_writePart 7 = .ok (.iload_n 2, 1) := by decide +kernel
theorem dX5_writePart_8 : decode cX5_writePart 8 = .ok (.iadd, 1) := by decide +kernel
theorem dX5_writePart_9 : decode cX5_writePart 9 = .ok (.invokevirtual 44, 3) := by decide +kernel
theorem dX5_writePart_12 : decode cX5_writePart 12 = .ok (.goto 56, 3) := by decide +kernel
theorem dX5_writePart_15 : decode cX5_writePart 15 = .ok (.iload_n 1, 1) := by decide +kernel
theorem dX5_writePart_16 : decode cX5_writePart 16 = .ok (.iconst 1, 1) := by decide +kernel
theorem dX5_writePart_17 : decode cX5_writePart 17 = .ok (.if_icmp .ne 14, 3) := by decide +kernel
theorem dX5_writePart_20 : decode cX5_writePart 20 = .ok (.aload_n 0, 1) := by decide +kernel
theorem dX5_writePart_21 : decode cX5_writePart 21 = .ok (.bipush 97, 2) := by decide +kernel
theorem dX5_writePart_23 : decode cX5_writePart 23 = .ok (.iload_n 2, 1) := by decide +kernel
theorem dX5_writePart_24 : decode cX5_writePart 24 = .ok (.iadd, 1) := by decide +kernel
theorem dX5_writePart_25 : decode cX5_writePart 25 = .ok (.invokevirtual 44, 3) := by decide +kernel
theorem dX5_writePart_28 : decode cX5_writePart 28 = .ok (.goto 40, 3) := by decide +kernel
theorem dX5_writePart_31 : decode cX5_writePart 31 = .ok (.aload_n 0, 1) := by decide +kernel
theorem dX5_writePart_32 : decode cX5_writePart 32 = .ok (.bipush 91, 2) := by decide +kernel
theorem dX5_writePart_34 : decode cX5_writePart 34 = .ok (.invokevirtual 44, 3) := by decide +kernel
theorem dX5_writePart_37 : decode cX5_writePart 37 = .ok (.aload_n 0, 1) := by decide +kernel
theorem dX5_writePart_38 : decode cX5_writePart 38 = .ok (.getfield 15, 3) := by decide +kernel
theorem dX5_writePart_41 : decode cX5_writePart 41 = .ok (.iload_n 2, 1) := by decide +kernel
theorem dX5_writePart_42 : decode cX5_writePart 42 = .ok (.invokestatic 33, 3) := by decide +kernel
theorem dX5_writePart_45 : decode cX5_writePart 45 = .ok (.ifCond .eq 11, 3) := by decide +kernel
theorem dX5_writePart_48 : decode cX5_writePart 48 = .ok (.aload_n 0, 1) := by decide +kernel
theorem dX5_writePart_49 : decode cX5_writePart 49 = .ok (.iload_n 2, 1) := by decide +kernel
theorem dX5_writePart_50 : decode cX5_writePart 50 = .ok (.invokevirtual 41, 3) := by decide +kernel
theorem dX5_writePart_53 : decode cX5_writePart 53 = .ok (.goto 9, 3) := by decide +kernel
theorem dX5_writePart_56 : decode cX5_writePart 56 = .ok (.aload_n 0, 1) := by decide +kernel
theorem dX5_writePart_57 : decode cX5_writePart 57 = .ok (.bipush 63, 2) := by decide +kernel
theorem dX5_writePart_59 : decode cX5_writePart 59 = .ok (.invokevirtual 44, 3) := by decide +kernel
theorem dX5_writePart_62 : decode cX5_writePart 62 = .ok (.aload_n 0, 1) := by decide +kernel
theorem dX5_writePart_63 : decode cX5_writePart 63 = .ok (.bipush 93, 2) := by decide +kernel
theorem dX5_writePart_65 : decode cX5_writePart 65 = .ok (.invokevirtual 44, 3) := by decide +kernel
theorem dX5_writePart_68 : decode cX5_writePart 68 = .ok (.return_, 1) := by decide +kernel
theorem dX5_writeClause_0 : decode cX5_writeClause 0 = .ok (.aload_n 0, 1) := by decide +kernel
theorem dX5_writeClause_1 : decode cX5_writeClause 1 = .ok (.iload_n 1, 1) := by decide +kernel
theorem dX5_writeClause_2 : decode cX5_writeClause 2 = .ok (.invokevirtual 41, 3) := by decide +kernel
theorem dX5_writeClause_5 : decode cX5_writeClause 5 = .ok (.aload_n 0, 1) := by decide +kernel
theorem dX5_writeClause_6 : decode cX5_writeClause 6 = .ok (.bipush 32, 2) := by decide +kernel
theorem dX5_writeClause_8 : decode cX5_writeClause 8 = .ok (.invokevirtual 44, 3) := by decide +kernel
theorem dX5_writeClause_11 : decode cX5_writeClause 11 = .ok (.iconst 0, 1) := by decide +kernel
theorem dX5_writeClause_12 : decode cX5_writeClause 12 = .ok (.istore_n 2, 1) := by decide +kernel
theorem dX5_writeClause_13 : decode cX5_writeClause 13 = .ok (.iload_n 2, 1) := by decide +kernel
theorem dX5_writeClause_14 : decode cX5_writeClause 14 = .ok (.aload_n 0, 1) := by decide +kernel
theorem dX5_writeClause_15 : decode cX5_writeClause 15 = .ok (.getfield 9, 3) := by decide +kernel
theorem dX5_writeClause_18 : decode cX5_writeClause 18 = .ok (.getfield 47, 3) := by decide +kernel
theorem dX5_writeClause_21 : decode cX5_writeClause 21 = .ok (.if_icmp .ge 44, 3) := by decide +kernel
theorem dX5_writeClause_24 : decode cX5_writeClause 24 = .ok (.aload_n 0, 1) := by decide +kernel
theorem dX5_writeClause_25 : decode cX5_writeClause 25 = .ok (.getfield 9, 3) := by decide +kernel
theorem dX5_writeClause_28 : decode cX5_writeClause 28 = .ok (.getfield 50, 3) := by decide +kernel
theorem dX5_writeClause_31 : decode cX5_writeClause 31 = .ok (.iload_n 2, 1) := by decide +kernel
theorem dX5_writeClause_32 : decode cX5_writeClause 32 = .ok (.iaload, 1) := by decide +kernel
theorem dX5_writeClause_33 : decode cX5_writeClause 33 = .ok (.iload_n 1, 1) := by decide +kernel
theorem dX5_writeClause_34 : decode cX5_writeClause 34 = .ok (.if_icmp .ne 25, 3) := by decide +kernel
theorem dX5_writeClause_37 : decode cX5_writeClause 37 = .ok (.aload_n 0, 1) := by decide +kernel
theorem dX5_writeClause_38 : decode cX5_writeClause 38 = .ok (.aload_n 0, 1) := by decide +kernel
theorem dX5_writeClause_39 : decode cX5_writeClause 39 = .ok (.getfield 9, 3) := by decide +kernel
theorem dX5_writeClause_42 : decode cX5_writeClause 42 = .ok (.getfield 54, 3) := by decide +kernel
theorem dX5_writeClause_45 : decode cX5_writeClause 45 = .ok (.iload_n 2, 1) := by decide +kernel
theorem dX5_writeClause_46 : decode cX5_writeClause 46 = .ok (.iaload, 1) := by decide +kernel
theorem dX5_writeClause_47 : decode cX5_writeClause 47 = .ok (.aload_n 0, 1) := by decide +kernel
theorem dX5_writeClause_48 : decode cX5_writeClause 48 = .ok (.getfield 9, 3) := by decide +kernel
theorem dX5_writeClause_51 : decode cX5_writeClause 51 = .ok (.getfield 57, 3) := by decide +kernel
theorem dX5_writeClause_54 : decode cX5_writeClause 54 = .ok (.iload_n 2, 1) := by decide +kernel
theorem dX5_writeClause_55 : decode cX5_writeClause 55 = .ok (.iaload, 1) := by decide +kernel
theorem dX5_writeClause_56 : decode cX5_writeClause 56 = .ok (.invokevirtual 60, 3) := by decide +kernel
theorem dX5_writeClause_59 : decode cX5_writeClause 59 = .ok (.iinc 2 1, 3) := by decide +kernel
theorem dX5_writeClause_62 : decode cX5_writeClause 62 = .ok (.goto (-49), 3) := by decide +kernel
theorem dX5_writeClause_65 : decode cX5_writeClause 65 = .ok (.aload_n 0, 1) := by decide +kernel
theorem dX5_writeClause_66 : decode cX5_writeClause 66 = .ok (.bipush 59, 2) := by decide +kernel
theorem dX5_writeClause_68 : decode cX5_writeClause 68 = .ok (.invokevirtual 44, 3) := by decide +kernel
theorem dX5_writeClause_71 : decode cX5_writeClause 71 = .ok (.return_, 1) := by decide +kernel
theorem dX5_write_0 : decode cX5_write 0 = .ok (.aload_n 0, 1) := by decide +kernel
theorem dX5_write_1 : decode cX5_write 1 = .ok (.iload_n 2, 1) := by decide +kernel
theorem dX5_write_2 : decode cX5_write 2 = .ok (.putfield 15, 3) := by decide +kernel
theorem dX5_write_5 : decode cX5_write 5 = .ok (.aload_n 0, 1) := by decide +kernel
theorem dX5_write_6 : decode cX5_write 6 = .ok (.iload_n 1, 1) := by decide +kernel
theorem dX5_write_7 : decode cX5_write 7 = .ok (.putfield 19, 3) := by decide +kernel
theorem dX5_write_10 : decode cX5_write 10 = .ok (.aload_n 0, 1) := by decide +kernel
theorem dX5_write_11 : decode cX5_write 11 = .ok (.iconst 0, 1) := by decide +kernel
theorem dX5_write_12 : decode cX5_write 12 = .ok (.putfield 22, 3) := by decide +kernel
theorem dX5_write_15 : decode cX5_write 15 = .ok (.aload_n 0, 1) := by decide +kernel
theorem dX5_write_16 : decode cX5_write 16 = .ok (.iconst (-1), 1) := by decide +kernel
theorem dX5_write_17 : decode cX5_write 17 = .ok (.putfield 25, 3) := by decide +kernel
theorem dX5_write_20 : decode cX5_write 20 = .ok (.iconst 0, 1) := by decide +kernel
theorem dX5_write_21 : decode cX5_write 21 = .ok (.istore_n 3, 1) := by decide +kernel
theorem dX5_write_22 : decode cX5_write 22 = .ok (.iload_n 3, 1) := by decide +kernel
theorem dX5_write_23 : decode cX5_write 23 = .ok (.aload_n 0, 1) := by decide +kernel
theorem dX5_write_24 : decode cX5_write 24 = .ok (.getfield 9, 3) := by decide +kernel
theorem dX5_write_27 : decode cX5_write 27 = .ok (.getfield 28, 3) := by decide +kernel
theorem dX5_write_30 : decode cX5_write 30 = .ok (.if_icmp .ge 25, 3) := by decide +kernel
theorem dX5_write_33 : decode cX5_write 33 = .ok (.aload_n 0, 1) := by decide +kernel
theorem dX5_write_34 : decode cX5_write 34 = .ok (.getfield 15, 3) := by decide +kernel
theorem dX5_write_37 : decode cX5_write 37 = .ok (.iload_n 3, 1) := by decide +kernel
theorem dX5_write_38 : decode cX5_write 38 = .ok (.invokestatic 33, 3) := by decide +kernel
theorem dX5_write_41 : decode cX5_write 41 = .ok (.ifCond .eq 8, 3) := by decide +kernel
theorem dX5_write_44 : decode cX5_write 44 = .ok (.aload_n 0, 1) := by decide +kernel
theorem dX5_write_45 : decode cX5_write 45 = .ok (.iload_n 3, 1) := by decide +kernel
theorem dX5_write_46 : decode cX5_write 46 = .ok (.invokevirtual 37, 3) := by decide +kernel
theorem dX5_write_49 : decode cX5_write 49 = .ok (.iinc 3 1, 3) := by decide +kernel
theorem dX5_write_52 : decode cX5_write 52 = .ok (.goto (-30), 3) := by decide +kernel
theorem dX5_write_55 : decode cX5_write 55 = .ok (.aload_n 0, 1) := by decide +kernel
theorem dX5_write_56 : decode cX5_write 56 = .ok (.areturn, 1) := by decide +kernel
theorem dX6_answerTo_0 : decode cX6_answerTo 0 = .ok (.aload_n 0, 1) := by decide +kernel
theorem dX6_answerTo_1 : decode cX6_answerTo 1 = .ok (.getfield 9, 3) := by decide +kernel
theorem dX6_answerTo_4 : decode cX6_answerTo 4 = .ok (.iload_n 1, 1) := by decide +kernel
theorem dX6_answerTo_5 : decode cX6_answerTo 5 = .ok (.invokestatic 15, 3) := by decide +kernel
theorem dX6_answerTo_8 : decode cX6_answerTo 8 = .ok (.ifCond .ne 5, 3) := by decide +kernel
theorem dX6_answerTo_11 : decode cX6_answerTo 11 = .ok (.iconst (-1), 1) := by decide +kernel
theorem dX6_answerTo_12 : decode cX6_answerTo 12 = .ok (.ireturn, 1) := by decide +kernel
theorem dX6_answerTo_13 : decode cX6_answerTo 13 = .ok (.aload_n 0, 1) := by decide +kernel
theorem dX6_answerTo_14 : decode cX6_answerTo 14 = .ok (.getfield 19, 3) := by decide +kernel
theorem dX6_answerTo_17 : decode cX6_answerTo 17 = .ok (.iload_n 1, 1) := by decide +kernel
theorem dX6_answerTo_18 : decode cX6_answerTo 18 = .ok (.invokestatic 15, 3) := by decide +kernel
theorem dX6_answerTo_21 : decode cX6_answerTo 21 = .ok (.ifCond .eq 7, 3) := by decide +kernel
theorem dX6_answerTo_24 : decode cX6_answerTo 24 = .ok (.iconst 1, 1) := by decide +kernel
theorem dX6_answerTo_25 : decode cX6_answerTo 25 = .ok (.goto 4, 3) := by decide +kernel
theorem dX6_answerTo_28 : decode cX6_answerTo 28 = .ok (.iconst 0, 1) := by decide +kernel
theorem dX6_answerTo_29 : decode cX6_answerTo 29 = .ok (.ireturn, 1) := by decide +kernel
theorem dX6_setAnswer_0 : decode cX6_setAnswer 0 = .ok (.iconst 1, 1) := by decide +kernel
theorem dX6_setAnswer_1 : decode cX6_setAnswer 1 = .ok (.iload_n 1, 1) := by decide +kernel
theorem dX6_setAnswer_2 : decode cX6_setAnswer 2 = .ok (.ishl, 1) := by decide +kernel
theorem dX6_setAnswer_3 : decode cX6_setAnswer 3 = .ok (.istore_n 3, 1) := by decide +kernel
theorem dX6_setAnswer_4 : decode cX6_setAnswer 4 = .ok (.aload_n 0, 1) := by decide +kernel
theorem dX6_setAnswer_5 : decode cX6_setAnswer 5 = .ok (.iload_n 2, 1) := by decide +kernel
theorem dX6_setAnswer_6 : decode cX6_setAnswer 6 = .ok (.iconst (-1), 1) := by decide +kernel
theorem dX6_setAnswer_7 : decode cX6_setAnswer 7 = .ok (.if_icmp .ne 14, 3) := by decide +kernel
theorem dX6_setAnswer_10 : decode cX6_setAnswer 10 = .ok (.aload_n 0, 1) := by decide +kernel
theorem dX6_setAnswer_11 : decode cX6_setAnswer 11 = .ok (.getfield 9, 3) := by decide +kernel
theorem dX6_setAnswer_14 : decode cX6_setAnswer 14 = .ok (.iload_n 3, 1) := by decide +kernel
theorem dX6_setAnswer_15 : decode cX6_setAnswer 15 = .ok (.iconst (-1), 1) := by decide +kernel
theorem dX6_setAnswer_16 : decode cX6_setAnswer 16 = .ok (.ixor, 1) := by decide +kernel
theorem dX6_setAnswer_17 : decode cX6_setAnswer 17 = .ok (.iand, 1) := by decide +kernel
theorem dX6_setAnswer_18 : decode cX6_setAnswer 18 = .ok (.goto 9, 3) := by decide +kernel
theorem dX6_setAnswer_21 : decode cX6_setAnswer 21 = .ok (.aload_n 0, 1) := by decide +kernel
theorem dX6_setAnswer_22 : decode cX6_setAnswer 22 = .ok (.getfield 9, 3) := by decide +kernel
theorem dX6_setAnswer_25 : decode cX6_setAnswer 25 = .ok (.iload_n 3, 1) := by decide +kernel
theorem dX6_setAnswer_26 : decode cX6_setAnswer 26 = .ok (.ior, 1) := by decide +kernel
theorem dX6_setAnswer_27 : decode cX6_setAnswer 27 = .ok (.putfield 9, 3) := by decide +kernel
theorem dX6_setAnswer_30 : decode cX6_setAnswer 30 = .ok (.aload_n 0, 1) := by decide +kernel
theorem dX6_setAnswer_31 : decode cX6_setAnswer 31 = .ok (.iload_n 2, 1) := by decide +kernel
theorem dX6_setAnswer_32 : decode cX6_setAnswer 32 = .ok (.iconst 1, 1) := by decide +kernel
theorem dX6_setAnswer_33 : decode cX6_setAnswer 33 = .ok (.if_icmp .ne 12, 3) := by decide +kernel
theorem dX6_setAnswer_36 : decode cX6_setAnswer 36 = .ok (.aload_n 0, 1) := by decide +kernel
theorem dX6_setAnswer_37 : decode cX6_setAnswer 37 = .ok (.getfield 19, 3) := by decide +kernel
theorem dX6_setAnswer_40 : decode cX6_setAnswer 40 = .ok (.iload_n 3, 1) := by decide +kernel
theorem dX6_setAnswer_41 : decode cX6_setAnswer 41 = .ok (.ior, 1) := by decide +kernel
theorem dX6_setAnswer_42 : decode cX6_setAnswer 42 = .ok (.goto 11, 3) := by decide +kernel
theorem dX6_setAnswer_45 : decode cX6_setAnswer 45 = .ok (.aload_n 0, 1) := by decide +kernel
theorem dX6_setAnswer_46 : decode cX6_setAnswer 46 = .ok (.getfield 19, 3) := by decide +kernel
theorem dX6_setAnswer_49 : decode cX6_setAnswer 49 = .ok (.iload_n 3, 1) := by decide +kernel
theorem dX6_setAnswer_50 : decode cX6_setAnswer 50 = .ok (.iconst (-1), 1) := by decide +kernel
theorem dX6_setAnswer_51 : decode cX6_setAnswer 51 = .ok (.ixor, 1) := by decide +kernel
theorem dX6_setAnswer_52 : decode cX6_setAnswer 52 = .ok (.iand, 1) := by decide +kernel
theorem dX6_setAnswer_53 : decode cX6_setAnswer 53 = .ok (.putfield 19, 3) := by decide +kernel
theorem dX6_setAnswer_56 : decode cX6_setAnswer 56 = .ok (.return_, 1) := by decide +kernel
theorem dX6_packed_0 : decode cX6_packed 0 = .ok (.aload_n 0, 1) := by decide +kernel
theorem dX6_packed_1 : decode cX6_packed 1 = .ok (.getfield 22, 3) := by decide +kernel
theorem dX6_packed_4 : decode cX6_packed 4 = .ok (.bipush 12, 2) := by decide +kernel
theorem dX6_packed_6 : decode cX6_packed 6 = .ok (.ishl, 1) := by decide +kernel
theorem dX6_packed_7 : decode cX6_packed 7 = .ok (.aload_n 0, 1) := by decide +kernel
theorem dX6_packed_8 : decode cX6_packed 8 = .ok (.getfield 19, 3) := by decide +kernel
theorem dX6_packed_11 : decode cX6_packed 11 = .ok (.bipush 6, 2) := by decide +kernel
theorem dX6_packed_13 : decode cX6_packed 13 = .ok (.ishl, 1) := by decide +kernel
theorem dX6_packed_14 : decode cX6_packed 14 = .ok (.ior, 1) := by decide +kernel
theorem dX6_packed_15 : decode cX6_packed 15 = .ok (.aload_n 0, 1) := by decide +kernel
theorem dX6_packed_16 : decode cX6_packed 16 = .ok (.getfield 9, 3) := by decide +kernel
theorem dX6_packed_19 : decode cX6_packed 19 = .ok (.ior, 1) := by decide +kernel
theorem dX6_packed_20 : decode cX6_packed 20 = .ok (.ireturn, 1) := by decide +kernel
theorem dX6_unpack_0 : decode cX6_unpack 0 = .ok (.aload_n 0, 1) := by decide +kernel
theorem dX6_unpack_1 : decode cX6_unpack 1 = .ok (.iload_n 1, 1) := by decide +kernel
theorem dX6_unpack_2 : decode cX6_unpack 2 = .ok (.bipush 63, 2) := by decide +kernel
theorem dX6_unpack_4 : decode cX6_unpack 4 = .ok (.iand, 1) := by decide +kernel
theorem dX6_unpack_5 : decode cX6_unpack 5 = .ok (.putfield 9, 3) := by decide +kernel
theorem dX6_unpack_8 : decode cX6_unpack 8 = .ok (.aload_n 0, 1) := by decide +kernel
theorem dX6_unpack_9 : decode cX6_unpack 9 = .ok (.iload_n 1, 1) := by decide +kernel
theorem dX6_unpack_10 : decode cX6_unpack 10 = .ok (.bipush 6, 2) := by decide +kernel
theorem dX6_unpack_12 : decode cX6_unpack 12 = .ok (.iushr, 1) := by decide +kernel
theorem dX6_unpack_13 : decode cX6_unpack 13 = .ok (.bipush 63, 2) := by decide +kernel
theorem dX6_unpack_15 : decode cX6_unpack 15 = .ok (.iand, 1) := by decide +kernel
theorem dX6_unpack_16 : decode cX6_unpack 16 = .ok (.putfield 19, 3) := by decide +kernel
theorem dX6_unpack_19 : decode cX6_unpack 19 = .ok (.aload_n 0, 1) := by decide +kernel
theorem dX6_unpack_20 : decode cX6_unpack 20 = .ok (.iload_n 1, 1) := by decide +kernel
theorem dX6_unpack_21 : decode cX6_unpack 21 = .ok (.bipush 12, 2) := by decide +kernel
theorem dX6_unpack_23 : decode cX6_unpack 23 = .ok (.iushr, 1) := by decide +kernel
theorem dX6_unpack_24 : decode cX6_unpack 24 = .ok (.putfield 22, 3) := by decide +kernel
theorem dX6_unpack_27 : decode cX6_unpack 27 = .ok (.return_, 1) := by decide +kernel
theorem dX7_feed_0 : decode cX7_feed 0 = .ok (.iload_n 1, 1) := by decide +kernel
theorem dX7_feed_1 : decode cX7_feed 1 = .ok (.ifCond .lt 10, 3) := by decide +kernel
theorem dX7_feed_4 : decode cX7_feed 4 = .ok (.iload_n 1, 1) := by decide +kernel
theorem dX7_feed_5 : decode cX7_feed 5 = .ok (.sipush 255, 3) := by decide +kernel
theorem dX7_feed_8 : decode cX7_feed 8 = .ok (.if_icmp .le 6, 3) := by decide +kernel
theorem dX7_feed_11 : decode cX7_feed 11 = .ok (.ldc 69, 2) := by decide +kernel
theorem dX7_feed_13 : decode cX7_feed 13 = .ok (.ireturn, 1) := by decide +kernel
theorem dX7_feed_14 : decode cX7_feed 14 = .ok (.aload_n 0, 1) := by decide +kernel
theorem dX7_feed_15 : decode cX7_feed 15 = .ok (.getfield 10, 3) := by decide +kernel
theorem dX7_feed_18 : decode cX7_feed 18 = .ok (.iload_n 1, 1) := by decide +kernel
theorem dX7_feed_19 : decode cX7_feed 19 = .ok (.invokevirtual 70, 3) := by decide +kernel
theorem dX7_feed_22 : decode cX7_feed 22 = .ok (.ifCond .eq 13, 3) := by decide +kernel
theorem dX7_feed_25 : decode cX7_feed 25 = .ok (.aload_n 0, 1) := by decide +kernel
theorem dX7_feed_26 : decode cX7_feed 26 = .ok (.getfield 10, 3) := by decide +kernel
theorem dX7_feed_29 : decode cX7_feed 29 = .ok (.getfield 74, 3) := by decide +kernel
theorem dX7_feed_32 : decode cX7_feed 32 = .ok (.goto 5, 3) := by decide +kernel
theorem dX7_feed_35 : decode cX7_feed 35 = .ok (.ldc 78, 2) := by decide +kernel
theorem dX7_feed_37 : decode cX7_feed 37 = .ok (.ireturn, 1) := by decide +kernel
theorem dX7_forgetImages_0 : decode cX7_forgetImages 0 = .ok (.iconst 0, 1) := by decide +kernel
theorem dX7_forgetImages_1 : decode cX7_forgetImages 1 = .ok (.istore_n 1, 1) := by decide +kernel
theorem dX7_forgetImages_2 : decode cX7_forgetImages 2 = .ok (.iload_n 1, 1) := by decide +kernel
theorem dX7_forgetImages_3 : decode cX7_forgetImages 3 = .ok (.iconst 2, 1) := by decide +kernel
theorem dX7_forgetImages_4 : decode cX7_forgetImages 4 = .ok (.if_icmp .ge 16, 3) := by decide +kernel
theorem dX7_forgetImages_7 : decode cX7_forgetImages 7 = .ok (.aload_n 0, 1) := by decide +kernel
theorem dX7_forgetImages_8 : decode cX7_forgetImages 8 = .ok (.getfield 37, 3) := by decide +kernel
theorem dX7_forgetImages_11 : decode cX7_forgetImages 11 = .ok (.iload_n 1, 1) := by decide +kernel
theorem dX7_forgetImages_12 : decode cX7_forgetImages 12 = .ok (.iconst (-1), 1) := by decide +kernel
theorem dX7_forgetImages_13 : decode cX7_forgetImages 13 = .ok (.iastore, 1) := by decide +kernel
theorem dX7_forgetImages_14 : decode cX7_forgetImages 14 = .ok (.iinc 1 1, 3) := by decide +kernel
theorem dX7_forgetImages_17 : decode cX7_forgetImages 17 = .ok (.goto (-15), 3) := by decide +kernel
theorem dX7_forgetImages_20 : decode cX7_forgetImages 20 = .ok (.return_, 1) := by decide +kernel
theorem dX7_contract_0 : decode cX7_contract 0 = .ok (.aload_n 0, 1) := by decide +kernel
theorem dX7_contract_1 : decode cX7_contract 1 = .ok (.getfield 10, 3) := by decide +kernel
theorem dX7_contract_4 : decode cX7_contract 4 = .ok (.invokevirtual 79, 3) := by decide +kernel
theorem dX7_contract_7 : decode cX7_contract 7 = .ok (.istore_n 1, 1) := by decide +kernel
theorem dX7_contract_8 : decode cX7_contract 8 = .ok (.iload_n 1, 1) := by decide +kernel
theorem dX7_contract_9 : decode cX7_contract 9 = .ok (.ifCond .eq 8, 3) := by decide +kernel
theorem dX7_contract_12 : decode cX7_contract 12 = .ok (.bipush (-10), 2) := by decide +kernel
theorem dX7_contract_14 : decode cX7_contract 14 = .ok (.iload_n 1, 1) := by decide +kernel
theorem dX7_contract_15 : decode cX7_contract 15 = .ok (.isub, 1) := by decide +kernel
theorem dX7_contract_16 : decode cX7_contract 16 = .ok (.ireturn, 1) := by decide +kernel
theorem dX7_contract_17 : decode cX7_contract 17 = .ok (.aload_n 0, 1) := by decide +kernel
theorem dX7_contract_18 : decode cX7_contract 18 = .ok (.getfield 19, 3) := by decide +kernel
theorem dX7_contract_21 : decode cX7_contract 21 = .ok (.aload_n 0, 1) := by decide +kernel
theorem dX7_contract_22 : decode cX7_contract 22 = .ok (.getfield 10, 3) := by decide +kernel
theorem dX7_contract_25 : decode cX7_contract 25 = .ok (.getfield 83, 3) := by decide +kernel
theorem dX7_contract_28 : decode cX7_contract 28 = .ok (.invokevirtual 86, 3) := by decide +kernel
theorem dX7_contract_31 : decode cX7_contract 31 = .ok (.aload_n 0, 1) := by decide +kernel
theorem dX7_contract_32 : decode cX7_contract 32 = .ok (.getfield 26, 3) := by decide +kernel
theorem dX7_contract_35 : decode cX7_contract 35 = .ok (.iconst 0, 1) := by decide +kernel
theorem dX7_contract_36 : decode cX7_contract 36 = .ok (.putfield 89, 3) := by decide +kernel
theorem dX7_contract_39 : decode cX7_contract 39 = .ok (.aload_n 0, 1) := by decide +kernel
theorem dX7_contract_40 : decode cX7_contract 40 = .ok (.invokevirtual 41, 3) := by decide +kernel
theorem dX7_contract_43 : decode cX7_contract 43 = .ok (.aload_n 0, 1) := by decide +kernel
theorem dX7_contract_44 : decode cX7_contract 44 = .ok (.getfield 33, 3) := by decide +kernel
theorem dX7_contract_47 : decode cX7_contract 47 = .ok (.invokevirtual 92, 3) := by decide +kernel
theorem dX7_contract_50 : decode cX7_contract 50 = .ok (.aload_n 0, 1) := by decide +kernel
theorem dX7_contract_51 : decode cX7_contract 51 = .ok (.getfield 49, 3) := by decide +kernel
theorem dX7_contract_54 : decode cX7_contract 54 = .ok (.aload_n 0, 1) := by decide +kernel
theorem dX7_contract_55 : decode cX7_contract 55 = .ok (.getfield 26, 3) := by decide +kernel
theorem dX7_contract_58 : decode cX7_contract 58 = .ok (.getfield 89, 3) := by decide +kernel
theorem dX7_contract_61 : decode cX7_contract 61 = .ok (.invokevirtual 95, 3) := by decide +kernel
theorem dX7_contract_64 : decode cX7_contract 64 = .ok (.aload_n 0, 1) := by decide +kernel
theorem dX7_contract_65 : decode cX7_contract 65 = .ok (.getfield 19, 3) := by decide +kernel
theorem dX7_contract_68 : decode cX7_contract 68 = .ok (.getfield 99, 3) := by decide +kernel
theorem dX7_contract_71 : decode cX7_contract 71 = .ok (.ireturn, 1) := by decide +kernel
theorem dX7_fault_0 : decode cX7_fault 0 = .ok (.aload_n 0, 1) := by decide +kernel
theorem dX7_fault_1 : decode cX7_fault 1 = .ok (.getfield 10, 3) := by decide +kernel
theorem dX7_fault_4 : decode cX7_fault 4 = .ok (.getfield 102, 3) := by decide +kernel
theorem dX7_fault_7 : decode cX7_fault 7 = .ok (.ireturn, 1) := by decide +kernel
theorem dX7_isQuestion_0 : decode cX7_isQuestion 0 = .ok (.iload_n 0, 1) := by decide +kernel
theorem dX7_isQuestion_1 : decode cX7_isQuestion 1 = .ok (.ifCond .lt 13, 3) := by decide +kernel
theorem dX7_isQuestion_4 : decode cX7_isQuestion 4 = .ok (.iload_n 0, 1) := by decide +kernel
theorem dX7_isQuestion_5 : decode cX7_isQuestion 5 = .ok (.bipush 6, 2) := by decide +kernel
theorem dX7_isQuestion_7 : decode cX7_isQuestion 7 = .ok (.if_icmp .ge 7, 3) := by decide +kernel
theorem dX7_isQuestion_10 : decode cX7_isQuestion 10 = .ok (.iconst 1, 1) := by decide +kernel
theorem dX7_isQuestion_11 : decode cX7_isQuestion 11 = .ok (.goto 4, 3) := by decide +kernel
theorem dX7_isQuestion_14 : decode cX7_isQuestion 14 = .ok (.iconst 0, 1) := by decide +kernel
theorem dX7_isQuestion_15 : decode cX7_isQuestion 15 = .ok (.ireturn, 1) := by decide +kernel
def FX4_readText_L33 (k : SS → Option (Int32 × SS)) : Nat → Int32 → SS → Option (Int32 × SS)
  | 0, _, _ => none
  | n + 1, v1, σ => if (240 : Int32) ≤ v1 then k σ
    else if (gI σ 10) ≤ (gI σ 16) then k σ
    else if (gI σ 15) = 0 then ob (FX4_readWord σ) (fun σ13 => ob (FX4_skipBlanks σ13) (fun σ15 => FX4_readText_L33 k n (v1 + (1 : Int32)) σ15))
    else k σ
set_option maxRecDepth 100000 in
set_option maxHeartbeats 4000000 in
theorem PX4_readText_L33 {X : Bx} {g : Gx} {r : Int32} {σr : SS} (hX : Okw wsX X g cX4_readText 2 RX4 (some .int) ({ frames := 5, cells := 0, slots := 0, locals := 110 } : Room) (fun g => some (.int r)) σr) {k : SS → Option (Int32 × SS)} (hk : ∀ (σ : SS), k σ = some (r, σr) → Vx X g.1 2 (wsX g σ) 72 [(0, .ref (g.2.1 1))] []) : ∀ (n : Nat) (v1 : Int32) (σ : SS), FX4_readText_L33 k n v1 σ = some (r, σr) → Vx X g.1 2 (wsX g σ) 33 [(0, .ref (g.2.1 1)), (1, .int v1)] [] := by
  have h0 := hX.1
  intro n
  induction n with
  | zero =>
    intro v1 σ hf
    rw [FX4_readText_L33] at hf
    cases hf
  | succ n ih =>
    intro v1 σ hf
    rw [FX4_readText_L33] at hf
    refine vx_iload_n h0 dX4_readText_33 rfl ?_
    refine vx_sipush (v := (240 : Int32)) h0 dX4_readText_34 (by decide) ?_
    refine vx_icmp_ge (tgt := 72) h0 dX4_readText_37 (by decide) (fun c9 => ?_) (fun c9 => ?_)
    · replace hf := (if_pos c9).symm.trans hf
      refine vx_sub [0] rfl ?_
      exact hk _ hf
    · replace hf := (if_neg c9).symm.trans hf
      refine vx_aload_n h0 dX4_readText_40 rfl ?_
      refine xg_1_6 hX q181 dX4_readText_41 ?_
      refine vx_aload_n h0 dX4_readText_44 rfl ?_
      refine xg_1_0 hX q172 dX4_readText_45 ?_
      refine vx_icmp_ge (tgt := 72) h0 dX4_readText_48 (by decide) (fun c10 => ?_) (fun c10 => ?_)
      · replace hf := (if_pos c10).symm.trans hf
        refine vx_sub [0] rfl ?_
        exact hk _ hf
      · replace hf := (if_neg c10).symm.trans hf
        refine vx_aload_n h0 dX4_readText_51 rfl ?_
        refine xg_1_5 hX q180 dX4_readText_52 ?_
        refine vx_if_ne (tgt := 72) h0 dX4_readText_55 (by decide) (fun c11 => ?_) (fun c11 => ?_)
        · replace hf := (if_neg c11).symm.trans hf
          refine vx_sub [0] rfl ?_
          exact hk _ hf
        · replace hf := (if_pos c11).symm.trans hf
          refine vx_aload_n h0 dX4_readText_58 rfl ?_
          obtain ⟨σ13, h12, hf⟩ := ob_some hf
          refine w_callV (st := []) (ci := 4) (q0 := 1) hX (c_X4_readWord h12) ce_X4_readWord q358 ⟨rfl, rfl⟩ ⟨by decide, by decide⟩ rfl rfl rfl rfl (xo_1 g _) rfl (Nat.le_of_ble_eq_true rfl) dX4_readText_59 ?_
          show Vx X g.1 2 (wsX g σ13) 62 [(0, .ref (g.2.1 1)), (1, .int v1)] []
          refine vx_aload_n h0 dX4_readText_62 rfl ?_
          obtain ⟨σ15, h14, hf⟩ := ob_some hf
          refine w_callV (st := []) (ci := 4) (q0 := 1) hX (c_X4_skipBlanks h14) ce_X4_skipBlanks q354 ⟨rfl, rfl⟩ ⟨by decide, by decide⟩ rfl rfl rfl rfl (xo_1 g _) rfl (Nat.le_of_ble_eq_true rfl) dX4_readText_63 ?_
          show Vx X g.1 2 (wsX g σ15) 66 [(0, .ref (g.2.1 1)), (1, .int v1)] []
          refine vx_iinc (q := 1) (v := (v1 + (1 : Int32))) (ls' := [(1, .int (v1 + (1 : Int32))), (0, .ref (g.2.1 1))]) h0 dX4_readText_66 rfl rfl (by decide) rfl ?_
          refine vx_goto (tgt := 33) h0 dX4_readText_69 (by decide) ?_
          refine vx_sub [1, 0] rfl ?_
          exact ih _ _ hf
def FX4_readText_J96 (σ : SS) : Option (Int32 × SS) :=
  if (gI σ 15) = 0 then ob (FX4_checkReferences σ) (fun σ21 => bd (sI σ21 10 (0 : Int32)) (fun σ22 => some ((gI σ22 15), σ22)))
    else bd (sI σ 10 (0 : Int32)) (fun σ19 => some ((gI σ19 15), σ19))
set_option maxRecDepth 100000 in
set_option maxHeartbeats 4000000 in
theorem PX4_readText_J96 {X : Bx} {g : Gx} {r : Int32} {σr : SS} {σ : SS} (hX : Okw wsX X g cX4_readText 2 RX4 (some .int) ({ frames := 5, cells := 0, slots := 0, locals := 110 } : Room) (fun g => some (.int r)) σr) (hf : FX4_readText_J96 σ = some (r, σr)) : Vx X g.1 2 (wsX g σ) 96 [(0, .ref (g.2.1 1))] [] := by
  have h0 := hX.1
  rw [FX4_readText_J96] at hf
  refine vx_aload_n h0 dX4_readText_96 rfl ?_
  refine xg_1_5 hX q180 dX4_readText_97 ?_
  refine vx_if_ne (tgt := 107) h0 dX4_readText_100 (by decide) (fun c18 => ?_) (fun c18 => ?_)
  · replace hf := (if_neg c18).symm.trans hf
    refine vx_aload_n h0 dX4_readText_107 rfl ?_
    refine vx_iconst (v := (0 : Int32)) h0 dX4_readText_108 (by decide) ?_
    refine xp_1_0 hX q172 dX4_readText_109 ?_
    generalize (sI σ 10 (0 : Int32)) = σ19 at hf ⊢
    replace hf := bd_h hf
    refine vx_aload_n h0 dX4_readText_112 rfl ?_
    refine xg_1_5 hX q180 dX4_readText_113 ?_
    exact w_iretE hX hf dX4_readText_116
  · replace hf := (if_pos c18).symm.trans hf
    refine vx_aload_n h0 dX4_readText_103 rfl ?_
    obtain ⟨σ21, h20, hf⟩ := ob_some hf
    refine w_callV (st := []) (ci := 4) (q0 := 1) hX (c_X4_checkReferences h20) ce_X4_checkReferences q409 ⟨rfl, rfl⟩ ⟨by decide, by decide⟩ rfl rfl rfl rfl (xo_1 g _) rfl (Nat.le_of_ble_eq_true rfl) dX4_readText_104 ?_
    show Vx X g.1 2 (wsX g σ21) 107 [(0, .ref (g.2.1 1))] []
    refine vx_aload_n h0 dX4_readText_107 rfl ?_
    refine vx_iconst (v := (0 : Int32)) h0 dX4_readText_108 (by decide) ?_
    refine xp_1_0 hX q172 dX4_readText_109 ?_
    generalize (sI σ21 10 (0 : Int32)) = σ22 at hf ⊢
    replace hf := bd_h hf
    refine vx_aload_n h0 dX4_readText_112 rfl ?_
    refine xg_1_5 hX q180 dX4_readText_113 ?_
    exact w_iretE hX hf dX4_readText_116
def FX4_readText (σ : SS) : Option (Int32 × SS) :=
  ob (FX0_clear σ) (fun σ2 => bd (sI σ2 15 (0 : Int32)) (fun σ3 => bd (sI σ3 11 (-1 : Int32)) (fun σ4 => bd (sI σ4 16 (0 : Int32)) (fun σ5 => bd (sI σ5 17 (-1 : Int32)) (fun σ6 => ob (FX4_skipBlanks σ6) (fun σ8 => FX4_readText_L33 (fun σ16 => if (gI σ16 15) = 0 then if (gI σ16 17) = (-1 : Int32) then FX4_readText_J96 σ16
    else ob (FX4_fail σ16 (1 : Int32) (gI σ16 10)) (fun σ25 => FX4_readText_J96 σ25)
    else FX4_readText_J96 σ16) 5000 (0 : Int32) σ8))))))
set_option maxRecDepth 100000 in
set_option maxHeartbeats 4000000 in
theorem c_X4_readText {σ : SS} {r : Int32} {σr : SS} (hf : FX4_readText σ = some (r, σr)) : Mcw wsX yX4_readText cX4_readText 2 (some .int) ({ frames := 5, cells := 0, slots := 0, locals := 110 } : Room) (fun g => [.ref (g.2.1 1)]) σ (fun g => some (.int r)) σr := by
  refine w_enter wsX_fix (by decide) (fun g => Nat.le_of_ble_eq_true rfl) ?_
  intro X g hX
  replace hX : Okw wsX X g cX4_readText 2 RX4 (some .int) ({ frames := 5, cells := 0, slots := 0, locals := 110 } : Room) (fun g => some (.int r)) σr := hX
  have h0 := hX.1
  show Vx X g.1 2 (wsX g σ) 0 [(0, .ref (g.2.1 1))] []
  rw [FX4_readText] at hf
  refine vx_aload_n h0 dX4_readText_0 rfl ?_
  refine xg_1_2 hX q176 dX4_readText_1 ?_
  obtain ⟨σ2, h1, hf⟩ := ob_some hf
  refine w_callV (st := []) (ci := 0) (q0 := 2) hX (c_X0_clear h1) ce_X0_clear q350 ⟨rfl, rfl⟩ ⟨by decide, by decide⟩ rfl rfl rfl rfl (xo_2 g _) rfl (Nat.le_of_ble_eq_true rfl) dX4_readText_4 ?_
  show Vx X g.1 2 (wsX g σ2) 7 [(0, .ref (g.2.1 1))] []
  refine vx_aload_n h0 dX4_readText_7 rfl ?_
  refine vx_iconst (v := (0 : Int32)) h0 dX4_readText_8 (by decide) ?_
  refine xp_1_5 hX q180 dX4_readText_9 ?_
  generalize (sI σ2 15 (0 : Int32)) = σ3 at hf ⊢
  replace hf := bd_h hf
  refine vx_aload_n h0 dX4_readText_12 rfl ?_
  refine vx_iconst (v := (-1 : Int32)) h0 dX4_readText_13 (by decide) ?_
  refine xp_1_1 hX q174 dX4_readText_14 ?_
  generalize (sI σ3 11 (-1 : Int32)) = σ4 at hf ⊢
  replace hf := bd_h hf
  refine vx_aload_n h0 dX4_readText_17 rfl ?_
  refine vx_iconst (v := (0 : Int32)) h0 dX4_readText_18 (by decide) ?_
  refine xp_1_6 hX q181 dX4_readText_19 ?_
  generalize (sI σ4 16 (0 : Int32)) = σ5 at hf ⊢
  replace hf := bd_h hf
  refine vx_aload_n h0 dX4_readText_22 rfl ?_
  refine vx_iconst (v := (-1 : Int32)) h0 dX4_readText_23 (by decide) ?_
  refine xp_1_7 hX q182 dX4_readText_24 ?_
  generalize (sI σ5 17 (-1 : Int32)) = σ6 at hf ⊢
  replace hf := bd_h hf
  refine vx_aload_n h0 dX4_readText_27 rfl ?_
  obtain ⟨σ8, h7, hf⟩ := ob_some hf
  refine w_callV (st := []) (ci := 4) (q0 := 1) hX (c_X4_skipBlanks h7) ce_X4_skipBlanks q354 ⟨rfl, rfl⟩ ⟨by decide, by decide⟩ rfl rfl rfl rfl (xo_1 g _) rfl (Nat.le_of_ble_eq_true rfl) dX4_readText_28 ?_
  show Vx X g.1 2 (wsX g σ8) 31 [(0, .ref (g.2.1 1))] []
  refine vx_iconst (v := (0 : Int32)) h0 dX4_readText_31 (by decide) ?_
  refine vx_istore_n (ls' := [(1, .int (0 : Int32)), (0, .ref (g.2.1 1))]) h0 dX4_readText_32 (by decide) rfl ?_
  refine vx_sub [1, 0] rfl ?_
  refine PX4_readText_L33 hX (fun σ16 hf => ?_) _ _ _ hf
  refine vx_aload_n h0 dX4_readText_72 rfl ?_
  refine xg_1_5 hX q180 dX4_readText_73 ?_
  refine vx_if_ne (tgt := 96) h0 dX4_readText_76 (by decide) (fun c17 => ?_) (fun c17 => ?_)
  · replace hf := (if_neg c17).symm.trans hf
    exact PX4_readText_J96 hX  hf
  · replace hf := (if_pos c17).symm.trans hf
    refine vx_aload_n h0 dX4_readText_79 rfl ?_
    refine xg_1_7 hX q182 dX4_readText_80 ?_
    refine vx_iconst (v := (-1 : Int32)) h0 dX4_readText_83 (by decide) ?_
    refine vx_icmp_eq (tgt := 96) h0 dX4_readText_84 (by decide) (fun c23 => ?_) (fun c23 => ?_)
    · replace hf := (if_pos c23).symm.trans hf
      exact PX4_readText_J96 hX  hf
    · replace hf := (if_neg c23).symm.trans hf
      refine vx_aload_n h0 dX4_readText_87 rfl ?_
      refine vx_iconst (v := (1 : Int32)) h0 dX4_readText_88 (by decide) ?_
      refine vx_aload_n h0 dX4_readText_89 rfl ?_
      refine xg_1_0 hX q172 dX4_readText_90 ?_
      obtain ⟨σ25, h24, hf⟩ := ob_some hf
      refine w_callV (st := []) (ci := 4) (q0 := 1) hX (c_X4_fail h24) ce_X4_fail q374 ⟨rfl, rfl⟩ ⟨by decide, by decide⟩ rfl rfl rfl rfl (xo_1 g _) rfl (Nat.le_of_ble_eq_true rfl) dX4_readText_93 ?_
      show Vx X g.1 2 (wsX g σ25) 96 [(0, .ref (g.2.1 1))] []
      exact PX4_readText_J96 hX  hf
def FX5_put (σ : SS) (a0 : Int32) : Option (SS) :=
  if (gI σ 91) = (gI σ 94) then bd (sI σ 92 a0) (fun σ3 => bd (sI σ3 91 ((gI σ3 91) + (1 : Int32))) (fun σ4 => some σ4))
    else bd (sI σ 91 ((gI σ 91) + (1 : Int32))) (fun σ2 => some σ2)
set_option maxRecDepth 100000 in
set_option maxHeartbeats 4000000 in
theorem c_X5_put {σ : SS} {a0 : Int32} {σr : SS} (hf : FX5_put σ a0 = some σr) : Mcw wsX yX5_put cX5_put 2 none ({ frames := 0, cells := 0, slots := 0, locals := 0 } : Room) (fun g => [.ref (g.2.1 35), .int a0]) σ (fun g => none) σr := by
  refine w_enter wsX_fix (by decide) (fun g => Nat.le_of_ble_eq_true rfl) ?_
  intro X g hX
  replace hX : Okw wsX X g cX5_put 2 RX5 none ({ frames := 0, cells := 0, slots := 0, locals := 0 } : Room) (fun g => none) σr := hX
  have h0 := hX.1
  show Vx X g.1 2 (wsX g σ) 0 [(0, .ref (g.2.1 35)), (1, .int a0)] []
  rw [FX5_put] at hf
  refine vx_aload_n h0 dX5_put_0 rfl ?_
  refine xg_35_1 hX q290 dX5_put_1 ?_
  refine vx_aload_n h0 dX5_put_4 rfl ?_
  refine xg_35_4 hX q295 dX5_put_5 ?_
  refine vx_icmp_ne (tgt := 16) h0 dX5_put_8 (by decide) (fun c1 => ?_) (fun c1 => ?_)
  · replace hf := (if_neg c1).symm.trans hf
    refine vx_aload_n h0 dX5_put_16 rfl ?_
    refine vx_dup h0 dX5_put_17 rfl ?_
    refine xg_35_1 hX q290 dX5_put_18 ?_
    refine vx_iconst (v := (1 : Int32)) h0 dX5_put_21 (by decide) ?_
    refine vx_iadd h0 dX5_put_22 ?_
    refine xp_35_1 hX q290 dX5_put_23 ?_
    generalize (sI σ 91 ((gI σ 91) + (1 : Int32))) = σ2 at hf ⊢
    replace hf := bd_h hf
    exact w_vretE hX hf dX5_put_26
  · replace hf := (if_pos c1).symm.trans hf
    refine vx_aload_n h0 dX5_put_11 rfl ?_
    refine vx_iload_n h0 dX5_put_12 rfl ?_
    refine xp_35_2 hX q292 dX5_put_13 ?_
    generalize (sI σ 92 a0) = σ3 at hf ⊢
    replace hf := bd_h hf
    refine vx_aload_n h0 dX5_put_16 rfl ?_
    refine vx_dup h0 dX5_put_17 rfl ?_
    refine xg_35_1 hX q290 dX5_put_18 ?_
    refine vx_iconst (v := (1 : Int32)) h0 dX5_put_21 (by decide) ?_
    refine vx_iadd h0 dX5_put_22 ?_
    refine xp_35_1 hX q290 dX5_put_23 ?_
    generalize (sI σ3 91 ((gI σ3 91) + (1 : Int32))) = σ4 at hf ⊢
    replace hf := bd_h hf
    exact w_vretE hX hf dX5_put_26
def FX5_writeFigures_J17 (σ : SS) (v1 : Int32) : Option (SS) :=
  ob (FX5_put σ ((48 : Int32) + (jrem v1 (10 : Int32)))) (fun σ3 => some σ3)
set_option maxRecDepth 100000 in
set_option maxHeartbeats 4000000 in
theorem PX5_writeFigures_J17 {X : Bx} {g : Gx} {σr : SS} {σ : SS} (hX : Okw wsX X g cX5_writeFigures 2 RX5 none ({ frames := 1, cells := 0, slots := 0, locals := 21 } : Room) (fun g => none) σr) {v1 : Int32} (hf : FX5_writeFigures_J17 σ v1 = some σr) : Vx X g.1 2 (wsX g σ) 17 [(0, .ref (g.2.1 35)), (1, .int v1)] [] := by
  have h0 := hX.1
  rw [FX5_writeFigures_J17] at hf
  refine vx_aload_n h0 dX5_writeFigures_17 rfl ?_
  refine vx_bipush (v := (48 : Int32)) h0 dX5_writeFigures_18 (by decide) ?_
  refine vx_iload_n h0 dX5_writeFigures_20 rfl ?_
  refine vx_bipush (v := (10 : Int32)) h0 dX5_writeFigures_21 (by decide) ?_
  refine vx_irem h0 dX5_writeFigures_23 (by decide) ?_
  refine vx_iadd h0 dX5_writeFigures_24 ?_
  obtain ⟨σ3, h2, hf⟩ := ob_some hf
  refine w_callV (st := []) (ci := 5) (q0 := 35) hX (c_X5_put h2) ce_X5_put q652 ⟨rfl, rfl⟩ ⟨by decide, by decide⟩ rfl rfl rfl rfl (xo_35 g _) rfl (Nat.le_of_ble_eq_true rfl) dX5_writeFigures_25 ?_
  show Vx X g.1 2 (wsX g σ3) 28 [(0, .ref (g.2.1 35)), (1, .int v1)] []
  exact w_vretE hX hf dX5_writeFigures_28
def FX5_writeFigures (σ : SS) (a0 : Int32) : Option (SS) :=
  if a0 < (10 : Int32) then FX5_writeFigures_J17 σ a0
    else ob (FX5_put σ ((48 : Int32) + (a0 / (10 : Int32)))) (fun σ5 => FX5_writeFigures_J17 σ5 a0)
set_option maxRecDepth 100000 in
set_option maxHeartbeats 4000000 in
theorem c_X5_writeFigures {σ : SS} {a0 : Int32} {σr : SS} (hf : FX5_writeFigures σ a0 = some σr) : Mcw wsX yX5_writeFigures cX5_writeFigures 2 none ({ frames := 1, cells := 0, slots := 0, locals := 21 } : Room) (fun g => [.ref (g.2.1 35), .int a0]) σ (fun g => none) σr := by
  refine w_enter wsX_fix (by decide) (fun g => Nat.le_of_ble_eq_true rfl) ?_
  intro X g hX
  replace hX : Okw wsX X g cX5_writeFigures 2 RX5 none ({ frames := 1, cells := 0, slots := 0, locals := 21 } : Room) (fun g => none) σr := hX
  have h0 := hX.1
  show Vx X g.1 2 (wsX g σ) 0 [(0, .ref (g.2.1 35)), (1, .int a0)] []
  rw [FX5_writeFigures] at hf
  refine vx_iload_n h0 dX5_writeFigures_0 rfl ?_
  refine vx_bipush (v := (10 : Int32)) h0 dX5_writeFigures_1 (by decide) ?_
  refine vx_icmp_lt (tgt := 17) h0 dX5_writeFigures_3 (by decide) (fun c1 => ?_) (fun c1 => ?_)
  · replace hf := (if_pos c1).symm.trans hf
    exact PX5_writeFigures_J17 hX  hf
  · replace hf := (if_neg c1).symm.trans hf
    refine vx_aload_n h0 dX5_writeFigures_6 rfl ?_
    refine vx_bipush (v := (48 : Int32)) h0 dX5_writeFigures_7 (by decide) ?_
    refine vx_iload_n h0 dX5_writeFigures_9 rfl ?_
    refine vx_bipush (v := (10 : Int32)) h0 dX5_writeFigures_10 (by decide) ?_
    refine vx_idiv h0 dX5_writeFigures_12 (by decide) ?_
    refine vx_iadd h0 dX5_writeFigures_13 ?_
    obtain ⟨σ5, h4, hf⟩ := ob_some hf
    refine w_callV (st := []) (ci := 5) (q0 := 35) hX (c_X5_put h4) ce_X5_put q652 ⟨rfl, rfl⟩ ⟨by decide, by decide⟩ rfl rfl rfl rfl (xo_35 g _) rfl (Nat.le_of_ble_eq_true rfl) dX5_writeFigures_14 ?_
    show Vx X g.1 2 (wsX g σ5) 17 [(0, .ref (g.2.1 35)), (1, .int a0)] []
    exact PX5_writeFigures_J17 hX  hf
def FX5_writeNumber_J41 (σ : SS) (rec : Int32 → SS → Option (SS)) (v1 : Int32) (v2 : Int32) : Option (SS) :=
  ob (FX0_aroundAt σ v1 v2) (fun r7 => ob (FX0_place σ r7 (gI σ 93)) (fun r9 => ob (FX5_writeFigures σ r9) (fun σ11 => rec (v2 + (1 : Int32)) σ11)))
set_option maxRecDepth 100000 in
set_option maxHeartbeats 4000000 in
theorem PX5_writeNumber_J41 {X : Bx} {g : Gx} {σr : SS} {σ : SS} (hX : Okw wsX X g cX5_writeNumber 3 RX5 none ({ frames := 2, cells := 0, slots := 0, locals := 45 } : Room) (fun g => none) σr) {rec : Int32 → SS → Option (SS)} {v1 : Int32} {v2 : Int32} (hrec : ∀ (w2 : Int32) (σ2 : SS), rec w2 σ2 = some σr → Vx X g.1 3 (wsX g σ2) 18 [(0, .ref (g.2.1 35)), (1, .int v1), (2, .int w2)] []) (hf : FX5_writeNumber_J41 σ rec v1 v2 = some σr) : Vx X g.1 3 (wsX g σ) 41 [(0, .ref (g.2.1 35)), (1, .int v1), (2, .int v2)] [] := by
  have h0 := hX.1
  rw [FX5_writeNumber_J41] at hf
  refine vx_aload_n h0 dX5_writeNumber_41 rfl ?_
  refine vx_aload_n h0 dX5_writeNumber_42 rfl ?_
  refine xg_35_0 hX q289 dX5_writeNumber_43 ?_
  refine vx_aload_n h0 dX5_writeNumber_46 rfl ?_
  refine xg_35_0 hX q289 dX5_writeNumber_47 ?_
  refine vx_iload_n h0 dX5_writeNumber_50 rfl ?_
  refine vx_iload_n h0 dX5_writeNumber_51 rfl ?_
  obtain ⟨r7, h6, hf⟩ := ob_some hf
  refine w_callV (st := [.ref (g.2.1 14), .ref (g.2.1 35)]) (ci := 0) (q0 := 14) hX (c_X0_aroundAt h6) ce_X0_aroundAt q656 ⟨rfl, rfl⟩ ⟨by decide, by decide⟩ rfl rfl rfl rfl (xo_14 g _) rfl (Nat.le_of_ble_eq_true rfl) dX5_writeNumber_52 ?_
  show Vx X g.1 3 (wsX g σ) 55 [(0, .ref (g.2.1 35)), (1, .int v1), (2, .int v2)] [.int r7, .ref (g.2.1 14), .ref (g.2.1 35)]
  refine vx_aload_n h0 dX5_writeNumber_55 rfl ?_
  refine xg_35_3 hX q294 dX5_writeNumber_56 ?_
  obtain ⟨r9, h8, hf⟩ := ob_some hf
  refine w_callV (st := [.ref (g.2.1 35)]) (ci := 0) (q0 := 14) hX (c_X0_place h8) ce_X0_place q660 ⟨rfl, rfl⟩ ⟨by decide, by decide⟩ rfl rfl rfl rfl (xo_14 g _) rfl (Nat.le_of_ble_eq_true rfl) dX5_writeNumber_59 ?_
  show Vx X g.1 3 (wsX g σ) 62 [(0, .ref (g.2.1 35)), (1, .int v1), (2, .int v2)] [.int r9, .ref (g.2.1 35)]
  obtain ⟨σ11, h10, hf⟩ := ob_some hf
  refine w_callV (st := []) (ci := 5) (q0 := 35) hX (c_X5_writeFigures h10) ce_X5_writeFigures q665 ⟨rfl, rfl⟩ ⟨by decide, by decide⟩ rfl rfl rfl rfl (xo_35 g _) rfl (Nat.le_of_ble_eq_true rfl) dX5_writeNumber_62 ?_
  show Vx X g.1 3 (wsX g σ11) 65 [(0, .ref (g.2.1 35)), (1, .int v1), (2, .int v2)] []
  refine vx_iinc (q := 2) (v := (v2 + (1 : Int32))) (ls' := [(2, .int (v2 + (1 : Int32))), (0, .ref (g.2.1 35)), (1, .int v1)]) h0 dX5_writeNumber_65 rfl rfl (by decide) rfl ?_
  refine vx_goto (tgt := 18) h0 dX5_writeNumber_68 (by decide) ?_
  refine vx_sub [1, 2, 0] rfl ?_
  exact hrec _ _ hf
def FX5_writeNumber_L18 (v1 : Int32) (k : SS → Option (SS)) : Nat → Int32 → SS → Option (SS)
  | 0, _, _ => none
  | n + 1, v2, σ => gd (inb v1 16) (if (gA σ 44 (Int32.toNatClampNeg v1)) < v2 then k σ
    else if v2 ≤ 0 then FX5_writeNumber_J41 σ (fun a12 σ13 => FX5_writeNumber_L18 v1 k n a12 σ13) v1 v2
    else ob (FX5_put σ (46 : Int32)) (fun σ15 => FX5_writeNumber_J41 σ15 (fun a16 σ17 => FX5_writeNumber_L18 v1 k n a16 σ17) v1 v2))
set_option maxRecDepth 100000 in
set_option maxHeartbeats 4000000 in
theorem PX5_writeNumber_L18 {X : Bx} {g : Gx} {σr : SS} (hX : Okw wsX X g cX5_writeNumber 3 RX5 none ({ frames := 2, cells := 0, slots := 0, locals := 45 } : Room) (fun g => none) σr) {v1 : Int32} {k : SS → Option (SS)} (hk : ∀ (σ : SS), k σ = some σr → Vx X g.1 3 (wsX g σ) 71 [] []) : ∀ (n : Nat) (v2 : Int32) (σ : SS), FX5_writeNumber_L18 v1 k n v2 σ = some σr → Vx X g.1 3 (wsX g σ) 18 [(0, .ref (g.2.1 35)), (1, .int v1), (2, .int v2)] [] := by
  have h0 := hX.1
  intro n
  induction n with
  | zero =>
    intro v2 σ hf
    rw [FX5_writeNumber_L18] at hf
    cases hf
  | succ n ih =>
    intro v2 σ hf
    rw [FX5_writeNumber_L18] at hf
    refine vx_iload_n h0 dX5_writeNumber_18 rfl ?_
    refine vx_aload_n h0 dX5_writeNumber_19 rfl ?_
    refine xg_35_0 hX q289 dX5_writeNumber_20 ?_
    refine xg_14_4 hX q120 dX5_writeNumber_23 ?_
    refine vx_iload_n h0 dX5_writeNumber_26 rfl ?_
    obtain ⟨b3, hf⟩ := gd_some hf
    refine xl_16 hX b3 dX5_writeNumber_27 ?_
    refine vx_icmp_gt (tgt := 71) h0 dX5_writeNumber_28 (by decide) (fun c4 => ?_) (fun c4 => ?_)
    · replace hf := (if_pos c4).symm.trans hf
      refine vx_sub [] rfl ?_
      exact hk _ hf
    · replace hf := (if_neg c4).symm.trans hf
      refine vx_iload_n h0 dX5_writeNumber_31 rfl ?_
      refine vx_if_le (tgt := 41) h0 dX5_writeNumber_32 (by decide) (fun c5 => ?_) (fun c5 => ?_)
      · replace hf := (if_pos c5).symm.trans hf
        exact PX5_writeNumber_J41 hX (fun a12 σ13 hf => ih a12 σ13 hf) hf
      · replace hf := (if_neg c5).symm.trans hf
        refine vx_aload_n h0 dX5_writeNumber_35 rfl ?_
        refine vx_bipush (v := (46 : Int32)) h0 dX5_writeNumber_36 (by decide) ?_
        obtain ⟨σ15, h14, hf⟩ := ob_some hf
        refine w_callV (st := []) (ci := 5) (q0 := 35) hX (c_X5_put h14) ce_X5_put q652 ⟨rfl, rfl⟩ ⟨by decide, by decide⟩ rfl rfl rfl rfl (xo_35 g _) rfl (Nat.le_of_ble_eq_true rfl) dX5_writeNumber_38 ?_
        show Vx X g.1 3 (wsX g σ15) 41 [(0, .ref (g.2.1 35)), (1, .int v1), (2, .int v2)] []
        exact PX5_writeNumber_J41 hX (fun a16 σ17 hf => ih a16 σ17 hf) hf
def FX5_writeNumber (σ : SS) (a0 : Int32) : Option (SS) :=
  if a0 < 0 then some σ
    else if a0 < (gI σ 40) then FX5_writeNumber_L18 a0 (fun σ18 => some σ18) 5000 (0 : Int32) σ
    else some σ
set_option maxRecDepth 100000 in
set_option maxHeartbeats 4000000 in
theorem c_X5_writeNumber {σ : SS} {a0 : Int32} {σr : SS} (hf : FX5_writeNumber σ a0 = some σr) : Mcw wsX yX5_writeNumber cX5_writeNumber 3 none ({ frames := 2, cells := 0, slots := 0, locals := 45 } : Room) (fun g => [.ref (g.2.1 35), .int a0]) σ (fun g => none) σr := by
  refine w_enter wsX_fix (by decide) (fun g => Nat.le_of_ble_eq_true rfl) ?_
  intro X g hX
  replace hX : Okw wsX X g cX5_writeNumber 3 RX5 none ({ frames := 2, cells := 0, slots := 0, locals := 45 } : Room) (fun g => none) σr := hX
  have h0 := hX.1
  show Vx X g.1 3 (wsX g σ) 0 [(0, .ref (g.2.1 35)), (1, .int a0)] []
  rw [FX5_writeNumber] at hf
  refine vx_iload_n h0 dX5_writeNumber_0 rfl ?_
  refine vx_if_lt (tgt := 15) h0 dX5_writeNumber_1 (by decide) (fun c1 => ?_) (fun c1 => ?_)
  · replace hf := (if_pos c1).symm.trans hf
    exact w_vretE hX hf dX5_writeNumber_15
  · replace hf := (if_neg c1).symm.trans hf
    refine vx_iload_n h0 dX5_writeNumber_4 rfl ?_
    refine vx_aload_n h0 dX5_writeNumber_5 rfl ?_
    refine xg_35_0 hX q289 dX5_writeNumber_6 ?_
    refine xg_14_0 hX q101 dX5_writeNumber_9 ?_
    refine vx_icmp_lt (tgt := 16) h0 dX5_writeNumber_12 (by decide) (fun c2 => ?_) (fun c2 => ?_)
    · replace hf := (if_pos c2).symm.trans hf
      refine vx_iconst (v := (0 : Int32)) h0 dX5_writeNumber_16 (by decide) ?_
      refine vx_istore_n (ls' := [(2, .int (0 : Int32)), (0, .ref (g.2.1 35)), (1, .int a0)]) h0 dX5_writeNumber_17 (by decide) rfl ?_
      refine vx_sub [1, 2, 0] rfl ?_
      refine PX5_writeNumber_L18 hX (fun σ18 hf => ?_) _ _ _ hf
      exact w_vretE hX hf dX5_writeNumber_71
    · replace hf := (if_neg c2).symm.trans hf
      exact w_vretE hX hf dX5_writeNumber_15
def FX5_writePart_J62 (σ : SS) : Option (SS) :=
  ob (FX5_put σ (93 : Int32)) (fun σ11 => some σ11)
set_option maxRecDepth 100000 in
set_option maxHeartbeats 4000000 in
theorem PX5_writePart_J62 {X : Bx} {g : Gx} {σr : SS} {σ : SS} (hX : Okw wsX X g cX5_writePart 3 RX5 none ({ frames := 3, cells := 0, slots := 0, locals := 67 } : Room) (fun g => none) σr) (hf : FX5_writePart_J62 σ = some σr) : Vx X g.1 3 (wsX g σ) 62 [(0, .ref (g.2.1 35))] [] := by
  have h0 := hX.1
  rw [FX5_writePart_J62] at hf
  refine vx_aload_n h0 dX5_writePart_62 rfl ?_
  refine vx_bipush (v := (93 : Int32)) h0 dX5_writePart_63 (by decide) ?_
  obtain ⟨σ11, h10, hf⟩ := ob_some hf
  refine w_callV (st := []) (ci := 5) (q0 := 35) hX (c_X5_put h10) ce_X5_put q652 ⟨rfl, rfl⟩ ⟨by decide, by decide⟩ rfl rfl rfl rfl (xo_35 g _) rfl (Nat.le_of_ble_eq_true rfl) dX5_writePart_65 ?_
  show Vx X g.1 3 (wsX g σ11) 68 [(0, .ref (g.2.1 35))] []
  exact w_vretE hX hf dX5_writePart_68
def FX5_writePart (σ : SS) (a0 : Int32) (a1 : Int32) : Option (SS) :=
  if a0 = 0 then ob (FX5_put σ ((65 : Int32) + a1)) (fun σ17 => some σ17)
    else if a0 = (1 : Int32) then ob (FX5_put σ ((97 : Int32) + a1)) (fun σ15 => some σ15)
    else ob (FX5_put σ (91 : Int32)) (fun σ4 => ob (FX7_has σ4 (gI σ4 93) a1) (fun r6 => if r6 = 0 then ob (FX5_put σ4 (63 : Int32)) (fun σ9 => FX5_writePart_J62 σ9)
    else ob (FX5_writeNumber σ4 a1) (fun σ13 => FX5_writePart_J62 σ13)))
set_option maxRecDepth 100000 in
set_option maxHeartbeats 4000000 in
theorem c_X5_writePart {σ : SS} {a0 : Int32} {a1 : Int32} {σr : SS} (hf : FX5_writePart σ a0 a1 = some σr) : Mcw wsX yX5_writePart cX5_writePart 3 none ({ frames := 3, cells := 0, slots := 0, locals := 67 } : Room) (fun g => [.ref (g.2.1 35), .int a0, .int a1]) σ (fun g => none) σr := by
  refine w_enter wsX_fix (by decide) (fun g => Nat.le_of_ble_eq_true rfl) ?_
  intro X g hX
  replace hX : Okw wsX X g cX5_writePart 3 RX5 none ({ frames := 3, cells := 0, slots := 0, locals := 67 } : Room) (fun g => none) σr := hX
  have h0 := hX.1
  show Vx X g.1 3 (wsX g σ) 0 [(0, .ref (g.2.1 35)), (1, .int a0), (2, .int a1)] []
  rw [FX5_writePart] at hf
  refine vx_iload_n h0 dX5_writePart_0 rfl ?_
  refine vx_if_ne (tgt := 15) h0 dX5_writePart_1 (by decide) (fun c1 => ?_) (fun c1 => ?_)
  · replace hf := (if_neg c1).symm.trans hf
    refine vx_iload_n h0 dX5_writePart_15 rfl ?_
    refine vx_iconst (v := (1 : Int32)) h0 dX5_writePart_16 (by decide) ?_
    refine vx_icmp_ne (tgt := 31) h0 dX5_writePart_17 (by decide) (fun c2 => ?_) (fun c2 => ?_)
    · replace hf := (if_neg c2).symm.trans hf
      refine vx_aload_n h0 dX5_writePart_31 rfl ?_
      refine vx_bipush (v := (91 : Int32)) h0 dX5_writePart_32 (by decide) ?_
      obtain ⟨σ4, h3, hf⟩ := ob_some hf
      refine w_callV (st := []) (ci := 5) (q0 := 35) hX (c_X5_put h3) ce_X5_put q652 ⟨rfl, rfl⟩ ⟨by decide, by decide⟩ rfl rfl rfl rfl (xo_35 g _) rfl (Nat.le_of_ble_eq_true rfl) dX5_writePart_34 ?_
      show Vx X g.1 3 (wsX g σ4) 37 [(0, .ref (g.2.1 35)), (1, .int a0), (2, .int a1)] []
      refine vx_aload_n h0 dX5_writePart_37 rfl ?_
      refine xg_35_3 hX q294 dX5_writePart_38 ?_
      refine vx_iload_n h0 dX5_writePart_41 rfl ?_
      obtain ⟨r6, h5, hf⟩ := ob_some hf
      refine w_callSN (st := []) hX (c_X7_has h5) ce_X7_has q643 ⟨rfl, rfl⟩ ⟨by decide, by decide⟩ rfl rfl rfl (Nat.le_of_ble_eq_true rfl) dX5_writePart_42 ?_
      show Vx X g.1 3 (wsX g σ4) 45 [(0, .ref (g.2.1 35)), (1, .int a0), (2, .int a1)] [.int r6]
      refine vx_if_eq (tgt := 56) h0 dX5_writePart_45 (by decide) (fun c7 => ?_) (fun c7 => ?_)
      · replace hf := (if_pos c7).symm.trans hf
        refine vx_aload_n h0 dX5_writePart_56 rfl ?_
        refine vx_bipush (v := (63 : Int32)) h0 dX5_writePart_57 (by decide) ?_
        obtain ⟨σ9, h8, hf⟩ := ob_some hf
        refine w_callV (st := []) (ci := 5) (q0 := 35) hX (c_X5_put h8) ce_X5_put q652 ⟨rfl, rfl⟩ ⟨by decide, by decide⟩ rfl rfl rfl rfl (xo_35 g _) rfl (Nat.le_of_ble_eq_true rfl) dX5_writePart_59 ?_
        show Vx X g.1 3 (wsX g σ9) 62 [(0, .ref (g.2.1 35)), (1, .int a0), (2, .int a1)] []
        refine vx_sub [0] rfl ?_
        exact PX5_writePart_J62 hX  hf
      · replace hf := (if_neg c7).symm.trans hf
        refine vx_aload_n h0 dX5_writePart_48 rfl ?_
        refine vx_iload_n h0 dX5_writePart_49 rfl ?_
        obtain ⟨σ13, h12, hf⟩ := ob_some hf
        refine w_callV (st := []) (ci := 5) (q0 := 35) hX (c_X5_writeNumber h12) ce_X5_writeNumber q648 ⟨rfl, rfl⟩ ⟨by decide, by decide⟩ rfl rfl rfl rfl (xo_35 g _) rfl (Nat.le_of_ble_eq_true rfl) dX5_writePart_50 ?_
        show Vx X g.1 3 (wsX g σ13) 53 [(0, .ref (g.2.1 35)), (1, .int a0), (2, .int a1)] []
        refine vx_goto (tgt := 62) h0 dX5_writePart_53 (by decide) ?_
        refine vx_sub [0] rfl ?_
        exact PX5_writePart_J62 hX  hf
    · replace hf := (if_pos c2).symm.trans hf
      refine vx_aload_n h0 dX5_writePart_20 rfl ?_
      refine vx_bipush (v := (97 : Int32)) h0 dX5_writePart_21 (by decide) ?_
      refine vx_iload_n h0 dX5_writePart_23 rfl ?_
      refine vx_iadd h0 dX5_writePart_24 ?_
      obtain ⟨σ15, h14, hf⟩ := ob_some hf
      refine w_callV (st := []) (ci := 5) (q0 := 35) hX (c_X5_put h14) ce_X5_put q652 ⟨rfl, rfl⟩ ⟨by decide, by decide⟩ rfl rfl rfl rfl (xo_35 g _) rfl (Nat.le_of_ble_eq_true rfl) dX5_writePart_25 ?_
      show Vx X g.1 3 (wsX g σ15) 28 [(0, .ref (g.2.1 35)), (1, .int a0), (2, .int a1)] []
      refine vx_goto (tgt := 68) h0 dX5_writePart_28 (by decide) ?_
      exact w_vretE hX hf dX5_writePart_68
  · replace hf := (if_pos c1).symm.trans hf
    refine vx_aload_n h0 dX5_writePart_4 rfl ?_
    refine vx_bipush (v := (65 : Int32)) h0 dX5_writePart_5 (by decide) ?_
    refine vx_iload_n h0 dX5_writePart_7 rfl ?_
    refine vx_iadd h0 dX5_writePart_8 ?_
    obtain ⟨σ17, h16, hf⟩ := ob_some hf
    refine w_callV (st := []) (ci := 5) (q0 := 35) hX (c_X5_put h16) ce_X5_put q652 ⟨rfl, rfl⟩ ⟨by decide, by decide⟩ rfl rfl rfl rfl (xo_35 g _) rfl (Nat.le_of_ble_eq_true rfl) dX5_writePart_9 ?_
    show Vx X g.1 3 (wsX g σ17) 12 [(0, .ref (g.2.1 35)), (1, .int a0), (2, .int a1)] []
    refine vx_goto (tgt := 68) h0 dX5_writePart_12 (by decide) ?_
    exact w_vretE hX hf dX5_writePart_68
def FX5_writeClause_L13 (v1 : Int32) (k : SS → Option (SS)) : Nat → Int32 → SS → Option (SS)
  | 0, _, _ => none
  | n + 1, v2, σ => if (gI σ 41) ≤ v2 then k σ
    else gd (inb v2 30) (if (gA σ 51 (Int32.toNatClampNeg v2)) = v1 then gd (inb v2 30) (gd (inb v2 30) (ob (FX5_writePart σ (gA σ 49 (Int32.toNatClampNeg v2)) (gA σ 50 (Int32.toNatClampNeg v2))) (fun σ11 => FX5_writeClause_L13 v1 k n (v2 + (1 : Int32)) σ11)))
    else FX5_writeClause_L13 v1 k n (v2 + (1 : Int32)) σ)
set_option maxRecDepth 100000 in
set_option maxHeartbeats 4000000 in
theorem PX5_writeClause_L13 {X : Bx} {g : Gx} {σr : SS} (hX : Okw wsX X g cX5_writeClause 3 RX5 none ({ frames := 4, cells := 0, slots := 0, locals := 89 } : Room) (fun g => none) σr) {v1 : Int32} {k : SS → Option (SS)} (hk : ∀ (σ : SS), k σ = some σr → Vx X g.1 3 (wsX g σ) 65 [(0, .ref (g.2.1 35))] []) : ∀ (n : Nat) (v2 : Int32) (σ : SS), FX5_writeClause_L13 v1 k n v2 σ = some σr → Vx X g.1 3 (wsX g σ) 13 [(0, .ref (g.2.1 35)), (1, .int v1), (2, .int v2)] [] := by
  have h0 := hX.1
  intro n
  induction n with
  | zero =>
    intro v2 σ hf
    rw [FX5_writeClause_L13] at hf
    cases hf
  | succ n ih =>
    intro v2 σ hf
    rw [FX5_writeClause_L13] at hf
    refine vx_iload_n h0 dX5_writeClause_13 rfl ?_
    refine vx_aload_n h0 dX5_writeClause_14 rfl ?_
    refine xg_35_0 hX q289 dX5_writeClause_15 ?_
    refine xg_14_1 hX q107 dX5_writeClause_18 ?_
    refine vx_icmp_ge (tgt := 65) h0 dX5_writeClause_21 (by decide) (fun c5 => ?_) (fun c5 => ?_)
    · replace hf := (if_pos c5).symm.trans hf
      refine vx_sub [0] rfl ?_
      exact hk _ hf
    · replace hf := (if_neg c5).symm.trans hf
      refine vx_aload_n h0 dX5_writeClause_24 rfl ?_
      refine xg_35_0 hX q289 dX5_writeClause_25 ?_
      refine xg_14_11 hX q144 dX5_writeClause_28 ?_
      refine vx_iload_n h0 dX5_writeClause_31 rfl ?_
      obtain ⟨b6, hf⟩ := gd_some hf
      refine xl_23 hX b6 dX5_writeClause_32 ?_
      refine vx_iload_n h0 dX5_writeClause_33 rfl ?_
      refine vx_icmp_ne (tgt := 59) h0 dX5_writeClause_34 (by decide) (fun c7 => ?_) (fun c7 => ?_)
      · replace hf := (if_neg c7).symm.trans hf
        refine vx_iinc (q := 2) (v := (v2 + (1 : Int32))) (ls' := [(2, .int (v2 + (1 : Int32))), (0, .ref (g.2.1 35)), (1, .int v1)]) h0 dX5_writeClause_59 rfl rfl (by decide) rfl ?_
        refine vx_goto (tgt := 13) h0 dX5_writeClause_62 (by decide) ?_
        refine vx_sub [1, 2, 0] rfl ?_
        exact ih _ _ hf
      · replace hf := (if_pos c7).symm.trans hf
        refine vx_aload_n h0 dX5_writeClause_37 rfl ?_
        refine vx_aload_n h0 dX5_writeClause_38 rfl ?_
        refine xg_35_0 hX q289 dX5_writeClause_39 ?_
        refine xg_14_9 hX q134 dX5_writeClause_42 ?_
        refine vx_iload_n h0 dX5_writeClause_45 rfl ?_
        obtain ⟨b8, hf⟩ := gd_some hf
        refine xl_21 hX b8 dX5_writeClause_46 ?_
        refine vx_aload_n h0 dX5_writeClause_47 rfl ?_
        refine xg_35_0 hX q289 dX5_writeClause_48 ?_
        refine xg_14_10 hX q139 dX5_writeClause_51 ?_
        refine vx_iload_n h0 dX5_writeClause_54 rfl ?_
        obtain ⟨b9, hf⟩ := gd_some hf
        refine xl_22 hX b9 dX5_writeClause_55 ?_
        obtain ⟨σ11, h10, hf⟩ := ob_some hf
        refine w_callV (st := []) (ci := 5) (q0 := 35) hX (c_X5_writePart h10) ce_X5_writePart q669 ⟨rfl, rfl⟩ ⟨by decide, by decide⟩ rfl rfl rfl rfl (xo_35 g _) rfl (Nat.le_of_ble_eq_true rfl) dX5_writeClause_56 ?_
        show Vx X g.1 3 (wsX g σ11) 59 [(0, .ref (g.2.1 35)), (1, .int v1), (2, .int v2)] []
        refine vx_iinc (q := 2) (v := (v2 + (1 : Int32))) (ls' := [(2, .int (v2 + (1 : Int32))), (0, .ref (g.2.1 35)), (1, .int v1)]) h0 dX5_writeClause_59 rfl rfl (by decide) rfl ?_
        refine vx_goto (tgt := 13) h0 dX5_writeClause_62 (by decide) ?_
        refine vx_sub [1, 2, 0] rfl ?_
        exact ih _ _ hf
def FX5_writeClause (σ : SS) (a0 : Int32) : Option (SS) :=
  ob (FX5_writeNumber σ a0) (fun σ2 => ob (FX5_put σ2 (32 : Int32)) (fun σ4 => FX5_writeClause_L13 a0 (fun σ12 => ob (FX5_put σ12 (59 : Int32)) (fun σ14 => some σ14)) 5000 (0 : Int32) σ4))
set_option maxRecDepth 100000 in
set_option maxHeartbeats 4000000 in
theorem c_X5_writeClause {σ : SS} {a0 : Int32} {σr : SS} (hf : FX5_writeClause σ a0 = some σr) : Mcw wsX yX5_writeClause cX5_writeClause 3 none ({ frames := 4, cells := 0, slots := 0, locals := 89 } : Room) (fun g => [.ref (g.2.1 35), .int a0]) σ (fun g => none) σr := by
  refine w_enter wsX_fix (by decide) (fun g => Nat.le_of_ble_eq_true rfl) ?_
  intro X g hX
  replace hX : Okw wsX X g cX5_writeClause 3 RX5 none ({ frames := 4, cells := 0, slots := 0, locals := 89 } : Room) (fun g => none) σr := hX
  have h0 := hX.1
  show Vx X g.1 3 (wsX g σ) 0 [(0, .ref (g.2.1 35)), (1, .int a0)] []
  rw [FX5_writeClause] at hf
  refine vx_aload_n h0 dX5_writeClause_0 rfl ?_
  refine vx_iload_n h0 dX5_writeClause_1 rfl ?_
  obtain ⟨σ2, h1, hf⟩ := ob_some hf
  refine w_callV (st := []) (ci := 5) (q0 := 35) hX (c_X5_writeNumber h1) ce_X5_writeNumber q648 ⟨rfl, rfl⟩ ⟨by decide, by decide⟩ rfl rfl rfl rfl (xo_35 g _) rfl (Nat.le_of_ble_eq_true rfl) dX5_writeClause_2 ?_
  show Vx X g.1 3 (wsX g σ2) 5 [(0, .ref (g.2.1 35)), (1, .int a0)] []
  refine vx_aload_n h0 dX5_writeClause_5 rfl ?_
  refine vx_bipush (v := (32 : Int32)) h0 dX5_writeClause_6 (by decide) ?_
  obtain ⟨σ4, h3, hf⟩ := ob_some hf
  refine w_callV (st := []) (ci := 5) (q0 := 35) hX (c_X5_put h3) ce_X5_put q652 ⟨rfl, rfl⟩ ⟨by decide, by decide⟩ rfl rfl rfl rfl (xo_35 g _) rfl (Nat.le_of_ble_eq_true rfl) dX5_writeClause_8 ?_
  show Vx X g.1 3 (wsX g σ4) 11 [(0, .ref (g.2.1 35)), (1, .int a0)] []
  refine vx_iconst (v := (0 : Int32)) h0 dX5_writeClause_11 (by decide) ?_
  refine vx_istore_n (ls' := [(2, .int (0 : Int32)), (0, .ref (g.2.1 35)), (1, .int a0)]) h0 dX5_writeClause_12 (by decide) rfl ?_
  refine vx_sub [1, 2, 0] rfl ?_
  refine PX5_writeClause_L13 hX (fun σ12 hf => ?_) _ _ _ hf
  refine vx_aload_n h0 dX5_writeClause_65 rfl ?_
  refine vx_bipush (v := (59 : Int32)) h0 dX5_writeClause_66 (by decide) ?_
  obtain ⟨σ14, h13, hf⟩ := ob_some hf
  refine w_callV (st := []) (ci := 5) (q0 := 35) hX (c_X5_put h13) ce_X5_put q652 ⟨rfl, rfl⟩ ⟨by decide, by decide⟩ rfl rfl rfl rfl (xo_35 g _) rfl (Nat.le_of_ble_eq_true rfl) dX5_writeClause_68 ?_
  show Vx X g.1 3 (wsX g σ14) 71 [(0, .ref (g.2.1 35))] []
  exact w_vretE hX hf dX5_writeClause_71
def FX5_write_L22 (k : SS → Option (SS)) : Nat → Int32 → SS → Option (SS)
  | 0, _, _ => none
  | n + 1, v3, σ => if (gI σ 40) ≤ v3 then k σ
    else ob (FX7_has σ (gI σ 93) v3) (fun r7 => if r7 = 0 then FX5_write_L22 k n (v3 + (1 : Int32)) σ
    else ob (FX5_writeClause σ v3) (fun σ10 => FX5_write_L22 k n (v3 + (1 : Int32)) σ10))
set_option maxRecDepth 100000 in
set_option maxHeartbeats 4000000 in
theorem PX5_write_L22 {X : Bx} {g : Gx} {σr : SS} (hX : Okw wsX X g cX5_write 4 RX5 (some (.object "ContractDesk$Script")) ({ frames := 5, cells := 0, slots := 0, locals := 111 } : Room) (fun g => some (.ref (g.2.1 35))) σr) {k : SS → Option (SS)} (hk : ∀ (σ : SS), k σ = some σr → Vx X g.1 4 (wsX g σ) 55 [(0, .ref (g.2.1 35))] []) : ∀ (n : Nat) (v3 : Int32) (σ : SS), FX5_write_L22 k n v3 σ = some σr → Vx X g.1 4 (wsX g σ) 22 [(0, .ref (g.2.1 35)), (3, .int v3)] [] := by
  have h0 := hX.1
  intro n
  induction n with
  | zero =>
    intro v3 σ hf
    rw [FX5_write_L22] at hf
    cases hf
  | succ n ih =>
    intro v3 σ hf
    rw [FX5_write_L22] at hf
    refine vx_iload_n h0 dX5_write_22 rfl ?_
    refine vx_aload_n h0 dX5_write_23 rfl ?_
    refine xg_35_0 hX q289 dX5_write_24 ?_
    refine xg_14_0 hX q101 dX5_write_27 ?_
    refine vx_icmp_ge (tgt := 55) h0 dX5_write_30 (by decide) (fun c5 => ?_) (fun c5 => ?_)
    · replace hf := (if_pos c5).symm.trans hf
      refine vx_sub [0] rfl ?_
      exact hk _ hf
    · replace hf := (if_neg c5).symm.trans hf
      refine vx_aload_n h0 dX5_write_33 rfl ?_
      refine xg_35_3 hX q294 dX5_write_34 ?_
      refine vx_iload_n h0 dX5_write_37 rfl ?_
      obtain ⟨r7, h6, hf⟩ := ob_some hf
      refine w_callSN (st := []) hX (c_X7_has h6) ce_X7_has q643 ⟨rfl, rfl⟩ ⟨by decide, by decide⟩ rfl rfl rfl (Nat.le_of_ble_eq_true rfl) dX5_write_38 ?_
      show Vx X g.1 4 (wsX g σ) 41 [(0, .ref (g.2.1 35)), (3, .int v3)] [.int r7]
      refine vx_if_eq (tgt := 49) h0 dX5_write_41 (by decide) (fun c8 => ?_) (fun c8 => ?_)
      · replace hf := (if_pos c8).symm.trans hf
        refine vx_iinc (q := 1) (v := (v3 + (1 : Int32))) (ls' := [(3, .int (v3 + (1 : Int32))), (0, .ref (g.2.1 35))]) h0 dX5_write_49 rfl rfl (by decide) rfl ?_
        refine vx_goto (tgt := 22) h0 dX5_write_52 (by decide) ?_
        refine vx_sub [1, 0] rfl ?_
        exact ih _ _ hf
      · replace hf := (if_neg c8).symm.trans hf
        refine vx_aload_n h0 dX5_write_44 rfl ?_
        refine vx_iload_n h0 dX5_write_45 rfl ?_
        obtain ⟨σ10, h9, hf⟩ := ob_some hf
        refine w_callV (st := []) (ci := 5) (q0 := 35) hX (c_X5_writeClause h9) ce_X5_writeClause q644 ⟨rfl, rfl⟩ ⟨by decide, by decide⟩ rfl rfl rfl rfl (xo_35 g _) rfl (Nat.le_of_ble_eq_true rfl) dX5_write_46 ?_
        show Vx X g.1 4 (wsX g σ10) 49 [(0, .ref (g.2.1 35)), (3, .int v3)] []
        refine vx_iinc (q := 1) (v := (v3 + (1 : Int32))) (ls' := [(3, .int (v3 + (1 : Int32))), (0, .ref (g.2.1 35))]) h0 dX5_write_49 rfl rfl (by decide) rfl ?_
        refine vx_goto (tgt := 22) h0 dX5_write_52 (by decide) ?_
        refine vx_sub [1, 0] rfl ?_
        exact ih _ _ hf
def FX5_write (σ : SS) (a0 : Int32) (a1 : Int32) : Option (SS) :=
  bd (sI σ 93 a1) (fun σ1 => bd (sI σ1 94 a0) (fun σ2 => bd (sI σ2 91 (0 : Int32)) (fun σ3 => bd (sI σ3 92 (-1 : Int32)) (fun σ4 => FX5_write_L22 (fun σ11 => some σ11) 5000 (0 : Int32) σ4))))
set_option maxRecDepth 100000 in
set_option maxHeartbeats 4000000 in
theorem c_X5_write {σ : SS} {a0 : Int32} {a1 : Int32} {σr : SS} (hf : FX5_write σ a0 a1 = some σr) : Mcw wsX yX5_write cX5_write 4 (some (.object "ContractDesk$Script")) ({ frames := 5, cells := 0, slots := 0, locals := 111 } : Room) (fun g => [.ref (g.2.1 35), .int a0, .int a1]) σ (fun g => some (.ref (g.2.1 35))) σr := by
  refine w_enter wsX_fix (by decide) (fun g => Nat.le_of_ble_eq_true rfl) ?_
  intro X g hX
  replace hX : Okw wsX X g cX5_write 4 RX5 (some (.object "ContractDesk$Script")) ({ frames := 5, cells := 0, slots := 0, locals := 111 } : Room) (fun g => some (.ref (g.2.1 35))) σr := hX
  have h0 := hX.1
  show Vx X g.1 4 (wsX g σ) 0 [(0, .ref (g.2.1 35)), (1, .int a0), (2, .int a1)] []
  rw [FX5_write] at hf
  refine vx_aload_n h0 dX5_write_0 rfl ?_
  refine vx_iload_n h0 dX5_write_1 rfl ?_
  refine xp_35_3 hX q294 dX5_write_2 ?_
  generalize (sI σ 93 a1) = σ1 at hf ⊢
  replace hf := bd_h hf
  refine vx_aload_n h0 dX5_write_5 rfl ?_
  refine vx_iload_n h0 dX5_write_6 rfl ?_
  refine xp_35_4 hX q295 dX5_write_7 ?_
  generalize (sI σ1 94 a0) = σ2 at hf ⊢
  replace hf := bd_h hf
  refine vx_aload_n h0 dX5_write_10 rfl ?_
  refine vx_iconst (v := (0 : Int32)) h0 dX5_write_11 (by decide) ?_
  refine xp_35_1 hX q290 dX5_write_12 ?_
  generalize (sI σ2 91 (0 : Int32)) = σ3 at hf ⊢
  replace hf := bd_h hf
  refine vx_aload_n h0 dX5_write_15 rfl ?_
  refine vx_iconst (v := (-1 : Int32)) h0 dX5_write_16 (by decide) ?_
  refine xp_35_2 hX q292 dX5_write_17 ?_
  generalize (sI σ3 92 (-1 : Int32)) = σ4 at hf ⊢
  replace hf := bd_h hf
  refine vx_iconst (v := (0 : Int32)) h0 dX5_write_20 (by decide) ?_
  refine vx_istore_n (ls' := [(3, .int (0 : Int32)), (0, .ref (g.2.1 35)), (1, .int a0), (2, .int a1)]) h0 dX5_write_21 (by decide) rfl ?_
  refine vx_sub [1, 0] rfl ?_
  refine PX5_write_L22 hX (fun σ11 hf => ?_) _ _ _ hf
  refine vx_aload_n h0 dX5_write_55 rfl ?_
  exact w_aretE hX hf dX5_write_56
def FX6_answerTo (σ : SS) (a0 : Int32) : Option (Int32) :=
  ob (FX7_has σ (gI σ 60) a0) (fun r2 => if r2 = 0 then some (-1 : Int32)
    else ob (FX7_has σ (gI σ 61) a0) (fun r5 => if r5 = 0 then some (0 : Int32)
    else some (1 : Int32)))
set_option maxRecDepth 100000 in
set_option maxHeartbeats 4000000 in
theorem c_X6_answerTo {σ : SS} {a0 : Int32} {r : Int32} (hf : FX6_answerTo σ a0 = some r) : Mcw wsX yX6_answerTo cX6_answerTo 2 (some .int) ({ frames := 1, cells := 0, slots := 0, locals := 21 } : Room) (fun g => [.ref (g.2.1 24), .int a0]) σ (fun g => some (.int r)) σ := by
  refine w_enter wsX_fix (by decide) (fun g => Nat.le_of_ble_eq_true rfl) ?_
  intro X g hX
  replace hX : Okw wsX X g cX6_answerTo 2 RX6 (some .int) ({ frames := 1, cells := 0, slots := 0, locals := 21 } : Room) (fun g => some (.int r)) σ := hX
  have h0 := hX.1
  show Vx X g.1 2 (wsX g σ) 0 [(0, .ref (g.2.1 24)), (1, .int a0)] []
  rw [FX6_answerTo] at hf
  refine vx_aload_n h0 dX6_answerTo_0 rfl ?_
  refine xg_24_0 hX q208 dX6_answerTo_1 ?_
  refine vx_iload_n h0 dX6_answerTo_4 rfl ?_
  obtain ⟨r2, h1, hf⟩ := ob_some hf
  refine w_callSN (st := []) hX (c_X7_has h1) ce_X7_has q489 ⟨rfl, rfl⟩ ⟨by decide, by decide⟩ rfl rfl rfl (Nat.le_of_ble_eq_true rfl) dX6_answerTo_5 ?_
  show Vx X g.1 2 (wsX g σ) 8 [(0, .ref (g.2.1 24)), (1, .int a0)] [.int r2]
  refine vx_if_ne (tgt := 13) h0 dX6_answerTo_8 (by decide) (fun c3 => ?_) (fun c3 => ?_)
  · replace hf := (if_neg c3).symm.trans hf
    refine vx_aload_n h0 dX6_answerTo_13 rfl ?_
    refine xg_24_1 hX q212 dX6_answerTo_14 ?_
    refine vx_iload_n h0 dX6_answerTo_17 rfl ?_
    obtain ⟨r5, h4, hf⟩ := ob_some hf
    refine w_callSN (st := []) hX (c_X7_has h4) ce_X7_has q489 ⟨rfl, rfl⟩ ⟨by decide, by decide⟩ rfl rfl rfl (Nat.le_of_ble_eq_true rfl) dX6_answerTo_18 ?_
    show Vx X g.1 2 (wsX g σ) 21 [(0, .ref (g.2.1 24)), (1, .int a0)] [.int r5]
    refine vx_if_eq (tgt := 28) h0 dX6_answerTo_21 (by decide) (fun c6 => ?_) (fun c6 => ?_)
    · replace hf := (if_pos c6).symm.trans hf
      refine vx_iconst (v := (0 : Int32)) h0 dX6_answerTo_28 (by decide) ?_
      exact w_iretP hX hf dX6_answerTo_29
    · replace hf := (if_neg c6).symm.trans hf
      refine vx_iconst (v := (1 : Int32)) h0 dX6_answerTo_24 (by decide) ?_
      refine vx_goto (tgt := 29) h0 dX6_answerTo_25 (by decide) ?_
      exact w_iretP hX hf dX6_answerTo_29
  · replace hf := (if_pos c3).symm.trans hf
    refine vx_iconst (v := (-1 : Int32)) h0 dX6_answerTo_11 (by decide) ?_
    exact w_iretP hX hf dX6_answerTo_12
def FX6_setAnswer_J27 (σ : SS) (v2 : Int32) (v3 : Int32) (s0 : Int32) : Option (SS) :=
  bd (sI σ 60 s0) (fun σ2 => if v2 = (1 : Int32) then bd (sI σ2 61 ((gI σ2 61) ||| v3)) (fun σ5 => some σ5)
    else bd (sI σ2 61 ((gI σ2 61) &&& (v3 ^^^ (-1 : Int32)))) (fun σ4 => some σ4))
set_option maxRecDepth 100000 in
set_option maxHeartbeats 4000000 in
theorem PX6_setAnswer_J27 {X : Bx} {g : Gx} {σr : SS} {σ : SS} (hX : Okw wsX X g cX6_setAnswer 4 RX6 none ({ frames := 0, cells := 0, slots := 0, locals := 0 } : Room) (fun g => none) σr) {v2 : Int32} {v3 : Int32} {s0 : Int32} (hf : FX6_setAnswer_J27 σ v2 v3 s0 = some σr) : Vx X g.1 4 (wsX g σ) 27 [(0, .ref (g.2.1 24)), (2, .int v2), (3, .int v3)] [.int s0, .ref (g.2.1 24)] := by
  have h0 := hX.1
  rw [FX6_setAnswer_J27] at hf
  refine xp_24_0 hX q208 dX6_setAnswer_27 ?_
  generalize (sI σ 60 s0) = σ2 at hf ⊢
  replace hf := bd_h hf
  refine vx_aload_n h0 dX6_setAnswer_30 rfl ?_
  refine vx_iload_n h0 dX6_setAnswer_31 rfl ?_
  refine vx_iconst (v := (1 : Int32)) h0 dX6_setAnswer_32 (by decide) ?_
  refine vx_icmp_ne (tgt := 45) h0 dX6_setAnswer_33 (by decide) (fun c3 => ?_) (fun c3 => ?_)
  · replace hf := (if_neg c3).symm.trans hf
    refine vx_aload_n h0 dX6_setAnswer_45 rfl ?_
    refine xg_24_1 hX q212 dX6_setAnswer_46 ?_
    refine vx_iload_n h0 dX6_setAnswer_49 rfl ?_
    refine vx_iconst (v := (-1 : Int32)) h0 dX6_setAnswer_50 (by decide) ?_
    refine vx_ixor h0 dX6_setAnswer_51 ?_
    refine vx_iand h0 dX6_setAnswer_52 ?_
    refine xp_24_1 hX q212 dX6_setAnswer_53 ?_
    generalize (sI σ2 61 ((gI σ2 61) &&& (v3 ^^^ (-1 : Int32)))) = σ4 at hf ⊢
    replace hf := bd_h hf
    exact w_vretE hX hf dX6_setAnswer_56
  · replace hf := (if_pos c3).symm.trans hf
    refine vx_aload_n h0 dX6_setAnswer_36 rfl ?_
    refine xg_24_1 hX q212 dX6_setAnswer_37 ?_
    refine vx_iload_n h0 dX6_setAnswer_40 rfl ?_
    refine vx_ior h0 dX6_setAnswer_41 ?_
    refine vx_goto (tgt := 53) h0 dX6_setAnswer_42 (by decide) ?_
    refine xp_24_1 hX q212 dX6_setAnswer_53 ?_
    generalize (sI σ2 61 ((gI σ2 61) ||| v3)) = σ5 at hf ⊢
    replace hf := bd_h hf
    exact w_vretE hX hf dX6_setAnswer_56
def FX6_setAnswer (σ : SS) (a0 : Int32) (a1 : Int32) : Option (SS) :=
  if a1 = (-1 : Int32) then FX6_setAnswer_J27 σ a1 (jshl (1 : Int32) a0) ((gI σ 60) &&& ((jshl (1 : Int32) a0) ^^^ (-1 : Int32)))
    else FX6_setAnswer_J27 σ a1 (jshl (1 : Int32) a0) ((gI σ 60) ||| (jshl (1 : Int32) a0))
set_option maxRecDepth 100000 in
set_option maxHeartbeats 4000000 in
theorem c_X6_setAnswer {σ : SS} {a0 : Int32} {a1 : Int32} {σr : SS} (hf : FX6_setAnswer σ a0 a1 = some σr) : Mcw wsX yX6_setAnswer cX6_setAnswer 4 none ({ frames := 0, cells := 0, slots := 0, locals := 0 } : Room) (fun g => [.ref (g.2.1 24), .int a0, .int a1]) σ (fun g => none) σr := by
  refine w_enter wsX_fix (by decide) (fun g => Nat.le_of_ble_eq_true rfl) ?_
  intro X g hX
  replace hX : Okw wsX X g cX6_setAnswer 4 RX6 none ({ frames := 0, cells := 0, slots := 0, locals := 0 } : Room) (fun g => none) σr := hX
  have h0 := hX.1
  show Vx X g.1 4 (wsX g σ) 0 [(0, .ref (g.2.1 24)), (1, .int a0), (2, .int a1)] []
  rw [FX6_setAnswer] at hf
  refine vx_iconst (v := (1 : Int32)) h0 dX6_setAnswer_0 (by decide) ?_
  refine vx_iload_n h0 dX6_setAnswer_1 rfl ?_
  refine vx_ishl h0 dX6_setAnswer_2 ?_
  refine vx_istore_n (ls' := [(3, .int (jshl (1 : Int32) a0)), (0, .ref (g.2.1 24)), (1, .int a0), (2, .int a1)]) h0 dX6_setAnswer_3 (by decide) rfl ?_
  refine vx_aload_n h0 dX6_setAnswer_4 rfl ?_
  refine vx_iload_n h0 dX6_setAnswer_5 rfl ?_
  refine vx_iconst (v := (-1 : Int32)) h0 dX6_setAnswer_6 (by decide) ?_
  refine vx_icmp_ne (tgt := 21) h0 dX6_setAnswer_7 (by decide) (fun c1 => ?_) (fun c1 => ?_)
  · replace hf := (if_neg c1).symm.trans hf
    refine vx_aload_n h0 dX6_setAnswer_21 rfl ?_
    refine xg_24_0 hX q208 dX6_setAnswer_22 ?_
    refine vx_iload_n h0 dX6_setAnswer_25 rfl ?_
    refine vx_ior h0 dX6_setAnswer_26 ?_
    refine vx_sub [1, 3, 0] rfl ?_
    exact PX6_setAnswer_J27 hX  hf
  · replace hf := (if_pos c1).symm.trans hf
    refine vx_aload_n h0 dX6_setAnswer_10 rfl ?_
    refine xg_24_0 hX q208 dX6_setAnswer_11 ?_
    refine vx_iload_n h0 dX6_setAnswer_14 rfl ?_
    refine vx_iconst (v := (-1 : Int32)) h0 dX6_setAnswer_15 (by decide) ?_
    refine vx_ixor h0 dX6_setAnswer_16 ?_
    refine vx_iand h0 dX6_setAnswer_17 ?_
    refine vx_goto (tgt := 27) h0 dX6_setAnswer_18 (by decide) ?_
    refine vx_sub [1, 3, 0] rfl ?_
    exact PX6_setAnswer_J27 hX  hf
def FX6_packed (σ : SS) : Option (Int32) :=
  some (((jshl (gI σ 62) (12 : Int32)) ||| (jshl (gI σ 61) (6 : Int32))) ||| (gI σ 60))
set_option maxRecDepth 100000 in
set_option maxHeartbeats 4000000 in
theorem c_X6_packed {σ : SS} {r : Int32} (hf : FX6_packed σ = some r) : Mcw wsX yX6_packed cX6_packed 1 (some .int) ({ frames := 0, cells := 0, slots := 0, locals := 0 } : Room) (fun g => [.ref (g.2.1 24)]) σ (fun g => some (.int r)) σ := by
  refine w_enter wsX_fix (by decide) (fun g => Nat.le_of_ble_eq_true rfl) ?_
  intro X g hX
  replace hX : Okw wsX X g cX6_packed 1 RX6 (some .int) ({ frames := 0, cells := 0, slots := 0, locals := 0 } : Room) (fun g => some (.int r)) σ := hX
  have h0 := hX.1
  show Vx X g.1 1 (wsX g σ) 0 [(0, .ref (g.2.1 24))] []
  rw [FX6_packed] at hf
  refine vx_aload_n h0 dX6_packed_0 rfl ?_
  refine xg_24_2 hX q215 dX6_packed_1 ?_
  refine vx_bipush (v := (12 : Int32)) h0 dX6_packed_4 (by decide) ?_
  refine vx_ishl h0 dX6_packed_6 ?_
  refine vx_aload_n h0 dX6_packed_7 rfl ?_
  refine xg_24_1 hX q212 dX6_packed_8 ?_
  refine vx_bipush (v := (6 : Int32)) h0 dX6_packed_11 (by decide) ?_
  refine vx_ishl h0 dX6_packed_13 ?_
  refine vx_ior h0 dX6_packed_14 ?_
  refine vx_aload_n h0 dX6_packed_15 rfl ?_
  refine xg_24_0 hX q208 dX6_packed_16 ?_
  refine vx_ior h0 dX6_packed_19 ?_
  exact w_iretP hX hf dX6_packed_20
def FX6_unpack (σ : SS) (a0 : Int32) : Option (SS) :=
  bd (sI σ 60 (a0 &&& (63 : Int32))) (fun σ1 => bd (sI σ1 61 ((jushr a0 (6 : Int32)) &&& (63 : Int32))) (fun σ2 => bd (sI σ2 62 (jushr a0 (12 : Int32))) (fun σ3 => some σ3)))
set_option maxRecDepth 100000 in
set_option maxHeartbeats 4000000 in
theorem c_X6_unpack {σ : SS} {a0 : Int32} {σr : SS} (hf : FX6_unpack σ a0 = some σr) : Mcw wsX yX6_unpack cX6_unpack 2 none ({ frames := 0, cells := 0, slots := 0, locals := 0 } : Room) (fun g => [.ref (g.2.1 24), .int a0]) σ (fun g => none) σr := by
  refine w_enter wsX_fix (by decide) (fun g => Nat.le_of_ble_eq_true rfl) ?_
  intro X g hX
  replace hX : Okw wsX X g cX6_unpack 2 RX6 none ({ frames := 0, cells := 0, slots := 0, locals := 0 } : Room) (fun g => none) σr := hX
  have h0 := hX.1
  show Vx X g.1 2 (wsX g σ) 0 [(0, .ref (g.2.1 24)), (1, .int a0)] []
  rw [FX6_unpack] at hf
  refine vx_aload_n h0 dX6_unpack_0 rfl ?_
  refine vx_iload_n h0 dX6_unpack_1 rfl ?_
  refine vx_bipush (v := (63 : Int32)) h0 dX6_unpack_2 (by decide) ?_
  refine vx_iand h0 dX6_unpack_4 ?_
  refine xp_24_0 hX q208 dX6_unpack_5 ?_
  generalize (sI σ 60 (a0 &&& (63 : Int32))) = σ1 at hf ⊢
  replace hf := bd_h hf
  refine vx_aload_n h0 dX6_unpack_8 rfl ?_
  refine vx_iload_n h0 dX6_unpack_9 rfl ?_
  refine vx_bipush (v := (6 : Int32)) h0 dX6_unpack_10 (by decide) ?_
  refine vx_iushr h0 dX6_unpack_12 ?_
  refine vx_bipush (v := (63 : Int32)) h0 dX6_unpack_13 (by decide) ?_
  refine vx_iand h0 dX6_unpack_15 ?_
  refine xp_24_1 hX q212 dX6_unpack_16 ?_
  generalize (sI σ1 61 ((jushr a0 (6 : Int32)) &&& (63 : Int32))) = σ2 at hf ⊢
  replace hf := bd_h hf
  refine vx_aload_n h0 dX6_unpack_19 rfl ?_
  refine vx_iload_n h0 dX6_unpack_20 rfl ?_
  refine vx_bipush (v := (12 : Int32)) h0 dX6_unpack_21 (by decide) ?_
  refine vx_iushr h0 dX6_unpack_23 ?_
  refine xp_24_2 hX q215 dX6_unpack_24 ?_
  generalize (sI σ2 62 (jushr a0 (12 : Int32))) = σ3 at hf ⊢
  replace hf := bd_h hf
  exact w_vretE hX hf dX6_unpack_27
def FX7_feed (σ : SS) (a0 : Int32) : Option (Int32 × SS) :=
  if a0 < 0 then some ((-1000000002 : Int32), σ)
    else if a0 ≤ (255 : Int32) then ob (FX4_takeLetter σ a0) (fun p4 => if p4.1 = 0 then some ((-1000000004 : Int32), p4.2)
    else some ((gI p4.2 10), p4.2))
    else some ((-1000000002 : Int32), σ)
set_option maxRecDepth 100000 in
set_option maxHeartbeats 4000000 in
theorem c_X7_feed {σ : SS} {a0 : Int32} {r : Int32} {σr : SS} (hf : FX7_feed σ a0 = some (r, σr)) : Mcw wsX yX7_feed cX7_feed 2 (some .int) ({ frames := 1, cells := 0, slots := 0, locals := 21 } : Room) (fun g => [.ref (g.2.1 0), .int a0]) σ (fun g => some (.int r)) σr := by
  refine w_enter wsX_fix (by decide) (fun g => Nat.le_of_ble_eq_true rfl) ?_
  intro X g hX
  replace hX : Okw wsX X g cX7_feed 2 RX7 (some .int) ({ frames := 1, cells := 0, slots := 0, locals := 21 } : Room) (fun g => some (.int r)) σr := hX
  have h0 := hX.1
  show Vx X g.1 2 (wsX g σ) 0 [(0, .ref (g.2.1 0)), (1, .int a0)] []
  rw [FX7_feed] at hf
  refine vx_iload_n h0 dX7_feed_0 rfl ?_
  refine vx_if_lt (tgt := 11) h0 dX7_feed_1 (by decide) (fun c1 => ?_) (fun c1 => ?_)
  · replace hf := (if_pos c1).symm.trans hf
    refine vx_ldc h0 q336 dX7_feed_11 ?_
    exact w_iretE hX hf dX7_feed_13
  · replace hf := (if_neg c1).symm.trans hf
    refine vx_iload_n h0 dX7_feed_4 rfl ?_
    refine vx_sipush (v := (255 : Int32)) h0 dX7_feed_5 (by decide) ?_
    refine vx_icmp_le (tgt := 14) h0 dX7_feed_8 (by decide) (fun c2 => ?_) (fun c2 => ?_)
    · replace hf := (if_pos c2).symm.trans hf
      refine vx_aload_n h0 dX7_feed_14 rfl ?_
      refine xg_0_0 hX q307 dX7_feed_15 ?_
      refine vx_iload_n h0 dX7_feed_18 rfl ?_
      obtain ⟨p4, h3, hf⟩ := ob_some hf
      refine w_callV (st := []) (ci := 4) (q0 := 1) hX (c_X4_takeLetter h3) ce_X4_takeLetter q337 ⟨rfl, rfl⟩ ⟨by decide, by decide⟩ rfl rfl rfl rfl (xo_1 g _) rfl (Nat.le_of_ble_eq_true rfl) dX7_feed_19 ?_
      show Vx X g.1 2 (wsX g p4.2) 22 [(0, .ref (g.2.1 0)), (1, .int a0)] [.int p4.1]
      refine vx_if_eq (tgt := 35) h0 dX7_feed_22 (by decide) (fun c5 => ?_) (fun c5 => ?_)
      · replace hf := (if_pos c5).symm.trans hf
        refine vx_ldc h0 q341 dX7_feed_35 ?_
        exact w_iretE hX hf dX7_feed_37
      · replace hf := (if_neg c5).symm.trans hf
        refine vx_aload_n h0 dX7_feed_25 rfl ?_
        refine xg_0_0 hX q307 dX7_feed_26 ?_
        refine xg_1_0 hX q173 dX7_feed_29 ?_
        refine vx_goto (tgt := 37) h0 dX7_feed_32 (by decide) ?_
        exact w_iretE hX hf dX7_feed_37
    · replace hf := (if_neg c2).symm.trans hf
      refine vx_ldc h0 q336 dX7_feed_11 ?_
      exact w_iretE hX hf dX7_feed_13
def FX7_forgetImages_L2 (k : SS → Option (SS)) : Nat → Int32 → SS → Option (SS)
  | 0, _, _ => none
  | n + 1, v1, σ => if (2 : Int32) ≤ v1 then k σ
    else gd (inb v1 2) (bd (sA σ 74 (upd (gA σ 74) (Int32.toNatClampNeg v1) (-1 : Int32))) (fun σ3 => FX7_forgetImages_L2 k n (v1 + (1 : Int32)) σ3))
set_option maxRecDepth 100000 in
set_option maxHeartbeats 4000000 in
theorem PX7_forgetImages_L2 {X : Bx} {g : Gx} {σr : SS} (hX : Okw wsX X g cX7_forgetImages 2 RX7 none ({ frames := 0, cells := 0, slots := 0, locals := 0 } : Room) (fun g => none) σr) {k : SS → Option (SS)} (hk : ∀ (σ : SS), k σ = some σr → Vx X g.1 2 (wsX g σ) 20 [] []) : ∀ (n : Nat) (v1 : Int32) (σ : SS), FX7_forgetImages_L2 k n v1 σ = some σr → Vx X g.1 2 (wsX g σ) 2 [(0, .ref (g.2.1 0)), (1, .int v1)] [] := by
  have h0 := hX.1
  intro n
  induction n with
  | zero =>
    intro v1 σ hf
    rw [FX7_forgetImages_L2] at hf
    cases hf
  | succ n ih =>
    intro v1 σ hf
    rw [FX7_forgetImages_L2] at hf
    refine vx_iload_n h0 dX7_forgetImages_2 rfl ?_
    refine vx_iconst (v := (2 : Int32)) h0 dX7_forgetImages_3 (by decide) ?_
    refine vx_icmp_ge (tgt := 20) h0 dX7_forgetImages_4 (by decide) (fun c1 => ?_) (fun c1 => ?_)
    · replace hf := (if_pos c1).symm.trans hf
      refine vx_sub [] rfl ?_
      exact hk _ hf
    · replace hf := (if_neg c1).symm.trans hf
      refine vx_aload_n h0 dX7_forgetImages_7 rfl ?_
      refine xg_0_4 hX q311 dX7_forgetImages_8 ?_
      refine vx_iload_n h0 dX7_forgetImages_11 rfl ?_
      refine vx_iconst (v := (-1 : Int32)) h0 dX7_forgetImages_12 (by decide) ?_
      obtain ⟨b2, hf⟩ := gd_some hf
      refine xs_27 hX b2 dX7_forgetImages_13 ?_
      generalize (sA σ 74 (upd (gA σ 74) (Int32.toNatClampNeg v1) (-1 : Int32))) = σ3 at hf ⊢
      replace hf := bd_h hf
      refine vx_iinc (q := 1) (v := (v1 + (1 : Int32))) (ls' := [(1, .int (v1 + (1 : Int32))), (0, .ref (g.2.1 0))]) h0 dX7_forgetImages_14 rfl rfl (by decide) rfl ?_
      refine vx_goto (tgt := 2) h0 dX7_forgetImages_17 (by decide) ?_
      refine vx_sub [1, 0] rfl ?_
      exact ih _ _ hf
def FX7_forgetImages (σ : SS) : Option (SS) :=
  FX7_forgetImages_L2 (fun σ4 => some σ4) 5000 (0 : Int32) σ
set_option maxRecDepth 100000 in
set_option maxHeartbeats 4000000 in
theorem c_X7_forgetImages {σ : SS} {σr : SS} (hf : FX7_forgetImages σ = some σr) : Mcw wsX yX7_forgetImages cX7_forgetImages 2 none ({ frames := 0, cells := 0, slots := 0, locals := 0 } : Room) (fun g => [.ref (g.2.1 0)]) σ (fun g => none) σr := by
  refine w_enter wsX_fix (by decide) (fun g => Nat.le_of_ble_eq_true rfl) ?_
  intro X g hX
  replace hX : Okw wsX X g cX7_forgetImages 2 RX7 none ({ frames := 0, cells := 0, slots := 0, locals := 0 } : Room) (fun g => none) σr := hX
  have h0 := hX.1
  show Vx X g.1 2 (wsX g σ) 0 [(0, .ref (g.2.1 0))] []
  rw [FX7_forgetImages] at hf
  refine vx_iconst (v := (0 : Int32)) h0 dX7_forgetImages_0 (by decide) ?_
  refine vx_istore_n (ls' := [(1, .int (0 : Int32)), (0, .ref (g.2.1 0))]) h0 dX7_forgetImages_1 (by decide) rfl ?_
  refine vx_sub [1, 0] rfl ?_
  refine PX7_forgetImages_L2 hX (fun σ4 hf => ?_) _ _ _ hf
  exact w_vretE hX hf dX7_forgetImages_20
def FX7_contract (σ : SS) : Option (Int32 × SS) :=
  ob (FX4_readText σ) (fun p2 => if p2.1 = 0 then ob (FX0_takeOver p2.2) (fun σ5 => bd (sI σ5 62 (0 : Int32)) (fun σ6 => ob (FX7_forgetImages σ6) (fun σ8 => ob (FX1_clear σ8) (fun σ10 => ob (FX2_reckon σ10 (gI σ10 62)) (fun σ12 => some ((gI σ12 40), σ12))))))
    else some (((-10 : Int32) - p2.1), p2.2))
set_option maxRecDepth 100000 in
set_option maxHeartbeats 4000000 in
theorem c_X7_contract {σ : SS} {r : Int32} {σr : SS} (hf : FX7_contract σ = some (r, σr)) : Mcw wsX yX7_contract cX7_contract 2 (some .int) ({ frames := 6, cells := 0, slots := 0, locals := 131 } : Room) (fun g => [.ref (g.2.1 0)]) σ (fun g => some (.int r)) σr := by
  refine w_enter wsX_fix (by decide) (fun g => Nat.le_of_ble_eq_true rfl) ?_
  intro X g hX
  replace hX : Okw wsX X g cX7_contract 2 RX7 (some .int) ({ frames := 6, cells := 0, slots := 0, locals := 131 } : Room) (fun g => some (.int r)) σr := hX
  have h0 := hX.1
  show Vx X g.1 2 (wsX g σ) 0 [(0, .ref (g.2.1 0))] []
  rw [FX7_contract] at hf
  refine vx_aload_n h0 dX7_contract_0 rfl ?_
  refine xg_0_0 hX q307 dX7_contract_1 ?_
  obtain ⟨p2, h1, hf⟩ := ob_some hf
  refine w_callV (st := []) (ci := 4) (q0 := 1) hX (c_X4_readText h1) ce_X4_readText q346 ⟨rfl, rfl⟩ ⟨by decide, by decide⟩ rfl rfl rfl rfl (xo_1 g _) rfl (Nat.le_of_ble_eq_true rfl) dX7_contract_4 ?_
  show Vx X g.1 2 (wsX g p2.2) 7 [(0, .ref (g.2.1 0))] [.int p2.1]
  refine vx_istore_n (ls' := [(1, .int p2.1), (0, .ref (g.2.1 0))]) h0 dX7_contract_7 (by decide) rfl ?_
  refine vx_iload_n h0 dX7_contract_8 rfl ?_
  refine vx_if_eq (tgt := 17) h0 dX7_contract_9 (by decide) (fun c3 => ?_) (fun c3 => ?_)
  · replace hf := (if_pos c3).symm.trans hf
    refine vx_aload_n h0 dX7_contract_17 rfl ?_
    refine xg_0_1 hX q308 dX7_contract_18 ?_
    refine vx_aload_n h0 dX7_contract_21 rfl ?_
    refine xg_0_0 hX q307 dX7_contract_22 ?_
    refine xg_1_2 hX q177 dX7_contract_25 ?_
    obtain ⟨σ5, h4, hf⟩ := ob_some hf
    refine w_callV (st := []) (ci := 0) (q0 := 14) hX (c_X0_takeOver h4) ce_X0_takeOver q413 ⟨rfl, rfl⟩ ⟨by decide, by decide⟩ rfl rfl rfl rfl (xo_14 g _) rfl (Nat.le_of_ble_eq_true rfl) dX7_contract_28 ?_
    show Vx X g.1 2 (wsX g σ5) 31 [(1, .int p2.1), (0, .ref (g.2.1 0))] []
    refine vx_aload_n h0 dX7_contract_31 rfl ?_
    refine xg_0_2 hX q309 dX7_contract_32 ?_
    refine vx_iconst (v := (0 : Int32)) h0 dX7_contract_35 (by decide) ?_
    refine xp_24_2 hX q214 dX7_contract_36 ?_
    generalize (sI σ5 62 (0 : Int32)) = σ6 at hf ⊢
    replace hf := bd_h hf
    refine vx_aload_n h0 dX7_contract_39 rfl ?_
    obtain ⟨σ8, h7, hf⟩ := ob_some hf
    refine w_callV (st := []) (ci := 7) (q0 := 0) hX (c_X7_forgetImages h7) ce_X7_forgetImages q237 ⟨rfl, rfl⟩ ⟨by decide, by decide⟩ rfl rfl rfl rfl (xo_0 g _) rfl (Nat.le_of_ble_eq_true rfl) dX7_contract_40 ?_
    show Vx X g.1 2 (wsX g σ8) 43 [(1, .int p2.1), (0, .ref (g.2.1 0))] []
    refine vx_aload_n h0 dX7_contract_43 rfl ?_
    refine xg_0_3 hX q310 dX7_contract_44 ?_
    obtain ⟨σ10, h9, hf⟩ := ob_some hf
    refine w_callV (st := []) (ci := 1) (q0 := 25) hX (c_X1_clear h9) ce_X1_clear q420 ⟨rfl, rfl⟩ ⟨by decide, by decide⟩ rfl rfl rfl rfl (xo_25 g _) rfl (Nat.le_of_ble_eq_true rfl) dX7_contract_47 ?_
    show Vx X g.1 2 (wsX g σ10) 50 [(1, .int p2.1), (0, .ref (g.2.1 0))] []
    refine vx_aload_n h0 dX7_contract_50 rfl ?_
    refine xg_0_5 hX q312 dX7_contract_51 ?_
    refine vx_aload_n h0 dX7_contract_54 rfl ?_
    refine xg_0_2 hX q309 dX7_contract_55 ?_
    refine xg_24_2 hX q214 dX7_contract_58 ?_
    obtain ⟨σ12, h11, hf⟩ := ob_some hf
    refine w_callV (st := []) (ci := 2) (q0 := 28) hX (c_X2_reckon h11) ce_X2_reckon q424 ⟨rfl, rfl⟩ ⟨by decide, by decide⟩ rfl rfl rfl rfl (xo_28 g _) rfl (Nat.le_of_ble_eq_true rfl) dX7_contract_61 ?_
    show Vx X g.1 2 (wsX g σ12) 64 [(1, .int p2.1), (0, .ref (g.2.1 0))] []
    refine vx_aload_n h0 dX7_contract_64 rfl ?_
    refine xg_0_1 hX q308 dX7_contract_65 ?_
    refine xg_14_0 hX q103 dX7_contract_68 ?_
    exact w_iretE hX hf dX7_contract_71
  · replace hf := (if_neg c3).symm.trans hf
    refine vx_bipush (v := (-10 : Int32)) h0 dX7_contract_12 (by decide) ?_
    refine vx_iload_n h0 dX7_contract_14 rfl ?_
    refine vx_isub h0 dX7_contract_15 ?_
    exact w_iretE hX hf dX7_contract_16
def FX7_fault (σ : SS) : Option (Int32) :=
  some (gI σ 11)
set_option maxRecDepth 100000 in
set_option maxHeartbeats 4000000 in
theorem c_X7_fault {σ : SS} {r : Int32} (hf : FX7_fault σ = some r) : Mcw wsX yX7_fault cX7_fault 1 (some .int) ({ frames := 0, cells := 0, slots := 0, locals := 0 } : Room) (fun g => [.ref (g.2.1 0)]) σ (fun g => some (.int r)) σ := by
  refine w_enter wsX_fix (by decide) (fun g => Nat.le_of_ble_eq_true rfl) ?_
  intro X g hX
  replace hX : Okw wsX X g cX7_fault 1 RX7 (some .int) ({ frames := 0, cells := 0, slots := 0, locals := 0 } : Room) (fun g => some (.int r)) σ := hX
  have h0 := hX.1
  show Vx X g.1 1 (wsX g σ) 0 [(0, .ref (g.2.1 0))] []
  rw [FX7_fault] at hf
  refine vx_aload_n h0 dX7_fault_0 rfl ?_
  refine xg_0_0 hX q307 dX7_fault_1 ?_
  refine xg_1_1 hX q175 dX7_fault_4 ?_
  exact w_iretP hX hf dX7_fault_7
def FX7_isQuestion (σ : SS) (a0 : Int32) : Option (Int32) :=
  if a0 < 0 then some (0 : Int32)
    else if (6 : Int32) ≤ a0 then some (0 : Int32)
    else some (1 : Int32)
set_option maxRecDepth 100000 in
set_option maxHeartbeats 4000000 in
theorem c_X7_isQuestion {σ : SS} {a0 : Int32} {r : Int32} (hf : FX7_isQuestion σ a0 = some r) : Mcw wsX yX7_isQuestion cX7_isQuestion 1 (some .boolean) ({ frames := 0, cells := 0, slots := 0, locals := 0 } : Room) (fun g => [.int a0]) σ (fun g => some (.int r)) σ := by
  refine w_enter wsX_fix (by decide) (fun g => Nat.le_of_ble_eq_true rfl) ?_
  intro X g hX
  replace hX : Okw wsX X g cX7_isQuestion 1 RX7 (some .boolean) ({ frames := 0, cells := 0, slots := 0, locals := 0 } : Room) (fun g => some (.int r)) σ := hX
  have h0 := hX.1
  show Vx X g.1 1 (wsX g σ) 0 [(0, .int a0)] []
  rw [FX7_isQuestion] at hf
  refine vx_iload_n h0 dX7_isQuestion_0 rfl ?_
  refine vx_if_lt (tgt := 14) h0 dX7_isQuestion_1 (by decide) (fun c1 => ?_) (fun c1 => ?_)
  · replace hf := (if_pos c1).symm.trans hf
    refine vx_iconst (v := (0 : Int32)) h0 dX7_isQuestion_14 (by decide) ?_
    exact w_zretP hX hf rfl dX7_isQuestion_15
  · replace hf := (if_neg c1).symm.trans hf
    refine vx_iload_n h0 dX7_isQuestion_4 rfl ?_
    refine vx_bipush (v := (6 : Int32)) h0 dX7_isQuestion_5 (by decide) ?_
    refine vx_icmp_ge (tgt := 14) h0 dX7_isQuestion_7 (by decide) (fun c3 => ?_) (fun c3 => ?_)
    · replace hf := (if_pos c3).symm.trans hf
      refine vx_iconst (v := (0 : Int32)) h0 dX7_isQuestion_14 (by decide) ?_
      exact w_zretP hX hf rfl dX7_isQuestion_15
    · replace hf := (if_neg c3).symm.trans hf
      refine vx_iconst (v := (1 : Int32)) h0 dX7_isQuestion_10 (by decide) ?_
      refine vx_goto (tgt := 15) h0 dX7_isQuestion_11 (by decide) ?_
      exact w_zretP hX hf rfl dX7_isQuestion_15
