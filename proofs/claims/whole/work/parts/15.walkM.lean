/-! printed by wip/whole/gen.py: decode rows, functions, contracts -/
theorem dX8_in_0 : decode cX8_in 0 = .ok (.iload_n 0, 1) := by decide +kernel
theorem dX8_in_1 : decode cX8_in 1 = .ok (.iload_n 1, 1) := by decide +kernel
theorem dX8_in_2 : decode cX8_in 2 = .ok (.if_icmp .lt 12, 3) := by decide +kernel
theorem dX8_in_5 : decode cX8_in 5 = .ok (.iload_n 0, 1) := by decide +kernel
theorem dX8_in_6 : decode cX8_in 6 = .ok (.iload_n 2, 1) := by decide +kernel
theorem dX8_in_7 : decode cX8_in 7 = .ok (.if_icmp .gt 7, 3) := by decide +kernel
theorem dX8_in_10 : decode cX8_in 10 = .ok (.iconst 1, 1) := by decide +kernel
theorem dX8_in_11 : decode cX8_in 11 = .ok (.goto 4, 3) := by decide +kernel
theorem dX8_in_14 : decode cX8_in 14 = .ok (.iconst 0, 1) := by decide +kernel
theorem dX8_in_15 : decode cX8_in 15 = .ok (.ireturn, 1) := by decide +kernel
theorem dX8_has_0 : decode cX8_has 0 = .ok (.iload_n 0, 1) := by decide +kernel
theorem dX8_has_1 : decode cX8_has 1 = .ok (.iload_n 1, 1) := by decide +kernel
theorem dX8_has_2 : decode cX8_has 2 = .ok (.ishr, 1) := by decide +kernel
theorem dX8_has_3 : decode cX8_has 3 = .ok (.iconst 1, 1) := by decide +kernel
theorem dX8_has_4 : decode cX8_has 4 = .ok (.iand, 1) := by decide +kernel
theorem dX8_has_5 : decode cX8_has 5 = .ok (.iconst 1, 1) := by decide +kernel
theorem dX8_has_6 : decode cX8_has 6 = .ok (.if_icmp .ne 7, 3) := by decide +kernel
theorem dX8_has_9 : decode cX8_has 9 = .ok (.iconst 1, 1) := by decide +kernel
theorem dX8_has_10 : decode cX8_has 10 = .ok (.goto 4, 3) := by decide +kernel
theorem dX8_has_13 : decode cX8_has 13 = .ok (.iconst 0, 1) := by decide +kernel
theorem dX8_has_14 : decode cX8_has 14 = .ok (.ireturn, 1) := by decide +kernel
theorem dX8_ones_0 : decode cX8_ones 0 = .ok (.iconst 0, 1) := by decide +kernel
theorem dX8_ones_1 : decode cX8_ones 1 = .ok (.istore_n 1, 1) := by decide +kernel
theorem dX8_ones_2 : decode cX8_ones 2 = .ok (.iconst 0, 1) := by decide +kernel
theorem dX8_ones_3 : decode cX8_ones 3 = .ok (.istore_n 2, 1) := by decide +kernel
theorem dX8_ones_4 : decode cX8_ones 4 = .ok (.iload_n 2, 1) := by decide +kernel
theorem dX8_ones_5 : decode cX8_ones 5 = .ok (.bipush 16, 2) := by decide +kernel
theorem dX8_ones_7 : decode cX8_ones 7 = .ok (.if_icmp .ge 17, 3) := by decide +kernel
theorem dX8_ones_10 : decode cX8_ones 10 = .ok (.iload_n 1, 1) := by decide +kernel
theorem dX8_ones_11 : decode cX8_ones 11 = .ok (.iload_n 0, 1) := by decide +kernel
theorem dX8_ones_12 : decode cX8_ones 12 = .ok (.iload_n 2, 1) := by decide +kernel
theorem dX8_ones_13 : decode cX8_ones 13 = .ok (.ishr, 1) := by decide +kernel
theorem dX8_ones_14 : decode cX8_ones 14 = .ok (.iconst 1, 1) := by decide +kernel
theorem dX8_ones_15 : decode cX8_ones 15 = .ok (.iand, 1) := by decide +kernel
theorem dX8_ones_16 : decode cX8_ones 16 = .ok (.iadd, 1) := by decide +kernel
theorem dX8_ones_17 : decode cX8_ones 17 = .ok (.istore_n 1, 1) := by decide +kernel
theorem dX8_ones_18 : decode cX8_ones 18 = .ok (.iinc 2 1, 3) := by decide +kernel
theorem dX8_ones_21 : decode cX8_ones 21 = .ok (.goto (-17), 3) := by decide +kernel
theorem dX8_ones_24 : decode cX8_ones 24 = .ok (.iload_n 1, 1) := by decide +kernel
theorem dX8_ones_25 : decode cX8_ones 25 = .ok (.ireturn, 1) := by decide +kernel
theorem dX8_isClause_0 : decode cX8_isClause 0 = .ok (.iload_n 1, 1) := by decide +kernel
theorem dX8_isClause_1 : decode cX8_isClause 1 = .ok (.iconst 0, 1) := by decide +kernel
theorem dX8_isClause_2 : decode cX8_isClause 2 = .ok (.aload_n 0, 1) := by decide +kernel
theorem dX8_isClause_3 : decode cX8_isClause 3 = .ok (.getfield 81, 3) := by decide +kernel
theorem dX8_isClause_6 : decode cX8_isClause 6 = .ok (.iconst 1, 1) := by decide +kernel
theorem dX8_isClause_7 : decode cX8_isClause 7 = .ok (.isub, 1) := by decide +kernel
theorem dX8_isClause_8 : decode cX8_isClause 8 = .ok (.invokestatic 84, 3) := by decide +kernel
theorem dX8_isClause_11 : decode cX8_isClause 11 = .ok (.ireturn, 1) := by decide +kernel
theorem dX8_feed_0 : decode cX8_feed 0 = .ok (.iload_n 1, 1) := by decide +kernel
theorem dX8_feed_1 : decode cX8_feed 1 = .ok (.iconst 0, 1) := by decide +kernel
theorem dX8_feed_2 : decode cX8_feed 2 = .ok (.sipush 255, 3) := by decide +kernel
theorem dX8_feed_5 : decode cX8_feed 5 = .ok (.invokestatic 84, 3) := by decide +kernel
theorem dX8_feed_8 : decode cX8_feed 8 = .ok (.ifCond .ne 6, 3) := by decide +kernel
theorem dX8_feed_11 : decode cX8_feed 11 = .ok (.ldc 88, 2) := by decide +kernel
theorem dX8_feed_13 : decode cX8_feed 13 = .ok (.ireturn, 1) := by decide +kernel
theorem dX8_feed_14 : decode cX8_feed 14 = .ok (.aload_n 0, 1) := by decide +kernel
theorem dX8_feed_15 : decode cX8_feed 15 = .ok (.getfield 89, 3) := by decide +kernel
theorem dX8_feed_18 : decode cX8_feed 18 = .ok (.sipush 240, 3) := by decide +kernel
theorem dX8_feed_21 : decode cX8_feed 21 = .ok (.if_icmp .ne 6, 3) := by decide +kernel
theorem dX8_feed_24 : decode cX8_feed 24 = .ok (.ldc 92, 2) := by decide +kernel
theorem dX8_feed_26 : decode cX8_feed 26 = .ok (.ireturn, 1) := by decide +kernel
theorem dX8_feed_27 : decode cX8_feed 27 = .ok (.aload_n 0, 1) := by decide +kernel
theorem dX8_feed_28 : decode cX8_feed 28 = .ok (.getfield 7, 3) := by decide +kernel
theorem dX8_feed_31 : decode cX8_feed 31 = .ok (.aload_n 0, 1) := by decide +kernel
theorem dX8_feed_32 : decode cX8_feed 32 = .ok (.getfield 89, 3) := by decide +kernel
theorem dX8_feed_35 : decode cX8_feed 35 = .ok (.iload_n 1, 1) := by decide +kernel
theorem dX8_feed_36 : decode cX8_feed 36 = .ok (.iastore, 1) := by decide +kernel
theorem dX8_feed_37 : decode cX8_feed 37 = .ok (.aload_n 0, 1) := by decide +kernel
theorem dX8_feed_38 : decode cX8_feed 38 = .ok (.dup, 1) := by decide +kernel
theorem dX8_feed_39 : decode cX8_feed 39 = .ok (.getfield 89, 3) := by decide +kernel
theorem dX8_feed_42 : decode cX8_feed 42 = .ok (.iconst 1, 1) := by decide +kernel
theorem dX8_feed_43 : decode cX8_feed 43 = .ok (.iadd, 1) := by decide +kernel
theorem dX8_feed_44 : decode cX8_feed 44 = .ok (.putfield 89, 3) := by decide +kernel
theorem dX8_feed_47 : decode cX8_feed 47 = .ok (.aload_n 0, 1) := by decide +kernel
theorem dX8_feed_48 : decode cX8_feed 48 = .ok (.getfield 89, 3) := by decide +kernel
theorem dX8_feed_51 : decode cX8_feed 51 = .ok (.ireturn, 1) := by decide +kernel
theorem dX8_sign_0 : decode cX8_sign 0 = .ok (.aload_n 0, 1) := by decide +kernel
theorem dX8_sign_1 : decode cX8_sign 1 = .ok (.getfield 93, 3) := by decide +kernel
theorem dX8_sign_4 : decode cX8_sign 4 = .ok (.aload_n 0, 1) := by decide +kernel
theorem dX8_sign_5 : decode cX8_sign 5 = .ok (.getfield 89, 3) := by decide +kernel
theorem dX8_sign_8 : decode cX8_sign 8 = .ok (.if_icmp .ge 30, 3) := by decide +kernel
theorem dX8_sign_11 : decode cX8_sign 11 = .ok (.aload_n 0, 1) := by decide +kernel
theorem dX8_sign_12 : decode cX8_sign 12 = .ok (.getfield 7, 3) := by decide +kernel
theorem dX8_sign_15 : decode cX8_sign 15 = .ok (.aload_n 0, 1) := by decide +kernel
theorem dX8_sign_16 : decode cX8_sign 16 = .ok (.getfield 93, 3) := by decide +kernel
theorem dX8_sign_19 : decode cX8_sign 19 = .ok (.iaload, 1) := by decide +kernel
theorem dX8_sign_20 : decode cX8_sign 20 = .ok (.bipush 32, 2) := by decide +kernel
theorem dX8_sign_22 : decode cX8_sign 22 = .ok (.if_icmp .ne 16, 3) := by decide +kernel
theorem dX8_sign_25 : decode cX8_sign 25 = .ok (.aload_n 0, 1) := by decide +kernel
theorem dX8_sign_26 : decode cX8_sign 26 = .ok (.dup, 1) := by decide +kernel
theorem dX8_sign_27 : decode cX8_sign 27 = .ok (.getfield 93, 3) := by decide +kernel
theorem dX8_sign_30 : decode cX8_sign 30 = .ok (.iconst 1, 1) := by decide +kernel
theorem dX8_sign_31 : decode cX8_sign 31 = .ok (.iadd, 1) := by decide +kernel
theorem dX8_sign_32 : decode cX8_sign 32 = .ok (.putfield 93, 3) := by decide +kernel
theorem dX8_sign_35 : decode cX8_sign 35 = .ok (.goto (-35), 3) := by decide +kernel
theorem dX8_sign_38 : decode cX8_sign 38 = .ok (.aload_n 0, 1) := by decide +kernel
theorem dX8_sign_39 : decode cX8_sign 39 = .ok (.getfield 93, 3) := by decide +kernel
theorem dX8_sign_42 : decode cX8_sign 42 = .ok (.aload_n 0, 1) := by decide +kernel
theorem dX8_sign_43 : decode cX8_sign 43 = .ok (.getfield 89, 3) := by decide +kernel
theorem dX8_sign_46 : decode cX8_sign 46 = .ok (.if_icmp .ge 15, 3) := by decide +kernel
theorem dX8_sign_49 : decode cX8_sign 49 = .ok (.aload_n 0, 1) := by decide +kernel
theorem dX8_sign_50 : decode cX8_sign 50 = .ok (.getfield 7, 3) := by decide +kernel
theorem dX8_sign_53 : decode cX8_sign 53 = .ok (.aload_n 0, 1) := by decide +kernel
theorem dX8_sign_54 : decode cX8_sign 54 = .ok (.getfield 93, 3) := by decide +kernel
theorem dX8_sign_57 : decode cX8_sign 57 = .ok (.iaload, 1) := by decide +kernel
theorem dX8_sign_58 : decode cX8_sign 58 = .ok (.goto 4, 3) := by decide +kernel
theorem dX8_sign_61 : decode cX8_sign 61 = .ok (.iconst (-1), 1) := by decide +kernel
theorem dX8_sign_62 : decode cX8_sign 62 = .ok (.ireturn, 1) := by decide +kernel
theorem dX8_fails_0 : decode cX8_fails 0 = .ok (.aload_n 0, 1) := by decide +kernel
theorem dX8_fails_1 : decode cX8_fails 1 = .ok (.getfield 96, 3) := by decide +kernel
theorem dX8_fails_4 : decode cX8_fails 4 = .ok (.ifCond .ne 16, 3) := by decide +kernel
theorem dX8_fails_7 : decode cX8_fails 7 = .ok (.aload_n 0, 1) := by decide +kernel
theorem dX8_fails_8 : decode cX8_fails 8 = .ok (.iload_n 1, 1) := by decide +kernel
theorem dX8_fails_9 : decode cX8_fails 9 = .ok (.putfield 96, 3) := by decide +kernel
theorem dX8_fails_12 : decode cX8_fails 12 = .ok (.aload_n 0, 1) := by decide +kernel
theorem dX8_fails_13 : decode cX8_fails 13 = .ok (.aload_n 0, 1) := by decide +kernel
theorem dX8_fails_14 : decode cX8_fails 14 = .ok (.getfield 93, 3) := by decide +kernel
theorem dX8_fails_17 : decode cX8_fails 17 = .ok (.putfield 13, 3) := by decide +kernel
theorem dX8_fails_20 : decode cX8_fails 20 = .ok (.return_, 1) := by decide +kernel
theorem dX8_isFigure_0 : decode cX8_isFigure 0 = .ok (.iload_n 0, 1) := by decide +kernel
theorem dX8_isFigure_1 : decode cX8_isFigure 1 = .ok (.bipush 48, 2) := by decide +kernel
theorem dX8_isFigure_3 : decode cX8_isFigure 3 = .ok (.bipush 57, 2) := by decide +kernel
theorem dX8_isFigure_5 : decode cX8_isFigure 5 = .ok (.invokestatic 84, 3) := by decide +kernel
theorem dX8_isFigure_8 : decode cX8_isFigure 8 = .ok (.ireturn, 1) := by decide +kernel
theorem dX8_figure_0 : decode cX8_figure 0 = .ok (.aload_n 0, 1) := by decide +kernel
theorem dX8_figure_1 : decode cX8_figure 1 = .ok (.invokevirtual 99, 3) := by decide +kernel
theorem dX8_figure_4 : decode cX8_figure 4 = .ok (.istore_n 2, 1) := by decide +kernel
theorem dX8_figure_5 : decode cX8_figure 5 = .ok (.iload_n 2, 1) := by decide +kernel
theorem dX8_figure_6 : decode cX8_figure 6 = .ok (.invokestatic 103, 3) := by decide +kernel
theorem dX8_figure_9 : decode cX8_figure 9 = .ok (.ifCond .ne 10, 3) := by decide +kernel
theorem dX8_figure_12 : decode cX8_figure 12 = .ok (.aload_n 0, 1) := by decide +kernel
theorem dX8_figure_13 : decode cX8_figure 13 = .ok (.iconst 1, 1) := by decide +kernel
theorem dX8_figure_14 : decode cX8_figure 14 = .ok (.invokevirtual 107, 3) := by decide +kernel
theorem dX8_figure_17 : decode cX8_figure 17 = .ok (.iconst 0, 1) := by decide +kernel
theorem dX8_figure_18 : decode cX8_figure 18 = .ok (.ireturn, 1) := by decide +kernel
theorem dX8_figure_19 : decode cX8_figure 19 = .ok (.iload_n 2, 1) := by decide +kernel
theorem dX8_figure_20 : decode cX8_figure 20 = .ok (.bipush 48, 2) := by decide +kernel
theorem dX8_figure_22 : decode cX8_figure 22 = .ok (.isub, 1) := by decide +kernel
theorem dX8_figure_23 : decode cX8_figure 23 = .ok (.iload_n 1, 1) := by decide +kernel
theorem dX8_figure_24 : decode cX8_figure 24 = .ok (.if_icmp .le 10, 3) := by decide +kernel
theorem dX8_figure_27 : decode cX8_figure 27 = .ok (.aload_n 0, 1) := by decide +kernel
theorem dX8_figure_28 : decode cX8_figure 28 = .ok (.iconst 2, 1) := by decide +kernel
theorem dX8_figure_29 : decode cX8_figure 29 = .ok (.invokevirtual 107, 3) := by decide +kernel
theorem dX8_figure_32 : decode cX8_figure 32 = .ok (.iconst 0, 1) := by decide +kernel
theorem dX8_figure_33 : decode cX8_figure 33 = .ok (.ireturn, 1) := by decide +kernel
theorem dX8_figure_34 : decode cX8_figure 34 = .ok (.aload_n 0, 1) := by decide +kernel
theorem dX8_figure_35 : decode cX8_figure 35 = .ok (.dup, 1) := by decide +kernel
theorem dX8_figure_36 : decode cX8_figure 36 = .ok (.getfield 93, 3) := by decide +kernel
theorem dX8_figure_39 : decode cX8_figure 39 = .ok (.iconst 1, 1) := by decide +kernel
theorem dX8_figure_40 : decode cX8_figure 40 = .ok (.iadd, 1) := by decide +kernel
theorem dX8_figure_41 : decode cX8_figure 41 = .ok (.putfield 93, 3) := by decide +kernel
theorem dX8_figure_44 : decode cX8_figure 44 = .ok (.iload_n 2, 1) := by decide +kernel
theorem dX8_figure_45 : decode cX8_figure 45 = .ok (.bipush 48, 2) := by decide +kernel
theorem dX8_figure_47 : decode cX8_figure 47 = .ok (.isub, 1) := by decide +kernel
theorem dX8_figure_48 : decode cX8_figure 48 = .ok (.ireturn, 1) := by decide +kernel
theorem dX8_clauseNumber_0 : decode cX8_clauseNumber 0 = .ok (.aload_n 0, 1) := by decide +kernel
theorem dX8_clauseNumber_1 : decode cX8_clauseNumber 1 = .ok (.invokevirtual 99, 3) := by decide +kernel
theorem dX8_clauseNumber_4 : decode cX8_clauseNumber 4 = .ok (.invokestatic 103, 3) := by decide +kernel
theorem dX8_clauseNumber_7 : decode cX8_clauseNumber 7 = .ok (.ifCond .ne 10, 3) := by decide +kernel
theorem dX8_clauseNumber_10 : decode cX8_clauseNumber 10 = .ok (.aload_n 0, 1) := by decide +kernel
theorem dX8_clauseNumber_11 : decode cX8_clauseNumber 11 = .ok (.iconst 1, 1) := by decide +kernel
theorem dX8_clauseNumber_12 : decode cX8_clauseNumber 12 = .ok (.invokevirtual 107, 3) := by decide +kernel
theorem dX8_clauseNumber_15 : decode cX8_clauseNumber 15 = .ok (.iconst 0, 1) := by decide +kernel
theorem dX8_clauseNumber_16 : decode cX8_clauseNumber 16 = .ok (.ireturn, 1) := by decide +kernel
theorem dX8_clauseNumber_17 : decode cX8_clauseNumber 17 = .ok (.aload_n 0, 1) := by decide +kernel
theorem dX8_clauseNumber_18 : decode cX8_clauseNumber 18 = .ok (.getfield 93, 3) := by decide +kernel
theorem dX8_clauseNumber_21 : decode cX8_clauseNumber 21 = .ok (.istore_n 1, 1) := by decide +kernel
theorem dX8_clauseNumber_22 : decode cX8_clauseNumber 22 = .ok (.iconst 0, 1) := by decide +kernel
theorem dX8_clauseNumber_23 : decode cX8_clauseNumber 23 = .ok (.istore_n 2, 1) := by decide +kernel
theorem dX8_clauseNumber_24 : decode cX8_clauseNumber 24 = .ok (.aload_n 0, 1) := by decide +kernel
theorem dX8_clauseNumber_25 : decode cX8_clauseNumber 25 = .ok (.getfield 93, 3) := by decide +kernel
theorem dX8_clauseNumber_28 : decode cX8_clauseNumber 28 = .ok (.aload_n 0, 1) := by decide +kernel
theorem dX8_clauseNumber_29 : decode cX8_clauseNumber 29 = .ok (.getfield 89, 3) := by decide +kernel
theorem dX8_clauseNumber_32 : decode cX8_clauseNumber 32 = .ok (.if_icmp .ge 63, 3) := by decide +kernel
theorem dX8_clauseNumber_35 : decode cX8_clauseNumber 35 = .ok (.aload_n 0, 1) := by decide +kernel
theorem dX8_clauseNumber_36 : decode cX8_clauseNumber 36 = .ok (.getfield 7, 3) := by decide +kernel
theorem dX8_clauseNumber_39 : decode cX8_clauseNumber 39 = .ok (.aload_n 0, 1) := by decide +kernel
theorem dX8_clauseNumber_40 : decode cX8_clauseNumber 40 = .ok (.getfield 93, 3) := by decide +kernel
theorem dX8_clauseNumber_43 : decode cX8_clauseNumber 43 = .ok (.iaload, 1) := by decide +kernel
theorem dX8_clauseNumber_44 : decode cX8_clauseNumber 44 = .ok (.invokestatic 103, 3) := by decide +kernel
theorem dX8_clauseNumber_47 : decode cX8_clauseNumber 47 = .ok (.ifCond .eq 48, 3) := by decide +kernel
theorem dX8_clauseNumber_50 : decode cX8_clauseNumber 50 = .ok (.aload_n 0, 1) := by decide +kernel
theorem dX8_clauseNumber_51 : decode cX8_clauseNumber 51 = .ok (.getfield 93, 3) := by decide +kernel
theorem dX8_clauseNumber_54 : decode cX8_clauseNumber 54 = .ok (.iload_n 1, 1) := by decide +kernel
theorem dX8_clauseNumber_55 : decode cX8_clauseNumber 55 = .ok (.isub, 1) := by decide +kernel
theorem dX8_clauseNumber_56 : decode cX8_clauseNumber 56 = .ok (.iconst 3, 1) := by decide +kernel
theorem dX8_clauseNumber_57 : decode cX8_clauseNumber 57 = .ok (.if_icmp .ge 23, 3) := by decide +kernel
theorem dX8_clauseNumber_60 : decode cX8_clauseNumber 60 = .ok (.bipush 10, 2) := by decide +kernel
theorem dX8_clauseNumber_62 : decode cX8_clauseNumber 62 = .ok (.iload_n 2, 1) := by decide +kernel
theorem dX8_clauseNumber_63 : decode cX8_clauseNumber 63 = .ok (.imul, 1) := by decide +kernel
theorem dX8_clauseNumber_64 : decode cX8_clauseNumber 64 = .ok (.aload_n 0, 1) := by decide +kernel
theorem dX8_clauseNumber_65 : decode cX8_clauseNumber 65 = .ok (.getfield 7, 3) := by decide +kernel
theorem dX8_clauseNumber_68 : decode cX8_clauseNumber 68 = .ok (.aload_n 0, 1) := by decide +kernel
theorem dX8_clauseNumber_69 : decode cX8_clauseNumber 69 = .ok (.getfield 93, 3) := by decide +kernel
theorem dX8_clauseNumber_72 : decode cX8_clauseNumber 72 = .ok (.iaload, 1) := by decide +kernel
theorem dX8_clauseNumber_73 : decode cX8_clauseNumber 73 = .ok (.iadd, 1) := by decide +kernel
theorem dX8_clauseNumber_74 : decode cX8_clauseNumber 74 = .ok (.bipush 48, 2) := by decide +kernel
theorem dX8_clauseNumber_76 : decode cX8_clauseNumber 76 = .ok (.isub, 1) := by decide +kernel
theorem dX8_clauseNumber_77 : decode cX8_clauseNumber 77 = .ok (.goto 4, 3) := by decide +kernel
theorem dX8_clauseNumber_80 : decode cX8_clauseNumber 80 = .ok (.iload_n 2, 1) := by decide +kernel
theorem dX8_clauseNumber_81 : decode cX8_clauseNumber 81 = .ok (.istore_n 2, 1) := by decide +kernel
theorem dX8_clauseNumber_82 : decode cX8_clauseNumber 82 = .ok (.aload_n 0, 1) := by decide +kernel
theorem dX8_clauseNumber_83 : decode cX8_clauseNumber 83 = .ok (.dup, 1) := by decide +kernel
theorem dX8_clauseNumber_84 : decode cX8_clauseNumber 84 = .ok (.getfield 93, 3) := by decide +kernel
theorem dX8_clauseNumber_87 : decode cX8_clauseNumber 87 = .ok (.iconst 1, 1) := by decide +kernel
theorem dX8_clauseNumber_88 : decode cX8_clauseNumber 88 = .ok (.iadd, 1) := by decide +kernel
theorem dX8_clauseNumber_89 : decode cX8_clauseNumber 89 = .ok (.putfield 93, 3) := by decide +kernel
theorem dX8_clauseNumber_92 : decode cX8_clauseNumber 92 = .ok (.goto (-68), 3) := by decide +kernel
theorem dX8_clauseNumber_95 : decode cX8_clauseNumber 95 = .ok (.aload_n 0, 1) := by decide +kernel
theorem dX8_clauseNumber_96 : decode cX8_clauseNumber 96 = .ok (.getfield 93, 3) := by decide +kernel
theorem dX8_clauseNumber_99 : decode cX8_clauseNumber 99 = .ok (.iload_n 1, 1) := by decide +kernel
theorem dX8_clauseNumber_100 : decode cX8_clauseNumber 100 = .ok (.isub, 1) := by decide +kernel
theorem dX8_clauseNumber_101 : decode cX8_clauseNumber 101 = .ok (.iconst 2, 1) := by decide +kernel
theorem dX8_clauseNumber_102 : decode cX8_clauseNumber 102 = .ok (.if_icmp .gt 9, 3) := by decide +kernel
theorem dX8_clauseNumber_105 : decode cX8_clauseNumber 105 = .ok (.iload_n 2, 1) := by decide +kernel
theorem dX8_clauseNumber_106 : decode cX8_clauseNumber 106 = .ok (.bipush 15, 2) := by decide +kernel
theorem dX8_clauseNumber_108 : decode cX8_clauseNumber 108 = .ok (.if_icmp .le 13, 3) := by decide +kernel
theorem dX8_clauseNumber_111 : decode cX8_clauseNumber 111 = .ok (.aload_n 0, 1) := by decide +kernel
theorem dX8_clauseNumber_112 : decode cX8_clauseNumber 112 = .ok (.iload_n 1, 1) := by decide +kernel
theorem dX8_clauseNumber_113 : decode cX8_clauseNumber 113 = .ok (.putfield 93, 3) := by decide +kernel
theorem dX8_clauseNumber_116 : decode cX8_clauseNumber 116 = .ok (.aload_n 0, 1) := by decide +kernel
theorem dX8_clauseNumber_117 : decode cX8_clauseNumber 117 = .ok (.iconst 2, 1) := by decide +kernel
theorem dX8_clauseNumber_118 : decode cX8_clauseNumber 118 = .ok (.invokevirtual 107, 3) := by decide +kernel
theorem dX8_clauseNumber_121 : decode cX8_clauseNumber 121 = .ok (.iload_n 2, 1) := by decide +kernel
theorem dX8_clauseNumber_122 : decode cX8_clauseNumber 122 = .ok (.ireturn, 1) := by decide +kernel
theorem dX8_opens_0 : decode cX8_opens 0 = .ok (.aload_n 0, 1) := by decide +kernel
theorem dX8_opens_1 : decode cX8_opens 1 = .ok (.getfield 111, 3) := by decide +kernel
theorem dX8_opens_4 : decode cX8_opens 4 = .ok (.bipush 16, 2) := by decide +kernel
theorem dX8_opens_6 : decode cX8_opens 6 = .ok (.if_icmp .ne 9, 3) := by decide +kernel
theorem dX8_opens_9 : decode cX8_opens 9 = .ok (.aload_n 0, 1) := by decide +kernel
theorem dX8_opens_10 : decode cX8_opens 10 = .ok (.iconst 3, 1) := by decide +kernel
theorem dX8_opens_11 : decode cX8_opens 11 = .ok (.invokevirtual 107, 3) := by decide +kernel
theorem dX8_opens_14 : decode cX8_opens 14 = .ok (.return_, 1) := by decide +kernel
theorem dX8_opens_15 : decode cX8_opens 15 = .ok (.aload_n 0, 1) := by decide +kernel
theorem dX8_opens_16 : decode cX8_opens 16 = .ok (.getfield 111, 3) := by decide +kernel
theorem dX8_opens_19 : decode cX8_opens 19 = .ok (.istore_n 2, 1) := by decide +kernel
theorem dX8_opens_20 : decode cX8_opens 20 = .ok (.aload_n 0, 1) := by decide +kernel
theorem dX8_opens_21 : decode cX8_opens 21 = .ok (.dup, 1) := by decide +kernel
theorem dX8_opens_22 : decode cX8_opens 22 = .ok (.getfield 93, 3) := by decide +kernel
theorem dX8_opens_25 : decode cX8_opens 25 = .ok (.iconst 1, 1) := by decide +kernel
theorem dX8_opens_26 : decode cX8_opens 26 = .ok (.iadd, 1) := by decide +kernel
theorem dX8_opens_27 : decode cX8_opens 27 = .ok (.putfield 93, 3) := by decide +kernel
theorem dX8_opens_30 : decode cX8_opens 30 = .ok (.aload_n 0, 1) := by decide +kernel
theorem dX8_opens_31 : decode cX8_opens 31 = .ok (.getfield 38, 3) := by decide +kernel
theorem dX8_opens_34 : decode cX8_opens 34 = .ok (.iload_n 2, 1) := by decide +kernel
theorem dX8_opens_35 : decode cX8_opens 35 = .ok (.iload_n 1, 1) := by decide +kernel
theorem dX8_opens_36 : decode cX8_opens 36 = .ok (.iastore, 1) := by decide +kernel
theorem dX8_opens_37 : decode cX8_opens 37 = .ok (.aload_n 0, 1) := by decide +kernel
theorem dX8_opens_38 : decode cX8_opens 38 = .ok (.getfield 41, 3) := by decide +kernel
theorem dX8_opens_41 : decode cX8_opens 41 = .ok (.iload_n 2, 1) := by decide +kernel
theorem dX8_opens_42 : decode cX8_opens 42 = .ok (.iconst 0, 1) := by decide +kernel
theorem dX8_opens_43 : decode cX8_opens 43 = .ok (.iastore, 1) := by decide +kernel
theorem dX8_opens_44 : decode cX8_opens 44 = .ok (.aload_n 0, 1) := by decide +kernel
theorem dX8_opens_45 : decode cX8_opens 45 = .ok (.getfield 44, 3) := by decide +kernel
theorem dX8_opens_48 : decode cX8_opens 48 = .ok (.iload_n 2, 1) := by decide +kernel
theorem dX8_opens_49 : decode cX8_opens 49 = .ok (.iconst 0, 1) := by decide +kernel
theorem dX8_opens_50 : decode cX8_opens 50 = .ok (.iastore, 1) := by decide +kernel
theorem dX8_opens_51 : decode cX8_opens 51 = .ok (.aload_n 0, 1) := by decide +kernel
theorem dX8_opens_52 : decode cX8_opens 52 = .ok (.getfield 47, 3) := by decide +kernel
theorem dX8_opens_55 : decode cX8_opens 55 = .ok (.iload_n 2, 1) := by decide +kernel
theorem dX8_opens_56 : decode cX8_opens 56 = .ok (.iconst 0, 1) := by decide +kernel
theorem dX8_opens_57 : decode cX8_opens 57 = .ok (.iastore, 1) := by decide +kernel
theorem dX8_opens_58 : decode cX8_opens 58 = .ok (.aload_n 0, 1) := by decide +kernel
theorem dX8_opens_59 : decode cX8_opens 59 = .ok (.dup, 1) := by decide +kernel
theorem dX8_opens_60 : decode cX8_opens 60 = .ok (.getfield 111, 3) := by decide +kernel
theorem dX8_opens_63 : decode cX8_opens 63 = .ok (.iconst 1, 1) := by decide +kernel
theorem dX8_opens_64 : decode cX8_opens 64 = .ok (.iadd, 1) := by decide +kernel
theorem dX8_opens_65 : decode cX8_opens 65 = .ok (.putfield 111, 3) := by decide +kernel
theorem dX8_opens_68 : decode cX8_opens 68 = .ok (.aload_n 0, 1) := by decide +kernel
theorem dX8_opens_69 : decode cX8_opens 69 = .ok (.getfield 96, 3) := by decide +kernel
theorem dX8_opens_72 : decode cX8_opens 72 = .ok (.ifCond .ne 160, 3) := by decide +kernel
theorem dX8_opens_75 : decode cX8_opens 75 = .ok (.aload_n 0, 1) := by decide +kernel
theorem dX8_opens_76 : decode cX8_opens 76 = .ok (.invokevirtual 99, 3) := by decide +kernel
theorem dX8_opens_79 : decode cX8_opens 79 = .ok (.bipush 43, 2) := by decide +kernel
theorem dX8_opens_81 : decode cX8_opens 81 = .ok (.if_icmp .eq 12, 3) := by decide +kernel
theorem dX8_opens_84 : decode cX8_opens 84 = .ok (.aload_n 0, 1) := by decide +kernel
theorem dX8_opens_85 : decode cX8_opens 85 = .ok (.invokevirtual 99, 3) := by decide +kernel
theorem dX8_opens_88 : decode cX8_opens 88 = .ok (.bipush 45, 2) := by decide +kernel
theorem dX8_opens_90 : decode cX8_opens 90 = .ok (.if_icmp .ne 142, 3) := by decide +kernel
theorem dX8_opens_93 : decode cX8_opens 93 = .ok (.aload_n 0, 1) := by decide +kernel
theorem dX8_opens_94 : decode cX8_opens 94 = .ok (.getfield 7, 3) := by decide +kernel
theorem dX8_opens_97 : decode cX8_opens 97 = .ok (.aload_n 0, 1) := by decide +kernel
theorem dX8_opens_98 : decode cX8_opens 98 = .ok (.getfield 93, 3) := by decide +kernel
theorem dX8_opens_101 : decode cX8_opens 101 = .ok (.iaload, 1) := by decide +kernel
theorem dX8_opens_102 : decode cX8_opens 102 = .ok (.bipush 43, 2) := by decide +kernel
theorem dX8_opens_104 : decode cX8_opens 104 = .ok (.if_icmp .ne 7, 3) := by decide +kernel
theorem dX8_opens_107 : decode cX8_opens 107 = .ok (.iconst 1, 1) := by decide +kernel
theorem dX8_opens_108 : decode cX8_opens 108 = .ok (.goto 4, 3) := by decide +kernel
theorem dX8_opens_111 : decode cX8_opens 111 = .ok (.iconst 0, 1) := by decide +kernel
theorem dX8_opens_112 : decode cX8_opens 112 = .ok (.istore_n 3, 1) := by decide +kernel
theorem dX8_opens_113 : decode cX8_opens 113 = .ok (.aload_n 0, 1) := by decide +kernel
theorem dX8_opens_114 : decode cX8_opens 114 = .ok (.dup, 1) := by decide +kernel
theorem dX8_opens_115 : decode cX8_opens 115 = .ok (.getfield 93, 3) := by decide +kernel
theorem dX8_opens_118 : decode cX8_opens 118 = .ok (.iconst 1, 1) := by decide +kernel
theorem dX8_opens_119 : decode cX8_opens 119 = .ok (.iadd, 1) := by decide +kernel
theorem dX8_opens_120 : decode cX8_opens 120 = .ok (.putfield 93, 3) := by decide +kernel
theorem dX8_opens_123 : decode cX8_opens 123 = .ok (.aload_n 0, 1) := by decide +kernel
theorem dX8_opens_124 : decode cX8_opens 124 = .ok (.iconst 5, 1) := by decide +kernel
theorem dX8_opens_125 : decode cX8_opens 125 = .ok (.invokevirtual 114, 3) := by decide +kernel
theorem dX8_opens_128 : decode cX8_opens 128 = .ok (.istore 4, 2) := by decide +kernel
theorem dX8_opens_130 : decode cX8_opens 130 = .ok (.aload_n 0, 1) := by decide +kernel
theorem dX8_opens_131 : decode cX8_opens 131 = .ok (.getfield 96, 3) := by decide +kernel
theorem dX8_opens_134 : decode cX8_opens 134 = .ok (.ifCond .ne 39, 3) := by decide +kernel
theorem dX8_opens_137 : decode cX8_opens 137 = .ok (.aload_n 0, 1) := by decide +kernel
theorem dX8_opens_138 : decode cX8_opens 138 = .ok (.getfield 41, 3) := by decide +kernel
theorem dX8_opens_141 : decode cX8_opens 141 = .ok (.iload_n 2, 1) := by decide +kernel
theorem dX8_opens_142 : decode cX8_opens 142 = .ok (.iaload, 1) := by decide +kernel
theorem dX8_opens_143 : decode cX8_opens 143 = .ok (.aload_n 0, 1) := by decide +kernel
theorem dX8_opens_144 : decode cX8_opens 144 = .ok (.getfield 44, 3) := by decide +kernel
theorem dX8_opens_147 : decode cX8_opens 147 = .ok (.iload_n 2, 1) := by decide +kernel
theorem dX8_opens_148 : decode cX8_opens 148 = .ok (.iaload, 1) := by decide +kernel
theorem dX8_opens_149 : decode cX8_opens 149 = .ok (.ior, 1) := by decide +kernel
theorem dX8_opens_150 : decode cX8_opens 150 = .ok (.iload 4, 2) := by decide +kernel
theorem dX8_opens_152 : decode cX8_opens 152 = .ok (.invokestatic 118, 3) := by decide +kernel
theorem dX8_opens_155 : decode cX8_opens 155 = .ok (.ifCond .eq 18, 3) := by decide +kernel
theorem dX8_opens_158 : decode cX8_opens 158 = .ok (.aload_n 0, 1) := by decide +kernel
theorem dX8_opens_159 : decode cX8_opens 159 = .ok (.dup, 1) := by decide +kernel
theorem dX8_opens_160 : decode cX8_opens 160 = .ok (.getfield 93, 3) := by decide +kernel
theorem dX8_opens_163 : decode cX8_opens 163 = .ok (.iconst 1, 1) := by decide +kernel
theorem dX8_opens_164 : decode cX8_opens 164 = .ok (.isub, 1) := by decide +kernel
theorem dX8_opens_165 : decode cX8_opens 165 = .ok (.putfield 93, 3) := by decide +kernel
theorem dX8_opens_168 : decode cX8_opens 168 = .ok (.aload_n 0, 1) := by decide +kernel
theorem dX8_opens_169 : decode cX8_opens 169 = .ok (.iconst 4, 1) := by decide +kernel
theorem dX8_opens_170 : decode cX8_opens 170 = .ok (.invokevirtual 107, 3) := by decide +kernel
theorem dX8_opens_173 : decode cX8_opens 173 = .ok (.aload_n 0, 1) := by decide +kernel
theorem dX8_opens_174 : decode cX8_opens 174 = .ok (.getfield 41, 3) := by decide +kernel
theorem dX8_opens_177 : decode cX8_opens 177 = .ok (.iload_n 2, 1) := by decide +kernel
theorem dX8_opens_178 : decode cX8_opens 178 = .ok (.dup2, 1) := by decide +kernel
theorem dX8_opens_179 : decode cX8_opens 179 = .ok (.iaload, 1) := by decide +kernel
theorem dX8_opens_180 : decode cX8_opens 180 = .ok (.aload_n 0, 1) := by decide +kernel
theorem dX8_opens_181 : decode cX8_opens 181 = .ok (.getfield 96, 3) := by decide +kernel
theorem dX8_opens_184 : decode cX8_opens 184 = .ok (.ifCond .ne 14, 3) := by decide +kernel
theorem dX8_opens_187 : decode cX8_opens 187 = .ok (.iload_n 3, 1) := by decide +kernel
theorem dX8_opens_188 : decode cX8_opens 188 = .ok (.ifCond .eq 10, 3) := by decide +kernel
theorem dX8_opens_191 : decode cX8_opens 191 = .ok (.iconst 1, 1) := by decide +kernel
theorem dX8_opens_192 : decode cX8_opens 192 = .ok (.iload 4, 2) := by decide +kernel
theorem dX8_opens_194 : decode cX8_opens 194 = .ok (.ishl, 1) := by decide +kernel
theorem dX8_opens_195 : decode cX8_opens 195 = .ok (.goto 4, 3) := by decide +kernel
theorem dX8_opens_198 : decode cX8_opens 198 = .ok (.iconst 0, 1) := by decide +kernel
theorem dX8_opens_199 : decode cX8_opens 199 = .ok (.ior, 1) := by decide +kernel
theorem dX8_opens_200 : decode cX8_opens 200 = .ok (.iastore, 1) := by decide +kernel
theorem dX8_opens_201 : decode cX8_opens 201 = .ok (.aload_n 0, 1) := by decide +kernel
theorem dX8_opens_202 : decode cX8_opens 202 = .ok (.getfield 44, 3) := by decide +kernel
theorem dX8_opens_205 : decode cX8_opens 205 = .ok (.iload_n 2, 1) := by decide +kernel
theorem dX8_opens_206 : decode cX8_opens 206 = .ok (.dup2, 1) := by decide +kernel
theorem dX8_opens_207 : decode cX8_opens 207 = .ok (.iaload, 1) := by decide +kernel
theorem dX8_opens_208 : decode cX8_opens 208 = .ok (.aload_n 0, 1) := by decide +kernel
theorem dX8_opens_209 : decode cX8_opens 209 = .ok (.getfield 96, 3) := by decide +kernel
theorem dX8_opens_212 : decode cX8_opens 212 = .ok (.ifCond .ne 14, 3) := by decide +kernel
theorem dX8_opens_215 : decode cX8_opens 215 = .ok (.iload_n 3, 1) := by decide +kernel
theorem dX8_opens_216 : decode cX8_opens 216 = .ok (.ifCond .ne 10, 3) := by decide +kernel
theorem dX8_opens_219 : decode cX8_opens 219 = .ok (.iconst 1, 1) := by decide +kernel
theorem dX8_opens_220 : decode cX8_opens 220 = .ok (.iload 4, 2) := by decide +kernel
theorem dX8_opens_222 : decode cX8_opens 222 = .ok (.ishl, 1) := by decide +kernel
theorem dX8_opens_223 : decode cX8_opens 223 = .ok (.goto 4, 3) := by decide +kernel
theorem dX8_opens_226 : decode cX8_opens 226 = .ok (.iconst 0, 1) := by decide +kernel
theorem dX8_opens_227 : decode cX8_opens 227 = .ok (.ior, 1) := by decide +kernel
theorem dX8_opens_228 : decode cX8_opens 228 = .ok (.iastore, 1) := by decide +kernel
theorem dX8_opens_229 : decode cX8_opens 229 = .ok (.goto (-161), 3) := by decide +kernel
theorem dX8_opens_232 : decode cX8_opens 232 = .ok (.aload_n 0, 1) := by decide +kernel
theorem dX8_opens_233 : decode cX8_opens 233 = .ok (.getfield 96, 3) := by decide +kernel
theorem dX8_opens_236 : decode cX8_opens 236 = .ok (.ifCond .ne 29, 3) := by decide +kernel
theorem dX8_opens_239 : decode cX8_opens 239 = .ok (.aload_n 0, 1) := by decide +kernel
theorem dX8_opens_240 : decode cX8_opens 240 = .ok (.invokevirtual 99, 3) := by decide +kernel
theorem dX8_opens_243 : decode cX8_opens 243 = .ok (.bipush 42, 2) := by decide +kernel
theorem dX8_opens_245 : decode cX8_opens 245 = .ok (.if_icmp .ne 20, 3) := by decide +kernel
theorem dX8_opens_248 : decode cX8_opens 248 = .ok (.aload_n 0, 1) := by decide +kernel
theorem dX8_opens_249 : decode cX8_opens 249 = .ok (.getfield 47, 3) := by decide +kernel
theorem dX8_opens_252 : decode cX8_opens 252 = .ok (.iload_n 2, 1) := by decide +kernel
theorem dX8_opens_253 : decode cX8_opens 253 = .ok (.iconst 1, 1) := by decide +kernel
theorem dX8_opens_254 : decode cX8_opens 254 = .ok (.iastore, 1) := by decide +kernel
theorem dX8_opens_255 : decode cX8_opens 255 = .ok (.aload_n 0, 1) := by decide +kernel
theorem dX8_opens_256 : decode cX8_opens 256 = .ok (.dup, 1) := by decide +kernel
theorem dX8_opens_257 : decode cX8_opens 257 = .ok (.getfield 93, 3) := by decide +kernel
theorem dX8_opens_260 : decode cX8_opens 260 = .ok (.iconst 1, 1) := by decide +kernel
theorem dX8_opens_261 : decode cX8_opens 261 = .ok (.iadd, 1) := by decide +kernel
theorem dX8_opens_262 : decode cX8_opens 262 = .ok (.putfield 93, 3) := by decide +kernel
theorem dX8_opens_265 : decode cX8_opens 265 = .ok (.aload_n 0, 1) := by decide +kernel
theorem dX8_opens_266 : decode cX8_opens 266 = .ok (.getfield 96, 3) := by decide +kernel
theorem dX8_opens_269 : decode cX8_opens 269 = .ok (.ifCond .ne 30, 3) := by decide +kernel
theorem dX8_opens_272 : decode cX8_opens 272 = .ok (.aload_n 0, 1) := by decide +kernel
theorem dX8_opens_273 : decode cX8_opens 273 = .ok (.invokevirtual 99, 3) := by decide +kernel
theorem dX8_opens_276 : decode cX8_opens 276 = .ok (.bipush 40, 2) := by decide +kernel
theorem dX8_opens_278 : decode cX8_opens 278 = .ok (.if_icmp .ne 16, 3) := by decide +kernel
theorem dX8_opens_281 : decode cX8_opens 281 = .ok (.aload_n 0, 1) := by decide +kernel
theorem dX8_opens_282 : decode cX8_opens 282 = .ok (.dup, 1) := by decide +kernel
theorem dX8_opens_283 : decode cX8_opens 283 = .ok (.getfield 93, 3) := by decide +kernel
theorem dX8_opens_286 : decode cX8_opens 286 = .ok (.iconst 1, 1) := by decide +kernel
theorem dX8_opens_287 : decode cX8_opens 287 = .ok (.iadd, 1) := by decide +kernel
theorem dX8_opens_288 : decode cX8_opens 288 = .ok (.putfield 93, 3) := by decide +kernel
theorem dX8_opens_291 : decode cX8_opens 291 = .ok (.goto 8, 3) := by decide +kernel
theorem dX8_opens_294 : decode cX8_opens 294 = .ok (.aload_n 0, 1) := by decide +kernel
theorem dX8_opens_295 : decode cX8_opens 295 = .ok (.iconst 1, 1) := by decide +kernel
theorem dX8_opens_296 : decode cX8_opens 296 = .ok (.invokevirtual 107, 3) := by decide +kernel
theorem dX8_opens_299 : decode cX8_opens 299 = .ok (.return_, 1) := by decide +kernel
def FX8_in (σ : SS) (a0 : Int32) (a1 : Int32) (a2 : Int32) : Option (Int32) :=
  if a0 < a1 then some (0 : Int32)
    else if a2 < a0 then some (0 : Int32)
    else some (1 : Int32)
set_option maxRecDepth 100000 in
set_option maxHeartbeats 4000000 in
theorem c_X8_in {σ : SS} {a0 : Int32} {a1 : Int32} {a2 : Int32} {r : Int32} (hf : FX8_in σ a0 a1 a2 = some r) : Mcw wsM yX8_in cX8_in 3 (some .boolean) ({ frames := 0, cells := 0, slots := 0, locals := 0 } : Room) (fun g => [.int a0, .int a1, .int a2]) σ (fun g => some (.int r)) σ := by
  refine w_enter wsM_fix (by decide) (fun g => Nat.le_of_ble_eq_true rfl) ?_
  intro X g hX
  replace hX : Okw wsM X g cX8_in 3 RX8 (some .boolean) ({ frames := 0, cells := 0, slots := 0, locals := 0 } : Room) (fun g => some (.int r)) σ := hX
  have h0 := hX.1
  show Vx X g.1 3 (wsM g σ) 0 [(0, .int a0), (1, .int a1), (2, .int a2)] []
  rw [FX8_in] at hf
  refine vx_iload_n h0 dX8_in_0 rfl ?_
  refine vx_iload_n h0 dX8_in_1 rfl ?_
  refine vx_icmp_lt (tgt := 14) h0 dX8_in_2 (by decide) (fun c1 => ?_) (fun c1 => ?_)
  · replace hf := (if_pos c1).symm.trans hf
    refine vx_iconst (v := (0 : Int32)) h0 dX8_in_14 (by decide) ?_
    exact w_zretP hX hf rfl dX8_in_15
  · replace hf := (if_neg c1).symm.trans hf
    refine vx_iload_n h0 dX8_in_5 rfl ?_
    refine vx_iload_n h0 dX8_in_6 rfl ?_
    refine vx_icmp_gt (tgt := 14) h0 dX8_in_7 (by decide) (fun c3 => ?_) (fun c3 => ?_)
    · replace hf := (if_pos c3).symm.trans hf
      refine vx_iconst (v := (0 : Int32)) h0 dX8_in_14 (by decide) ?_
      exact w_zretP hX hf rfl dX8_in_15
    · replace hf := (if_neg c3).symm.trans hf
      refine vx_iconst (v := (1 : Int32)) h0 dX8_in_10 (by decide) ?_
      refine vx_goto (tgt := 15) h0 dX8_in_11 (by decide) ?_
      exact w_zretP hX hf rfl dX8_in_15
def FX8_has (σ : SS) (a0 : Int32) (a1 : Int32) : Option (Int32) :=
  if ((jshr a0 a1) &&& (1 : Int32)) = (1 : Int32) then some (1 : Int32)
    else some (0 : Int32)
set_option maxRecDepth 100000 in
set_option maxHeartbeats 4000000 in
theorem c_X8_has {σ : SS} {a0 : Int32} {a1 : Int32} {r : Int32} (hf : FX8_has σ a0 a1 = some r) : Mcw wsM yX8_has cX8_has 2 (some .boolean) ({ frames := 0, cells := 0, slots := 0, locals := 0 } : Room) (fun g => [.int a0, .int a1]) σ (fun g => some (.int r)) σ := by
  refine w_enter wsM_fix (by decide) (fun g => Nat.le_of_ble_eq_true rfl) ?_
  intro X g hX
  replace hX : Okw wsM X g cX8_has 2 RX8 (some .boolean) ({ frames := 0, cells := 0, slots := 0, locals := 0 } : Room) (fun g => some (.int r)) σ := hX
  have h0 := hX.1
  show Vx X g.1 2 (wsM g σ) 0 [(0, .int a0), (1, .int a1)] []
  rw [FX8_has] at hf
  refine vx_iload_n h0 dX8_has_0 rfl ?_
  refine vx_iload_n h0 dX8_has_1 rfl ?_
  refine vx_ishr h0 dX8_has_2 ?_
  refine vx_iconst (v := (1 : Int32)) h0 dX8_has_3 (by decide) ?_
  refine vx_iand h0 dX8_has_4 ?_
  refine vx_iconst (v := (1 : Int32)) h0 dX8_has_5 (by decide) ?_
  refine vx_icmp_ne (tgt := 13) h0 dX8_has_6 (by decide) (fun c1 => ?_) (fun c1 => ?_)
  · replace hf := (if_neg c1).symm.trans hf
    refine vx_iconst (v := (0 : Int32)) h0 dX8_has_13 (by decide) ?_
    exact w_zretP hX hf rfl dX8_has_14
  · replace hf := (if_pos c1).symm.trans hf
    refine vx_iconst (v := (1 : Int32)) h0 dX8_has_9 (by decide) ?_
    refine vx_goto (tgt := 14) h0 dX8_has_10 (by decide) ?_
    exact w_zretP hX hf rfl dX8_has_14
def FX8_ones_L4 (σ : SS) (v0 : Int32) (k : Int32 → Option (Int32)) : Nat → Int32 → Int32 → Option (Int32)
  | 0, _, _ => none
  | n + 1, v1, v2 => if (16 : Int32) ≤ v2 then k v1
    else FX8_ones_L4 σ v0 k n (v1 + ((jshr v0 v2) &&& (1 : Int32))) (v2 + (1 : Int32))
set_option maxRecDepth 100000 in
set_option maxHeartbeats 4000000 in
theorem PX8_ones_L4 {X : Bx} {g : Gx} {r : Int32} {σ : SS} (hX : Okw wsM X g cX8_ones 3 RX8 (some .int) ({ frames := 0, cells := 0, slots := 0, locals := 0 } : Room) (fun g => some (.int r)) σ) {v0 : Int32} {k : Int32 → Option (Int32)} (hk : ∀ (v1 : Int32), k v1 = some r → Vx X g.1 3 (wsM g σ) 24 [(1, .int v1)] []) : ∀ (n : Nat) (v1 : Int32) (v2 : Int32), FX8_ones_L4 σ v0 k n v1 v2 = some r → Vx X g.1 3 (wsM g σ) 4 [(0, .int v0), (1, .int v1), (2, .int v2)] [] := by
  have h0 := hX.1
  intro n
  induction n with
  | zero =>
    intro v1 v2 hf
    rw [FX8_ones_L4] at hf
    cases hf
  | succ n ih =>
    intro v1 v2 hf
    rw [FX8_ones_L4] at hf
    refine vx_iload_n h0 dX8_ones_4 rfl ?_
    refine vx_bipush (v := (16 : Int32)) h0 dX8_ones_5 (by decide) ?_
    refine vx_icmp_ge (tgt := 24) h0 dX8_ones_7 (by decide) (fun c1 => ?_) (fun c1 => ?_)
    · replace hf := (if_pos c1).symm.trans hf
      refine vx_sub [1] rfl ?_
      exact hk _ hf
    · replace hf := (if_neg c1).symm.trans hf
      refine vx_iload_n h0 dX8_ones_10 rfl ?_
      refine vx_iload_n h0 dX8_ones_11 rfl ?_
      refine vx_iload_n h0 dX8_ones_12 rfl ?_
      refine vx_ishr h0 dX8_ones_13 ?_
      refine vx_iconst (v := (1 : Int32)) h0 dX8_ones_14 (by decide) ?_
      refine vx_iand h0 dX8_ones_15 ?_
      refine vx_iadd h0 dX8_ones_16 ?_
      refine vx_istore_n (ls' := [(1, .int (v1 + ((jshr v0 v2) &&& (1 : Int32)))), (0, .int v0), (2, .int v2)]) h0 dX8_ones_17 (by decide) rfl ?_
      refine vx_iinc (q := 2) (v := (v2 + (1 : Int32))) (ls' := [(2, .int (v2 + (1 : Int32))), (1, .int (v1 + ((jshr v0 v2) &&& (1 : Int32)))), (0, .int v0)]) h0 dX8_ones_18 rfl rfl (by decide) rfl ?_
      refine vx_goto (tgt := 4) h0 dX8_ones_21 (by decide) ?_
      refine vx_sub [2, 1, 0] rfl ?_
      exact ih _ _ hf
def FX8_ones (σ : SS) (a0 : Int32) : Option (Int32) :=
  FX8_ones_L4 σ a0 (fun u2 => some u2) 5000 (0 : Int32) (0 : Int32)
set_option maxRecDepth 100000 in
set_option maxHeartbeats 4000000 in
theorem c_X8_ones {σ : SS} {a0 : Int32} {r : Int32} (hf : FX8_ones σ a0 = some r) : Mcw wsM yX8_ones cX8_ones 3 (some .int) ({ frames := 0, cells := 0, slots := 0, locals := 0 } : Room) (fun g => [.int a0]) σ (fun g => some (.int r)) σ := by
  refine w_enter wsM_fix (by decide) (fun g => Nat.le_of_ble_eq_true rfl) ?_
  intro X g hX
  replace hX : Okw wsM X g cX8_ones 3 RX8 (some .int) ({ frames := 0, cells := 0, slots := 0, locals := 0 } : Room) (fun g => some (.int r)) σ := hX
  have h0 := hX.1
  show Vx X g.1 3 (wsM g σ) 0 [(0, .int a0)] []
  rw [FX8_ones] at hf
  refine vx_iconst (v := (0 : Int32)) h0 dX8_ones_0 (by decide) ?_
  refine vx_istore_n (ls' := [(1, .int (0 : Int32)), (0, .int a0)]) h0 dX8_ones_1 (by decide) rfl ?_
  refine vx_iconst (v := (0 : Int32)) h0 dX8_ones_2 (by decide) ?_
  refine vx_istore_n (ls' := [(2, .int (0 : Int32)), (1, .int (0 : Int32)), (0, .int a0)]) h0 dX8_ones_3 (by decide) rfl ?_
  refine vx_sub [2, 1, 0] rfl ?_
  refine PX8_ones_L4 hX (fun u2 hf => ?_) _ _ _ hf
  refine vx_iload_n h0 dX8_ones_24 rfl ?_
  exact w_iretP hX hf dX8_ones_25
def FX8_isClause (σ : SS) (a0 : Int32) : Option (Int32) :=
  ob (FX8_in σ a0 (0 : Int32) ((gI σ 3) - (1 : Int32))) (fun r2 => gd (isb r2) (some r2))
set_option maxRecDepth 100000 in
set_option maxHeartbeats 4000000 in
theorem c_X8_isClause {σ : SS} {a0 : Int32} {r : Int32} (hf : FX8_isClause σ a0 = some r) : Mcw wsM yX8_isClause cX8_isClause 2 (some .boolean) ({ frames := 1, cells := 0, slots := 0, locals := 22 } : Room) (fun g => [.ref (g.2.1 0), .int a0]) σ (fun g => some (.int r)) σ := by
  refine w_enter wsM_fix (by decide) (fun g => Nat.le_of_ble_eq_true rfl) ?_
  intro X g hX
  replace hX : Okw wsM X g cX8_isClause 2 RX8 (some .boolean) ({ frames := 1, cells := 0, slots := 0, locals := 22 } : Room) (fun g => some (.int r)) σ := hX
  have h0 := hX.1
  show Vx X g.1 2 (wsM g σ) 0 [(0, .ref (g.2.1 0)), (1, .int a0)] []
  rw [FX8_isClause] at hf
  refine vx_iload_n h0 dX8_isClause_0 rfl ?_
  refine vx_iconst (v := (0 : Int32)) h0 dX8_isClause_1 (by decide) ?_
  refine vx_aload_n h0 dX8_isClause_2 rfl ?_
  refine mg_0_3 hX q787 dX8_isClause_3 ?_
  refine vx_iconst (v := (1 : Int32)) h0 dX8_isClause_6 (by decide) ?_
  refine vx_isub h0 dX8_isClause_7 ?_
  obtain ⟨r2, h1, hf⟩ := ob_some hf
  refine w_callS (st := []) hX (c_X8_in h1) ce_X8_in q895 ⟨rfl, rfl⟩ ⟨by decide, by decide⟩ rfl rfl rfl (Nat.le_of_ble_eq_true rfl) dX8_isClause_8 ?_
  show Vx X g.1 2 (wsM g σ) 11 [(0, .ref (g.2.1 0)), (1, .int a0)] [.int r2]
  obtain ⟨b3, hf⟩ := gd_some hf
  exact w_zretP hX hf b3 dX8_isClause_11
def FX8_feed (σ : SS) (a0 : Int32) : Option (Int32 × SS) :=
  ob (FX8_in σ a0 (0 : Int32) (255 : Int32)) (fun r2 => if r2 = 0 then some ((-1000000002 : Int32), σ)
    else if (gI σ 1) = (240 : Int32) then some ((-1000000004 : Int32), σ)
    else gd (inb (gI σ 1) 240) (bd (sA σ 0 (upd (gA σ 0) (Int32.toNatClampNeg (gI σ 1)) a0)) (fun σ6 => bd (sI σ6 1 ((gI σ6 1) + (1 : Int32))) (fun σ7 => some ((gI σ7 1), σ7)))))
set_option maxRecDepth 100000 in
set_option maxHeartbeats 4000000 in
theorem c_X8_feed {σ : SS} {a0 : Int32} {r : Int32} {σr : SS} (hf : FX8_feed σ a0 = some (r, σr)) : Mcw wsM yX8_feed cX8_feed 2 (some .int) ({ frames := 1, cells := 0, slots := 0, locals := 22 } : Room) (fun g => [.ref (g.2.1 0), .int a0]) σ (fun g => some (.int r)) σr := by
  refine w_enter wsM_fix (by decide) (fun g => Nat.le_of_ble_eq_true rfl) ?_
  intro X g hX
  replace hX : Okw wsM X g cX8_feed 2 RX8 (some .int) ({ frames := 1, cells := 0, slots := 0, locals := 22 } : Room) (fun g => some (.int r)) σr := hX
  have h0 := hX.1
  show Vx X g.1 2 (wsM g σ) 0 [(0, .ref (g.2.1 0)), (1, .int a0)] []
  rw [FX8_feed] at hf
  refine vx_iload_n h0 dX8_feed_0 rfl ?_
  refine vx_iconst (v := (0 : Int32)) h0 dX8_feed_1 (by decide) ?_
  refine vx_sipush (v := (255 : Int32)) h0 dX8_feed_2 (by decide) ?_
  obtain ⟨r2, h1, hf⟩ := ob_some hf
  refine w_callS (st := []) hX (c_X8_in h1) ce_X8_in q895 ⟨rfl, rfl⟩ ⟨by decide, by decide⟩ rfl rfl rfl (Nat.le_of_ble_eq_true rfl) dX8_feed_5 ?_
  show Vx X g.1 2 (wsM g σ) 8 [(0, .ref (g.2.1 0)), (1, .int a0)] [.int r2]
  refine vx_if_ne (tgt := 14) h0 dX8_feed_8 (by decide) (fun c3 => ?_) (fun c3 => ?_)
  · replace hf := (if_neg c3).symm.trans hf
    refine vx_aload_n h0 dX8_feed_14 rfl ?_
    refine mg_0_1 hX q785 dX8_feed_15 ?_
    refine vx_sipush (v := (240 : Int32)) h0 dX8_feed_18 (by decide) ?_
    refine vx_icmp_ne (tgt := 27) h0 dX8_feed_21 (by decide) (fun c4 => ?_) (fun c4 => ?_)
    · replace hf := (if_neg c4).symm.trans hf
      refine vx_aload_n h0 dX8_feed_27 rfl ?_
      refine mg_0_0 hX q784 dX8_feed_28 ?_
      refine vx_aload_n h0 dX8_feed_31 rfl ?_
      refine mg_0_1 hX q785 dX8_feed_32 ?_
      refine vx_iload_n h0 dX8_feed_35 rfl ?_
      obtain ⟨b5, hf⟩ := gd_some hf
      refine ms_1 hX b5 dX8_feed_36 ?_
      generalize (sA σ 0 (upd (gA σ 0) (Int32.toNatClampNeg (gI σ 1)) a0)) = σ6 at hf ⊢
      replace hf := bd_h hf
      refine vx_aload_n h0 dX8_feed_37 rfl ?_
      refine vx_dup h0 dX8_feed_38 rfl ?_
      refine mg_0_1 hX q785 dX8_feed_39 ?_
      refine vx_iconst (v := (1 : Int32)) h0 dX8_feed_42 (by decide) ?_
      refine vx_iadd h0 dX8_feed_43 ?_
      refine mp_0_1 hX q785 dX8_feed_44 ?_
      generalize (sI σ6 1 ((gI σ6 1) + (1 : Int32))) = σ7 at hf ⊢
      replace hf := bd_h hf
      refine vx_aload_n h0 dX8_feed_47 rfl ?_
      refine mg_0_1 hX q785 dX8_feed_48 ?_
      exact w_iretE hX hf dX8_feed_51
    · replace hf := (if_pos c4).symm.trans hf
      refine vx_ldc h0 q899 dX8_feed_24 ?_
      exact w_iretE hX hf dX8_feed_26
  · replace hf := (if_pos c3).symm.trans hf
    refine vx_ldc h0 q898 dX8_feed_11 ?_
    exact w_iretE hX hf dX8_feed_13
def FX8_sign_L0 (k : SS → Option (Int32 × SS)) : Nat → SS → Option (Int32 × SS)
  | 0, _ => none
  | n + 1, σ => if (gI σ 1) ≤ (gI σ 22) then k σ
    else gd (inb (gI σ 22) 240) (if (gA σ 0 (Int32.toNatClampNeg (gI σ 22))) = (32 : Int32) then bd (sI σ 22 ((gI σ 22) + (1 : Int32))) (fun σ4 => FX8_sign_L0 k n σ4)
    else k σ)
set_option maxRecDepth 100000 in
set_option maxHeartbeats 4000000 in
theorem PX8_sign_L0 {X : Bx} {g : Gx} {r : Int32} {σr : SS} (hX : Okw wsM X g cX8_sign 1 RX8 (some .int) ({ frames := 0, cells := 0, slots := 0, locals := 0 } : Room) (fun g => some (.int r)) σr) {k : SS → Option (Int32 × SS)} (hk : ∀ (σ : SS), k σ = some (r, σr) → Vx X g.1 1 (wsM g σ) 38 [(0, .ref (g.2.1 0))] []) : ∀ (n : Nat)  (σ : SS), FX8_sign_L0 k n σ = some (r, σr) → Vx X g.1 1 (wsM g σ) 0 [(0, .ref (g.2.1 0))] [] := by
  have h0 := hX.1
  intro n
  induction n with
  | zero =>
    intro σ hf
    rw [FX8_sign_L0] at hf
    cases hf
  | succ n ih =>
    intro σ hf
    rw [FX8_sign_L0] at hf
    refine vx_aload_n h0 dX8_sign_0 rfl ?_
    refine mg_0_22 hX q806 dX8_sign_1 ?_
    refine vx_aload_n h0 dX8_sign_4 rfl ?_
    refine mg_0_1 hX q785 dX8_sign_5 ?_
    refine vx_icmp_ge (tgt := 38) h0 dX8_sign_8 (by decide) (fun c1 => ?_) (fun c1 => ?_)
    · replace hf := (if_pos c1).symm.trans hf
      exact hk _ hf
    · replace hf := (if_neg c1).symm.trans hf
      refine vx_aload_n h0 dX8_sign_11 rfl ?_
      refine mg_0_0 hX q784 dX8_sign_12 ?_
      refine vx_aload_n h0 dX8_sign_15 rfl ?_
      refine mg_0_22 hX q806 dX8_sign_16 ?_
      obtain ⟨b2, hf⟩ := gd_some hf
      refine ml_1 hX b2 dX8_sign_19 ?_
      refine vx_bipush (v := (32 : Int32)) h0 dX8_sign_20 (by decide) ?_
      refine vx_icmp_ne (tgt := 38) h0 dX8_sign_22 (by decide) (fun c3 => ?_) (fun c3 => ?_)
      · replace hf := (if_neg c3).symm.trans hf
        exact hk _ hf
      · replace hf := (if_pos c3).symm.trans hf
        refine vx_aload_n h0 dX8_sign_25 rfl ?_
        refine vx_dup h0 dX8_sign_26 rfl ?_
        refine mg_0_22 hX q806 dX8_sign_27 ?_
        refine vx_iconst (v := (1 : Int32)) h0 dX8_sign_30 (by decide) ?_
        refine vx_iadd h0 dX8_sign_31 ?_
        refine mp_0_22 hX q806 dX8_sign_32 ?_
        generalize (sI σ 22 ((gI σ 22) + (1 : Int32))) = σ4 at hf ⊢
        replace hf := bd_h hf
        refine vx_goto (tgt := 0) h0 dX8_sign_35 (by decide) ?_
        exact ih _ hf
def FX8_sign (σ : SS) : Option (Int32 × SS) :=
  FX8_sign_L0 (fun σ5 => if (gI σ5 1) ≤ (gI σ5 22) then some ((-1 : Int32), σ5)
    else gd (inb (gI σ5 22) 240) (some ((gA σ5 0 (Int32.toNatClampNeg (gI σ5 22))), σ5))) 5000 σ
set_option maxRecDepth 100000 in
set_option maxHeartbeats 4000000 in
theorem c_X8_sign {σ : SS} {r : Int32} {σr : SS} (hf : FX8_sign σ = some (r, σr)) : Mcw wsM yX8_sign cX8_sign 1 (some .int) ({ frames := 0, cells := 0, slots := 0, locals := 0 } : Room) (fun g => [.ref (g.2.1 0)]) σ (fun g => some (.int r)) σr := by
  refine w_enter wsM_fix (by decide) (fun g => Nat.le_of_ble_eq_true rfl) ?_
  intro X g hX
  replace hX : Okw wsM X g cX8_sign 1 RX8 (some .int) ({ frames := 0, cells := 0, slots := 0, locals := 0 } : Room) (fun g => some (.int r)) σr := hX
  have h0 := hX.1
  show Vx X g.1 1 (wsM g σ) 0 [(0, .ref (g.2.1 0))] []
  rw [FX8_sign] at hf
  refine PX8_sign_L0 hX (fun σ5 hf => ?_) _ _ hf
  refine vx_aload_n h0 dX8_sign_38 rfl ?_
  refine mg_0_22 hX q806 dX8_sign_39 ?_
  refine vx_aload_n h0 dX8_sign_42 rfl ?_
  refine mg_0_1 hX q785 dX8_sign_43 ?_
  refine vx_icmp_ge (tgt := 61) h0 dX8_sign_46 (by decide) (fun c6 => ?_) (fun c6 => ?_)
  · replace hf := (if_pos c6).symm.trans hf
    refine vx_iconst (v := (-1 : Int32)) h0 dX8_sign_61 (by decide) ?_
    exact w_iretE hX hf dX8_sign_62
  · replace hf := (if_neg c6).symm.trans hf
    refine vx_aload_n h0 dX8_sign_49 rfl ?_
    refine mg_0_0 hX q784 dX8_sign_50 ?_
    refine vx_aload_n h0 dX8_sign_53 rfl ?_
    refine mg_0_22 hX q806 dX8_sign_54 ?_
    obtain ⟨b7, hf⟩ := gd_some hf
    refine ml_1 hX b7 dX8_sign_57 ?_
    refine vx_goto (tgt := 62) h0 dX8_sign_58 (by decide) ?_
    exact w_iretE hX hf dX8_sign_62
def FX8_fails (σ : SS) (a0 : Int32) : Option (SS) :=
  if (gI σ 23) = 0 then bd (sI σ 23 a0) (fun σ2 => bd (sI σ2 2 (gI σ2 22)) (fun σ3 => some σ3))
    else some σ
set_option maxRecDepth 100000 in
set_option maxHeartbeats 4000000 in
theorem c_X8_fails {σ : SS} {a0 : Int32} {σr : SS} (hf : FX8_fails σ a0 = some σr) : Mcw wsM yX8_fails cX8_fails 2 none ({ frames := 0, cells := 0, slots := 0, locals := 0 } : Room) (fun g => [.ref (g.2.1 0), .int a0]) σ (fun g => none) σr := by
  refine w_enter wsM_fix (by decide) (fun g => Nat.le_of_ble_eq_true rfl) ?_
  intro X g hX
  replace hX : Okw wsM X g cX8_fails 2 RX8 none ({ frames := 0, cells := 0, slots := 0, locals := 0 } : Room) (fun g => none) σr := hX
  have h0 := hX.1
  show Vx X g.1 2 (wsM g σ) 0 [(0, .ref (g.2.1 0)), (1, .int a0)] []
  rw [FX8_fails] at hf
  refine vx_aload_n h0 dX8_fails_0 rfl ?_
  refine mg_0_23 hX q807 dX8_fails_1 ?_
  refine vx_if_ne (tgt := 20) h0 dX8_fails_4 (by decide) (fun c1 => ?_) (fun c1 => ?_)
  · replace hf := (if_neg c1).symm.trans hf
    exact w_vretE hX hf dX8_fails_20
  · replace hf := (if_pos c1).symm.trans hf
    refine vx_aload_n h0 dX8_fails_7 rfl ?_
    refine vx_iload_n h0 dX8_fails_8 rfl ?_
    refine mp_0_23 hX q807 dX8_fails_9 ?_
    generalize (sI σ 23 a0) = σ2 at hf ⊢
    replace hf := bd_h hf
    refine vx_aload_n h0 dX8_fails_12 rfl ?_
    refine vx_aload_n h0 dX8_fails_13 rfl ?_
    refine mg_0_22 hX q806 dX8_fails_14 ?_
    refine mp_0_2 hX q786 dX8_fails_17 ?_
    generalize (sI σ2 2 (gI σ2 22)) = σ3 at hf ⊢
    replace hf := bd_h hf
    exact w_vretE hX hf dX8_fails_20
def FX8_isFigure (σ : SS) (a0 : Int32) : Option (Int32) :=
  ob (FX8_in σ a0 (48 : Int32) (57 : Int32)) (fun r2 => gd (isb r2) (some r2))
set_option maxRecDepth 100000 in
set_option maxHeartbeats 4000000 in
theorem c_X8_isFigure {σ : SS} {a0 : Int32} {r : Int32} (hf : FX8_isFigure σ a0 = some r) : Mcw wsM yX8_isFigure cX8_isFigure 1 (some .boolean) ({ frames := 1, cells := 0, slots := 0, locals := 22 } : Room) (fun g => [.int a0]) σ (fun g => some (.int r)) σ := by
  refine w_enter wsM_fix (by decide) (fun g => Nat.le_of_ble_eq_true rfl) ?_
  intro X g hX
  replace hX : Okw wsM X g cX8_isFigure 1 RX8 (some .boolean) ({ frames := 1, cells := 0, slots := 0, locals := 22 } : Room) (fun g => some (.int r)) σ := hX
  have h0 := hX.1
  show Vx X g.1 1 (wsM g σ) 0 [(0, .int a0)] []
  rw [FX8_isFigure] at hf
  refine vx_iload_n h0 dX8_isFigure_0 rfl ?_
  refine vx_bipush (v := (48 : Int32)) h0 dX8_isFigure_1 (by decide) ?_
  refine vx_bipush (v := (57 : Int32)) h0 dX8_isFigure_3 (by decide) ?_
  obtain ⟨r2, h1, hf⟩ := ob_some hf
  refine w_callS (st := []) hX (c_X8_in h1) ce_X8_in q895 ⟨rfl, rfl⟩ ⟨by decide, by decide⟩ rfl rfl rfl (Nat.le_of_ble_eq_true rfl) dX8_isFigure_5 ?_
  show Vx X g.1 1 (wsM g σ) 8 [(0, .int a0)] [.int r2]
  obtain ⟨b3, hf⟩ := gd_some hf
  exact w_zretP hX hf b3 dX8_isFigure_8
def FX8_figure (σ : SS) (a0 : Int32) : Option (Int32 × SS) :=
  ob (FX8_sign σ) (fun p2 => ob (FX8_isFigure p2.2 p2.1) (fun r4 => if r4 = 0 then ob (FX8_fails p2.2 (1 : Int32)) (fun σ11 => some ((0 : Int32), σ11))
    else if (p2.1 - (48 : Int32)) ≤ a0 then bd (sI p2.2 22 ((gI p2.2 22) + (1 : Int32))) (fun σ7 => some ((p2.1 - (48 : Int32)), σ7))
    else ob (FX8_fails p2.2 (2 : Int32)) (fun σ9 => some ((0 : Int32), σ9))))
set_option maxRecDepth 100000 in
set_option maxHeartbeats 4000000 in
theorem c_X8_figure {σ : SS} {a0 : Int32} {r : Int32} {σr : SS} (hf : FX8_figure σ a0 = some (r, σr)) : Mcw wsM yX8_figure cX8_figure 3 (some .int) ({ frames := 2, cells := 0, slots := 0, locals := 42 } : Room) (fun g => [.ref (g.2.1 0), .int a0]) σ (fun g => some (.int r)) σr := by
  refine w_enter wsM_fix (by decide) (fun g => Nat.le_of_ble_eq_true rfl) ?_
  intro X g hX
  replace hX : Okw wsM X g cX8_figure 3 RX8 (some .int) ({ frames := 2, cells := 0, slots := 0, locals := 42 } : Room) (fun g => some (.int r)) σr := hX
  have h0 := hX.1
  show Vx X g.1 3 (wsM g σ) 0 [(0, .ref (g.2.1 0)), (1, .int a0)] []
  rw [FX8_figure] at hf
  refine vx_aload_n h0 dX8_figure_0 rfl ?_
  obtain ⟨p2, h1, hf⟩ := ob_some hf
  refine w_callV (st := []) (ci := 8) (q0 := 0) hX (c_X8_sign h1) ce_X8_sign q908 ⟨rfl, rfl⟩ ⟨by decide, by decide⟩ rfl rfl rfl rfl (mo_0 g _) rfl (Nat.le_of_ble_eq_true rfl) dX8_figure_1 ?_
  show Vx X g.1 3 (wsM g p2.2) 4 [(0, .ref (g.2.1 0)), (1, .int a0)] [.int p2.1]
  refine vx_istore_n (ls' := [(2, .int p2.1), (0, .ref (g.2.1 0)), (1, .int a0)]) h0 dX8_figure_4 (by decide) rfl ?_
  refine vx_iload_n h0 dX8_figure_5 rfl ?_
  obtain ⟨r4, h3, hf⟩ := ob_some hf
  refine w_callS (st := []) hX (c_X8_isFigure h3) ce_X8_isFigure q924 ⟨rfl, rfl⟩ ⟨by decide, by decide⟩ rfl rfl rfl (Nat.le_of_ble_eq_true rfl) dX8_figure_6 ?_
  show Vx X g.1 3 (wsM g p2.2) 9 [(2, .int p2.1), (0, .ref (g.2.1 0)), (1, .int a0)] [.int r4]
  refine vx_if_ne (tgt := 19) h0 dX8_figure_9 (by decide) (fun c5 => ?_) (fun c5 => ?_)
  · replace hf := (if_neg c5).symm.trans hf
    refine vx_iload_n h0 dX8_figure_19 rfl ?_
    refine vx_bipush (v := (48 : Int32)) h0 dX8_figure_20 (by decide) ?_
    refine vx_isub h0 dX8_figure_22 ?_
    refine vx_iload_n h0 dX8_figure_23 rfl ?_
    refine vx_icmp_le (tgt := 34) h0 dX8_figure_24 (by decide) (fun c6 => ?_) (fun c6 => ?_)
    · replace hf := (if_pos c6).symm.trans hf
      refine vx_aload_n h0 dX8_figure_34 rfl ?_
      refine vx_dup h0 dX8_figure_35 rfl ?_
      refine mg_0_22 hX q806 dX8_figure_36 ?_
      refine vx_iconst (v := (1 : Int32)) h0 dX8_figure_39 (by decide) ?_
      refine vx_iadd h0 dX8_figure_40 ?_
      refine mp_0_22 hX q806 dX8_figure_41 ?_
      generalize (sI p2.2 22 ((gI p2.2 22) + (1 : Int32))) = σ7 at hf ⊢
      replace hf := bd_h hf
      refine vx_iload_n h0 dX8_figure_44 rfl ?_
      refine vx_bipush (v := (48 : Int32)) h0 dX8_figure_45 (by decide) ?_
      refine vx_isub h0 dX8_figure_47 ?_
      exact w_iretE hX hf dX8_figure_48
    · replace hf := (if_neg c6).symm.trans hf
      refine vx_aload_n h0 dX8_figure_27 rfl ?_
      refine vx_iconst (v := (2 : Int32)) h0 dX8_figure_28 (by decide) ?_
      obtain ⟨σ9, h8, hf⟩ := ob_some hf
      refine w_callV (st := []) (ci := 8) (q0 := 0) hX (c_X8_fails h8) ce_X8_fails q916 ⟨rfl, rfl⟩ ⟨by decide, by decide⟩ rfl rfl rfl rfl (mo_0 g _) rfl (Nat.le_of_ble_eq_true rfl) dX8_figure_29 ?_
      show Vx X g.1 3 (wsM g σ9) 32 [(2, .int p2.1), (0, .ref (g.2.1 0)), (1, .int a0)] []
      refine vx_iconst (v := (0 : Int32)) h0 dX8_figure_32 (by decide) ?_
      exact w_iretE hX hf dX8_figure_33
  · replace hf := (if_pos c5).symm.trans hf
    refine vx_aload_n h0 dX8_figure_12 rfl ?_
    refine vx_iconst (v := (1 : Int32)) h0 dX8_figure_13 (by decide) ?_
    obtain ⟨σ11, h10, hf⟩ := ob_some hf
    refine w_callV (st := []) (ci := 8) (q0 := 0) hX (c_X8_fails h10) ce_X8_fails q916 ⟨rfl, rfl⟩ ⟨by decide, by decide⟩ rfl rfl rfl rfl (mo_0 g _) rfl (Nat.le_of_ble_eq_true rfl) dX8_figure_14 ?_
    show Vx X g.1 3 (wsM g σ11) 17 [(2, .int p2.1), (0, .ref (g.2.1 0)), (1, .int a0)] []
    refine vx_iconst (v := (0 : Int32)) h0 dX8_figure_17 (by decide) ?_
    exact w_iretE hX hf dX8_figure_18
def FX8_clauseNumber_L24 (v1 : Int32) (k : Int32 → SS → Option (Int32 × SS)) : Nat → Int32 → SS → Option (Int32 × SS)
  | 0, _, _ => none
  | n + 1, v2, σ => if (gI σ 1) ≤ (gI σ 22) then k v2 σ
    else gd (inb (gI σ 22) 240) (ob (FX8_isFigure σ (gA σ 0 (Int32.toNatClampNeg (gI σ 22)))) (fun r9 => if r9 = 0 then k v2 σ
    else if (3 : Int32) ≤ ((gI σ 22) - v1) then bd (sI σ 22 ((gI σ 22) + (1 : Int32))) (fun σ12 => FX8_clauseNumber_L24 v1 k n v2 σ12)
    else gd (inb (gI σ 22) 240) (bd ((((10 : Int32) * v2) + (gA σ 0 (Int32.toNatClampNeg (gI σ 22)))) - (48 : Int32)) (fun x14 => bd (sI σ 22 ((gI σ 22) + (1 : Int32))) (fun σ15 => FX8_clauseNumber_L24 v1 k n x14 σ15)))))
set_option maxRecDepth 100000 in
set_option maxHeartbeats 4000000 in
theorem PX8_clauseNumber_L24 {X : Bx} {g : Gx} {r : Int32} {σr : SS} (hX : Okw wsM X g cX8_clauseNumber 3 RX8 (some .int) ({ frames := 2, cells := 0, slots := 0, locals := 42 } : Room) (fun g => some (.int r)) σr) {v1 : Int32} {k : Int32 → SS → Option (Int32 × SS)} (hk : ∀ (v2 : Int32) (σ : SS), k v2 σ = some (r, σr) → Vx X g.1 3 (wsM g σ) 95 [(0, .ref (g.2.1 0)), (1, .int v1), (2, .int v2)] []) : ∀ (n : Nat) (v2 : Int32) (σ : SS), FX8_clauseNumber_L24 v1 k n v2 σ = some (r, σr) → Vx X g.1 3 (wsM g σ) 24 [(0, .ref (g.2.1 0)), (1, .int v1), (2, .int v2)] [] := by
  have h0 := hX.1
  intro n
  induction n with
  | zero =>
    intro v2 σ hf
    rw [FX8_clauseNumber_L24] at hf
    cases hf
  | succ n ih =>
    intro v2 σ hf
    rw [FX8_clauseNumber_L24] at hf
    refine vx_aload_n h0 dX8_clauseNumber_24 rfl ?_
    refine mg_0_22 hX q806 dX8_clauseNumber_25 ?_
    refine vx_aload_n h0 dX8_clauseNumber_28 rfl ?_
    refine mg_0_1 hX q785 dX8_clauseNumber_29 ?_
    refine vx_icmp_ge (tgt := 95) h0 dX8_clauseNumber_32 (by decide) (fun c6 => ?_) (fun c6 => ?_)
    · replace hf := (if_pos c6).symm.trans hf
      exact hk _ _ hf
    · replace hf := (if_neg c6).symm.trans hf
      refine vx_aload_n h0 dX8_clauseNumber_35 rfl ?_
      refine mg_0_0 hX q784 dX8_clauseNumber_36 ?_
      refine vx_aload_n h0 dX8_clauseNumber_39 rfl ?_
      refine mg_0_22 hX q806 dX8_clauseNumber_40 ?_
      obtain ⟨b7, hf⟩ := gd_some hf
      refine ml_1 hX b7 dX8_clauseNumber_43 ?_
      obtain ⟨r9, h8, hf⟩ := ob_some hf
      refine w_callS (st := []) hX (c_X8_isFigure h8) ce_X8_isFigure q924 ⟨rfl, rfl⟩ ⟨by decide, by decide⟩ rfl rfl rfl (Nat.le_of_ble_eq_true rfl) dX8_clauseNumber_44 ?_
      show Vx X g.1 3 (wsM g σ) 47 [(0, .ref (g.2.1 0)), (1, .int v1), (2, .int v2)] [.int r9]
      refine vx_if_eq (tgt := 95) h0 dX8_clauseNumber_47 (by decide) (fun c10 => ?_) (fun c10 => ?_)
      · replace hf := (if_pos c10).symm.trans hf
        exact hk _ _ hf
      · replace hf := (if_neg c10).symm.trans hf
        refine vx_aload_n h0 dX8_clauseNumber_50 rfl ?_
        refine mg_0_22 hX q806 dX8_clauseNumber_51 ?_
        refine vx_iload_n h0 dX8_clauseNumber_54 rfl ?_
        refine vx_isub h0 dX8_clauseNumber_55 ?_
        refine vx_iconst (v := (3 : Int32)) h0 dX8_clauseNumber_56 (by decide) ?_
        refine vx_icmp_ge (tgt := 80) h0 dX8_clauseNumber_57 (by decide) (fun c11 => ?_) (fun c11 => ?_)
        · replace hf := (if_pos c11).symm.trans hf
          refine vx_iload_n h0 dX8_clauseNumber_80 rfl ?_
          refine vx_istore_n (ls' := [(2, .int v2), (0, .ref (g.2.1 0)), (1, .int v1)]) h0 dX8_clauseNumber_81 (by decide) rfl ?_
          refine vx_aload_n h0 dX8_clauseNumber_82 rfl ?_
          refine vx_dup h0 dX8_clauseNumber_83 rfl ?_
          refine mg_0_22 hX q806 dX8_clauseNumber_84 ?_
          refine vx_iconst (v := (1 : Int32)) h0 dX8_clauseNumber_87 (by decide) ?_
          refine vx_iadd h0 dX8_clauseNumber_88 ?_
          refine mp_0_22 hX q806 dX8_clauseNumber_89 ?_
          generalize (sI σ 22 ((gI σ 22) + (1 : Int32))) = σ12 at hf ⊢
          replace hf := bd_h hf
          refine vx_goto (tgt := 24) h0 dX8_clauseNumber_92 (by decide) ?_
          refine vx_sub [1, 2, 0] rfl ?_
          exact ih _ _ hf
        · replace hf := (if_neg c11).symm.trans hf
          refine vx_bipush (v := (10 : Int32)) h0 dX8_clauseNumber_60 (by decide) ?_
          refine vx_iload_n h0 dX8_clauseNumber_62 rfl ?_
          refine vx_imul h0 dX8_clauseNumber_63 ?_
          refine vx_aload_n h0 dX8_clauseNumber_64 rfl ?_
          refine mg_0_0 hX q784 dX8_clauseNumber_65 ?_
          refine vx_aload_n h0 dX8_clauseNumber_68 rfl ?_
          refine mg_0_22 hX q806 dX8_clauseNumber_69 ?_
          obtain ⟨b13, hf⟩ := gd_some hf
          refine ml_1 hX b13 dX8_clauseNumber_72 ?_
          refine vx_iadd h0 dX8_clauseNumber_73 ?_
          refine vx_bipush (v := (48 : Int32)) h0 dX8_clauseNumber_74 (by decide) ?_
          refine vx_isub h0 dX8_clauseNumber_76 ?_
          refine vx_goto (tgt := 81) h0 dX8_clauseNumber_77 (by decide) ?_
          generalize ((((10 : Int32) * v2) + (gA σ 0 (Int32.toNatClampNeg (gI σ 22)))) - (48 : Int32)) = x14 at hf ⊢
          replace hf := bd_h hf
          refine vx_istore_n (ls' := [(2, .int x14), (0, .ref (g.2.1 0)), (1, .int v1)]) h0 dX8_clauseNumber_81 (by decide) rfl ?_
          refine vx_aload_n h0 dX8_clauseNumber_82 rfl ?_
          refine vx_dup h0 dX8_clauseNumber_83 rfl ?_
          refine mg_0_22 hX q806 dX8_clauseNumber_84 ?_
          refine vx_iconst (v := (1 : Int32)) h0 dX8_clauseNumber_87 (by decide) ?_
          refine vx_iadd h0 dX8_clauseNumber_88 ?_
          refine mp_0_22 hX q806 dX8_clauseNumber_89 ?_
          generalize (sI σ 22 ((gI σ 22) + (1 : Int32))) = σ15 at hf ⊢
          replace hf := bd_h hf
          refine vx_goto (tgt := 24) h0 dX8_clauseNumber_92 (by decide) ?_
          refine vx_sub [1, 2, 0] rfl ?_
          exact ih _ _ hf
def FX8_clauseNumber_J111 (σ : SS) (v1 : Int32) (v2 : Int32) : Option (Int32 × SS) :=
  bd (sI σ 22 v1) (fun σ19 => ob (FX8_fails σ19 (2 : Int32)) (fun σ21 => some (v2, σ21)))
set_option maxRecDepth 100000 in
set_option maxHeartbeats 4000000 in
theorem PX8_clauseNumber_J111 {X : Bx} {g : Gx} {r : Int32} {σr : SS} {σ : SS} (hX : Okw wsM X g cX8_clauseNumber 3 RX8 (some .int) ({ frames := 2, cells := 0, slots := 0, locals := 42 } : Room) (fun g => some (.int r)) σr) {v1 : Int32} {v2 : Int32} (hf : FX8_clauseNumber_J111 σ v1 v2 = some (r, σr)) : Vx X g.1 3 (wsM g σ) 111 [(0, .ref (g.2.1 0)), (1, .int v1), (2, .int v2)] [] := by
  have h0 := hX.1
  rw [FX8_clauseNumber_J111] at hf
  refine vx_aload_n h0 dX8_clauseNumber_111 rfl ?_
  refine vx_iload_n h0 dX8_clauseNumber_112 rfl ?_
  refine mp_0_22 hX q806 dX8_clauseNumber_113 ?_
  generalize (sI σ 22 v1) = σ19 at hf ⊢
  replace hf := bd_h hf
  refine vx_aload_n h0 dX8_clauseNumber_116 rfl ?_
  refine vx_iconst (v := (2 : Int32)) h0 dX8_clauseNumber_117 (by decide) ?_
  obtain ⟨σ21, h20, hf⟩ := ob_some hf
  refine w_callV (st := []) (ci := 8) (q0 := 0) hX (c_X8_fails h20) ce_X8_fails q916 ⟨rfl, rfl⟩ ⟨by decide, by decide⟩ rfl rfl rfl rfl (mo_0 g _) rfl (Nat.le_of_ble_eq_true rfl) dX8_clauseNumber_118 ?_
  show Vx X g.1 3 (wsM g σ21) 121 [(0, .ref (g.2.1 0)), (1, .int v1), (2, .int v2)] []
  refine vx_iload_n h0 dX8_clauseNumber_121 rfl ?_
  exact w_iretE hX hf dX8_clauseNumber_122
def FX8_clauseNumber (σ : SS) : Option (Int32 × SS) :=
  ob (FX8_sign σ) (fun p2 => ob (FX8_isFigure p2.2 p2.1) (fun r4 => if r4 = 0 then ob (FX8_fails p2.2 (1 : Int32)) (fun σ24 => some ((0 : Int32), σ24))
    else FX8_clauseNumber_L24 (gI p2.2 22) (fun u16 σ17 => if (2 : Int32) < ((gI σ17 22) - (gI p2.2 22)) then FX8_clauseNumber_J111 σ17 (gI p2.2 22) u16
    else if u16 ≤ (15 : Int32) then some (u16, σ17)
    else FX8_clauseNumber_J111 σ17 (gI p2.2 22) u16) 5000 (0 : Int32) p2.2))
set_option maxRecDepth 100000 in
set_option maxHeartbeats 4000000 in
theorem c_X8_clauseNumber {σ : SS} {r : Int32} {σr : SS} (hf : FX8_clauseNumber σ = some (r, σr)) : Mcw wsM yX8_clauseNumber cX8_clauseNumber 3 (some .int) ({ frames := 2, cells := 0, slots := 0, locals := 42 } : Room) (fun g => [.ref (g.2.1 0)]) σ (fun g => some (.int r)) σr := by
  refine w_enter wsM_fix (by decide) (fun g => Nat.le_of_ble_eq_true rfl) ?_
  intro X g hX
  replace hX : Okw wsM X g cX8_clauseNumber 3 RX8 (some .int) ({ frames := 2, cells := 0, slots := 0, locals := 42 } : Room) (fun g => some (.int r)) σr := hX
  have h0 := hX.1
  show Vx X g.1 3 (wsM g σ) 0 [(0, .ref (g.2.1 0))] []
  rw [FX8_clauseNumber] at hf
  refine vx_aload_n h0 dX8_clauseNumber_0 rfl ?_
  obtain ⟨p2, h1, hf⟩ := ob_some hf
  refine w_callV (st := []) (ci := 8) (q0 := 0) hX (c_X8_sign h1) ce_X8_sign q908 ⟨rfl, rfl⟩ ⟨by decide, by decide⟩ rfl rfl rfl rfl (mo_0 g _) rfl (Nat.le_of_ble_eq_true rfl) dX8_clauseNumber_1 ?_
  show Vx X g.1 3 (wsM g p2.2) 4 [(0, .ref (g.2.1 0))] [.int p2.1]
  obtain ⟨r4, h3, hf⟩ := ob_some hf
  refine w_callS (st := []) hX (c_X8_isFigure h3) ce_X8_isFigure q924 ⟨rfl, rfl⟩ ⟨by decide, by decide⟩ rfl rfl rfl (Nat.le_of_ble_eq_true rfl) dX8_clauseNumber_4 ?_
  show Vx X g.1 3 (wsM g p2.2) 7 [(0, .ref (g.2.1 0))] [.int r4]
  refine vx_if_ne (tgt := 17) h0 dX8_clauseNumber_7 (by decide) (fun c5 => ?_) (fun c5 => ?_)
  · replace hf := (if_neg c5).symm.trans hf
    refine vx_aload_n h0 dX8_clauseNumber_17 rfl ?_
    refine mg_0_22 hX q806 dX8_clauseNumber_18 ?_
    refine vx_istore_n (ls' := [(1, .int (gI p2.2 22)), (0, .ref (g.2.1 0))]) h0 dX8_clauseNumber_21 (by decide) rfl ?_
    refine vx_iconst (v := (0 : Int32)) h0 dX8_clauseNumber_22 (by decide) ?_
    refine vx_istore_n (ls' := [(2, .int (0 : Int32)), (1, .int (gI p2.2 22)), (0, .ref (g.2.1 0))]) h0 dX8_clauseNumber_23 (by decide) rfl ?_
    refine vx_sub [2, 1, 0] rfl ?_
    refine PX8_clauseNumber_L24 hX (fun u16 σ17 hf => ?_) _ _ _ hf
    refine vx_aload_n h0 dX8_clauseNumber_95 rfl ?_
    refine mg_0_22 hX q806 dX8_clauseNumber_96 ?_
    refine vx_iload_n h0 dX8_clauseNumber_99 rfl ?_
    refine vx_isub h0 dX8_clauseNumber_100 ?_
    refine vx_iconst (v := (2 : Int32)) h0 dX8_clauseNumber_101 (by decide) ?_
    refine vx_icmp_gt (tgt := 111) h0 dX8_clauseNumber_102 (by decide) (fun c18 => ?_) (fun c18 => ?_)
    · replace hf := (if_pos c18).symm.trans hf
      exact PX8_clauseNumber_J111 hX  hf
    · replace hf := (if_neg c18).symm.trans hf
      refine vx_iload_n h0 dX8_clauseNumber_105 rfl ?_
      refine vx_bipush (v := (15 : Int32)) h0 dX8_clauseNumber_106 (by decide) ?_
      refine vx_icmp_le (tgt := 121) h0 dX8_clauseNumber_108 (by decide) (fun c22 => ?_) (fun c22 => ?_)
      · replace hf := (if_pos c22).symm.trans hf
        refine vx_iload_n h0 dX8_clauseNumber_121 rfl ?_
        exact w_iretE hX hf dX8_clauseNumber_122
      · replace hf := (if_neg c22).symm.trans hf
        exact PX8_clauseNumber_J111 hX  hf
  · replace hf := (if_pos c5).symm.trans hf
    refine vx_aload_n h0 dX8_clauseNumber_10 rfl ?_
    refine vx_iconst (v := (1 : Int32)) h0 dX8_clauseNumber_11 (by decide) ?_
    obtain ⟨σ24, h23, hf⟩ := ob_some hf
    refine w_callV (st := []) (ci := 8) (q0 := 0) hX (c_X8_fails h23) ce_X8_fails q916 ⟨rfl, rfl⟩ ⟨by decide, by decide⟩ rfl rfl rfl rfl (mo_0 g _) rfl (Nat.le_of_ble_eq_true rfl) dX8_clauseNumber_12 ?_
    show Vx X g.1 3 (wsM g σ24) 15 [(0, .ref (g.2.1 0))] []
    refine vx_iconst (v := (0 : Int32)) h0 dX8_clauseNumber_15 (by decide) ?_
    exact w_iretE hX hf dX8_clauseNumber_16
def FX8_opens_J199 (σ : SS) (rec : SS → Option (SS)) (v2 : Int32) (v3 : Int32) (v4 : Int32) (s0 : Int32) (s1 : Int32) (s2 : Int32) : Option (SS) :=
  gd (inb s2 16) (bd (sA σ 14 (upd (gA σ 14) (Int32.toNatClampNeg s2) (s1 ||| s0))) (fun σ25 => gd (inb v2 16) (if (gI σ25 23) = 0 then if v3 = 0 then gd (inb v2 16) (bd (sA σ25 15 (upd (gA σ25 15) (Int32.toNatClampNeg v2) ((gA σ25 15 (Int32.toNatClampNeg v2)) ||| (jshl (1 : Int32) v4)))) (fun σ34 => rec σ34))
    else gd (inb v2 16) (bd (sA σ25 15 (upd (gA σ25 15) (Int32.toNatClampNeg v2) ((gA σ25 15 (Int32.toNatClampNeg v2)) ||| (0 : Int32)))) (fun σ32 => rec σ32))
    else gd (inb v2 16) (bd (sA σ25 15 (upd (gA σ25 15) (Int32.toNatClampNeg v2) ((gA σ25 15 (Int32.toNatClampNeg v2)) ||| (0 : Int32)))) (fun σ29 => rec σ29)))))
set_option maxRecDepth 100000 in
set_option maxHeartbeats 4000000 in
theorem PX8_opens_J199 {X : Bx} {g : Gx} {σr : SS} {σ : SS} (hX : Okw wsM X g cX8_opens 5 RX8 none ({ frames := 3, cells := 0, slots := 0, locals := 64 } : Room) (fun g => none) σr) {rec : SS → Option (SS)} {v2 : Int32} {v3 : Int32} {v4 : Int32} {s0 : Int32} {s1 : Int32} {s2 : Int32} (hrec : ∀  (σ2 : SS), rec σ2 = some σr → Vx X g.1 5 (wsM g σ2) 68 [(0, .ref (g.2.1 0)), (2, .int v2)] []) (hf : FX8_opens_J199 σ rec v2 v3 v4 s0 s1 s2 = some σr) : Vx X g.1 5 (wsM g σ) 199 [(0, .ref (g.2.1 0)), (2, .int v2), (3, .int v3), (4, .int v4)] [.int s0, .int s1, .int s2, .ref (g.2.1 10)] := by
  have h0 := hX.1
  rw [FX8_opens_J199] at hf
  refine vx_ior h0 dX8_opens_199 ?_
  obtain ⟨b24, hf⟩ := gd_some hf
  refine ms_10 hX b24 dX8_opens_200 ?_
  generalize (sA σ 14 (upd (gA σ 14) (Int32.toNatClampNeg s2) (s1 ||| s0))) = σ25 at hf ⊢
  replace hf := bd_h hf
  refine vx_aload_n h0 dX8_opens_201 rfl ?_
  refine mg_0_15 hX q799 dX8_opens_202 ?_
  refine vx_iload_n h0 dX8_opens_205 rfl ?_
  refine vx_dup2 h0 dX8_opens_206 rfl rfl ?_
  obtain ⟨b26, hf⟩ := gd_some hf
  refine ml_11 hX b26 dX8_opens_207 ?_
  refine vx_aload_n h0 dX8_opens_208 rfl ?_
  refine mg_0_23 hX q807 dX8_opens_209 ?_
  refine vx_if_ne (tgt := 226) h0 dX8_opens_212 (by decide) (fun c27 => ?_) (fun c27 => ?_)
  · replace hf := (if_neg c27).symm.trans hf
    refine vx_iconst (v := (0 : Int32)) h0 dX8_opens_226 (by decide) ?_
    refine vx_ior h0 dX8_opens_227 ?_
    obtain ⟨b28, hf⟩ := gd_some hf
    refine ms_11 hX b28 dX8_opens_228 ?_
    generalize (sA σ25 15 (upd (gA σ25 15) (Int32.toNatClampNeg v2) ((gA σ25 15 (Int32.toNatClampNeg v2)) ||| (0 : Int32)))) = σ29 at hf ⊢
    replace hf := bd_h hf
    refine vx_goto (tgt := 68) h0 dX8_opens_229 (by decide) ?_
    refine vx_sub [0, 1] rfl ?_
    exact hrec _ hf
  · replace hf := (if_pos c27).symm.trans hf
    refine vx_iload_n h0 dX8_opens_215 rfl ?_
    refine vx_if_ne (tgt := 226) h0 dX8_opens_216 (by decide) (fun c30 => ?_) (fun c30 => ?_)
    · replace hf := (if_neg c30).symm.trans hf
      refine vx_iconst (v := (0 : Int32)) h0 dX8_opens_226 (by decide) ?_
      refine vx_ior h0 dX8_opens_227 ?_
      obtain ⟨b31, hf⟩ := gd_some hf
      refine ms_11 hX b31 dX8_opens_228 ?_
      generalize (sA σ25 15 (upd (gA σ25 15) (Int32.toNatClampNeg v2) ((gA σ25 15 (Int32.toNatClampNeg v2)) ||| (0 : Int32)))) = σ32 at hf ⊢
      replace hf := bd_h hf
      refine vx_goto (tgt := 68) h0 dX8_opens_229 (by decide) ?_
      refine vx_sub [0, 1] rfl ?_
      exact hrec _ hf
    · replace hf := (if_pos c30).symm.trans hf
      refine vx_iconst (v := (1 : Int32)) h0 dX8_opens_219 (by decide) ?_
      refine vx_iload h0 dX8_opens_220 rfl ?_
      refine vx_ishl h0 dX8_opens_222 ?_
      refine vx_goto (tgt := 227) h0 dX8_opens_223 (by decide) ?_
      refine vx_ior h0 dX8_opens_227 ?_
      obtain ⟨b33, hf⟩ := gd_some hf
      refine ms_11 hX b33 dX8_opens_228 ?_
      generalize (sA σ25 15 (upd (gA σ25 15) (Int32.toNatClampNeg v2) ((gA σ25 15 (Int32.toNatClampNeg v2)) ||| (jshl (1 : Int32) v4)))) = σ34 at hf ⊢
      replace hf := bd_h hf
      refine vx_goto (tgt := 68) h0 dX8_opens_229 (by decide) ?_
      refine vx_sub [0, 1] rfl ?_
      exact hrec _ hf
def FX8_opens_J198 (σ : SS) (rec : SS → Option (SS)) (v2 : Int32) (v3 : Int32) (v4 : Int32) (s0 : Int32) (s1 : Int32) : Option (SS) :=
  FX8_opens_J199 σ (fun σ35 => rec σ35) v2 v3 v4 (0 : Int32) s0 s1
set_option maxRecDepth 100000 in
set_option maxHeartbeats 4000000 in
theorem PX8_opens_J198 {X : Bx} {g : Gx} {σr : SS} {σ : SS} (hX : Okw wsM X g cX8_opens 5 RX8 none ({ frames := 3, cells := 0, slots := 0, locals := 64 } : Room) (fun g => none) σr) {rec : SS → Option (SS)} {v2 : Int32} {v3 : Int32} {v4 : Int32} {s0 : Int32} {s1 : Int32} (hrec : ∀  (σ2 : SS), rec σ2 = some σr → Vx X g.1 5 (wsM g σ2) 68 [(0, .ref (g.2.1 0)), (2, .int v2)] []) (hf : FX8_opens_J198 σ rec v2 v3 v4 s0 s1 = some σr) : Vx X g.1 5 (wsM g σ) 198 [(0, .ref (g.2.1 0)), (2, .int v2), (3, .int v3), (4, .int v4)] [.int s0, .int s1, .ref (g.2.1 10)] := by
  have h0 := hX.1
  rw [FX8_opens_J198] at hf
  refine vx_iconst (v := (0 : Int32)) h0 dX8_opens_198 (by decide) ?_
  exact PX8_opens_J199 hX (fun σ35 hf => hrec σ35 hf) hf
def FX8_opens_J173 (σ : SS) (rec : SS → Option (SS)) (v2 : Int32) (v3 : Int32) (v4 : Int32) : Option (SS) :=
  gd (inb v2 16) (if (gI σ 23) = 0 then if v3 = 0 then FX8_opens_J198 σ (fun σ38 => rec σ38) v2 v3 v4 (gA σ 14 (Int32.toNatClampNeg v2)) v2
    else FX8_opens_J199 σ (fun σ39 => rec σ39) v2 v3 v4 (jshl (1 : Int32) v4) (gA σ 14 (Int32.toNatClampNeg v2)) v2
    else FX8_opens_J198 σ (fun σ36 => rec σ36) v2 v3 v4 (gA σ 14 (Int32.toNatClampNeg v2)) v2)
set_option maxRecDepth 100000 in
set_option maxHeartbeats 4000000 in
theorem PX8_opens_J173 {X : Bx} {g : Gx} {σr : SS} {σ : SS} (hX : Okw wsM X g cX8_opens 5 RX8 none ({ frames := 3, cells := 0, slots := 0, locals := 64 } : Room) (fun g => none) σr) {rec : SS → Option (SS)} {v2 : Int32} {v3 : Int32} {v4 : Int32} (hrec : ∀  (σ2 : SS), rec σ2 = some σr → Vx X g.1 5 (wsM g σ2) 68 [(0, .ref (g.2.1 0)), (2, .int v2)] []) (hf : FX8_opens_J173 σ rec v2 v3 v4 = some σr) : Vx X g.1 5 (wsM g σ) 173 [(0, .ref (g.2.1 0)), (2, .int v2), (3, .int v3), (4, .int v4)] [] := by
  have h0 := hX.1
  rw [FX8_opens_J173] at hf
  refine vx_aload_n h0 dX8_opens_173 rfl ?_
  refine mg_0_14 hX q798 dX8_opens_174 ?_
  refine vx_iload_n h0 dX8_opens_177 rfl ?_
  refine vx_dup2 h0 dX8_opens_178 rfl rfl ?_
  obtain ⟨b22, hf⟩ := gd_some hf
  refine ml_10 hX b22 dX8_opens_179 ?_
  refine vx_aload_n h0 dX8_opens_180 rfl ?_
  refine mg_0_23 hX q807 dX8_opens_181 ?_
  refine vx_if_ne (tgt := 198) h0 dX8_opens_184 (by decide) (fun c23 => ?_) (fun c23 => ?_)
  · replace hf := (if_neg c23).symm.trans hf
    exact PX8_opens_J198 hX (fun σ36 hf => hrec σ36 hf) hf
  · replace hf := (if_pos c23).symm.trans hf
    refine vx_iload_n h0 dX8_opens_187 rfl ?_
    refine vx_if_eq (tgt := 198) h0 dX8_opens_188 (by decide) (fun c37 => ?_) (fun c37 => ?_)
    · replace hf := (if_pos c37).symm.trans hf
      exact PX8_opens_J198 hX (fun σ38 hf => hrec σ38 hf) hf
    · replace hf := (if_neg c37).symm.trans hf
      refine vx_iconst (v := (1 : Int32)) h0 dX8_opens_191 (by decide) ?_
      refine vx_iload h0 dX8_opens_192 rfl ?_
      refine vx_ishl h0 dX8_opens_194 ?_
      refine vx_goto (tgt := 199) h0 dX8_opens_195 (by decide) ?_
      exact PX8_opens_J199 hX (fun σ39 hf => hrec σ39 hf) hf
def FX8_opens_J112 (σ : SS) (rec : SS → Option (SS)) (v2 : Int32) (s0 : Int32) : Option (SS) :=
  bd (sI σ 22 ((gI σ 22) + (1 : Int32))) (fun σ18 => ob (FX8_figure σ18 (5 : Int32)) (fun p20 => if (gI p20.2 23) = 0 then gd (inb v2 16) (gd (inb v2 16) (ob (FX8_has p20.2 ((gA p20.2 14 (Int32.toNatClampNeg v2)) ||| (gA p20.2 15 (Int32.toNatClampNeg v2))) p20.1) (fun r44 => if r44 = 0 then FX8_opens_J173 p20.2 (fun σ46 => rec σ46) v2 s0 p20.1
    else bd (sI p20.2 22 ((gI p20.2 22) - (1 : Int32))) (fun σ47 => ob (FX8_fails σ47 (4 : Int32)) (fun σ49 => FX8_opens_J173 σ49 (fun σ50 => rec σ50) v2 s0 p20.1)))))
    else FX8_opens_J173 p20.2 (fun σ40 => rec σ40) v2 s0 p20.1))
set_option maxRecDepth 100000 in
set_option maxHeartbeats 4000000 in
theorem PX8_opens_J112 {X : Bx} {g : Gx} {σr : SS} {σ : SS} (hX : Okw wsM X g cX8_opens 5 RX8 none ({ frames := 3, cells := 0, slots := 0, locals := 64 } : Room) (fun g => none) σr) {rec : SS → Option (SS)} {v2 : Int32} {s0 : Int32} (hrec : ∀  (σ2 : SS), rec σ2 = some σr → Vx X g.1 5 (wsM g σ2) 68 [(0, .ref (g.2.1 0)), (2, .int v2)] []) (hf : FX8_opens_J112 σ rec v2 s0 = some σr) : Vx X g.1 5 (wsM g σ) 112 [(0, .ref (g.2.1 0)), (2, .int v2)] [.int s0] := by
  have h0 := hX.1
  rw [FX8_opens_J112] at hf
  refine vx_istore_n (ls' := [(3, .int s0), (0, .ref (g.2.1 0)), (2, .int v2)]) h0 dX8_opens_112 (by decide) rfl ?_
  refine vx_aload_n h0 dX8_opens_113 rfl ?_
  refine vx_dup h0 dX8_opens_114 rfl ?_
  refine mg_0_22 hX q806 dX8_opens_115 ?_
  refine vx_iconst (v := (1 : Int32)) h0 dX8_opens_118 (by decide) ?_
  refine vx_iadd h0 dX8_opens_119 ?_
  refine mp_0_22 hX q806 dX8_opens_120 ?_
  generalize (sI σ 22 ((gI σ 22) + (1 : Int32))) = σ18 at hf ⊢
  replace hf := bd_h hf
  refine vx_aload_n h0 dX8_opens_123 rfl ?_
  refine vx_iconst (v := (5 : Int32)) h0 dX8_opens_124 (by decide) ?_
  obtain ⟨p20, h19, hf⟩ := ob_some hf
  refine w_callV (st := []) (ci := 8) (q0 := 0) hX (c_X8_figure h19) ce_X8_figure q920 ⟨rfl, rfl⟩ ⟨by decide, by decide⟩ rfl rfl rfl rfl (mo_0 g _) rfl (Nat.le_of_ble_eq_true rfl) dX8_opens_125 ?_
  show Vx X g.1 5 (wsM g p20.2) 128 [(3, .int s0), (0, .ref (g.2.1 0)), (2, .int v2)] [.int p20.1]
  refine vx_istore (ls' := [(4, .int p20.1), (3, .int s0), (0, .ref (g.2.1 0)), (2, .int v2)]) h0 dX8_opens_128 (by decide) rfl ?_
  refine vx_aload_n h0 dX8_opens_130 rfl ?_
  refine mg_0_23 hX q807 dX8_opens_131 ?_
  refine vx_if_ne (tgt := 173) h0 dX8_opens_134 (by decide) (fun c21 => ?_) (fun c21 => ?_)
  · replace hf := (if_neg c21).symm.trans hf
    refine vx_sub [2, 3, 1, 0] rfl ?_
    exact PX8_opens_J173 hX (fun σ40 hf => hrec σ40 hf) hf
  · replace hf := (if_pos c21).symm.trans hf
    refine vx_aload_n h0 dX8_opens_137 rfl ?_
    refine mg_0_14 hX q798 dX8_opens_138 ?_
    refine vx_iload_n h0 dX8_opens_141 rfl ?_
    obtain ⟨b41, hf⟩ := gd_some hf
    refine ml_10 hX b41 dX8_opens_142 ?_
    refine vx_aload_n h0 dX8_opens_143 rfl ?_
    refine mg_0_15 hX q799 dX8_opens_144 ?_
    refine vx_iload_n h0 dX8_opens_147 rfl ?_
    obtain ⟨b42, hf⟩ := gd_some hf
    refine ml_11 hX b42 dX8_opens_148 ?_
    refine vx_ior h0 dX8_opens_149 ?_
    refine vx_iload h0 dX8_opens_150 rfl ?_
    obtain ⟨r44, h43, hf⟩ := ob_some hf
    refine w_callS (st := []) hX (c_X8_has h43) ce_X8_has q927 ⟨rfl, rfl⟩ ⟨by decide, by decide⟩ rfl rfl rfl (Nat.le_of_ble_eq_true rfl) dX8_opens_152 ?_
    show Vx X g.1 5 (wsM g p20.2) 155 [(4, .int p20.1), (3, .int s0), (0, .ref (g.2.1 0)), (2, .int v2)] [.int r44]
    refine vx_if_eq (tgt := 173) h0 dX8_opens_155 (by decide) (fun c45 => ?_) (fun c45 => ?_)
    · replace hf := (if_pos c45).symm.trans hf
      refine vx_sub [2, 3, 1, 0] rfl ?_
      exact PX8_opens_J173 hX (fun σ46 hf => hrec σ46 hf) hf
    · replace hf := (if_neg c45).symm.trans hf
      refine vx_aload_n h0 dX8_opens_158 rfl ?_
      refine vx_dup h0 dX8_opens_159 rfl ?_
      refine mg_0_22 hX q806 dX8_opens_160 ?_
      refine vx_iconst (v := (1 : Int32)) h0 dX8_opens_163 (by decide) ?_
      refine vx_isub h0 dX8_opens_164 ?_
      refine mp_0_22 hX q806 dX8_opens_165 ?_
      generalize (sI p20.2 22 ((gI p20.2 22) - (1 : Int32))) = σ47 at hf ⊢
      replace hf := bd_h hf
      refine vx_aload_n h0 dX8_opens_168 rfl ?_
      refine vx_iconst (v := (4 : Int32)) h0 dX8_opens_169 (by decide) ?_
      obtain ⟨σ49, h48, hf⟩ := ob_some hf
      refine w_callV (st := []) (ci := 8) (q0 := 0) hX (c_X8_fails h48) ce_X8_fails q916 ⟨rfl, rfl⟩ ⟨by decide, by decide⟩ rfl rfl rfl rfl (mo_0 g _) rfl (Nat.le_of_ble_eq_true rfl) dX8_opens_170 ?_
      show Vx X g.1 5 (wsM g σ49) 173 [(4, .int p20.1), (3, .int s0), (0, .ref (g.2.1 0)), (2, .int v2)] []
      refine vx_sub [2, 3, 1, 0] rfl ?_
      exact PX8_opens_J173 hX (fun σ50 hf => hrec σ50 hf) hf
def FX8_opens_J93 (σ : SS) (rec : SS → Option (SS)) (v2 : Int32) : Option (SS) :=
  gd (inb (gI σ 22) 240) (if (gA σ 0 (Int32.toNatClampNeg (gI σ 22))) = (43 : Int32) then FX8_opens_J112 σ (fun σ52 => rec σ52) v2 (1 : Int32)
    else FX8_opens_J112 σ (fun σ51 => rec σ51) v2 (0 : Int32))
set_option maxRecDepth 100000 in
set_option maxHeartbeats 4000000 in
theorem PX8_opens_J93 {X : Bx} {g : Gx} {σr : SS} {σ : SS} (hX : Okw wsM X g cX8_opens 5 RX8 none ({ frames := 3, cells := 0, slots := 0, locals := 64 } : Room) (fun g => none) σr) {rec : SS → Option (SS)} {v2 : Int32} (hrec : ∀  (σ2 : SS), rec σ2 = some σr → Vx X g.1 5 (wsM g σ2) 68 [(0, .ref (g.2.1 0)), (2, .int v2)] []) (hf : FX8_opens_J93 σ rec v2 = some σr) : Vx X g.1 5 (wsM g σ) 93 [(0, .ref (g.2.1 0)), (2, .int v2)] [] := by
  have h0 := hX.1
  rw [FX8_opens_J93] at hf
  refine vx_aload_n h0 dX8_opens_93 rfl ?_
  refine mg_0_0 hX q784 dX8_opens_94 ?_
  refine vx_aload_n h0 dX8_opens_97 rfl ?_
  refine mg_0_22 hX q806 dX8_opens_98 ?_
  obtain ⟨b16, hf⟩ := gd_some hf
  refine ml_1 hX b16 dX8_opens_101 ?_
  refine vx_bipush (v := (43 : Int32)) h0 dX8_opens_102 (by decide) ?_
  refine vx_icmp_ne (tgt := 111) h0 dX8_opens_104 (by decide) (fun c17 => ?_) (fun c17 => ?_)
  · replace hf := (if_neg c17).symm.trans hf
    refine vx_iconst (v := (0 : Int32)) h0 dX8_opens_111 (by decide) ?_
    exact PX8_opens_J112 hX (fun σ51 hf => hrec σ51 hf) hf
  · replace hf := (if_pos c17).symm.trans hf
    refine vx_iconst (v := (1 : Int32)) h0 dX8_opens_107 (by decide) ?_
    refine vx_goto (tgt := 112) h0 dX8_opens_108 (by decide) ?_
    exact PX8_opens_J112 hX (fun σ52 hf => hrec σ52 hf) hf
def FX8_opens_L68 (v2 : Int32) (k : SS → Option (SS)) : Nat → SS → Option (SS)
  | 0, _ => none
  | n + 1, σ => if (gI σ 23) = 0 then ob (FX8_sign σ) (fun p14 => if p14.1 = (43 : Int32) then FX8_opens_J93 p14.2 (fun σ53 => FX8_opens_L68 v2 k n σ53) v2
    else ob (FX8_sign p14.2) (fun p55 => if p55.1 = (45 : Int32) then FX8_opens_J93 p55.2 (fun σ57 => FX8_opens_L68 v2 k n σ57) v2
    else k p55.2))
    else k σ
set_option maxRecDepth 100000 in
set_option maxHeartbeats 4000000 in
theorem PX8_opens_L68 {X : Bx} {g : Gx} {σr : SS} (hX : Okw wsM X g cX8_opens 5 RX8 none ({ frames := 3, cells := 0, slots := 0, locals := 64 } : Room) (fun g => none) σr) {v2 : Int32} {k : SS → Option (SS)} (hk : ∀ (σ : SS), k σ = some σr → Vx X g.1 5 (wsM g σ) 232 [(0, .ref (g.2.1 0)), (2, .int v2)] []) : ∀ (n : Nat)  (σ : SS), FX8_opens_L68 v2 k n σ = some σr → Vx X g.1 5 (wsM g σ) 68 [(0, .ref (g.2.1 0)), (2, .int v2)] [] := by
  have h0 := hX.1
  intro n
  induction n with
  | zero =>
    intro σ hf
    rw [FX8_opens_L68] at hf
    cases hf
  | succ n ih =>
    intro σ hf
    rw [FX8_opens_L68] at hf
    refine vx_aload_n h0 dX8_opens_68 rfl ?_
    refine mg_0_23 hX q807 dX8_opens_69 ?_
    refine vx_if_ne (tgt := 232) h0 dX8_opens_72 (by decide) (fun c12 => ?_) (fun c12 => ?_)
    · replace hf := (if_neg c12).symm.trans hf
      exact hk _ hf
    · replace hf := (if_pos c12).symm.trans hf
      refine vx_aload_n h0 dX8_opens_75 rfl ?_
      obtain ⟨p14, h13, hf⟩ := ob_some hf
      refine w_callV (st := []) (ci := 8) (q0 := 0) hX (c_X8_sign h13) ce_X8_sign q908 ⟨rfl, rfl⟩ ⟨by decide, by decide⟩ rfl rfl rfl rfl (mo_0 g _) rfl (Nat.le_of_ble_eq_true rfl) dX8_opens_76 ?_
      show Vx X g.1 5 (wsM g p14.2) 79 [(0, .ref (g.2.1 0)), (2, .int v2)] [.int p14.1]
      refine vx_bipush (v := (43 : Int32)) h0 dX8_opens_79 (by decide) ?_
      refine vx_icmp_eq (tgt := 93) h0 dX8_opens_81 (by decide) (fun c15 => ?_) (fun c15 => ?_)
      · replace hf := (if_pos c15).symm.trans hf
        exact PX8_opens_J93 hX (fun σ53 hf => ih σ53 hf) hf
      · replace hf := (if_neg c15).symm.trans hf
        refine vx_aload_n h0 dX8_opens_84 rfl ?_
        obtain ⟨p55, h54, hf⟩ := ob_some hf
        refine w_callV (st := []) (ci := 8) (q0 := 0) hX (c_X8_sign h54) ce_X8_sign q908 ⟨rfl, rfl⟩ ⟨by decide, by decide⟩ rfl rfl rfl rfl (mo_0 g _) rfl (Nat.le_of_ble_eq_true rfl) dX8_opens_85 ?_
        show Vx X g.1 5 (wsM g p55.2) 88 [(0, .ref (g.2.1 0)), (2, .int v2)] [.int p55.1]
        refine vx_bipush (v := (45 : Int32)) h0 dX8_opens_88 (by decide) ?_
        refine vx_icmp_ne (tgt := 232) h0 dX8_opens_90 (by decide) (fun c56 => ?_) (fun c56 => ?_)
        · replace hf := (if_neg c56).symm.trans hf
          exact hk _ hf
        · replace hf := (if_pos c56).symm.trans hf
          exact PX8_opens_J93 hX (fun σ57 hf => ih σ57 hf) hf
def FX8_opens_J265 (σ : SS) : Option (SS) :=
  if (gI σ 23) = 0 then ob (FX8_sign σ) (fun p62 => if p62.1 = (40 : Int32) then bd (sI p62.2 22 ((gI p62.2 22) + (1 : Int32))) (fun σ66 => some σ66)
    else ob (FX8_fails p62.2 (1 : Int32)) (fun σ65 => some σ65))
    else some σ
set_option maxRecDepth 100000 in
set_option maxHeartbeats 4000000 in
theorem PX8_opens_J265 {X : Bx} {g : Gx} {σr : SS} {σ : SS} (hX : Okw wsM X g cX8_opens 5 RX8 none ({ frames := 3, cells := 0, slots := 0, locals := 64 } : Room) (fun g => none) σr) (hf : FX8_opens_J265 σ = some σr) : Vx X g.1 5 (wsM g σ) 265 [(0, .ref (g.2.1 0))] [] := by
  have h0 := hX.1
  rw [FX8_opens_J265] at hf
  refine vx_aload_n h0 dX8_opens_265 rfl ?_
  refine mg_0_23 hX q807 dX8_opens_266 ?_
  refine vx_if_ne (tgt := 299) h0 dX8_opens_269 (by decide) (fun c60 => ?_) (fun c60 => ?_)
  · replace hf := (if_neg c60).symm.trans hf
    exact w_vretE hX hf dX8_opens_299
  · replace hf := (if_pos c60).symm.trans hf
    refine vx_aload_n h0 dX8_opens_272 rfl ?_
    obtain ⟨p62, h61, hf⟩ := ob_some hf
    refine w_callV (st := []) (ci := 8) (q0 := 0) hX (c_X8_sign h61) ce_X8_sign q908 ⟨rfl, rfl⟩ ⟨by decide, by decide⟩ rfl rfl rfl rfl (mo_0 g _) rfl (Nat.le_of_ble_eq_true rfl) dX8_opens_273 ?_
    show Vx X g.1 5 (wsM g p62.2) 276 [(0, .ref (g.2.1 0))] [.int p62.1]
    refine vx_bipush (v := (40 : Int32)) h0 dX8_opens_276 (by decide) ?_
    refine vx_icmp_ne (tgt := 294) h0 dX8_opens_278 (by decide) (fun c63 => ?_) (fun c63 => ?_)
    · replace hf := (if_neg c63).symm.trans hf
      refine vx_aload_n h0 dX8_opens_294 rfl ?_
      refine vx_iconst (v := (1 : Int32)) h0 dX8_opens_295 (by decide) ?_
      obtain ⟨σ65, h64, hf⟩ := ob_some hf
      refine w_callV (st := []) (ci := 8) (q0 := 0) hX (c_X8_fails h64) ce_X8_fails q916 ⟨rfl, rfl⟩ ⟨by decide, by decide⟩ rfl rfl rfl rfl (mo_0 g _) rfl (Nat.le_of_ble_eq_true rfl) dX8_opens_296 ?_
      show Vx X g.1 5 (wsM g σ65) 299 [(0, .ref (g.2.1 0))] []
      exact w_vretE hX hf dX8_opens_299
    · replace hf := (if_pos c63).symm.trans hf
      refine vx_aload_n h0 dX8_opens_281 rfl ?_
      refine vx_dup h0 dX8_opens_282 rfl ?_
      refine mg_0_22 hX q806 dX8_opens_283 ?_
      refine vx_iconst (v := (1 : Int32)) h0 dX8_opens_286 (by decide) ?_
      refine vx_iadd h0 dX8_opens_287 ?_
      refine mp_0_22 hX q806 dX8_opens_288 ?_
      generalize (sI p62.2 22 ((gI p62.2 22) + (1 : Int32))) = σ66 at hf ⊢
      replace hf := bd_h hf
      refine vx_goto (tgt := 299) h0 dX8_opens_291 (by decide) ?_
      exact w_vretE hX hf dX8_opens_299
def FX8_opens (σ : SS) (a0 : Int32) : Option (SS) :=
  if (gI σ 12) = (16 : Int32) then ob (FX8_fails σ (3 : Int32)) (fun σ74 => some σ74)
    else bd (sI σ 22 ((gI σ 22) + (1 : Int32))) (fun σ2 => gd (inb (gI σ 12) 16) (bd (sA σ2 13 (upd (gA σ2 13) (Int32.toNatClampNeg (gI σ 12)) a0)) (fun σ4 => gd (inb (gI σ 12) 16) (bd (sA σ4 14 (upd (gA σ4 14) (Int32.toNatClampNeg (gI σ 12)) (0 : Int32))) (fun σ6 => gd (inb (gI σ 12) 16) (bd (sA σ6 15 (upd (gA σ6 15) (Int32.toNatClampNeg (gI σ 12)) (0 : Int32))) (fun σ8 => gd (inb (gI σ 12) 16) (bd (sA σ8 16 (upd (gA σ8 16) (Int32.toNatClampNeg (gI σ 12)) (0 : Int32))) (fun σ10 => bd (sI σ10 12 ((gI σ10 12) + (1 : Int32))) (fun σ11 => FX8_opens_L68 (gI σ 12) (fun σ58 => if (gI σ58 23) = 0 then ob (FX8_sign σ58) (fun p68 => if p68.1 = (42 : Int32) then gd (inb (gI σ 12) 16) (bd (sA p68.2 16 (upd (gA p68.2 16) (Int32.toNatClampNeg (gI σ 12)) (1 : Int32))) (fun σ71 => bd (sI σ71 22 ((gI σ71 22) + (1 : Int32))) (fun σ72 => FX8_opens_J265 σ72)))
    else FX8_opens_J265 p68.2)
    else FX8_opens_J265 σ58) 5000 σ11))))))))))
set_option maxRecDepth 100000 in
set_option maxHeartbeats 4000000 in
theorem c_X8_opens {σ : SS} {a0 : Int32} {σr : SS} (hf : FX8_opens σ a0 = some σr) : Mcw wsM yX8_opens cX8_opens 5 none ({ frames := 3, cells := 0, slots := 0, locals := 64 } : Room) (fun g => [.ref (g.2.1 0), .int a0]) σ (fun g => none) σr := by
  refine w_enter wsM_fix (by decide) (fun g => Nat.le_of_ble_eq_true rfl) ?_
  intro X g hX
  replace hX : Okw wsM X g cX8_opens 5 RX8 none ({ frames := 3, cells := 0, slots := 0, locals := 64 } : Room) (fun g => none) σr := hX
  have h0 := hX.1
  show Vx X g.1 5 (wsM g σ) 0 [(0, .ref (g.2.1 0)), (1, .int a0)] []
  rw [FX8_opens] at hf
  refine vx_aload_n h0 dX8_opens_0 rfl ?_
  refine mg_0_12 hX q796 dX8_opens_1 ?_
  refine vx_bipush (v := (16 : Int32)) h0 dX8_opens_4 (by decide) ?_
  refine vx_icmp_ne (tgt := 15) h0 dX8_opens_6 (by decide) (fun c1 => ?_) (fun c1 => ?_)
  · replace hf := (if_neg c1).symm.trans hf
    refine vx_aload_n h0 dX8_opens_15 rfl ?_
    refine mg_0_12 hX q796 dX8_opens_16 ?_
    refine vx_istore_n (ls' := [(2, .int (gI σ 12)), (0, .ref (g.2.1 0)), (1, .int a0)]) h0 dX8_opens_19 (by decide) rfl ?_
    refine vx_aload_n h0 dX8_opens_20 rfl ?_
    refine vx_dup h0 dX8_opens_21 rfl ?_
    refine mg_0_22 hX q806 dX8_opens_22 ?_
    refine vx_iconst (v := (1 : Int32)) h0 dX8_opens_25 (by decide) ?_
    refine vx_iadd h0 dX8_opens_26 ?_
    refine mp_0_22 hX q806 dX8_opens_27 ?_
    generalize (sI σ 22 ((gI σ 22) + (1 : Int32))) = σ2 at hf ⊢
    replace hf := bd_h hf
    refine vx_aload_n h0 dX8_opens_30 rfl ?_
    refine mg_0_13 hX q797 dX8_opens_31 ?_
    refine vx_iload_n h0 dX8_opens_34 rfl ?_
    refine vx_iload_n h0 dX8_opens_35 rfl ?_
    obtain ⟨b3, hf⟩ := gd_some hf
    refine ms_9 hX b3 dX8_opens_36 ?_
    generalize (sA σ2 13 (upd (gA σ2 13) (Int32.toNatClampNeg (gI σ 12)) a0)) = σ4 at hf ⊢
    replace hf := bd_h hf
    refine vx_aload_n h0 dX8_opens_37 rfl ?_
    refine mg_0_14 hX q798 dX8_opens_38 ?_
    refine vx_iload_n h0 dX8_opens_41 rfl ?_
    refine vx_iconst (v := (0 : Int32)) h0 dX8_opens_42 (by decide) ?_
    obtain ⟨b5, hf⟩ := gd_some hf
    refine ms_10 hX b5 dX8_opens_43 ?_
    generalize (sA σ4 14 (upd (gA σ4 14) (Int32.toNatClampNeg (gI σ 12)) (0 : Int32))) = σ6 at hf ⊢
    replace hf := bd_h hf
    refine vx_aload_n h0 dX8_opens_44 rfl ?_
    refine mg_0_15 hX q799 dX8_opens_45 ?_
    refine vx_iload_n h0 dX8_opens_48 rfl ?_
    refine vx_iconst (v := (0 : Int32)) h0 dX8_opens_49 (by decide) ?_
    obtain ⟨b7, hf⟩ := gd_some hf
    refine ms_11 hX b7 dX8_opens_50 ?_
    generalize (sA σ6 15 (upd (gA σ6 15) (Int32.toNatClampNeg (gI σ 12)) (0 : Int32))) = σ8 at hf ⊢
    replace hf := bd_h hf
    refine vx_aload_n h0 dX8_opens_51 rfl ?_
    refine mg_0_16 hX q800 dX8_opens_52 ?_
    refine vx_iload_n h0 dX8_opens_55 rfl ?_
    refine vx_iconst (v := (0 : Int32)) h0 dX8_opens_56 (by decide) ?_
    obtain ⟨b9, hf⟩ := gd_some hf
    refine ms_12 hX b9 dX8_opens_57 ?_
    generalize (sA σ8 16 (upd (gA σ8 16) (Int32.toNatClampNeg (gI σ 12)) (0 : Int32))) = σ10 at hf ⊢
    replace hf := bd_h hf
    refine vx_aload_n h0 dX8_opens_58 rfl ?_
    refine vx_dup h0 dX8_opens_59 rfl ?_
    refine mg_0_12 hX q796 dX8_opens_60 ?_
    refine vx_iconst (v := (1 : Int32)) h0 dX8_opens_63 (by decide) ?_
    refine vx_iadd h0 dX8_opens_64 ?_
    refine mp_0_12 hX q796 dX8_opens_65 ?_
    generalize (sI σ10 12 ((gI σ10 12) + (1 : Int32))) = σ11 at hf ⊢
    replace hf := bd_h hf
    refine vx_sub [1, 0] rfl ?_
    refine PX8_opens_L68 hX (fun σ58 hf => ?_) _ _ hf
    refine vx_aload_n h0 dX8_opens_232 rfl ?_
    refine mg_0_23 hX q807 dX8_opens_233 ?_
    refine vx_if_ne (tgt := 265) h0 dX8_opens_236 (by decide) (fun c59 => ?_) (fun c59 => ?_)
    · replace hf := (if_neg c59).symm.trans hf
      refine vx_sub [0] rfl ?_
      exact PX8_opens_J265 hX  hf
    · replace hf := (if_pos c59).symm.trans hf
      refine vx_aload_n h0 dX8_opens_239 rfl ?_
      obtain ⟨p68, h67, hf⟩ := ob_some hf
      refine w_callV (st := []) (ci := 8) (q0 := 0) hX (c_X8_sign h67) ce_X8_sign q908 ⟨rfl, rfl⟩ ⟨by decide, by decide⟩ rfl rfl rfl rfl (mo_0 g _) rfl (Nat.le_of_ble_eq_true rfl) dX8_opens_240 ?_
      show Vx X g.1 5 (wsM g p68.2) 243 [(0, .ref (g.2.1 0)), (2, .int (gI σ 12))] [.int p68.1]
      refine vx_bipush (v := (42 : Int32)) h0 dX8_opens_243 (by decide) ?_
      refine vx_icmp_ne (tgt := 265) h0 dX8_opens_245 (by decide) (fun c69 => ?_) (fun c69 => ?_)
      · replace hf := (if_neg c69).symm.trans hf
        refine vx_sub [0] rfl ?_
        exact PX8_opens_J265 hX  hf
      · replace hf := (if_pos c69).symm.trans hf
        refine vx_aload_n h0 dX8_opens_248 rfl ?_
        refine mg_0_16 hX q800 dX8_opens_249 ?_
        refine vx_iload_n h0 dX8_opens_252 rfl ?_
        refine vx_iconst (v := (1 : Int32)) h0 dX8_opens_253 (by decide) ?_
        obtain ⟨b70, hf⟩ := gd_some hf
        refine ms_12 hX b70 dX8_opens_254 ?_
        generalize (sA p68.2 16 (upd (gA p68.2 16) (Int32.toNatClampNeg (gI σ 12)) (1 : Int32))) = σ71 at hf ⊢
        replace hf := bd_h hf
        refine vx_aload_n h0 dX8_opens_255 rfl ?_
        refine vx_dup h0 dX8_opens_256 rfl ?_
        refine mg_0_22 hX q806 dX8_opens_257 ?_
        refine vx_iconst (v := (1 : Int32)) h0 dX8_opens_260 (by decide) ?_
        refine vx_iadd h0 dX8_opens_261 ?_
        refine mp_0_22 hX q806 dX8_opens_262 ?_
        generalize (sI σ71 22 ((gI σ71 22) + (1 : Int32))) = σ72 at hf ⊢
        replace hf := bd_h hf
        refine vx_sub [0] rfl ?_
        exact PX8_opens_J265 hX  hf
  · replace hf := (if_pos c1).symm.trans hf
    refine vx_aload_n h0 dX8_opens_9 rfl ?_
    refine vx_iconst (v := (3 : Int32)) h0 dX8_opens_10 (by decide) ?_
    obtain ⟨σ74, h73, hf⟩ := ob_some hf
    refine w_callV (st := []) (ci := 8) (q0 := 0) hX (c_X8_fails h73) ce_X8_fails q916 ⟨rfl, rfl⟩ ⟨by decide, by decide⟩ rfl rfl rfl rfl (mo_0 g _) rfl (Nat.le_of_ble_eq_true rfl) dX8_opens_11 ?_
    show Vx X g.1 5 (wsM g σ74) 14 [(0, .ref (g.2.1 0)), (1, .int a0)] []
    exact w_vretE hX hf dX8_opens_14
