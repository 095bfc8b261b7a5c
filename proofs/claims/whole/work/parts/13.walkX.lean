/-! printed by wip/whole/gen.py: decode rows, functions, contracts -/
theorem dX7_answer_0 : decode cX7_answer 0 = .ok (.iload_n 1, 1) := by decide +kernel
theorem dX7_answer_1 : decode cX7_answer 1 = .ok (.invokestatic 105, 3) := by decide +kernel
theorem dX7_answer_4 : decode cX7_answer 4 = .ok (.ifCond .ne 6, 3) := by decide +kernel
theorem dX7_answer_7 : decode cX7_answer 7 = .ok (.ldc 108, 2) := by decide +kernel
theorem dX7_answer_9 : decode cX7_answer 9 = .ok (.ireturn, 1) := by decide +kernel
theorem dX7_answer_10 : decode cX7_answer 10 = .ok (.aload_n 0, 1) := by decide +kernel
theorem dX7_answer_11 : decode cX7_answer 11 = .ok (.getfield 26, 3) := by decide +kernel
theorem dX7_answer_14 : decode cX7_answer 14 = .ok (.iload_n 1, 1) := by decide +kernel
theorem dX7_answer_15 : decode cX7_answer 15 = .ok (.invokevirtual 109, 3) := by decide +kernel
theorem dX7_answer_18 : decode cX7_answer 18 = .ok (.istore_n 3, 1) := by decide +kernel
theorem dX7_answer_19 : decode cX7_answer 19 = .ok (.iload_n 2, 1) := by decide +kernel
theorem dX7_answer_20 : decode cX7_answer 20 = .ok (.ifCond .eq 7, 3) := by decide +kernel
theorem dX7_answer_23 : decode cX7_answer 23 = .ok (.iconst 1, 1) := by decide +kernel
theorem dX7_answer_24 : decode cX7_answer 24 = .ok (.goto 4, 3) := by decide +kernel
theorem dX7_answer_27 : decode cX7_answer 27 = .ok (.iconst 0, 1) := by decide +kernel
theorem dX7_answer_28 : decode cX7_answer 28 = .ok (.istore 4, 2) := by decide +kernel
theorem dX7_answer_30 : decode cX7_answer 30 = .ok (.iload_n 3, 1) := by decide +kernel
theorem dX7_answer_31 : decode cX7_answer 31 = .ok (.iload 4, 2) := by decide +kernel
theorem dX7_answer_33 : decode cX7_answer 33 = .ok (.if_icmp .ne 6, 3) := by decide +kernel
theorem dX7_answer_36 : decode cX7_answer 36 = .ok (.ldc 113, 2) := by decide +kernel
theorem dX7_answer_38 : decode cX7_answer 38 = .ok (.ireturn, 1) := by decide +kernel
theorem dX7_answer_39 : decode cX7_answer 39 = .ok (.aload_n 0, 1) := by decide +kernel
theorem dX7_answer_40 : decode cX7_answer 40 = .ok (.getfield 33, 3) := by decide +kernel
theorem dX7_answer_43 : decode cX7_answer 43 = .ok (.aload_n 0, 1) := by decide +kernel
theorem dX7_answer_44 : decode cX7_answer 44 = .ok (.getfield 26, 3) := by decide +kernel
theorem dX7_answer_47 : decode cX7_answer 47 = .ok (.invokevirtual 114, 3) := by decide +kernel
theorem dX7_answer_50 : decode cX7_answer 50 = .ok (.invokevirtual 117, 3) := by decide +kernel
theorem dX7_answer_53 : decode cX7_answer 53 = .ok (.aload_n 0, 1) := by decide +kernel
theorem dX7_answer_54 : decode cX7_answer 54 = .ok (.getfield 26, 3) := by decide +kernel
theorem dX7_answer_57 : decode cX7_answer 57 = .ok (.iload_n 1, 1) := by decide +kernel
theorem dX7_answer_58 : decode cX7_answer 58 = .ok (.iload 4, 2) := by decide +kernel
theorem dX7_answer_60 : decode cX7_answer 60 = .ok (.invokevirtual 120, 3) := by decide +kernel
theorem dX7_answer_63 : decode cX7_answer 63 = .ok (.iload_n 3, 1) := by decide +kernel
theorem dX7_answer_64 : decode cX7_answer 64 = .ok (.ireturn, 1) := by decide +kernel
theorem dX7_forget_0 : decode cX7_forget 0 = .ok (.iload_n 1, 1) := by decide +kernel
theorem dX7_forget_1 : decode cX7_forget 1 = .ok (.invokestatic 105, 3) := by decide +kernel
theorem dX7_forget_4 : decode cX7_forget 4 = .ok (.ifCond .ne 6, 3) := by decide +kernel
theorem dX7_forget_7 : decode cX7_forget 7 = .ok (.ldc 108, 2) := by decide +kernel
theorem dX7_forget_9 : decode cX7_forget 9 = .ok (.ireturn, 1) := by decide +kernel
theorem dX7_forget_10 : decode cX7_forget 10 = .ok (.aload_n 0, 1) := by decide +kernel
theorem dX7_forget_11 : decode cX7_forget 11 = .ok (.getfield 26, 3) := by decide +kernel
theorem dX7_forget_14 : decode cX7_forget 14 = .ok (.iload_n 1, 1) := by decide +kernel
theorem dX7_forget_15 : decode cX7_forget 15 = .ok (.invokevirtual 109, 3) := by decide +kernel
theorem dX7_forget_18 : decode cX7_forget 18 = .ok (.istore_n 2, 1) := by decide +kernel
theorem dX7_forget_19 : decode cX7_forget 19 = .ok (.iload_n 2, 1) := by decide +kernel
theorem dX7_forget_20 : decode cX7_forget 20 = .ok (.iconst (-1), 1) := by decide +kernel
theorem dX7_forget_21 : decode cX7_forget 21 = .ok (.if_icmp .ne 6, 3) := by decide +kernel
theorem dX7_forget_24 : decode cX7_forget 24 = .ok (.ldc 113, 2) := by decide +kernel
theorem dX7_forget_26 : decode cX7_forget 26 = .ok (.ireturn, 1) := by decide +kernel
theorem dX7_forget_27 : decode cX7_forget 27 = .ok (.aload_n 0, 1) := by decide +kernel
theorem dX7_forget_28 : decode cX7_forget 28 = .ok (.getfield 33, 3) := by decide +kernel
theorem dX7_forget_31 : decode cX7_forget 31 = .ok (.aload_n 0, 1) := by decide +kernel
theorem dX7_forget_32 : decode cX7_forget 32 = .ok (.getfield 26, 3) := by decide +kernel
theorem dX7_forget_35 : decode cX7_forget 35 = .ok (.invokevirtual 114, 3) := by decide +kernel
theorem dX7_forget_38 : decode cX7_forget 38 = .ok (.invokevirtual 117, 3) := by decide +kernel
theorem dX7_forget_41 : decode cX7_forget 41 = .ok (.aload_n 0, 1) := by decide +kernel
theorem dX7_forget_42 : decode cX7_forget 42 = .ok (.getfield 26, 3) := by decide +kernel
theorem dX7_forget_45 : decode cX7_forget 45 = .ok (.iload_n 1, 1) := by decide +kernel
theorem dX7_forget_46 : decode cX7_forget 46 = .ok (.iconst (-1), 1) := by decide +kernel
theorem dX7_forget_47 : decode cX7_forget 47 = .ok (.invokevirtual 120, 3) := by decide +kernel
theorem dX7_forget_50 : decode cX7_forget 50 = .ok (.iload_n 2, 1) := by decide +kernel
theorem dX7_forget_51 : decode cX7_forget 51 = .ok (.ireturn, 1) := by decide +kernel
theorem dX7_isClause_0 : decode cX7_isClause 0 = .ok (.iload_n 1, 1) := by decide +kernel
theorem dX7_isClause_1 : decode cX7_isClause 1 = .ok (.ifCond .lt 18, 3) := by decide +kernel
theorem dX7_isClause_4 : decode cX7_isClause 4 = .ok (.iload_n 1, 1) := by decide +kernel
theorem dX7_isClause_5 : decode cX7_isClause 5 = .ok (.aload_n 0, 1) := by decide +kernel
theorem dX7_isClause_6 : decode cX7_isClause 6 = .ok (.getfield 19, 3) := by decide +kernel
theorem dX7_isClause_9 : decode cX7_isClause 9 = .ok (.getfield 99, 3) := by decide +kernel
theorem dX7_isClause_12 : decode cX7_isClause 12 = .ok (.if_icmp .ge 7, 3) := by decide +kernel
theorem dX7_isClause_15 : decode cX7_isClause 15 = .ok (.iconst 1, 1) := by decide +kernel
theorem dX7_isClause_16 : decode cX7_isClause 16 = .ok (.goto 4, 3) := by decide +kernel
theorem dX7_isClause_19 : decode cX7_isClause 19 = .ok (.iconst 0, 1) := by decide +kernel
theorem dX7_isClause_20 : decode cX7_isClause 20 = .ok (.ireturn, 1) := by decide +kernel
theorem dX7_inForceNow_0 : decode cX7_inForceNow 0 = .ok (.aload_n 0, 1) := by decide +kernel
theorem dX7_inForceNow_1 : decode cX7_inForceNow 1 = .ok (.getfield 49, 3) := by decide +kernel
theorem dX7_inForceNow_4 : decode cX7_inForceNow 4 = .ok (.aload_n 0, 1) := by decide +kernel
theorem dX7_inForceNow_5 : decode cX7_inForceNow 5 = .ok (.getfield 26, 3) := by decide +kernel
theorem dX7_inForceNow_8 : decode cX7_inForceNow 8 = .ok (.getfield 170, 3) := by decide +kernel
theorem dX7_inForceNow_11 : decode cX7_inForceNow 11 = .ok (.invokevirtual 277, 3) := by decide +kernel
theorem dX7_inForceNow_14 : decode cX7_inForceNow 14 = .ok (.ireturn, 1) := by decide +kernel
theorem dX7_strike_0 : decode cX7_strike 0 = .ok (.aload_n 0, 1) := by decide +kernel
theorem dX7_strike_1 : decode cX7_strike 1 = .ok (.iload_n 1, 1) := by decide +kernel
theorem dX7_strike_2 : decode cX7_strike 2 = .ok (.invokevirtual 124, 3) := by decide +kernel
theorem dX7_strike_5 : decode cX7_strike 5 = .ok (.ifCond .ne 6, 3) := by decide +kernel
theorem dX7_strike_8 : decode cX7_strike 8 = .ok (.ldc 108, 2) := by decide +kernel
theorem dX7_strike_10 : decode cX7_strike 10 = .ok (.ireturn, 1) := by decide +kernel
theorem dX7_strike_11 : decode cX7_strike 11 = .ok (.aload_n 0, 1) := by decide +kernel
theorem dX7_strike_12 : decode cX7_strike 12 = .ok (.getfield 26, 3) := by decide +kernel
theorem dX7_strike_15 : decode cX7_strike 15 = .ok (.getfield 89, 3) := by decide +kernel
theorem dX7_strike_18 : decode cX7_strike 18 = .ok (.iload_n 1, 1) := by decide +kernel
theorem dX7_strike_19 : decode cX7_strike 19 = .ok (.invokestatic 127, 3) := by decide +kernel
theorem dX7_strike_22 : decode cX7_strike 22 = .ok (.iload_n 2, 1) := by decide +kernel
theorem dX7_strike_23 : decode cX7_strike 23 = .ok (.if_icmp .ne 6, 3) := by decide +kernel
theorem dX7_strike_26 : decode cX7_strike 26 = .ok (.ldc 113, 2) := by decide +kernel
theorem dX7_strike_28 : decode cX7_strike 28 = .ok (.ireturn, 1) := by decide +kernel
theorem dX7_strike_29 : decode cX7_strike 29 = .ok (.aload_n 0, 1) := by decide +kernel
theorem dX7_strike_30 : decode cX7_strike 30 = .ok (.getfield 33, 3) := by decide +kernel
theorem dX7_strike_33 : decode cX7_strike 33 = .ok (.aload_n 0, 1) := by decide +kernel
theorem dX7_strike_34 : decode cX7_strike 34 = .ok (.getfield 26, 3) := by decide +kernel
theorem dX7_strike_37 : decode cX7_strike 37 = .ok (.invokevirtual 114, 3) := by decide +kernel
theorem dX7_strike_40 : decode cX7_strike 40 = .ok (.invokevirtual 117, 3) := by decide +kernel
theorem dX7_strike_43 : decode cX7_strike 43 = .ok (.aload_n 0, 1) := by decide +kernel
theorem dX7_strike_44 : decode cX7_strike 44 = .ok (.getfield 26, 3) := by decide +kernel
theorem dX7_strike_47 : decode cX7_strike 47 = .ok (.dup, 1) := by decide +kernel
theorem dX7_strike_48 : decode cX7_strike 48 = .ok (.getfield 89, 3) := by decide +kernel
theorem dX7_strike_51 : decode cX7_strike 51 = .ok (.iconst 1, 1) := by decide +kernel
theorem dX7_strike_52 : decode cX7_strike 52 = .ok (.iload_n 1, 1) := by decide +kernel
theorem dX7_strike_53 : decode cX7_strike 53 = .ok (.ishl, 1) := by decide +kernel
theorem dX7_strike_54 : decode cX7_strike 54 = .ok (.ixor, 1) := by decide +kernel
theorem dX7_strike_55 : decode cX7_strike 55 = .ok (.putfield 89, 3) := by decide +kernel
theorem dX7_strike_58 : decode cX7_strike 58 = .ok (.aload_n 0, 1) := by decide +kernel
theorem dX7_strike_59 : decode cX7_strike 59 = .ok (.getfield 49, 3) := by decide +kernel
theorem dX7_strike_62 : decode cX7_strike 62 = .ok (.aload_n 0, 1) := by decide +kernel
theorem dX7_strike_63 : decode cX7_strike 63 = .ok (.getfield 26, 3) := by decide +kernel
theorem dX7_strike_66 : decode cX7_strike 66 = .ok (.getfield 89, 3) := by decide +kernel
theorem dX7_strike_69 : decode cX7_strike 69 = .ok (.invokevirtual 95, 3) := by decide +kernel
theorem dX7_strike_72 : decode cX7_strike 72 = .ok (.aload_n 0, 1) := by decide +kernel
theorem dX7_strike_73 : decode cX7_strike 73 = .ok (.invokevirtual 131, 3) := by decide +kernel
theorem dX7_strike_76 : decode cX7_strike 76 = .ok (.invokestatic 134, 3) := by decide +kernel
theorem dX7_strike_79 : decode cX7_strike 79 = .ok (.ireturn, 1) := by decide +kernel
theorem dX7_drift_0 : decode cX7_drift 0 = .ok (.iload_n 1, 1) := by decide +kernel
theorem dX7_drift_1 : decode cX7_drift 1 = .ok (.iconst 1, 1) := by decide +kernel
theorem dX7_drift_2 : decode cX7_drift 2 = .ok (.if_icmp .lt 9, 3) := by decide +kernel
theorem dX7_drift_5 : decode cX7_drift 5 = .ok (.iload_n 1, 1) := by decide +kernel
theorem dX7_drift_6 : decode cX7_drift 6 = .ok (.ldc 139, 2) := by decide +kernel
theorem dX7_drift_8 : decode cX7_drift 8 = .ok (.if_icmp .le 6, 3) := by decide +kernel
theorem dX7_drift_11 : decode cX7_drift 11 = .ok (.ldc 69, 2) := by decide +kernel
theorem dX7_drift_13 : decode cX7_drift 13 = .ok (.ireturn, 1) := by decide +kernel
theorem dX7_drift_14 : decode cX7_drift 14 = .ok (.aload_n 0, 1) := by decide +kernel
theorem dX7_drift_15 : decode cX7_drift 15 = .ok (.getfield 33, 3) := by decide +kernel
theorem dX7_drift_18 : decode cX7_drift 18 = .ok (.aload_n 0, 1) := by decide +kernel
theorem dX7_drift_19 : decode cX7_drift 19 = .ok (.getfield 26, 3) := by decide +kernel
theorem dX7_drift_22 : decode cX7_drift 22 = .ok (.invokevirtual 114, 3) := by decide +kernel
theorem dX7_drift_25 : decode cX7_drift 25 = .ok (.invokevirtual 117, 3) := by decide +kernel
theorem dX7_drift_28 : decode cX7_drift 28 = .ok (.iload_n 1, 1) := by decide +kernel
theorem dX7_drift_29 : decode cX7_drift 29 = .ok (.i2l, 1) := by decide +kernel
theorem dX7_drift_30 : decode cX7_drift 30 = .ok (.lstore_n 2, 1) := by decide +kernel
theorem dX7_drift_31 : decode cX7_drift 31 = .ok (.iconst 0, 1) := by decide +kernel
theorem dX7_drift_32 : decode cX7_drift 32 = .ok (.istore 4, 2) := by decide +kernel
theorem dX7_drift_34 : decode cX7_drift 34 = .ok (.iload 4, 2) := by decide +kernel
theorem dX7_drift_36 : decode cX7_drift 36 = .ok (.bipush 6, 2) := by decide +kernel
theorem dX7_drift_38 : decode cX7_drift 38 = .ok (.if_icmp .ge 48, 3) := by decide +kernel
theorem dX7_drift_41 : decode cX7_drift 41 = .ok (.lload_n 2, 1) := by decide +kernel
theorem dX7_drift_42 : decode cX7_drift 42 = .ok (.ldc2_w 140, 3) := by decide +kernel
theorem dX7_drift_45 : decode cX7_drift 45 = .ok (.lmul, 1) := by decide +kernel
theorem dX7_drift_46 : decode cX7_drift 46 = .ok (.ldc2_w 142, 3) := by decide +kernel
theorem dX7_drift_49 : decode cX7_drift 49 = .ok (.lrem, 1) := by decide +kernel
theorem dX7_drift_50 : decode cX7_drift 50 = .ok (.lstore_n 2, 1) := by decide +kernel
theorem dX7_drift_51 : decode cX7_drift 51 = .ok (.lload_n 2, 1) := by decide +kernel
theorem dX7_drift_52 : decode cX7_drift 52 = .ok (.ldc2_w 144, 3) := by decide +kernel
theorem dX7_drift_55 : decode cX7_drift 55 = .ok (.lrem, 1) := by decide +kernel
theorem dX7_drift_56 : decode cX7_drift 56 = .ok (.l2i, 1) := by decide +kernel
theorem dX7_drift_57 : decode cX7_drift 57 = .ok (.istore 5, 2) := by decide +kernel
theorem dX7_drift_59 : decode cX7_drift 59 = .ok (.aload_n 0, 1) := by decide +kernel
theorem dX7_drift_60 : decode cX7_drift 60 = .ok (.getfield 26, 3) := by decide +kernel
theorem dX7_drift_63 : decode cX7_drift 63 = .ok (.iload 4, 2) := by decide +kernel
theorem dX7_drift_65 : decode cX7_drift 65 = .ok (.iload 5, 2) := by decide +kernel
theorem dX7_drift_67 : decode cX7_drift 67 = .ok (.iconst 2, 1) := by decide +kernel
theorem dX7_drift_68 : decode cX7_drift 68 = .ok (.if_icmp .ne 7, 3) := by decide +kernel
theorem dX7_drift_71 : decode cX7_drift 71 = .ok (.iconst (-1), 1) := by decide +kernel
theorem dX7_drift_72 : decode cX7_drift 72 = .ok (.goto 5, 3) := by decide +kernel
theorem dX7_drift_75 : decode cX7_drift 75 = .ok (.iload 5, 2) := by decide +kernel
theorem dX7_drift_77 : decode cX7_drift 77 = .ok (.invokevirtual 120, 3) := by decide +kernel
theorem dX7_drift_80 : decode cX7_drift 80 = .ok (.iinc 4 1, 3) := by decide +kernel
theorem dX7_drift_83 : decode cX7_drift 83 = .ok (.goto (-49), 3) := by decide +kernel
theorem dX7_drift_86 : decode cX7_drift 86 = .ok (.aload_n 0, 1) := by decide +kernel
theorem dX7_drift_87 : decode cX7_drift 87 = .ok (.invokevirtual 131, 3) := by decide +kernel
theorem dX7_drift_90 : decode cX7_drift 90 = .ok (.invokestatic 134, 3) := by decide +kernel
theorem dX7_drift_93 : decode cX7_drift 93 = .ok (.ireturn, 1) := by decide +kernel
theorem dX7_restore_0 : decode cX7_restore 0 = .ok (.aload_n 0, 1) := by decide +kernel
theorem dX7_restore_1 : decode cX7_restore 1 = .ok (.getfield 26, 3) := by decide +kernel
theorem dX7_restore_4 : decode cX7_restore 4 = .ok (.getfield 89, 3) := by decide +kernel
theorem dX7_restore_7 : decode cX7_restore 7 = .ok (.istore_n 2, 1) := by decide +kernel
theorem dX7_restore_8 : decode cX7_restore 8 = .ok (.aload_n 0, 1) := by decide +kernel
theorem dX7_restore_9 : decode cX7_restore 9 = .ok (.getfield 26, 3) := by decide +kernel
theorem dX7_restore_12 : decode cX7_restore 12 = .ok (.iload_n 1, 1) := by decide +kernel
theorem dX7_restore_13 : decode cX7_restore 13 = .ok (.invokevirtual 286, 3) := by decide +kernel
theorem dX7_restore_16 : decode cX7_restore 16 = .ok (.aload_n 0, 1) := by decide +kernel
theorem dX7_restore_17 : decode cX7_restore 17 = .ok (.getfield 26, 3) := by decide +kernel
theorem dX7_restore_20 : decode cX7_restore 20 = .ok (.getfield 89, 3) := by decide +kernel
theorem dX7_restore_23 : decode cX7_restore 23 = .ok (.iload_n 2, 1) := by decide +kernel
theorem dX7_restore_24 : decode cX7_restore 24 = .ok (.if_icmp .eq 17, 3) := by decide +kernel
theorem dX7_restore_27 : decode cX7_restore 27 = .ok (.aload_n 0, 1) := by decide +kernel
theorem dX7_restore_28 : decode cX7_restore 28 = .ok (.getfield 49, 3) := by decide +kernel
theorem dX7_restore_31 : decode cX7_restore 31 = .ok (.aload_n 0, 1) := by decide +kernel
theorem dX7_restore_32 : decode cX7_restore 32 = .ok (.getfield 26, 3) := by decide +kernel
theorem dX7_restore_35 : decode cX7_restore 35 = .ok (.getfield 89, 3) := by decide +kernel
theorem dX7_restore_38 : decode cX7_restore 38 = .ok (.invokevirtual 95, 3) := by decide +kernel
theorem dX7_restore_41 : decode cX7_restore 41 = .ok (.return_, 1) := by decide +kernel
theorem dX7_undo_0 : decode cX7_undo 0 = .ok (.aload_n 0, 1) := by decide +kernel
theorem dX7_undo_1 : decode cX7_undo 1 = .ok (.getfield 33, 3) := by decide +kernel
theorem dX7_undo_4 : decode cX7_undo 4 = .ok (.getfield 146, 3) := by decide +kernel
theorem dX7_undo_7 : decode cX7_undo 7 = .ok (.ifCond .ne 6, 3) := by decide +kernel
theorem dX7_undo_10 : decode cX7_undo 10 = .ok (.ldc 113, 2) := by decide +kernel
theorem dX7_undo_12 : decode cX7_undo 12 = .ok (.ireturn, 1) := by decide +kernel
theorem dX7_undo_13 : decode cX7_undo 13 = .ok (.aload_n 0, 1) := by decide +kernel
theorem dX7_undo_14 : decode cX7_undo 14 = .ok (.aload_n 0, 1) := by decide +kernel
theorem dX7_undo_15 : decode cX7_undo 15 = .ok (.getfield 33, 3) := by decide +kernel
theorem dX7_undo_18 : decode cX7_undo 18 = .ok (.invokevirtual 149, 3) := by decide +kernel
theorem dX7_undo_21 : decode cX7_undo 21 = .ok (.invokevirtual 152, 3) := by decide +kernel
theorem dX7_undo_24 : decode cX7_undo 24 = .ok (.aload_n 0, 1) := by decide +kernel
theorem dX7_undo_25 : decode cX7_undo 25 = .ok (.getfield 33, 3) := by decide +kernel
theorem dX7_undo_28 : decode cX7_undo 28 = .ok (.getfield 146, 3) := by decide +kernel
theorem dX7_undo_31 : decode cX7_undo 31 = .ok (.ireturn, 1) := by decide +kernel
theorem dX7_answerOf_0 : decode cX7_answerOf 0 = .ok (.iload_n 1, 1) := by decide +kernel
theorem dX7_answerOf_1 : decode cX7_answerOf 1 = .ok (.invokestatic 105, 3) := by decide +kernel
theorem dX7_answerOf_4 : decode cX7_answerOf 4 = .ok (.ifCond .eq 14, 3) := by decide +kernel
theorem dX7_answerOf_7 : decode cX7_answerOf 7 = .ok (.aload_n 0, 1) := by decide +kernel
theorem dX7_answerOf_8 : decode cX7_answerOf 8 = .ok (.getfield 26, 3) := by decide +kernel
theorem dX7_answerOf_11 : decode cX7_answerOf 11 = .ok (.iload_n 1, 1) := by decide +kernel
theorem dX7_answerOf_12 : decode cX7_answerOf 12 = .ok (.invokevirtual 109, 3) := by decide +kernel
theorem dX7_answerOf_15 : decode cX7_answerOf 15 = .ok (.goto 5, 3) := by decide +kernel
theorem dX7_answerOf_18 : decode cX7_answerOf 18 = .ok (.ldc 108, 2) := by decide +kernel
theorem dX7_answerOf_20 : decode cX7_answerOf 20 = .ok (.ireturn, 1) := by decide +kernel
theorem dX7_told_0 : decode cX7_told 0 = .ok (.iload_n 1, 1) := by decide +kernel
theorem dX7_told_1 : decode cX7_told 1 = .ok (.tableswitch 207 0 14 #[75, 83, 91, 99, 107, 112, 120, 128, 136, 144, 159, 167, 175, 183, 199], 75) := by decide +kernel
theorem dX7_told_76 : decode cX7_told 76 = .ok (.aload_n 0, 1) := by decide +kernel
theorem dX7_told_77 : decode cX7_told 77 = .ok (.getfield 19, 3) := by decide +kernel
theorem dX7_told_80 : decode cX7_told 80 = .ok (.getfield 99, 3) := by decide +kernel
theorem dX7_told_83 : decode cX7_told 83 = .ok (.ireturn, 1) := by decide +kernel
theorem dX7_told_84 : decode cX7_told 84 = .ok (.aload_n 0, 1) := by decide +kernel
theorem dX7_told_85 : decode cX7_told 85 = .ok (.getfield 19, 3) := by decide +kernel
theorem dX7_told_88 : decode cX7_told 88 = .ok (.getfield 155, 3) := by decide +kernel
theorem dX7_told_91 : decode cX7_told 91 = .ok (.ireturn, 1) := by decide +kernel
theorem dX7_told_92 : decode cX7_told 92 = .ok (.aload_n 0, 1) := by decide +kernel
theorem dX7_told_93 : decode cX7_told 93 = .ok (.getfield 10, 3) := by decide +kernel
theorem dX7_told_96 : decode cX7_told 96 = .ok (.getfield 74, 3) := by decide +kernel
theorem dX7_told_99 : decode cX7_told 99 = .ok (.ireturn, 1) := by decide +kernel
theorem dX7_told_100 : decode cX7_told 100 = .ok (.aload_n 0, 1) := by decide +kernel
theorem dX7_told_101 : decode cX7_told 101 = .ok (.getfield 26, 3) := by decide +kernel
theorem dX7_told_104 : decode cX7_told 104 = .ok (.getfield 158, 3) := by decide +kernel
theorem dX7_told_107 : decode cX7_told 107 = .ok (.ireturn, 1) := by decide +kernel
theorem dX7_told_108 : decode cX7_told 108 = .ok (.aload_n 0, 1) := by decide +kernel
theorem dX7_told_109 : decode cX7_told 109 = .ok (.invokevirtual 131, 3) := by decide +kernel
theorem dX7_told_112 : decode cX7_told 112 = .ok (.ireturn, 1) := by decide +kernel
theorem dX7_told_113 : decode cX7_told 113 = .ok (.aload_n 0, 1) := by decide +kernel
theorem dX7_told_114 : decode cX7_told 114 = .ok (.getfield 58, 3) := by decide +kernel
theorem dX7_told_117 : decode cX7_told 117 = .ok (.invokevirtual 161, 3) := by decide +kernel
theorem dX7_told_120 : decode cX7_told 120 = .ok (.ireturn, 1) := by decide +kernel
theorem dX7_told_121 : decode cX7_told 121 = .ok (.aload_n 0, 1) := by decide +kernel
theorem dX7_told_122 : decode cX7_told 122 = .ok (.getfield 58, 3) := by decide +kernel
theorem dX7_told_125 : decode cX7_told 125 = .ok (.invokevirtual 164, 3) := by decide +kernel
theorem dX7_told_128 : decode cX7_told 128 = .ok (.ireturn, 1) := by decide +kernel
theorem dX7_told_129 : decode cX7_told 129 = .ok (.aload_n 0, 1) := by decide +kernel
theorem dX7_told_130 : decode cX7_told 130 = .ok (.getfield 58, 3) := by decide +kernel
theorem dX7_told_133 : decode cX7_told 133 = .ok (.invokevirtual 167, 3) := by decide +kernel
theorem dX7_told_136 : decode cX7_told 136 = .ok (.ireturn, 1) := by decide +kernel
theorem dX7_told_137 : decode cX7_told 137 = .ok (.aload_n 0, 1) := by decide +kernel
theorem dX7_told_138 : decode cX7_told 138 = .ok (.getfield 26, 3) := by decide +kernel
theorem dX7_told_141 : decode cX7_told 141 = .ok (.getfield 89, 3) := by decide +kernel
theorem dX7_told_144 : decode cX7_told 144 = .ok (.ireturn, 1) := by decide +kernel
theorem dX7_told_145 : decode cX7_told 145 = .ok (.aload_n 0, 1) := by decide +kernel
theorem dX7_told_146 : decode cX7_told 146 = .ok (.getfield 49, 3) := by decide +kernel
theorem dX7_told_149 : decode cX7_told 149 = .ok (.aload_n 0, 1) := by decide +kernel
theorem dX7_told_150 : decode cX7_told 150 = .ok (.getfield 26, 3) := by decide +kernel
theorem dX7_told_153 : decode cX7_told 153 = .ok (.getfield 170, 3) := by decide +kernel
theorem dX7_told_156 : decode cX7_told 156 = .ok (.invokevirtual 173, 3) := by decide +kernel
theorem dX7_told_159 : decode cX7_told 159 = .ok (.ireturn, 1) := by decide +kernel
theorem dX7_told_160 : decode cX7_told 160 = .ok (.aload_n 0, 1) := by decide +kernel
theorem dX7_told_161 : decode cX7_told 161 = .ok (.getfield 58, 3) := by decide +kernel
theorem dX7_told_164 : decode cX7_told 164 = .ok (.invokevirtual 176, 3) := by decide +kernel
theorem dX7_told_167 : decode cX7_told 167 = .ok (.ireturn, 1) := by decide +kernel
theorem dX7_told_168 : decode cX7_told 168 = .ok (.aload_n 0, 1) := by decide +kernel
theorem dX7_told_169 : decode cX7_told 169 = .ok (.getfield 58, 3) := by decide +kernel
theorem dX7_told_172 : decode cX7_told 172 = .ok (.invokevirtual 179, 3) := by decide +kernel
theorem dX7_told_175 : decode cX7_told 175 = .ok (.ireturn, 1) := by decide +kernel
theorem dX7_told_176 : decode cX7_told 176 = .ok (.aload_n 0, 1) := by decide +kernel
theorem dX7_told_177 : decode cX7_told 177 = .ok (.getfield 58, 3) := by decide +kernel
theorem dX7_told_180 : decode cX7_told 180 = .ok (.invokevirtual 182, 3) := by decide +kernel
theorem dX7_told_183 : decode cX7_told 183 = .ok (.ireturn, 1) := by decide +kernel
theorem dX7_told_184 : decode cX7_told 184 = .ok (.aload_n 0, 1) := by decide +kernel
theorem dX7_told_185 : decode cX7_told 185 = .ok (.getfield 65, 3) := by decide +kernel
theorem dX7_told_188 : decode cX7_told 188 = .ok (.iconst (-1), 1) := by decide +kernel
theorem dX7_told_189 : decode cX7_told 189 = .ok (.aload_n 0, 1) := by decide +kernel
theorem dX7_told_190 : decode cX7_told 190 = .ok (.invokevirtual 131, 3) := by decide +kernel
theorem dX7_told_193 : decode cX7_told 193 = .ok (.invokevirtual 185, 3) := by decide +kernel
theorem dX7_told_196 : decode cX7_told 196 = .ok (.getfield 189, 3) := by decide +kernel
theorem dX7_told_199 : decode cX7_told 199 = .ok (.ireturn, 1) := by decide +kernel
theorem dX7_told_200 : decode cX7_told 200 = .ok (.aload_n 0, 1) := by decide +kernel
theorem dX7_told_201 : decode cX7_told 201 = .ok (.getfield 33, 3) := by decide +kernel
theorem dX7_told_204 : decode cX7_told 204 = .ok (.getfield 146, 3) := by decide +kernel
theorem dX7_told_207 : decode cX7_told 207 = .ok (.ireturn, 1) := by decide +kernel
theorem dX7_told_208 : decode cX7_told 208 = .ok (.ldc 69, 2) := by decide +kernel
theorem dX7_told_210 : decode cX7_told 210 = .ok (.ireturn, 1) := by decide +kernel
theorem dX7_wrong_0 : decode cX7_wrong 0 = .ok (.aload_n 0, 1) := by decide +kernel
theorem dX7_wrong_1 : decode cX7_wrong 1 = .ok (.getfield 26, 3) := by decide +kernel
theorem dX7_wrong_4 : decode cX7_wrong 4 = .ok (.getfield 170, 3) := by decide +kernel
theorem dX7_wrong_7 : decode cX7_wrong 7 = .ok (.istore_n 2, 1) := by decide +kernel
theorem dX7_wrong_8 : decode cX7_wrong 8 = .ok (.iload_n 1, 1) := by decide +kernel
theorem dX7_wrong_9 : decode cX7_wrong 9 = .ok (.tableswitch 116 0 6 #[43, 53, 63, 72, 82, 91, 107], 43) := by decide +kernel
theorem dX7_wrong_52 : decode cX7_wrong 52 = .ok (.aload_n 0, 1) := by decide +kernel
theorem dX7_wrong_53 : decode cX7_wrong 53 = .ok (.getfield 49, 3) := by decide +kernel
theorem dX7_wrong_56 : decode cX7_wrong 56 = .ok (.iconst 1, 1) := by decide +kernel
theorem dX7_wrong_57 : decode cX7_wrong 57 = .ok (.iload_n 2, 1) := by decide +kernel
theorem dX7_wrong_58 : decode cX7_wrong 58 = .ok (.invokevirtual 192, 3) := by decide +kernel
theorem dX7_wrong_61 : decode cX7_wrong 61 = .ok (.ireturn, 1) := by decide +kernel
theorem dX7_wrong_62 : decode cX7_wrong 62 = .ok (.aload_n 0, 1) := by decide +kernel
theorem dX7_wrong_63 : decode cX7_wrong 63 = .ok (.getfield 49, 3) := by decide +kernel
theorem dX7_wrong_66 : decode cX7_wrong 66 = .ok (.iconst 0, 1) := by decide +kernel
theorem dX7_wrong_67 : decode cX7_wrong 67 = .ok (.iload_n 2, 1) := by decide +kernel
theorem dX7_wrong_68 : decode cX7_wrong 68 = .ok (.invokevirtual 192, 3) := by decide +kernel
theorem dX7_wrong_71 : decode cX7_wrong 71 = .ok (.ireturn, 1) := by decide +kernel
theorem dX7_wrong_72 : decode cX7_wrong 72 = .ok (.aload_n 0, 1) := by decide +kernel
theorem dX7_wrong_73 : decode cX7_wrong 73 = .ok (.getfield 49, 3) := by decide +kernel
theorem dX7_wrong_76 : decode cX7_wrong 76 = .ok (.iload_n 2, 1) := by decide +kernel
theorem dX7_wrong_77 : decode cX7_wrong 77 = .ok (.invokevirtual 196, 3) := by decide +kernel
theorem dX7_wrong_80 : decode cX7_wrong 80 = .ok (.ireturn, 1) := by decide +kernel
theorem dX7_wrong_81 : decode cX7_wrong 81 = .ok (.aload_n 0, 1) := by decide +kernel
theorem dX7_wrong_82 : decode cX7_wrong 82 = .ok (.getfield 49, 3) := by decide +kernel
theorem dX7_wrong_85 : decode cX7_wrong 85 = .ok (.iconst 2, 1) := by decide +kernel
theorem dX7_wrong_86 : decode cX7_wrong 86 = .ok (.iload_n 2, 1) := by decide +kernel
theorem dX7_wrong_87 : decode cX7_wrong 87 = .ok (.invokevirtual 192, 3) := by decide +kernel
theorem dX7_wrong_90 : decode cX7_wrong 90 = .ok (.ireturn, 1) := by decide +kernel
theorem dX7_wrong_91 : decode cX7_wrong 91 = .ok (.aload_n 0, 1) := by decide +kernel
theorem dX7_wrong_92 : decode cX7_wrong 92 = .ok (.getfield 49, 3) := by decide +kernel
theorem dX7_wrong_95 : decode cX7_wrong 95 = .ok (.iload_n 2, 1) := by decide +kernel
theorem dX7_wrong_96 : decode cX7_wrong 96 = .ok (.invokevirtual 199, 3) := by decide +kernel
theorem dX7_wrong_99 : decode cX7_wrong 99 = .ok (.ireturn, 1) := by decide +kernel
theorem dX7_wrong_100 : decode cX7_wrong 100 = .ok (.aload_n 0, 1) := by decide +kernel
theorem dX7_wrong_101 : decode cX7_wrong 101 = .ok (.getfield 19, 3) := by decide +kernel
theorem dX7_wrong_104 : decode cX7_wrong 104 = .ok (.aload_n 0, 1) := by decide +kernel
theorem dX7_wrong_105 : decode cX7_wrong 105 = .ok (.getfield 49, 3) := by decide +kernel
theorem dX7_wrong_108 : decode cX7_wrong 108 = .ok (.iload_n 2, 1) := by decide +kernel
theorem dX7_wrong_109 : decode cX7_wrong 109 = .ok (.invokevirtual 202, 3) := by decide +kernel
theorem dX7_wrong_112 : decode cX7_wrong 112 = .ok (.invokevirtual 205, 3) := by decide +kernel
theorem dX7_wrong_115 : decode cX7_wrong 115 = .ok (.ireturn, 1) := by decide +kernel
theorem dX7_wrong_116 : decode cX7_wrong 116 = .ok (.aload_n 0, 1) := by decide +kernel
theorem dX7_wrong_117 : decode cX7_wrong 117 = .ok (.getfield 49, 3) := by decide +kernel
theorem dX7_wrong_120 : decode cX7_wrong 120 = .ok (.iload_n 2, 1) := by decide +kernel
theorem dX7_wrong_121 : decode cX7_wrong 121 = .ok (.invokevirtual 202, 3) := by decide +kernel
theorem dX7_wrong_124 : decode cX7_wrong 124 = .ok (.ireturn, 1) := by decide +kernel
theorem dX7_wrong_125 : decode cX7_wrong 125 = .ok (.ldc 69, 2) := by decide +kernel
theorem dX7_wrong_127 : decode cX7_wrong 127 = .ok (.ireturn, 1) := by decide +kernel
theorem dX7_clause_0 : decode cX7_clause 0 = .ok (.aload_n 0, 1) := by decide +kernel
theorem dX7_clause_1 : decode cX7_clause 1 = .ok (.iload_n 1, 1) := by decide +kernel
theorem dX7_clause_2 : decode cX7_clause 2 = .ok (.invokevirtual 124, 3) := by decide +kernel
theorem dX7_clause_5 : decode cX7_clause 5 = .ok (.ifCond .ne 6, 3) := by decide +kernel
theorem dX7_clause_8 : decode cX7_clause 8 = .ok (.ldc 108, 2) := by decide +kernel
theorem dX7_clause_10 : decode cX7_clause 10 = .ok (.ireturn, 1) := by decide +kernel
theorem dX7_clause_11 : decode cX7_clause 11 = .ok (.iload_n 2, 1) := by decide +kernel
theorem dX7_clause_12 : decode cX7_clause 12 = .ok (.tableswitch 188 0 9 #[56, 66, 76, 85, 95, 105, 125, 134, 161, 178], 56) := by decide +kernel
theorem dX7_clause_68 : decode cX7_clause 68 = .ok (.aload_n 0, 1) := by decide +kernel
theorem dX7_clause_69 : decode cX7_clause 69 = .ok (.getfield 19, 3) := by decide +kernel
theorem dX7_clause_72 : decode cX7_clause 72 = .ok (.getfield 208, 3) := by decide +kernel
theorem dX7_clause_75 : decode cX7_clause 75 = .ok (.iload_n 1, 1) := by decide +kernel
theorem dX7_clause_76 : decode cX7_clause 76 = .ok (.iaload, 1) := by decide +kernel
theorem dX7_clause_77 : decode cX7_clause 77 = .ok (.ireturn, 1) := by decide +kernel
theorem dX7_clause_78 : decode cX7_clause 78 = .ok (.aload_n 0, 1) := by decide +kernel
theorem dX7_clause_79 : decode cX7_clause 79 = .ok (.getfield 19, 3) := by decide +kernel
theorem dX7_clause_82 : decode cX7_clause 82 = .ok (.getfield 211, 3) := by decide +kernel
theorem dX7_clause_85 : decode cX7_clause 85 = .ok (.iload_n 1, 1) := by decide +kernel
theorem dX7_clause_86 : decode cX7_clause 86 = .ok (.iaload, 1) := by decide +kernel
theorem dX7_clause_87 : decode cX7_clause 87 = .ok (.ireturn, 1) := by decide +kernel
theorem dX7_clause_88 : decode cX7_clause 88 = .ok (.aload_n 0, 1) := by decide +kernel
theorem dX7_clause_89 : decode cX7_clause 89 = .ok (.getfield 19, 3) := by decide +kernel
theorem dX7_clause_92 : decode cX7_clause 92 = .ok (.iload_n 1, 1) := by decide +kernel
theorem dX7_clause_93 : decode cX7_clause 93 = .ok (.invokevirtual 214, 3) := by decide +kernel
theorem dX7_clause_96 : decode cX7_clause 96 = .ok (.ireturn, 1) := by decide +kernel
theorem dX7_clause_97 : decode cX7_clause 97 = .ok (.aload_n 0, 1) := by decide +kernel
theorem dX7_clause_98 : decode cX7_clause 98 = .ok (.getfield 19, 3) := by decide +kernel
theorem dX7_clause_101 : decode cX7_clause 101 = .ok (.getfield 217, 3) := by decide +kernel
theorem dX7_clause_104 : decode cX7_clause 104 = .ok (.iload_n 1, 1) := by decide +kernel
theorem dX7_clause_105 : decode cX7_clause 105 = .ok (.iaload, 1) := by decide +kernel
theorem dX7_clause_106 : decode cX7_clause 106 = .ok (.ireturn, 1) := by decide +kernel
theorem dX7_clause_107 : decode cX7_clause 107 = .ok (.aload_n 0, 1) := by decide +kernel
theorem dX7_clause_108 : decode cX7_clause 108 = .ok (.getfield 19, 3) := by decide +kernel
theorem dX7_clause_111 : decode cX7_clause 111 = .ok (.getfield 220, 3) := by decide +kernel
theorem dX7_clause_114 : decode cX7_clause 114 = .ok (.iload_n 1, 1) := by decide +kernel
theorem dX7_clause_115 : decode cX7_clause 115 = .ok (.iaload, 1) := by decide +kernel
theorem dX7_clause_116 : decode cX7_clause 116 = .ok (.ireturn, 1) := by decide +kernel
theorem dX7_clause_117 : decode cX7_clause 117 = .ok (.aload_n 0, 1) := by decide +kernel
theorem dX7_clause_118 : decode cX7_clause 118 = .ok (.getfield 19, 3) := by decide +kernel
theorem dX7_clause_121 : decode cX7_clause 121 = .ok (.getfield 223, 3) := by decide +kernel
theorem dX7_clause_124 : decode cX7_clause 124 = .ok (.iload_n 1, 1) := by decide +kernel
theorem dX7_clause_125 : decode cX7_clause 125 = .ok (.invokestatic 127, 3) := by decide +kernel
theorem dX7_clause_128 : decode cX7_clause 128 = .ok (.ifCond .eq 7, 3) := by decide +kernel
theorem dX7_clause_131 : decode cX7_clause 131 = .ok (.iconst 1, 1) := by decide +kernel
theorem dX7_clause_132 : decode cX7_clause 132 = .ok (.goto 4, 3) := by decide +kernel
theorem dX7_clause_135 : decode cX7_clause 135 = .ok (.iconst 0, 1) := by decide +kernel
theorem dX7_clause_136 : decode cX7_clause 136 = .ok (.ireturn, 1) := by decide +kernel
theorem dX7_clause_137 : decode cX7_clause 137 = .ok (.aload_n 0, 1) := by decide +kernel
theorem dX7_clause_138 : decode cX7_clause 138 = .ok (.getfield 19, 3) := by decide +kernel
theorem dX7_clause_141 : decode cX7_clause 141 = .ok (.iload_n 1, 1) := by decide +kernel
theorem dX7_clause_142 : decode cX7_clause 142 = .ok (.invokevirtual 226, 3) := by decide +kernel
theorem dX7_clause_145 : decode cX7_clause 145 = .ok (.ireturn, 1) := by decide +kernel
theorem dX7_clause_146 : decode cX7_clause 146 = .ok (.aload_n 0, 1) := by decide +kernel
theorem dX7_clause_147 : decode cX7_clause 147 = .ok (.getfield 19, 3) := by decide +kernel
theorem dX7_clause_150 : decode cX7_clause 150 = .ok (.iload_n 1, 1) := by decide +kernel
theorem dX7_clause_151 : decode cX7_clause 151 = .ok (.invokevirtual 229, 3) := by decide +kernel
theorem dX7_clause_154 : decode cX7_clause 154 = .ok (.aload_n 0, 1) := by decide +kernel
theorem dX7_clause_155 : decode cX7_clause 155 = .ok (.getfield 26, 3) := by decide +kernel
theorem dX7_clause_158 : decode cX7_clause 158 = .ok (.getfield 170, 3) := by decide +kernel
theorem dX7_clause_161 : decode cX7_clause 161 = .ok (.invokestatic 233, 3) := by decide +kernel
theorem dX7_clause_164 : decode cX7_clause 164 = .ok (.ifCond .eq 7, 3) := by decide +kernel
theorem dX7_clause_167 : decode cX7_clause 167 = .ok (.iconst 1, 1) := by decide +kernel
theorem dX7_clause_168 : decode cX7_clause 168 = .ok (.goto 4, 3) := by decide +kernel
theorem dX7_clause_171 : decode cX7_clause 171 = .ok (.iconst 0, 1) := by decide +kernel
theorem dX7_clause_172 : decode cX7_clause 172 = .ok (.ireturn, 1) := by decide +kernel
theorem dX7_clause_173 : decode cX7_clause 173 = .ok (.aload_n 0, 1) := by decide +kernel
theorem dX7_clause_174 : decode cX7_clause 174 = .ok (.invokevirtual 131, 3) := by decide +kernel
theorem dX7_clause_177 : decode cX7_clause 177 = .ok (.iload_n 1, 1) := by decide +kernel
theorem dX7_clause_178 : decode cX7_clause 178 = .ok (.invokestatic 127, 3) := by decide +kernel
theorem dX7_clause_181 : decode cX7_clause 181 = .ok (.ifCond .eq 7, 3) := by decide +kernel
theorem dX7_clause_184 : decode cX7_clause 184 = .ok (.iconst 1, 1) := by decide +kernel
theorem dX7_clause_185 : decode cX7_clause 185 = .ok (.goto 4, 3) := by decide +kernel
theorem dX7_clause_188 : decode cX7_clause 188 = .ok (.iconst 0, 1) := by decide +kernel
theorem dX7_clause_189 : decode cX7_clause 189 = .ok (.ireturn, 1) := by decide +kernel
theorem dX7_clause_190 : decode cX7_clause 190 = .ok (.aload_n 0, 1) := by decide +kernel
theorem dX7_clause_191 : decode cX7_clause 191 = .ok (.getfield 19, 3) := by decide +kernel
theorem dX7_clause_194 : decode cX7_clause 194 = .ok (.getfield 237, 3) := by decide +kernel
theorem dX7_clause_197 : decode cX7_clause 197 = .ok (.iload_n 1, 1) := by decide +kernel
theorem dX7_clause_198 : decode cX7_clause 198 = .ok (.iaload, 1) := by decide +kernel
theorem dX7_clause_199 : decode cX7_clause 199 = .ok (.ireturn, 1) := by decide +kernel
theorem dX7_clause_200 : decode cX7_clause 200 = .ok (.ldc 69, 2) := by decide +kernel
theorem dX7_clause_202 : decode cX7_clause 202 = .ok (.ireturn, 1) := by decide +kernel
def FX7_answer_J28 (σ : SS) (v1 : Int32) (v3 : Int32) (s0 : Int32) : Option (Int32 × SS) :=
  if v3 = s0 then some ((-1000000003 : Int32), σ)
    else ob (FX6_packed σ) (fun r9 => ob (FX1_push σ r9) (fun σ11 => ob (FX6_setAnswer σ11 v1 s0) (fun σ13 => some (v3, σ13))))
set_option maxRecDepth 100000 in
set_option maxHeartbeats 4000000 in
theorem PX7_answer_J28 {X : Bx} {g : Gx} {r : Int32} {σr : SS} {σ : SS} (hX : Okw wsX X g cX7_answer 5 RX7 (some .int) ({ frames := 2, cells := 0, slots := 0, locals := 43 } : Room) (fun g => some (.int r)) σr) {v1 : Int32} {v3 : Int32} {s0 : Int32} (hf : FX7_answer_J28 σ v1 v3 s0 = some (r, σr)) : Vx X g.1 5 (wsX g σ) 28 [(0, .ref (g.2.1 0)), (1, .int v1), (3, .int v3)] [.int s0] := by
  have h0 := hX.1
  rw [FX7_answer_J28] at hf
  refine vx_istore (ls' := [(4, .int s0), (0, .ref (g.2.1 0)), (1, .int v1), (3, .int v3)]) h0 dX7_answer_28 (by decide) rfl ?_
  refine vx_iload_n h0 dX7_answer_30 rfl ?_
  refine vx_iload h0 dX7_answer_31 rfl ?_
  refine vx_icmp_ne (tgt := 39) h0 dX7_answer_33 (by decide) (fun c7 => ?_) (fun c7 => ?_)
  · replace hf := (if_neg c7).symm.trans hf
    refine vx_aload_n h0 dX7_answer_39 rfl ?_
    refine xg_0_3 hX q310 dX7_answer_40 ?_
    refine vx_aload_n h0 dX7_answer_43 rfl ?_
    refine xg_0_2 hX q309 dX7_answer_44 ?_
    obtain ⟨r9, h8, hf⟩ := ob_some hf
    refine w_callV (st := [.ref (g.2.1 25)]) (ci := 6) (q0 := 24) hX (c_X6_packed h8) ce_X6_packed q491 ⟨rfl, rfl⟩ ⟨by decide, by decide⟩ rfl rfl rfl rfl (xo_24 g _) rfl (Nat.le_of_ble_eq_true rfl) dX7_answer_47 ?_
    show Vx X g.1 5 (wsX g σ) 50 [(4, .int s0), (0, .ref (g.2.1 0)), (1, .int v1), (3, .int v3)] [.int r9, .ref (g.2.1 25)]
    obtain ⟨σ11, h10, hf⟩ := ob_some hf
    refine w_callV (st := []) (ci := 1) (q0 := 25) hX (c_X1_push h10) ce_X1_push q495 ⟨rfl, rfl⟩ ⟨by decide, by decide⟩ rfl rfl rfl rfl (xo_25 g _) rfl (Nat.le_of_ble_eq_true rfl) dX7_answer_50 ?_
    show Vx X g.1 5 (wsX g σ11) 53 [(4, .int s0), (0, .ref (g.2.1 0)), (1, .int v1), (3, .int v3)] []
    refine vx_aload_n h0 dX7_answer_53 rfl ?_
    refine xg_0_2 hX q309 dX7_answer_54 ?_
    refine vx_iload_n h0 dX7_answer_57 rfl ?_
    refine vx_iload h0 dX7_answer_58 rfl ?_
    obtain ⟨σ13, h12, hf⟩ := ob_some hf
    refine w_callV (st := []) (ci := 6) (q0 := 24) hX (c_X6_setAnswer h12) ce_X6_setAnswer q500 ⟨rfl, rfl⟩ ⟨by decide, by decide⟩ rfl rfl rfl rfl (xo_24 g _) rfl (Nat.le_of_ble_eq_true rfl) dX7_answer_60 ?_
    show Vx X g.1 5 (wsX g σ13) 63 [(4, .int s0), (0, .ref (g.2.1 0)), (1, .int v1), (3, .int v3)] []
    refine vx_iload_n h0 dX7_answer_63 rfl ?_
    exact w_iretE hX hf dX7_answer_64
  · replace hf := (if_pos c7).symm.trans hf
    refine vx_ldc h0 q490 dX7_answer_36 ?_
    exact w_iretE hX hf dX7_answer_38
def FX7_answer (σ : SS) (a0 : Int32) (a1 : Int32) : Option (Int32 × SS) :=
  ob (FX7_isQuestion σ a0) (fun r2 => if r2 = 0 then some ((-1000000001 : Int32), σ)
    else ob (FX6_answerTo σ a0) (fun r5 => if a1 = 0 then FX7_answer_J28 σ a0 r5 (0 : Int32)
    else FX7_answer_J28 σ a0 r5 (1 : Int32)))
set_option maxRecDepth 100000 in
set_option maxHeartbeats 4000000 in
theorem c_X7_answer {σ : SS} {a0 : Int32} {a1 : Int32} {r : Int32} {σr : SS} (hf : FX7_answer σ a0 a1 = some (r, σr)) : Mcw wsX yX7_answer cX7_answer 5 (some .int) ({ frames := 2, cells := 0, slots := 0, locals := 43 } : Room) (fun g => [.ref (g.2.1 0), .int a0, .int a1]) σ (fun g => some (.int r)) σr := by
  refine w_enter wsX_fix (by decide) (fun g => Nat.le_of_ble_eq_true rfl) ?_
  intro X g hX
  replace hX : Okw wsX X g cX7_answer 5 RX7 (some .int) ({ frames := 2, cells := 0, slots := 0, locals := 43 } : Room) (fun g => some (.int r)) σr := hX
  have h0 := hX.1
  show Vx X g.1 5 (wsX g σ) 0 [(0, .ref (g.2.1 0)), (1, .int a0), (2, .int a1)] []
  rw [FX7_answer] at hf
  refine vx_iload_n h0 dX7_answer_0 rfl ?_
  obtain ⟨r2, h1, hf⟩ := ob_some hf
  refine w_callS (st := []) hX (c_X7_isQuestion h1) ce_X7_isQuestion q481 ⟨rfl, rfl⟩ ⟨by decide, by decide⟩ rfl rfl rfl (Nat.le_of_ble_eq_true rfl) dX7_answer_1 ?_
  show Vx X g.1 5 (wsX g σ) 4 [(0, .ref (g.2.1 0)), (1, .int a0), (2, .int a1)] [.int r2]
  refine vx_if_ne (tgt := 10) h0 dX7_answer_4 (by decide) (fun c3 => ?_) (fun c3 => ?_)
  · replace hf := (if_neg c3).symm.trans hf
    refine vx_aload_n h0 dX7_answer_10 rfl ?_
    refine xg_0_2 hX q309 dX7_answer_11 ?_
    refine vx_iload_n h0 dX7_answer_14 rfl ?_
    obtain ⟨r5, h4, hf⟩ := ob_some hf
    refine w_callV (st := []) (ci := 6) (q0 := 24) hX (c_X6_answerTo h4) ce_X6_answerTo q485 ⟨rfl, rfl⟩ ⟨by decide, by decide⟩ rfl rfl rfl rfl (xo_24 g _) rfl (Nat.le_of_ble_eq_true rfl) dX7_answer_15 ?_
    show Vx X g.1 5 (wsX g σ) 18 [(0, .ref (g.2.1 0)), (1, .int a0), (2, .int a1)] [.int r5]
    refine vx_istore_n (ls' := [(3, .int r5), (0, .ref (g.2.1 0)), (1, .int a0), (2, .int a1)]) h0 dX7_answer_18 (by decide) rfl ?_
    refine vx_iload_n h0 dX7_answer_19 rfl ?_
    refine vx_if_eq (tgt := 27) h0 dX7_answer_20 (by decide) (fun c6 => ?_) (fun c6 => ?_)
    · replace hf := (if_pos c6).symm.trans hf
      refine vx_iconst (v := (0 : Int32)) h0 dX7_answer_27 (by decide) ?_
      refine vx_sub [1, 2, 0] rfl ?_
      exact PX7_answer_J28 hX  hf
    · replace hf := (if_neg c6).symm.trans hf
      refine vx_iconst (v := (1 : Int32)) h0 dX7_answer_23 (by decide) ?_
      refine vx_goto (tgt := 28) h0 dX7_answer_24 (by decide) ?_
      refine vx_sub [1, 2, 0] rfl ?_
      exact PX7_answer_J28 hX  hf
  · replace hf := (if_pos c3).symm.trans hf
    refine vx_ldc h0 q484 dX7_answer_7 ?_
    exact w_iretE hX hf dX7_answer_9
def FX7_forget (σ : SS) (a0 : Int32) : Option (Int32 × SS) :=
  ob (FX7_isQuestion σ a0) (fun r2 => if r2 = 0 then some ((-1000000001 : Int32), σ)
    else ob (FX6_answerTo σ a0) (fun r5 => if r5 = (-1 : Int32) then some ((-1000000003 : Int32), σ)
    else ob (FX6_packed σ) (fun r8 => ob (FX1_push σ r8) (fun σ10 => ob (FX6_setAnswer σ10 a0 (-1 : Int32)) (fun σ12 => some (r5, σ12))))))
set_option maxRecDepth 100000 in
set_option maxHeartbeats 4000000 in
theorem c_X7_forget {σ : SS} {a0 : Int32} {r : Int32} {σr : SS} (hf : FX7_forget σ a0 = some (r, σr)) : Mcw wsX yX7_forget cX7_forget 3 (some .int) ({ frames := 2, cells := 0, slots := 0, locals := 43 } : Room) (fun g => [.ref (g.2.1 0), .int a0]) σ (fun g => some (.int r)) σr := by
  refine w_enter wsX_fix (by decide) (fun g => Nat.le_of_ble_eq_true rfl) ?_
  intro X g hX
  replace hX : Okw wsX X g cX7_forget 3 RX7 (some .int) ({ frames := 2, cells := 0, slots := 0, locals := 43 } : Room) (fun g => some (.int r)) σr := hX
  have h0 := hX.1
  show Vx X g.1 3 (wsX g σ) 0 [(0, .ref (g.2.1 0)), (1, .int a0)] []
  rw [FX7_forget] at hf
  refine vx_iload_n h0 dX7_forget_0 rfl ?_
  obtain ⟨r2, h1, hf⟩ := ob_some hf
  refine w_callS (st := []) hX (c_X7_isQuestion h1) ce_X7_isQuestion q481 ⟨rfl, rfl⟩ ⟨by decide, by decide⟩ rfl rfl rfl (Nat.le_of_ble_eq_true rfl) dX7_forget_1 ?_
  show Vx X g.1 3 (wsX g σ) 4 [(0, .ref (g.2.1 0)), (1, .int a0)] [.int r2]
  refine vx_if_ne (tgt := 10) h0 dX7_forget_4 (by decide) (fun c3 => ?_) (fun c3 => ?_)
  · replace hf := (if_neg c3).symm.trans hf
    refine vx_aload_n h0 dX7_forget_10 rfl ?_
    refine xg_0_2 hX q309 dX7_forget_11 ?_
    refine vx_iload_n h0 dX7_forget_14 rfl ?_
    obtain ⟨r5, h4, hf⟩ := ob_some hf
    refine w_callV (st := []) (ci := 6) (q0 := 24) hX (c_X6_answerTo h4) ce_X6_answerTo q485 ⟨rfl, rfl⟩ ⟨by decide, by decide⟩ rfl rfl rfl rfl (xo_24 g _) rfl (Nat.le_of_ble_eq_true rfl) dX7_forget_15 ?_
    show Vx X g.1 3 (wsX g σ) 18 [(0, .ref (g.2.1 0)), (1, .int a0)] [.int r5]
    refine vx_istore_n (ls' := [(2, .int r5), (0, .ref (g.2.1 0)), (1, .int a0)]) h0 dX7_forget_18 (by decide) rfl ?_
    refine vx_iload_n h0 dX7_forget_19 rfl ?_
    refine vx_iconst (v := (-1 : Int32)) h0 dX7_forget_20 (by decide) ?_
    refine vx_icmp_ne (tgt := 27) h0 dX7_forget_21 (by decide) (fun c6 => ?_) (fun c6 => ?_)
    · replace hf := (if_neg c6).symm.trans hf
      refine vx_aload_n h0 dX7_forget_27 rfl ?_
      refine xg_0_3 hX q310 dX7_forget_28 ?_
      refine vx_aload_n h0 dX7_forget_31 rfl ?_
      refine xg_0_2 hX q309 dX7_forget_32 ?_
      obtain ⟨r8, h7, hf⟩ := ob_some hf
      refine w_callV (st := [.ref (g.2.1 25)]) (ci := 6) (q0 := 24) hX (c_X6_packed h7) ce_X6_packed q491 ⟨rfl, rfl⟩ ⟨by decide, by decide⟩ rfl rfl rfl rfl (xo_24 g _) rfl (Nat.le_of_ble_eq_true rfl) dX7_forget_35 ?_
      show Vx X g.1 3 (wsX g σ) 38 [(2, .int r5), (0, .ref (g.2.1 0)), (1, .int a0)] [.int r8, .ref (g.2.1 25)]
      obtain ⟨σ10, h9, hf⟩ := ob_some hf
      refine w_callV (st := []) (ci := 1) (q0 := 25) hX (c_X1_push h9) ce_X1_push q495 ⟨rfl, rfl⟩ ⟨by decide, by decide⟩ rfl rfl rfl rfl (xo_25 g _) rfl (Nat.le_of_ble_eq_true rfl) dX7_forget_38 ?_
      show Vx X g.1 3 (wsX g σ10) 41 [(2, .int r5), (0, .ref (g.2.1 0)), (1, .int a0)] []
      refine vx_aload_n h0 dX7_forget_41 rfl ?_
      refine xg_0_2 hX q309 dX7_forget_42 ?_
      refine vx_iload_n h0 dX7_forget_45 rfl ?_
      refine vx_iconst (v := (-1 : Int32)) h0 dX7_forget_46 (by decide) ?_
      obtain ⟨σ12, h11, hf⟩ := ob_some hf
      refine w_callV (st := []) (ci := 6) (q0 := 24) hX (c_X6_setAnswer h11) ce_X6_setAnswer q500 ⟨rfl, rfl⟩ ⟨by decide, by decide⟩ rfl rfl rfl rfl (xo_24 g _) rfl (Nat.le_of_ble_eq_true rfl) dX7_forget_47 ?_
      show Vx X g.1 3 (wsX g σ12) 50 [(2, .int r5), (0, .ref (g.2.1 0)), (1, .int a0)] []
      refine vx_iload_n h0 dX7_forget_50 rfl ?_
      exact w_iretE hX hf dX7_forget_51
    · replace hf := (if_pos c6).symm.trans hf
      refine vx_ldc h0 q490 dX7_forget_24 ?_
      exact w_iretE hX hf dX7_forget_26
  · replace hf := (if_pos c3).symm.trans hf
    refine vx_ldc h0 q484 dX7_forget_7 ?_
    exact w_iretE hX hf dX7_forget_9
def FX7_isClause (σ : SS) (a0 : Int32) : Option (Int32) :=
  if a0 < 0 then some (0 : Int32)
    else if (gI σ 40) ≤ a0 then some (0 : Int32)
    else some (1 : Int32)
set_option maxRecDepth 100000 in
set_option maxHeartbeats 4000000 in
theorem c_X7_isClause {σ : SS} {a0 : Int32} {r : Int32} (hf : FX7_isClause σ a0 = some r) : Mcw wsX yX7_isClause cX7_isClause 2 (some .boolean) ({ frames := 0, cells := 0, slots := 0, locals := 0 } : Room) (fun g => [.ref (g.2.1 0), .int a0]) σ (fun g => some (.int r)) σ := by
  refine w_enter wsX_fix (by decide) (fun g => Nat.le_of_ble_eq_true rfl) ?_
  intro X g hX
  replace hX : Okw wsX X g cX7_isClause 2 RX7 (some .boolean) ({ frames := 0, cells := 0, slots := 0, locals := 0 } : Room) (fun g => some (.int r)) σ := hX
  have h0 := hX.1
  show Vx X g.1 2 (wsX g σ) 0 [(0, .ref (g.2.1 0)), (1, .int a0)] []
  rw [FX7_isClause] at hf
  refine vx_iload_n h0 dX7_isClause_0 rfl ?_
  refine vx_if_lt (tgt := 19) h0 dX7_isClause_1 (by decide) (fun c1 => ?_) (fun c1 => ?_)
  · replace hf := (if_pos c1).symm.trans hf
    refine vx_iconst (v := (0 : Int32)) h0 dX7_isClause_19 (by decide) ?_
    exact w_zretP hX hf rfl dX7_isClause_20
  · replace hf := (if_neg c1).symm.trans hf
    refine vx_iload_n h0 dX7_isClause_4 rfl ?_
    refine vx_aload_n h0 dX7_isClause_5 rfl ?_
    refine xg_0_1 hX q308 dX7_isClause_6 ?_
    refine xg_14_0 hX q103 dX7_isClause_9 ?_
    refine vx_icmp_ge (tgt := 19) h0 dX7_isClause_12 (by decide) (fun c3 => ?_) (fun c3 => ?_)
    · replace hf := (if_pos c3).symm.trans hf
      refine vx_iconst (v := (0 : Int32)) h0 dX7_isClause_19 (by decide) ?_
      exact w_zretP hX hf rfl dX7_isClause_20
    · replace hf := (if_neg c3).symm.trans hf
      refine vx_iconst (v := (1 : Int32)) h0 dX7_isClause_15 (by decide) ?_
      refine vx_goto (tgt := 20) h0 dX7_isClause_16 (by decide) ?_
      exact w_zretP hX hf rfl dX7_isClause_20
def FX7_inForceNow (σ : SS) : Option (Int32) :=
  ob (FX2_inForce σ (gI σ 61)) (fun r2 => some r2)
set_option maxRecDepth 100000 in
set_option maxHeartbeats 4000000 in
theorem c_X7_inForceNow {σ : SS} {r : Int32} (hf : FX7_inForceNow σ = some r) : Mcw wsX yX7_inForceNow cX7_inForceNow 1 (some .int) ({ frames := 2, cells := 0, slots := 0, locals := 45 } : Room) (fun g => [.ref (g.2.1 0)]) σ (fun g => some (.int r)) σ := by
  refine w_enter wsX_fix (by decide) (fun g => Nat.le_of_ble_eq_true rfl) ?_
  intro X g hX
  replace hX : Okw wsX X g cX7_inForceNow 1 RX7 (some .int) ({ frames := 2, cells := 0, slots := 0, locals := 45 } : Room) (fun g => some (.int r)) σ := hX
  have h0 := hX.1
  show Vx X g.1 1 (wsX g σ) 0 [(0, .ref (g.2.1 0))] []
  rw [FX7_inForceNow] at hf
  refine vx_aload_n h0 dX7_inForceNow_0 rfl ?_
  refine xg_0_5 hX q312 dX7_inForceNow_1 ?_
  refine vx_aload_n h0 dX7_inForceNow_4 rfl ?_
  refine xg_0_2 hX q309 dX7_inForceNow_5 ?_
  refine xg_24_1 hX q213 dX7_inForceNow_8 ?_
  obtain ⟨r2, h1, hf⟩ := ob_some hf
  refine w_callV (st := []) (ci := 2) (q0 := 28) hX (c_X2_inForce h1) ce_X2_inForce q521 ⟨rfl, rfl⟩ ⟨by decide, by decide⟩ rfl rfl rfl rfl (xo_28 g _) rfl (Nat.le_of_ble_eq_true rfl) dX7_inForceNow_11 ?_
  show Vx X g.1 1 (wsX g σ) 14 [(0, .ref (g.2.1 0))] [.int r2]
  exact w_iretP hX hf dX7_inForceNow_14
def FX7_strike (σ : SS) (a0 : Int32) (a1 : Int32) : Option (Int32 × SS) :=
  ob (FX7_isClause σ a0) (fun r2 => if r2 = 0 then some ((-1000000001 : Int32), σ)
    else ob (FX7_has σ (gI σ 62) a0) (fun r5 => if r5 = a1 then some ((-1000000003 : Int32), σ)
    else ob (FX6_packed σ) (fun r8 => ob (FX1_push σ r8) (fun σ10 => bd (sI σ10 62 ((gI σ10 62) ^^^ (jshl (1 : Int32) a0))) (fun σ11 => ob (FX2_reckon σ11 (gI σ11 62)) (fun σ13 => ob (FX7_inForceNow σ13) (fun r15 => ob (FJ6_bitCount_0f7a4 σ13 r15) (fun r17 => some (r17, σ13)))))))))
set_option maxRecDepth 100000 in
set_option maxHeartbeats 4000000 in
theorem c_X7_strike {σ : SS} {a0 : Int32} {a1 : Int32} {r : Int32} {σr : SS} (hf : FX7_strike σ a0 a1 = some (r, σr)) : Mcw wsX yX7_strike cX7_strike 3 (some .int) ({ frames := 5, cells := 0, slots := 0, locals := 116 } : Room) (fun g => [.ref (g.2.1 0), .int a0, .int a1]) σ (fun g => some (.int r)) σr := by
  refine w_enter wsX_fix (by decide) (fun g => Nat.le_of_ble_eq_true rfl) ?_
  intro X g hX
  replace hX : Okw wsX X g cX7_strike 3 RX7 (some .int) ({ frames := 5, cells := 0, slots := 0, locals := 116 } : Room) (fun g => some (.int r)) σr := hX
  have h0 := hX.1
  show Vx X g.1 3 (wsX g σ) 0 [(0, .ref (g.2.1 0)), (1, .int a0), (2, .int a1)] []
  rw [FX7_strike] at hf
  refine vx_aload_n h0 dX7_strike_0 rfl ?_
  refine vx_iload_n h0 dX7_strike_1 rfl ?_
  obtain ⟨r2, h1, hf⟩ := ob_some hf
  refine w_callV (st := []) (ci := 7) (q0 := 0) hX (c_X7_isClause h1) ce_X7_isClause q512 ⟨rfl, rfl⟩ ⟨by decide, by decide⟩ rfl rfl rfl rfl (xo_0 g _) rfl (Nat.le_of_ble_eq_true rfl) dX7_strike_2 ?_
  show Vx X g.1 3 (wsX g σ) 5 [(0, .ref (g.2.1 0)), (1, .int a0), (2, .int a1)] [.int r2]
  refine vx_if_ne (tgt := 11) h0 dX7_strike_5 (by decide) (fun c3 => ?_) (fun c3 => ?_)
  · replace hf := (if_neg c3).symm.trans hf
    refine vx_aload_n h0 dX7_strike_11 rfl ?_
    refine xg_0_2 hX q309 dX7_strike_12 ?_
    refine xg_24_2 hX q214 dX7_strike_15 ?_
    refine vx_iload_n h0 dX7_strike_18 rfl ?_
    obtain ⟨r5, h4, hf⟩ := ob_some hf
    refine w_callS (st := []) hX (c_X7_has h4) ce_X7_has q516 ⟨rfl, rfl⟩ ⟨by decide, by decide⟩ rfl rfl rfl (Nat.le_of_ble_eq_true rfl) dX7_strike_19 ?_
    show Vx X g.1 3 (wsX g σ) 22 [(0, .ref (g.2.1 0)), (1, .int a0), (2, .int a1)] [.int r5]
    refine vx_iload_n h0 dX7_strike_22 rfl ?_
    refine vx_icmp_ne (tgt := 29) h0 dX7_strike_23 (by decide) (fun c6 => ?_) (fun c6 => ?_)
    · replace hf := (if_neg c6).symm.trans hf
      refine vx_aload_n h0 dX7_strike_29 rfl ?_
      refine xg_0_3 hX q310 dX7_strike_30 ?_
      refine vx_aload_n h0 dX7_strike_33 rfl ?_
      refine xg_0_2 hX q309 dX7_strike_34 ?_
      obtain ⟨r8, h7, hf⟩ := ob_some hf
      refine w_callV (st := [.ref (g.2.1 25)]) (ci := 6) (q0 := 24) hX (c_X6_packed h7) ce_X6_packed q491 ⟨rfl, rfl⟩ ⟨by decide, by decide⟩ rfl rfl rfl rfl (xo_24 g _) rfl (Nat.le_of_ble_eq_true rfl) dX7_strike_37 ?_
      show Vx X g.1 3 (wsX g σ) 40 [(0, .ref (g.2.1 0)), (1, .int a0), (2, .int a1)] [.int r8, .ref (g.2.1 25)]
      obtain ⟨σ10, h9, hf⟩ := ob_some hf
      refine w_callV (st := []) (ci := 1) (q0 := 25) hX (c_X1_push h9) ce_X1_push q495 ⟨rfl, rfl⟩ ⟨by decide, by decide⟩ rfl rfl rfl rfl (xo_25 g _) rfl (Nat.le_of_ble_eq_true rfl) dX7_strike_40 ?_
      show Vx X g.1 3 (wsX g σ10) 43 [(0, .ref (g.2.1 0)), (1, .int a0), (2, .int a1)] []
      refine vx_aload_n h0 dX7_strike_43 rfl ?_
      refine xg_0_2 hX q309 dX7_strike_44 ?_
      refine vx_dup h0 dX7_strike_47 rfl ?_
      refine xg_24_2 hX q214 dX7_strike_48 ?_
      refine vx_iconst (v := (1 : Int32)) h0 dX7_strike_51 (by decide) ?_
      refine vx_iload_n h0 dX7_strike_52 rfl ?_
      refine vx_ishl h0 dX7_strike_53 ?_
      refine vx_ixor h0 dX7_strike_54 ?_
      refine xp_24_2 hX q214 dX7_strike_55 ?_
      generalize (sI σ10 62 ((gI σ10 62) ^^^ (jshl (1 : Int32) a0))) = σ11 at hf ⊢
      replace hf := bd_h hf
      refine vx_aload_n h0 dX7_strike_58 rfl ?_
      refine xg_0_5 hX q312 dX7_strike_59 ?_
      refine vx_aload_n h0 dX7_strike_62 rfl ?_
      refine xg_0_2 hX q309 dX7_strike_63 ?_
      refine xg_24_2 hX q214 dX7_strike_66 ?_
      obtain ⟨σ13, h12, hf⟩ := ob_some hf
      refine w_callV (st := []) (ci := 2) (q0 := 28) hX (c_X2_reckon h12) ce_X2_reckon q424 ⟨rfl, rfl⟩ ⟨by decide, by decide⟩ rfl rfl rfl rfl (xo_28 g _) rfl (Nat.le_of_ble_eq_true rfl) dX7_strike_69 ?_
      show Vx X g.1 3 (wsX g σ13) 72 [(0, .ref (g.2.1 0)), (1, .int a0), (2, .int a1)] []
      refine vx_aload_n h0 dX7_strike_72 rfl ?_
      obtain ⟨r15, h14, hf⟩ := ob_some hf
      refine w_callV (st := []) (ci := 7) (q0 := 0) hX (c_X7_inForceNow h14) ce_X7_inForceNow q517 ⟨rfl, rfl⟩ ⟨by decide, by decide⟩ rfl rfl rfl rfl (xo_0 g _) rfl (Nat.le_of_ble_eq_true rfl) dX7_strike_73 ?_
      show Vx X g.1 3 (wsX g σ13) 76 [(0, .ref (g.2.1 0)), (1, .int a0), (2, .int a1)] [.int r15]
      obtain ⟨r17, h16, hf⟩ := ob_some hf
      refine w_callS (st := []) hX (c_J6_bitCount_0f7a4 h16) ce_J6_bitCount_0f7a4 q528 ⟨rfl, rfl⟩ ⟨by decide, by decide⟩ rfl rfl rfl (Nat.le_of_ble_eq_true rfl) dX7_strike_76 ?_
      show Vx X g.1 3 (wsX g σ13) 79 [(0, .ref (g.2.1 0)), (1, .int a0), (2, .int a1)] [.int r17]
      exact w_iretE hX hf dX7_strike_79
    · replace hf := (if_pos c6).symm.trans hf
      refine vx_ldc h0 q490 dX7_strike_26 ?_
      exact w_iretE hX hf dX7_strike_28
  · replace hf := (if_pos c3).symm.trans hf
    refine vx_ldc h0 q484 dX7_strike_8 ?_
    exact w_iretE hX hf dX7_strike_10
def FX7_drift_J77 (σ : SS) (rec : Int64 → Int32 → SS → Option (Int32 × SS)) (v2 : Int64) (v4 : Int32) (s0 : Int32) (s1 : Int32) : Option (Int32 × SS) :=
  ob (FX6_setAnswer σ s1 s0) (fun σ11 => rec v2 (v4 + (1 : Int32)) σ11)
set_option maxRecDepth 100000 in
set_option maxHeartbeats 4000000 in
theorem PX7_drift_J77 {X : Bx} {g : Gx} {r : Int32} {σr : SS} {σ : SS} (hX : Okw wsX X g cX7_drift 6 RX7 (some .int) ({ frames := 3, cells := 0, slots := 0, locals := 65 } : Room) (fun g => some (.int r)) σr) {rec : Int64 → Int32 → SS → Option (Int32 × SS)} {v2 : Int64} {v4 : Int32} {s0 : Int32} {s1 : Int32} (hrec : ∀ (w2 : Int64) (w4 : Int32) (σ2 : SS), rec w2 w4 σ2 = some (r, σr) → Vx X g.1 6 (wsX g σ2) 34 [(0, .ref (g.2.1 0)), (2, .long w2), (4, .int w4)] []) (hf : FX7_drift_J77 σ rec v2 v4 s0 s1 = some (r, σr)) : Vx X g.1 6 (wsX g σ) 77 [(0, .ref (g.2.1 0)), (2, .long v2), (4, .int v4)] [.int s0, .int s1, .ref (g.2.1 24)] := by
  have h0 := hX.1
  rw [FX7_drift_J77] at hf
  obtain ⟨σ11, h10, hf⟩ := ob_some hf
  refine w_callV (st := []) (ci := 6) (q0 := 24) hX (c_X6_setAnswer h10) ce_X6_setAnswer q500 ⟨rfl, rfl⟩ ⟨by decide, by decide⟩ rfl rfl rfl rfl (xo_24 g _) rfl (Nat.le_of_ble_eq_true rfl) dX7_drift_77 ?_
  show Vx X g.1 6 (wsX g σ11) 80 [(0, .ref (g.2.1 0)), (2, .long v2), (4, .int v4)] []
  refine vx_iinc (q := 2) (v := (v4 + (1 : Int32))) (ls' := [(4, .int (v4 + (1 : Int32))), (0, .ref (g.2.1 0)), (2, .long v2)]) h0 dX7_drift_80 rfl rfl (by decide) rfl ?_
  refine vx_goto (tgt := 34) h0 dX7_drift_83 (by decide) ?_
  refine vx_sub [1, 2, 0] rfl ?_
  exact hrec _ _ _ hf
def FX7_drift_L34 (k : SS → Option (Int32 × SS)) : Nat → Int64 → Int32 → SS → Option (Int32 × SS)
  | 0, _, _, _ => none
  | n + 1, v2, v4, σ => if (6 : Int32) ≤ v4 then k σ
    else bd (jlrem (v2 * (16807 : Int64)) (2147483647 : Int64)) (fun x8 => if (Int64.toInt32 (jlrem x8 (3 : Int64))) = (2 : Int32) then FX7_drift_J77 σ (fun a15 a16 σ17 => FX7_drift_L34 k n a15 a16 σ17) x8 v4 (-1 : Int32) v4
    else FX7_drift_J77 σ (fun a12 a13 σ14 => FX7_drift_L34 k n a12 a13 σ14) x8 v4 (Int64.toInt32 (jlrem x8 (3 : Int64))) v4)
set_option maxRecDepth 100000 in
set_option maxHeartbeats 4000000 in
theorem PX7_drift_L34 {X : Bx} {g : Gx} {r : Int32} {σr : SS} (hX : Okw wsX X g cX7_drift 6 RX7 (some .int) ({ frames := 3, cells := 0, slots := 0, locals := 65 } : Room) (fun g => some (.int r)) σr) {k : SS → Option (Int32 × SS)} (hk : ∀ (σ : SS), k σ = some (r, σr) → Vx X g.1 6 (wsX g σ) 86 [(0, .ref (g.2.1 0))] []) : ∀ (n : Nat) (v2 : Int64) (v4 : Int32) (σ : SS), FX7_drift_L34 k n v2 v4 σ = some (r, σr) → Vx X g.1 6 (wsX g σ) 34 [(0, .ref (g.2.1 0)), (2, .long v2), (4, .int v4)] [] := by
  have h0 := hX.1
  intro n
  induction n with
  | zero =>
    intro v2 v4 σ hf
    rw [FX7_drift_L34] at hf
    cases hf
  | succ n ih =>
    intro v2 v4 σ hf
    rw [FX7_drift_L34] at hf
    refine vx_iload h0 dX7_drift_34 rfl ?_
    refine vx_bipush (v := (6 : Int32)) h0 dX7_drift_36 (by decide) ?_
    refine vx_icmp_ge (tgt := 86) h0 dX7_drift_38 (by decide) (fun c7 => ?_) (fun c7 => ?_)
    · replace hf := (if_pos c7).symm.trans hf
      refine vx_sub [0] rfl ?_
      exact hk _ hf
    · replace hf := (if_neg c7).symm.trans hf
      refine vx_lload_n h0 dX7_drift_41 rfl ?_
      refine vx_ldc2 h0 q539 dX7_drift_42 ?_
      refine vx_lmul h0 dX7_drift_45 ?_
      refine vx_ldc2 h0 q540 dX7_drift_46 ?_
      refine vx_lrem h0 dX7_drift_49 (by decide) ?_
      generalize (jlrem (v2 * (16807 : Int64)) (2147483647 : Int64)) = x8 at hf ⊢
      replace hf := bd_h hf
      refine vx_lstore_n (ls' := [(2, .long x8), (0, .ref (g.2.1 0)), (4, .int v4)]) h0 dX7_drift_50 (by decide) rfl ?_
      refine vx_lload_n h0 dX7_drift_51 rfl ?_
      refine vx_ldc2 h0 q541 dX7_drift_52 ?_
      refine vx_lrem h0 dX7_drift_55 (by decide) ?_
      refine vx_l2i h0 dX7_drift_56 ?_
      refine vx_istore (ls' := [(5, .int (Int64.toInt32 (jlrem x8 (3 : Int64)))), (2, .long x8), (0, .ref (g.2.1 0)), (4, .int v4)]) h0 dX7_drift_57 (by decide) rfl ?_
      refine vx_aload_n h0 dX7_drift_59 rfl ?_
      refine xg_0_2 hX q309 dX7_drift_60 ?_
      refine vx_iload h0 dX7_drift_63 rfl ?_
      refine vx_iload h0 dX7_drift_65 rfl ?_
      refine vx_iconst (v := (2 : Int32)) h0 dX7_drift_67 (by decide) ?_
      refine vx_icmp_ne (tgt := 75) h0 dX7_drift_68 (by decide) (fun c9 => ?_) (fun c9 => ?_)
      · replace hf := (if_neg c9).symm.trans hf
        refine vx_iload h0 dX7_drift_75 rfl ?_
        refine vx_sub [2, 1, 3] rfl ?_
        exact PX7_drift_J77 hX (fun a12 a13 σ14 hf => ih a12 a13 σ14 hf) hf
      · replace hf := (if_pos c9).symm.trans hf
        refine vx_iconst (v := (-1 : Int32)) h0 dX7_drift_71 (by decide) ?_
        refine vx_goto (tgt := 77) h0 dX7_drift_72 (by decide) ?_
        refine vx_sub [2, 1, 3] rfl ?_
        exact PX7_drift_J77 hX (fun a15 a16 σ17 hf => ih a15 a16 σ17 hf) hf
def FX7_drift (σ : SS) (a0 : Int32) : Option (Int32 × SS) :=
  if a0 < (1 : Int32) then some ((-1000000002 : Int32), σ)
    else if a0 ≤ (999999 : Int32) then ob (FX6_packed σ) (fun r4 => ob (FX1_push σ r4) (fun σ6 => FX7_drift_L34 (fun σ18 => ob (FX7_inForceNow σ18) (fun r20 => ob (FJ6_bitCount_0f7a4 σ18 r20) (fun r22 => some (r22, σ18)))) 5000 (Int32.toInt64 a0) (0 : Int32) σ6))
    else some ((-1000000002 : Int32), σ)
set_option maxRecDepth 100000 in
set_option maxHeartbeats 4000000 in
theorem c_X7_drift {σ : SS} {a0 : Int32} {r : Int32} {σr : SS} (hf : FX7_drift σ a0 = some (r, σr)) : Mcw wsX yX7_drift cX7_drift 6 (some .int) ({ frames := 3, cells := 0, slots := 0, locals := 65 } : Room) (fun g => [.ref (g.2.1 0), .int a0]) σ (fun g => some (.int r)) σr := by
  refine w_enter wsX_fix (by decide) (fun g => Nat.le_of_ble_eq_true rfl) ?_
  intro X g hX
  replace hX : Okw wsX X g cX7_drift 6 RX7 (some .int) ({ frames := 3, cells := 0, slots := 0, locals := 65 } : Room) (fun g => some (.int r)) σr := hX
  have h0 := hX.1
  show Vx X g.1 6 (wsX g σ) 0 [(0, .ref (g.2.1 0)), (1, .int a0)] []
  rw [FX7_drift] at hf
  refine vx_iload_n h0 dX7_drift_0 rfl ?_
  refine vx_iconst (v := (1 : Int32)) h0 dX7_drift_1 (by decide) ?_
  refine vx_icmp_lt (tgt := 11) h0 dX7_drift_2 (by decide) (fun c1 => ?_) (fun c1 => ?_)
  · replace hf := (if_pos c1).symm.trans hf
    refine vx_ldc h0 q336 dX7_drift_11 ?_
    exact w_iretE hX hf dX7_drift_13
  · replace hf := (if_neg c1).symm.trans hf
    refine vx_iload_n h0 dX7_drift_5 rfl ?_
    refine vx_ldc h0 q538 dX7_drift_6 ?_
    refine vx_icmp_le (tgt := 14) h0 dX7_drift_8 (by decide) (fun c2 => ?_) (fun c2 => ?_)
    · replace hf := (if_pos c2).symm.trans hf
      refine vx_aload_n h0 dX7_drift_14 rfl ?_
      refine xg_0_3 hX q310 dX7_drift_15 ?_
      refine vx_aload_n h0 dX7_drift_18 rfl ?_
      refine xg_0_2 hX q309 dX7_drift_19 ?_
      obtain ⟨r4, h3, hf⟩ := ob_some hf
      refine w_callV (st := [.ref (g.2.1 25)]) (ci := 6) (q0 := 24) hX (c_X6_packed h3) ce_X6_packed q491 ⟨rfl, rfl⟩ ⟨by decide, by decide⟩ rfl rfl rfl rfl (xo_24 g _) rfl (Nat.le_of_ble_eq_true rfl) dX7_drift_22 ?_
      show Vx X g.1 6 (wsX g σ) 25 [(0, .ref (g.2.1 0)), (1, .int a0)] [.int r4, .ref (g.2.1 25)]
      obtain ⟨σ6, h5, hf⟩ := ob_some hf
      refine w_callV (st := []) (ci := 1) (q0 := 25) hX (c_X1_push h5) ce_X1_push q495 ⟨rfl, rfl⟩ ⟨by decide, by decide⟩ rfl rfl rfl rfl (xo_25 g _) rfl (Nat.le_of_ble_eq_true rfl) dX7_drift_25 ?_
      show Vx X g.1 6 (wsX g σ6) 28 [(0, .ref (g.2.1 0)), (1, .int a0)] []
      refine vx_iload_n h0 dX7_drift_28 rfl ?_
      refine vx_i2l h0 dX7_drift_29 ?_
      refine vx_lstore_n (ls' := [(2, .long (Int32.toInt64 a0)), (0, .ref (g.2.1 0)), (1, .int a0)]) h0 dX7_drift_30 (by decide) rfl ?_
      refine vx_iconst (v := (0 : Int32)) h0 dX7_drift_31 (by decide) ?_
      refine vx_istore (ls' := [(4, .int (0 : Int32)), (2, .long (Int32.toInt64 a0)), (0, .ref (g.2.1 0)), (1, .int a0)]) h0 dX7_drift_32 (by decide) rfl ?_
      refine vx_sub [2, 1, 0] rfl ?_
      refine PX7_drift_L34 hX (fun σ18 hf => ?_) _ _ _ _ hf
      refine vx_aload_n h0 dX7_drift_86 rfl ?_
      obtain ⟨r20, h19, hf⟩ := ob_some hf
      refine w_callV (st := []) (ci := 7) (q0 := 0) hX (c_X7_inForceNow h19) ce_X7_inForceNow q517 ⟨rfl, rfl⟩ ⟨by decide, by decide⟩ rfl rfl rfl rfl (xo_0 g _) rfl (Nat.le_of_ble_eq_true rfl) dX7_drift_87 ?_
      show Vx X g.1 6 (wsX g σ18) 90 [(0, .ref (g.2.1 0))] [.int r20]
      obtain ⟨r22, h21, hf⟩ := ob_some hf
      refine w_callS (st := []) hX (c_J6_bitCount_0f7a4 h21) ce_J6_bitCount_0f7a4 q528 ⟨rfl, rfl⟩ ⟨by decide, by decide⟩ rfl rfl rfl (Nat.le_of_ble_eq_true rfl) dX7_drift_90 ?_
      show Vx X g.1 6 (wsX g σ18) 93 [(0, .ref (g.2.1 0))] [.int r22]
      exact w_iretE hX hf dX7_drift_93
    · replace hf := (if_neg c2).symm.trans hf
      refine vx_ldc h0 q336 dX7_drift_11 ?_
      exact w_iretE hX hf dX7_drift_13
def FX7_restore (σ : SS) (a0 : Int32) : Option (SS) :=
  ob (FX6_unpack σ a0) (fun σ2 => if (gI σ2 62) = (gI σ 62) then some σ2
    else ob (FX2_reckon σ2 (gI σ2 62)) (fun σ5 => some σ5))
set_option maxRecDepth 100000 in
set_option maxHeartbeats 4000000 in
theorem c_X7_restore {σ : SS} {a0 : Int32} {σr : SS} (hf : FX7_restore σ a0 = some σr) : Mcw wsX yX7_restore cX7_restore 3 none ({ frames := 5, cells := 0, slots := 0, locals := 116 } : Room) (fun g => [.ref (g.2.1 0), .int a0]) σ (fun g => none) σr := by
  refine w_enter wsX_fix (by decide) (fun g => Nat.le_of_ble_eq_true rfl) ?_
  intro X g hX
  replace hX : Okw wsX X g cX7_restore 3 RX7 none ({ frames := 5, cells := 0, slots := 0, locals := 116 } : Room) (fun g => none) σr := hX
  have h0 := hX.1
  show Vx X g.1 3 (wsX g σ) 0 [(0, .ref (g.2.1 0)), (1, .int a0)] []
  rw [FX7_restore] at hf
  refine vx_aload_n h0 dX7_restore_0 rfl ?_
  refine xg_0_2 hX q309 dX7_restore_1 ?_
  refine xg_24_2 hX q214 dX7_restore_4 ?_
  refine vx_istore_n (ls' := [(2, .int (gI σ 62)), (0, .ref (g.2.1 0)), (1, .int a0)]) h0 dX7_restore_7 (by decide) rfl ?_
  refine vx_aload_n h0 dX7_restore_8 rfl ?_
  refine xg_0_2 hX q309 dX7_restore_9 ?_
  refine vx_iload_n h0 dX7_restore_12 rfl ?_
  obtain ⟨σ2, h1, hf⟩ := ob_some hf
  refine w_callV (st := []) (ci := 6) (q0 := 24) hX (c_X6_unpack h1) ce_X6_unpack q554 ⟨rfl, rfl⟩ ⟨by decide, by decide⟩ rfl rfl rfl rfl (xo_24 g _) rfl (Nat.le_of_ble_eq_true rfl) dX7_restore_13 ?_
  show Vx X g.1 3 (wsX g σ2) 16 [(2, .int (gI σ 62)), (0, .ref (g.2.1 0)), (1, .int a0)] []
  refine vx_aload_n h0 dX7_restore_16 rfl ?_
  refine xg_0_2 hX q309 dX7_restore_17 ?_
  refine xg_24_2 hX q214 dX7_restore_20 ?_
  refine vx_iload_n h0 dX7_restore_23 rfl ?_
  refine vx_icmp_eq (tgt := 41) h0 dX7_restore_24 (by decide) (fun c3 => ?_) (fun c3 => ?_)
  · replace hf := (if_pos c3).symm.trans hf
    exact w_vretE hX hf dX7_restore_41
  · replace hf := (if_neg c3).symm.trans hf
    refine vx_aload_n h0 dX7_restore_27 rfl ?_
    refine xg_0_5 hX q312 dX7_restore_28 ?_
    refine vx_aload_n h0 dX7_restore_31 rfl ?_
    refine xg_0_2 hX q309 dX7_restore_32 ?_
    refine xg_24_2 hX q214 dX7_restore_35 ?_
    obtain ⟨σ5, h4, hf⟩ := ob_some hf
    refine w_callV (st := []) (ci := 2) (q0 := 28) hX (c_X2_reckon h4) ce_X2_reckon q424 ⟨rfl, rfl⟩ ⟨by decide, by decide⟩ rfl rfl rfl rfl (xo_28 g _) rfl (Nat.le_of_ble_eq_true rfl) dX7_restore_38 ?_
    show Vx X g.1 3 (wsX g σ5) 41 [(2, .int (gI σ 62)), (0, .ref (g.2.1 0)), (1, .int a0)] []
    exact w_vretE hX hf dX7_restore_41
def FX7_undo (σ : SS) : Option (Int32 × SS) :=
  if (gI σ 70) = 0 then some ((-1000000003 : Int32), σ)
    else ob (FX1_pop σ) (fun p3 => ob (FX7_restore p3.2 p3.1) (fun σ5 => some ((gI σ5 70), σ5)))
set_option maxRecDepth 100000 in
set_option maxHeartbeats 4000000 in
theorem c_X7_undo {σ : SS} {r : Int32} {σr : SS} (hf : FX7_undo σ = some (r, σr)) : Mcw wsX yX7_undo cX7_undo 1 (some .int) ({ frames := 6, cells := 0, slots := 0, locals := 138 } : Room) (fun g => [.ref (g.2.1 0)]) σ (fun g => some (.int r)) σr := by
  refine w_enter wsX_fix (by decide) (fun g => Nat.le_of_ble_eq_true rfl) ?_
  intro X g hX
  replace hX : Okw wsX X g cX7_undo 1 RX7 (some .int) ({ frames := 6, cells := 0, slots := 0, locals := 138 } : Room) (fun g => some (.int r)) σr := hX
  have h0 := hX.1
  show Vx X g.1 1 (wsX g σ) 0 [(0, .ref (g.2.1 0))] []
  rw [FX7_undo] at hf
  refine vx_aload_n h0 dX7_undo_0 rfl ?_
  refine xg_0_3 hX q310 dX7_undo_1 ?_
  refine xg_25_0 hX q230 dX7_undo_4 ?_
  refine vx_if_ne (tgt := 13) h0 dX7_undo_7 (by decide) (fun c1 => ?_) (fun c1 => ?_)
  · replace hf := (if_neg c1).symm.trans hf
    refine vx_aload_n h0 dX7_undo_13 rfl ?_
    refine vx_aload_n h0 dX7_undo_14 rfl ?_
    refine xg_0_3 hX q310 dX7_undo_15 ?_
    obtain ⟨p3, h2, hf⟩ := ob_some hf
    refine w_callV (st := [.ref (g.2.1 0)]) (ci := 1) (q0 := 25) hX (c_X1_pop h2) ce_X1_pop q546 ⟨rfl, rfl⟩ ⟨by decide, by decide⟩ rfl rfl rfl rfl (xo_25 g _) rfl (Nat.le_of_ble_eq_true rfl) dX7_undo_18 ?_
    show Vx X g.1 1 (wsX g p3.2) 21 [(0, .ref (g.2.1 0))] [.int p3.1, .ref (g.2.1 0)]
    obtain ⟨σ5, h4, hf⟩ := ob_some hf
    refine w_callV (st := []) (ci := 7) (q0 := 0) hX (c_X7_restore h4) ce_X7_restore q550 ⟨rfl, rfl⟩ ⟨by decide, by decide⟩ rfl rfl rfl rfl (xo_0 g _) rfl (Nat.le_of_ble_eq_true rfl) dX7_undo_21 ?_
    show Vx X g.1 1 (wsX g σ5) 24 [(0, .ref (g.2.1 0))] []
    refine vx_aload_n h0 dX7_undo_24 rfl ?_
    refine xg_0_3 hX q310 dX7_undo_25 ?_
    refine xg_25_0 hX q230 dX7_undo_28 ?_
    exact w_iretE hX hf dX7_undo_31
  · replace hf := (if_pos c1).symm.trans hf
    refine vx_ldc h0 q490 dX7_undo_10 ?_
    exact w_iretE hX hf dX7_undo_12
def FX7_answerOf (σ : SS) (a0 : Int32) : Option (Int32) :=
  ob (FX7_isQuestion σ a0) (fun r2 => if r2 = 0 then some (-1000000001 : Int32)
    else ob (FX6_answerTo σ a0) (fun r5 => some r5))
set_option maxRecDepth 100000 in
set_option maxHeartbeats 4000000 in
theorem c_X7_answerOf {σ : SS} {a0 : Int32} {r : Int32} (hf : FX7_answerOf σ a0 = some r) : Mcw wsX yX7_answerOf cX7_answerOf 2 (some .int) ({ frames := 2, cells := 0, slots := 0, locals := 42 } : Room) (fun g => [.ref (g.2.1 0), .int a0]) σ (fun g => some (.int r)) σ := by
  refine w_enter wsX_fix (by decide) (fun g => Nat.le_of_ble_eq_true rfl) ?_
  intro X g hX
  replace hX : Okw wsX X g cX7_answerOf 2 RX7 (some .int) ({ frames := 2, cells := 0, slots := 0, locals := 42 } : Room) (fun g => some (.int r)) σ := hX
  have h0 := hX.1
  show Vx X g.1 2 (wsX g σ) 0 [(0, .ref (g.2.1 0)), (1, .int a0)] []
  rw [FX7_answerOf] at hf
  refine vx_iload_n h0 dX7_answerOf_0 rfl ?_
  obtain ⟨r2, h1, hf⟩ := ob_some hf
  refine w_callS (st := []) hX (c_X7_isQuestion h1) ce_X7_isQuestion q481 ⟨rfl, rfl⟩ ⟨by decide, by decide⟩ rfl rfl rfl (Nat.le_of_ble_eq_true rfl) dX7_answerOf_1 ?_
  show Vx X g.1 2 (wsX g σ) 4 [(0, .ref (g.2.1 0)), (1, .int a0)] [.int r2]
  refine vx_if_eq (tgt := 18) h0 dX7_answerOf_4 (by decide) (fun c3 => ?_) (fun c3 => ?_)
  · replace hf := (if_pos c3).symm.trans hf
    refine vx_ldc h0 q484 dX7_answerOf_18 ?_
    exact w_iretP hX hf dX7_answerOf_20
  · replace hf := (if_neg c3).symm.trans hf
    refine vx_aload_n h0 dX7_answerOf_7 rfl ?_
    refine xg_0_2 hX q309 dX7_answerOf_8 ?_
    refine vx_iload_n h0 dX7_answerOf_11 rfl ?_
    obtain ⟨r5, h4, hf⟩ := ob_some hf
    refine w_callV (st := []) (ci := 6) (q0 := 24) hX (c_X6_answerTo h4) ce_X6_answerTo q485 ⟨rfl, rfl⟩ ⟨by decide, by decide⟩ rfl rfl rfl rfl (xo_24 g _) rfl (Nat.le_of_ble_eq_true rfl) dX7_answerOf_12 ?_
    show Vx X g.1 2 (wsX g σ) 15 [(0, .ref (g.2.1 0)), (1, .int a0)] [.int r5]
    refine vx_goto (tgt := 20) h0 dX7_answerOf_15 (by decide) ?_
    exact w_iretP hX hf dX7_answerOf_20
def FX7_told (σ : SS) (a0 : Int32) : Option (Int32 × SS) :=
  if a0 = (0 : Int32) then some ((gI σ 40), σ)
    else if a0 = (1 : Int32) then some ((gI σ 41), σ)
    else if a0 = (2 : Int32) then some ((gI σ 10), σ)
    else if a0 = (3 : Int32) then some ((gI σ 60), σ)
    else if a0 = (4 : Int32) then ob (FX7_inForceNow σ) (fun r7 => some (r7, σ))
    else if a0 = (5 : Int32) then ob (FX3_sure σ) (fun r10 => some (r10, σ))
    else if a0 = (6 : Int32) then ob (FX3_never σ) (fun r13 => some (r13, σ))
    else if a0 = (7 : Int32) then ob (FX3_open σ) (fun r16 => some (r16, σ))
    else if a0 = (8 : Int32) then some ((gI σ 62), σ)
    else if a0 = (9 : Int32) then ob (FX2_countWrong σ (gI σ 61)) (fun r20 => some (r20, σ))
    else if a0 = (10 : Int32) then ob (FX3_matters σ) (fun r23 => some (r23, σ))
    else if a0 = (11 : Int32) then ob (FX3_ways σ) (fun r26 => some (r26, σ))
    else if a0 = (12 : Int32) then ob (FX3_firstWay σ) (fun r29 => some (r29, σ))
    else if a0 = (13 : Int32) then ob (FX7_inForceNow σ) (fun r32 => ob (FX5_write σ (-1 : Int32) r32) (fun σ34 => some ((gI σ34 91), σ34)))
    else if a0 = (14 : Int32) then some ((gI σ 70), σ)
    else some ((-1000000002 : Int32), σ)
set_option maxRecDepth 100000 in
set_option maxHeartbeats 4000000 in
theorem c_X7_told {σ : SS} {a0 : Int32} {r : Int32} {σr : SS} (hf : FX7_told σ a0 = some (r, σr)) : Mcw wsX yX7_told cX7_told 2 (some .int) ({ frames := 6, cells := 0, slots := 0, locals := 134 } : Room) (fun g => [.ref (g.2.1 0), .int a0]) σ (fun g => some (.int r)) σr := by
  refine w_enter wsX_fix (by decide) (fun g => Nat.le_of_ble_eq_true rfl) ?_
  intro X g hX
  replace hX : Okw wsX X g cX7_told 2 RX7 (some .int) ({ frames := 6, cells := 0, slots := 0, locals := 134 } : Room) (fun g => some (.int r)) σr := hX
  have h0 := hX.1
  show Vx X g.1 2 (wsX g σ) 0 [(0, .ref (g.2.1 0)), (1, .int a0)] []
  rw [FX7_told] at hf
  refine vx_iload_n h0 dX7_told_0 rfl ?_
  by_cases c1 : a0 = (0 : Int32)
  · replace hf := (if_pos c1).symm.trans hf
    refine vx_tabK (off := 75) (tgt := 76) h0 (0 : Int32) c1 dX7_told_1 (by decide) (by decide) (by decide) (by decide) ?_
    refine vx_aload_n h0 dX7_told_76 rfl ?_
    refine xg_0_1 hX q308 dX7_told_77 ?_
    refine xg_14_0 hX q103 dX7_told_80 ?_
    exact w_iretE hX hf dX7_told_83
  · replace hf := (if_neg c1).symm.trans hf
    by_cases c2 : a0 = (1 : Int32)
    · replace hf := (if_pos c2).symm.trans hf
      refine vx_tabK (off := 83) (tgt := 84) h0 (1 : Int32) c2 dX7_told_1 (by decide) (by decide) (by decide) (by decide) ?_
      refine vx_aload_n h0 dX7_told_84 rfl ?_
      refine xg_0_1 hX q308 dX7_told_85 ?_
      refine xg_14_1 hX q109 dX7_told_88 ?_
      exact w_iretE hX hf dX7_told_91
    · replace hf := (if_neg c2).symm.trans hf
      by_cases c3 : a0 = (2 : Int32)
      · replace hf := (if_pos c3).symm.trans hf
        refine vx_tabK (off := 91) (tgt := 92) h0 (2 : Int32) c3 dX7_told_1 (by decide) (by decide) (by decide) (by decide) ?_
        refine vx_aload_n h0 dX7_told_92 rfl ?_
        refine xg_0_0 hX q307 dX7_told_93 ?_
        refine xg_1_0 hX q173 dX7_told_96 ?_
        exact w_iretE hX hf dX7_told_99
      · replace hf := (if_neg c3).symm.trans hf
        by_cases c4 : a0 = (3 : Int32)
        · replace hf := (if_pos c4).symm.trans hf
          refine vx_tabK (off := 99) (tgt := 100) h0 (3 : Int32) c4 dX7_told_1 (by decide) (by decide) (by decide) (by decide) ?_
          refine vx_aload_n h0 dX7_told_100 rfl ?_
          refine xg_0_2 hX q309 dX7_told_101 ?_
          refine xg_24_0 hX q210 dX7_told_104 ?_
          exact w_iretE hX hf dX7_told_107
        · replace hf := (if_neg c4).symm.trans hf
          by_cases c5 : a0 = (4 : Int32)
          · replace hf := (if_pos c5).symm.trans hf
            refine vx_tabK (off := 107) (tgt := 108) h0 (4 : Int32) c5 dX7_told_1 (by decide) (by decide) (by decide) (by decide) ?_
            refine vx_aload_n h0 dX7_told_108 rfl ?_
            obtain ⟨r7, h6, hf⟩ := ob_some hf
            refine w_callV (st := []) (ci := 7) (q0 := 0) hX (c_X7_inForceNow h6) ce_X7_inForceNow q517 ⟨rfl, rfl⟩ ⟨by decide, by decide⟩ rfl rfl rfl rfl (xo_0 g _) rfl (Nat.le_of_ble_eq_true rfl) dX7_told_109 ?_
            show Vx X g.1 2 (wsX g σ) 112 [(0, .ref (g.2.1 0)), (1, .int a0)] [.int r7]
            exact w_iretE hX hf dX7_told_112
          · replace hf := (if_neg c5).symm.trans hf
            by_cases c8 : a0 = (5 : Int32)
            · replace hf := (if_pos c8).symm.trans hf
              refine vx_tabK (off := 112) (tgt := 113) h0 (5 : Int32) c8 dX7_told_1 (by decide) (by decide) (by decide) (by decide) ?_
              refine vx_aload_n h0 dX7_told_113 rfl ?_
              refine xg_0_6 hX q313 dX7_told_114 ?_
              obtain ⟨r10, h9, hf⟩ := ob_some hf
              refine w_callV (st := []) (ci := 3) (q0 := 34) hX (c_X3_sure h9) ce_X3_sure q566 ⟨rfl, rfl⟩ ⟨by decide, by decide⟩ rfl rfl rfl rfl (xo_34 g _) rfl (Nat.le_of_ble_eq_true rfl) dX7_told_117 ?_
              show Vx X g.1 2 (wsX g σ) 120 [(0, .ref (g.2.1 0)), (1, .int a0)] [.int r10]
              exact w_iretE hX hf dX7_told_120
            · replace hf := (if_neg c8).symm.trans hf
              by_cases c11 : a0 = (6 : Int32)
              · replace hf := (if_pos c11).symm.trans hf
                refine vx_tabK (off := 120) (tgt := 121) h0 (6 : Int32) c11 dX7_told_1 (by decide) (by decide) (by decide) (by decide) ?_
                refine vx_aload_n h0 dX7_told_121 rfl ?_
                refine xg_0_6 hX q313 dX7_told_122 ?_
                obtain ⟨r13, h12, hf⟩ := ob_some hf
                refine w_callV (st := []) (ci := 3) (q0 := 34) hX (c_X3_never h12) ce_X3_never q588 ⟨rfl, rfl⟩ ⟨by decide, by decide⟩ rfl rfl rfl rfl (xo_34 g _) rfl (Nat.le_of_ble_eq_true rfl) dX7_told_125 ?_
                show Vx X g.1 2 (wsX g σ) 128 [(0, .ref (g.2.1 0)), (1, .int a0)] [.int r13]
                exact w_iretE hX hf dX7_told_128
              · replace hf := (if_neg c11).symm.trans hf
                by_cases c14 : a0 = (7 : Int32)
                · replace hf := (if_pos c14).symm.trans hf
                  refine vx_tabK (off := 128) (tgt := 129) h0 (7 : Int32) c14 dX7_told_1 (by decide) (by decide) (by decide) (by decide) ?_
                  refine vx_aload_n h0 dX7_told_129 rfl ?_
                  refine xg_0_6 hX q313 dX7_told_130 ?_
                  obtain ⟨r16, h15, hf⟩ := ob_some hf
                  refine w_callV (st := []) (ci := 3) (q0 := 34) hX (c_X3_open h15) ce_X3_open q592 ⟨rfl, rfl⟩ ⟨by decide, by decide⟩ rfl rfl rfl rfl (xo_34 g _) rfl (Nat.le_of_ble_eq_true rfl) dX7_told_133 ?_
                  show Vx X g.1 2 (wsX g σ) 136 [(0, .ref (g.2.1 0)), (1, .int a0)] [.int r16]
                  exact w_iretE hX hf dX7_told_136
                · replace hf := (if_neg c14).symm.trans hf
                  by_cases c17 : a0 = (8 : Int32)
                  · replace hf := (if_pos c17).symm.trans hf
                    refine vx_tabK (off := 136) (tgt := 137) h0 (8 : Int32) c17 dX7_told_1 (by decide) (by decide) (by decide) (by decide) ?_
                    refine vx_aload_n h0 dX7_told_137 rfl ?_
                    refine xg_0_2 hX q309 dX7_told_138 ?_
                    refine xg_24_2 hX q214 dX7_told_141 ?_
                    exact w_iretE hX hf dX7_told_144
                  · replace hf := (if_neg c17).symm.trans hf
                    by_cases c18 : a0 = (9 : Int32)
                    · replace hf := (if_pos c18).symm.trans hf
                      refine vx_tabK (off := 144) (tgt := 145) h0 (9 : Int32) c18 dX7_told_1 (by decide) (by decide) (by decide) (by decide) ?_
                      refine vx_aload_n h0 dX7_told_145 rfl ?_
                      refine xg_0_5 hX q312 dX7_told_146 ?_
                      refine vx_aload_n h0 dX7_told_149 rfl ?_
                      refine xg_0_2 hX q309 dX7_told_150 ?_
                      refine xg_24_1 hX q213 dX7_told_153 ?_
                      obtain ⟨r20, h19, hf⟩ := ob_some hf
                      refine w_callV (st := []) (ci := 2) (q0 := 28) hX (c_X2_countWrong h19) ce_X2_countWrong q596 ⟨rfl, rfl⟩ ⟨by decide, by decide⟩ rfl rfl rfl rfl (xo_28 g _) rfl (Nat.le_of_ble_eq_true rfl) dX7_told_156 ?_
                      show Vx X g.1 2 (wsX g σ) 159 [(0, .ref (g.2.1 0)), (1, .int a0)] [.int r20]
                      exact w_iretE hX hf dX7_told_159
                    · replace hf := (if_neg c18).symm.trans hf
                      by_cases c21 : a0 = (10 : Int32)
                      · replace hf := (if_pos c21).symm.trans hf
                        refine vx_tabK (off := 159) (tgt := 160) h0 (10 : Int32) c21 dX7_told_1 (by decide) (by decide) (by decide) (by decide) ?_
                        refine vx_aload_n h0 dX7_told_160 rfl ?_
                        refine xg_0_6 hX q313 dX7_told_161 ?_
                        obtain ⟨r23, h22, hf⟩ := ob_some hf
                        refine w_callV (st := []) (ci := 3) (q0 := 34) hX (c_X3_matters h22) ce_X3_matters q609 ⟨rfl, rfl⟩ ⟨by decide, by decide⟩ rfl rfl rfl rfl (xo_34 g _) rfl (Nat.le_of_ble_eq_true rfl) dX7_told_164 ?_
                        show Vx X g.1 2 (wsX g σ) 167 [(0, .ref (g.2.1 0)), (1, .int a0)] [.int r23]
                        exact w_iretE hX hf dX7_told_167
                      · replace hf := (if_neg c21).symm.trans hf
                        by_cases c24 : a0 = (11 : Int32)
                        · replace hf := (if_pos c24).symm.trans hf
                          refine vx_tabK (off := 167) (tgt := 168) h0 (11 : Int32) c24 dX7_told_1 (by decide) (by decide) (by decide) (by decide) ?_
                          refine vx_aload_n h0 dX7_told_168 rfl ?_
                          refine xg_0_6 hX q313 dX7_told_169 ?_
                          obtain ⟨r26, h25, hf⟩ := ob_some hf
                          refine w_callV (st := []) (ci := 3) (q0 := 34) hX (c_X3_ways h25) ce_X3_ways q620 ⟨rfl, rfl⟩ ⟨by decide, by decide⟩ rfl rfl rfl rfl (xo_34 g _) rfl (Nat.le_of_ble_eq_true rfl) dX7_told_172 ?_
                          show Vx X g.1 2 (wsX g σ) 175 [(0, .ref (g.2.1 0)), (1, .int a0)] [.int r26]
                          exact w_iretE hX hf dX7_told_175
                        · replace hf := (if_neg c24).symm.trans hf
                          by_cases c27 : a0 = (12 : Int32)
                          · replace hf := (if_pos c27).symm.trans hf
                            refine vx_tabK (off := 175) (tgt := 176) h0 (12 : Int32) c27 dX7_told_1 (by decide) (by decide) (by decide) (by decide) ?_
                            refine vx_aload_n h0 dX7_told_176 rfl ?_
                            refine xg_0_6 hX q313 dX7_told_177 ?_
                            obtain ⟨r29, h28, hf⟩ := ob_some hf
                            refine w_callV (st := []) (ci := 3) (q0 := 34) hX (c_X3_firstWay h28) ce_X3_firstWay q634 ⟨rfl, rfl⟩ ⟨by decide, by decide⟩ rfl rfl rfl rfl (xo_34 g _) rfl (Nat.le_of_ble_eq_true rfl) dX7_told_180 ?_
                            show Vx X g.1 2 (wsX g σ) 183 [(0, .ref (g.2.1 0)), (1, .int a0)] [.int r29]
                            exact w_iretE hX hf dX7_told_183
                          · replace hf := (if_neg c27).symm.trans hf
                            by_cases c30 : a0 = (13 : Int32)
                            · replace hf := (if_pos c30).symm.trans hf
                              refine vx_tabK (off := 183) (tgt := 184) h0 (13 : Int32) c30 dX7_told_1 (by decide) (by decide) (by decide) (by decide) ?_
                              refine vx_aload_n h0 dX7_told_184 rfl ?_
                              refine xg_0_7 hX q314 dX7_told_185 ?_
                              refine vx_iconst (v := (-1 : Int32)) h0 dX7_told_188 (by decide) ?_
                              refine vx_aload_n h0 dX7_told_189 rfl ?_
                              obtain ⟨r32, h31, hf⟩ := ob_some hf
                              refine w_callV (st := [.int (-1 : Int32), .ref (g.2.1 35)]) (ci := 7) (q0 := 0) hX (c_X7_inForceNow h31) ce_X7_inForceNow q517 ⟨rfl, rfl⟩ ⟨by decide, by decide⟩ rfl rfl rfl rfl (xo_0 g _) rfl (Nat.le_of_ble_eq_true rfl) dX7_told_190 ?_
                              show Vx X g.1 2 (wsX g σ) 193 [(0, .ref (g.2.1 0)), (1, .int a0)] [.int r32, .int (-1 : Int32), .ref (g.2.1 35)]
                              obtain ⟨σ34, h33, hf⟩ := ob_some hf
                              refine w_callV (st := []) (ci := 5) (q0 := 35) hX (c_X5_write h33) ce_X5_write q639 ⟨rfl, rfl⟩ ⟨by decide, by decide⟩ rfl rfl rfl rfl (xo_35 g _) rfl (Nat.le_of_ble_eq_true rfl) dX7_told_193 ?_
                              show Vx X g.1 2 (wsX g σ34) 196 [(0, .ref (g.2.1 0)), (1, .int a0)] [.ref (g.2.1 35)]
                              refine xg_35_1 hX q291 dX7_told_196 ?_
                              exact w_iretE hX hf dX7_told_199
                            · replace hf := (if_neg c30).symm.trans hf
                              by_cases c35 : a0 = (14 : Int32)
                              · replace hf := (if_pos c35).symm.trans hf
                                refine vx_tabK (off := 199) (tgt := 200) h0 (14 : Int32) c35 dX7_told_1 (by decide) (by decide) (by decide) (by decide) ?_
                                refine vx_aload_n h0 dX7_told_200 rfl ?_
                                refine xg_0_3 hX q310 dX7_told_201 ?_
                                refine xg_25_0 hX q230 dX7_told_204 ?_
                                exact w_iretE hX hf dX7_told_207
                              · replace hf := (if_neg c35).symm.trans hf
                                have nc1 : ¬ Int32.toInt a0 = 0 := lv_neT c1 rfl
                                have nc2 : ¬ Int32.toInt a0 = 1 := lv_neT c2 rfl
                                have nc3 : ¬ Int32.toInt a0 = 2 := lv_neT c3 rfl
                                have nc4 : ¬ Int32.toInt a0 = 3 := lv_neT c4 rfl
                                have nc5 : ¬ Int32.toInt a0 = 4 := lv_neT c5 rfl
                                have nc8 : ¬ Int32.toInt a0 = 5 := lv_neT c8 rfl
                                have nc11 : ¬ Int32.toInt a0 = 6 := lv_neT c11 rfl
                                have nc14 : ¬ Int32.toInt a0 = 7 := lv_neT c14 rfl
                                have nc17 : ¬ Int32.toInt a0 = 8 := lv_neT c17 rfl
                                have nc18 : ¬ Int32.toInt a0 = 9 := lv_neT c18 rfl
                                have nc21 : ¬ Int32.toInt a0 = 10 := lv_neT c21 rfl
                                have nc24 : ¬ Int32.toInt a0 = 11 := lv_neT c24 rfl
                                have nc27 : ¬ Int32.toInt a0 = 12 := lv_neT c27 rfl
                                have nc30 : ¬ Int32.toInt a0 = 13 := lv_neT c30 rfl
                                have nc35 : ¬ Int32.toInt a0 = 14 := lv_neT c35 rfl
                                refine vx_tabOut (tgt := 208) h0 dX7_told_1 (by omega) (by decide) ?_
                                refine vx_ldc h0 q336 dX7_told_208 ?_
                                exact w_iretE hX hf dX7_told_210
def FX7_wrong (σ : SS) (a0 : Int32) : Option (Int32) :=
  if a0 = (0 : Int32) then ob (FX2_countAmiss σ (1 : Int32) (gI σ 61)) (fun r3 => some r3)
    else if a0 = (1 : Int32) then ob (FX2_countAmiss σ (0 : Int32) (gI σ 61)) (fun r6 => some r6)
    else if a0 = (2 : Int32) then ob (FX2_countIdle σ (gI σ 61)) (fun r9 => some r9)
    else if a0 = (3 : Int32) then ob (FX2_countAmiss σ (2 : Int32) (gI σ 61)) (fun r12 => some r12)
    else if a0 = (4 : Int32) then ob (FX2_roundTerms σ (gI σ 61)) (fun r15 => some r15)
    else if a0 = (5 : Int32) then ob (FX2_firstAmiss σ (gI σ 61)) (fun r18 => ob (FX0_ownerOf σ r18) (fun r20 => some r20))
    else if a0 = (6 : Int32) then ob (FX2_firstAmiss σ (gI σ 61)) (fun r23 => some r23)
    else some (-1000000002 : Int32)
set_option maxRecDepth 100000 in
set_option maxHeartbeats 4000000 in
theorem c_X7_wrong {σ : SS} {a0 : Int32} {r : Int32} (hf : FX7_wrong σ a0 = some r) : Mcw wsX yX7_wrong cX7_wrong 3 (some .int) ({ frames := 4, cells := 0, slots := 0, locals := 94 } : Room) (fun g => [.ref (g.2.1 0), .int a0]) σ (fun g => some (.int r)) σ := by
  refine w_enter wsX_fix (by decide) (fun g => Nat.le_of_ble_eq_true rfl) ?_
  intro X g hX
  replace hX : Okw wsX X g cX7_wrong 3 RX7 (some .int) ({ frames := 4, cells := 0, slots := 0, locals := 94 } : Room) (fun g => some (.int r)) σ := hX
  have h0 := hX.1
  show Vx X g.1 3 (wsX g σ) 0 [(0, .ref (g.2.1 0)), (1, .int a0)] []
  rw [FX7_wrong] at hf
  refine vx_aload_n h0 dX7_wrong_0 rfl ?_
  refine xg_0_2 hX q309 dX7_wrong_1 ?_
  refine xg_24_1 hX q213 dX7_wrong_4 ?_
  refine vx_istore_n (ls' := [(2, .int (gI σ 61)), (0, .ref (g.2.1 0)), (1, .int a0)]) h0 dX7_wrong_7 (by decide) rfl ?_
  refine vx_iload_n h0 dX7_wrong_8 rfl ?_
  by_cases c1 : a0 = (0 : Int32)
  · replace hf := (if_pos c1).symm.trans hf
    refine vx_tabK (off := 43) (tgt := 52) h0 (0 : Int32) c1 dX7_wrong_9 (by decide) (by decide) (by decide) (by decide) ?_
    refine vx_aload_n h0 dX7_wrong_52 rfl ?_
    refine xg_0_5 hX q312 dX7_wrong_53 ?_
    refine vx_iconst (v := (1 : Int32)) h0 dX7_wrong_56 (by decide) ?_
    refine vx_iload_n h0 dX7_wrong_57 rfl ?_
    obtain ⟨r3, h2, hf⟩ := ob_some hf
    refine w_callV (st := []) (ci := 2) (q0 := 28) hX (c_X2_countAmiss h2) ce_X2_countAmiss q677 ⟨rfl, rfl⟩ ⟨by decide, by decide⟩ rfl rfl rfl rfl (xo_28 g _) rfl (Nat.le_of_ble_eq_true rfl) dX7_wrong_58 ?_
    show Vx X g.1 3 (wsX g σ) 61 [(2, .int (gI σ 61)), (0, .ref (g.2.1 0)), (1, .int a0)] [.int r3]
    exact w_iretP hX hf dX7_wrong_61
  · replace hf := (if_neg c1).symm.trans hf
    by_cases c4 : a0 = (1 : Int32)
    · replace hf := (if_pos c4).symm.trans hf
      refine vx_tabK (off := 53) (tgt := 62) h0 (1 : Int32) c4 dX7_wrong_9 (by decide) (by decide) (by decide) (by decide) ?_
      refine vx_aload_n h0 dX7_wrong_62 rfl ?_
      refine xg_0_5 hX q312 dX7_wrong_63 ?_
      refine vx_iconst (v := (0 : Int32)) h0 dX7_wrong_66 (by decide) ?_
      refine vx_iload_n h0 dX7_wrong_67 rfl ?_
      obtain ⟨r6, h5, hf⟩ := ob_some hf
      refine w_callV (st := []) (ci := 2) (q0 := 28) hX (c_X2_countAmiss h5) ce_X2_countAmiss q677 ⟨rfl, rfl⟩ ⟨by decide, by decide⟩ rfl rfl rfl rfl (xo_28 g _) rfl (Nat.le_of_ble_eq_true rfl) dX7_wrong_68 ?_
      show Vx X g.1 3 (wsX g σ) 71 [(2, .int (gI σ 61)), (0, .ref (g.2.1 0)), (1, .int a0)] [.int r6]
      exact w_iretP hX hf dX7_wrong_71
    · replace hf := (if_neg c4).symm.trans hf
      by_cases c7 : a0 = (2 : Int32)
      · replace hf := (if_pos c7).symm.trans hf
        refine vx_tabK (off := 63) (tgt := 72) h0 (2 : Int32) c7 dX7_wrong_9 (by decide) (by decide) (by decide) (by decide) ?_
        refine vx_aload_n h0 dX7_wrong_72 rfl ?_
        refine xg_0_5 hX q312 dX7_wrong_73 ?_
        refine vx_iload_n h0 dX7_wrong_76 rfl ?_
        obtain ⟨r9, h8, hf⟩ := ob_some hf
        refine w_callV (st := []) (ci := 2) (q0 := 28) hX (c_X2_countIdle h8) ce_X2_countIdle q678 ⟨rfl, rfl⟩ ⟨by decide, by decide⟩ rfl rfl rfl rfl (xo_28 g _) rfl (Nat.le_of_ble_eq_true rfl) dX7_wrong_77 ?_
        show Vx X g.1 3 (wsX g σ) 80 [(2, .int (gI σ 61)), (0, .ref (g.2.1 0)), (1, .int a0)] [.int r9]
        exact w_iretP hX hf dX7_wrong_80
      · replace hf := (if_neg c7).symm.trans hf
        by_cases c10 : a0 = (3 : Int32)
        · replace hf := (if_pos c10).symm.trans hf
          refine vx_tabK (off := 72) (tgt := 81) h0 (3 : Int32) c10 dX7_wrong_9 (by decide) (by decide) (by decide) (by decide) ?_
          refine vx_aload_n h0 dX7_wrong_81 rfl ?_
          refine xg_0_5 hX q312 dX7_wrong_82 ?_
          refine vx_iconst (v := (2 : Int32)) h0 dX7_wrong_85 (by decide) ?_
          refine vx_iload_n h0 dX7_wrong_86 rfl ?_
          obtain ⟨r12, h11, hf⟩ := ob_some hf
          refine w_callV (st := []) (ci := 2) (q0 := 28) hX (c_X2_countAmiss h11) ce_X2_countAmiss q677 ⟨rfl, rfl⟩ ⟨by decide, by decide⟩ rfl rfl rfl rfl (xo_28 g _) rfl (Nat.le_of_ble_eq_true rfl) dX7_wrong_87 ?_
          show Vx X g.1 3 (wsX g σ) 90 [(2, .int (gI σ 61)), (0, .ref (g.2.1 0)), (1, .int a0)] [.int r12]
          exact w_iretP hX hf dX7_wrong_90
        · replace hf := (if_neg c10).symm.trans hf
          by_cases c13 : a0 = (4 : Int32)
          · replace hf := (if_pos c13).symm.trans hf
            refine vx_tabK (off := 82) (tgt := 91) h0 (4 : Int32) c13 dX7_wrong_9 (by decide) (by decide) (by decide) (by decide) ?_
            refine vx_aload_n h0 dX7_wrong_91 rfl ?_
            refine xg_0_5 hX q312 dX7_wrong_92 ?_
            refine vx_iload_n h0 dX7_wrong_95 rfl ?_
            obtain ⟨r15, h14, hf⟩ := ob_some hf
            refine w_callV (st := []) (ci := 2) (q0 := 28) hX (c_X2_roundTerms h14) ce_X2_roundTerms q690 ⟨rfl, rfl⟩ ⟨by decide, by decide⟩ rfl rfl rfl rfl (xo_28 g _) rfl (Nat.le_of_ble_eq_true rfl) dX7_wrong_96 ?_
            show Vx X g.1 3 (wsX g σ) 99 [(2, .int (gI σ 61)), (0, .ref (g.2.1 0)), (1, .int a0)] [.int r15]
            exact w_iretP hX hf dX7_wrong_99
          · replace hf := (if_neg c13).symm.trans hf
            by_cases c16 : a0 = (5 : Int32)
            · replace hf := (if_pos c16).symm.trans hf
              refine vx_tabK (off := 91) (tgt := 100) h0 (5 : Int32) c16 dX7_wrong_9 (by decide) (by decide) (by decide) (by decide) ?_
              refine vx_aload_n h0 dX7_wrong_100 rfl ?_
              refine xg_0_1 hX q308 dX7_wrong_101 ?_
              refine vx_aload_n h0 dX7_wrong_104 rfl ?_
              refine xg_0_5 hX q312 dX7_wrong_105 ?_
              refine vx_iload_n h0 dX7_wrong_108 rfl ?_
              obtain ⟨r18, h17, hf⟩ := ob_some hf
              refine w_callV (st := [.ref (g.2.1 14)]) (ci := 2) (q0 := 28) hX (c_X2_firstAmiss h17) ce_X2_firstAmiss q691 ⟨rfl, rfl⟩ ⟨by decide, by decide⟩ rfl rfl rfl rfl (xo_28 g _) rfl (Nat.le_of_ble_eq_true rfl) dX7_wrong_109 ?_
              show Vx X g.1 3 (wsX g σ) 112 [(2, .int (gI σ 61)), (0, .ref (g.2.1 0)), (1, .int a0)] [.int r18, .ref (g.2.1 14)]
              obtain ⟨r20, h19, hf⟩ := ob_some hf
              refine w_callV (st := []) (ci := 0) (q0 := 14) hX (c_X0_ownerOf h19) ce_X0_ownerOf q695 ⟨rfl, rfl⟩ ⟨by decide, by decide⟩ rfl rfl rfl rfl (xo_14 g _) rfl (Nat.le_of_ble_eq_true rfl) dX7_wrong_112 ?_
              show Vx X g.1 3 (wsX g σ) 115 [(2, .int (gI σ 61)), (0, .ref (g.2.1 0)), (1, .int a0)] [.int r20]
              exact w_iretP hX hf dX7_wrong_115
            · replace hf := (if_neg c16).symm.trans hf
              by_cases c21 : a0 = (6 : Int32)
              · replace hf := (if_pos c21).symm.trans hf
                refine vx_tabK (off := 107) (tgt := 116) h0 (6 : Int32) c21 dX7_wrong_9 (by decide) (by decide) (by decide) (by decide) ?_
                refine vx_aload_n h0 dX7_wrong_116 rfl ?_
                refine xg_0_5 hX q312 dX7_wrong_117 ?_
                refine vx_iload_n h0 dX7_wrong_120 rfl ?_
                obtain ⟨r23, h22, hf⟩ := ob_some hf
                refine w_callV (st := []) (ci := 2) (q0 := 28) hX (c_X2_firstAmiss h22) ce_X2_firstAmiss q691 ⟨rfl, rfl⟩ ⟨by decide, by decide⟩ rfl rfl rfl rfl (xo_28 g _) rfl (Nat.le_of_ble_eq_true rfl) dX7_wrong_121 ?_
                show Vx X g.1 3 (wsX g σ) 124 [(2, .int (gI σ 61)), (0, .ref (g.2.1 0)), (1, .int a0)] [.int r23]
                exact w_iretP hX hf dX7_wrong_124
              · replace hf := (if_neg c21).symm.trans hf
                have nc1 : ¬ Int32.toInt a0 = 0 := lv_neT c1 rfl
                have nc4 : ¬ Int32.toInt a0 = 1 := lv_neT c4 rfl
                have nc7 : ¬ Int32.toInt a0 = 2 := lv_neT c7 rfl
                have nc10 : ¬ Int32.toInt a0 = 3 := lv_neT c10 rfl
                have nc13 : ¬ Int32.toInt a0 = 4 := lv_neT c13 rfl
                have nc16 : ¬ Int32.toInt a0 = 5 := lv_neT c16 rfl
                have nc21 : ¬ Int32.toInt a0 = 6 := lv_neT c21 rfl
                refine vx_tabOut (tgt := 125) h0 dX7_wrong_9 (by omega) (by decide) ?_
                refine vx_ldc h0 q336 dX7_wrong_125 ?_
                exact w_iretP hX hf dX7_wrong_127
def FX7_clause (σ : SS) (a0 : Int32) (a1 : Int32) : Option (Int32) :=
  ob (FX7_isClause σ a0) (fun r2 => if r2 = 0 then some (-1000000001 : Int32)
    else if a1 = (0 : Int32) then gd (inb a0 16) (some (gA σ 43 (Int32.toNatClampNeg a0)))
    else if a1 = (1 : Int32) then gd (inb a0 16) (some (gA σ 44 (Int32.toNatClampNeg a0)))
    else if a1 = (2 : Int32) then ob (FX0_within σ a0) (fun r10 => some r10)
    else if a1 = (3 : Int32) then gd (inb a0 16) (some (gA σ 45 (Int32.toNatClampNeg a0)))
    else if a1 = (4 : Int32) then gd (inb a0 16) (some (gA σ 46 (Int32.toNatClampNeg a0)))
    else if a1 = (5 : Int32) then ob (FX7_has σ (gI σ 42) a0) (fun r17 => if r17 = 0 then some (0 : Int32)
    else some (1 : Int32))
    else if a1 = (6 : Int32) then ob (FX0_countOwnParts σ a0) (fun r21 => some r21)
    else if a1 = (7 : Int32) then ob (FX0_holds σ a0) (fun r24 => ob (FX7_isSo σ r24 (gI σ 61)) (fun r26 => if r26 = 0 then some (0 : Int32)
    else some (1 : Int32)))
    else if a1 = (8 : Int32) then ob (FX7_inForceNow σ) (fun r30 => ob (FX7_has σ r30 a0) (fun r32 => if r32 = 0 then some (0 : Int32)
    else some (1 : Int32)))
    else if a1 = (9 : Int32) then gd (inb a0 16) (some (gA σ 47 (Int32.toNatClampNeg a0)))
    else some (-1000000002 : Int32))
set_option maxRecDepth 100000 in
set_option maxHeartbeats 4000000 in
theorem c_X7_clause {σ : SS} {a0 : Int32} {a1 : Int32} {r : Int32} (hf : FX7_clause σ a0 a1 = some r) : Mcw wsX yX7_clause cX7_clause 3 (some .int) ({ frames := 3, cells := 0, slots := 0, locals := 65 } : Room) (fun g => [.ref (g.2.1 0), .int a0, .int a1]) σ (fun g => some (.int r)) σ := by
  refine w_enter wsX_fix (by decide) (fun g => Nat.le_of_ble_eq_true rfl) ?_
  intro X g hX
  replace hX : Okw wsX X g cX7_clause 3 RX7 (some .int) ({ frames := 3, cells := 0, slots := 0, locals := 65 } : Room) (fun g => some (.int r)) σ := hX
  have h0 := hX.1
  show Vx X g.1 3 (wsX g σ) 0 [(0, .ref (g.2.1 0)), (1, .int a0), (2, .int a1)] []
  rw [FX7_clause] at hf
  refine vx_aload_n h0 dX7_clause_0 rfl ?_
  refine vx_iload_n h0 dX7_clause_1 rfl ?_
  obtain ⟨r2, h1, hf⟩ := ob_some hf
  refine w_callV (st := []) (ci := 7) (q0 := 0) hX (c_X7_isClause h1) ce_X7_isClause q512 ⟨rfl, rfl⟩ ⟨by decide, by decide⟩ rfl rfl rfl rfl (xo_0 g _) rfl (Nat.le_of_ble_eq_true rfl) dX7_clause_2 ?_
  show Vx X g.1 3 (wsX g σ) 5 [(0, .ref (g.2.1 0)), (1, .int a0), (2, .int a1)] [.int r2]
  refine vx_if_ne (tgt := 11) h0 dX7_clause_5 (by decide) (fun c3 => ?_) (fun c3 => ?_)
  · replace hf := (if_neg c3).symm.trans hf
    refine vx_iload_n h0 dX7_clause_11 rfl ?_
    by_cases c4 : a1 = (0 : Int32)
    · replace hf := (if_pos c4).symm.trans hf
      refine vx_tabK (off := 56) (tgt := 68) h0 (0 : Int32) c4 dX7_clause_12 (by decide) (by decide) (by decide) (by decide) ?_
      refine vx_aload_n h0 dX7_clause_68 rfl ?_
      refine xg_0_1 hX q308 dX7_clause_69 ?_
      refine xg_14_3 hX q118 dX7_clause_72 ?_
      refine vx_iload_n h0 dX7_clause_75 rfl ?_
      obtain ⟨b5, hf⟩ := gd_some hf
      refine xl_15 hX b5 dX7_clause_76 ?_
      exact w_iretP hX hf dX7_clause_77
    · replace hf := (if_neg c4).symm.trans hf
      by_cases c6 : a1 = (1 : Int32)
      · replace hf := (if_pos c6).symm.trans hf
        refine vx_tabK (off := 66) (tgt := 78) h0 (1 : Int32) c6 dX7_clause_12 (by decide) (by decide) (by decide) (by decide) ?_
        refine vx_aload_n h0 dX7_clause_78 rfl ?_
        refine xg_0_1 hX q308 dX7_clause_79 ?_
        refine xg_14_4 hX q121 dX7_clause_82 ?_
        refine vx_iload_n h0 dX7_clause_85 rfl ?_
        obtain ⟨b7, hf⟩ := gd_some hf
        refine xl_16 hX b7 dX7_clause_86 ?_
        exact w_iretP hX hf dX7_clause_87
      · replace hf := (if_neg c6).symm.trans hf
        by_cases c8 : a1 = (2 : Int32)
        · replace hf := (if_pos c8).symm.trans hf
          refine vx_tabK (off := 76) (tgt := 88) h0 (2 : Int32) c8 dX7_clause_12 (by decide) (by decide) (by decide) (by decide) ?_
          refine vx_aload_n h0 dX7_clause_88 rfl ?_
          refine xg_0_1 hX q308 dX7_clause_89 ?_
          refine vx_iload_n h0 dX7_clause_92 rfl ?_
          obtain ⟨r10, h9, hf⟩ := ob_some hf
          refine w_callV (st := []) (ci := 0) (q0 := 14) hX (c_X0_within h9) ce_X0_within q703 ⟨rfl, rfl⟩ ⟨by decide, by decide⟩ rfl rfl rfl rfl (xo_14 g _) rfl (Nat.le_of_ble_eq_true rfl) dX7_clause_93 ?_
          show Vx X g.1 3 (wsX g σ) 96 [(0, .ref (g.2.1 0)), (1, .int a0), (2, .int a1)] [.int r10]
          exact w_iretP hX hf dX7_clause_96
        · replace hf := (if_neg c8).symm.trans hf
          by_cases c11 : a1 = (3 : Int32)
          · replace hf := (if_pos c11).symm.trans hf
            refine vx_tabK (off := 85) (tgt := 97) h0 (3 : Int32) c11 dX7_clause_12 (by decide) (by decide) (by decide) (by decide) ?_
            refine vx_aload_n h0 dX7_clause_97 rfl ?_
            refine xg_0_1 hX q308 dX7_clause_98 ?_
            refine xg_14_5 hX q124 dX7_clause_101 ?_
            refine vx_iload_n h0 dX7_clause_104 rfl ?_
            obtain ⟨b12, hf⟩ := gd_some hf
            refine xl_17 hX b12 dX7_clause_105 ?_
            exact w_iretP hX hf dX7_clause_106
          · replace hf := (if_neg c11).symm.trans hf
            by_cases c13 : a1 = (4 : Int32)
            · replace hf := (if_pos c13).symm.trans hf
              refine vx_tabK (off := 95) (tgt := 107) h0 (4 : Int32) c13 dX7_clause_12 (by decide) (by decide) (by decide) (by decide) ?_
              refine vx_aload_n h0 dX7_clause_107 rfl ?_
              refine xg_0_1 hX q308 dX7_clause_108 ?_
              refine xg_14_6 hX q127 dX7_clause_111 ?_
              refine vx_iload_n h0 dX7_clause_114 rfl ?_
              obtain ⟨b14, hf⟩ := gd_some hf
              refine xl_18 hX b14 dX7_clause_115 ?_
              exact w_iretP hX hf dX7_clause_116
            · replace hf := (if_neg c13).symm.trans hf
              by_cases c15 : a1 = (5 : Int32)
              · replace hf := (if_pos c15).symm.trans hf
                refine vx_tabK (off := 105) (tgt := 117) h0 (5 : Int32) c15 dX7_clause_12 (by decide) (by decide) (by decide) (by decide) ?_
                refine vx_aload_n h0 dX7_clause_117 rfl ?_
                refine xg_0_1 hX q308 dX7_clause_118 ?_
                refine xg_14_2 hX q114 dX7_clause_121 ?_
                refine vx_iload_n h0 dX7_clause_124 rfl ?_
                obtain ⟨r17, h16, hf⟩ := ob_some hf
                refine w_callS (st := []) hX (c_X7_has h16) ce_X7_has q516 ⟨rfl, rfl⟩ ⟨by decide, by decide⟩ rfl rfl rfl (Nat.le_of_ble_eq_true rfl) dX7_clause_125 ?_
                show Vx X g.1 3 (wsX g σ) 128 [(0, .ref (g.2.1 0)), (1, .int a0), (2, .int a1)] [.int r17]
                refine vx_if_eq (tgt := 135) h0 dX7_clause_128 (by decide) (fun c18 => ?_) (fun c18 => ?_)
                · replace hf := (if_pos c18).symm.trans hf
                  refine vx_iconst (v := (0 : Int32)) h0 dX7_clause_135 (by decide) ?_
                  exact w_iretP hX hf dX7_clause_136
                · replace hf := (if_neg c18).symm.trans hf
                  refine vx_iconst (v := (1 : Int32)) h0 dX7_clause_131 (by decide) ?_
                  refine vx_goto (tgt := 136) h0 dX7_clause_132 (by decide) ?_
                  exact w_iretP hX hf dX7_clause_136
              · replace hf := (if_neg c15).symm.trans hf
                by_cases c19 : a1 = (6 : Int32)
                · replace hf := (if_pos c19).symm.trans hf
                  refine vx_tabK (off := 125) (tgt := 137) h0 (6 : Int32) c19 dX7_clause_12 (by decide) (by decide) (by decide) (by decide) ?_
                  refine vx_aload_n h0 dX7_clause_137 rfl ?_
                  refine xg_0_1 hX q308 dX7_clause_138 ?_
                  refine vx_iload_n h0 dX7_clause_141 rfl ?_
                  obtain ⟨r21, h20, hf⟩ := ob_some hf
                  refine w_callV (st := []) (ci := 0) (q0 := 14) hX (c_X0_countOwnParts h20) ce_X0_countOwnParts q707 ⟨rfl, rfl⟩ ⟨by decide, by decide⟩ rfl rfl rfl rfl (xo_14 g _) rfl (Nat.le_of_ble_eq_true rfl) dX7_clause_142 ?_
                  show Vx X g.1 3 (wsX g σ) 145 [(0, .ref (g.2.1 0)), (1, .int a0), (2, .int a1)] [.int r21]
                  exact w_iretP hX hf dX7_clause_145
                · replace hf := (if_neg c19).symm.trans hf
                  by_cases c22 : a1 = (7 : Int32)
                  · replace hf := (if_pos c22).symm.trans hf
                    refine vx_tabK (off := 134) (tgt := 146) h0 (7 : Int32) c22 dX7_clause_12 (by decide) (by decide) (by decide) (by decide) ?_
                    refine vx_aload_n h0 dX7_clause_146 rfl ?_
                    refine xg_0_1 hX q308 dX7_clause_147 ?_
                    refine vx_iload_n h0 dX7_clause_150 rfl ?_
                    obtain ⟨r24, h23, hf⟩ := ob_some hf
                    refine w_callV (st := []) (ci := 0) (q0 := 14) hX (c_X0_holds h23) ce_X0_holds q711 ⟨rfl, rfl⟩ ⟨by decide, by decide⟩ rfl rfl rfl rfl (xo_14 g _) rfl (Nat.le_of_ble_eq_true rfl) dX7_clause_151 ?_
                    show Vx X g.1 3 (wsX g σ) 154 [(0, .ref (g.2.1 0)), (1, .int a0), (2, .int a1)] [.long r24]
                    refine vx_aload_n h0 dX7_clause_154 rfl ?_
                    refine xg_0_2 hX q309 dX7_clause_155 ?_
                    refine xg_24_1 hX q213 dX7_clause_158 ?_
                    obtain ⟨r26, h25, hf⟩ := ob_some hf
                    refine w_callS (st := []) hX (c_X7_isSo h25) ce_X7_isSo q712 ⟨rfl, rfl⟩ ⟨by decide, by decide⟩ rfl rfl rfl (Nat.le_of_ble_eq_true rfl) dX7_clause_161 ?_
                    show Vx X g.1 3 (wsX g σ) 164 [(0, .ref (g.2.1 0)), (1, .int a0), (2, .int a1)] [.int r26]
                    refine vx_if_eq (tgt := 171) h0 dX7_clause_164 (by decide) (fun c27 => ?_) (fun c27 => ?_)
                    · replace hf := (if_pos c27).symm.trans hf
                      refine vx_iconst (v := (0 : Int32)) h0 dX7_clause_171 (by decide) ?_
                      exact w_iretP hX hf dX7_clause_172
                    · replace hf := (if_neg c27).symm.trans hf
                      refine vx_iconst (v := (1 : Int32)) h0 dX7_clause_167 (by decide) ?_
                      refine vx_goto (tgt := 172) h0 dX7_clause_168 (by decide) ?_
                      exact w_iretP hX hf dX7_clause_172
                  · replace hf := (if_neg c22).symm.trans hf
                    by_cases c28 : a1 = (8 : Int32)
                    · replace hf := (if_pos c28).symm.trans hf
                      refine vx_tabK (off := 161) (tgt := 173) h0 (8 : Int32) c28 dX7_clause_12 (by decide) (by decide) (by decide) (by decide) ?_
                      refine vx_aload_n h0 dX7_clause_173 rfl ?_
                      obtain ⟨r30, h29, hf⟩ := ob_some hf
                      refine w_callV (st := []) (ci := 7) (q0 := 0) hX (c_X7_inForceNow h29) ce_X7_inForceNow q517 ⟨rfl, rfl⟩ ⟨by decide, by decide⟩ rfl rfl rfl rfl (xo_0 g _) rfl (Nat.le_of_ble_eq_true rfl) dX7_clause_174 ?_
                      show Vx X g.1 3 (wsX g σ) 177 [(0, .ref (g.2.1 0)), (1, .int a0), (2, .int a1)] [.int r30]
                      refine vx_iload_n h0 dX7_clause_177 rfl ?_
                      obtain ⟨r32, h31, hf⟩ := ob_some hf
                      refine w_callS (st := []) hX (c_X7_has h31) ce_X7_has q516 ⟨rfl, rfl⟩ ⟨by decide, by decide⟩ rfl rfl rfl (Nat.le_of_ble_eq_true rfl) dX7_clause_178 ?_
                      show Vx X g.1 3 (wsX g σ) 181 [(0, .ref (g.2.1 0)), (1, .int a0), (2, .int a1)] [.int r32]
                      refine vx_if_eq (tgt := 188) h0 dX7_clause_181 (by decide) (fun c33 => ?_) (fun c33 => ?_)
                      · replace hf := (if_pos c33).symm.trans hf
                        refine vx_iconst (v := (0 : Int32)) h0 dX7_clause_188 (by decide) ?_
                        exact w_iretP hX hf dX7_clause_189
                      · replace hf := (if_neg c33).symm.trans hf
                        refine vx_iconst (v := (1 : Int32)) h0 dX7_clause_184 (by decide) ?_
                        refine vx_goto (tgt := 189) h0 dX7_clause_185 (by decide) ?_
                        exact w_iretP hX hf dX7_clause_189
                    · replace hf := (if_neg c28).symm.trans hf
                      by_cases c34 : a1 = (9 : Int32)
                      · replace hf := (if_pos c34).symm.trans hf
                        refine vx_tabK (off := 178) (tgt := 190) h0 (9 : Int32) c34 dX7_clause_12 (by decide) (by decide) (by decide) (by decide) ?_
                        refine vx_aload_n h0 dX7_clause_190 rfl ?_
                        refine xg_0_1 hX q308 dX7_clause_191 ?_
                        refine xg_14_7 hX q130 dX7_clause_194 ?_
                        refine vx_iload_n h0 dX7_clause_197 rfl ?_
                        obtain ⟨b35, hf⟩ := gd_some hf
                        refine xl_19 hX b35 dX7_clause_198 ?_
                        exact w_iretP hX hf dX7_clause_199
                      · replace hf := (if_neg c34).symm.trans hf
                        have nc4 : ¬ Int32.toInt a1 = 0 := lv_neT c4 rfl
                        have nc6 : ¬ Int32.toInt a1 = 1 := lv_neT c6 rfl
                        have nc8 : ¬ Int32.toInt a1 = 2 := lv_neT c8 rfl
                        have nc11 : ¬ Int32.toInt a1 = 3 := lv_neT c11 rfl
                        have nc13 : ¬ Int32.toInt a1 = 4 := lv_neT c13 rfl
                        have nc15 : ¬ Int32.toInt a1 = 5 := lv_neT c15 rfl
                        have nc19 : ¬ Int32.toInt a1 = 6 := lv_neT c19 rfl
                        have nc22 : ¬ Int32.toInt a1 = 7 := lv_neT c22 rfl
                        have nc28 : ¬ Int32.toInt a1 = 8 := lv_neT c28 rfl
                        have nc34 : ¬ Int32.toInt a1 = 9 := lv_neT c34 rfl
                        refine vx_tabOut (tgt := 200) h0 dX7_clause_12 (by omega) (by decide) ?_
                        refine vx_ldc h0 q336 dX7_clause_200 ?_
                        exact w_iretP hX hf dX7_clause_202
  · replace hf := (if_pos c3).symm.trans hf
    refine vx_ldc h0 q484 dX7_clause_8 ?_
    exact w_iretP hX hf dX7_clause_10
