/-! printed by wip/whole/gen.py: decode rows, functions, contracts -/
theorem dX8_notes_0 : decode cX8_notes 0 = .ok (.aload_n 0, 1) := by decide +kernel
theorem dX8_notes_1 : decode cX8_notes 1 = .ok (.getfield 144, 3) := by decide +kernel
theorem dX8_notes_4 : decode cX8_notes 4 = .ok (.bipush 8, 2) := by decide +kernel
theorem dX8_notes_6 : decode cX8_notes 6 = .ok (.if_icmp .ne 41, 3) := by decide +kernel
theorem dX8_notes_9 : decode cX8_notes 9 = .ok (.iconst 0, 1) := by decide +kernel
theorem dX8_notes_10 : decode cX8_notes 10 = .ok (.istore_n 1, 1) := by decide +kernel
theorem dX8_notes_11 : decode cX8_notes 11 = .ok (.iload_n 1, 1) := by decide +kernel
theorem dX8_notes_12 : decode cX8_notes 12 = .ok (.bipush 21, 2) := by decide +kernel
theorem dX8_notes_14 : decode cX8_notes 14 = .ok (.if_icmp .ge 23, 3) := by decide +kernel
theorem dX8_notes_17 : decode cX8_notes 17 = .ok (.aload_n 0, 1) := by decide +kernel
theorem dX8_notes_18 : decode cX8_notes 18 = .ok (.getfield 62, 3) := by decide +kernel
theorem dX8_notes_21 : decode cX8_notes 21 = .ok (.iload_n 1, 1) := by decide +kernel
theorem dX8_notes_22 : decode cX8_notes 22 = .ok (.aload_n 0, 1) := by decide +kernel
theorem dX8_notes_23 : decode cX8_notes 23 = .ok (.getfield 62, 3) := by decide +kernel
theorem dX8_notes_26 : decode cX8_notes 26 = .ok (.iload_n 1, 1) := by decide +kernel
theorem dX8_notes_27 : decode cX8_notes 27 = .ok (.iconst 3, 1) := by decide +kernel
theorem dX8_notes_28 : decode cX8_notes 28 = .ok (.iadd, 1) := by decide +kernel
theorem dX8_notes_29 : decode cX8_notes 29 = .ok (.iaload, 1) := by decide +kernel
theorem dX8_notes_30 : decode cX8_notes 30 = .ok (.iastore, 1) := by decide +kernel
theorem dX8_notes_31 : decode cX8_notes 31 = .ok (.iinc 1 1, 3) := by decide +kernel
theorem dX8_notes_34 : decode cX8_notes 34 = .ok (.goto (-23), 3) := by decide +kernel
theorem dX8_notes_37 : decode cX8_notes 37 = .ok (.aload_n 0, 1) := by decide +kernel
theorem dX8_notes_38 : decode cX8_notes 38 = .ok (.dup, 1) := by decide +kernel
theorem dX8_notes_39 : decode cX8_notes 39 = .ok (.getfield 144, 3) := by decide +kernel
theorem dX8_notes_42 : decode cX8_notes 42 = .ok (.iconst 1, 1) := by decide +kernel
theorem dX8_notes_43 : decode cX8_notes 43 = .ok (.isub, 1) := by decide +kernel
theorem dX8_notes_44 : decode cX8_notes 44 = .ok (.putfield 144, 3) := by decide +kernel
theorem dX8_notes_47 : decode cX8_notes 47 = .ok (.aload_n 0, 1) := by decide +kernel
theorem dX8_notes_48 : decode cX8_notes 48 = .ok (.getfield 62, 3) := by decide +kernel
theorem dX8_notes_51 : decode cX8_notes 51 = .ok (.iconst 3, 1) := by decide +kernel
theorem dX8_notes_52 : decode cX8_notes 52 = .ok (.aload_n 0, 1) := by decide +kernel
theorem dX8_notes_53 : decode cX8_notes 53 = .ok (.getfield 144, 3) := by decide +kernel
theorem dX8_notes_56 : decode cX8_notes 56 = .ok (.imul, 1) := by decide +kernel
theorem dX8_notes_57 : decode cX8_notes 57 = .ok (.aload_n 0, 1) := by decide +kernel
theorem dX8_notes_58 : decode cX8_notes 58 = .ok (.getfield 159, 3) := by decide +kernel
theorem dX8_notes_61 : decode cX8_notes 61 = .ok (.iastore, 1) := by decide +kernel
theorem dX8_notes_62 : decode cX8_notes 62 = .ok (.aload_n 0, 1) := by decide +kernel
theorem dX8_notes_63 : decode cX8_notes 63 = .ok (.getfield 62, 3) := by decide +kernel
theorem dX8_notes_66 : decode cX8_notes 66 = .ok (.iconst 3, 1) := by decide +kernel
theorem dX8_notes_67 : decode cX8_notes 67 = .ok (.aload_n 0, 1) := by decide +kernel
theorem dX8_notes_68 : decode cX8_notes 68 = .ok (.getfield 144, 3) := by decide +kernel
theorem dX8_notes_71 : decode cX8_notes 71 = .ok (.imul, 1) := by decide +kernel
theorem dX8_notes_72 : decode cX8_notes 72 = .ok (.iconst 1, 1) := by decide +kernel
theorem dX8_notes_73 : decode cX8_notes 73 = .ok (.iadd, 1) := by decide +kernel
theorem dX8_notes_74 : decode cX8_notes 74 = .ok (.aload_n 0, 1) := by decide +kernel
theorem dX8_notes_75 : decode cX8_notes 75 = .ok (.getfield 153, 3) := by decide +kernel
theorem dX8_notes_78 : decode cX8_notes 78 = .ok (.iastore, 1) := by decide +kernel
theorem dX8_notes_79 : decode cX8_notes 79 = .ok (.aload_n 0, 1) := by decide +kernel
theorem dX8_notes_80 : decode cX8_notes 80 = .ok (.getfield 62, 3) := by decide +kernel
theorem dX8_notes_83 : decode cX8_notes 83 = .ok (.iconst 3, 1) := by decide +kernel
theorem dX8_notes_84 : decode cX8_notes 84 = .ok (.aload_n 0, 1) := by decide +kernel
theorem dX8_notes_85 : decode cX8_notes 85 = .ok (.getfield 144, 3) := by decide +kernel
theorem dX8_notes_88 : decode cX8_notes 88 = .ok (.imul, 1) := by decide +kernel
theorem dX8_notes_89 : decode cX8_notes 89 = .ok (.iconst 2, 1) := by decide +kernel
theorem dX8_notes_90 : decode cX8_notes 90 = .ok (.iadd, 1) := by decide +kernel
theorem dX8_notes_91 : decode cX8_notes 91 = .ok (.aload_n 0, 1) := by decide +kernel
theorem dX8_notes_92 : decode cX8_notes 92 = .ok (.getfield 141, 3) := by decide +kernel
theorem dX8_notes_95 : decode cX8_notes 95 = .ok (.iastore, 1) := by decide +kernel
theorem dX8_notes_96 : decode cX8_notes 96 = .ok (.aload_n 0, 1) := by decide +kernel
theorem dX8_notes_97 : decode cX8_notes 97 = .ok (.dup, 1) := by decide +kernel
theorem dX8_notes_98 : decode cX8_notes 98 = .ok (.getfield 144, 3) := by decide +kernel
theorem dX8_notes_101 : decode cX8_notes 101 = .ok (.iconst 1, 1) := by decide +kernel
theorem dX8_notes_102 : decode cX8_notes 102 = .ok (.iadd, 1) := by decide +kernel
theorem dX8_notes_103 : decode cX8_notes 103 = .ok (.putfield 144, 3) := by decide +kernel
theorem dX8_notes_106 : decode cX8_notes 106 = .ok (.return_, 1) := by decide +kernel
theorem dX8_answerOf_0 : decode cX8_answerOf 0 = .ok (.iload_n 1, 1) := by decide +kernel
theorem dX8_answerOf_1 : decode cX8_answerOf 1 = .ok (.iconst 0, 1) := by decide +kernel
theorem dX8_answerOf_2 : decode cX8_answerOf 2 = .ok (.iconst 5, 1) := by decide +kernel
theorem dX8_answerOf_3 : decode cX8_answerOf 3 = .ok (.invokestatic 84, 3) := by decide +kernel
theorem dX8_answerOf_6 : decode cX8_answerOf 6 = .ok (.ifCond .ne 8, 3) := by decide +kernel
theorem dX8_answerOf_9 : decode cX8_answerOf 9 = .ok (.ldc 182, 2) := by decide +kernel
theorem dX8_answerOf_11 : decode cX8_answerOf 11 = .ok (.goto 34, 3) := by decide +kernel
theorem dX8_answerOf_14 : decode cX8_answerOf 14 = .ok (.aload_n 0, 1) := by decide +kernel
theorem dX8_answerOf_15 : decode cX8_answerOf 15 = .ok (.getfield 159, 3) := by decide +kernel
theorem dX8_answerOf_18 : decode cX8_answerOf 18 = .ok (.iload_n 1, 1) := by decide +kernel
theorem dX8_answerOf_19 : decode cX8_answerOf 19 = .ok (.invokestatic 118, 3) := by decide +kernel
theorem dX8_answerOf_22 : decode cX8_answerOf 22 = .ok (.ifCond .ne 7, 3) := by decide +kernel
theorem dX8_answerOf_25 : decode cX8_answerOf 25 = .ok (.iconst (-1), 1) := by decide +kernel
theorem dX8_answerOf_26 : decode cX8_answerOf 26 = .ok (.goto 19, 3) := by decide +kernel
theorem dX8_answerOf_29 : decode cX8_answerOf 29 = .ok (.aload_n 0, 1) := by decide +kernel
theorem dX8_answerOf_30 : decode cX8_answerOf 30 = .ok (.getfield 153, 3) := by decide +kernel
theorem dX8_answerOf_33 : decode cX8_answerOf 33 = .ok (.iload_n 1, 1) := by decide +kernel
theorem dX8_answerOf_34 : decode cX8_answerOf 34 = .ok (.invokestatic 118, 3) := by decide +kernel
theorem dX8_answerOf_37 : decode cX8_answerOf 37 = .ok (.ifCond .eq 7, 3) := by decide +kernel
theorem dX8_answerOf_40 : decode cX8_answerOf 40 = .ok (.iconst 1, 1) := by decide +kernel
theorem dX8_answerOf_41 : decode cX8_answerOf 41 = .ok (.goto 4, 3) := by decide +kernel
theorem dX8_answerOf_44 : decode cX8_answerOf 44 = .ok (.iconst 0, 1) := by decide +kernel
theorem dX8_answerOf_45 : decode cX8_answerOf 45 = .ok (.ireturn, 1) := by decide +kernel
theorem dX8_answer_0 : decode cX8_answer 0 = .ok (.aload_n 0, 1) := by decide +kernel
theorem dX8_answer_1 : decode cX8_answer 1 = .ok (.iload_n 1, 1) := by decide +kernel
theorem dX8_answer_2 : decode cX8_answer 2 = .ok (.invokevirtual 183, 3) := by decide +kernel
theorem dX8_answer_5 : decode cX8_answer 5 = .ok (.istore_n 3, 1) := by decide +kernel
theorem dX8_answer_6 : decode cX8_answer 6 = .ok (.iload_n 3, 1) := by decide +kernel
theorem dX8_answer_7 : decode cX8_answer 7 = .ok (.ldc 182, 2) := by decide +kernel
theorem dX8_answer_9 : decode cX8_answer 9 = .ok (.if_icmp .ne 6, 3) := by decide +kernel
theorem dX8_answer_12 : decode cX8_answer 12 = .ok (.ldc 182, 2) := by decide +kernel
theorem dX8_answer_14 : decode cX8_answer 14 = .ok (.ireturn, 1) := by decide +kernel
theorem dX8_answer_15 : decode cX8_answer 15 = .ok (.iload_n 3, 1) := by decide +kernel
theorem dX8_answer_16 : decode cX8_answer 16 = .ok (.iload_n 2, 1) := by decide +kernel
theorem dX8_answer_17 : decode cX8_answer 17 = .ok (.ifCond .eq 7, 3) := by decide +kernel
theorem dX8_answer_20 : decode cX8_answer 20 = .ok (.iconst 1, 1) := by decide +kernel
theorem dX8_answer_21 : decode cX8_answer 21 = .ok (.goto 4, 3) := by decide +kernel
theorem dX8_answer_24 : decode cX8_answer 24 = .ok (.iconst 0, 1) := by decide +kernel
theorem dX8_answer_25 : decode cX8_answer 25 = .ok (.if_icmp .ne 6, 3) := by decide +kernel
theorem dX8_answer_28 : decode cX8_answer 28 = .ok (.ldc 186, 2) := by decide +kernel
theorem dX8_answer_30 : decode cX8_answer 30 = .ok (.ireturn, 1) := by decide +kernel
theorem dX8_answer_31 : decode cX8_answer 31 = .ok (.aload_n 0, 1) := by decide +kernel
theorem dX8_answer_32 : decode cX8_answer 32 = .ok (.invokevirtual 187, 3) := by decide +kernel
theorem dX8_answer_35 : decode cX8_answer 35 = .ok (.aload_n 0, 1) := by decide +kernel
theorem dX8_answer_36 : decode cX8_answer 36 = .ok (.dup, 1) := by decide +kernel
theorem dX8_answer_37 : decode cX8_answer 37 = .ok (.getfield 159, 3) := by decide +kernel
theorem dX8_answer_40 : decode cX8_answer 40 = .ok (.iconst 1, 1) := by decide +kernel
theorem dX8_answer_41 : decode cX8_answer 41 = .ok (.iload_n 1, 1) := by decide +kernel
theorem dX8_answer_42 : decode cX8_answer 42 = .ok (.ishl, 1) := by decide +kernel
theorem dX8_answer_43 : decode cX8_answer 43 = .ok (.ior, 1) := by decide +kernel
theorem dX8_answer_44 : decode cX8_answer 44 = .ok (.putfield 159, 3) := by decide +kernel
theorem dX8_answer_47 : decode cX8_answer 47 = .ok (.aload_n 0, 1) := by decide +kernel
theorem dX8_answer_48 : decode cX8_answer 48 = .ok (.iload_n 2, 1) := by decide +kernel
theorem dX8_answer_49 : decode cX8_answer 49 = .ok (.ifCond .eq 14, 3) := by decide +kernel
theorem dX8_answer_52 : decode cX8_answer 52 = .ok (.aload_n 0, 1) := by decide +kernel
theorem dX8_answer_53 : decode cX8_answer 53 = .ok (.getfield 153, 3) := by decide +kernel
theorem dX8_answer_56 : decode cX8_answer 56 = .ok (.iconst 1, 1) := by decide +kernel
theorem dX8_answer_57 : decode cX8_answer 57 = .ok (.iload_n 1, 1) := by decide +kernel
theorem dX8_answer_58 : decode cX8_answer 58 = .ok (.ishl, 1) := by decide +kernel
theorem dX8_answer_59 : decode cX8_answer 59 = .ok (.ior, 1) := by decide +kernel
theorem dX8_answer_60 : decode cX8_answer 60 = .ok (.goto 13, 3) := by decide +kernel
theorem dX8_answer_63 : decode cX8_answer 63 = .ok (.aload_n 0, 1) := by decide +kernel
theorem dX8_answer_64 : decode cX8_answer 64 = .ok (.getfield 153, 3) := by decide +kernel
theorem dX8_answer_67 : decode cX8_answer 67 = .ok (.iconst 1, 1) := by decide +kernel
theorem dX8_answer_68 : decode cX8_answer 68 = .ok (.iload_n 1, 1) := by decide +kernel
theorem dX8_answer_69 : decode cX8_answer 69 = .ok (.ishl, 1) := by decide +kernel
theorem dX8_answer_70 : decode cX8_answer 70 = .ok (.iconst (-1), 1) := by decide +kernel
theorem dX8_answer_71 : decode cX8_answer 71 = .ok (.ixor, 1) := by decide +kernel
theorem dX8_answer_72 : decode cX8_answer 72 = .ok (.iand, 1) := by decide +kernel
theorem dX8_answer_73 : decode cX8_answer 73 = .ok (.putfield 153, 3) := by decide +kernel
theorem dX8_answer_76 : decode cX8_answer 76 = .ok (.iload_n 3, 1) := by decide +kernel
theorem dX8_answer_77 : decode cX8_answer 77 = .ok (.ireturn, 1) := by decide +kernel
theorem dX8_forget_0 : decode cX8_forget 0 = .ok (.aload_n 0, 1) := by decide +kernel
theorem dX8_forget_1 : decode cX8_forget 1 = .ok (.iload_n 1, 1) := by decide +kernel
theorem dX8_forget_2 : decode cX8_forget 2 = .ok (.invokevirtual 183, 3) := by decide +kernel
theorem dX8_forget_5 : decode cX8_forget 5 = .ok (.istore_n 2, 1) := by decide +kernel
theorem dX8_forget_6 : decode cX8_forget 6 = .ok (.iload_n 2, 1) := by decide +kernel
theorem dX8_forget_7 : decode cX8_forget 7 = .ok (.ldc 182, 2) := by decide +kernel
theorem dX8_forget_9 : decode cX8_forget 9 = .ok (.if_icmp .ne 6, 3) := by decide +kernel
theorem dX8_forget_12 : decode cX8_forget 12 = .ok (.ldc 182, 2) := by decide +kernel
theorem dX8_forget_14 : decode cX8_forget 14 = .ok (.ireturn, 1) := by decide +kernel
theorem dX8_forget_15 : decode cX8_forget 15 = .ok (.iload_n 2, 1) := by decide +kernel
theorem dX8_forget_16 : decode cX8_forget 16 = .ok (.iconst (-1), 1) := by decide +kernel
theorem dX8_forget_17 : decode cX8_forget 17 = .ok (.if_icmp .ne 6, 3) := by decide +kernel
theorem dX8_forget_20 : decode cX8_forget 20 = .ok (.ldc 186, 2) := by decide +kernel
theorem dX8_forget_22 : decode cX8_forget 22 = .ok (.ireturn, 1) := by decide +kernel
theorem dX8_forget_23 : decode cX8_forget 23 = .ok (.aload_n 0, 1) := by decide +kernel
theorem dX8_forget_24 : decode cX8_forget 24 = .ok (.invokevirtual 187, 3) := by decide +kernel
theorem dX8_forget_27 : decode cX8_forget 27 = .ok (.aload_n 0, 1) := by decide +kernel
theorem dX8_forget_28 : decode cX8_forget 28 = .ok (.dup, 1) := by decide +kernel
theorem dX8_forget_29 : decode cX8_forget 29 = .ok (.getfield 159, 3) := by decide +kernel
theorem dX8_forget_32 : decode cX8_forget 32 = .ok (.iconst 1, 1) := by decide +kernel
theorem dX8_forget_33 : decode cX8_forget 33 = .ok (.iload_n 1, 1) := by decide +kernel
theorem dX8_forget_34 : decode cX8_forget 34 = .ok (.ishl, 1) := by decide +kernel
theorem dX8_forget_35 : decode cX8_forget 35 = .ok (.iconst (-1), 1) := by decide +kernel
theorem dX8_forget_36 : decode cX8_forget 36 = .ok (.ixor, 1) := by decide +kernel
theorem dX8_forget_37 : decode cX8_forget 37 = .ok (.iand, 1) := by decide +kernel
theorem dX8_forget_38 : decode cX8_forget 38 = .ok (.putfield 159, 3) := by decide +kernel
theorem dX8_forget_41 : decode cX8_forget 41 = .ok (.aload_n 0, 1) := by decide +kernel
theorem dX8_forget_42 : decode cX8_forget 42 = .ok (.dup, 1) := by decide +kernel
theorem dX8_forget_43 : decode cX8_forget 43 = .ok (.getfield 153, 3) := by decide +kernel
theorem dX8_forget_46 : decode cX8_forget 46 = .ok (.iconst 1, 1) := by decide +kernel
theorem dX8_forget_47 : decode cX8_forget 47 = .ok (.iload_n 1, 1) := by decide +kernel
theorem dX8_forget_48 : decode cX8_forget 48 = .ok (.ishl, 1) := by decide +kernel
theorem dX8_forget_49 : decode cX8_forget 49 = .ok (.iconst (-1), 1) := by decide +kernel
theorem dX8_forget_50 : decode cX8_forget 50 = .ok (.ixor, 1) := by decide +kernel
theorem dX8_forget_51 : decode cX8_forget 51 = .ok (.iand, 1) := by decide +kernel
theorem dX8_forget_52 : decode cX8_forget 52 = .ok (.putfield 153, 3) := by decide +kernel
theorem dX8_forget_55 : decode cX8_forget 55 = .ok (.iload_n 2, 1) := by decide +kernel
theorem dX8_forget_56 : decode cX8_forget 56 = .ok (.ireturn, 1) := by decide +kernel
theorem dX8_strike_0 : decode cX8_strike 0 = .ok (.aload_n 0, 1) := by decide +kernel
theorem dX8_strike_1 : decode cX8_strike 1 = .ok (.iload_n 1, 1) := by decide +kernel
theorem dX8_strike_2 : decode cX8_strike 2 = .ok (.invokevirtual 190, 3) := by decide +kernel
theorem dX8_strike_5 : decode cX8_strike 5 = .ok (.ifCond .ne 6, 3) := by decide +kernel
theorem dX8_strike_8 : decode cX8_strike 8 = .ok (.ldc 182, 2) := by decide +kernel
theorem dX8_strike_10 : decode cX8_strike 10 = .ok (.ireturn, 1) := by decide +kernel
theorem dX8_strike_11 : decode cX8_strike 11 = .ok (.aload_n 0, 1) := by decide +kernel
theorem dX8_strike_12 : decode cX8_strike 12 = .ok (.getfield 141, 3) := by decide +kernel
theorem dX8_strike_15 : decode cX8_strike 15 = .ok (.iload_n 1, 1) := by decide +kernel
theorem dX8_strike_16 : decode cX8_strike 16 = .ok (.invokestatic 118, 3) := by decide +kernel
theorem dX8_strike_19 : decode cX8_strike 19 = .ok (.iload_n 2, 1) := by decide +kernel
theorem dX8_strike_20 : decode cX8_strike 20 = .ok (.if_icmp .ne 6, 3) := by decide +kernel
theorem dX8_strike_23 : decode cX8_strike 23 = .ok (.ldc 186, 2) := by decide +kernel
theorem dX8_strike_25 : decode cX8_strike 25 = .ok (.ireturn, 1) := by decide +kernel
theorem dX8_strike_26 : decode cX8_strike 26 = .ok (.aload_n 0, 1) := by decide +kernel
theorem dX8_strike_27 : decode cX8_strike 27 = .ok (.invokevirtual 187, 3) := by decide +kernel
theorem dX8_strike_30 : decode cX8_strike 30 = .ok (.aload_n 0, 1) := by decide +kernel
theorem dX8_strike_31 : decode cX8_strike 31 = .ok (.dup, 1) := by decide +kernel
theorem dX8_strike_32 : decode cX8_strike 32 = .ok (.getfield 141, 3) := by decide +kernel
theorem dX8_strike_35 : decode cX8_strike 35 = .ok (.iconst 1, 1) := by decide +kernel
theorem dX8_strike_36 : decode cX8_strike 36 = .ok (.iload_n 1, 1) := by decide +kernel
theorem dX8_strike_37 : decode cX8_strike 37 = .ok (.ishl, 1) := by decide +kernel
theorem dX8_strike_38 : decode cX8_strike 38 = .ok (.ixor, 1) := by decide +kernel
theorem dX8_strike_39 : decode cX8_strike 39 = .ok (.putfield 141, 3) := by decide +kernel
theorem dX8_strike_42 : decode cX8_strike 42 = .ok (.aload_n 0, 1) := by decide +kernel
theorem dX8_strike_43 : decode cX8_strike 43 = .ok (.invokevirtual 193, 3) := by decide +kernel
theorem dX8_strike_46 : decode cX8_strike 46 = .ok (.invokestatic 179, 3) := by decide +kernel
theorem dX8_strike_49 : decode cX8_strike 49 = .ok (.ireturn, 1) := by decide +kernel
theorem dX8_drift_0 : decode cX8_drift 0 = .ok (.iload_n 1, 1) := by decide +kernel
theorem dX8_drift_1 : decode cX8_drift 1 = .ok (.iconst 1, 1) := by decide +kernel
theorem dX8_drift_2 : decode cX8_drift 2 = .ok (.ldc 196, 2) := by decide +kernel
theorem dX8_drift_4 : decode cX8_drift 4 = .ok (.invokestatic 84, 3) := by decide +kernel
theorem dX8_drift_7 : decode cX8_drift 7 = .ok (.ifCond .ne 6, 3) := by decide +kernel
theorem dX8_drift_10 : decode cX8_drift 10 = .ok (.ldc 88, 2) := by decide +kernel
theorem dX8_drift_12 : decode cX8_drift 12 = .ok (.ireturn, 1) := by decide +kernel
theorem dX8_drift_13 : decode cX8_drift 13 = .ok (.aload_n 0, 1) := by decide +kernel
theorem dX8_drift_14 : decode cX8_drift 14 = .ok (.invokevirtual 187, 3) := by decide +kernel
theorem dX8_drift_17 : decode cX8_drift 17 = .ok (.iload_n 1, 1) := by decide +kernel
theorem dX8_drift_18 : decode cX8_drift 18 = .ok (.i2l, 1) := by decide +kernel
theorem dX8_drift_19 : decode cX8_drift 19 = .ok (.lstore_n 2, 1) := by decide +kernel
theorem dX8_drift_20 : decode cX8_drift 20 = .ok (.aload_n 0, 1) := by decide +kernel
theorem dX8_drift_21 : decode cX8_drift 21 = .ok (.iconst 0, 1) := by decide +kernel
theorem dX8_drift_22 : decode cX8_drift 22 = .ok (.putfield 159, 3) := by decide +kernel
theorem dX8_drift_25 : decode cX8_drift 25 = .ok (.aload_n 0, 1) := by decide +kernel
theorem dX8_drift_26 : decode cX8_drift 26 = .ok (.iconst 0, 1) := by decide +kernel
theorem dX8_drift_27 : decode cX8_drift 27 = .ok (.putfield 153, 3) := by decide +kernel
theorem dX8_drift_30 : decode cX8_drift 30 = .ok (.iconst 0, 1) := by decide +kernel
theorem dX8_drift_31 : decode cX8_drift 31 = .ok (.istore 4, 2) := by decide +kernel
theorem dX8_drift_33 : decode cX8_drift 33 = .ok (.iload 4, 2) := by decide +kernel
theorem dX8_drift_35 : decode cX8_drift 35 = .ok (.bipush 6, 2) := by decide +kernel
theorem dX8_drift_37 : decode cX8_drift 37 = .ok (.if_icmp .ge 75, 3) := by decide +kernel
theorem dX8_drift_40 : decode cX8_drift 40 = .ok (.lload_n 2, 1) := by decide +kernel
theorem dX8_drift_41 : decode cX8_drift 41 = .ok (.ldc2_w 197, 3) := by decide +kernel
theorem dX8_drift_44 : decode cX8_drift 44 = .ok (.lmul, 1) := by decide +kernel
theorem dX8_drift_45 : decode cX8_drift 45 = .ok (.ldc2_w 199, 3) := by decide +kernel
theorem dX8_drift_48 : decode cX8_drift 48 = .ok (.lrem, 1) := by decide +kernel
theorem dX8_drift_49 : decode cX8_drift 49 = .ok (.lstore_n 2, 1) := by decide +kernel
theorem dX8_drift_50 : decode cX8_drift 50 = .ok (.aload_n 0, 1) := by decide +kernel
theorem dX8_drift_51 : decode cX8_drift 51 = .ok (.dup, 1) := by decide +kernel
theorem dX8_drift_52 : decode cX8_drift 52 = .ok (.getfield 159, 3) := by decide +kernel
theorem dX8_drift_55 : decode cX8_drift 55 = .ok (.lload_n 2, 1) := by decide +kernel
theorem dX8_drift_56 : decode cX8_drift 56 = .ok (.ldc2_w 201, 3) := by decide +kernel
theorem dX8_drift_59 : decode cX8_drift 59 = .ok (.lrem, 1) := by decide +kernel
theorem dX8_drift_60 : decode cX8_drift 60 = .ok (.ldc2_w 203, 3) := by decide +kernel
theorem dX8_drift_63 : decode cX8_drift 63 = .ok (.lcmp, 1) := by decide +kernel
theorem dX8_drift_64 : decode cX8_drift 64 = .ok (.ifCond .ge 10, 3) := by decide +kernel
theorem dX8_drift_67 : decode cX8_drift 67 = .ok (.iconst 1, 1) := by decide +kernel
theorem dX8_drift_68 : decode cX8_drift 68 = .ok (.iload 4, 2) := by decide +kernel
theorem dX8_drift_70 : decode cX8_drift 70 = .ok (.ishl, 1) := by decide +kernel
theorem dX8_drift_71 : decode cX8_drift 71 = .ok (.goto 4, 3) := by decide +kernel
theorem dX8_drift_74 : decode cX8_drift 74 = .ok (.iconst 0, 1) := by decide +kernel
theorem dX8_drift_75 : decode cX8_drift 75 = .ok (.ior, 1) := by decide +kernel
theorem dX8_drift_76 : decode cX8_drift 76 = .ok (.putfield 159, 3) := by decide +kernel
theorem dX8_drift_79 : decode cX8_drift 79 = .ok (.aload_n 0, 1) := by decide +kernel
theorem dX8_drift_80 : decode cX8_drift 80 = .ok (.dup, 1) := by decide +kernel
theorem dX8_drift_81 : decode cX8_drift 81 = .ok (.getfield 153, 3) := by decide +kernel
theorem dX8_drift_84 : decode cX8_drift 84 = .ok (.lload_n 2, 1) := by decide +kernel
theorem dX8_drift_85 : decode cX8_drift 85 = .ok (.ldc2_w 201, 3) := by decide +kernel
theorem dX8_drift_88 : decode cX8_drift 88 = .ok (.lrem, 1) := by decide +kernel
theorem dX8_drift_89 : decode cX8_drift 89 = .ok (.lconst 1, 1) := by decide +kernel
theorem dX8_drift_90 : decode cX8_drift 90 = .ok (.lcmp, 1) := by decide +kernel
theorem dX8_drift_91 : decode cX8_drift 91 = .ok (.ifCond .ne 10, 3) := by decide +kernel
theorem dX8_drift_94 : decode cX8_drift 94 = .ok (.iconst 1, 1) := by decide +kernel
theorem dX8_drift_95 : decode cX8_drift 95 = .ok (.iload 4, 2) := by decide +kernel
theorem dX8_drift_97 : decode cX8_drift 97 = .ok (.ishl, 1) := by decide +kernel
theorem dX8_drift_98 : decode cX8_drift 98 = .ok (.goto 4, 3) := by decide +kernel
theorem dX8_drift_101 : decode cX8_drift 101 = .ok (.iconst 0, 1) := by decide +kernel
theorem dX8_drift_102 : decode cX8_drift 102 = .ok (.ior, 1) := by decide +kernel
theorem dX8_drift_103 : decode cX8_drift 103 = .ok (.putfield 153, 3) := by decide +kernel
theorem dX8_drift_106 : decode cX8_drift 106 = .ok (.iinc 4 1, 3) := by decide +kernel
theorem dX8_drift_109 : decode cX8_drift 109 = .ok (.goto (-76), 3) := by decide +kernel
theorem dX8_drift_112 : decode cX8_drift 112 = .ok (.aload_n 0, 1) := by decide +kernel
theorem dX8_drift_113 : decode cX8_drift 113 = .ok (.invokevirtual 193, 3) := by decide +kernel
theorem dX8_drift_116 : decode cX8_drift 116 = .ok (.invokestatic 179, 3) := by decide +kernel
theorem dX8_drift_119 : decode cX8_drift 119 = .ok (.ireturn, 1) := by decide +kernel
theorem dX8_undo_0 : decode cX8_undo 0 = .ok (.aload_n 0, 1) := by decide +kernel
theorem dX8_undo_1 : decode cX8_undo 1 = .ok (.getfield 144, 3) := by decide +kernel
theorem dX8_undo_4 : decode cX8_undo 4 = .ok (.ifCond .ne 6, 3) := by decide +kernel
theorem dX8_undo_7 : decode cX8_undo 7 = .ok (.ldc 186, 2) := by decide +kernel
theorem dX8_undo_9 : decode cX8_undo 9 = .ok (.ireturn, 1) := by decide +kernel
theorem dX8_undo_10 : decode cX8_undo 10 = .ok (.aload_n 0, 1) := by decide +kernel
theorem dX8_undo_11 : decode cX8_undo 11 = .ok (.dup, 1) := by decide +kernel
theorem dX8_undo_12 : decode cX8_undo 12 = .ok (.getfield 144, 3) := by decide +kernel
theorem dX8_undo_15 : decode cX8_undo 15 = .ok (.iconst 1, 1) := by decide +kernel
theorem dX8_undo_16 : decode cX8_undo 16 = .ok (.isub, 1) := by decide +kernel
theorem dX8_undo_17 : decode cX8_undo 17 = .ok (.putfield 144, 3) := by decide +kernel
theorem dX8_undo_20 : decode cX8_undo 20 = .ok (.aload_n 0, 1) := by decide +kernel
theorem dX8_undo_21 : decode cX8_undo 21 = .ok (.aload_n 0, 1) := by decide +kernel
theorem dX8_undo_22 : decode cX8_undo 22 = .ok (.getfield 62, 3) := by decide +kernel
theorem dX8_undo_25 : decode cX8_undo 25 = .ok (.iconst 3, 1) := by decide +kernel
theorem dX8_undo_26 : decode cX8_undo 26 = .ok (.aload_n 0, 1) := by decide +kernel
theorem dX8_undo_27 : decode cX8_undo 27 = .ok (.getfield 144, 3) := by decide +kernel
theorem dX8_undo_30 : decode cX8_undo 30 = .ok (.imul, 1) := by decide +kernel
theorem dX8_undo_31 : decode cX8_undo 31 = .ok (.iaload, 1) := by decide +kernel
theorem dX8_undo_32 : decode cX8_undo 32 = .ok (.putfield 159, 3) := by decide +kernel
theorem dX8_undo_35 : decode cX8_undo 35 = .ok (.aload_n 0, 1) := by decide +kernel
theorem dX8_undo_36 : decode cX8_undo 36 = .ok (.aload_n 0, 1) := by decide +kernel
theorem dX8_undo_37 : decode cX8_undo 37 = .ok (.getfield 62, 3) := by decide +kernel
theorem dX8_undo_40 : decode cX8_undo 40 = .ok (.iconst 3, 1) := by decide +kernel
theorem dX8_undo_41 : decode cX8_undo 41 = .ok (.aload_n 0, 1) := by decide +kernel
theorem dX8_undo_42 : decode cX8_undo 42 = .ok (.getfield 144, 3) := by decide +kernel
theorem dX8_undo_45 : decode cX8_undo 45 = .ok (.imul, 1) := by decide +kernel
theorem dX8_undo_46 : decode cX8_undo 46 = .ok (.iconst 1, 1) := by decide +kernel
theorem dX8_undo_47 : decode cX8_undo 47 = .ok (.iadd, 1) := by decide +kernel
theorem dX8_undo_48 : decode cX8_undo 48 = .ok (.iaload, 1) := by decide +kernel
theorem dX8_undo_49 : decode cX8_undo 49 = .ok (.putfield 153, 3) := by decide +kernel
theorem dX8_undo_52 : decode cX8_undo 52 = .ok (.aload_n 0, 1) := by decide +kernel
theorem dX8_undo_53 : decode cX8_undo 53 = .ok (.aload_n 0, 1) := by decide +kernel
theorem dX8_undo_54 : decode cX8_undo 54 = .ok (.getfield 62, 3) := by decide +kernel
theorem dX8_undo_57 : decode cX8_undo 57 = .ok (.iconst 3, 1) := by decide +kernel
theorem dX8_undo_58 : decode cX8_undo 58 = .ok (.aload_n 0, 1) := by decide +kernel
theorem dX8_undo_59 : decode cX8_undo 59 = .ok (.getfield 144, 3) := by decide +kernel
theorem dX8_undo_62 : decode cX8_undo 62 = .ok (.imul, 1) := by decide +kernel
theorem dX8_undo_63 : decode cX8_undo 63 = .ok (.iconst 2, 1) := by decide +kernel
theorem dX8_undo_64 : decode cX8_undo 64 = .ok (.iadd, 1) := by decide +kernel
theorem dX8_undo_65 : decode cX8_undo 65 = .ok (.iaload, 1) := by decide +kernel
theorem dX8_undo_66 : decode cX8_undo 66 = .ok (.putfield 141, 3) := by decide +kernel
theorem dX8_undo_69 : decode cX8_undo 69 = .ok (.aload_n 0, 1) := by decide +kernel
theorem dX8_undo_70 : decode cX8_undo 70 = .ok (.getfield 144, 3) := by decide +kernel
theorem dX8_undo_73 : decode cX8_undo 73 = .ok (.ireturn, 1) := by decide +kernel
theorem dX8_surely_0 : decode cX8_surely 0 = .ok (.iconst 1, 1) := by decide +kernel
theorem dX8_surely_1 : decode cX8_surely 1 = .ok (.aload_n 0, 1) := by decide +kernel
theorem dX8_surely_2 : decode cX8_surely 2 = .ok (.getfield 81, 3) := by decide +kernel
theorem dX8_surely_5 : decode cX8_surely 5 = .ok (.ishl, 1) := by decide +kernel
theorem dX8_surely_6 : decode cX8_surely 6 = .ok (.iconst 1, 1) := by decide +kernel
theorem dX8_surely_7 : decode cX8_surely 7 = .ok (.isub, 1) := by decide +kernel
theorem dX8_surely_8 : decode cX8_surely 8 = .ok (.istore_n 2, 1) := by decide +kernel
theorem dX8_surely_9 : decode cX8_surely 9 = .ok (.iconst 0, 1) := by decide +kernel
theorem dX8_surely_10 : decode cX8_surely 10 = .ok (.istore_n 3, 1) := by decide +kernel
theorem dX8_surely_11 : decode cX8_surely 11 = .ok (.aload_n 0, 1) := by decide +kernel
theorem dX8_surely_12 : decode cX8_surely 12 = .ok (.invokevirtual 205, 3) := by decide +kernel
theorem dX8_surely_15 : decode cX8_surely 15 = .ok (.iconst 0, 1) := by decide +kernel
theorem dX8_surely_16 : decode cX8_surely 16 = .ok (.istore 4, 2) := by decide +kernel
theorem dX8_surely_18 : decode cX8_surely 18 = .ok (.iload 4, 2) := by decide +kernel
theorem dX8_surely_20 : decode cX8_surely 20 = .ok (.bipush 64, 2) := by decide +kernel
theorem dX8_surely_22 : decode cX8_surely 22 = .ok (.if_icmp .ge 55, 3) := by decide +kernel
theorem dX8_surely_25 : decode cX8_surely 25 = .ok (.iload_n 2, 1) := by decide +kernel
theorem dX8_surely_26 : decode cX8_surely 26 = .ok (.aload_n 0, 1) := by decide +kernel
theorem dX8_surely_27 : decode cX8_surely 27 = .ok (.iload 4, 2) := by decide +kernel
theorem dX8_surely_29 : decode cX8_surely 29 = .ok (.invokevirtual 208, 3) := by decide +kernel
theorem dX8_surely_32 : decode cX8_surely 32 = .ok (.ifCond .eq 13, 3) := by decide +kernel
theorem dX8_surely_35 : decode cX8_surely 35 = .ok (.aload_n 0, 1) := by decide +kernel
theorem dX8_surely_36 : decode cX8_surely 36 = .ok (.getfield 72, 3) := by decide +kernel
theorem dX8_surely_39 : decode cX8_surely 39 = .ok (.iload 4, 2) := by decide +kernel
theorem dX8_surely_41 : decode cX8_surely 41 = .ok (.iaload, 1) := by decide +kernel
theorem dX8_surely_42 : decode cX8_surely 42 = .ok (.goto 4, 3) := by decide +kernel
theorem dX8_surely_45 : decode cX8_surely 45 = .ok (.iload_n 2, 1) := by decide +kernel
theorem dX8_surely_46 : decode cX8_surely 46 = .ok (.iand, 1) := by decide +kernel
theorem dX8_surely_47 : decode cX8_surely 47 = .ok (.istore_n 2, 1) := by decide +kernel
theorem dX8_surely_48 : decode cX8_surely 48 = .ok (.iload_n 3, 1) := by decide +kernel
theorem dX8_surely_49 : decode cX8_surely 49 = .ok (.aload_n 0, 1) := by decide +kernel
theorem dX8_surely_50 : decode cX8_surely 50 = .ok (.iload 4, 2) := by decide +kernel
theorem dX8_surely_52 : decode cX8_surely 52 = .ok (.invokevirtual 208, 3) := by decide +kernel
theorem dX8_surely_55 : decode cX8_surely 55 = .ok (.ifCond .eq 13, 3) := by decide +kernel
theorem dX8_surely_58 : decode cX8_surely 58 = .ok (.aload_n 0, 1) := by decide +kernel
theorem dX8_surely_59 : decode cX8_surely 59 = .ok (.getfield 72, 3) := by decide +kernel
theorem dX8_surely_62 : decode cX8_surely 62 = .ok (.iload 4, 2) := by decide +kernel
theorem dX8_surely_64 : decode cX8_surely 64 = .ok (.iaload, 1) := by decide +kernel
theorem dX8_surely_65 : decode cX8_surely 65 = .ok (.goto 4, 3) := by decide +kernel
theorem dX8_surely_68 : decode cX8_surely 68 = .ok (.iconst 0, 1) := by decide +kernel
theorem dX8_surely_69 : decode cX8_surely 69 = .ok (.ior, 1) := by decide +kernel
theorem dX8_surely_70 : decode cX8_surely 70 = .ok (.istore_n 3, 1) := by decide +kernel
theorem dX8_surely_71 : decode cX8_surely 71 = .ok (.iinc 4 1, 3) := by decide +kernel
theorem dX8_surely_74 : decode cX8_surely 74 = .ok (.goto (-56), 3) := by decide +kernel
theorem dX8_surely_77 : decode cX8_surely 77 = .ok (.iload_n 1, 1) := by decide +kernel
theorem dX8_surely_78 : decode cX8_surely 78 = .ok (.iconst 2, 1) := by decide +kernel
theorem dX8_surely_79 : decode cX8_surely 79 = .ok (.if_icmp .ne 7, 3) := by decide +kernel
theorem dX8_surely_82 : decode cX8_surely 82 = .ok (.iload_n 2, 1) := by decide +kernel
theorem dX8_surely_83 : decode cX8_surely 83 = .ok (.goto 28, 3) := by decide +kernel
theorem dX8_surely_86 : decode cX8_surely 86 = .ok (.iload_n 1, 1) := by decide +kernel
theorem dX8_surely_87 : decode cX8_surely 87 = .ok (.iconst 1, 1) := by decide +kernel
theorem dX8_surely_88 : decode cX8_surely 88 = .ok (.if_icmp .ne 11, 3) := by decide +kernel
theorem dX8_surely_91 : decode cX8_surely 91 = .ok (.iload_n 3, 1) := by decide +kernel
theorem dX8_surely_92 : decode cX8_surely 92 = .ok (.iload_n 2, 1) := by decide +kernel
theorem dX8_surely_93 : decode cX8_surely 93 = .ok (.iconst (-1), 1) := by decide +kernel
theorem dX8_surely_94 : decode cX8_surely 94 = .ok (.ixor, 1) := by decide +kernel
theorem dX8_surely_95 : decode cX8_surely 95 = .ok (.iand, 1) := by decide +kernel
theorem dX8_surely_96 : decode cX8_surely 96 = .ok (.goto 15, 3) := by decide +kernel
theorem dX8_surely_99 : decode cX8_surely 99 = .ok (.iconst 1, 1) := by decide +kernel
theorem dX8_surely_100 : decode cX8_surely 100 = .ok (.aload_n 0, 1) := by decide +kernel
theorem dX8_surely_101 : decode cX8_surely 101 = .ok (.getfield 81, 3) := by decide +kernel
theorem dX8_surely_104 : decode cX8_surely 104 = .ok (.ishl, 1) := by decide +kernel
theorem dX8_surely_105 : decode cX8_surely 105 = .ok (.iconst 1, 1) := by decide +kernel
theorem dX8_surely_106 : decode cX8_surely 106 = .ok (.isub, 1) := by decide +kernel
theorem dX8_surely_107 : decode cX8_surely 107 = .ok (.iload_n 3, 1) := by decide +kernel
theorem dX8_surely_108 : decode cX8_surely 108 = .ok (.iconst (-1), 1) := by decide +kernel
theorem dX8_surely_109 : decode cX8_surely 109 = .ok (.ixor, 1) := by decide +kernel
theorem dX8_surely_110 : decode cX8_surely 110 = .ok (.iand, 1) := by decide +kernel
theorem dX8_surely_111 : decode cX8_surely 111 = .ok (.ireturn, 1) := by decide +kernel
def FX8_notes_J47 (σ : SS) : Option (SS) :=
  gd (inb ((3 : Int32) * (gI σ 28)) 24) (bd (sA σ 27 (upd (gA σ 27) (Int32.toNatClampNeg ((3 : Int32) * (gI σ 28))) (gI σ 24))) (fun σ3 => gd (inb (((3 : Int32) * (gI σ3 28)) + (1 : Int32)) 24) (bd (sA σ3 27 (upd (gA σ3 27) (Int32.toNatClampNeg (((3 : Int32) * (gI σ3 28)) + (1 : Int32))) (gI σ3 25))) (fun σ5 => gd (inb (((3 : Int32) * (gI σ5 28)) + (2 : Int32)) 24) (bd (sA σ5 27 (upd (gA σ5 27) (Int32.toNatClampNeg (((3 : Int32) * (gI σ5 28)) + (2 : Int32))) (gI σ5 26))) (fun σ7 => bd (sI σ7 28 ((gI σ7 28) + (1 : Int32))) (fun σ8 => some σ8)))))))
set_option maxRecDepth 100000 in
set_option maxHeartbeats 4000000 in
theorem PX8_notes_J47 {X : Bx} {g : Gx} {σr : SS} {σ : SS} (hX : Okw wsM X g cX8_notes 2 RX8 none ({ frames := 0, cells := 0, slots := 0, locals := 0 } : Room) (fun g => none) σr) (hf : FX8_notes_J47 σ = some σr) : Vx X g.1 2 (wsM g σ) 47 [(0, .ref (g.2.1 0))] [] := by
  have h0 := hX.1
  rw [FX8_notes_J47] at hf
  refine vx_aload_n h0 dX8_notes_47 rfl ?_
  refine mg_0_27 hX q811 dX8_notes_48 ?_
  refine vx_iconst (v := (3 : Int32)) h0 dX8_notes_51 (by decide) ?_
  refine vx_aload_n h0 dX8_notes_52 rfl ?_
  refine mg_0_28 hX q812 dX8_notes_53 ?_
  refine vx_imul h0 dX8_notes_56 ?_
  refine vx_aload_n h0 dX8_notes_57 rfl ?_
  refine mg_0_24 hX q808 dX8_notes_58 ?_
  obtain ⟨b2, hf⟩ := gd_some hf
  refine ms_17 hX b2 dX8_notes_61 ?_
  generalize (sA σ 27 (upd (gA σ 27) (Int32.toNatClampNeg ((3 : Int32) * (gI σ 28))) (gI σ 24))) = σ3 at hf ⊢
  replace hf := bd_h hf
  refine vx_aload_n h0 dX8_notes_62 rfl ?_
  refine mg_0_27 hX q811 dX8_notes_63 ?_
  refine vx_iconst (v := (3 : Int32)) h0 dX8_notes_66 (by decide) ?_
  refine vx_aload_n h0 dX8_notes_67 rfl ?_
  refine mg_0_28 hX q812 dX8_notes_68 ?_
  refine vx_imul h0 dX8_notes_71 ?_
  refine vx_iconst (v := (1 : Int32)) h0 dX8_notes_72 (by decide) ?_
  refine vx_iadd h0 dX8_notes_73 ?_
  refine vx_aload_n h0 dX8_notes_74 rfl ?_
  refine mg_0_25 hX q809 dX8_notes_75 ?_
  obtain ⟨b4, hf⟩ := gd_some hf
  refine ms_17 hX b4 dX8_notes_78 ?_
  generalize (sA σ3 27 (upd (gA σ3 27) (Int32.toNatClampNeg (((3 : Int32) * (gI σ3 28)) + (1 : Int32))) (gI σ3 25))) = σ5 at hf ⊢
  replace hf := bd_h hf
  refine vx_aload_n h0 dX8_notes_79 rfl ?_
  refine mg_0_27 hX q811 dX8_notes_80 ?_
  refine vx_iconst (v := (3 : Int32)) h0 dX8_notes_83 (by decide) ?_
  refine vx_aload_n h0 dX8_notes_84 rfl ?_
  refine mg_0_28 hX q812 dX8_notes_85 ?_
  refine vx_imul h0 dX8_notes_88 ?_
  refine vx_iconst (v := (2 : Int32)) h0 dX8_notes_89 (by decide) ?_
  refine vx_iadd h0 dX8_notes_90 ?_
  refine vx_aload_n h0 dX8_notes_91 rfl ?_
  refine mg_0_26 hX q810 dX8_notes_92 ?_
  obtain ⟨b6, hf⟩ := gd_some hf
  refine ms_17 hX b6 dX8_notes_95 ?_
  generalize (sA σ5 27 (upd (gA σ5 27) (Int32.toNatClampNeg (((3 : Int32) * (gI σ5 28)) + (2 : Int32))) (gI σ5 26))) = σ7 at hf ⊢
  replace hf := bd_h hf
  refine vx_aload_n h0 dX8_notes_96 rfl ?_
  refine vx_dup h0 dX8_notes_97 rfl ?_
  refine mg_0_28 hX q812 dX8_notes_98 ?_
  refine vx_iconst (v := (1 : Int32)) h0 dX8_notes_101 (by decide) ?_
  refine vx_iadd h0 dX8_notes_102 ?_
  refine mp_0_28 hX q812 dX8_notes_103 ?_
  generalize (sI σ7 28 ((gI σ7 28) + (1 : Int32))) = σ8 at hf ⊢
  replace hf := bd_h hf
  exact w_vretE hX hf dX8_notes_106
def FX8_notes_L11 (k : SS → Option (SS)) : Nat → Int32 → SS → Option (SS)
  | 0, _, _ => none
  | n + 1, v1, σ => if (21 : Int32) ≤ v1 then k σ
    else gd (inb (v1 + (3 : Int32)) 24) (gd (inb v1 24) (bd (sA σ 27 (upd (gA σ 27) (Int32.toNatClampNeg v1) (gA σ 27 (Int32.toNatClampNeg (v1 + (3 : Int32)))))) (fun σ12 => FX8_notes_L11 k n (v1 + (1 : Int32)) σ12)))
set_option maxRecDepth 100000 in
set_option maxHeartbeats 4000000 in
theorem PX8_notes_L11 {X : Bx} {g : Gx} {σr : SS} (hX : Okw wsM X g cX8_notes 2 RX8 none ({ frames := 0, cells := 0, slots := 0, locals := 0 } : Room) (fun g => none) σr) {k : SS → Option (SS)} (hk : ∀ (σ : SS), k σ = some σr → Vx X g.1 2 (wsM g σ) 37 [(0, .ref (g.2.1 0))] []) : ∀ (n : Nat) (v1 : Int32) (σ : SS), FX8_notes_L11 k n v1 σ = some σr → Vx X g.1 2 (wsM g σ) 11 [(0, .ref (g.2.1 0)), (1, .int v1)] [] := by
  have h0 := hX.1
  intro n
  induction n with
  | zero =>
    intro v1 σ hf
    rw [FX8_notes_L11] at hf
    cases hf
  | succ n ih =>
    intro v1 σ hf
    rw [FX8_notes_L11] at hf
    refine vx_iload_n h0 dX8_notes_11 rfl ?_
    refine vx_bipush (v := (21 : Int32)) h0 dX8_notes_12 (by decide) ?_
    refine vx_icmp_ge (tgt := 37) h0 dX8_notes_14 (by decide) (fun c9 => ?_) (fun c9 => ?_)
    · replace hf := (if_pos c9).symm.trans hf
      refine vx_sub [0] rfl ?_
      exact hk _ hf
    · replace hf := (if_neg c9).symm.trans hf
      refine vx_aload_n h0 dX8_notes_17 rfl ?_
      refine mg_0_27 hX q811 dX8_notes_18 ?_
      refine vx_iload_n h0 dX8_notes_21 rfl ?_
      refine vx_aload_n h0 dX8_notes_22 rfl ?_
      refine mg_0_27 hX q811 dX8_notes_23 ?_
      refine vx_iload_n h0 dX8_notes_26 rfl ?_
      refine vx_iconst (v := (3 : Int32)) h0 dX8_notes_27 (by decide) ?_
      refine vx_iadd h0 dX8_notes_28 ?_
      obtain ⟨b10, hf⟩ := gd_some hf
      refine ml_17 hX b10 dX8_notes_29 ?_
      obtain ⟨b11, hf⟩ := gd_some hf
      refine ms_17 hX b11 dX8_notes_30 ?_
      generalize (sA σ 27 (upd (gA σ 27) (Int32.toNatClampNeg v1) (gA σ 27 (Int32.toNatClampNeg (v1 + (3 : Int32)))))) = σ12 at hf ⊢
      replace hf := bd_h hf
      refine vx_iinc (q := 1) (v := (v1 + (1 : Int32))) (ls' := [(1, .int (v1 + (1 : Int32))), (0, .ref (g.2.1 0))]) h0 dX8_notes_31 rfl rfl (by decide) rfl ?_
      refine vx_goto (tgt := 11) h0 dX8_notes_34 (by decide) ?_
      refine vx_sub [1, 0] rfl ?_
      exact ih _ _ hf
def FX8_notes (σ : SS) : Option (SS) :=
  if (gI σ 28) = (8 : Int32) then FX8_notes_L11 (fun σ13 => bd (sI σ13 28 ((gI σ13 28) - (1 : Int32))) (fun σ14 => FX8_notes_J47 σ14)) 5000 (0 : Int32) σ
    else FX8_notes_J47 σ
set_option maxRecDepth 100000 in
set_option maxHeartbeats 4000000 in
theorem c_X8_notes {σ : SS} {σr : SS} (hf : FX8_notes σ = some σr) : Mcw wsM yX8_notes cX8_notes 2 none ({ frames := 0, cells := 0, slots := 0, locals := 0 } : Room) (fun g => [.ref (g.2.1 0)]) σ (fun g => none) σr := by
  refine w_enter wsM_fix (by decide) (fun g => Nat.le_of_ble_eq_true rfl) ?_
  intro X g hX
  replace hX : Okw wsM X g cX8_notes 2 RX8 none ({ frames := 0, cells := 0, slots := 0, locals := 0 } : Room) (fun g => none) σr := hX
  have h0 := hX.1
  show Vx X g.1 2 (wsM g σ) 0 [(0, .ref (g.2.1 0))] []
  rw [FX8_notes] at hf
  refine vx_aload_n h0 dX8_notes_0 rfl ?_
  refine mg_0_28 hX q812 dX8_notes_1 ?_
  refine vx_bipush (v := (8 : Int32)) h0 dX8_notes_4 (by decide) ?_
  refine vx_icmp_ne (tgt := 47) h0 dX8_notes_6 (by decide) (fun c1 => ?_) (fun c1 => ?_)
  · replace hf := (if_neg c1).symm.trans hf
    exact PX8_notes_J47 hX  hf
  · replace hf := (if_pos c1).symm.trans hf
    refine vx_iconst (v := (0 : Int32)) h0 dX8_notes_9 (by decide) ?_
    refine vx_istore_n (ls' := [(1, .int (0 : Int32)), (0, .ref (g.2.1 0))]) h0 dX8_notes_10 (by decide) rfl ?_
    refine vx_sub [1, 0] rfl ?_
    refine PX8_notes_L11 hX (fun σ13 hf => ?_) _ _ _ hf
    refine vx_aload_n h0 dX8_notes_37 rfl ?_
    refine vx_dup h0 dX8_notes_38 rfl ?_
    refine mg_0_28 hX q812 dX8_notes_39 ?_
    refine vx_iconst (v := (1 : Int32)) h0 dX8_notes_42 (by decide) ?_
    refine vx_isub h0 dX8_notes_43 ?_
    refine mp_0_28 hX q812 dX8_notes_44 ?_
    generalize (sI σ13 28 ((gI σ13 28) - (1 : Int32))) = σ14 at hf ⊢
    replace hf := bd_h hf
    exact PX8_notes_J47 hX  hf
def FX8_answerOf (σ : SS) (a0 : Int32) : Option (Int32) :=
  ob (FX8_in σ a0 (0 : Int32) (5 : Int32)) (fun r2 => if r2 = 0 then some (-1000000001 : Int32)
    else ob (FX8_has σ (gI σ 24) a0) (fun r5 => if r5 = 0 then some (-1 : Int32)
    else ob (FX8_has σ (gI σ 25) a0) (fun r8 => if r8 = 0 then some (0 : Int32)
    else some (1 : Int32))))
set_option maxRecDepth 100000 in
set_option maxHeartbeats 4000000 in
theorem c_X8_answerOf {σ : SS} {a0 : Int32} {r : Int32} (hf : FX8_answerOf σ a0 = some r) : Mcw wsM yX8_answerOf cX8_answerOf 2 (some .int) ({ frames := 1, cells := 0, slots := 0, locals := 22 } : Room) (fun g => [.ref (g.2.1 0), .int a0]) σ (fun g => some (.int r)) σ := by
  refine w_enter wsM_fix (by decide) (fun g => Nat.le_of_ble_eq_true rfl) ?_
  intro X g hX
  replace hX : Okw wsM X g cX8_answerOf 2 RX8 (some .int) ({ frames := 1, cells := 0, slots := 0, locals := 22 } : Room) (fun g => some (.int r)) σ := hX
  have h0 := hX.1
  show Vx X g.1 2 (wsM g σ) 0 [(0, .ref (g.2.1 0)), (1, .int a0)] []
  rw [FX8_answerOf] at hf
  refine vx_iload_n h0 dX8_answerOf_0 rfl ?_
  refine vx_iconst (v := (0 : Int32)) h0 dX8_answerOf_1 (by decide) ?_
  refine vx_iconst (v := (5 : Int32)) h0 dX8_answerOf_2 (by decide) ?_
  obtain ⟨r2, h1, hf⟩ := ob_some hf
  refine w_callS (st := []) hX (c_X8_in h1) ce_X8_in q895 ⟨rfl, rfl⟩ ⟨by decide, by decide⟩ rfl rfl rfl (Nat.le_of_ble_eq_true rfl) dX8_answerOf_3 ?_
  show Vx X g.1 2 (wsM g σ) 6 [(0, .ref (g.2.1 0)), (1, .int a0)] [.int r2]
  refine vx_if_ne (tgt := 14) h0 dX8_answerOf_6 (by decide) (fun c3 => ?_) (fun c3 => ?_)
  · replace hf := (if_neg c3).symm.trans hf
    refine vx_aload_n h0 dX8_answerOf_14 rfl ?_
    refine mg_0_24 hX q808 dX8_answerOf_15 ?_
    refine vx_iload_n h0 dX8_answerOf_18 rfl ?_
    obtain ⟨r5, h4, hf⟩ := ob_some hf
    refine w_callS (st := []) hX (c_X8_has h4) ce_X8_has q927 ⟨rfl, rfl⟩ ⟨by decide, by decide⟩ rfl rfl rfl (Nat.le_of_ble_eq_true rfl) dX8_answerOf_19 ?_
    show Vx X g.1 2 (wsM g σ) 22 [(0, .ref (g.2.1 0)), (1, .int a0)] [.int r5]
    refine vx_if_ne (tgt := 29) h0 dX8_answerOf_22 (by decide) (fun c6 => ?_) (fun c6 => ?_)
    · replace hf := (if_neg c6).symm.trans hf
      refine vx_aload_n h0 dX8_answerOf_29 rfl ?_
      refine mg_0_25 hX q809 dX8_answerOf_30 ?_
      refine vx_iload_n h0 dX8_answerOf_33 rfl ?_
      obtain ⟨r8, h7, hf⟩ := ob_some hf
      refine w_callS (st := []) hX (c_X8_has h7) ce_X8_has q927 ⟨rfl, rfl⟩ ⟨by decide, by decide⟩ rfl rfl rfl (Nat.le_of_ble_eq_true rfl) dX8_answerOf_34 ?_
      show Vx X g.1 2 (wsM g σ) 37 [(0, .ref (g.2.1 0)), (1, .int a0)] [.int r8]
      refine vx_if_eq (tgt := 44) h0 dX8_answerOf_37 (by decide) (fun c9 => ?_) (fun c9 => ?_)
      · replace hf := (if_pos c9).symm.trans hf
        refine vx_iconst (v := (0 : Int32)) h0 dX8_answerOf_44 (by decide) ?_
        exact w_iretP hX hf dX8_answerOf_45
      · replace hf := (if_neg c9).symm.trans hf
        refine vx_iconst (v := (1 : Int32)) h0 dX8_answerOf_40 (by decide) ?_
        refine vx_goto (tgt := 45) h0 dX8_answerOf_41 (by decide) ?_
        exact w_iretP hX hf dX8_answerOf_45
    · replace hf := (if_pos c6).symm.trans hf
      refine vx_iconst (v := (-1 : Int32)) h0 dX8_answerOf_25 (by decide) ?_
      refine vx_goto (tgt := 45) h0 dX8_answerOf_26 (by decide) ?_
      exact w_iretP hX hf dX8_answerOf_45
  · replace hf := (if_pos c3).symm.trans hf
    refine vx_ldc h0 q946 dX8_answerOf_9 ?_
    refine vx_goto (tgt := 45) h0 dX8_answerOf_11 (by decide) ?_
    exact w_iretP hX hf dX8_answerOf_45
def FX8_answer_J25 (σ : SS) (v1 : Int32) (v2 : Int32) (v3 : Int32) (s0 : Int32) (s1 : Int32) : Option (Int32 × SS) :=
  if s1 = s0 then some ((-1000000003 : Int32), σ)
    else ob (FX8_notes σ) (fun σ7 => bd (sI σ7 24 ((gI σ7 24) ||| (jshl (1 : Int32) v1))) (fun σ8 => if v2 = 0 then bd (sI σ8 25 ((gI σ8 25) &&& ((jshl (1 : Int32) v1) ^^^ (-1 : Int32)))) (fun σ10 => some (v3, σ10))
    else bd (sI σ8 25 ((gI σ8 25) ||| (jshl (1 : Int32) v1))) (fun σ11 => some (v3, σ11))))
set_option maxRecDepth 100000 in
set_option maxHeartbeats 4000000 in
theorem PX8_answer_J25 {X : Bx} {g : Gx} {r : Int32} {σr : SS} {σ : SS} (hX : Okw wsM X g cX8_answer 4 RX8 (some .int) ({ frames := 2, cells := 0, slots := 0, locals := 43 } : Room) (fun g => some (.int r)) σr) {v1 : Int32} {v2 : Int32} {v3 : Int32} {s0 : Int32} {s1 : Int32} (hf : FX8_answer_J25 σ v1 v2 v3 s0 s1 = some (r, σr)) : Vx X g.1 4 (wsM g σ) 25 [(0, .ref (g.2.1 0)), (1, .int v1), (2, .int v2), (3, .int v3)] [.int s0, .int s1] := by
  have h0 := hX.1
  rw [FX8_answer_J25] at hf
  refine vx_icmp_ne (tgt := 31) h0 dX8_answer_25 (by decide) (fun c5 => ?_) (fun c5 => ?_)
  · replace hf := (if_neg c5).symm.trans hf
    refine vx_aload_n h0 dX8_answer_31 rfl ?_
    obtain ⟨σ7, h6, hf⟩ := ob_some hf
    refine w_callV (st := []) (ci := 8) (q0 := 0) hX (c_X8_notes h6) ce_X8_notes q953 ⟨rfl, rfl⟩ ⟨by decide, by decide⟩ rfl rfl rfl rfl (mo_0 g _) rfl (Nat.le_of_ble_eq_true rfl) dX8_answer_32 ?_
    show Vx X g.1 4 (wsM g σ7) 35 [(0, .ref (g.2.1 0)), (1, .int v1), (2, .int v2), (3, .int v3)] []
    refine vx_aload_n h0 dX8_answer_35 rfl ?_
    refine vx_dup h0 dX8_answer_36 rfl ?_
    refine mg_0_24 hX q808 dX8_answer_37 ?_
    refine vx_iconst (v := (1 : Int32)) h0 dX8_answer_40 (by decide) ?_
    refine vx_iload_n h0 dX8_answer_41 rfl ?_
    refine vx_ishl h0 dX8_answer_42 ?_
    refine vx_ior h0 dX8_answer_43 ?_
    refine mp_0_24 hX q808 dX8_answer_44 ?_
    generalize (sI σ7 24 ((gI σ7 24) ||| (jshl (1 : Int32) v1))) = σ8 at hf ⊢
    replace hf := bd_h hf
    refine vx_aload_n h0 dX8_answer_47 rfl ?_
    refine vx_iload_n h0 dX8_answer_48 rfl ?_
    refine vx_if_eq (tgt := 63) h0 dX8_answer_49 (by decide) (fun c9 => ?_) (fun c9 => ?_)
    · replace hf := (if_pos c9).symm.trans hf
      refine vx_aload_n h0 dX8_answer_63 rfl ?_
      refine mg_0_25 hX q809 dX8_answer_64 ?_
      refine vx_iconst (v := (1 : Int32)) h0 dX8_answer_67 (by decide) ?_
      refine vx_iload_n h0 dX8_answer_68 rfl ?_
      refine vx_ishl h0 dX8_answer_69 ?_
      refine vx_iconst (v := (-1 : Int32)) h0 dX8_answer_70 (by decide) ?_
      refine vx_ixor h0 dX8_answer_71 ?_
      refine vx_iand h0 dX8_answer_72 ?_
      refine mp_0_25 hX q809 dX8_answer_73 ?_
      generalize (sI σ8 25 ((gI σ8 25) &&& ((jshl (1 : Int32) v1) ^^^ (-1 : Int32)))) = σ10 at hf ⊢
      replace hf := bd_h hf
      refine vx_iload_n h0 dX8_answer_76 rfl ?_
      exact w_iretE hX hf dX8_answer_77
    · replace hf := (if_neg c9).symm.trans hf
      refine vx_aload_n h0 dX8_answer_52 rfl ?_
      refine mg_0_25 hX q809 dX8_answer_53 ?_
      refine vx_iconst (v := (1 : Int32)) h0 dX8_answer_56 (by decide) ?_
      refine vx_iload_n h0 dX8_answer_57 rfl ?_
      refine vx_ishl h0 dX8_answer_58 ?_
      refine vx_ior h0 dX8_answer_59 ?_
      refine vx_goto (tgt := 73) h0 dX8_answer_60 (by decide) ?_
      refine mp_0_25 hX q809 dX8_answer_73 ?_
      generalize (sI σ8 25 ((gI σ8 25) ||| (jshl (1 : Int32) v1))) = σ11 at hf ⊢
      replace hf := bd_h hf
      refine vx_iload_n h0 dX8_answer_76 rfl ?_
      exact w_iretE hX hf dX8_answer_77
  · replace hf := (if_pos c5).symm.trans hf
    refine vx_ldc h0 q952 dX8_answer_28 ?_
    exact w_iretE hX hf dX8_answer_30
def FX8_answer (σ : SS) (a0 : Int32) (a1 : Int32) : Option (Int32 × SS) :=
  ob (FX8_answerOf σ a0) (fun r2 => if r2 = (-1000000001 : Int32) then some ((-1000000001 : Int32), σ)
    else if a1 = 0 then FX8_answer_J25 σ a0 a1 r2 (0 : Int32) r2
    else FX8_answer_J25 σ a0 a1 r2 (1 : Int32) r2)
set_option maxRecDepth 100000 in
set_option maxHeartbeats 4000000 in
theorem c_X8_answer {σ : SS} {a0 : Int32} {a1 : Int32} {r : Int32} {σr : SS} (hf : FX8_answer σ a0 a1 = some (r, σr)) : Mcw wsM yX8_answer cX8_answer 4 (some .int) ({ frames := 2, cells := 0, slots := 0, locals := 43 } : Room) (fun g => [.ref (g.2.1 0), .int a0, .int a1]) σ (fun g => some (.int r)) σr := by
  refine w_enter wsM_fix (by decide) (fun g => Nat.le_of_ble_eq_true rfl) ?_
  intro X g hX
  replace hX : Okw wsM X g cX8_answer 4 RX8 (some .int) ({ frames := 2, cells := 0, slots := 0, locals := 43 } : Room) (fun g => some (.int r)) σr := hX
  have h0 := hX.1
  show Vx X g.1 4 (wsM g σ) 0 [(0, .ref (g.2.1 0)), (1, .int a0), (2, .int a1)] []
  rw [FX8_answer] at hf
  refine vx_aload_n h0 dX8_answer_0 rfl ?_
  refine vx_iload_n h0 dX8_answer_1 rfl ?_
  obtain ⟨r2, h1, hf⟩ := ob_some hf
  refine w_callV (st := []) (ci := 8) (q0 := 0) hX (c_X8_answerOf h1) ce_X8_answerOf q951 ⟨rfl, rfl⟩ ⟨by decide, by decide⟩ rfl rfl rfl rfl (mo_0 g _) rfl (Nat.le_of_ble_eq_true rfl) dX8_answer_2 ?_
  show Vx X g.1 4 (wsM g σ) 5 [(0, .ref (g.2.1 0)), (1, .int a0), (2, .int a1)] [.int r2]
  refine vx_istore_n (ls' := [(3, .int r2), (0, .ref (g.2.1 0)), (1, .int a0), (2, .int a1)]) h0 dX8_answer_5 (by decide) rfl ?_
  refine vx_iload_n h0 dX8_answer_6 rfl ?_
  refine vx_ldc h0 q946 dX8_answer_7 ?_
  refine vx_icmp_ne (tgt := 15) h0 dX8_answer_9 (by decide) (fun c3 => ?_) (fun c3 => ?_)
  · replace hf := (if_neg c3).symm.trans hf
    refine vx_iload_n h0 dX8_answer_15 rfl ?_
    refine vx_iload_n h0 dX8_answer_16 rfl ?_
    refine vx_if_eq (tgt := 24) h0 dX8_answer_17 (by decide) (fun c4 => ?_) (fun c4 => ?_)
    · replace hf := (if_pos c4).symm.trans hf
      refine vx_iconst (v := (0 : Int32)) h0 dX8_answer_24 (by decide) ?_
      refine vx_sub [1, 2, 3, 0] rfl ?_
      exact PX8_answer_J25 hX  hf
    · replace hf := (if_neg c4).symm.trans hf
      refine vx_iconst (v := (1 : Int32)) h0 dX8_answer_20 (by decide) ?_
      refine vx_goto (tgt := 25) h0 dX8_answer_21 (by decide) ?_
      refine vx_sub [1, 2, 3, 0] rfl ?_
      exact PX8_answer_J25 hX  hf
  · replace hf := (if_pos c3).symm.trans hf
    refine vx_ldc h0 q946 dX8_answer_12 ?_
    exact w_iretE hX hf dX8_answer_14
def FX8_forget (σ : SS) (a0 : Int32) : Option (Int32 × SS) :=
  ob (FX8_answerOf σ a0) (fun r2 => if r2 = (-1000000001 : Int32) then some ((-1000000001 : Int32), σ)
    else if r2 = (-1 : Int32) then some ((-1000000003 : Int32), σ)
    else ob (FX8_notes σ) (fun σ6 => bd (sI σ6 24 ((gI σ6 24) &&& ((jshl (1 : Int32) a0) ^^^ (-1 : Int32)))) (fun σ7 => bd (sI σ7 25 ((gI σ7 25) &&& ((jshl (1 : Int32) a0) ^^^ (-1 : Int32)))) (fun σ8 => some (r2, σ8)))))
set_option maxRecDepth 100000 in
set_option maxHeartbeats 4000000 in
theorem c_X8_forget {σ : SS} {a0 : Int32} {r : Int32} {σr : SS} (hf : FX8_forget σ a0 = some (r, σr)) : Mcw wsM yX8_forget cX8_forget 3 (some .int) ({ frames := 2, cells := 0, slots := 0, locals := 43 } : Room) (fun g => [.ref (g.2.1 0), .int a0]) σ (fun g => some (.int r)) σr := by
  refine w_enter wsM_fix (by decide) (fun g => Nat.le_of_ble_eq_true rfl) ?_
  intro X g hX
  replace hX : Okw wsM X g cX8_forget 3 RX8 (some .int) ({ frames := 2, cells := 0, slots := 0, locals := 43 } : Room) (fun g => some (.int r)) σr := hX
  have h0 := hX.1
  show Vx X g.1 3 (wsM g σ) 0 [(0, .ref (g.2.1 0)), (1, .int a0)] []
  rw [FX8_forget] at hf
  refine vx_aload_n h0 dX8_forget_0 rfl ?_
  refine vx_iload_n h0 dX8_forget_1 rfl ?_
  obtain ⟨r2, h1, hf⟩ := ob_some hf
  refine w_callV (st := []) (ci := 8) (q0 := 0) hX (c_X8_answerOf h1) ce_X8_answerOf q951 ⟨rfl, rfl⟩ ⟨by decide, by decide⟩ rfl rfl rfl rfl (mo_0 g _) rfl (Nat.le_of_ble_eq_true rfl) dX8_forget_2 ?_
  show Vx X g.1 3 (wsM g σ) 5 [(0, .ref (g.2.1 0)), (1, .int a0)] [.int r2]
  refine vx_istore_n (ls' := [(2, .int r2), (0, .ref (g.2.1 0)), (1, .int a0)]) h0 dX8_forget_5 (by decide) rfl ?_
  refine vx_iload_n h0 dX8_forget_6 rfl ?_
  refine vx_ldc h0 q946 dX8_forget_7 ?_
  refine vx_icmp_ne (tgt := 15) h0 dX8_forget_9 (by decide) (fun c3 => ?_) (fun c3 => ?_)
  · replace hf := (if_neg c3).symm.trans hf
    refine vx_iload_n h0 dX8_forget_15 rfl ?_
    refine vx_iconst (v := (-1 : Int32)) h0 dX8_forget_16 (by decide) ?_
    refine vx_icmp_ne (tgt := 23) h0 dX8_forget_17 (by decide) (fun c4 => ?_) (fun c4 => ?_)
    · replace hf := (if_neg c4).symm.trans hf
      refine vx_aload_n h0 dX8_forget_23 rfl ?_
      obtain ⟨σ6, h5, hf⟩ := ob_some hf
      refine w_callV (st := []) (ci := 8) (q0 := 0) hX (c_X8_notes h5) ce_X8_notes q953 ⟨rfl, rfl⟩ ⟨by decide, by decide⟩ rfl rfl rfl rfl (mo_0 g _) rfl (Nat.le_of_ble_eq_true rfl) dX8_forget_24 ?_
      show Vx X g.1 3 (wsM g σ6) 27 [(2, .int r2), (0, .ref (g.2.1 0)), (1, .int a0)] []
      refine vx_aload_n h0 dX8_forget_27 rfl ?_
      refine vx_dup h0 dX8_forget_28 rfl ?_
      refine mg_0_24 hX q808 dX8_forget_29 ?_
      refine vx_iconst (v := (1 : Int32)) h0 dX8_forget_32 (by decide) ?_
      refine vx_iload_n h0 dX8_forget_33 rfl ?_
      refine vx_ishl h0 dX8_forget_34 ?_
      refine vx_iconst (v := (-1 : Int32)) h0 dX8_forget_35 (by decide) ?_
      refine vx_ixor h0 dX8_forget_36 ?_
      refine vx_iand h0 dX8_forget_37 ?_
      refine mp_0_24 hX q808 dX8_forget_38 ?_
      generalize (sI σ6 24 ((gI σ6 24) &&& ((jshl (1 : Int32) a0) ^^^ (-1 : Int32)))) = σ7 at hf ⊢
      replace hf := bd_h hf
      refine vx_aload_n h0 dX8_forget_41 rfl ?_
      refine vx_dup h0 dX8_forget_42 rfl ?_
      refine mg_0_25 hX q809 dX8_forget_43 ?_
      refine vx_iconst (v := (1 : Int32)) h0 dX8_forget_46 (by decide) ?_
      refine vx_iload_n h0 dX8_forget_47 rfl ?_
      refine vx_ishl h0 dX8_forget_48 ?_
      refine vx_iconst (v := (-1 : Int32)) h0 dX8_forget_49 (by decide) ?_
      refine vx_ixor h0 dX8_forget_50 ?_
      refine vx_iand h0 dX8_forget_51 ?_
      refine mp_0_25 hX q809 dX8_forget_52 ?_
      generalize (sI σ7 25 ((gI σ7 25) &&& ((jshl (1 : Int32) a0) ^^^ (-1 : Int32)))) = σ8 at hf ⊢
      replace hf := bd_h hf
      refine vx_iload_n h0 dX8_forget_55 rfl ?_
      exact w_iretE hX hf dX8_forget_56
    · replace hf := (if_pos c4).symm.trans hf
      refine vx_ldc h0 q952 dX8_forget_20 ?_
      exact w_iretE hX hf dX8_forget_22
  · replace hf := (if_pos c3).symm.trans hf
    refine vx_ldc h0 q946 dX8_forget_12 ?_
    exact w_iretE hX hf dX8_forget_14
def FX8_strike (σ : SS) (a0 : Int32) (a1 : Int32) : Option (Int32 × SS) :=
  ob (FX8_isClause σ a0) (fun r2 => if r2 = 0 then some ((-1000000001 : Int32), σ)
    else ob (FX8_has σ (gI σ 26) a0) (fun r5 => if r5 = a1 then some ((-1000000003 : Int32), σ)
    else ob (FX8_notes σ) (fun σ8 => bd (sI σ8 26 ((gI σ8 26) ^^^ (jshl (1 : Int32) a0))) (fun σ9 => ob (FX8_now σ9) (fun r11 => ob (FX8_ones σ9 r11) (fun r13 => some (r13, σ9)))))))
set_option maxRecDepth 100000 in
set_option maxHeartbeats 4000000 in
theorem c_X8_strike {σ : SS} {a0 : Int32} {a1 : Int32} {r : Int32} {σr : SS} (hf : FX8_strike σ a0 a1 = some (r, σr)) : Mcw wsM yX8_strike cX8_strike 3 (some .int) ({ frames := 4, cells := 0, slots := 0, locals := 90 } : Room) (fun g => [.ref (g.2.1 0), .int a0, .int a1]) σ (fun g => some (.int r)) σr := by
  refine w_enter wsM_fix (by decide) (fun g => Nat.le_of_ble_eq_true rfl) ?_
  intro X g hX
  replace hX : Okw wsM X g cX8_strike 3 RX8 (some .int) ({ frames := 4, cells := 0, slots := 0, locals := 90 } : Room) (fun g => some (.int r)) σr := hX
  have h0 := hX.1
  show Vx X g.1 3 (wsM g σ) 0 [(0, .ref (g.2.1 0)), (1, .int a0), (2, .int a1)] []
  rw [FX8_strike] at hf
  refine vx_aload_n h0 dX8_strike_0 rfl ?_
  refine vx_iload_n h0 dX8_strike_1 rfl ?_
  obtain ⟨r2, h1, hf⟩ := ob_some hf
  refine w_callV (st := []) (ci := 8) (q0 := 0) hX (c_X8_isClause h1) ce_X8_isClause q965 ⟨rfl, rfl⟩ ⟨by decide, by decide⟩ rfl rfl rfl rfl (mo_0 g _) rfl (Nat.le_of_ble_eq_true rfl) dX8_strike_2 ?_
  show Vx X g.1 3 (wsM g σ) 5 [(0, .ref (g.2.1 0)), (1, .int a0), (2, .int a1)] [.int r2]
  refine vx_if_ne (tgt := 11) h0 dX8_strike_5 (by decide) (fun c3 => ?_) (fun c3 => ?_)
  · replace hf := (if_neg c3).symm.trans hf
    refine vx_aload_n h0 dX8_strike_11 rfl ?_
    refine mg_0_26 hX q810 dX8_strike_12 ?_
    refine vx_iload_n h0 dX8_strike_15 rfl ?_
    obtain ⟨r5, h4, hf⟩ := ob_some hf
    refine w_callS (st := []) hX (c_X8_has h4) ce_X8_has q927 ⟨rfl, rfl⟩ ⟨by decide, by decide⟩ rfl rfl rfl (Nat.le_of_ble_eq_true rfl) dX8_strike_16 ?_
    show Vx X g.1 3 (wsM g σ) 19 [(0, .ref (g.2.1 0)), (1, .int a0), (2, .int a1)] [.int r5]
    refine vx_iload_n h0 dX8_strike_19 rfl ?_
    refine vx_icmp_ne (tgt := 26) h0 dX8_strike_20 (by decide) (fun c6 => ?_) (fun c6 => ?_)
    · replace hf := (if_neg c6).symm.trans hf
      refine vx_aload_n h0 dX8_strike_26 rfl ?_
      obtain ⟨σ8, h7, hf⟩ := ob_some hf
      refine w_callV (st := []) (ci := 8) (q0 := 0) hX (c_X8_notes h7) ce_X8_notes q953 ⟨rfl, rfl⟩ ⟨by decide, by decide⟩ rfl rfl rfl rfl (mo_0 g _) rfl (Nat.le_of_ble_eq_true rfl) dX8_strike_27 ?_
      show Vx X g.1 3 (wsM g σ8) 30 [(0, .ref (g.2.1 0)), (1, .int a0), (2, .int a1)] []
      refine vx_aload_n h0 dX8_strike_30 rfl ?_
      refine vx_dup h0 dX8_strike_31 rfl ?_
      refine mg_0_26 hX q810 dX8_strike_32 ?_
      refine vx_iconst (v := (1 : Int32)) h0 dX8_strike_35 (by decide) ?_
      refine vx_iload_n h0 dX8_strike_36 rfl ?_
      refine vx_ishl h0 dX8_strike_37 ?_
      refine vx_ixor h0 dX8_strike_38 ?_
      refine mp_0_26 hX q810 dX8_strike_39 ?_
      generalize (sI σ8 26 ((gI σ8 26) ^^^ (jshl (1 : Int32) a0))) = σ9 at hf ⊢
      replace hf := bd_h hf
      refine vx_aload_n h0 dX8_strike_42 rfl ?_
      obtain ⟨r11, h10, hf⟩ := ob_some hf
      refine w_callV (st := []) (ci := 8) (q0 := 0) hX (c_X8_now h10) ce_X8_now q969 ⟨rfl, rfl⟩ ⟨by decide, by decide⟩ rfl rfl rfl rfl (mo_0 g _) rfl (Nat.le_of_ble_eq_true rfl) dX8_strike_43 ?_
      show Vx X g.1 3 (wsM g σ9) 46 [(0, .ref (g.2.1 0)), (1, .int a0), (2, .int a1)] [.int r11]
      obtain ⟨r13, h12, hf⟩ := ob_some hf
      refine w_callS (st := []) hX (c_X8_ones h12) ce_X8_ones q985 ⟨rfl, rfl⟩ ⟨by decide, by decide⟩ rfl rfl rfl (Nat.le_of_ble_eq_true rfl) dX8_strike_46 ?_
      show Vx X g.1 3 (wsM g σ9) 49 [(0, .ref (g.2.1 0)), (1, .int a0), (2, .int a1)] [.int r13]
      exact w_iretE hX hf dX8_strike_49
    · replace hf := (if_pos c6).symm.trans hf
      refine vx_ldc h0 q952 dX8_strike_23 ?_
      exact w_iretE hX hf dX8_strike_25
  · replace hf := (if_pos c3).symm.trans hf
    refine vx_ldc h0 q946 dX8_strike_8 ?_
    exact w_iretE hX hf dX8_strike_10
def FX8_drift_J75 (σ : SS) (rec : Int64 → Int32 → SS → Option (Int32 × SS)) (v2 : Int64) (v4 : Int32) (s0 : Int32) (s1 : Int32) : Option (Int32 × SS) :=
  bd (sI σ 24 (s1 ||| s0)) (fun σ11 => if (lg_cmp (jlrem v2 (3 : Int64)) (1 : Int64)) = 0 then bd (sI σ11 25 ((gI σ11 25) ||| (jshl (1 : Int32) v4))) (fun σ14 => rec v2 (v4 + (1 : Int32)) σ14)
    else bd (sI σ11 25 ((gI σ11 25) ||| (0 : Int32))) (fun σ13 => rec v2 (v4 + (1 : Int32)) σ13))
set_option maxRecDepth 100000 in
set_option maxHeartbeats 4000000 in
theorem PX8_drift_J75 {X : Bx} {g : Gx} {r : Int32} {σr : SS} {σ : SS} (hX : Okw wsM X g cX8_drift 5 RX8 (some .int) ({ frames := 4, cells := 0, slots := 0, locals := 90 } : Room) (fun g => some (.int r)) σr) {rec : Int64 → Int32 → SS → Option (Int32 × SS)} {v2 : Int64} {v4 : Int32} {s0 : Int32} {s1 : Int32} (hrec : ∀ (w2 : Int64) (w4 : Int32) (σ2 : SS), rec w2 w4 σ2 = some (r, σr) → Vx X g.1 5 (wsM g σ2) 33 [(0, .ref (g.2.1 0)), (2, .long w2), (4, .int w4)] []) (hf : FX8_drift_J75 σ rec v2 v4 s0 s1 = some (r, σr)) : Vx X g.1 5 (wsM g σ) 75 [(0, .ref (g.2.1 0)), (2, .long v2), (4, .int v4)] [.int s0, .int s1, .ref (g.2.1 0)] := by
  have h0 := hX.1
  rw [FX8_drift_J75] at hf
  refine vx_ior h0 dX8_drift_75 ?_
  refine mp_0_24 hX q808 dX8_drift_76 ?_
  generalize (sI σ 24 (s1 ||| s0)) = σ11 at hf ⊢
  replace hf := bd_h hf
  refine vx_aload_n h0 dX8_drift_79 rfl ?_
  refine vx_dup h0 dX8_drift_80 rfl ?_
  refine mg_0_25 hX q809 dX8_drift_81 ?_
  refine vx_lload_n h0 dX8_drift_84 rfl ?_
  refine vx_ldc2 h0 q995 dX8_drift_85 ?_
  refine vx_lrem h0 dX8_drift_88 (by decide) ?_
  refine vx_lconst (v := (1 : Int64)) h0 dX8_drift_89 (by decide) ?_
  refine vx_lcmp h0 dX8_drift_90 ?_
  refine vx_if_ne (tgt := 101) h0 dX8_drift_91 (by decide) (fun c12 => ?_) (fun c12 => ?_)
  · replace hf := (if_neg c12).symm.trans hf
    refine vx_iconst (v := (0 : Int32)) h0 dX8_drift_101 (by decide) ?_
    refine vx_ior h0 dX8_drift_102 ?_
    refine mp_0_25 hX q809 dX8_drift_103 ?_
    generalize (sI σ11 25 ((gI σ11 25) ||| (0 : Int32))) = σ13 at hf ⊢
    replace hf := bd_h hf
    refine vx_iinc (q := 2) (v := (v4 + (1 : Int32))) (ls' := [(4, .int (v4 + (1 : Int32))), (0, .ref (g.2.1 0)), (2, .long v2)]) h0 dX8_drift_106 rfl rfl (by decide) rfl ?_
    refine vx_goto (tgt := 33) h0 dX8_drift_109 (by decide) ?_
    refine vx_sub [1, 2, 0] rfl ?_
    exact hrec _ _ _ hf
  · replace hf := (if_pos c12).symm.trans hf
    refine vx_iconst (v := (1 : Int32)) h0 dX8_drift_94 (by decide) ?_
    refine vx_iload h0 dX8_drift_95 rfl ?_
    refine vx_ishl h0 dX8_drift_97 ?_
    refine vx_goto (tgt := 102) h0 dX8_drift_98 (by decide) ?_
    refine vx_ior h0 dX8_drift_102 ?_
    refine mp_0_25 hX q809 dX8_drift_103 ?_
    generalize (sI σ11 25 ((gI σ11 25) ||| (jshl (1 : Int32) v4))) = σ14 at hf ⊢
    replace hf := bd_h hf
    refine vx_iinc (q := 2) (v := (v4 + (1 : Int32))) (ls' := [(4, .int (v4 + (1 : Int32))), (0, .ref (g.2.1 0)), (2, .long v2)]) h0 dX8_drift_106 rfl rfl (by decide) rfl ?_
    refine vx_goto (tgt := 33) h0 dX8_drift_109 (by decide) ?_
    refine vx_sub [1, 2, 0] rfl ?_
    exact hrec _ _ _ hf
def FX8_drift_L33 (k : SS → Option (Int32 × SS)) : Nat → Int64 → Int32 → SS → Option (Int32 × SS)
  | 0, _, _, _ => none
  | n + 1, v2, v4, σ => if (6 : Int32) ≤ v4 then k σ
    else bd (jlrem (v2 * (16807 : Int64)) (2147483647 : Int64)) (fun x9 => if 0 ≤ (lg_cmp (jlrem x9 (3 : Int64)) (2 : Int64)) then FX8_drift_J75 σ (fun a15 a16 σ17 => FX8_drift_L33 k n a15 a16 σ17) x9 v4 (0 : Int32) (gI σ 24)
    else FX8_drift_J75 σ (fun a18 a19 σ20 => FX8_drift_L33 k n a18 a19 σ20) x9 v4 (jshl (1 : Int32) v4) (gI σ 24))
set_option maxRecDepth 100000 in
set_option maxHeartbeats 4000000 in
theorem PX8_drift_L33 {X : Bx} {g : Gx} {r : Int32} {σr : SS} (hX : Okw wsM X g cX8_drift 5 RX8 (some .int) ({ frames := 4, cells := 0, slots := 0, locals := 90 } : Room) (fun g => some (.int r)) σr) {k : SS → Option (Int32 × SS)} (hk : ∀ (σ : SS), k σ = some (r, σr) → Vx X g.1 5 (wsM g σ) 112 [(0, .ref (g.2.1 0))] []) : ∀ (n : Nat) (v2 : Int64) (v4 : Int32) (σ : SS), FX8_drift_L33 k n v2 v4 σ = some (r, σr) → Vx X g.1 5 (wsM g σ) 33 [(0, .ref (g.2.1 0)), (2, .long v2), (4, .int v4)] [] := by
  have h0 := hX.1
  intro n
  induction n with
  | zero =>
    intro v2 v4 σ hf
    rw [FX8_drift_L33] at hf
    cases hf
  | succ n ih =>
    intro v2 v4 σ hf
    rw [FX8_drift_L33] at hf
    refine vx_iload h0 dX8_drift_33 rfl ?_
    refine vx_bipush (v := (6 : Int32)) h0 dX8_drift_35 (by decide) ?_
    refine vx_icmp_ge (tgt := 112) h0 dX8_drift_37 (by decide) (fun c8 => ?_) (fun c8 => ?_)
    · replace hf := (if_pos c8).symm.trans hf
      refine vx_sub [0] rfl ?_
      exact hk _ hf
    · replace hf := (if_neg c8).symm.trans hf
      refine vx_lload_n h0 dX8_drift_40 rfl ?_
      refine vx_ldc2 h0 q993 dX8_drift_41 ?_
      refine vx_lmul h0 dX8_drift_44 ?_
      refine vx_ldc2 h0 q994 dX8_drift_45 ?_
      refine vx_lrem h0 dX8_drift_48 (by decide) ?_
      generalize (jlrem (v2 * (16807 : Int64)) (2147483647 : Int64)) = x9 at hf ⊢
      replace hf := bd_h hf
      refine vx_lstore_n (ls' := [(2, .long x9), (0, .ref (g.2.1 0)), (4, .int v4)]) h0 dX8_drift_49 (by decide) rfl ?_
      refine vx_aload_n h0 dX8_drift_50 rfl ?_
      refine vx_dup h0 dX8_drift_51 rfl ?_
      refine mg_0_24 hX q808 dX8_drift_52 ?_
      refine vx_lload_n h0 dX8_drift_55 rfl ?_
      refine vx_ldc2 h0 q995 dX8_drift_56 ?_
      refine vx_lrem h0 dX8_drift_59 (by decide) ?_
      refine vx_ldc2 h0 q996 dX8_drift_60 ?_
      refine vx_lcmp h0 dX8_drift_63 ?_
      refine vx_if_ge (tgt := 74) h0 dX8_drift_64 (by decide) (fun c10 => ?_) (fun c10 => ?_)
      · replace hf := (if_pos c10).symm.trans hf
        refine vx_iconst (v := (0 : Int32)) h0 dX8_drift_74 (by decide) ?_
        refine vx_sub [1, 0, 2] rfl ?_
        exact PX8_drift_J75 hX (fun a15 a16 σ17 hf => ih a15 a16 σ17 hf) hf
      · replace hf := (if_neg c10).symm.trans hf
        refine vx_iconst (v := (1 : Int32)) h0 dX8_drift_67 (by decide) ?_
        refine vx_iload h0 dX8_drift_68 rfl ?_
        refine vx_ishl h0 dX8_drift_70 ?_
        refine vx_goto (tgt := 75) h0 dX8_drift_71 (by decide) ?_
        refine vx_sub [1, 0, 2] rfl ?_
        exact PX8_drift_J75 hX (fun a18 a19 σ20 hf => ih a18 a19 σ20 hf) hf
def FX8_drift (σ : SS) (a0 : Int32) : Option (Int32 × SS) :=
  ob (FX8_in σ a0 (1 : Int32) (999999 : Int32)) (fun r2 => if r2 = 0 then some ((-1000000002 : Int32), σ)
    else ob (FX8_notes σ) (fun σ5 => bd (sI σ5 24 (0 : Int32)) (fun σ6 => bd (sI σ6 25 (0 : Int32)) (fun σ7 => FX8_drift_L33 (fun σ21 => ob (FX8_now σ21) (fun r23 => ob (FX8_ones σ21 r23) (fun r25 => some (r25, σ21)))) 5000 (Int32.toInt64 a0) (0 : Int32) σ7))))
set_option maxRecDepth 100000 in
set_option maxHeartbeats 4000000 in
theorem c_X8_drift {σ : SS} {a0 : Int32} {r : Int32} {σr : SS} (hf : FX8_drift σ a0 = some (r, σr)) : Mcw wsM yX8_drift cX8_drift 5 (some .int) ({ frames := 4, cells := 0, slots := 0, locals := 90 } : Room) (fun g => [.ref (g.2.1 0), .int a0]) σ (fun g => some (.int r)) σr := by
  refine w_enter wsM_fix (by decide) (fun g => Nat.le_of_ble_eq_true rfl) ?_
  intro X g hX
  replace hX : Okw wsM X g cX8_drift 5 RX8 (some .int) ({ frames := 4, cells := 0, slots := 0, locals := 90 } : Room) (fun g => some (.int r)) σr := hX
  have h0 := hX.1
  show Vx X g.1 5 (wsM g σ) 0 [(0, .ref (g.2.1 0)), (1, .int a0)] []
  rw [FX8_drift] at hf
  refine vx_iload_n h0 dX8_drift_0 rfl ?_
  refine vx_iconst (v := (1 : Int32)) h0 dX8_drift_1 (by decide) ?_
  refine vx_ldc h0 q992 dX8_drift_2 ?_
  obtain ⟨r2, h1, hf⟩ := ob_some hf
  refine w_callS (st := []) hX (c_X8_in h1) ce_X8_in q895 ⟨rfl, rfl⟩ ⟨by decide, by decide⟩ rfl rfl rfl (Nat.le_of_ble_eq_true rfl) dX8_drift_4 ?_
  show Vx X g.1 5 (wsM g σ) 7 [(0, .ref (g.2.1 0)), (1, .int a0)] [.int r2]
  refine vx_if_ne (tgt := 13) h0 dX8_drift_7 (by decide) (fun c3 => ?_) (fun c3 => ?_)
  · replace hf := (if_neg c3).symm.trans hf
    refine vx_aload_n h0 dX8_drift_13 rfl ?_
    obtain ⟨σ5, h4, hf⟩ := ob_some hf
    refine w_callV (st := []) (ci := 8) (q0 := 0) hX (c_X8_notes h4) ce_X8_notes q953 ⟨rfl, rfl⟩ ⟨by decide, by decide⟩ rfl rfl rfl rfl (mo_0 g _) rfl (Nat.le_of_ble_eq_true rfl) dX8_drift_14 ?_
    show Vx X g.1 5 (wsM g σ5) 17 [(0, .ref (g.2.1 0)), (1, .int a0)] []
    refine vx_iload_n h0 dX8_drift_17 rfl ?_
    refine vx_i2l h0 dX8_drift_18 ?_
    refine vx_lstore_n (ls' := [(2, .long (Int32.toInt64 a0)), (0, .ref (g.2.1 0)), (1, .int a0)]) h0 dX8_drift_19 (by decide) rfl ?_
    refine vx_aload_n h0 dX8_drift_20 rfl ?_
    refine vx_iconst (v := (0 : Int32)) h0 dX8_drift_21 (by decide) ?_
    refine mp_0_24 hX q808 dX8_drift_22 ?_
    generalize (sI σ5 24 (0 : Int32)) = σ6 at hf ⊢
    replace hf := bd_h hf
    refine vx_aload_n h0 dX8_drift_25 rfl ?_
    refine vx_iconst (v := (0 : Int32)) h0 dX8_drift_26 (by decide) ?_
    refine mp_0_25 hX q809 dX8_drift_27 ?_
    generalize (sI σ6 25 (0 : Int32)) = σ7 at hf ⊢
    replace hf := bd_h hf
    refine vx_iconst (v := (0 : Int32)) h0 dX8_drift_30 (by decide) ?_
    refine vx_istore (ls' := [(4, .int (0 : Int32)), (2, .long (Int32.toInt64 a0)), (0, .ref (g.2.1 0)), (1, .int a0)]) h0 dX8_drift_31 (by decide) rfl ?_
    refine vx_sub [2, 1, 0] rfl ?_
    refine PX8_drift_L33 hX (fun σ21 hf => ?_) _ _ _ _ hf
    refine vx_aload_n h0 dX8_drift_112 rfl ?_
    obtain ⟨r23, h22, hf⟩ := ob_some hf
    refine w_callV (st := []) (ci := 8) (q0 := 0) hX (c_X8_now h22) ce_X8_now q969 ⟨rfl, rfl⟩ ⟨by decide, by decide⟩ rfl rfl rfl rfl (mo_0 g _) rfl (Nat.le_of_ble_eq_true rfl) dX8_drift_113 ?_
    show Vx X g.1 5 (wsM g σ21) 116 [(0, .ref (g.2.1 0))] [.int r23]
    obtain ⟨r25, h24, hf⟩ := ob_some hf
    refine w_callS (st := []) hX (c_X8_ones h24) ce_X8_ones q985 ⟨rfl, rfl⟩ ⟨by decide, by decide⟩ rfl rfl rfl (Nat.le_of_ble_eq_true rfl) dX8_drift_116 ?_
    show Vx X g.1 5 (wsM g σ21) 119 [(0, .ref (g.2.1 0))] [.int r25]
    exact w_iretE hX hf dX8_drift_119
  · replace hf := (if_pos c3).symm.trans hf
    refine vx_ldc h0 q898 dX8_drift_10 ?_
    exact w_iretE hX hf dX8_drift_12
def FX8_undo (σ : SS) : Option (Int32 × SS) :=
  if (gI σ 28) = 0 then some ((-1000000003 : Int32), σ)
    else bd (sI σ 28 ((gI σ 28) - (1 : Int32))) (fun σ2 => gd (inb ((3 : Int32) * (gI σ2 28)) 24) (bd (sI σ2 24 (gA σ2 27 (Int32.toNatClampNeg ((3 : Int32) * (gI σ2 28))))) (fun σ4 => gd (inb (((3 : Int32) * (gI σ4 28)) + (1 : Int32)) 24) (bd (sI σ4 25 (gA σ4 27 (Int32.toNatClampNeg (((3 : Int32) * (gI σ4 28)) + (1 : Int32))))) (fun σ6 => gd (inb (((3 : Int32) * (gI σ6 28)) + (2 : Int32)) 24) (bd (sI σ6 26 (gA σ6 27 (Int32.toNatClampNeg (((3 : Int32) * (gI σ6 28)) + (2 : Int32))))) (fun σ8 => some ((gI σ8 28), σ8))))))))
set_option maxRecDepth 100000 in
set_option maxHeartbeats 4000000 in
theorem c_X8_undo {σ : SS} {r : Int32} {σr : SS} (hf : FX8_undo σ = some (r, σr)) : Mcw wsM yX8_undo cX8_undo 1 (some .int) ({ frames := 0, cells := 0, slots := 0, locals := 0 } : Room) (fun g => [.ref (g.2.1 0)]) σ (fun g => some (.int r)) σr := by
  refine w_enter wsM_fix (by decide) (fun g => Nat.le_of_ble_eq_true rfl) ?_
  intro X g hX
  replace hX : Okw wsM X g cX8_undo 1 RX8 (some .int) ({ frames := 0, cells := 0, slots := 0, locals := 0 } : Room) (fun g => some (.int r)) σr := hX
  have h0 := hX.1
  show Vx X g.1 1 (wsM g σ) 0 [(0, .ref (g.2.1 0))] []
  rw [FX8_undo] at hf
  refine vx_aload_n h0 dX8_undo_0 rfl ?_
  refine mg_0_28 hX q812 dX8_undo_1 ?_
  refine vx_if_ne (tgt := 10) h0 dX8_undo_4 (by decide) (fun c1 => ?_) (fun c1 => ?_)
  · replace hf := (if_neg c1).symm.trans hf
    refine vx_aload_n h0 dX8_undo_10 rfl ?_
    refine vx_dup h0 dX8_undo_11 rfl ?_
    refine mg_0_28 hX q812 dX8_undo_12 ?_
    refine vx_iconst (v := (1 : Int32)) h0 dX8_undo_15 (by decide) ?_
    refine vx_isub h0 dX8_undo_16 ?_
    refine mp_0_28 hX q812 dX8_undo_17 ?_
    generalize (sI σ 28 ((gI σ 28) - (1 : Int32))) = σ2 at hf ⊢
    replace hf := bd_h hf
    refine vx_aload_n h0 dX8_undo_20 rfl ?_
    refine vx_aload_n h0 dX8_undo_21 rfl ?_
    refine mg_0_27 hX q811 dX8_undo_22 ?_
    refine vx_iconst (v := (3 : Int32)) h0 dX8_undo_25 (by decide) ?_
    refine vx_aload_n h0 dX8_undo_26 rfl ?_
    refine mg_0_28 hX q812 dX8_undo_27 ?_
    refine vx_imul h0 dX8_undo_30 ?_
    obtain ⟨b3, hf⟩ := gd_some hf
    refine ml_17 hX b3 dX8_undo_31 ?_
    refine mp_0_24 hX q808 dX8_undo_32 ?_
    generalize (sI σ2 24 (gA σ2 27 (Int32.toNatClampNeg ((3 : Int32) * (gI σ2 28))))) = σ4 at hf ⊢
    replace hf := bd_h hf
    refine vx_aload_n h0 dX8_undo_35 rfl ?_
    refine vx_aload_n h0 dX8_undo_36 rfl ?_
    refine mg_0_27 hX q811 dX8_undo_37 ?_
    refine vx_iconst (v := (3 : Int32)) h0 dX8_undo_40 (by decide) ?_
    refine vx_aload_n h0 dX8_undo_41 rfl ?_
    refine mg_0_28 hX q812 dX8_undo_42 ?_
    refine vx_imul h0 dX8_undo_45 ?_
    refine vx_iconst (v := (1 : Int32)) h0 dX8_undo_46 (by decide) ?_
    refine vx_iadd h0 dX8_undo_47 ?_
    obtain ⟨b5, hf⟩ := gd_some hf
    refine ml_17 hX b5 dX8_undo_48 ?_
    refine mp_0_25 hX q809 dX8_undo_49 ?_
    generalize (sI σ4 25 (gA σ4 27 (Int32.toNatClampNeg (((3 : Int32) * (gI σ4 28)) + (1 : Int32))))) = σ6 at hf ⊢
    replace hf := bd_h hf
    refine vx_aload_n h0 dX8_undo_52 rfl ?_
    refine vx_aload_n h0 dX8_undo_53 rfl ?_
    refine mg_0_27 hX q811 dX8_undo_54 ?_
    refine vx_iconst (v := (3 : Int32)) h0 dX8_undo_57 (by decide) ?_
    refine vx_aload_n h0 dX8_undo_58 rfl ?_
    refine mg_0_28 hX q812 dX8_undo_59 ?_
    refine vx_imul h0 dX8_undo_62 ?_
    refine vx_iconst (v := (2 : Int32)) h0 dX8_undo_63 (by decide) ?_
    refine vx_iadd h0 dX8_undo_64 ?_
    obtain ⟨b7, hf⟩ := gd_some hf
    refine ml_17 hX b7 dX8_undo_65 ?_
    refine mp_0_26 hX q810 dX8_undo_66 ?_
    generalize (sI σ6 26 (gA σ6 27 (Int32.toNatClampNeg (((3 : Int32) * (gI σ6 28)) + (2 : Int32))))) = σ8 at hf ⊢
    replace hf := bd_h hf
    refine vx_aload_n h0 dX8_undo_69 rfl ?_
    refine mg_0_28 hX q812 dX8_undo_70 ?_
    exact w_iretE hX hf dX8_undo_73
  · replace hf := (if_pos c1).symm.trans hf
    refine vx_ldc h0 q952 dX8_undo_7 ?_
    exact w_iretE hX hf dX8_undo_9
def FX8_surely_J46 (σ : SS) (rec : Int32 → Int32 → Int32 → Option (Int32 × SS)) (v1 : Int32) (v3 : Int32) (v4 : Int32) (s0 : Int32) (s1 : Int32) : Option (Int32 × SS) :=
  ob (FX8_canBe σ v4) (fun r8 => if r8 = 0 then rec (s1 &&& s0) (v3 ||| (0 : Int32)) (v4 + (1 : Int32))
    else gd (inb v4 64) (rec (s1 &&& s0) (v3 ||| (gA σ 31 (Int32.toNatClampNeg v4))) (v4 + (1 : Int32))))
set_option maxRecDepth 100000 in
set_option maxHeartbeats 4000000 in
theorem PX8_surely_J46 {X : Bx} {g : Gx} {r : Int32} {σr : SS} {σ : SS} (hX : Okw wsM X g cX8_surely 5 RX8 (some .int) ({ frames := 4, cells := 0, slots := 0, locals := 91 } : Room) (fun g => some (.int r)) σr) {rec : Int32 → Int32 → Int32 → Option (Int32 × SS)} {v1 : Int32} {v3 : Int32} {v4 : Int32} {s0 : Int32} {s1 : Int32} (hrec : ∀ (w2 : Int32) (w3 : Int32) (w4 : Int32), rec w2 w3 w4 = some (r, σr) → Vx X g.1 5 (wsM g σ) 18 [(0, .ref (g.2.1 0)), (1, .int v1), (2, .int w2), (3, .int w3), (4, .int w4)] []) (hf : FX8_surely_J46 σ rec v1 v3 v4 s0 s1 = some (r, σr)) : Vx X g.1 5 (wsM g σ) 46 [(0, .ref (g.2.1 0)), (1, .int v1), (3, .int v3), (4, .int v4)] [.int s0, .int s1] := by
  have h0 := hX.1
  rw [FX8_surely_J46] at hf
  refine vx_iand h0 dX8_surely_46 ?_
  refine vx_istore_n (ls' := [(2, .int (s1 &&& s0)), (0, .ref (g.2.1 0)), (1, .int v1), (3, .int v3), (4, .int v4)]) h0 dX8_surely_47 (by decide) rfl ?_
  refine vx_iload_n h0 dX8_surely_48 rfl ?_
  refine vx_aload_n h0 dX8_surely_49 rfl ?_
  refine vx_iload h0 dX8_surely_50 rfl ?_
  obtain ⟨r8, h7, hf⟩ := ob_some hf
  refine w_callV (st := [.int v3]) (ci := 8) (q0 := 0) hX (c_X8_canBe h7) ce_X8_canBe q1013 ⟨rfl, rfl⟩ ⟨by decide, by decide⟩ rfl rfl rfl rfl (mo_0 g _) rfl (Nat.le_of_ble_eq_true rfl) dX8_surely_52 ?_
  show Vx X g.1 5 (wsM g σ) 55 [(2, .int (s1 &&& s0)), (0, .ref (g.2.1 0)), (1, .int v1), (3, .int v3), (4, .int v4)] [.int r8, .int v3]
  refine vx_if_eq (tgt := 68) h0 dX8_surely_55 (by decide) (fun c9 => ?_) (fun c9 => ?_)
  · replace hf := (if_pos c9).symm.trans hf
    refine vx_iconst (v := (0 : Int32)) h0 dX8_surely_68 (by decide) ?_
    refine vx_ior h0 dX8_surely_69 ?_
    refine vx_istore_n (ls' := [(3, .int (v3 ||| (0 : Int32))), (2, .int (s1 &&& s0)), (0, .ref (g.2.1 0)), (1, .int v1), (4, .int v4)]) h0 dX8_surely_70 (by decide) rfl ?_
    refine vx_iinc (q := 4) (v := (v4 + (1 : Int32))) (ls' := [(4, .int (v4 + (1 : Int32))), (3, .int (v3 ||| (0 : Int32))), (2, .int (s1 &&& s0)), (0, .ref (g.2.1 0)), (1, .int v1)]) h0 dX8_surely_71 rfl rfl (by decide) rfl ?_
    refine vx_goto (tgt := 18) h0 dX8_surely_74 (by decide) ?_
    refine vx_sub [3, 4, 2, 1, 0] rfl ?_
    exact hrec _ _ _ hf
  · replace hf := (if_neg c9).symm.trans hf
    refine vx_aload_n h0 dX8_surely_58 rfl ?_
    refine mg_0_31 hX q815 dX8_surely_59 ?_
    refine vx_iload h0 dX8_surely_62 rfl ?_
    obtain ⟨b10, hf⟩ := gd_some hf
    refine ml_20 hX b10 dX8_surely_64 ?_
    refine vx_goto (tgt := 69) h0 dX8_surely_65 (by decide) ?_
    refine vx_ior h0 dX8_surely_69 ?_
    refine vx_istore_n (ls' := [(3, .int (v3 ||| (gA σ 31 (Int32.toNatClampNeg v4)))), (2, .int (s1 &&& s0)), (0, .ref (g.2.1 0)), (1, .int v1), (4, .int v4)]) h0 dX8_surely_70 (by decide) rfl ?_
    refine vx_iinc (q := 4) (v := (v4 + (1 : Int32))) (ls' := [(4, .int (v4 + (1 : Int32))), (3, .int (v3 ||| (gA σ 31 (Int32.toNatClampNeg v4)))), (2, .int (s1 &&& s0)), (0, .ref (g.2.1 0)), (1, .int v1)]) h0 dX8_surely_71 rfl rfl (by decide) rfl ?_
    refine vx_goto (tgt := 18) h0 dX8_surely_74 (by decide) ?_
    refine vx_sub [3, 4, 2, 1, 0] rfl ?_
    exact hrec _ _ _ hf
def FX8_surely_L18 (σ : SS) (v1 : Int32) (k : Int32 → Int32 → Option (Int32 × SS)) : Nat → Int32 → Int32 → Int32 → Option (Int32 × SS)
  | 0, _, _, _ => none
  | n + 1, v2, v3, v4 => if (64 : Int32) ≤ v4 then k v2 v3
    else ob (FX8_canBe σ v4) (fun r5 => if r5 = 0 then FX8_surely_J46 σ (fun a11 a12 a13 => FX8_surely_L18 σ v1 k n a11 a12 a13) v1 v3 v4 v2 v2
    else gd (inb v4 64) (FX8_surely_J46 σ (fun a15 a16 a17 => FX8_surely_L18 σ v1 k n a15 a16 a17) v1 v3 v4 (gA σ 31 (Int32.toNatClampNeg v4)) v2))
set_option maxRecDepth 100000 in
set_option maxHeartbeats 4000000 in
theorem PX8_surely_L18 {X : Bx} {g : Gx} {r : Int32} {σr : SS} {σ : SS} (hX : Okw wsM X g cX8_surely 5 RX8 (some .int) ({ frames := 4, cells := 0, slots := 0, locals := 91 } : Room) (fun g => some (.int r)) σr) {v1 : Int32} {k : Int32 → Int32 → Option (Int32 × SS)} (hk : ∀ (v2 : Int32) (v3 : Int32), k v2 v3 = some (r, σr) → Vx X g.1 5 (wsM g σ) 77 [(0, .ref (g.2.1 0)), (1, .int v1), (2, .int v2), (3, .int v3)] []) : ∀ (n : Nat) (v2 : Int32) (v3 : Int32) (v4 : Int32), FX8_surely_L18 σ v1 k n v2 v3 v4 = some (r, σr) → Vx X g.1 5 (wsM g σ) 18 [(0, .ref (g.2.1 0)), (1, .int v1), (2, .int v2), (3, .int v3), (4, .int v4)] [] := by
  have h0 := hX.1
  intro n
  induction n with
  | zero =>
    intro v2 v3 v4 hf
    rw [FX8_surely_L18] at hf
    cases hf
  | succ n ih =>
    intro v2 v3 v4 hf
    rw [FX8_surely_L18] at hf
    refine vx_iload h0 dX8_surely_18 rfl ?_
    refine vx_bipush (v := (64 : Int32)) h0 dX8_surely_20 (by decide) ?_
    refine vx_icmp_ge (tgt := 77) h0 dX8_surely_22 (by decide) (fun c3 => ?_) (fun c3 => ?_)
    · replace hf := (if_pos c3).symm.trans hf
      refine vx_sub [0, 1, 2, 3] rfl ?_
      exact hk _ _ hf
    · replace hf := (if_neg c3).symm.trans hf
      refine vx_iload_n h0 dX8_surely_25 rfl ?_
      refine vx_aload_n h0 dX8_surely_26 rfl ?_
      refine vx_iload h0 dX8_surely_27 rfl ?_
      obtain ⟨r5, h4, hf⟩ := ob_some hf
      refine w_callV (st := [.int v2]) (ci := 8) (q0 := 0) hX (c_X8_canBe h4) ce_X8_canBe q1013 ⟨rfl, rfl⟩ ⟨by decide, by decide⟩ rfl rfl rfl rfl (mo_0 g _) rfl (Nat.le_of_ble_eq_true rfl) dX8_surely_29 ?_
      show Vx X g.1 5 (wsM g σ) 32 [(0, .ref (g.2.1 0)), (1, .int v1), (2, .int v2), (3, .int v3), (4, .int v4)] [.int r5, .int v2]
      refine vx_if_eq (tgt := 45) h0 dX8_surely_32 (by decide) (fun c6 => ?_) (fun c6 => ?_)
      · replace hf := (if_pos c6).symm.trans hf
        refine vx_iload_n h0 dX8_surely_45 rfl ?_
        refine vx_sub [0, 1, 3, 4] rfl ?_
        exact PX8_surely_J46 hX (fun a11 a12 a13 hf => ih a11 a12 a13 hf) hf
      · replace hf := (if_neg c6).symm.trans hf
        refine vx_aload_n h0 dX8_surely_35 rfl ?_
        refine mg_0_31 hX q815 dX8_surely_36 ?_
        refine vx_iload h0 dX8_surely_39 rfl ?_
        obtain ⟨b14, hf⟩ := gd_some hf
        refine ml_20 hX b14 dX8_surely_41 ?_
        refine vx_goto (tgt := 46) h0 dX8_surely_42 (by decide) ?_
        refine vx_sub [0, 1, 3, 4] rfl ?_
        exact PX8_surely_J46 hX (fun a15 a16 a17 hf => ih a15 a16 a17 hf) hf
def FX8_surely (σ : SS) (a0 : Int32) : Option (Int32 × SS) :=
  ob (FX8_forces σ) (fun σ2 => FX8_surely_L18 σ2 a0 (fun u18 u19 => if a0 = (2 : Int32) then some (u18, σ2)
    else if a0 = (1 : Int32) then some ((u19 &&& (u18 ^^^ (-1 : Int32))), σ2)
    else some ((((jshl (1 : Int32) (gI σ2 3)) - (1 : Int32)) &&& (u19 ^^^ (-1 : Int32))), σ2)) 5000 ((jshl (1 : Int32) (gI σ 3)) - (1 : Int32)) (0 : Int32) (0 : Int32))
set_option maxRecDepth 100000 in
set_option maxHeartbeats 4000000 in
theorem c_X8_surely {σ : SS} {a0 : Int32} {r : Int32} {σr : SS} (hf : FX8_surely σ a0 = some (r, σr)) : Mcw wsM yX8_surely cX8_surely 5 (some .int) ({ frames := 4, cells := 0, slots := 0, locals := 91 } : Room) (fun g => [.ref (g.2.1 0), .int a0]) σ (fun g => some (.int r)) σr := by
  refine w_enter wsM_fix (by decide) (fun g => Nat.le_of_ble_eq_true rfl) ?_
  intro X g hX
  replace hX : Okw wsM X g cX8_surely 5 RX8 (some .int) ({ frames := 4, cells := 0, slots := 0, locals := 91 } : Room) (fun g => some (.int r)) σr := hX
  have h0 := hX.1
  show Vx X g.1 5 (wsM g σ) 0 [(0, .ref (g.2.1 0)), (1, .int a0)] []
  rw [FX8_surely] at hf
  refine vx_iconst (v := (1 : Int32)) h0 dX8_surely_0 (by decide) ?_
  refine vx_aload_n h0 dX8_surely_1 rfl ?_
  refine mg_0_3 hX q787 dX8_surely_2 ?_
  refine vx_ishl h0 dX8_surely_5 ?_
  refine vx_iconst (v := (1 : Int32)) h0 dX8_surely_6 (by decide) ?_
  refine vx_isub h0 dX8_surely_7 ?_
  refine vx_istore_n (ls' := [(2, .int ((jshl (1 : Int32) (gI σ 3)) - (1 : Int32))), (0, .ref (g.2.1 0)), (1, .int a0)]) h0 dX8_surely_8 (by decide) rfl ?_
  refine vx_iconst (v := (0 : Int32)) h0 dX8_surely_9 (by decide) ?_
  refine vx_istore_n (ls' := [(3, .int (0 : Int32)), (2, .int ((jshl (1 : Int32) (gI σ 3)) - (1 : Int32))), (0, .ref (g.2.1 0)), (1, .int a0)]) h0 dX8_surely_10 (by decide) rfl ?_
  refine vx_aload_n h0 dX8_surely_11 rfl ?_
  obtain ⟨σ2, h1, hf⟩ := ob_some hf
  refine w_callV (st := []) (ci := 8) (q0 := 0) hX (c_X8_forces h1) ce_X8_forces q1009 ⟨rfl, rfl⟩ ⟨by decide, by decide⟩ rfl rfl rfl rfl (mo_0 g _) rfl (Nat.le_of_ble_eq_true rfl) dX8_surely_12 ?_
  show Vx X g.1 5 (wsM g σ2) 15 [(3, .int (0 : Int32)), (2, .int ((jshl (1 : Int32) (gI σ 3)) - (1 : Int32))), (0, .ref (g.2.1 0)), (1, .int a0)] []
  refine vx_iconst (v := (0 : Int32)) h0 dX8_surely_15 (by decide) ?_
  refine vx_istore (ls' := [(4, .int (0 : Int32)), (3, .int (0 : Int32)), (2, .int ((jshl (1 : Int32) (gI σ 3)) - (1 : Int32))), (0, .ref (g.2.1 0)), (1, .int a0)]) h0 dX8_surely_16 (by decide) rfl ?_
  refine vx_sub [3, 4, 2, 1, 0] rfl ?_
  refine PX8_surely_L18 hX (fun u18 u19 hf => ?_) _ _ _ _ hf
  refine vx_iload_n h0 dX8_surely_77 rfl ?_
  refine vx_iconst (v := (2 : Int32)) h0 dX8_surely_78 (by decide) ?_
  refine vx_icmp_ne (tgt := 86) h0 dX8_surely_79 (by decide) (fun c20 => ?_) (fun c20 => ?_)
  · replace hf := (if_neg c20).symm.trans hf
    refine vx_iload_n h0 dX8_surely_86 rfl ?_
    refine vx_iconst (v := (1 : Int32)) h0 dX8_surely_87 (by decide) ?_
    refine vx_icmp_ne (tgt := 99) h0 dX8_surely_88 (by decide) (fun c21 => ?_) (fun c21 => ?_)
    · replace hf := (if_neg c21).symm.trans hf
      refine vx_iconst (v := (1 : Int32)) h0 dX8_surely_99 (by decide) ?_
      refine vx_aload_n h0 dX8_surely_100 rfl ?_
      refine mg_0_3 hX q787 dX8_surely_101 ?_
      refine vx_ishl h0 dX8_surely_104 ?_
      refine vx_iconst (v := (1 : Int32)) h0 dX8_surely_105 (by decide) ?_
      refine vx_isub h0 dX8_surely_106 ?_
      refine vx_iload_n h0 dX8_surely_107 rfl ?_
      refine vx_iconst (v := (-1 : Int32)) h0 dX8_surely_108 (by decide) ?_
      refine vx_ixor h0 dX8_surely_109 ?_
      refine vx_iand h0 dX8_surely_110 ?_
      exact w_iretE hX hf dX8_surely_111
    · replace hf := (if_pos c21).symm.trans hf
      refine vx_iload_n h0 dX8_surely_91 rfl ?_
      refine vx_iload_n h0 dX8_surely_92 rfl ?_
      refine vx_iconst (v := (-1 : Int32)) h0 dX8_surely_93 (by decide) ?_
      refine vx_ixor h0 dX8_surely_94 ?_
      refine vx_iand h0 dX8_surely_95 ?_
      refine vx_goto (tgt := 111) h0 dX8_surely_96 (by decide) ?_
      exact w_iretE hX hf dX8_surely_111
  · replace hf := (if_pos c20).symm.trans hf
    refine vx_iload_n h0 dX8_surely_82 rfl ?_
    refine vx_goto (tgt := 111) h0 dX8_surely_83 (by decide) ?_
    exact w_iretE hX hf dX8_surely_111
