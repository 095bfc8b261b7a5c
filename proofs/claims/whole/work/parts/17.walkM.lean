/-! printed by wip/whole/gen.py: decode rows, functions, contracts -/
theorem dX8_forceBy_0 : decode cX8_forceBy 0 = .ok (.iconst 0, 1) := by decide +kernel
theorem dX8_forceBy_1 : decode cX8_forceBy 1 = .ok (.istore_n 2, 1) := by decide +kernel
theorem dX8_forceBy_2 : decode cX8_forceBy 2 = .ok (.iconst 0, 1) := by decide +kernel
theorem dX8_forceBy_3 : decode cX8_forceBy 3 = .ok (.istore_n 3, 1) := by decide +kernel
theorem dX8_forceBy_4 : decode cX8_forceBy 4 = .ok (.iload_n 3, 1) := by decide +kernel
theorem dX8_forceBy_5 : decode cX8_forceBy 5 = .ok (.aload_n 0, 1) := by decide +kernel
theorem dX8_forceBy_6 : decode cX8_forceBy 6 = .ok (.getfield 81, 3) := by decide +kernel
theorem dX8_forceBy_9 : decode cX8_forceBy 9 = .ok (.if_icmp .gt 107, 3) := by decide +kernel
theorem dX8_forceBy_12 : decode cX8_forceBy 12 = .ok (.iconst 0, 1) := by decide +kernel
theorem dX8_forceBy_13 : decode cX8_forceBy 13 = .ok (.istore 4, 2) := by decide +kernel
theorem dX8_forceBy_15 : decode cX8_forceBy 15 = .ok (.iload 4, 2) := by decide +kernel
theorem dX8_forceBy_17 : decode cX8_forceBy 17 = .ok (.aload_n 0, 1) := by decide +kernel
theorem dX8_forceBy_18 : decode cX8_forceBy 18 = .ok (.getfield 81, 3) := by decide +kernel
theorem dX8_forceBy_21 : decode cX8_forceBy 21 = .ok (.if_icmp .ge 89, 3) := by decide +kernel
theorem dX8_forceBy_24 : decode cX8_forceBy 24 = .ok (.aload_n 0, 1) := by decide +kernel
theorem dX8_forceBy_25 : decode cX8_forceBy 25 = .ok (.iload 4, 2) := by decide +kernel
theorem dX8_forceBy_27 : decode cX8_forceBy 27 = .ok (.iload_n 1, 1) := by decide +kernel
theorem dX8_forceBy_28 : decode cX8_forceBy 28 = .ok (.invokevirtual 147, 3) := by decide +kernel
theorem dX8_forceBy_31 : decode cX8_forceBy 31 = .ok (.ifCond .eq 54, 3) := by decide +kernel
theorem dX8_forceBy_34 : decode cX8_forceBy 34 = .ok (.aload_n 0, 1) := by decide +kernel
theorem dX8_forceBy_35 : decode cX8_forceBy 35 = .ok (.getfield 141, 3) := by decide +kernel
theorem dX8_forceBy_38 : decode cX8_forceBy 38 = .ok (.iload 4, 2) := by decide +kernel
theorem dX8_forceBy_40 : decode cX8_forceBy 40 = .ok (.invokestatic 118, 3) := by decide +kernel
theorem dX8_forceBy_43 : decode cX8_forceBy 43 = .ok (.ifCond .ne 42, 3) := by decide +kernel
theorem dX8_forceBy_46 : decode cX8_forceBy 46 = .ok (.aload_n 0, 1) := by decide +kernel
theorem dX8_forceBy_47 : decode cX8_forceBy 47 = .ok (.getfield 17, 3) := by decide +kernel
theorem dX8_forceBy_50 : decode cX8_forceBy 50 = .ok (.iload 4, 2) := by decide +kernel
theorem dX8_forceBy_52 : decode cX8_forceBy 52 = .ok (.iaload, 1) := by decide +kernel
theorem dX8_forceBy_53 : decode cX8_forceBy 53 = .ok (.iconst (-1), 1) := by decide +kernel
theorem dX8_forceBy_54 : decode cX8_forceBy 54 = .ok (.if_icmp .eq 17, 3) := by decide +kernel
theorem dX8_forceBy_57 : decode cX8_forceBy 57 = .ok (.iload_n 2, 1) := by decide +kernel
theorem dX8_forceBy_58 : decode cX8_forceBy 58 = .ok (.aload_n 0, 1) := by decide +kernel
theorem dX8_forceBy_59 : decode cX8_forceBy 59 = .ok (.getfield 17, 3) := by decide +kernel
theorem dX8_forceBy_62 : decode cX8_forceBy 62 = .ok (.iload 4, 2) := by decide +kernel
theorem dX8_forceBy_64 : decode cX8_forceBy 64 = .ok (.iaload, 1) := by decide +kernel
theorem dX8_forceBy_65 : decode cX8_forceBy 65 = .ok (.invokestatic 118, 3) := by decide +kernel
theorem dX8_forceBy_68 : decode cX8_forceBy 68 = .ok (.ifCond .eq 17, 3) := by decide +kernel
theorem dX8_forceBy_71 : decode cX8_forceBy 71 = .ok (.aload_n 0, 1) := by decide +kernel
theorem dX8_forceBy_72 : decode cX8_forceBy 72 = .ok (.iload 4, 2) := by decide +kernel
theorem dX8_forceBy_74 : decode cX8_forceBy 74 = .ok (.iload_n 2, 1) := by decide +kernel
theorem dX8_forceBy_75 : decode cX8_forceBy 75 = .ok (.invokevirtual 150, 3) := by decide +kernel
theorem dX8_forceBy_78 : decode cX8_forceBy 78 = .ok (.ifCond .eq 7, 3) := by decide +kernel
theorem dX8_forceBy_81 : decode cX8_forceBy 81 = .ok (.iconst 1, 1) := by decide +kernel
theorem dX8_forceBy_82 : decode cX8_forceBy 82 = .ok (.goto 4, 3) := by decide +kernel
theorem dX8_forceBy_85 : decode cX8_forceBy 85 = .ok (.iconst 0, 1) := by decide +kernel
theorem dX8_forceBy_86 : decode cX8_forceBy 86 = .ok (.istore 5, 2) := by decide +kernel
theorem dX8_forceBy_88 : decode cX8_forceBy 88 = .ok (.iload_n 2, 1) := by decide +kernel
theorem dX8_forceBy_89 : decode cX8_forceBy 89 = .ok (.iload 5, 2) := by decide +kernel
theorem dX8_forceBy_91 : decode cX8_forceBy 91 = .ok (.ifCond .eq 10, 3) := by decide +kernel
theorem dX8_forceBy_94 : decode cX8_forceBy 94 = .ok (.iconst 1, 1) := by decide +kernel
theorem dX8_forceBy_95 : decode cX8_forceBy 95 = .ok (.iload 4, 2) := by decide +kernel
theorem dX8_forceBy_97 : decode cX8_forceBy 97 = .ok (.ishl, 1) := by decide +kernel
theorem dX8_forceBy_98 : decode cX8_forceBy 98 = .ok (.goto 4, 3) := by decide +kernel
theorem dX8_forceBy_101 : decode cX8_forceBy 101 = .ok (.iconst 0, 1) := by decide +kernel
theorem dX8_forceBy_102 : decode cX8_forceBy 102 = .ok (.ior, 1) := by decide +kernel
theorem dX8_forceBy_103 : decode cX8_forceBy 103 = .ok (.istore_n 2, 1) := by decide +kernel
theorem dX8_forceBy_104 : decode cX8_forceBy 104 = .ok (.iinc 4 1, 3) := by decide +kernel
theorem dX8_forceBy_107 : decode cX8_forceBy 107 = .ok (.goto (-92), 3) := by decide +kernel
theorem dX8_forceBy_110 : decode cX8_forceBy 110 = .ok (.iinc 3 1, 3) := by decide +kernel
theorem dX8_forceBy_113 : decode cX8_forceBy 113 = .ok (.goto (-109), 3) := by decide +kernel
theorem dX8_forceBy_116 : decode cX8_forceBy 116 = .ok (.iload_n 2, 1) := by decide +kernel
theorem dX8_forceBy_117 : decode cX8_forceBy 117 = .ok (.ireturn, 1) := by decide +kernel
theorem dX8_now_0 : decode cX8_now 0 = .ok (.aload_n 0, 1) := by decide +kernel
theorem dX8_now_1 : decode cX8_now 1 = .ok (.aload_n 0, 1) := by decide +kernel
theorem dX8_now_2 : decode cX8_now 2 = .ok (.getfield 153, 3) := by decide +kernel
theorem dX8_now_5 : decode cX8_now 5 = .ok (.invokevirtual 156, 3) := by decide +kernel
theorem dX8_now_8 : decode cX8_now 8 = .ok (.ireturn, 1) := by decide +kernel
theorem dX8_forces_0 : decode cX8_forces 0 = .ok (.iconst 0, 1) := by decide +kernel
theorem dX8_forces_1 : decode cX8_forces 1 = .ok (.istore_n 1, 1) := by decide +kernel
theorem dX8_forces_2 : decode cX8_forces 2 = .ok (.iload_n 1, 1) := by decide +kernel
theorem dX8_forces_3 : decode cX8_forces 3 = .ok (.bipush 64, 2) := by decide +kernel
theorem dX8_forces_5 : decode cX8_forces 5 = .ok (.if_icmp .ge 20, 3) := by decide +kernel
theorem dX8_forces_8 : decode cX8_forces 8 = .ok (.aload_n 0, 1) := by decide +kernel
theorem dX8_forces_9 : decode cX8_forces 9 = .ok (.getfield 72, 3) := by decide +kernel
theorem dX8_forces_12 : decode cX8_forces 12 = .ok (.iload_n 1, 1) := by decide +kernel
theorem dX8_forces_13 : decode cX8_forces 13 = .ok (.aload_n 0, 1) := by decide +kernel
theorem dX8_forces_14 : decode cX8_forces 14 = .ok (.iload_n 1, 1) := by decide +kernel
theorem dX8_forces_15 : decode cX8_forces 15 = .ok (.invokevirtual 156, 3) := by decide +kernel
theorem dX8_forces_18 : decode cX8_forces 18 = .ok (.iastore, 1) := by decide +kernel
theorem dX8_forces_19 : decode cX8_forces 19 = .ok (.iinc 1 1, 3) := by decide +kernel
theorem dX8_forces_22 : decode cX8_forces 22 = .ok (.goto (-20), 3) := by decide +kernel
theorem dX8_forces_25 : decode cX8_forces 25 = .ok (.return_, 1) := by decide +kernel
theorem dX8_canBe_0 : decode cX8_canBe 0 = .ok (.iload_n 1, 1) := by decide +kernel
theorem dX8_canBe_1 : decode cX8_canBe 1 = .ok (.aload_n 0, 1) := by decide +kernel
theorem dX8_canBe_2 : decode cX8_canBe 2 = .ok (.getfield 159, 3) := by decide +kernel
theorem dX8_canBe_5 : decode cX8_canBe 5 = .ok (.iand, 1) := by decide +kernel
theorem dX8_canBe_6 : decode cX8_canBe 6 = .ok (.aload_n 0, 1) := by decide +kernel
theorem dX8_canBe_7 : decode cX8_canBe 7 = .ok (.getfield 153, 3) := by decide +kernel
theorem dX8_canBe_10 : decode cX8_canBe 10 = .ok (.if_icmp .ne 7, 3) := by decide +kernel
theorem dX8_canBe_13 : decode cX8_canBe 13 = .ok (.iconst 1, 1) := by decide +kernel
theorem dX8_canBe_14 : decode cX8_canBe 14 = .ok (.goto 4, 3) := by decide +kernel
theorem dX8_canBe_17 : decode cX8_canBe 17 = .ok (.iconst 0, 1) := by decide +kernel
theorem dX8_canBe_18 : decode cX8_canBe 18 = .ok (.ireturn, 1) := by decide +kernel
theorem dX8_often_0 : decode cX8_often 0 = .ok (.iconst 0, 1) := by decide +kernel
theorem dX8_often_1 : decode cX8_often 1 = .ok (.istore 5, 2) := by decide +kernel
theorem dX8_often_3 : decode cX8_often 3 = .ok (.iconst 0, 1) := by decide +kernel
theorem dX8_often_4 : decode cX8_often 4 = .ok (.istore 6, 2) := by decide +kernel
theorem dX8_often_6 : decode cX8_often 6 = .ok (.iload 6, 2) := by decide +kernel
theorem dX8_often_8 : decode cX8_often 8 = .ok (.iload 4, 2) := by decide +kernel
theorem dX8_often_10 : decode cX8_often 10 = .ok (.if_icmp .ge 55, 3) := by decide +kernel
theorem dX8_often_13 : decode cX8_often 13 = .ok (.iload 5, 2) := by decide +kernel
theorem dX8_often_15 : decode cX8_often 15 = .ok (.iload_n 1, 1) := by decide +kernel
theorem dX8_often_16 : decode cX8_often 16 = .ok (.aload_n 0, 1) := by decide +kernel
theorem dX8_often_17 : decode cX8_often 17 = .ok (.getfield 29, 3) := by decide +kernel
theorem dX8_often_20 : decode cX8_often 20 = .ok (.iload 6, 2) := by decide +kernel
theorem dX8_often_22 : decode cX8_often 22 = .ok (.iaload, 1) := by decide +kernel
theorem dX8_often_23 : decode cX8_often 23 = .ok (.invokestatic 118, 3) := by decide +kernel
theorem dX8_often_26 : decode cX8_often 26 = .ok (.ifCond .eq 29, 3) := by decide +kernel
theorem dX8_often_29 : decode cX8_often 29 = .ok (.aload_n 0, 1) := by decide +kernel
theorem dX8_often_30 : decode cX8_often 30 = .ok (.getfield 32, 3) := by decide +kernel
theorem dX8_often_33 : decode cX8_often 33 = .ok (.iload 6, 2) := by decide +kernel
theorem dX8_often_35 : decode cX8_often 35 = .ok (.iaload, 1) := by decide +kernel
theorem dX8_often_36 : decode cX8_often 36 = .ok (.iload_n 3, 1) := by decide +kernel
theorem dX8_often_37 : decode cX8_often 37 = .ok (.if_icmp .ne 18, 3) := by decide +kernel
theorem dX8_often_40 : decode cX8_often 40 = .ok (.aload_n 0, 1) := by decide +kernel
theorem dX8_often_41 : decode cX8_often 41 = .ok (.getfield 35, 3) := by decide +kernel
theorem dX8_often_44 : decode cX8_often 44 = .ok (.iload 6, 2) := by decide +kernel
theorem dX8_often_46 : decode cX8_often 46 = .ok (.iaload, 1) := by decide +kernel
theorem dX8_often_47 : decode cX8_often 47 = .ok (.iload_n 2, 1) := by decide +kernel
theorem dX8_often_48 : decode cX8_often 48 = .ok (.if_icmp .ne 7, 3) := by decide +kernel
theorem dX8_often_51 : decode cX8_often 51 = .ok (.iconst 1, 1) := by decide +kernel
theorem dX8_often_52 : decode cX8_often 52 = .ok (.goto 4, 3) := by decide +kernel
theorem dX8_often_55 : decode cX8_often 55 = .ok (.iconst 0, 1) := by decide +kernel
theorem dX8_often_56 : decode cX8_often 56 = .ok (.iadd, 1) := by decide +kernel
theorem dX8_often_57 : decode cX8_often 57 = .ok (.istore 5, 2) := by decide +kernel
theorem dX8_often_59 : decode cX8_often 59 = .ok (.iinc 6 1, 3) := by decide +kernel
theorem dX8_often_62 : decode cX8_often 62 = .ok (.goto (-56), 3) := by decide +kernel
theorem dX8_often_65 : decode cX8_often 65 = .ok (.iload 5, 2) := by decide +kernel
theorem dX8_often_67 : decode cX8_often 67 = .ok (.ireturn, 1) := by decide +kernel
theorem dX8_isWrong_0 : decode cX8_isWrong 0 = .ok (.iload_n 1, 1) := by decide +kernel
theorem dX8_isWrong_1 : decode cX8_isWrong 1 = .ok (.aload_n 0, 1) := by decide +kernel
theorem dX8_isWrong_2 : decode cX8_isWrong 2 = .ok (.getfield 29, 3) := by decide +kernel
theorem dX8_isWrong_5 : decode cX8_isWrong 5 = .ok (.iload_n 2, 1) := by decide +kernel
theorem dX8_isWrong_6 : decode cX8_isWrong 6 = .ok (.iaload, 1) := by decide +kernel
theorem dX8_isWrong_7 : decode cX8_isWrong 7 = .ok (.invokestatic 118, 3) := by decide +kernel
theorem dX8_isWrong_10 : decode cX8_isWrong 10 = .ok (.ifCond .ne 5, 3) := by decide +kernel
theorem dX8_isWrong_13 : decode cX8_isWrong 13 = .ok (.iconst 0, 1) := by decide +kernel
theorem dX8_isWrong_14 : decode cX8_isWrong 14 = .ok (.ireturn, 1) := by decide +kernel
theorem dX8_isWrong_15 : decode cX8_isWrong 15 = .ok (.iload_n 3, 1) := by decide +kernel
theorem dX8_isWrong_16 : decode cX8_isWrong 16 = .ok (.ifCond .ne 35, 3) := by decide +kernel
theorem dX8_isWrong_19 : decode cX8_isWrong 19 = .ok (.aload_n 0, 1) := by decide +kernel
theorem dX8_isWrong_20 : decode cX8_isWrong 20 = .ok (.getfield 32, 3) := by decide +kernel
theorem dX8_isWrong_23 : decode cX8_isWrong 23 = .ok (.iload_n 2, 1) := by decide +kernel
theorem dX8_isWrong_24 : decode cX8_isWrong 24 = .ok (.iaload, 1) := by decide +kernel
theorem dX8_isWrong_25 : decode cX8_isWrong 25 = .ok (.iconst 1, 1) := by decide +kernel
theorem dX8_isWrong_26 : decode cX8_isWrong 26 = .ok (.if_icmp .ne 23, 3) := by decide +kernel
theorem dX8_isWrong_29 : decode cX8_isWrong 29 = .ok (.aload_n 0, 1) := by decide +kernel
theorem dX8_isWrong_30 : decode cX8_isWrong 30 = .ok (.iload_n 1, 1) := by decide +kernel
theorem dX8_isWrong_31 : decode cX8_isWrong 31 = .ok (.aload_n 0, 1) := by decide +kernel
theorem dX8_isWrong_32 : decode cX8_isWrong 32 = .ok (.getfield 35, 3) := by decide +kernel
theorem dX8_isWrong_35 : decode cX8_isWrong 35 = .ok (.iload_n 2, 1) := by decide +kernel
theorem dX8_isWrong_36 : decode cX8_isWrong 36 = .ok (.iaload, 1) := by decide +kernel
theorem dX8_isWrong_37 : decode cX8_isWrong 37 = .ok (.iconst 0, 1) := by decide +kernel
theorem dX8_isWrong_38 : decode cX8_isWrong 38 = .ok (.iload_n 2, 1) := by decide +kernel
theorem dX8_isWrong_39 : decode cX8_isWrong 39 = .ok (.invokevirtual 162, 3) := by decide +kernel
theorem dX8_isWrong_42 : decode cX8_isWrong 42 = .ok (.ifCond .ne 7, 3) := by decide +kernel
theorem dX8_isWrong_45 : decode cX8_isWrong 45 = .ok (.iconst 1, 1) := by decide +kernel
theorem dX8_isWrong_46 : decode cX8_isWrong 46 = .ok (.goto 4, 3) := by decide +kernel
theorem dX8_isWrong_49 : decode cX8_isWrong 49 = .ok (.iconst 0, 1) := by decide +kernel
theorem dX8_isWrong_50 : decode cX8_isWrong 50 = .ok (.ireturn, 1) := by decide +kernel
theorem dX8_isWrong_51 : decode cX8_isWrong 51 = .ok (.iload_n 3, 1) := by decide +kernel
theorem dX8_isWrong_52 : decode cX8_isWrong 52 = .ok (.iconst 1, 1) := by decide +kernel
theorem dX8_isWrong_53 : decode cX8_isWrong 53 = .ok (.if_icmp .ne 34, 3) := by decide +kernel
theorem dX8_isWrong_56 : decode cX8_isWrong 56 = .ok (.aload_n 0, 1) := by decide +kernel
theorem dX8_isWrong_57 : decode cX8_isWrong 57 = .ok (.getfield 32, 3) := by decide +kernel
theorem dX8_isWrong_60 : decode cX8_isWrong 60 = .ok (.iload_n 2, 1) := by decide +kernel
theorem dX8_isWrong_61 : decode cX8_isWrong 61 = .ok (.iaload, 1) := by decide +kernel
theorem dX8_isWrong_62 : decode cX8_isWrong 62 = .ok (.ifCond .ne 23, 3) := by decide +kernel
theorem dX8_isWrong_65 : decode cX8_isWrong 65 = .ok (.aload_n 0, 1) := by decide +kernel
theorem dX8_isWrong_66 : decode cX8_isWrong 66 = .ok (.iload_n 1, 1) := by decide +kernel
theorem dX8_isWrong_67 : decode cX8_isWrong 67 = .ok (.aload_n 0, 1) := by decide +kernel
theorem dX8_isWrong_68 : decode cX8_isWrong 68 = .ok (.getfield 35, 3) := by decide +kernel
theorem dX8_isWrong_71 : decode cX8_isWrong 71 = .ok (.iload_n 2, 1) := by decide +kernel
theorem dX8_isWrong_72 : decode cX8_isWrong 72 = .ok (.iaload, 1) := by decide +kernel
theorem dX8_isWrong_73 : decode cX8_isWrong 73 = .ok (.iconst 0, 1) := by decide +kernel
theorem dX8_isWrong_74 : decode cX8_isWrong 74 = .ok (.iload_n 2, 1) := by decide +kernel
theorem dX8_isWrong_75 : decode cX8_isWrong 75 = .ok (.invokevirtual 162, 3) := by decide +kernel
theorem dX8_isWrong_78 : decode cX8_isWrong 78 = .ok (.ifCond .le 7, 3) := by decide +kernel
theorem dX8_isWrong_81 : decode cX8_isWrong 81 = .ok (.iconst 1, 1) := by decide +kernel
theorem dX8_isWrong_82 : decode cX8_isWrong 82 = .ok (.goto 4, 3) := by decide +kernel
theorem dX8_isWrong_85 : decode cX8_isWrong 85 = .ok (.iconst 0, 1) := by decide +kernel
theorem dX8_isWrong_86 : decode cX8_isWrong 86 = .ok (.ireturn, 1) := by decide +kernel
theorem dX8_isWrong_87 : decode cX8_isWrong 87 = .ok (.aload_n 0, 1) := by decide +kernel
theorem dX8_isWrong_88 : decode cX8_isWrong 88 = .ok (.getfield 32, 3) := by decide +kernel
theorem dX8_isWrong_91 : decode cX8_isWrong 91 = .ok (.iload_n 2, 1) := by decide +kernel
theorem dX8_isWrong_92 : decode cX8_isWrong 92 = .ok (.iaload, 1) := by decide +kernel
theorem dX8_isWrong_93 : decode cX8_isWrong 93 = .ok (.iconst 2, 1) := by decide +kernel
theorem dX8_isWrong_94 : decode cX8_isWrong 94 = .ok (.if_icmp .ne 20, 3) := by decide +kernel
theorem dX8_isWrong_97 : decode cX8_isWrong 97 = .ok (.iload_n 1, 1) := by decide +kernel
theorem dX8_isWrong_98 : decode cX8_isWrong 98 = .ok (.aload_n 0, 1) := by decide +kernel
theorem dX8_isWrong_99 : decode cX8_isWrong 99 = .ok (.getfield 35, 3) := by decide +kernel
theorem dX8_isWrong_102 : decode cX8_isWrong 102 = .ok (.iload_n 2, 1) := by decide +kernel
theorem dX8_isWrong_103 : decode cX8_isWrong 103 = .ok (.iaload, 1) := by decide +kernel
theorem dX8_isWrong_104 : decode cX8_isWrong 104 = .ok (.invokestatic 118, 3) := by decide +kernel
theorem dX8_isWrong_107 : decode cX8_isWrong 107 = .ok (.ifCond .ne 7, 3) := by decide +kernel
theorem dX8_isWrong_110 : decode cX8_isWrong 110 = .ok (.iconst 1, 1) := by decide +kernel
theorem dX8_isWrong_111 : decode cX8_isWrong 111 = .ok (.goto 4, 3) := by decide +kernel
theorem dX8_isWrong_114 : decode cX8_isWrong 114 = .ok (.iconst 0, 1) := by decide +kernel
theorem dX8_isWrong_115 : decode cX8_isWrong 115 = .ok (.ireturn, 1) := by decide +kernel
theorem dX8_hangsOn_0 : decode cX8_hangsOn 0 = .ok (.iconst 0, 1) := by decide +kernel
theorem dX8_hangsOn_1 : decode cX8_hangsOn 1 = .ok (.istore_n 3, 1) := by decide +kernel
theorem dX8_hangsOn_2 : decode cX8_hangsOn 2 = .ok (.iconst 0, 1) := by decide +kernel
theorem dX8_hangsOn_3 : decode cX8_hangsOn 3 = .ok (.istore 4, 2) := by decide +kernel
theorem dX8_hangsOn_5 : decode cX8_hangsOn 5 = .ok (.iload 4, 2) := by decide +kernel
theorem dX8_hangsOn_7 : decode cX8_hangsOn 7 = .ok (.aload_n 0, 1) := by decide +kernel
theorem dX8_hangsOn_8 : decode cX8_hangsOn 8 = .ok (.getfield 138, 3) := by decide +kernel
theorem dX8_hangsOn_11 : decode cX8_hangsOn 11 = .ok (.if_icmp .ge 118, 3) := by decide +kernel
theorem dX8_hangsOn_14 : decode cX8_hangsOn 14 = .ok (.iconst 0, 1) := by decide +kernel
theorem dX8_hangsOn_15 : decode cX8_hangsOn 15 = .ok (.istore 5, 2) := by decide +kernel
theorem dX8_hangsOn_17 : decode cX8_hangsOn 17 = .ok (.iload 5, 2) := by decide +kernel
theorem dX8_hangsOn_19 : decode cX8_hangsOn 19 = .ok (.aload_n 0, 1) := by decide +kernel
theorem dX8_hangsOn_20 : decode cX8_hangsOn 20 = .ok (.getfield 138, 3) := by decide +kernel
theorem dX8_hangsOn_23 : decode cX8_hangsOn 23 = .ok (.if_icmp .ge 100, 3) := by decide +kernel
theorem dX8_hangsOn_26 : decode cX8_hangsOn 26 = .ok (.iload_n 1, 1) := by decide +kernel
theorem dX8_hangsOn_27 : decode cX8_hangsOn 27 = .ok (.aload_n 0, 1) := by decide +kernel
theorem dX8_hangsOn_28 : decode cX8_hangsOn 28 = .ok (.getfield 29, 3) := by decide +kernel
theorem dX8_hangsOn_31 : decode cX8_hangsOn 31 = .ok (.iload 4, 2) := by decide +kernel
theorem dX8_hangsOn_33 : decode cX8_hangsOn 33 = .ok (.iaload, 1) := by decide +kernel
theorem dX8_hangsOn_34 : decode cX8_hangsOn 34 = .ok (.invokestatic 118, 3) := by decide +kernel
theorem dX8_hangsOn_37 : decode cX8_hangsOn 37 = .ok (.ifCond .eq 56, 3) := by decide +kernel
theorem dX8_hangsOn_40 : decode cX8_hangsOn 40 = .ok (.aload_n 0, 1) := by decide +kernel
theorem dX8_hangsOn_41 : decode cX8_hangsOn 41 = .ok (.getfield 32, 3) := by decide +kernel
theorem dX8_hangsOn_44 : decode cX8_hangsOn 44 = .ok (.iload 4, 2) := by decide +kernel
theorem dX8_hangsOn_46 : decode cX8_hangsOn 46 = .ok (.iaload, 1) := by decide +kernel
theorem dX8_hangsOn_47 : decode cX8_hangsOn 47 = .ok (.ifCond .ne 46, 3) := by decide +kernel
theorem dX8_hangsOn_50 : decode cX8_hangsOn 50 = .ok (.aload_n 0, 1) := by decide +kernel
theorem dX8_hangsOn_51 : decode cX8_hangsOn 51 = .ok (.getfield 35, 3) := by decide +kernel
theorem dX8_hangsOn_54 : decode cX8_hangsOn 54 = .ok (.iload 4, 2) := by decide +kernel
theorem dX8_hangsOn_56 : decode cX8_hangsOn 56 = .ok (.iaload, 1) := by decide +kernel
theorem dX8_hangsOn_57 : decode cX8_hangsOn 57 = .ok (.iload_n 2, 1) := by decide +kernel
theorem dX8_hangsOn_58 : decode cX8_hangsOn 58 = .ok (.if_icmp .ne 35, 3) := by decide +kernel
theorem dX8_hangsOn_61 : decode cX8_hangsOn 61 = .ok (.aload_n 0, 1) := by decide +kernel
theorem dX8_hangsOn_62 : decode cX8_hangsOn 62 = .ok (.getfield 29, 3) := by decide +kernel
theorem dX8_hangsOn_65 : decode cX8_hangsOn 65 = .ok (.iload 5, 2) := by decide +kernel
theorem dX8_hangsOn_67 : decode cX8_hangsOn 67 = .ok (.iaload, 1) := by decide +kernel
theorem dX8_hangsOn_68 : decode cX8_hangsOn 68 = .ok (.aload_n 0, 1) := by decide +kernel
theorem dX8_hangsOn_69 : decode cX8_hangsOn 69 = .ok (.getfield 29, 3) := by decide +kernel
theorem dX8_hangsOn_72 : decode cX8_hangsOn 72 = .ok (.iload 4, 2) := by decide +kernel
theorem dX8_hangsOn_74 : decode cX8_hangsOn 74 = .ok (.iaload, 1) := by decide +kernel
theorem dX8_hangsOn_75 : decode cX8_hangsOn 75 = .ok (.if_icmp .ne 18, 3) := by decide +kernel
theorem dX8_hangsOn_78 : decode cX8_hangsOn 78 = .ok (.aload_n 0, 1) := by decide +kernel
theorem dX8_hangsOn_79 : decode cX8_hangsOn 79 = .ok (.getfield 32, 3) := by decide +kernel
theorem dX8_hangsOn_82 : decode cX8_hangsOn 82 = .ok (.iload 5, 2) := by decide +kernel
theorem dX8_hangsOn_84 : decode cX8_hangsOn 84 = .ok (.iaload, 1) := by decide +kernel
theorem dX8_hangsOn_85 : decode cX8_hangsOn 85 = .ok (.iconst 1, 1) := by decide +kernel
theorem dX8_hangsOn_86 : decode cX8_hangsOn 86 = .ok (.if_icmp .ne 7, 3) := by decide +kernel
theorem dX8_hangsOn_89 : decode cX8_hangsOn 89 = .ok (.iconst 1, 1) := by decide +kernel
theorem dX8_hangsOn_90 : decode cX8_hangsOn 90 = .ok (.goto 4, 3) := by decide +kernel
theorem dX8_hangsOn_93 : decode cX8_hangsOn 93 = .ok (.iconst 0, 1) := by decide +kernel
theorem dX8_hangsOn_94 : decode cX8_hangsOn 94 = .ok (.istore 6, 2) := by decide +kernel
theorem dX8_hangsOn_96 : decode cX8_hangsOn 96 = .ok (.iload_n 3, 1) := by decide +kernel
theorem dX8_hangsOn_97 : decode cX8_hangsOn 97 = .ok (.iload 6, 2) := by decide +kernel
theorem dX8_hangsOn_99 : decode cX8_hangsOn 99 = .ok (.ifCond .eq 15, 3) := by decide +kernel
theorem dX8_hangsOn_102 : decode cX8_hangsOn 102 = .ok (.iconst 1, 1) := by decide +kernel
theorem dX8_hangsOn_103 : decode cX8_hangsOn 103 = .ok (.aload_n 0, 1) := by decide +kernel
theorem dX8_hangsOn_104 : decode cX8_hangsOn 104 = .ok (.getfield 35, 3) := by decide +kernel
theorem dX8_hangsOn_107 : decode cX8_hangsOn 107 = .ok (.iload 5, 2) := by decide +kernel
theorem dX8_hangsOn_109 : decode cX8_hangsOn 109 = .ok (.iaload, 1) := by decide +kernel
theorem dX8_hangsOn_110 : decode cX8_hangsOn 110 = .ok (.ishl, 1) := by decide +kernel
theorem dX8_hangsOn_111 : decode cX8_hangsOn 111 = .ok (.goto 4, 3) := by decide +kernel
theorem dX8_hangsOn_114 : decode cX8_hangsOn 114 = .ok (.iconst 0, 1) := by decide +kernel
theorem dX8_hangsOn_115 : decode cX8_hangsOn 115 = .ok (.ior, 1) := by decide +kernel
theorem dX8_hangsOn_116 : decode cX8_hangsOn 116 = .ok (.istore_n 3, 1) := by decide +kernel
theorem dX8_hangsOn_117 : decode cX8_hangsOn 117 = .ok (.iinc 5 1, 3) := by decide +kernel
theorem dX8_hangsOn_120 : decode cX8_hangsOn 120 = .ok (.goto (-103), 3) := by decide +kernel
theorem dX8_hangsOn_123 : decode cX8_hangsOn 123 = .ok (.iinc 4 1, 3) := by decide +kernel
theorem dX8_hangsOn_126 : decode cX8_hangsOn 126 = .ok (.goto (-121), 3) := by decide +kernel
theorem dX8_hangsOn_129 : decode cX8_hangsOn 129 = .ok (.iload_n 3, 1) := by decide +kernel
theorem dX8_hangsOn_130 : decode cX8_hangsOn 130 = .ok (.ireturn, 1) := by decide +kernel
theorem dX8_roundOf_0 : decode cX8_roundOf 0 = .ok (.iconst 0, 1) := by decide +kernel
theorem dX8_roundOf_1 : decode cX8_roundOf 1 = .ok (.istore_n 2, 1) := by decide +kernel
theorem dX8_roundOf_2 : decode cX8_roundOf 2 = .ok (.iconst 0, 1) := by decide +kernel
theorem dX8_roundOf_3 : decode cX8_roundOf 3 = .ok (.istore_n 3, 1) := by decide +kernel
theorem dX8_roundOf_4 : decode cX8_roundOf 4 = .ok (.iload_n 3, 1) := by decide +kernel
theorem dX8_roundOf_5 : decode cX8_roundOf 5 = .ok (.bipush 8, 2) := by decide +kernel
theorem dX8_roundOf_7 : decode cX8_roundOf 7 = .ok (.if_icmp .ge 21, 3) := by decide +kernel
theorem dX8_roundOf_10 : decode cX8_roundOf 10 = .ok (.aload_n 0, 1) := by decide +kernel
theorem dX8_roundOf_11 : decode cX8_roundOf 11 = .ok (.getfield 75, 3) := by decide +kernel
theorem dX8_roundOf_14 : decode cX8_roundOf 14 = .ok (.iload_n 3, 1) := by decide +kernel
theorem dX8_roundOf_15 : decode cX8_roundOf 15 = .ok (.aload_n 0, 1) := by decide +kernel
theorem dX8_roundOf_16 : decode cX8_roundOf 16 = .ok (.iload_n 1, 1) := by decide +kernel
theorem dX8_roundOf_17 : decode cX8_roundOf 17 = .ok (.iload_n 3, 1) := by decide +kernel
theorem dX8_roundOf_18 : decode cX8_roundOf 18 = .ok (.invokevirtual 166, 3) := by decide +kernel
theorem dX8_roundOf_21 : decode cX8_roundOf 21 = .ok (.iastore, 1) := by decide +kernel
theorem dX8_roundOf_22 : decode cX8_roundOf 22 = .ok (.iinc 3 1, 3) := by decide +kernel
theorem dX8_roundOf_25 : decode cX8_roundOf 25 = .ok (.goto (-21), 3) := by decide +kernel
theorem dX8_roundOf_28 : decode cX8_roundOf 28 = .ok (.iconst 0, 1) := by decide +kernel
theorem dX8_roundOf_29 : decode cX8_roundOf 29 = .ok (.istore_n 3, 1) := by decide +kernel
theorem dX8_roundOf_30 : decode cX8_roundOf 30 = .ok (.iload_n 3, 1) := by decide +kernel
theorem dX8_roundOf_31 : decode cX8_roundOf 31 = .ok (.bipush 8, 2) := by decide +kernel
theorem dX8_roundOf_33 : decode cX8_roundOf 33 = .ok (.if_icmp .ge 94, 3) := by decide +kernel
theorem dX8_roundOf_36 : decode cX8_roundOf 36 = .ok (.aload_n 0, 1) := by decide +kernel
theorem dX8_roundOf_37 : decode cX8_roundOf 37 = .ok (.getfield 75, 3) := by decide +kernel
theorem dX8_roundOf_40 : decode cX8_roundOf 40 = .ok (.iload_n 3, 1) := by decide +kernel
theorem dX8_roundOf_41 : decode cX8_roundOf 41 = .ok (.iaload, 1) := by decide +kernel
theorem dX8_roundOf_42 : decode cX8_roundOf 42 = .ok (.istore 4, 2) := by decide +kernel
theorem dX8_roundOf_44 : decode cX8_roundOf 44 = .ok (.iconst 0, 1) := by decide +kernel
theorem dX8_roundOf_45 : decode cX8_roundOf 45 = .ok (.istore 5, 2) := by decide +kernel
theorem dX8_roundOf_47 : decode cX8_roundOf 47 = .ok (.iload 5, 2) := by decide +kernel
theorem dX8_roundOf_49 : decode cX8_roundOf 49 = .ok (.bipush 8, 2) := by decide +kernel
theorem dX8_roundOf_51 : decode cX8_roundOf 51 = .ok (.if_icmp .ge 51, 3) := by decide +kernel
theorem dX8_roundOf_54 : decode cX8_roundOf 54 = .ok (.iconst 0, 1) := by decide +kernel
theorem dX8_roundOf_55 : decode cX8_roundOf 55 = .ok (.istore 6, 2) := by decide +kernel
theorem dX8_roundOf_57 : decode cX8_roundOf 57 = .ok (.iload 6, 2) := by decide +kernel
theorem dX8_roundOf_59 : decode cX8_roundOf 59 = .ok (.bipush 8, 2) := by decide +kernel
theorem dX8_roundOf_61 : decode cX8_roundOf 61 = .ok (.if_icmp .ge 35, 3) := by decide +kernel
theorem dX8_roundOf_64 : decode cX8_roundOf 64 = .ok (.iload 4, 2) := by decide +kernel
theorem dX8_roundOf_66 : decode cX8_roundOf 66 = .ok (.iload 4, 2) := by decide +kernel
theorem dX8_roundOf_68 : decode cX8_roundOf 68 = .ok (.iload 6, 2) := by decide +kernel
theorem dX8_roundOf_70 : decode cX8_roundOf 70 = .ok (.invokestatic 118, 3) := by decide +kernel
theorem dX8_roundOf_73 : decode cX8_roundOf 73 = .ok (.ifCond .eq 13, 3) := by decide +kernel
theorem dX8_roundOf_76 : decode cX8_roundOf 76 = .ok (.aload_n 0, 1) := by decide +kernel
theorem dX8_roundOf_77 : decode cX8_roundOf 77 = .ok (.getfield 75, 3) := by decide +kernel
theorem dX8_roundOf_80 : decode cX8_roundOf 80 = .ok (.iload 6, 2) := by decide +kernel
theorem dX8_roundOf_82 : decode cX8_roundOf 82 = .ok (.iaload, 1) := by decide +kernel
theorem dX8_roundOf_83 : decode cX8_roundOf 83 = .ok (.goto 4, 3) := by decide +kernel
theorem dX8_roundOf_86 : decode cX8_roundOf 86 = .ok (.iconst 0, 1) := by decide +kernel
theorem dX8_roundOf_87 : decode cX8_roundOf 87 = .ok (.ior, 1) := by decide +kernel
theorem dX8_roundOf_88 : decode cX8_roundOf 88 = .ok (.istore 4, 2) := by decide +kernel
theorem dX8_roundOf_90 : decode cX8_roundOf 90 = .ok (.iinc 6 1, 3) := by decide +kernel
theorem dX8_roundOf_93 : decode cX8_roundOf 93 = .ok (.goto (-36), 3) := by decide +kernel
theorem dX8_roundOf_96 : decode cX8_roundOf 96 = .ok (.iinc 5 1, 3) := by decide +kernel
theorem dX8_roundOf_99 : decode cX8_roundOf 99 = .ok (.goto (-52), 3) := by decide +kernel
theorem dX8_roundOf_102 : decode cX8_roundOf 102 = .ok (.iload_n 2, 1) := by decide +kernel
theorem dX8_roundOf_103 : decode cX8_roundOf 103 = .ok (.iload 4, 2) := by decide +kernel
theorem dX8_roundOf_105 : decode cX8_roundOf 105 = .ok (.iload_n 3, 1) := by decide +kernel
theorem dX8_roundOf_106 : decode cX8_roundOf 106 = .ok (.invokestatic 118, 3) := by decide +kernel
theorem dX8_roundOf_109 : decode cX8_roundOf 109 = .ok (.ifCond .eq 9, 3) := by decide +kernel
theorem dX8_roundOf_112 : decode cX8_roundOf 112 = .ok (.iconst 1, 1) := by decide +kernel
theorem dX8_roundOf_113 : decode cX8_roundOf 113 = .ok (.iload_n 3, 1) := by decide +kernel
theorem dX8_roundOf_114 : decode cX8_roundOf 114 = .ok (.ishl, 1) := by decide +kernel
theorem dX8_roundOf_115 : decode cX8_roundOf 115 = .ok (.goto 4, 3) := by decide +kernel
theorem dX8_roundOf_118 : decode cX8_roundOf 118 = .ok (.iconst 0, 1) := by decide +kernel
theorem dX8_roundOf_119 : decode cX8_roundOf 119 = .ok (.ior, 1) := by decide +kernel
theorem dX8_roundOf_120 : decode cX8_roundOf 120 = .ok (.istore_n 2, 1) := by decide +kernel
theorem dX8_roundOf_121 : decode cX8_roundOf 121 = .ok (.iinc 3 1, 3) := by decide +kernel
theorem dX8_roundOf_124 : decode cX8_roundOf 124 = .ok (.goto (-94), 3) := by decide +kernel
theorem dX8_roundOf_127 : decode cX8_roundOf 127 = .ok (.iload_n 2, 1) := by decide +kernel
theorem dX8_roundOf_128 : decode cX8_roundOf 128 = .ok (.ireturn, 1) := by decide +kernel
theorem dX8_count_0 : decode cX8_count 0 = .ok (.iconst 0, 1) := by decide +kernel
theorem dX8_count_1 : decode cX8_count 1 = .ok (.istore_n 3, 1) := by decide +kernel
theorem dX8_count_2 : decode cX8_count 2 = .ok (.iconst 0, 1) := by decide +kernel
theorem dX8_count_3 : decode cX8_count 3 = .ok (.istore 4, 2) := by decide +kernel
theorem dX8_count_5 : decode cX8_count 5 = .ok (.iload 4, 2) := by decide +kernel
theorem dX8_count_7 : decode cX8_count 7 = .ok (.aload_n 0, 1) := by decide +kernel
theorem dX8_count_8 : decode cX8_count 8 = .ok (.getfield 138, 3) := by decide +kernel
theorem dX8_count_11 : decode cX8_count 11 = .ok (.if_icmp .ge 28, 3) := by decide +kernel
theorem dX8_count_14 : decode cX8_count 14 = .ok (.iload_n 3, 1) := by decide +kernel
theorem dX8_count_15 : decode cX8_count 15 = .ok (.aload_n 0, 1) := by decide +kernel
theorem dX8_count_16 : decode cX8_count 16 = .ok (.iload_n 1, 1) := by decide +kernel
theorem dX8_count_17 : decode cX8_count 17 = .ok (.iload 4, 2) := by decide +kernel
theorem dX8_count_19 : decode cX8_count 19 = .ok (.iload_n 2, 1) := by decide +kernel
theorem dX8_count_20 : decode cX8_count 20 = .ok (.invokevirtual 170, 3) := by decide +kernel
theorem dX8_count_23 : decode cX8_count 23 = .ok (.ifCond .eq 7, 3) := by decide +kernel
theorem dX8_count_26 : decode cX8_count 26 = .ok (.iconst 1, 1) := by decide +kernel
theorem dX8_count_27 : decode cX8_count 27 = .ok (.goto 4, 3) := by decide +kernel
theorem dX8_count_30 : decode cX8_count 30 = .ok (.iconst 0, 1) := by decide +kernel
theorem dX8_count_31 : decode cX8_count 31 = .ok (.iadd, 1) := by decide +kernel
theorem dX8_count_32 : decode cX8_count 32 = .ok (.istore_n 3, 1) := by decide +kernel
theorem dX8_count_33 : decode cX8_count 33 = .ok (.iinc 4 1, 3) := by decide +kernel
theorem dX8_count_36 : decode cX8_count 36 = .ok (.goto (-31), 3) := by decide +kernel
theorem dX8_count_39 : decode cX8_count 39 = .ok (.iload_n 3, 1) := by decide +kernel
theorem dX8_count_40 : decode cX8_count 40 = .ok (.ireturn, 1) := by decide +kernel
theorem dX8_wrongBy_0 : decode cX8_wrongBy 0 = .ok (.aload_n 0, 1) := by decide +kernel
theorem dX8_wrongBy_1 : decode cX8_wrongBy 1 = .ok (.iload_n 1, 1) := by decide +kernel
theorem dX8_wrongBy_2 : decode cX8_wrongBy 2 = .ok (.iconst 0, 1) := by decide +kernel
theorem dX8_wrongBy_3 : decode cX8_wrongBy 3 = .ok (.invokevirtual 173, 3) := by decide +kernel
theorem dX8_wrongBy_6 : decode cX8_wrongBy 6 = .ok (.aload_n 0, 1) := by decide +kernel
theorem dX8_wrongBy_7 : decode cX8_wrongBy 7 = .ok (.iload_n 1, 1) := by decide +kernel
theorem dX8_wrongBy_8 : decode cX8_wrongBy 8 = .ok (.iconst 1, 1) := by decide +kernel
theorem dX8_wrongBy_9 : decode cX8_wrongBy 9 = .ok (.invokevirtual 173, 3) := by decide +kernel
theorem dX8_wrongBy_12 : decode cX8_wrongBy 12 = .ok (.iadd, 1) := by decide +kernel
theorem dX8_wrongBy_13 : decode cX8_wrongBy 13 = .ok (.aload_n 0, 1) := by decide +kernel
theorem dX8_wrongBy_14 : decode cX8_wrongBy 14 = .ok (.iload_n 1, 1) := by decide +kernel
theorem dX8_wrongBy_15 : decode cX8_wrongBy 15 = .ok (.iconst 3, 1) := by decide +kernel
theorem dX8_wrongBy_16 : decode cX8_wrongBy 16 = .ok (.invokevirtual 173, 3) := by decide +kernel
theorem dX8_wrongBy_19 : decode cX8_wrongBy 19 = .ok (.iadd, 1) := by decide +kernel
theorem dX8_wrongBy_20 : decode cX8_wrongBy 20 = .ok (.aload_n 0, 1) := by decide +kernel
theorem dX8_wrongBy_21 : decode cX8_wrongBy 21 = .ok (.iload_n 1, 1) := by decide +kernel
theorem dX8_wrongBy_22 : decode cX8_wrongBy 22 = .ok (.invokevirtual 176, 3) := by decide +kernel
theorem dX8_wrongBy_25 : decode cX8_wrongBy 25 = .ok (.invokestatic 179, 3) := by decide +kernel
theorem dX8_wrongBy_28 : decode cX8_wrongBy 28 = .ok (.iadd, 1) := by decide +kernel
theorem dX8_wrongBy_29 : decode cX8_wrongBy 29 = .ok (.ireturn, 1) := by decide +kernel
def FX8_forceBy_J86 (σ : SS) (rec : Int32 → Int32 → Option (Int32)) (v1 : Int32) (v2 : Int32) (v3 : Int32) (v4 : Int32) (s0 : Int32) : Option (Int32) :=
  if s0 = 0 then rec (v2 ||| (0 : Int32)) (v4 + (1 : Int32))
    else rec (v2 ||| (jshl (1 : Int32) v4)) (v4 + (1 : Int32))
set_option maxRecDepth 100000 in
set_option maxHeartbeats 4000000 in
theorem PX8_forceBy_J86 {X : Bx} {g : Gx} {r : Int32} {σ : SS} (hX : Okw wsM X g cX8_forceBy 6 RX8 (some .int) ({ frames := 2, cells := 0, slots := 0, locals := 45 } : Room) (fun g => some (.int r)) σ) {rec : Int32 → Int32 → Option (Int32)} {v1 : Int32} {v2 : Int32} {v3 : Int32} {v4 : Int32} {s0 : Int32} (hrec : ∀ (w2 : Int32) (w4 : Int32), rec w2 w4 = some r → Vx X g.1 6 (wsM g σ) 15 [(0, .ref (g.2.1 0)), (1, .int v1), (2, .int w2), (3, .int v3), (4, .int w4)] []) (hf : FX8_forceBy_J86 σ rec v1 v2 v3 v4 s0 = some r) : Vx X g.1 6 (wsM g σ) 86 [(0, .ref (g.2.1 0)), (1, .int v1), (2, .int v2), (3, .int v3), (4, .int v4)] [.int s0] := by
  have h0 := hX.1
  rw [FX8_forceBy_J86] at hf
  refine vx_istore (ls' := [(5, .int s0), (0, .ref (g.2.1 0)), (1, .int v1), (2, .int v2), (3, .int v3), (4, .int v4)]) h0 dX8_forceBy_86 (by decide) rfl ?_
  refine vx_iload_n h0 dX8_forceBy_88 rfl ?_
  refine vx_iload h0 dX8_forceBy_89 rfl ?_
  refine vx_if_eq (tgt := 101) h0 dX8_forceBy_91 (by decide) (fun c6 => ?_) (fun c6 => ?_)
  · replace hf := (if_pos c6).symm.trans hf
    refine vx_iconst (v := (0 : Int32)) h0 dX8_forceBy_101 (by decide) ?_
    refine vx_ior h0 dX8_forceBy_102 ?_
    refine vx_istore_n (ls' := [(2, .int (v2 ||| (0 : Int32))), (5, .int s0), (0, .ref (g.2.1 0)), (1, .int v1), (3, .int v3), (4, .int v4)]) h0 dX8_forceBy_103 (by decide) rfl ?_
    refine vx_iinc (q := 5) (v := (v4 + (1 : Int32))) (ls' := [(4, .int (v4 + (1 : Int32))), (2, .int (v2 ||| (0 : Int32))), (5, .int s0), (0, .ref (g.2.1 0)), (1, .int v1), (3, .int v3)]) h0 dX8_forceBy_104 rfl rfl (by decide) rfl ?_
    refine vx_goto (tgt := 15) h0 dX8_forceBy_107 (by decide) ?_
    refine vx_sub [3, 4, 1, 5, 0] rfl ?_
    exact hrec _ _ hf
  · replace hf := (if_neg c6).symm.trans hf
    refine vx_iconst (v := (1 : Int32)) h0 dX8_forceBy_94 (by decide) ?_
    refine vx_iload h0 dX8_forceBy_95 rfl ?_
    refine vx_ishl h0 dX8_forceBy_97 ?_
    refine vx_goto (tgt := 102) h0 dX8_forceBy_98 (by decide) ?_
    refine vx_ior h0 dX8_forceBy_102 ?_
    refine vx_istore_n (ls' := [(2, .int (v2 ||| (jshl (1 : Int32) v4))), (5, .int s0), (0, .ref (g.2.1 0)), (1, .int v1), (3, .int v3), (4, .int v4)]) h0 dX8_forceBy_103 (by decide) rfl ?_
    refine vx_iinc (q := 5) (v := (v4 + (1 : Int32))) (ls' := [(4, .int (v4 + (1 : Int32))), (2, .int (v2 ||| (jshl (1 : Int32) v4))), (5, .int s0), (0, .ref (g.2.1 0)), (1, .int v1), (3, .int v3)]) h0 dX8_forceBy_104 rfl rfl (by decide) rfl ?_
    refine vx_goto (tgt := 15) h0 dX8_forceBy_107 (by decide) ?_
    refine vx_sub [3, 4, 1, 5, 0] rfl ?_
    exact hrec _ _ hf
def FX8_forceBy_J85 (σ : SS) (rec : Int32 → Int32 → Option (Int32)) (v1 : Int32) (v2 : Int32) (v3 : Int32) (v4 : Int32) : Option (Int32) :=
  FX8_forceBy_J86 σ (fun a7 a8 => rec a7 a8) v1 v2 v3 v4 (0 : Int32)
set_option maxRecDepth 100000 in
set_option maxHeartbeats 4000000 in
theorem PX8_forceBy_J85 {X : Bx} {g : Gx} {r : Int32} {σ : SS} (hX : Okw wsM X g cX8_forceBy 6 RX8 (some .int) ({ frames := 2, cells := 0, slots := 0, locals := 45 } : Room) (fun g => some (.int r)) σ) {rec : Int32 → Int32 → Option (Int32)} {v1 : Int32} {v2 : Int32} {v3 : Int32} {v4 : Int32} (hrec : ∀ (w2 : Int32) (w4 : Int32), rec w2 w4 = some r → Vx X g.1 6 (wsM g σ) 15 [(0, .ref (g.2.1 0)), (1, .int v1), (2, .int w2), (3, .int v3), (4, .int w4)] []) (hf : FX8_forceBy_J85 σ rec v1 v2 v3 v4 = some r) : Vx X g.1 6 (wsM g σ) 85 [(0, .ref (g.2.1 0)), (1, .int v1), (2, .int v2), (3, .int v3), (4, .int v4)] [] := by
  have h0 := hX.1
  rw [FX8_forceBy_J85] at hf
  refine vx_iconst (v := (0 : Int32)) h0 dX8_forceBy_85 (by decide) ?_
  exact PX8_forceBy_J86 hX (fun a7 a8 hf => hrec a7 a8 hf) hf
def FX8_forceBy_J71 (σ : SS) (rec : Int32 → Int32 → Option (Int32)) (v1 : Int32) (v2 : Int32) (v3 : Int32) (v4 : Int32) : Option (Int32) :=
  ob (FX8_isCalled σ v4 v2) (fun r19 => if r19 = 0 then FX8_forceBy_J85 σ (fun a21 a22 => rec a21 a22) v1 v2 v3 v4
    else FX8_forceBy_J86 σ (fun a23 a24 => rec a23 a24) v1 v2 v3 v4 (1 : Int32))
set_option maxRecDepth 100000 in
set_option maxHeartbeats 4000000 in
theorem PX8_forceBy_J71 {X : Bx} {g : Gx} {r : Int32} {σ : SS} (hX : Okw wsM X g cX8_forceBy 6 RX8 (some .int) ({ frames := 2, cells := 0, slots := 0, locals := 45 } : Room) (fun g => some (.int r)) σ) {rec : Int32 → Int32 → Option (Int32)} {v1 : Int32} {v2 : Int32} {v3 : Int32} {v4 : Int32} (hrec : ∀ (w2 : Int32) (w4 : Int32), rec w2 w4 = some r → Vx X g.1 6 (wsM g σ) 15 [(0, .ref (g.2.1 0)), (1, .int v1), (2, .int w2), (3, .int v3), (4, .int w4)] []) (hf : FX8_forceBy_J71 σ rec v1 v2 v3 v4 = some r) : Vx X g.1 6 (wsM g σ) 71 [(0, .ref (g.2.1 0)), (1, .int v1), (2, .int v2), (3, .int v3), (4, .int v4)] [] := by
  have h0 := hX.1
  rw [FX8_forceBy_J71] at hf
  refine vx_aload_n h0 dX8_forceBy_71 rfl ?_
  refine vx_iload h0 dX8_forceBy_72 rfl ?_
  refine vx_iload_n h0 dX8_forceBy_74 rfl ?_
  obtain ⟨r19, h18, hf⟩ := ob_some hf
  refine w_callV (st := []) (ci := 8) (q0 := 0) hX (c_X8_isCalled h18) ce_X8_isCalled q981 ⟨rfl, rfl⟩ ⟨by decide, by decide⟩ rfl rfl rfl rfl (mo_0 g _) rfl (Nat.le_of_ble_eq_true rfl) dX8_forceBy_75 ?_
  show Vx X g.1 6 (wsM g σ) 78 [(0, .ref (g.2.1 0)), (1, .int v1), (2, .int v2), (3, .int v3), (4, .int v4)] [.int r19]
  refine vx_if_eq (tgt := 85) h0 dX8_forceBy_78 (by decide) (fun c20 => ?_) (fun c20 => ?_)
  · replace hf := (if_pos c20).symm.trans hf
    exact PX8_forceBy_J85 hX (fun a21 a22 hf => hrec a21 a22 hf) hf
  · replace hf := (if_neg c20).symm.trans hf
    refine vx_iconst (v := (1 : Int32)) h0 dX8_forceBy_81 (by decide) ?_
    refine vx_goto (tgt := 86) h0 dX8_forceBy_82 (by decide) ?_
    exact PX8_forceBy_J86 hX (fun a23 a24 hf => hrec a23 a24 hf) hf
def FX8_forceBy_L15 (σ : SS) (v1 : Int32) (v3 : Int32) (k : Int32 → Option (Int32)) : Nat → Int32 → Int32 → Option (Int32)
  | 0, _, _ => none
  | n + 1, v2, v4 => if (gI σ 3) ≤ v4 then k v2
    else ob (FX8_holds σ v4 v1) (fun r4 => if r4 = 0 then FX8_forceBy_J85 σ (fun a9 a10 => FX8_forceBy_L15 σ v1 v3 k n a9 a10) v1 v2 v3 v4
    else ob (FX8_has σ (gI σ 26) v4) (fun r12 => if r12 = 0 then gd (inb v4 16) (if (gA σ 4 (Int32.toNatClampNeg v4)) = (-1 : Int32) then FX8_forceBy_J71 σ (fun a25 a26 => FX8_forceBy_L15 σ v1 v3 k n a25 a26) v1 v2 v3 v4
    else gd (inb v4 16) (ob (FX8_has σ v2 (gA σ 4 (Int32.toNatClampNeg v4))) (fun r29 => if r29 = 0 then FX8_forceBy_J85 σ (fun a31 a32 => FX8_forceBy_L15 σ v1 v3 k n a31 a32) v1 v2 v3 v4
    else FX8_forceBy_J71 σ (fun a33 a34 => FX8_forceBy_L15 σ v1 v3 k n a33 a34) v1 v2 v3 v4)))
    else FX8_forceBy_J85 σ (fun a14 a15 => FX8_forceBy_L15 σ v1 v3 k n a14 a15) v1 v2 v3 v4))
set_option maxRecDepth 100000 in
set_option maxHeartbeats 4000000 in
theorem PX8_forceBy_L15 {X : Bx} {g : Gx} {r : Int32} {σ : SS} (hX : Okw wsM X g cX8_forceBy 6 RX8 (some .int) ({ frames := 2, cells := 0, slots := 0, locals := 45 } : Room) (fun g => some (.int r)) σ) {v1 : Int32} {v3 : Int32} {k : Int32 → Option (Int32)} (hk : ∀ (v2 : Int32), k v2 = some r → Vx X g.1 6 (wsM g σ) 110 [(0, .ref (g.2.1 0)), (1, .int v1), (2, .int v2), (3, .int v3)] []) : ∀ (n : Nat) (v2 : Int32) (v4 : Int32), FX8_forceBy_L15 σ v1 v3 k n v2 v4 = some r → Vx X g.1 6 (wsM g σ) 15 [(0, .ref (g.2.1 0)), (1, .int v1), (2, .int v2), (3, .int v3), (4, .int v4)] [] := by
  have h0 := hX.1
  intro n
  induction n with
  | zero =>
    intro v2 v4 hf
    rw [FX8_forceBy_L15] at hf
    cases hf
  | succ n ih =>
    intro v2 v4 hf
    rw [FX8_forceBy_L15] at hf
    refine vx_iload h0 dX8_forceBy_15 rfl ?_
    refine vx_aload_n h0 dX8_forceBy_17 rfl ?_
    refine mg_0_3 hX q787 dX8_forceBy_18 ?_
    refine vx_icmp_ge (tgt := 110) h0 dX8_forceBy_21 (by decide) (fun c2 => ?_) (fun c2 => ?_)
    · replace hf := (if_pos c2).symm.trans hf
      refine vx_sub [0, 1, 2, 3] rfl ?_
      exact hk _ hf
    · replace hf := (if_neg c2).symm.trans hf
      refine vx_aload_n h0 dX8_forceBy_24 rfl ?_
      refine vx_iload h0 dX8_forceBy_25 rfl ?_
      refine vx_iload_n h0 dX8_forceBy_27 rfl ?_
      obtain ⟨r4, h3, hf⟩ := ob_some hf
      refine w_callV (st := []) (ci := 8) (q0 := 0) hX (c_X8_holds h3) ce_X8_holds q977 ⟨rfl, rfl⟩ ⟨by decide, by decide⟩ rfl rfl rfl rfl (mo_0 g _) rfl (Nat.le_of_ble_eq_true rfl) dX8_forceBy_28 ?_
      show Vx X g.1 6 (wsM g σ) 31 [(0, .ref (g.2.1 0)), (1, .int v1), (2, .int v2), (3, .int v3), (4, .int v4)] [.int r4]
      refine vx_if_eq (tgt := 85) h0 dX8_forceBy_31 (by decide) (fun c5 => ?_) (fun c5 => ?_)
      · replace hf := (if_pos c5).symm.trans hf
        exact PX8_forceBy_J85 hX (fun a9 a10 hf => ih a9 a10 hf) hf
      · replace hf := (if_neg c5).symm.trans hf
        refine vx_aload_n h0 dX8_forceBy_34 rfl ?_
        refine mg_0_26 hX q810 dX8_forceBy_35 ?_
        refine vx_iload h0 dX8_forceBy_38 rfl ?_
        obtain ⟨r12, h11, hf⟩ := ob_some hf
        refine w_callS (st := []) hX (c_X8_has h11) ce_X8_has q927 ⟨rfl, rfl⟩ ⟨by decide, by decide⟩ rfl rfl rfl (Nat.le_of_ble_eq_true rfl) dX8_forceBy_40 ?_
        show Vx X g.1 6 (wsM g σ) 43 [(0, .ref (g.2.1 0)), (1, .int v1), (2, .int v2), (3, .int v3), (4, .int v4)] [.int r12]
        refine vx_if_ne (tgt := 85) h0 dX8_forceBy_43 (by decide) (fun c13 => ?_) (fun c13 => ?_)
        · replace hf := (if_neg c13).symm.trans hf
          exact PX8_forceBy_J85 hX (fun a14 a15 hf => ih a14 a15 hf) hf
        · replace hf := (if_pos c13).symm.trans hf
          refine vx_aload_n h0 dX8_forceBy_46 rfl ?_
          refine mg_0_4 hX q788 dX8_forceBy_47 ?_
          refine vx_iload h0 dX8_forceBy_50 rfl ?_
          obtain ⟨b16, hf⟩ := gd_some hf
          refine ml_2 hX b16 dX8_forceBy_52 ?_
          refine vx_iconst (v := (-1 : Int32)) h0 dX8_forceBy_53 (by decide) ?_
          refine vx_icmp_eq (tgt := 71) h0 dX8_forceBy_54 (by decide) (fun c17 => ?_) (fun c17 => ?_)
          · replace hf := (if_pos c17).symm.trans hf
            exact PX8_forceBy_J71 hX (fun a25 a26 hf => ih a25 a26 hf) hf
          · replace hf := (if_neg c17).symm.trans hf
            refine vx_iload_n h0 dX8_forceBy_57 rfl ?_
            refine vx_aload_n h0 dX8_forceBy_58 rfl ?_
            refine mg_0_4 hX q788 dX8_forceBy_59 ?_
            refine vx_iload h0 dX8_forceBy_62 rfl ?_
            obtain ⟨b27, hf⟩ := gd_some hf
            refine ml_2 hX b27 dX8_forceBy_64 ?_
            obtain ⟨r29, h28, hf⟩ := ob_some hf
            refine w_callS (st := []) hX (c_X8_has h28) ce_X8_has q927 ⟨rfl, rfl⟩ ⟨by decide, by decide⟩ rfl rfl rfl (Nat.le_of_ble_eq_true rfl) dX8_forceBy_65 ?_
            show Vx X g.1 6 (wsM g σ) 68 [(0, .ref (g.2.1 0)), (1, .int v1), (2, .int v2), (3, .int v3), (4, .int v4)] [.int r29]
            refine vx_if_eq (tgt := 85) h0 dX8_forceBy_68 (by decide) (fun c30 => ?_) (fun c30 => ?_)
            · replace hf := (if_pos c30).symm.trans hf
              exact PX8_forceBy_J85 hX (fun a31 a32 hf => ih a31 a32 hf) hf
            · replace hf := (if_neg c30).symm.trans hf
              exact PX8_forceBy_J71 hX (fun a33 a34 hf => ih a33 a34 hf) hf
def FX8_forceBy_L4 (σ : SS) (v1 : Int32) (k : Int32 → Option (Int32)) : Nat → Int32 → Int32 → Option (Int32)
  | 0, _, _ => none
  | n + 1, v2, v3 => if (gI σ 3) < v3 then k v2
    else FX8_forceBy_L15 σ v1 v3 (fun u35 => FX8_forceBy_L4 σ v1 k n u35 (v3 + (1 : Int32))) 5000 v2 (0 : Int32)
set_option maxRecDepth 100000 in
set_option maxHeartbeats 4000000 in
theorem PX8_forceBy_L4 {X : Bx} {g : Gx} {r : Int32} {σ : SS} (hX : Okw wsM X g cX8_forceBy 6 RX8 (some .int) ({ frames := 2, cells := 0, slots := 0, locals := 45 } : Room) (fun g => some (.int r)) σ) {v1 : Int32} {k : Int32 → Option (Int32)} (hk : ∀ (v2 : Int32), k v2 = some r → Vx X g.1 6 (wsM g σ) 116 [(2, .int v2)] []) : ∀ (n : Nat) (v2 : Int32) (v3 : Int32), FX8_forceBy_L4 σ v1 k n v2 v3 = some r → Vx X g.1 6 (wsM g σ) 4 [(0, .ref (g.2.1 0)), (1, .int v1), (2, .int v2), (3, .int v3)] [] := by
  have h0 := hX.1
  intro n
  induction n with
  | zero =>
    intro v2 v3 hf
    rw [FX8_forceBy_L4] at hf
    cases hf
  | succ n ih =>
    intro v2 v3 hf
    rw [FX8_forceBy_L4] at hf
    refine vx_iload_n h0 dX8_forceBy_4 rfl ?_
    refine vx_aload_n h0 dX8_forceBy_5 rfl ?_
    refine mg_0_3 hX q787 dX8_forceBy_6 ?_
    refine vx_icmp_gt (tgt := 116) h0 dX8_forceBy_9 (by decide) (fun c1 => ?_) (fun c1 => ?_)
    · replace hf := (if_pos c1).symm.trans hf
      refine vx_sub [2] rfl ?_
      exact hk _ hf
    · replace hf := (if_neg c1).symm.trans hf
      refine vx_iconst (v := (0 : Int32)) h0 dX8_forceBy_12 (by decide) ?_
      refine vx_istore (ls' := [(4, .int (0 : Int32)), (0, .ref (g.2.1 0)), (1, .int v1), (2, .int v2), (3, .int v3)]) h0 dX8_forceBy_13 (by decide) rfl ?_
      refine vx_sub [1, 2, 3, 4, 0] rfl ?_
      refine PX8_forceBy_L15 hX (fun u35 hf => ?_) _ _ _ hf
      refine vx_iinc (q := 3) (v := (v3 + (1 : Int32))) (ls' := [(3, .int (v3 + (1 : Int32))), (0, .ref (g.2.1 0)), (1, .int v1), (2, .int u35)]) h0 dX8_forceBy_110 rfl rfl (by decide) rfl ?_
      refine vx_goto (tgt := 4) h0 dX8_forceBy_113 (by decide) ?_
      refine vx_sub [1, 2, 3, 0] rfl ?_
      exact ih _ _ hf
def FX8_forceBy (σ : SS) (a0 : Int32) : Option (Int32) :=
  FX8_forceBy_L4 σ a0 (fun u36 => some u36) 5000 (0 : Int32) (0 : Int32)
set_option maxRecDepth 100000 in
set_option maxHeartbeats 4000000 in
theorem c_X8_forceBy {σ : SS} {a0 : Int32} {r : Int32} (hf : FX8_forceBy σ a0 = some r) : Mcw wsM yX8_forceBy cX8_forceBy 6 (some .int) ({ frames := 2, cells := 0, slots := 0, locals := 45 } : Room) (fun g => [.ref (g.2.1 0), .int a0]) σ (fun g => some (.int r)) σ := by
  refine w_enter wsM_fix (by decide) (fun g => Nat.le_of_ble_eq_true rfl) ?_
  intro X g hX
  replace hX : Okw wsM X g cX8_forceBy 6 RX8 (some .int) ({ frames := 2, cells := 0, slots := 0, locals := 45 } : Room) (fun g => some (.int r)) σ := hX
  have h0 := hX.1
  show Vx X g.1 6 (wsM g σ) 0 [(0, .ref (g.2.1 0)), (1, .int a0)] []
  rw [FX8_forceBy] at hf
  refine vx_iconst (v := (0 : Int32)) h0 dX8_forceBy_0 (by decide) ?_
  refine vx_istore_n (ls' := [(2, .int (0 : Int32)), (0, .ref (g.2.1 0)), (1, .int a0)]) h0 dX8_forceBy_1 (by decide) rfl ?_
  refine vx_iconst (v := (0 : Int32)) h0 dX8_forceBy_2 (by decide) ?_
  refine vx_istore_n (ls' := [(3, .int (0 : Int32)), (2, .int (0 : Int32)), (0, .ref (g.2.1 0)), (1, .int a0)]) h0 dX8_forceBy_3 (by decide) rfl ?_
  refine vx_sub [2, 3, 1, 0] rfl ?_
  refine PX8_forceBy_L4 hX (fun u36 hf => ?_) _ _ _ hf
  refine vx_iload_n h0 dX8_forceBy_116 rfl ?_
  exact w_iretP hX hf dX8_forceBy_117
def FX8_now (σ : SS) : Option (Int32) :=
  ob (FX8_forceBy σ (gI σ 25)) (fun r2 => some r2)
set_option maxRecDepth 100000 in
set_option maxHeartbeats 4000000 in
theorem c_X8_now {σ : SS} {r : Int32} (hf : FX8_now σ = some r) : Mcw wsM yX8_now cX8_now 1 (some .int) ({ frames := 3, cells := 0, slots := 0, locals := 70 } : Room) (fun g => [.ref (g.2.1 0)]) σ (fun g => some (.int r)) σ := by
  refine w_enter wsM_fix (by decide) (fun g => Nat.le_of_ble_eq_true rfl) ?_
  intro X g hX
  replace hX : Okw wsM X g cX8_now 1 RX8 (some .int) ({ frames := 3, cells := 0, slots := 0, locals := 70 } : Room) (fun g => some (.int r)) σ := hX
  have h0 := hX.1
  show Vx X g.1 1 (wsM g σ) 0 [(0, .ref (g.2.1 0))] []
  rw [FX8_now] at hf
  refine vx_aload_n h0 dX8_now_0 rfl ?_
  refine vx_aload_n h0 dX8_now_1 rfl ?_
  refine mg_0_25 hX q809 dX8_now_2 ?_
  obtain ⟨r2, h1, hf⟩ := ob_some hf
  refine w_callV (st := []) (ci := 8) (q0 := 0) hX (c_X8_forceBy h1) ce_X8_forceBy q973 ⟨rfl, rfl⟩ ⟨by decide, by decide⟩ rfl rfl rfl rfl (mo_0 g _) rfl (Nat.le_of_ble_eq_true rfl) dX8_now_5 ?_
  show Vx X g.1 1 (wsM g σ) 8 [(0, .ref (g.2.1 0))] [.int r2]
  exact w_iretP hX hf dX8_now_8
def FX8_forces_L2 (k : SS → Option (SS)) : Nat → Int32 → SS → Option (SS)
  | 0, _, _ => none
  | n + 1, v1, σ => if (64 : Int32) ≤ v1 then k σ
    else ob (FX8_forceBy σ v1) (fun r3 => gd (inb v1 64) (bd (sA σ 31 (upd (gA σ 31) (Int32.toNatClampNeg v1) r3)) (fun σ5 => FX8_forces_L2 k n (v1 + (1 : Int32)) σ5)))
set_option maxRecDepth 100000 in
set_option maxHeartbeats 4000000 in
theorem PX8_forces_L2 {X : Bx} {g : Gx} {σr : SS} (hX : Okw wsM X g cX8_forces 2 RX8 none ({ frames := 3, cells := 0, slots := 0, locals := 70 } : Room) (fun g => none) σr) {k : SS → Option (SS)} (hk : ∀ (σ : SS), k σ = some σr → Vx X g.1 2 (wsM g σ) 25 [] []) : ∀ (n : Nat) (v1 : Int32) (σ : SS), FX8_forces_L2 k n v1 σ = some σr → Vx X g.1 2 (wsM g σ) 2 [(0, .ref (g.2.1 0)), (1, .int v1)] [] := by
  have h0 := hX.1
  intro n
  induction n with
  | zero =>
    intro v1 σ hf
    rw [FX8_forces_L2] at hf
    cases hf
  | succ n ih =>
    intro v1 σ hf
    rw [FX8_forces_L2] at hf
    refine vx_iload_n h0 dX8_forces_2 rfl ?_
    refine vx_bipush (v := (64 : Int32)) h0 dX8_forces_3 (by decide) ?_
    refine vx_icmp_ge (tgt := 25) h0 dX8_forces_5 (by decide) (fun c1 => ?_) (fun c1 => ?_)
    · replace hf := (if_pos c1).symm.trans hf
      refine vx_sub [] rfl ?_
      exact hk _ hf
    · replace hf := (if_neg c1).symm.trans hf
      refine vx_aload_n h0 dX8_forces_8 rfl ?_
      refine mg_0_31 hX q815 dX8_forces_9 ?_
      refine vx_iload_n h0 dX8_forces_12 rfl ?_
      refine vx_aload_n h0 dX8_forces_13 rfl ?_
      refine vx_iload_n h0 dX8_forces_14 rfl ?_
      obtain ⟨r3, h2, hf⟩ := ob_some hf
      refine w_callV (st := [.int v1, .ref (g.2.1 20)]) (ci := 8) (q0 := 0) hX (c_X8_forceBy h2) ce_X8_forceBy q973 ⟨rfl, rfl⟩ ⟨by decide, by decide⟩ rfl rfl rfl rfl (mo_0 g _) rfl (Nat.le_of_ble_eq_true rfl) dX8_forces_15 ?_
      show Vx X g.1 2 (wsM g σ) 18 [(0, .ref (g.2.1 0)), (1, .int v1)] [.int r3, .int v1, .ref (g.2.1 20)]
      obtain ⟨b4, hf⟩ := gd_some hf
      refine ms_20 hX b4 dX8_forces_18 ?_
      generalize (sA σ 31 (upd (gA σ 31) (Int32.toNatClampNeg v1) r3)) = σ5 at hf ⊢
      replace hf := bd_h hf
      refine vx_iinc (q := 1) (v := (v1 + (1 : Int32))) (ls' := [(1, .int (v1 + (1 : Int32))), (0, .ref (g.2.1 0))]) h0 dX8_forces_19 rfl rfl (by decide) rfl ?_
      refine vx_goto (tgt := 2) h0 dX8_forces_22 (by decide) ?_
      refine vx_sub [1, 0] rfl ?_
      exact ih _ _ hf
def FX8_forces (σ : SS) : Option (SS) :=
  FX8_forces_L2 (fun σ6 => some σ6) 5000 (0 : Int32) σ
set_option maxRecDepth 100000 in
set_option maxHeartbeats 4000000 in
theorem c_X8_forces {σ : SS} {σr : SS} (hf : FX8_forces σ = some σr) : Mcw wsM yX8_forces cX8_forces 2 none ({ frames := 3, cells := 0, slots := 0, locals := 70 } : Room) (fun g => [.ref (g.2.1 0)]) σ (fun g => none) σr := by
  refine w_enter wsM_fix (by decide) (fun g => Nat.le_of_ble_eq_true rfl) ?_
  intro X g hX
  replace hX : Okw wsM X g cX8_forces 2 RX8 none ({ frames := 3, cells := 0, slots := 0, locals := 70 } : Room) (fun g => none) σr := hX
  have h0 := hX.1
  show Vx X g.1 2 (wsM g σ) 0 [(0, .ref (g.2.1 0))] []
  rw [FX8_forces] at hf
  refine vx_iconst (v := (0 : Int32)) h0 dX8_forces_0 (by decide) ?_
  refine vx_istore_n (ls' := [(1, .int (0 : Int32)), (0, .ref (g.2.1 0))]) h0 dX8_forces_1 (by decide) rfl ?_
  refine vx_sub [1, 0] rfl ?_
  refine PX8_forces_L2 hX (fun σ6 hf => ?_) _ _ _ hf
  exact w_vretE hX hf dX8_forces_25
def FX8_canBe (σ : SS) (a0 : Int32) : Option (Int32) :=
  if (a0 &&& (gI σ 24)) = (gI σ 25) then some (1 : Int32)
    else some (0 : Int32)
set_option maxRecDepth 100000 in
set_option maxHeartbeats 4000000 in
theorem c_X8_canBe {σ : SS} {a0 : Int32} {r : Int32} (hf : FX8_canBe σ a0 = some r) : Mcw wsM yX8_canBe cX8_canBe 2 (some .boolean) ({ frames := 0, cells := 0, slots := 0, locals := 0 } : Room) (fun g => [.ref (g.2.1 0), .int a0]) σ (fun g => some (.int r)) σ := by
  refine w_enter wsM_fix (by decide) (fun g => Nat.le_of_ble_eq_true rfl) ?_
  intro X g hX
  replace hX : Okw wsM X g cX8_canBe 2 RX8 (some .boolean) ({ frames := 0, cells := 0, slots := 0, locals := 0 } : Room) (fun g => some (.int r)) σ := hX
  have h0 := hX.1
  show Vx X g.1 2 (wsM g σ) 0 [(0, .ref (g.2.1 0)), (1, .int a0)] []
  rw [FX8_canBe] at hf
  refine vx_iload_n h0 dX8_canBe_0 rfl ?_
  refine vx_aload_n h0 dX8_canBe_1 rfl ?_
  refine mg_0_24 hX q808 dX8_canBe_2 ?_
  refine vx_iand h0 dX8_canBe_5 ?_
  refine vx_aload_n h0 dX8_canBe_6 rfl ?_
  refine mg_0_25 hX q809 dX8_canBe_7 ?_
  refine vx_icmp_ne (tgt := 17) h0 dX8_canBe_10 (by decide) (fun c1 => ?_) (fun c1 => ?_)
  · replace hf := (if_neg c1).symm.trans hf
    refine vx_iconst (v := (0 : Int32)) h0 dX8_canBe_17 (by decide) ?_
    exact w_zretP hX hf rfl dX8_canBe_18
  · replace hf := (if_pos c1).symm.trans hf
    refine vx_iconst (v := (1 : Int32)) h0 dX8_canBe_13 (by decide) ?_
    refine vx_goto (tgt := 18) h0 dX8_canBe_14 (by decide) ?_
    exact w_zretP hX hf rfl dX8_canBe_18
def FX8_often_L6 (σ : SS) (v1 : Int32) (v2 : Int32) (v3 : Int32) (v4 : Int32) (k : Int32 → Option (Int32)) : Nat → Int32 → Int32 → Option (Int32)
  | 0, _, _ => none
  | n + 1, v5, v6 => if v4 ≤ v6 then k v5
    else gd (inb v6 30) (ob (FX8_has σ v1 (gA σ 9 (Int32.toNatClampNeg v6))) (fun r4 => if r4 = 0 then FX8_often_L6 σ v1 v2 v3 v4 k n (v5 + (0 : Int32)) (v6 + (1 : Int32))
    else gd (inb v6 30) (if (gA σ 10 (Int32.toNatClampNeg v6)) = v3 then gd (inb v6 30) (if (gA σ 11 (Int32.toNatClampNeg v6)) = v2 then FX8_often_L6 σ v1 v2 v3 v4 k n (v5 + (1 : Int32)) (v6 + (1 : Int32))
    else FX8_often_L6 σ v1 v2 v3 v4 k n (v5 + (0 : Int32)) (v6 + (1 : Int32)))
    else FX8_often_L6 σ v1 v2 v3 v4 k n (v5 + (0 : Int32)) (v6 + (1 : Int32)))))
set_option maxRecDepth 100000 in
set_option maxHeartbeats 4000000 in
theorem PX8_often_L6 {X : Bx} {g : Gx} {r : Int32} {σ : SS} (hX : Okw wsM X g cX8_often 7 RX8 (some .int) ({ frames := 1, cells := 0, slots := 0, locals := 21 } : Room) (fun g => some (.int r)) σ) {v1 : Int32} {v2 : Int32} {v3 : Int32} {v4 : Int32} {k : Int32 → Option (Int32)} (hk : ∀ (v5 : Int32), k v5 = some r → Vx X g.1 7 (wsM g σ) 65 [(5, .int v5)] []) : ∀ (n : Nat) (v5 : Int32) (v6 : Int32), FX8_often_L6 σ v1 v2 v3 v4 k n v5 v6 = some r → Vx X g.1 7 (wsM g σ) 6 [(0, .ref (g.2.1 0)), (1, .int v1), (2, .int v2), (3, .int v3), (4, .int v4), (5, .int v5), (6, .int v6)] [] := by
  have h0 := hX.1
  intro n
  induction n with
  | zero =>
    intro v5 v6 hf
    rw [FX8_often_L6] at hf
    cases hf
  | succ n ih =>
    intro v5 v6 hf
    rw [FX8_often_L6] at hf
    refine vx_iload h0 dX8_often_6 rfl ?_
    refine vx_iload h0 dX8_often_8 rfl ?_
    refine vx_icmp_ge (tgt := 65) h0 dX8_often_10 (by decide) (fun c1 => ?_) (fun c1 => ?_)
    · replace hf := (if_pos c1).symm.trans hf
      refine vx_sub [5] rfl ?_
      exact hk _ hf
    · replace hf := (if_neg c1).symm.trans hf
      refine vx_iload h0 dX8_often_13 rfl ?_
      refine vx_iload_n h0 dX8_often_15 rfl ?_
      refine vx_aload_n h0 dX8_often_16 rfl ?_
      refine mg_0_9 hX q793 dX8_often_17 ?_
      refine vx_iload h0 dX8_often_20 rfl ?_
      obtain ⟨b2, hf⟩ := gd_some hf
      refine ml_6 hX b2 dX8_often_22 ?_
      obtain ⟨r4, h3, hf⟩ := ob_some hf
      refine w_callS (st := [.int v5]) hX (c_X8_has h3) ce_X8_has q927 ⟨rfl, rfl⟩ ⟨by decide, by decide⟩ rfl rfl rfl (Nat.le_of_ble_eq_true rfl) dX8_often_23 ?_
      show Vx X g.1 7 (wsM g σ) 26 [(0, .ref (g.2.1 0)), (1, .int v1), (2, .int v2), (3, .int v3), (4, .int v4), (5, .int v5), (6, .int v6)] [.int r4, .int v5]
      refine vx_if_eq (tgt := 55) h0 dX8_often_26 (by decide) (fun c5 => ?_) (fun c5 => ?_)
      · replace hf := (if_pos c5).symm.trans hf
        refine vx_iconst (v := (0 : Int32)) h0 dX8_often_55 (by decide) ?_
        refine vx_iadd h0 dX8_often_56 ?_
        refine vx_istore (ls' := [(5, .int (v5 + (0 : Int32))), (0, .ref (g.2.1 0)), (1, .int v1), (2, .int v2), (3, .int v3), (4, .int v4), (6, .int v6)]) h0 dX8_often_57 (by decide) rfl ?_
        refine vx_iinc (q := 6) (v := (v6 + (1 : Int32))) (ls' := [(6, .int (v6 + (1 : Int32))), (5, .int (v5 + (0 : Int32))), (0, .ref (g.2.1 0)), (1, .int v1), (2, .int v2), (3, .int v3), (4, .int v4)]) h0 dX8_often_59 rfl rfl (by decide) rfl ?_
        refine vx_goto (tgt := 6) h0 dX8_often_62 (by decide) ?_
        refine vx_sub [2, 3, 4, 5, 6, 1, 0] rfl ?_
        exact ih _ _ hf
      · replace hf := (if_neg c5).symm.trans hf
        refine vx_aload_n h0 dX8_often_29 rfl ?_
        refine mg_0_10 hX q794 dX8_often_30 ?_
        refine vx_iload h0 dX8_often_33 rfl ?_
        obtain ⟨b6, hf⟩ := gd_some hf
        refine ml_7 hX b6 dX8_often_35 ?_
        refine vx_iload_n h0 dX8_often_36 rfl ?_
        refine vx_icmp_ne (tgt := 55) h0 dX8_often_37 (by decide) (fun c7 => ?_) (fun c7 => ?_)
        · replace hf := (if_neg c7).symm.trans hf
          refine vx_iconst (v := (0 : Int32)) h0 dX8_often_55 (by decide) ?_
          refine vx_iadd h0 dX8_often_56 ?_
          refine vx_istore (ls' := [(5, .int (v5 + (0 : Int32))), (0, .ref (g.2.1 0)), (1, .int v1), (2, .int v2), (3, .int v3), (4, .int v4), (6, .int v6)]) h0 dX8_often_57 (by decide) rfl ?_
          refine vx_iinc (q := 6) (v := (v6 + (1 : Int32))) (ls' := [(6, .int (v6 + (1 : Int32))), (5, .int (v5 + (0 : Int32))), (0, .ref (g.2.1 0)), (1, .int v1), (2, .int v2), (3, .int v3), (4, .int v4)]) h0 dX8_often_59 rfl rfl (by decide) rfl ?_
          refine vx_goto (tgt := 6) h0 dX8_often_62 (by decide) ?_
          refine vx_sub [2, 3, 4, 5, 6, 1, 0] rfl ?_
          exact ih _ _ hf
        · replace hf := (if_pos c7).symm.trans hf
          refine vx_aload_n h0 dX8_often_40 rfl ?_
          refine mg_0_11 hX q795 dX8_often_41 ?_
          refine vx_iload h0 dX8_often_44 rfl ?_
          obtain ⟨b8, hf⟩ := gd_some hf
          refine ml_8 hX b8 dX8_often_46 ?_
          refine vx_iload_n h0 dX8_often_47 rfl ?_
          refine vx_icmp_ne (tgt := 55) h0 dX8_often_48 (by decide) (fun c9 => ?_) (fun c9 => ?_)
          · replace hf := (if_neg c9).symm.trans hf
            refine vx_iconst (v := (0 : Int32)) h0 dX8_often_55 (by decide) ?_
            refine vx_iadd h0 dX8_often_56 ?_
            refine vx_istore (ls' := [(5, .int (v5 + (0 : Int32))), (0, .ref (g.2.1 0)), (1, .int v1), (2, .int v2), (3, .int v3), (4, .int v4), (6, .int v6)]) h0 dX8_often_57 (by decide) rfl ?_
            refine vx_iinc (q := 6) (v := (v6 + (1 : Int32))) (ls' := [(6, .int (v6 + (1 : Int32))), (5, .int (v5 + (0 : Int32))), (0, .ref (g.2.1 0)), (1, .int v1), (2, .int v2), (3, .int v3), (4, .int v4)]) h0 dX8_often_59 rfl rfl (by decide) rfl ?_
            refine vx_goto (tgt := 6) h0 dX8_often_62 (by decide) ?_
            refine vx_sub [2, 3, 4, 5, 6, 1, 0] rfl ?_
            exact ih _ _ hf
          · replace hf := (if_pos c9).symm.trans hf
            refine vx_iconst (v := (1 : Int32)) h0 dX8_often_51 (by decide) ?_
            refine vx_goto (tgt := 56) h0 dX8_often_52 (by decide) ?_
            refine vx_iadd h0 dX8_often_56 ?_
            refine vx_istore (ls' := [(5, .int (v5 + (1 : Int32))), (0, .ref (g.2.1 0)), (1, .int v1), (2, .int v2), (3, .int v3), (4, .int v4), (6, .int v6)]) h0 dX8_often_57 (by decide) rfl ?_
            refine vx_iinc (q := 6) (v := (v6 + (1 : Int32))) (ls' := [(6, .int (v6 + (1 : Int32))), (5, .int (v5 + (1 : Int32))), (0, .ref (g.2.1 0)), (1, .int v1), (2, .int v2), (3, .int v3), (4, .int v4)]) h0 dX8_often_59 rfl rfl (by decide) rfl ?_
            refine vx_goto (tgt := 6) h0 dX8_often_62 (by decide) ?_
            refine vx_sub [2, 3, 4, 5, 6, 1, 0] rfl ?_
            exact ih _ _ hf
def FX8_often (σ : SS) (a0 : Int32) (a1 : Int32) (a2 : Int32) (a3 : Int32) : Option (Int32) :=
  FX8_often_L6 σ a0 a1 a2 a3 (fun u10 => some u10) 5000 (0 : Int32) (0 : Int32)
set_option maxRecDepth 100000 in
set_option maxHeartbeats 4000000 in
theorem c_X8_often {σ : SS} {a0 : Int32} {a1 : Int32} {a2 : Int32} {a3 : Int32} {r : Int32} (hf : FX8_often σ a0 a1 a2 a3 = some r) : Mcw wsM yX8_often cX8_often 7 (some .int) ({ frames := 1, cells := 0, slots := 0, locals := 21 } : Room) (fun g => [.ref (g.2.1 0), .int a0, .int a1, .int a2, .int a3]) σ (fun g => some (.int r)) σ := by
  refine w_enter wsM_fix (by decide) (fun g => Nat.le_of_ble_eq_true rfl) ?_
  intro X g hX
  replace hX : Okw wsM X g cX8_often 7 RX8 (some .int) ({ frames := 1, cells := 0, slots := 0, locals := 21 } : Room) (fun g => some (.int r)) σ := hX
  have h0 := hX.1
  show Vx X g.1 7 (wsM g σ) 0 [(0, .ref (g.2.1 0)), (1, .int a0), (2, .int a1), (3, .int a2), (4, .int a3)] []
  rw [FX8_often] at hf
  refine vx_iconst (v := (0 : Int32)) h0 dX8_often_0 (by decide) ?_
  refine vx_istore (ls' := [(5, .int (0 : Int32)), (0, .ref (g.2.1 0)), (1, .int a0), (2, .int a1), (3, .int a2), (4, .int a3)]) h0 dX8_often_1 (by decide) rfl ?_
  refine vx_iconst (v := (0 : Int32)) h0 dX8_often_3 (by decide) ?_
  refine vx_istore (ls' := [(6, .int (0 : Int32)), (5, .int (0 : Int32)), (0, .ref (g.2.1 0)), (1, .int a0), (2, .int a1), (3, .int a2), (4, .int a3)]) h0 dX8_often_4 (by decide) rfl ?_
  refine vx_sub [2, 3, 4, 5, 6, 1, 0] rfl ?_
  refine PX8_often_L6 hX (fun u10 hf => ?_) _ _ _ hf
  refine vx_iload h0 dX8_often_65 rfl ?_
  exact w_iretP hX hf dX8_often_67
def FX8_isWrong (σ : SS) (a0 : Int32) (a1 : Int32) (a2 : Int32) : Option (Int32) :=
  gd (inb a1 30) (ob (FX8_has σ a0 (gA σ 9 (Int32.toNatClampNeg a1))) (fun r3 => if r3 = 0 then some (0 : Int32)
    else if a2 = 0 then gd (inb a1 30) (if (gA σ 10 (Int32.toNatClampNeg a1)) = (1 : Int32) then gd (inb a1 30) (ob (FX8_often σ a0 (gA σ 11 (Int32.toNatClampNeg a1)) (0 : Int32) a1) (fun r30 => if r30 = 0 then some (1 : Int32)
    else some (0 : Int32)))
    else some (0 : Int32))
    else if a2 = (1 : Int32) then gd (inb a1 30) (if (gA σ 10 (Int32.toNatClampNeg a1)) = 0 then gd (inb a1 30) (ob (FX8_often σ a0 (gA σ 11 (Int32.toNatClampNeg a1)) (0 : Int32) a1) (fun r21 => if r21 ≤ 0 then some (0 : Int32)
    else some (1 : Int32)))
    else some (0 : Int32))
    else gd (inb a1 30) (if (gA σ 10 (Int32.toNatClampNeg a1)) = (2 : Int32) then gd (inb a1 30) (ob (FX8_has σ a0 (gA σ 11 (Int32.toNatClampNeg a1))) (fun r12 => if r12 = 0 then some (1 : Int32)
    else some (0 : Int32)))
    else some (0 : Int32))))
set_option maxRecDepth 100000 in
set_option maxHeartbeats 4000000 in
theorem c_X8_isWrong {σ : SS} {a0 : Int32} {a1 : Int32} {a2 : Int32} {r : Int32} (hf : FX8_isWrong σ a0 a1 a2 = some r) : Mcw wsM yX8_isWrong cX8_isWrong 4 (some .boolean) ({ frames := 2, cells := 0, slots := 0, locals := 47 } : Room) (fun g => [.ref (g.2.1 0), .int a0, .int a1, .int a2]) σ (fun g => some (.int r)) σ := by
  refine w_enter wsM_fix (by decide) (fun g => Nat.le_of_ble_eq_true rfl) ?_
  intro X g hX
  replace hX : Okw wsM X g cX8_isWrong 4 RX8 (some .boolean) ({ frames := 2, cells := 0, slots := 0, locals := 47 } : Room) (fun g => some (.int r)) σ := hX
  have h0 := hX.1
  show Vx X g.1 4 (wsM g σ) 0 [(0, .ref (g.2.1 0)), (1, .int a0), (2, .int a1), (3, .int a2)] []
  rw [FX8_isWrong] at hf
  refine vx_iload_n h0 dX8_isWrong_0 rfl ?_
  refine vx_aload_n h0 dX8_isWrong_1 rfl ?_
  refine mg_0_9 hX q793 dX8_isWrong_2 ?_
  refine vx_iload_n h0 dX8_isWrong_5 rfl ?_
  obtain ⟨b1, hf⟩ := gd_some hf
  refine ml_6 hX b1 dX8_isWrong_6 ?_
  obtain ⟨r3, h2, hf⟩ := ob_some hf
  refine w_callS (st := []) hX (c_X8_has h2) ce_X8_has q927 ⟨rfl, rfl⟩ ⟨by decide, by decide⟩ rfl rfl rfl (Nat.le_of_ble_eq_true rfl) dX8_isWrong_7 ?_
  show Vx X g.1 4 (wsM g σ) 10 [(0, .ref (g.2.1 0)), (1, .int a0), (2, .int a1), (3, .int a2)] [.int r3]
  refine vx_if_ne (tgt := 15) h0 dX8_isWrong_10 (by decide) (fun c4 => ?_) (fun c4 => ?_)
  · replace hf := (if_neg c4).symm.trans hf
    refine vx_iload_n h0 dX8_isWrong_15 rfl ?_
    refine vx_if_ne (tgt := 51) h0 dX8_isWrong_16 (by decide) (fun c5 => ?_) (fun c5 => ?_)
    · replace hf := (if_neg c5).symm.trans hf
      refine vx_iload_n h0 dX8_isWrong_51 rfl ?_
      refine vx_iconst (v := (1 : Int32)) h0 dX8_isWrong_52 (by decide) ?_
      refine vx_icmp_ne (tgt := 87) h0 dX8_isWrong_53 (by decide) (fun c6 => ?_) (fun c6 => ?_)
      · replace hf := (if_neg c6).symm.trans hf
        refine vx_aload_n h0 dX8_isWrong_87 rfl ?_
        refine mg_0_10 hX q794 dX8_isWrong_88 ?_
        refine vx_iload_n h0 dX8_isWrong_91 rfl ?_
        obtain ⟨b7, hf⟩ := gd_some hf
        refine ml_7 hX b7 dX8_isWrong_92 ?_
        refine vx_iconst (v := (2 : Int32)) h0 dX8_isWrong_93 (by decide) ?_
        refine vx_icmp_ne (tgt := 114) h0 dX8_isWrong_94 (by decide) (fun c8 => ?_) (fun c8 => ?_)
        · replace hf := (if_neg c8).symm.trans hf
          refine vx_iconst (v := (0 : Int32)) h0 dX8_isWrong_114 (by decide) ?_
          exact w_zretP hX hf rfl dX8_isWrong_115
        · replace hf := (if_pos c8).symm.trans hf
          refine vx_iload_n h0 dX8_isWrong_97 rfl ?_
          refine vx_aload_n h0 dX8_isWrong_98 rfl ?_
          refine mg_0_11 hX q795 dX8_isWrong_99 ?_
          refine vx_iload_n h0 dX8_isWrong_102 rfl ?_
          obtain ⟨b10, hf⟩ := gd_some hf
          refine ml_8 hX b10 dX8_isWrong_103 ?_
          obtain ⟨r12, h11, hf⟩ := ob_some hf
          refine w_callS (st := []) hX (c_X8_has h11) ce_X8_has q927 ⟨rfl, rfl⟩ ⟨by decide, by decide⟩ rfl rfl rfl (Nat.le_of_ble_eq_true rfl) dX8_isWrong_104 ?_
          show Vx X g.1 4 (wsM g σ) 107 [(0, .ref (g.2.1 0)), (1, .int a0), (2, .int a1), (3, .int a2)] [.int r12]
          refine vx_if_ne (tgt := 114) h0 dX8_isWrong_107 (by decide) (fun c13 => ?_) (fun c13 => ?_)
          · replace hf := (if_neg c13).symm.trans hf
            refine vx_iconst (v := (0 : Int32)) h0 dX8_isWrong_114 (by decide) ?_
            exact w_zretP hX hf rfl dX8_isWrong_115
          · replace hf := (if_pos c13).symm.trans hf
            refine vx_iconst (v := (1 : Int32)) h0 dX8_isWrong_110 (by decide) ?_
            refine vx_goto (tgt := 115) h0 dX8_isWrong_111 (by decide) ?_
            exact w_zretP hX hf rfl dX8_isWrong_115
      · replace hf := (if_pos c6).symm.trans hf
        refine vx_aload_n h0 dX8_isWrong_56 rfl ?_
        refine mg_0_10 hX q794 dX8_isWrong_57 ?_
        refine vx_iload_n h0 dX8_isWrong_60 rfl ?_
        obtain ⟨b16, hf⟩ := gd_some hf
        refine ml_7 hX b16 dX8_isWrong_61 ?_
        refine vx_if_ne (tgt := 85) h0 dX8_isWrong_62 (by decide) (fun c17 => ?_) (fun c17 => ?_)
        · replace hf := (if_neg c17).symm.trans hf
          refine vx_iconst (v := (0 : Int32)) h0 dX8_isWrong_85 (by decide) ?_
          exact w_zretP hX hf rfl dX8_isWrong_86
        · replace hf := (if_pos c17).symm.trans hf
          refine vx_aload_n h0 dX8_isWrong_65 rfl ?_
          refine vx_iload_n h0 dX8_isWrong_66 rfl ?_
          refine vx_aload_n h0 dX8_isWrong_67 rfl ?_
          refine mg_0_11 hX q795 dX8_isWrong_68 ?_
          refine vx_iload_n h0 dX8_isWrong_71 rfl ?_
          obtain ⟨b19, hf⟩ := gd_some hf
          refine ml_8 hX b19 dX8_isWrong_72 ?_
          refine vx_iconst (v := (0 : Int32)) h0 dX8_isWrong_73 (by decide) ?_
          refine vx_iload_n h0 dX8_isWrong_74 rfl ?_
          obtain ⟨r21, h20, hf⟩ := ob_some hf
          refine w_callV (st := []) (ci := 8) (q0 := 0) hX (c_X8_often h20) ce_X8_often q1029 ⟨rfl, rfl⟩ ⟨by decide, by decide⟩ rfl rfl rfl rfl (mo_0 g _) rfl (Nat.le_of_ble_eq_true rfl) dX8_isWrong_75 ?_
          show Vx X g.1 4 (wsM g σ) 78 [(0, .ref (g.2.1 0)), (1, .int a0), (2, .int a1), (3, .int a2)] [.int r21]
          refine vx_if_le (tgt := 85) h0 dX8_isWrong_78 (by decide) (fun c22 => ?_) (fun c22 => ?_)
          · replace hf := (if_pos c22).symm.trans hf
            refine vx_iconst (v := (0 : Int32)) h0 dX8_isWrong_85 (by decide) ?_
            exact w_zretP hX hf rfl dX8_isWrong_86
          · replace hf := (if_neg c22).symm.trans hf
            refine vx_iconst (v := (1 : Int32)) h0 dX8_isWrong_81 (by decide) ?_
            refine vx_goto (tgt := 86) h0 dX8_isWrong_82 (by decide) ?_
            exact w_zretP hX hf rfl dX8_isWrong_86
    · replace hf := (if_pos c5).symm.trans hf
      refine vx_aload_n h0 dX8_isWrong_19 rfl ?_
      refine mg_0_10 hX q794 dX8_isWrong_20 ?_
      refine vx_iload_n h0 dX8_isWrong_23 rfl ?_
      obtain ⟨b25, hf⟩ := gd_some hf
      refine ml_7 hX b25 dX8_isWrong_24 ?_
      refine vx_iconst (v := (1 : Int32)) h0 dX8_isWrong_25 (by decide) ?_
      refine vx_icmp_ne (tgt := 49) h0 dX8_isWrong_26 (by decide) (fun c26 => ?_) (fun c26 => ?_)
      · replace hf := (if_neg c26).symm.trans hf
        refine vx_iconst (v := (0 : Int32)) h0 dX8_isWrong_49 (by decide) ?_
        exact w_zretP hX hf rfl dX8_isWrong_50
      · replace hf := (if_pos c26).symm.trans hf
        refine vx_aload_n h0 dX8_isWrong_29 rfl ?_
        refine vx_iload_n h0 dX8_isWrong_30 rfl ?_
        refine vx_aload_n h0 dX8_isWrong_31 rfl ?_
        refine mg_0_11 hX q795 dX8_isWrong_32 ?_
        refine vx_iload_n h0 dX8_isWrong_35 rfl ?_
        obtain ⟨b28, hf⟩ := gd_some hf
        refine ml_8 hX b28 dX8_isWrong_36 ?_
        refine vx_iconst (v := (0 : Int32)) h0 dX8_isWrong_37 (by decide) ?_
        refine vx_iload_n h0 dX8_isWrong_38 rfl ?_
        obtain ⟨r30, h29, hf⟩ := ob_some hf
        refine w_callV (st := []) (ci := 8) (q0 := 0) hX (c_X8_often h29) ce_X8_often q1029 ⟨rfl, rfl⟩ ⟨by decide, by decide⟩ rfl rfl rfl rfl (mo_0 g _) rfl (Nat.le_of_ble_eq_true rfl) dX8_isWrong_39 ?_
        show Vx X g.1 4 (wsM g σ) 42 [(0, .ref (g.2.1 0)), (1, .int a0), (2, .int a1), (3, .int a2)] [.int r30]
        refine vx_if_ne (tgt := 49) h0 dX8_isWrong_42 (by decide) (fun c31 => ?_) (fun c31 => ?_)
        · replace hf := (if_neg c31).symm.trans hf
          refine vx_iconst (v := (0 : Int32)) h0 dX8_isWrong_49 (by decide) ?_
          exact w_zretP hX hf rfl dX8_isWrong_50
        · replace hf := (if_pos c31).symm.trans hf
          refine vx_iconst (v := (1 : Int32)) h0 dX8_isWrong_45 (by decide) ?_
          refine vx_goto (tgt := 50) h0 dX8_isWrong_46 (by decide) ?_
          exact w_zretP hX hf rfl dX8_isWrong_50
  · replace hf := (if_pos c4).symm.trans hf
    refine vx_iconst (v := (0 : Int32)) h0 dX8_isWrong_13 (by decide) ?_
    exact w_zretP hX hf rfl dX8_isWrong_14
def FX8_hangsOn_J94 (σ : SS) (rec : Int32 → Int32 → Option (Int32)) (v1 : Int32) (v2 : Int32) (v3 : Int32) (v4 : Int32) (v5 : Int32) (s0 : Int32) : Option (Int32) :=
  if s0 = 0 then rec (v3 ||| (0 : Int32)) (v5 + (1 : Int32))
    else gd (inb v5 30) (bd (v3 ||| (jshl (1 : Int32) (gA σ 11 (Int32.toNatClampNeg v5)))) (fun x9 => rec x9 (v5 + (1 : Int32))))
set_option maxRecDepth 100000 in
set_option maxHeartbeats 4000000 in
theorem PX8_hangsOn_J94 {X : Bx} {g : Gx} {r : Int32} {σ : SS} (hX : Okw wsM X g cX8_hangsOn 7 RX8 (some .int) ({ frames := 1, cells := 0, slots := 0, locals := 21 } : Room) (fun g => some (.int r)) σ) {rec : Int32 → Int32 → Option (Int32)} {v1 : Int32} {v2 : Int32} {v3 : Int32} {v4 : Int32} {v5 : Int32} {s0 : Int32} (hrec : ∀ (w3 : Int32) (w5 : Int32), rec w3 w5 = some r → Vx X g.1 7 (wsM g σ) 17 [(0, .ref (g.2.1 0)), (1, .int v1), (2, .int v2), (3, .int w3), (4, .int v4), (5, .int w5)] []) (hf : FX8_hangsOn_J94 σ rec v1 v2 v3 v4 v5 s0 = some r) : Vx X g.1 7 (wsM g σ) 94 [(0, .ref (g.2.1 0)), (1, .int v1), (2, .int v2), (3, .int v3), (4, .int v4), (5, .int v5)] [.int s0] := by
  have h0 := hX.1
  rw [FX8_hangsOn_J94] at hf
  refine vx_istore (ls' := [(6, .int s0), (0, .ref (g.2.1 0)), (1, .int v1), (2, .int v2), (3, .int v3), (4, .int v4), (5, .int v5)]) h0 dX8_hangsOn_94 (by decide) rfl ?_
  refine vx_iload_n h0 dX8_hangsOn_96 rfl ?_
  refine vx_iload h0 dX8_hangsOn_97 rfl ?_
  refine vx_if_eq (tgt := 114) h0 dX8_hangsOn_99 (by decide) (fun c7 => ?_) (fun c7 => ?_)
  · replace hf := (if_pos c7).symm.trans hf
    refine vx_iconst (v := (0 : Int32)) h0 dX8_hangsOn_114 (by decide) ?_
    refine vx_ior h0 dX8_hangsOn_115 ?_
    refine vx_istore_n (ls' := [(3, .int (v3 ||| (0 : Int32))), (6, .int s0), (0, .ref (g.2.1 0)), (1, .int v1), (2, .int v2), (4, .int v4), (5, .int v5)]) h0 dX8_hangsOn_116 (by decide) rfl ?_
    refine vx_iinc (q := 6) (v := (v5 + (1 : Int32))) (ls' := [(5, .int (v5 + (1 : Int32))), (3, .int (v3 ||| (0 : Int32))), (6, .int s0), (0, .ref (g.2.1 0)), (1, .int v1), (2, .int v2), (4, .int v4)]) h0 dX8_hangsOn_117 rfl rfl (by decide) rfl ?_
    refine vx_goto (tgt := 17) h0 dX8_hangsOn_120 (by decide) ?_
    refine vx_sub [3, 4, 5, 1, 6, 0] rfl ?_
    exact hrec _ _ hf
  · replace hf := (if_neg c7).symm.trans hf
    refine vx_iconst (v := (1 : Int32)) h0 dX8_hangsOn_102 (by decide) ?_
    refine vx_aload_n h0 dX8_hangsOn_103 rfl ?_
    refine mg_0_11 hX q795 dX8_hangsOn_104 ?_
    refine vx_iload h0 dX8_hangsOn_107 rfl ?_
    obtain ⟨b8, hf⟩ := gd_some hf
    refine ml_8 hX b8 dX8_hangsOn_109 ?_
    refine vx_ishl h0 dX8_hangsOn_110 ?_
    refine vx_goto (tgt := 115) h0 dX8_hangsOn_111 (by decide) ?_
    refine vx_ior h0 dX8_hangsOn_115 ?_
    generalize (v3 ||| (jshl (1 : Int32) (gA σ 11 (Int32.toNatClampNeg v5)))) = x9 at hf ⊢
    replace hf := bd_h hf
    refine vx_istore_n (ls' := [(3, .int x9), (6, .int s0), (0, .ref (g.2.1 0)), (1, .int v1), (2, .int v2), (4, .int v4), (5, .int v5)]) h0 dX8_hangsOn_116 (by decide) rfl ?_
    refine vx_iinc (q := 6) (v := (v5 + (1 : Int32))) (ls' := [(5, .int (v5 + (1 : Int32))), (3, .int x9), (6, .int s0), (0, .ref (g.2.1 0)), (1, .int v1), (2, .int v2), (4, .int v4)]) h0 dX8_hangsOn_117 rfl rfl (by decide) rfl ?_
    refine vx_goto (tgt := 17) h0 dX8_hangsOn_120 (by decide) ?_
    refine vx_sub [3, 4, 5, 1, 6, 0] rfl ?_
    exact hrec _ _ hf
def FX8_hangsOn_J93 (σ : SS) (rec : Int32 → Int32 → Option (Int32)) (v1 : Int32) (v2 : Int32) (v3 : Int32) (v4 : Int32) (v5 : Int32) : Option (Int32) :=
  FX8_hangsOn_J94 σ (fun a10 a11 => rec a10 a11) v1 v2 v3 v4 v5 (0 : Int32)
set_option maxRecDepth 100000 in
set_option maxHeartbeats 4000000 in
theorem PX8_hangsOn_J93 {X : Bx} {g : Gx} {r : Int32} {σ : SS} (hX : Okw wsM X g cX8_hangsOn 7 RX8 (some .int) ({ frames := 1, cells := 0, slots := 0, locals := 21 } : Room) (fun g => some (.int r)) σ) {rec : Int32 → Int32 → Option (Int32)} {v1 : Int32} {v2 : Int32} {v3 : Int32} {v4 : Int32} {v5 : Int32} (hrec : ∀ (w3 : Int32) (w5 : Int32), rec w3 w5 = some r → Vx X g.1 7 (wsM g σ) 17 [(0, .ref (g.2.1 0)), (1, .int v1), (2, .int v2), (3, .int w3), (4, .int v4), (5, .int w5)] []) (hf : FX8_hangsOn_J93 σ rec v1 v2 v3 v4 v5 = some r) : Vx X g.1 7 (wsM g σ) 93 [(0, .ref (g.2.1 0)), (1, .int v1), (2, .int v2), (3, .int v3), (4, .int v4), (5, .int v5)] [] := by
  have h0 := hX.1
  rw [FX8_hangsOn_J93] at hf
  refine vx_iconst (v := (0 : Int32)) h0 dX8_hangsOn_93 (by decide) ?_
  exact PX8_hangsOn_J94 hX (fun a10 a11 hf => hrec a10 a11 hf) hf
def FX8_hangsOn_L17 (σ : SS) (v1 : Int32) (v2 : Int32) (v4 : Int32) (k : Int32 → Option (Int32)) : Nat → Int32 → Int32 → Option (Int32)
  | 0, _, _ => none
  | n + 1, v3, v5 => if (gI σ 8) ≤ v5 then k v3
    else gd (inb v4 30) (ob (FX8_has σ v1 (gA σ 9 (Int32.toNatClampNeg v4))) (fun r5 => if r5 = 0 then FX8_hangsOn_J93 σ (fun a12 a13 => FX8_hangsOn_L17 σ v1 v2 v4 k n a12 a13) v1 v2 v3 v4 v5
    else gd (inb v4 30) (if (gA σ 10 (Int32.toNatClampNeg v4)) = 0 then gd (inb v4 30) (if (gA σ 11 (Int32.toNatClampNeg v4)) = v2 then gd (inb v5 30) (gd (inb v4 30) (if (gA σ 9 (Int32.toNatClampNeg v5)) = (gA σ 9 (Int32.toNatClampNeg v4)) then gd (inb v5 30) (if (gA σ 10 (Int32.toNatClampNeg v5)) = (1 : Int32) then FX8_hangsOn_J94 σ (fun a31 a32 => FX8_hangsOn_L17 σ v1 v2 v4 k n a31 a32) v1 v2 v3 v4 v5 (1 : Int32)
    else FX8_hangsOn_J93 σ (fun a29 a30 => FX8_hangsOn_L17 σ v1 v2 v4 k n a29 a30) v1 v2 v3 v4 v5)
    else FX8_hangsOn_J93 σ (fun a25 a26 => FX8_hangsOn_L17 σ v1 v2 v4 k n a25 a26) v1 v2 v3 v4 v5))
    else FX8_hangsOn_J93 σ (fun a20 a21 => FX8_hangsOn_L17 σ v1 v2 v4 k n a20 a21) v1 v2 v3 v4 v5)
    else FX8_hangsOn_J93 σ (fun a16 a17 => FX8_hangsOn_L17 σ v1 v2 v4 k n a16 a17) v1 v2 v3 v4 v5)))
set_option maxRecDepth 100000 in
set_option maxHeartbeats 4000000 in
theorem PX8_hangsOn_L17 {X : Bx} {g : Gx} {r : Int32} {σ : SS} (hX : Okw wsM X g cX8_hangsOn 7 RX8 (some .int) ({ frames := 1, cells := 0, slots := 0, locals := 21 } : Room) (fun g => some (.int r)) σ) {v1 : Int32} {v2 : Int32} {v4 : Int32} {k : Int32 → Option (Int32)} (hk : ∀ (v3 : Int32), k v3 = some r → Vx X g.1 7 (wsM g σ) 123 [(0, .ref (g.2.1 0)), (1, .int v1), (2, .int v2), (3, .int v3), (4, .int v4)] []) : ∀ (n : Nat) (v3 : Int32) (v5 : Int32), FX8_hangsOn_L17 σ v1 v2 v4 k n v3 v5 = some r → Vx X g.1 7 (wsM g σ) 17 [(0, .ref (g.2.1 0)), (1, .int v1), (2, .int v2), (3, .int v3), (4, .int v4), (5, .int v5)] [] := by
  have h0 := hX.1
  intro n
  induction n with
  | zero =>
    intro v3 v5 hf
    rw [FX8_hangsOn_L17] at hf
    cases hf
  | succ n ih =>
    intro v3 v5 hf
    rw [FX8_hangsOn_L17] at hf
    refine vx_iload h0 dX8_hangsOn_17 rfl ?_
    refine vx_aload_n h0 dX8_hangsOn_19 rfl ?_
    refine mg_0_8 hX q792 dX8_hangsOn_20 ?_
    refine vx_icmp_ge (tgt := 123) h0 dX8_hangsOn_23 (by decide) (fun c2 => ?_) (fun c2 => ?_)
    · replace hf := (if_pos c2).symm.trans hf
      refine vx_sub [0, 1, 2, 3, 4] rfl ?_
      exact hk _ hf
    · replace hf := (if_neg c2).symm.trans hf
      refine vx_iload_n h0 dX8_hangsOn_26 rfl ?_
      refine vx_aload_n h0 dX8_hangsOn_27 rfl ?_
      refine mg_0_9 hX q793 dX8_hangsOn_28 ?_
      refine vx_iload h0 dX8_hangsOn_31 rfl ?_
      obtain ⟨b3, hf⟩ := gd_some hf
      refine ml_6 hX b3 dX8_hangsOn_33 ?_
      obtain ⟨r5, h4, hf⟩ := ob_some hf
      refine w_callS (st := []) hX (c_X8_has h4) ce_X8_has q927 ⟨rfl, rfl⟩ ⟨by decide, by decide⟩ rfl rfl rfl (Nat.le_of_ble_eq_true rfl) dX8_hangsOn_34 ?_
      show Vx X g.1 7 (wsM g σ) 37 [(0, .ref (g.2.1 0)), (1, .int v1), (2, .int v2), (3, .int v3), (4, .int v4), (5, .int v5)] [.int r5]
      refine vx_if_eq (tgt := 93) h0 dX8_hangsOn_37 (by decide) (fun c6 => ?_) (fun c6 => ?_)
      · replace hf := (if_pos c6).symm.trans hf
        exact PX8_hangsOn_J93 hX (fun a12 a13 hf => ih a12 a13 hf) hf
      · replace hf := (if_neg c6).symm.trans hf
        refine vx_aload_n h0 dX8_hangsOn_40 rfl ?_
        refine mg_0_10 hX q794 dX8_hangsOn_41 ?_
        refine vx_iload h0 dX8_hangsOn_44 rfl ?_
        obtain ⟨b14, hf⟩ := gd_some hf
        refine ml_7 hX b14 dX8_hangsOn_46 ?_
        refine vx_if_ne (tgt := 93) h0 dX8_hangsOn_47 (by decide) (fun c15 => ?_) (fun c15 => ?_)
        · replace hf := (if_neg c15).symm.trans hf
          exact PX8_hangsOn_J93 hX (fun a16 a17 hf => ih a16 a17 hf) hf
        · replace hf := (if_pos c15).symm.trans hf
          refine vx_aload_n h0 dX8_hangsOn_50 rfl ?_
          refine mg_0_11 hX q795 dX8_hangsOn_51 ?_
          refine vx_iload h0 dX8_hangsOn_54 rfl ?_
          obtain ⟨b18, hf⟩ := gd_some hf
          refine ml_8 hX b18 dX8_hangsOn_56 ?_
          refine vx_iload_n h0 dX8_hangsOn_57 rfl ?_
          refine vx_icmp_ne (tgt := 93) h0 dX8_hangsOn_58 (by decide) (fun c19 => ?_) (fun c19 => ?_)
          · replace hf := (if_neg c19).symm.trans hf
            exact PX8_hangsOn_J93 hX (fun a20 a21 hf => ih a20 a21 hf) hf
          · replace hf := (if_pos c19).symm.trans hf
            refine vx_aload_n h0 dX8_hangsOn_61 rfl ?_
            refine mg_0_9 hX q793 dX8_hangsOn_62 ?_
            refine vx_iload h0 dX8_hangsOn_65 rfl ?_
            obtain ⟨b22, hf⟩ := gd_some hf
            refine ml_6 hX b22 dX8_hangsOn_67 ?_
            refine vx_aload_n h0 dX8_hangsOn_68 rfl ?_
            refine mg_0_9 hX q793 dX8_hangsOn_69 ?_
            refine vx_iload h0 dX8_hangsOn_72 rfl ?_
            obtain ⟨b23, hf⟩ := gd_some hf
            refine ml_6 hX b23 dX8_hangsOn_74 ?_
            refine vx_icmp_ne (tgt := 93) h0 dX8_hangsOn_75 (by decide) (fun c24 => ?_) (fun c24 => ?_)
            · replace hf := (if_neg c24).symm.trans hf
              exact PX8_hangsOn_J93 hX (fun a25 a26 hf => ih a25 a26 hf) hf
            · replace hf := (if_pos c24).symm.trans hf
              refine vx_aload_n h0 dX8_hangsOn_78 rfl ?_
              refine mg_0_10 hX q794 dX8_hangsOn_79 ?_
              refine vx_iload h0 dX8_hangsOn_82 rfl ?_
              obtain ⟨b27, hf⟩ := gd_some hf
              refine ml_7 hX b27 dX8_hangsOn_84 ?_
              refine vx_iconst (v := (1 : Int32)) h0 dX8_hangsOn_85 (by decide) ?_
              refine vx_icmp_ne (tgt := 93) h0 dX8_hangsOn_86 (by decide) (fun c28 => ?_) (fun c28 => ?_)
              · replace hf := (if_neg c28).symm.trans hf
                exact PX8_hangsOn_J93 hX (fun a29 a30 hf => ih a29 a30 hf) hf
              · replace hf := (if_pos c28).symm.trans hf
                refine vx_iconst (v := (1 : Int32)) h0 dX8_hangsOn_89 (by decide) ?_
                refine vx_goto (tgt := 94) h0 dX8_hangsOn_90 (by decide) ?_
                exact PX8_hangsOn_J94 hX (fun a31 a32 hf => ih a31 a32 hf) hf
def FX8_hangsOn_L5 (σ : SS) (v1 : Int32) (v2 : Int32) (k : Int32 → Option (Int32)) : Nat → Int32 → Int32 → Option (Int32)
  | 0, _, _ => none
  | n + 1, v3, v4 => if (gI σ 8) ≤ v4 then k v3
    else FX8_hangsOn_L17 σ v1 v2 v4 (fun u33 => FX8_hangsOn_L5 σ v1 v2 k n u33 (v4 + (1 : Int32))) 5000 v3 (0 : Int32)
set_option maxRecDepth 100000 in
set_option maxHeartbeats 4000000 in
theorem PX8_hangsOn_L5 {X : Bx} {g : Gx} {r : Int32} {σ : SS} (hX : Okw wsM X g cX8_hangsOn 7 RX8 (some .int) ({ frames := 1, cells := 0, slots := 0, locals := 21 } : Room) (fun g => some (.int r)) σ) {v1 : Int32} {v2 : Int32} {k : Int32 → Option (Int32)} (hk : ∀ (v3 : Int32), k v3 = some r → Vx X g.1 7 (wsM g σ) 129 [(3, .int v3)] []) : ∀ (n : Nat) (v3 : Int32) (v4 : Int32), FX8_hangsOn_L5 σ v1 v2 k n v3 v4 = some r → Vx X g.1 7 (wsM g σ) 5 [(0, .ref (g.2.1 0)), (1, .int v1), (2, .int v2), (3, .int v3), (4, .int v4)] [] := by
  have h0 := hX.1
  intro n
  induction n with
  | zero =>
    intro v3 v4 hf
    rw [FX8_hangsOn_L5] at hf
    cases hf
  | succ n ih =>
    intro v3 v4 hf
    rw [FX8_hangsOn_L5] at hf
    refine vx_iload h0 dX8_hangsOn_5 rfl ?_
    refine vx_aload_n h0 dX8_hangsOn_7 rfl ?_
    refine mg_0_8 hX q792 dX8_hangsOn_8 ?_
    refine vx_icmp_ge (tgt := 129) h0 dX8_hangsOn_11 (by decide) (fun c1 => ?_) (fun c1 => ?_)
    · replace hf := (if_pos c1).symm.trans hf
      refine vx_sub [3] rfl ?_
      exact hk _ hf
    · replace hf := (if_neg c1).symm.trans hf
      refine vx_iconst (v := (0 : Int32)) h0 dX8_hangsOn_14 (by decide) ?_
      refine vx_istore (ls' := [(5, .int (0 : Int32)), (0, .ref (g.2.1 0)), (1, .int v1), (2, .int v2), (3, .int v3), (4, .int v4)]) h0 dX8_hangsOn_15 (by decide) rfl ?_
      refine vx_sub [1, 2, 3, 4, 5, 0] rfl ?_
      refine PX8_hangsOn_L17 hX (fun u33 hf => ?_) _ _ _ hf
      refine vx_iinc (q := 4) (v := (v4 + (1 : Int32))) (ls' := [(4, .int (v4 + (1 : Int32))), (0, .ref (g.2.1 0)), (1, .int v1), (2, .int v2), (3, .int u33)]) h0 dX8_hangsOn_123 rfl rfl (by decide) rfl ?_
      refine vx_goto (tgt := 5) h0 dX8_hangsOn_126 (by decide) ?_
      refine vx_sub [1, 2, 3, 4, 0] rfl ?_
      exact ih _ _ hf
def FX8_hangsOn (σ : SS) (a0 : Int32) (a1 : Int32) : Option (Int32) :=
  FX8_hangsOn_L5 σ a0 a1 (fun u34 => some u34) 5000 (0 : Int32) (0 : Int32)
set_option maxRecDepth 100000 in
set_option maxHeartbeats 4000000 in
theorem c_X8_hangsOn {σ : SS} {a0 : Int32} {a1 : Int32} {r : Int32} (hf : FX8_hangsOn σ a0 a1 = some r) : Mcw wsM yX8_hangsOn cX8_hangsOn 7 (some .int) ({ frames := 1, cells := 0, slots := 0, locals := 21 } : Room) (fun g => [.ref (g.2.1 0), .int a0, .int a1]) σ (fun g => some (.int r)) σ := by
  refine w_enter wsM_fix (by decide) (fun g => Nat.le_of_ble_eq_true rfl) ?_
  intro X g hX
  replace hX : Okw wsM X g cX8_hangsOn 7 RX8 (some .int) ({ frames := 1, cells := 0, slots := 0, locals := 21 } : Room) (fun g => some (.int r)) σ := hX
  have h0 := hX.1
  show Vx X g.1 7 (wsM g σ) 0 [(0, .ref (g.2.1 0)), (1, .int a0), (2, .int a1)] []
  rw [FX8_hangsOn] at hf
  refine vx_iconst (v := (0 : Int32)) h0 dX8_hangsOn_0 (by decide) ?_
  refine vx_istore_n (ls' := [(3, .int (0 : Int32)), (0, .ref (g.2.1 0)), (1, .int a0), (2, .int a1)]) h0 dX8_hangsOn_1 (by decide) rfl ?_
  refine vx_iconst (v := (0 : Int32)) h0 dX8_hangsOn_2 (by decide) ?_
  refine vx_istore (ls' := [(4, .int (0 : Int32)), (3, .int (0 : Int32)), (0, .ref (g.2.1 0)), (1, .int a0), (2, .int a1)]) h0 dX8_hangsOn_3 (by decide) rfl ?_
  refine vx_sub [2, 3, 4, 1, 0] rfl ?_
  refine PX8_hangsOn_L5 hX (fun u34 hf => ?_) _ _ _ hf
  refine vx_iload_n h0 dX8_hangsOn_129 rfl ?_
  exact w_iretP hX hf dX8_hangsOn_130
def FX8_roundOf_L4 (v1 : Int32) (v2 : Int32) (k : SS → Option (Int32 × SS)) : Nat → Int32 → SS → Option (Int32 × SS)
  | 0, _, _ => none
  | n + 1, v3, σ => if (8 : Int32) ≤ v3 then k σ
    else ob (FX8_hangsOn σ v1 v3) (fun r3 => gd (inb v3 8) (bd (sA σ 32 (upd (gA σ 32) (Int32.toNatClampNeg v3) r3)) (fun σ5 => FX8_roundOf_L4 v1 v2 k n (v3 + (1 : Int32)) σ5)))
set_option maxRecDepth 100000 in
set_option maxHeartbeats 4000000 in
theorem PX8_roundOf_L4 {X : Bx} {g : Gx} {r : Int32} {σr : SS} (hX : Okw wsM X g cX8_roundOf 7 RX8 (some .int) ({ frames := 2, cells := 0, slots := 0, locals := 47 } : Room) (fun g => some (.int r)) σr) {v1 : Int32} {v2 : Int32} {k : SS → Option (Int32 × SS)} (hk : ∀ (σ : SS), k σ = some (r, σr) → Vx X g.1 7 (wsM g σ) 28 [(0, .ref (g.2.1 0)), (2, .int v2)] []) : ∀ (n : Nat) (v3 : Int32) (σ : SS), FX8_roundOf_L4 v1 v2 k n v3 σ = some (r, σr) → Vx X g.1 7 (wsM g σ) 4 [(0, .ref (g.2.1 0)), (1, .int v1), (2, .int v2), (3, .int v3)] [] := by
  have h0 := hX.1
  intro n
  induction n with
  | zero =>
    intro v3 σ hf
    rw [FX8_roundOf_L4] at hf
    cases hf
  | succ n ih =>
    intro v3 σ hf
    rw [FX8_roundOf_L4] at hf
    refine vx_iload_n h0 dX8_roundOf_4 rfl ?_
    refine vx_bipush (v := (8 : Int32)) h0 dX8_roundOf_5 (by decide) ?_
    refine vx_icmp_ge (tgt := 28) h0 dX8_roundOf_7 (by decide) (fun c1 => ?_) (fun c1 => ?_)
    · replace hf := (if_pos c1).symm.trans hf
      refine vx_sub [0, 2] rfl ?_
      exact hk _ hf
    · replace hf := (if_neg c1).symm.trans hf
      refine vx_aload_n h0 dX8_roundOf_10 rfl ?_
      refine mg_0_32 hX q816 dX8_roundOf_11 ?_
      refine vx_iload_n h0 dX8_roundOf_14 rfl ?_
      refine vx_aload_n h0 dX8_roundOf_15 rfl ?_
      refine vx_iload_n h0 dX8_roundOf_16 rfl ?_
      refine vx_iload_n h0 dX8_roundOf_17 rfl ?_
      obtain ⟨r3, h2, hf⟩ := ob_some hf
      refine w_callV (st := [.int v3, .ref (g.2.1 21)]) (ci := 8) (q0 := 0) hX (c_X8_hangsOn h2) ce_X8_hangsOn q1037 ⟨rfl, rfl⟩ ⟨by decide, by decide⟩ rfl rfl rfl rfl (mo_0 g _) rfl (Nat.le_of_ble_eq_true rfl) dX8_roundOf_18 ?_
      show Vx X g.1 7 (wsM g σ) 21 [(0, .ref (g.2.1 0)), (1, .int v1), (2, .int v2), (3, .int v3)] [.int r3, .int v3, .ref (g.2.1 21)]
      obtain ⟨b4, hf⟩ := gd_some hf
      refine ms_21 hX b4 dX8_roundOf_21 ?_
      generalize (sA σ 32 (upd (gA σ 32) (Int32.toNatClampNeg v3) r3)) = σ5 at hf ⊢
      replace hf := bd_h hf
      refine vx_iinc (q := 3) (v := (v3 + (1 : Int32))) (ls' := [(3, .int (v3 + (1 : Int32))), (0, .ref (g.2.1 0)), (1, .int v1), (2, .int v2)]) h0 dX8_roundOf_22 rfl rfl (by decide) rfl ?_
      refine vx_goto (tgt := 4) h0 dX8_roundOf_25 (by decide) ?_
      refine vx_sub [1, 2, 3, 0] rfl ?_
      exact ih _ _ hf
def FX8_roundOf_L57 (σ : SS) (v2 : Int32) (v3 : Int32) (v5 : Int32) (k : Int32 → Option (Int32 × SS)) : Nat → Int32 → Int32 → Option (Int32 × SS)
  | 0, _, _ => none
  | n + 1, v4, v6 => if (8 : Int32) ≤ v6 then k v4
    else ob (FX8_has σ v4 v6) (fun r12 => if r12 = 0 then FX8_roundOf_L57 σ v2 v3 v5 k n (v4 ||| (0 : Int32)) (v6 + (1 : Int32))
    else gd (inb v6 8) (FX8_roundOf_L57 σ v2 v3 v5 k n (v4 ||| (gA σ 32 (Int32.toNatClampNeg v6))) (v6 + (1 : Int32))))
set_option maxRecDepth 100000 in
set_option maxHeartbeats 4000000 in
theorem PX8_roundOf_L57 {X : Bx} {g : Gx} {r : Int32} {σr : SS} {σ : SS} (hX : Okw wsM X g cX8_roundOf 7 RX8 (some .int) ({ frames := 2, cells := 0, slots := 0, locals := 47 } : Room) (fun g => some (.int r)) σr) {v2 : Int32} {v3 : Int32} {v5 : Int32} {k : Int32 → Option (Int32 × SS)} (hk : ∀ (v4 : Int32), k v4 = some (r, σr) → Vx X g.1 7 (wsM g σ) 96 [(0, .ref (g.2.1 0)), (2, .int v2), (3, .int v3), (4, .int v4), (5, .int v5)] []) : ∀ (n : Nat) (v4 : Int32) (v6 : Int32), FX8_roundOf_L57 σ v2 v3 v5 k n v4 v6 = some (r, σr) → Vx X g.1 7 (wsM g σ) 57 [(0, .ref (g.2.1 0)), (2, .int v2), (3, .int v3), (4, .int v4), (5, .int v5), (6, .int v6)] [] := by
  have h0 := hX.1
  intro n
  induction n with
  | zero =>
    intro v4 v6 hf
    rw [FX8_roundOf_L57] at hf
    cases hf
  | succ n ih =>
    intro v4 v6 hf
    rw [FX8_roundOf_L57] at hf
    refine vx_iload h0 dX8_roundOf_57 rfl ?_
    refine vx_bipush (v := (8 : Int32)) h0 dX8_roundOf_59 (by decide) ?_
    refine vx_icmp_ge (tgt := 96) h0 dX8_roundOf_61 (by decide) (fun c10 => ?_) (fun c10 => ?_)
    · replace hf := (if_pos c10).symm.trans hf
      refine vx_sub [0, 1, 2, 3, 4] rfl ?_
      exact hk _ hf
    · replace hf := (if_neg c10).symm.trans hf
      refine vx_iload h0 dX8_roundOf_64 rfl ?_
      refine vx_iload h0 dX8_roundOf_66 rfl ?_
      refine vx_iload h0 dX8_roundOf_68 rfl ?_
      obtain ⟨r12, h11, hf⟩ := ob_some hf
      refine w_callS (st := [.int v4]) hX (c_X8_has h11) ce_X8_has q927 ⟨rfl, rfl⟩ ⟨by decide, by decide⟩ rfl rfl rfl (Nat.le_of_ble_eq_true rfl) dX8_roundOf_70 ?_
      show Vx X g.1 7 (wsM g σ) 73 [(0, .ref (g.2.1 0)), (2, .int v2), (3, .int v3), (4, .int v4), (5, .int v5), (6, .int v6)] [.int r12, .int v4]
      refine vx_if_eq (tgt := 86) h0 dX8_roundOf_73 (by decide) (fun c13 => ?_) (fun c13 => ?_)
      · replace hf := (if_pos c13).symm.trans hf
        refine vx_iconst (v := (0 : Int32)) h0 dX8_roundOf_86 (by decide) ?_
        refine vx_ior h0 dX8_roundOf_87 ?_
        refine vx_istore (ls' := [(4, .int (v4 ||| (0 : Int32))), (0, .ref (g.2.1 0)), (2, .int v2), (3, .int v3), (5, .int v5), (6, .int v6)]) h0 dX8_roundOf_88 (by decide) rfl ?_
        refine vx_iinc (q := 5) (v := (v6 + (1 : Int32))) (ls' := [(6, .int (v6 + (1 : Int32))), (4, .int (v4 ||| (0 : Int32))), (0, .ref (g.2.1 0)), (2, .int v2), (3, .int v3), (5, .int v5)]) h0 dX8_roundOf_90 rfl rfl (by decide) rfl ?_
        refine vx_goto (tgt := 57) h0 dX8_roundOf_93 (by decide) ?_
        refine vx_sub [2, 3, 4, 1, 5, 0] rfl ?_
        exact ih _ _ hf
      · replace hf := (if_neg c13).symm.trans hf
        refine vx_aload_n h0 dX8_roundOf_76 rfl ?_
        refine mg_0_32 hX q816 dX8_roundOf_77 ?_
        refine vx_iload h0 dX8_roundOf_80 rfl ?_
        obtain ⟨b14, hf⟩ := gd_some hf
        refine ml_21 hX b14 dX8_roundOf_82 ?_
        refine vx_goto (tgt := 87) h0 dX8_roundOf_83 (by decide) ?_
        refine vx_ior h0 dX8_roundOf_87 ?_
        refine vx_istore (ls' := [(4, .int (v4 ||| (gA σ 32 (Int32.toNatClampNeg v6)))), (0, .ref (g.2.1 0)), (2, .int v2), (3, .int v3), (5, .int v5), (6, .int v6)]) h0 dX8_roundOf_88 (by decide) rfl ?_
        refine vx_iinc (q := 5) (v := (v6 + (1 : Int32))) (ls' := [(6, .int (v6 + (1 : Int32))), (4, .int (v4 ||| (gA σ 32 (Int32.toNatClampNeg v6)))), (0, .ref (g.2.1 0)), (2, .int v2), (3, .int v3), (5, .int v5)]) h0 dX8_roundOf_90 rfl rfl (by decide) rfl ?_
        refine vx_goto (tgt := 57) h0 dX8_roundOf_93 (by decide) ?_
        refine vx_sub [2, 3, 4, 1, 5, 0] rfl ?_
        exact ih _ _ hf
def FX8_roundOf_L47 (σ : SS) (v2 : Int32) (v3 : Int32) (k : Int32 → Option (Int32 × SS)) : Nat → Int32 → Int32 → Option (Int32 × SS)
  | 0, _, _ => none
  | n + 1, v4, v5 => if (8 : Int32) ≤ v5 then k v4
    else FX8_roundOf_L57 σ v2 v3 v5 (fun u15 => FX8_roundOf_L47 σ v2 v3 k n u15 (v5 + (1 : Int32))) 5000 v4 (0 : Int32)
set_option maxRecDepth 100000 in
set_option maxHeartbeats 4000000 in
theorem PX8_roundOf_L47 {X : Bx} {g : Gx} {r : Int32} {σr : SS} {σ : SS} (hX : Okw wsM X g cX8_roundOf 7 RX8 (some .int) ({ frames := 2, cells := 0, slots := 0, locals := 47 } : Room) (fun g => some (.int r)) σr) {v2 : Int32} {v3 : Int32} {k : Int32 → Option (Int32 × SS)} (hk : ∀ (v4 : Int32), k v4 = some (r, σr) → Vx X g.1 7 (wsM g σ) 102 [(0, .ref (g.2.1 0)), (2, .int v2), (3, .int v3), (4, .int v4)] []) : ∀ (n : Nat) (v4 : Int32) (v5 : Int32), FX8_roundOf_L47 σ v2 v3 k n v4 v5 = some (r, σr) → Vx X g.1 7 (wsM g σ) 47 [(0, .ref (g.2.1 0)), (2, .int v2), (3, .int v3), (4, .int v4), (5, .int v5)] [] := by
  have h0 := hX.1
  intro n
  induction n with
  | zero =>
    intro v4 v5 hf
    rw [FX8_roundOf_L47] at hf
    cases hf
  | succ n ih =>
    intro v4 v5 hf
    rw [FX8_roundOf_L47] at hf
    refine vx_iload h0 dX8_roundOf_47 rfl ?_
    refine vx_bipush (v := (8 : Int32)) h0 dX8_roundOf_49 (by decide) ?_
    refine vx_icmp_ge (tgt := 102) h0 dX8_roundOf_51 (by decide) (fun c9 => ?_) (fun c9 => ?_)
    · replace hf := (if_pos c9).symm.trans hf
      refine vx_sub [0, 1, 2, 3] rfl ?_
      exact hk _ hf
    · replace hf := (if_neg c9).symm.trans hf
      refine vx_iconst (v := (0 : Int32)) h0 dX8_roundOf_54 (by decide) ?_
      refine vx_istore (ls' := [(6, .int (0 : Int32)), (0, .ref (g.2.1 0)), (2, .int v2), (3, .int v3), (4, .int v4), (5, .int v5)]) h0 dX8_roundOf_55 (by decide) rfl ?_
      refine vx_sub [1, 2, 3, 4, 5, 0] rfl ?_
      refine PX8_roundOf_L57 hX (fun u15 hf => ?_) _ _ _ hf
      refine vx_iinc (q := 4) (v := (v5 + (1 : Int32))) (ls' := [(5, .int (v5 + (1 : Int32))), (0, .ref (g.2.1 0)), (2, .int v2), (3, .int v3), (4, .int u15)]) h0 dX8_roundOf_96 rfl rfl (by decide) rfl ?_
      refine vx_goto (tgt := 47) h0 dX8_roundOf_99 (by decide) ?_
      refine vx_sub [1, 2, 3, 4, 0] rfl ?_
      exact ih _ _ hf
def FX8_roundOf_L30 (σ : SS) (k : Int32 → Option (Int32 × SS)) : Nat → Int32 → Int32 → Option (Int32 × SS)
  | 0, _, _ => none
  | n + 1, v2, v3 => if (8 : Int32) ≤ v3 then k v2
    else gd (inb v3 8) (FX8_roundOf_L47 σ v2 v3 (fun u16 => ob (FX8_has σ u16 v3) (fun r18 => if r18 = 0 then FX8_roundOf_L30 σ k n (v2 ||| (0 : Int32)) (v3 + (1 : Int32))
    else FX8_roundOf_L30 σ k n (v2 ||| (jshl (1 : Int32) v3)) (v3 + (1 : Int32)))) 5000 (gA σ 32 (Int32.toNatClampNeg v3)) (0 : Int32))
set_option maxRecDepth 100000 in
set_option maxHeartbeats 4000000 in
theorem PX8_roundOf_L30 {X : Bx} {g : Gx} {r : Int32} {σr : SS} {σ : SS} (hX : Okw wsM X g cX8_roundOf 7 RX8 (some .int) ({ frames := 2, cells := 0, slots := 0, locals := 47 } : Room) (fun g => some (.int r)) σr) {k : Int32 → Option (Int32 × SS)} (hk : ∀ (v2 : Int32), k v2 = some (r, σr) → Vx X g.1 7 (wsM g σ) 127 [(2, .int v2)] []) : ∀ (n : Nat) (v2 : Int32) (v3 : Int32), FX8_roundOf_L30 σ k n v2 v3 = some (r, σr) → Vx X g.1 7 (wsM g σ) 30 [(0, .ref (g.2.1 0)), (2, .int v2), (3, .int v3)] [] := by
  have h0 := hX.1
  intro n
  induction n with
  | zero =>
    intro v2 v3 hf
    rw [FX8_roundOf_L30] at hf
    cases hf
  | succ n ih =>
    intro v2 v3 hf
    rw [FX8_roundOf_L30] at hf
    refine vx_iload_n h0 dX8_roundOf_30 rfl ?_
    refine vx_bipush (v := (8 : Int32)) h0 dX8_roundOf_31 (by decide) ?_
    refine vx_icmp_ge (tgt := 127) h0 dX8_roundOf_33 (by decide) (fun c7 => ?_) (fun c7 => ?_)
    · replace hf := (if_pos c7).symm.trans hf
      refine vx_sub [1] rfl ?_
      exact hk _ hf
    · replace hf := (if_neg c7).symm.trans hf
      refine vx_aload_n h0 dX8_roundOf_36 rfl ?_
      refine mg_0_32 hX q816 dX8_roundOf_37 ?_
      refine vx_iload_n h0 dX8_roundOf_40 rfl ?_
      obtain ⟨b8, hf⟩ := gd_some hf
      refine ml_21 hX b8 dX8_roundOf_41 ?_
      refine vx_istore (ls' := [(4, .int (gA σ 32 (Int32.toNatClampNeg v3))), (0, .ref (g.2.1 0)), (2, .int v2), (3, .int v3)]) h0 dX8_roundOf_42 (by decide) rfl ?_
      refine vx_iconst (v := (0 : Int32)) h0 dX8_roundOf_44 (by decide) ?_
      refine vx_istore (ls' := [(5, .int (0 : Int32)), (4, .int (gA σ 32 (Int32.toNatClampNeg v3))), (0, .ref (g.2.1 0)), (2, .int v2), (3, .int v3)]) h0 dX8_roundOf_45 (by decide) rfl ?_
      refine vx_sub [2, 3, 4, 1, 0] rfl ?_
      refine PX8_roundOf_L47 hX (fun u16 hf => ?_) _ _ _ hf
      refine vx_iload_n h0 dX8_roundOf_102 rfl ?_
      refine vx_iload h0 dX8_roundOf_103 rfl ?_
      refine vx_iload_n h0 dX8_roundOf_105 rfl ?_
      obtain ⟨r18, h17, hf⟩ := ob_some hf
      refine w_callS (st := [.int v2]) hX (c_X8_has h17) ce_X8_has q927 ⟨rfl, rfl⟩ ⟨by decide, by decide⟩ rfl rfl rfl (Nat.le_of_ble_eq_true rfl) dX8_roundOf_106 ?_
      show Vx X g.1 7 (wsM g σ) 109 [(0, .ref (g.2.1 0)), (2, .int v2), (3, .int v3), (4, .int u16)] [.int r18, .int v2]
      refine vx_if_eq (tgt := 118) h0 dX8_roundOf_109 (by decide) (fun c19 => ?_) (fun c19 => ?_)
      · replace hf := (if_pos c19).symm.trans hf
        refine vx_iconst (v := (0 : Int32)) h0 dX8_roundOf_118 (by decide) ?_
        refine vx_ior h0 dX8_roundOf_119 ?_
        refine vx_istore_n (ls' := [(2, .int (v2 ||| (0 : Int32))), (0, .ref (g.2.1 0)), (3, .int v3), (4, .int u16)]) h0 dX8_roundOf_120 (by decide) rfl ?_
        refine vx_iinc (q := 2) (v := (v3 + (1 : Int32))) (ls' := [(3, .int (v3 + (1 : Int32))), (2, .int (v2 ||| (0 : Int32))), (0, .ref (g.2.1 0)), (4, .int u16)]) h0 dX8_roundOf_121 rfl rfl (by decide) rfl ?_
        refine vx_goto (tgt := 30) h0 dX8_roundOf_124 (by decide) ?_
        refine vx_sub [2, 1, 0] rfl ?_
        exact ih _ _ hf
      · replace hf := (if_neg c19).symm.trans hf
        refine vx_iconst (v := (1 : Int32)) h0 dX8_roundOf_112 (by decide) ?_
        refine vx_iload_n h0 dX8_roundOf_113 rfl ?_
        refine vx_ishl h0 dX8_roundOf_114 ?_
        refine vx_goto (tgt := 119) h0 dX8_roundOf_115 (by decide) ?_
        refine vx_ior h0 dX8_roundOf_119 ?_
        refine vx_istore_n (ls' := [(2, .int (v2 ||| (jshl (1 : Int32) v3))), (0, .ref (g.2.1 0)), (3, .int v3), (4, .int u16)]) h0 dX8_roundOf_120 (by decide) rfl ?_
        refine vx_iinc (q := 2) (v := (v3 + (1 : Int32))) (ls' := [(3, .int (v3 + (1 : Int32))), (2, .int (v2 ||| (jshl (1 : Int32) v3))), (0, .ref (g.2.1 0)), (4, .int u16)]) h0 dX8_roundOf_121 rfl rfl (by decide) rfl ?_
        refine vx_goto (tgt := 30) h0 dX8_roundOf_124 (by decide) ?_
        refine vx_sub [2, 1, 0] rfl ?_
        exact ih _ _ hf
def FX8_roundOf (σ : SS) (a0 : Int32) : Option (Int32 × SS) :=
  FX8_roundOf_L4 a0 (0 : Int32) (fun σ6 => FX8_roundOf_L30 σ6 (fun u20 => some (u20, σ6)) 5000 (0 : Int32) (0 : Int32)) 5000 (0 : Int32) σ
set_option maxRecDepth 100000 in
set_option maxHeartbeats 4000000 in
theorem c_X8_roundOf {σ : SS} {a0 : Int32} {r : Int32} {σr : SS} (hf : FX8_roundOf σ a0 = some (r, σr)) : Mcw wsM yX8_roundOf cX8_roundOf 7 (some .int) ({ frames := 2, cells := 0, slots := 0, locals := 47 } : Room) (fun g => [.ref (g.2.1 0), .int a0]) σ (fun g => some (.int r)) σr := by
  refine w_enter wsM_fix (by decide) (fun g => Nat.le_of_ble_eq_true rfl) ?_
  intro X g hX
  replace hX : Okw wsM X g cX8_roundOf 7 RX8 (some .int) ({ frames := 2, cells := 0, slots := 0, locals := 47 } : Room) (fun g => some (.int r)) σr := hX
  have h0 := hX.1
  show Vx X g.1 7 (wsM g σ) 0 [(0, .ref (g.2.1 0)), (1, .int a0)] []
  rw [FX8_roundOf] at hf
  refine vx_iconst (v := (0 : Int32)) h0 dX8_roundOf_0 (by decide) ?_
  refine vx_istore_n (ls' := [(2, .int (0 : Int32)), (0, .ref (g.2.1 0)), (1, .int a0)]) h0 dX8_roundOf_1 (by decide) rfl ?_
  refine vx_iconst (v := (0 : Int32)) h0 dX8_roundOf_2 (by decide) ?_
  refine vx_istore_n (ls' := [(3, .int (0 : Int32)), (2, .int (0 : Int32)), (0, .ref (g.2.1 0)), (1, .int a0)]) h0 dX8_roundOf_3 (by decide) rfl ?_
  refine vx_sub [2, 3, 1, 0] rfl ?_
  refine PX8_roundOf_L4 hX (fun σ6 hf => ?_) _ _ _ hf
  refine vx_iconst (v := (0 : Int32)) h0 dX8_roundOf_28 (by decide) ?_
  refine vx_istore_n (ls' := [(3, .int (0 : Int32)), (0, .ref (g.2.1 0)), (2, .int (0 : Int32))]) h0 dX8_roundOf_29 (by decide) rfl ?_
  refine vx_sub [1, 2, 0] rfl ?_
  refine PX8_roundOf_L30 hX (fun u20 hf => ?_) _ _ _ hf
  refine vx_iload_n h0 dX8_roundOf_127 rfl ?_
  exact w_iretE hX hf dX8_roundOf_128
def FX8_count_L5 (σ : SS) (v1 : Int32) (v2 : Int32) (k : Int32 → Option (Int32)) : Nat → Int32 → Int32 → Option (Int32)
  | 0, _, _ => none
  | n + 1, v3, v4 => if (gI σ 8) ≤ v4 then k v3
    else ob (FX8_isWrong σ v1 v4 v2) (fun r3 => if r3 = 0 then FX8_count_L5 σ v1 v2 k n (v3 + (0 : Int32)) (v4 + (1 : Int32))
    else FX8_count_L5 σ v1 v2 k n (v3 + (1 : Int32)) (v4 + (1 : Int32)))
set_option maxRecDepth 100000 in
set_option maxHeartbeats 4000000 in
theorem PX8_count_L5 {X : Bx} {g : Gx} {r : Int32} {σ : SS} (hX : Okw wsM X g cX8_count 5 RX8 (some .int) ({ frames := 3, cells := 0, slots := 0, locals := 70 } : Room) (fun g => some (.int r)) σ) {v1 : Int32} {v2 : Int32} {k : Int32 → Option (Int32)} (hk : ∀ (v3 : Int32), k v3 = some r → Vx X g.1 5 (wsM g σ) 39 [(3, .int v3)] []) : ∀ (n : Nat) (v3 : Int32) (v4 : Int32), FX8_count_L5 σ v1 v2 k n v3 v4 = some r → Vx X g.1 5 (wsM g σ) 5 [(0, .ref (g.2.1 0)), (1, .int v1), (2, .int v2), (3, .int v3), (4, .int v4)] [] := by
  have h0 := hX.1
  intro n
  induction n with
  | zero =>
    intro v3 v4 hf
    rw [FX8_count_L5] at hf
    cases hf
  | succ n ih =>
    intro v3 v4 hf
    rw [FX8_count_L5] at hf
    refine vx_iload h0 dX8_count_5 rfl ?_
    refine vx_aload_n h0 dX8_count_7 rfl ?_
    refine mg_0_8 hX q792 dX8_count_8 ?_
    refine vx_icmp_ge (tgt := 39) h0 dX8_count_11 (by decide) (fun c1 => ?_) (fun c1 => ?_)
    · replace hf := (if_pos c1).symm.trans hf
      refine vx_sub [3] rfl ?_
      exact hk _ hf
    · replace hf := (if_neg c1).symm.trans hf
      refine vx_iload_n h0 dX8_count_14 rfl ?_
      refine vx_aload_n h0 dX8_count_15 rfl ?_
      refine vx_iload_n h0 dX8_count_16 rfl ?_
      refine vx_iload h0 dX8_count_17 rfl ?_
      refine vx_iload_n h0 dX8_count_19 rfl ?_
      obtain ⟨r3, h2, hf⟩ := ob_some hf
      refine w_callV (st := [.int v3]) (ci := 8) (q0 := 0) hX (c_X8_isWrong h2) ce_X8_isWrong q1025 ⟨rfl, rfl⟩ ⟨by decide, by decide⟩ rfl rfl rfl rfl (mo_0 g _) rfl (Nat.le_of_ble_eq_true rfl) dX8_count_20 ?_
      show Vx X g.1 5 (wsM g σ) 23 [(0, .ref (g.2.1 0)), (1, .int v1), (2, .int v2), (3, .int v3), (4, .int v4)] [.int r3, .int v3]
      refine vx_if_eq (tgt := 30) h0 dX8_count_23 (by decide) (fun c4 => ?_) (fun c4 => ?_)
      · replace hf := (if_pos c4).symm.trans hf
        refine vx_iconst (v := (0 : Int32)) h0 dX8_count_30 (by decide) ?_
        refine vx_iadd h0 dX8_count_31 ?_
        refine vx_istore_n (ls' := [(3, .int (v3 + (0 : Int32))), (0, .ref (g.2.1 0)), (1, .int v1), (2, .int v2), (4, .int v4)]) h0 dX8_count_32 (by decide) rfl ?_
        refine vx_iinc (q := 4) (v := (v4 + (1 : Int32))) (ls' := [(4, .int (v4 + (1 : Int32))), (3, .int (v3 + (0 : Int32))), (0, .ref (g.2.1 0)), (1, .int v1), (2, .int v2)]) h0 dX8_count_33 rfl rfl (by decide) rfl ?_
        refine vx_goto (tgt := 5) h0 dX8_count_36 (by decide) ?_
        refine vx_sub [2, 3, 4, 1, 0] rfl ?_
        exact ih _ _ hf
      · replace hf := (if_neg c4).symm.trans hf
        refine vx_iconst (v := (1 : Int32)) h0 dX8_count_26 (by decide) ?_
        refine vx_goto (tgt := 31) h0 dX8_count_27 (by decide) ?_
        refine vx_iadd h0 dX8_count_31 ?_
        refine vx_istore_n (ls' := [(3, .int (v3 + (1 : Int32))), (0, .ref (g.2.1 0)), (1, .int v1), (2, .int v2), (4, .int v4)]) h0 dX8_count_32 (by decide) rfl ?_
        refine vx_iinc (q := 4) (v := (v4 + (1 : Int32))) (ls' := [(4, .int (v4 + (1 : Int32))), (3, .int (v3 + (1 : Int32))), (0, .ref (g.2.1 0)), (1, .int v1), (2, .int v2)]) h0 dX8_count_33 rfl rfl (by decide) rfl ?_
        refine vx_goto (tgt := 5) h0 dX8_count_36 (by decide) ?_
        refine vx_sub [2, 3, 4, 1, 0] rfl ?_
        exact ih _ _ hf
def FX8_count (σ : SS) (a0 : Int32) (a1 : Int32) : Option (Int32) :=
  FX8_count_L5 σ a0 a1 (fun u5 => some u5) 5000 (0 : Int32) (0 : Int32)
set_option maxRecDepth 100000 in
set_option maxHeartbeats 4000000 in
theorem c_X8_count {σ : SS} {a0 : Int32} {a1 : Int32} {r : Int32} (hf : FX8_count σ a0 a1 = some r) : Mcw wsM yX8_count cX8_count 5 (some .int) ({ frames := 3, cells := 0, slots := 0, locals := 70 } : Room) (fun g => [.ref (g.2.1 0), .int a0, .int a1]) σ (fun g => some (.int r)) σ := by
  refine w_enter wsM_fix (by decide) (fun g => Nat.le_of_ble_eq_true rfl) ?_
  intro X g hX
  replace hX : Okw wsM X g cX8_count 5 RX8 (some .int) ({ frames := 3, cells := 0, slots := 0, locals := 70 } : Room) (fun g => some (.int r)) σ := hX
  have h0 := hX.1
  show Vx X g.1 5 (wsM g σ) 0 [(0, .ref (g.2.1 0)), (1, .int a0), (2, .int a1)] []
  rw [FX8_count] at hf
  refine vx_iconst (v := (0 : Int32)) h0 dX8_count_0 (by decide) ?_
  refine vx_istore_n (ls' := [(3, .int (0 : Int32)), (0, .ref (g.2.1 0)), (1, .int a0), (2, .int a1)]) h0 dX8_count_1 (by decide) rfl ?_
  refine vx_iconst (v := (0 : Int32)) h0 dX8_count_2 (by decide) ?_
  refine vx_istore (ls' := [(4, .int (0 : Int32)), (3, .int (0 : Int32)), (0, .ref (g.2.1 0)), (1, .int a0), (2, .int a1)]) h0 dX8_count_3 (by decide) rfl ?_
  refine vx_sub [2, 3, 4, 1, 0] rfl ?_
  refine PX8_count_L5 hX (fun u5 hf => ?_) _ _ _ hf
  refine vx_iload_n h0 dX8_count_39 rfl ?_
  exact w_iretP hX hf dX8_count_40
def FX8_wrongBy (σ : SS) (a0 : Int32) : Option (Int32 × SS) :=
  ob (FX8_count σ a0 (0 : Int32)) (fun r2 => ob (FX8_count σ a0 (1 : Int32)) (fun r4 => ob (FX8_count σ a0 (3 : Int32)) (fun r6 => ob (FX8_roundOf σ a0) (fun p8 => ob (FX8_ones p8.2 p8.1) (fun r10 => some ((((r2 + r4) + r6) + r10), p8.2))))))
set_option maxRecDepth 100000 in
set_option maxHeartbeats 4000000 in
theorem c_X8_wrongBy {σ : SS} {a0 : Int32} {r : Int32} {σr : SS} (hf : FX8_wrongBy σ a0 = some (r, σr)) : Mcw wsM yX8_wrongBy cX8_wrongBy 2 (some .int) ({ frames := 4, cells := 0, slots := 0, locals := 94 } : Room) (fun g => [.ref (g.2.1 0), .int a0]) σ (fun g => some (.int r)) σr := by
  refine w_enter wsM_fix (by decide) (fun g => Nat.le_of_ble_eq_true rfl) ?_
  intro X g hX
  replace hX : Okw wsM X g cX8_wrongBy 2 RX8 (some .int) ({ frames := 4, cells := 0, slots := 0, locals := 94 } : Room) (fun g => some (.int r)) σr := hX
  have h0 := hX.1
  show Vx X g.1 2 (wsM g σ) 0 [(0, .ref (g.2.1 0)), (1, .int a0)] []
  rw [FX8_wrongBy] at hf
  refine vx_aload_n h0 dX8_wrongBy_0 rfl ?_
  refine vx_iload_n h0 dX8_wrongBy_1 rfl ?_
  refine vx_iconst (v := (0 : Int32)) h0 dX8_wrongBy_2 (by decide) ?_
  obtain ⟨r2, h1, hf⟩ := ob_some hf
  refine w_callV (st := []) (ci := 8) (q0 := 0) hX (c_X8_count h1) ce_X8_count q1021 ⟨rfl, rfl⟩ ⟨by decide, by decide⟩ rfl rfl rfl rfl (mo_0 g _) rfl (Nat.le_of_ble_eq_true rfl) dX8_wrongBy_3 ?_
  show Vx X g.1 2 (wsM g σ) 6 [(0, .ref (g.2.1 0)), (1, .int a0)] [.int r2]
  refine vx_aload_n h0 dX8_wrongBy_6 rfl ?_
  refine vx_iload_n h0 dX8_wrongBy_7 rfl ?_
  refine vx_iconst (v := (1 : Int32)) h0 dX8_wrongBy_8 (by decide) ?_
  obtain ⟨r4, h3, hf⟩ := ob_some hf
  refine w_callV (st := [.int r2]) (ci := 8) (q0 := 0) hX (c_X8_count h3) ce_X8_count q1021 ⟨rfl, rfl⟩ ⟨by decide, by decide⟩ rfl rfl rfl rfl (mo_0 g _) rfl (Nat.le_of_ble_eq_true rfl) dX8_wrongBy_9 ?_
  show Vx X g.1 2 (wsM g σ) 12 [(0, .ref (g.2.1 0)), (1, .int a0)] [.int r4, .int r2]
  refine vx_iadd h0 dX8_wrongBy_12 ?_
  refine vx_aload_n h0 dX8_wrongBy_13 rfl ?_
  refine vx_iload_n h0 dX8_wrongBy_14 rfl ?_
  refine vx_iconst (v := (3 : Int32)) h0 dX8_wrongBy_15 (by decide) ?_
  obtain ⟨r6, h5, hf⟩ := ob_some hf
  refine w_callV (st := [.int (r2 + r4)]) (ci := 8) (q0 := 0) hX (c_X8_count h5) ce_X8_count q1021 ⟨rfl, rfl⟩ ⟨by decide, by decide⟩ rfl rfl rfl rfl (mo_0 g _) rfl (Nat.le_of_ble_eq_true rfl) dX8_wrongBy_16 ?_
  show Vx X g.1 2 (wsM g σ) 19 [(0, .ref (g.2.1 0)), (1, .int a0)] [.int r6, .int (r2 + r4)]
  refine vx_iadd h0 dX8_wrongBy_19 ?_
  refine vx_aload_n h0 dX8_wrongBy_20 rfl ?_
  refine vx_iload_n h0 dX8_wrongBy_21 rfl ?_
  obtain ⟨p8, h7, hf⟩ := ob_some hf
  refine w_callV (st := [.int ((r2 + r4) + r6)]) (ci := 8) (q0 := 0) hX (c_X8_roundOf h7) ce_X8_roundOf q1033 ⟨rfl, rfl⟩ ⟨by decide, by decide⟩ rfl rfl rfl rfl (mo_0 g _) rfl (Nat.le_of_ble_eq_true rfl) dX8_wrongBy_22 ?_
  show Vx X g.1 2 (wsM g p8.2) 25 [(0, .ref (g.2.1 0)), (1, .int a0)] [.int p8.1, .int ((r2 + r4) + r6)]
  obtain ⟨r10, h9, hf⟩ := ob_some hf
  refine w_callS (st := [.int ((r2 + r4) + r6)]) hX (c_X8_ones h9) ce_X8_ones q985 ⟨rfl, rfl⟩ ⟨by decide, by decide⟩ rfl rfl rfl (Nat.le_of_ble_eq_true rfl) dX8_wrongBy_25 ?_
  show Vx X g.1 2 (wsM g p8.2) 28 [(0, .ref (g.2.1 0)), (1, .int a0)] [.int r10, .int ((r2 + r4) + r6)]
  refine vx_iadd h0 dX8_wrongBy_28 ?_
  exact w_iretE hX hf dX8_wrongBy_29
