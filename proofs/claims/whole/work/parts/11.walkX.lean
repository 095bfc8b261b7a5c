/-! printed by wip/whole/gen.py: decode rows, functions, contracts -/
theorem dX4_readFigure_0 : decode cX4_readFigure 0 = .ok (.aload_n 0, 1) := by decide +kernel
theorem dX4_readFigure_1 : decode cX4_readFigure 1 = .ok (.invokevirtual 44, 3) := by decide +kernel
theorem dX4_readFigure_4 : decode cX4_readFigure 4 = .ok (.aload_n 0, 1) := by decide +kernel
theorem dX4_readFigure_5 : decode cX4_readFigure 5 = .ok (.invokevirtual 111, 3) := by decide +kernel
theorem dX4_readFigure_8 : decode cX4_readFigure 8 = .ok (.istore_n 2, 1) := by decide +kernel
theorem dX4_readFigure_9 : decode cX4_readFigure 9 = .ok (.iload_n 2, 1) := by decide +kernel
theorem dX4_readFigure_10 : decode cX4_readFigure 10 = .ok (.iconst (-1), 1) := by decide +kernel
theorem dX4_readFigure_11 : decode cX4_readFigure 11 = .ok (.if_icmp .ne 14, 3) := by decide +kernel
theorem dX4_readFigure_14 : decode cX4_readFigure 14 = .ok (.aload_n 0, 1) := by decide +kernel
theorem dX4_readFigure_15 : decode cX4_readFigure 15 = .ok (.iconst 1, 1) := by decide +kernel
theorem dX4_readFigure_16 : decode cX4_readFigure 16 = .ok (.aload_n 0, 1) := by decide +kernel
theorem dX4_readFigure_17 : decode cX4_readFigure 17 = .ok (.getfield 38, 3) := by decide +kernel
theorem dX4_readFigure_20 : decode cX4_readFigure 20 = .ok (.invokevirtual 50, 3) := by decide +kernel
theorem dX4_readFigure_23 : decode cX4_readFigure 23 = .ok (.iconst (-1), 1) := by decide +kernel
theorem dX4_readFigure_24 : decode cX4_readFigure 24 = .ok (.ireturn, 1) := by decide +kernel
theorem dX4_readFigure_25 : decode cX4_readFigure 25 = .ok (.iload_n 2, 1) := by decide +kernel
theorem dX4_readFigure_26 : decode cX4_readFigure 26 = .ok (.iload_n 1, 1) := by decide +kernel
theorem dX4_readFigure_27 : decode cX4_readFigure 27 = .ok (.if_icmp .lt 14, 3) := by decide +kernel
theorem dX4_readFigure_30 : decode cX4_readFigure 30 = .ok (.aload_n 0, 1) := by decide +kernel
theorem dX4_readFigure_31 : decode cX4_readFigure 31 = .ok (.iconst 2, 1) := by decide +kernel
theorem dX4_readFigure_32 : decode cX4_readFigure 32 = .ok (.aload_n 0, 1) := by decide +kernel
theorem dX4_readFigure_33 : decode cX4_readFigure 33 = .ok (.getfield 38, 3) := by decide +kernel
theorem dX4_readFigure_36 : decode cX4_readFigure 36 = .ok (.invokevirtual 50, 3) := by decide +kernel
theorem dX4_readFigure_39 : decode cX4_readFigure 39 = .ok (.iconst (-1), 1) := by decide +kernel
theorem dX4_readFigure_40 : decode cX4_readFigure 40 = .ok (.ireturn, 1) := by decide +kernel
theorem dX4_readFigure_41 : decode cX4_readFigure 41 = .ok (.aload_n 0, 1) := by decide +kernel
theorem dX4_readFigure_42 : decode cX4_readFigure 42 = .ok (.dup, 1) := by decide +kernel
theorem dX4_readFigure_43 : decode cX4_readFigure 43 = .ok (.getfield 38, 3) := by decide +kernel
theorem dX4_readFigure_46 : decode cX4_readFigure 46 = .ok (.iconst 1, 1) := by decide +kernel
theorem dX4_readFigure_47 : decode cX4_readFigure 47 = .ok (.iadd, 1) := by decide +kernel
theorem dX4_readFigure_48 : decode cX4_readFigure 48 = .ok (.putfield 38, 3) := by decide +kernel
theorem dX4_readFigure_51 : decode cX4_readFigure 51 = .ok (.iload_n 2, 1) := by decide +kernel
theorem dX4_readFigure_52 : decode cX4_readFigure 52 = .ok (.ireturn, 1) := by decide +kernel
theorem dX4_readWant_0 : decode cX4_readWant 0 = .ok (.aload_n 0, 1) := by decide +kernel
theorem dX4_readWant_1 : decode cX4_readWant 1 = .ok (.invokevirtual 57, 3) := by decide +kernel
theorem dX4_readWant_4 : decode cX4_readWant 4 = .ok (.bipush 43, 2) := by decide +kernel
theorem dX4_readWant_6 : decode cX4_readWant 6 = .ok (.if_icmp .ne 7, 3) := by decide +kernel
theorem dX4_readWant_9 : decode cX4_readWant 9 = .ok (.iconst 1, 1) := by decide +kernel
theorem dX4_readWant_10 : decode cX4_readWant 10 = .ok (.goto 4, 3) := by decide +kernel
theorem dX4_readWant_13 : decode cX4_readWant 13 = .ok (.iconst 0, 1) := by decide +kernel
theorem dX4_readWant_14 : decode cX4_readWant 14 = .ok (.istore_n 2, 1) := by decide +kernel
theorem dX4_readWant_15 : decode cX4_readWant 15 = .ok (.aload_n 0, 1) := by decide +kernel
theorem dX4_readWant_16 : decode cX4_readWant 16 = .ok (.dup, 1) := by decide +kernel
theorem dX4_readWant_17 : decode cX4_readWant 17 = .ok (.getfield 38, 3) := by decide +kernel
theorem dX4_readWant_20 : decode cX4_readWant 20 = .ok (.iconst 1, 1) := by decide +kernel
theorem dX4_readWant_21 : decode cX4_readWant 21 = .ok (.iadd, 1) := by decide +kernel
theorem dX4_readWant_22 : decode cX4_readWant 22 = .ok (.putfield 38, 3) := by decide +kernel
theorem dX4_readWant_25 : decode cX4_readWant 25 = .ok (.aload_n 0, 1) := by decide +kernel
theorem dX4_readWant_26 : decode cX4_readWant 26 = .ok (.bipush 6, 2) := by decide +kernel
theorem dX4_readWant_28 : decode cX4_readWant 28 = .ok (.invokevirtual 88, 3) := by decide +kernel
theorem dX4_readWant_31 : decode cX4_readWant 31 = .ok (.istore_n 3, 1) := by decide +kernel
theorem dX4_readWant_32 : decode cX4_readWant 32 = .ok (.iload_n 3, 1) := by decide +kernel
theorem dX4_readWant_33 : decode cX4_readWant 33 = .ok (.iconst (-1), 1) := by decide +kernel
theorem dX4_readWant_34 : decode cX4_readWant 34 = .ok (.if_icmp .ne 4, 3) := by decide +kernel
theorem dX4_readWant_37 : decode cX4_readWant 37 = .ok (.return_, 1) := by decide +kernel
theorem dX4_readWant_38 : decode cX4_readWant 38 = .ok (.aload_n 0, 1) := by decide +kernel
theorem dX4_readWant_39 : decode cX4_readWant 39 = .ok (.getfield 18, 3) := by decide +kernel
theorem dX4_readWant_42 : decode cX4_readWant 42 = .ok (.getfield 91, 3) := by decide +kernel
theorem dX4_readWant_45 : decode cX4_readWant 45 = .ok (.iload_n 1, 1) := by decide +kernel
theorem dX4_readWant_46 : decode cX4_readWant 46 = .ok (.iaload, 1) := by decide +kernel
theorem dX4_readWant_47 : decode cX4_readWant 47 = .ok (.aload_n 0, 1) := by decide +kernel
theorem dX4_readWant_48 : decode cX4_readWant 48 = .ok (.getfield 18, 3) := by decide +kernel
theorem dX4_readWant_51 : decode cX4_readWant 51 = .ok (.getfield 94, 3) := by decide +kernel
theorem dX4_readWant_54 : decode cX4_readWant 54 = .ok (.iload_n 1, 1) := by decide +kernel
theorem dX4_readWant_55 : decode cX4_readWant 55 = .ok (.iaload, 1) := by decide +kernel
theorem dX4_readWant_56 : decode cX4_readWant 56 = .ok (.ior, 1) := by decide +kernel
theorem dX4_readWant_57 : decode cX4_readWant 57 = .ok (.iload_n 3, 1) := by decide +kernel
theorem dX4_readWant_58 : decode cX4_readWant 58 = .ok (.invokestatic 97, 3) := by decide +kernel
theorem dX4_readWant_61 : decode cX4_readWant 61 = .ok (.ifCond .eq 17, 3) := by decide +kernel
theorem dX4_readWant_64 : decode cX4_readWant 64 = .ok (.aload_n 0, 1) := by decide +kernel
theorem dX4_readWant_65 : decode cX4_readWant 65 = .ok (.iconst 4, 1) := by decide +kernel
theorem dX4_readWant_66 : decode cX4_readWant 66 = .ok (.aload_n 0, 1) := by decide +kernel
theorem dX4_readWant_67 : decode cX4_readWant 67 = .ok (.getfield 38, 3) := by decide +kernel
theorem dX4_readWant_70 : decode cX4_readWant 70 = .ok (.iconst 1, 1) := by decide +kernel
theorem dX4_readWant_71 : decode cX4_readWant 71 = .ok (.isub, 1) := by decide +kernel
theorem dX4_readWant_72 : decode cX4_readWant 72 = .ok (.invokevirtual 50, 3) := by decide +kernel
theorem dX4_readWant_75 : decode cX4_readWant 75 = .ok (.goto 40, 3) := by decide +kernel
theorem dX4_readWant_78 : decode cX4_readWant 78 = .ok (.iload_n 2, 1) := by decide +kernel
theorem dX4_readWant_79 : decode cX4_readWant 79 = .ok (.ifCond .eq 21, 3) := by decide +kernel
theorem dX4_readWant_82 : decode cX4_readWant 82 = .ok (.aload_n 0, 1) := by decide +kernel
theorem dX4_readWant_83 : decode cX4_readWant 83 = .ok (.getfield 18, 3) := by decide +kernel
theorem dX4_readWant_86 : decode cX4_readWant 86 = .ok (.getfield 91, 3) := by decide +kernel
theorem dX4_readWant_89 : decode cX4_readWant 89 = .ok (.iload_n 1, 1) := by decide +kernel
theorem dX4_readWant_90 : decode cX4_readWant 90 = .ok (.dup2, 1) := by decide +kernel
theorem dX4_readWant_91 : decode cX4_readWant 91 = .ok (.iaload, 1) := by decide +kernel
theorem dX4_readWant_92 : decode cX4_readWant 92 = .ok (.iconst 1, 1) := by decide +kernel
theorem dX4_readWant_93 : decode cX4_readWant 93 = .ok (.iload_n 3, 1) := by decide +kernel
theorem dX4_readWant_94 : decode cX4_readWant 94 = .ok (.ishl, 1) := by decide +kernel
theorem dX4_readWant_95 : decode cX4_readWant 95 = .ok (.ior, 1) := by decide +kernel
theorem dX4_readWant_96 : decode cX4_readWant 96 = .ok (.iastore, 1) := by decide +kernel
theorem dX4_readWant_97 : decode cX4_readWant 97 = .ok (.goto 18, 3) := by decide +kernel
theorem dX4_readWant_100 : decode cX4_readWant 100 = .ok (.aload_n 0, 1) := by decide +kernel
theorem dX4_readWant_101 : decode cX4_readWant 101 = .ok (.getfield 18, 3) := by decide +kernel
theorem dX4_readWant_104 : decode cX4_readWant 104 = .ok (.getfield 94, 3) := by decide +kernel
theorem dX4_readWant_107 : decode cX4_readWant 107 = .ok (.iload_n 1, 1) := by decide +kernel
theorem dX4_readWant_108 : decode cX4_readWant 108 = .ok (.dup2, 1) := by decide +kernel
theorem dX4_readWant_109 : decode cX4_readWant 109 = .ok (.iaload, 1) := by decide +kernel
theorem dX4_readWant_110 : decode cX4_readWant 110 = .ok (.iconst 1, 1) := by decide +kernel
theorem dX4_readWant_111 : decode cX4_readWant 111 = .ok (.iload_n 3, 1) := by decide +kernel
theorem dX4_readWant_112 : decode cX4_readWant 112 = .ok (.ishl, 1) := by decide +kernel
theorem dX4_readWant_113 : decode cX4_readWant 113 = .ok (.ior, 1) := by decide +kernel
theorem dX4_readWant_114 : decode cX4_readWant 114 = .ok (.iastore, 1) := by decide +kernel
theorem dX4_readWant_115 : decode cX4_readWant 115 = .ok (.return_, 1) := by decide +kernel
theorem dX4_readClauseHead_0 : decode cX4_readClauseHead 0 = .ok (.aload_n 0, 1) := by decide +kernel
theorem dX4_readClauseHead_1 : decode cX4_readClauseHead 1 = .ok (.getfield 18, 3) := by decide +kernel
theorem dX4_readClauseHead_4 : decode cX4_readClauseHead 4 = .ok (.aload_n 0, 1) := by decide +kernel
theorem dX4_readClauseHead_5 : decode cX4_readClauseHead 5 = .ok (.getfield 41, 3) := by decide +kernel
theorem dX4_readClauseHead_8 : decode cX4_readClauseHead 8 = .ok (.invokevirtual 74, 3) := by decide +kernel
theorem dX4_readClauseHead_11 : decode cX4_readClauseHead 11 = .ok (.istore_n 1, 1) := by decide +kernel
theorem dX4_readClauseHead_12 : decode cX4_readClauseHead 12 = .ok (.iload_n 1, 1) := by decide +kernel
theorem dX4_readClauseHead_13 : decode cX4_readClauseHead 13 = .ok (.iconst (-1), 1) := by decide +kernel
theorem dX4_readClauseHead_14 : decode cX4_readClauseHead 14 = .ok (.if_icmp .ne 13, 3) := by decide +kernel
theorem dX4_readClauseHead_17 : decode cX4_readClauseHead 17 = .ok (.aload_n 0, 1) := by decide +kernel
theorem dX4_readClauseHead_18 : decode cX4_readClauseHead 18 = .ok (.iconst 3, 1) := by decide +kernel
theorem dX4_readClauseHead_19 : decode cX4_readClauseHead 19 = .ok (.aload_n 0, 1) := by decide +kernel
theorem dX4_readClauseHead_20 : decode cX4_readClauseHead 20 = .ok (.getfield 38, 3) := by decide +kernel
theorem dX4_readClauseHead_23 : decode cX4_readClauseHead 23 = .ok (.invokevirtual 50, 3) := by decide +kernel
theorem dX4_readClauseHead_26 : decode cX4_readClauseHead 26 = .ok (.return_, 1) := by decide +kernel
theorem dX4_readClauseHead_27 : decode cX4_readClauseHead 27 = .ok (.aload_n 0, 1) := by decide +kernel
theorem dX4_readClauseHead_28 : decode cX4_readClauseHead 28 = .ok (.dup, 1) := by decide +kernel
theorem dX4_readClauseHead_29 : decode cX4_readClauseHead 29 = .ok (.getfield 38, 3) := by decide +kernel
theorem dX4_readClauseHead_32 : decode cX4_readClauseHead 32 = .ok (.iconst 1, 1) := by decide +kernel
theorem dX4_readClauseHead_33 : decode cX4_readClauseHead 33 = .ok (.iadd, 1) := by decide +kernel
theorem dX4_readClauseHead_34 : decode cX4_readClauseHead 34 = .ok (.putfield 38, 3) := by decide +kernel
theorem dX4_readClauseHead_37 : decode cX4_readClauseHead 37 = .ok (.aload_n 0, 1) := by decide +kernel
theorem dX4_readClauseHead_38 : decode cX4_readClauseHead 38 = .ok (.invokevirtual 44, 3) := by decide +kernel
theorem dX4_readClauseHead_41 : decode cX4_readClauseHead 41 = .ok (.iconst 0, 1) := by decide +kernel
theorem dX4_readClauseHead_42 : decode cX4_readClauseHead 42 = .ok (.istore_n 2, 1) := by decide +kernel
theorem dX4_readClauseHead_43 : decode cX4_readClauseHead 43 = .ok (.iload_n 2, 1) := by decide +kernel
theorem dX4_readClauseHead_44 : decode cX4_readClauseHead 44 = .ok (.bipush 6, 2) := by decide +kernel
theorem dX4_readClauseHead_46 : decode cX4_readClauseHead 46 = .ok (.if_icmp .gt 32, 3) := by decide +kernel
theorem dX4_readClauseHead_49 : decode cX4_readClauseHead 49 = .ok (.aload_n 0, 1) := by decide +kernel
theorem dX4_readClauseHead_50 : decode cX4_readClauseHead 50 = .ok (.invokevirtual 78, 3) := by decide +kernel
theorem dX4_readClauseHead_53 : decode cX4_readClauseHead 53 = .ok (.ifCond .eq 25, 3) := by decide +kernel
theorem dX4_readClauseHead_56 : decode cX4_readClauseHead 56 = .ok (.aload_n 0, 1) := by decide +kernel
theorem dX4_readClauseHead_57 : decode cX4_readClauseHead 57 = .ok (.getfield 35, 3) := by decide +kernel
theorem dX4_readClauseHead_60 : decode cX4_readClauseHead 60 = .ok (.ifCond .ne 18, 3) := by decide +kernel
theorem dX4_readClauseHead_63 : decode cX4_readClauseHead 63 = .ok (.aload_n 0, 1) := by decide +kernel
theorem dX4_readClauseHead_64 : decode cX4_readClauseHead 64 = .ok (.iload_n 1, 1) := by decide +kernel
theorem dX4_readClauseHead_65 : decode cX4_readClauseHead 65 = .ok (.invokevirtual 82, 3) := by decide +kernel
theorem dX4_readClauseHead_68 : decode cX4_readClauseHead 68 = .ok (.aload_n 0, 1) := by decide +kernel
theorem dX4_readClauseHead_69 : decode cX4_readClauseHead 69 = .ok (.invokevirtual 44, 3) := by decide +kernel
theorem dX4_readClauseHead_72 : decode cX4_readClauseHead 72 = .ok (.iinc 2 1, 3) := by decide +kernel
theorem dX4_readClauseHead_75 : decode cX4_readClauseHead 75 = .ok (.goto (-32), 3) := by decide +kernel
theorem dX4_readClauseHead_78 : decode cX4_readClauseHead 78 = .ok (.aload_n 0, 1) := by decide +kernel
theorem dX4_readClauseHead_79 : decode cX4_readClauseHead 79 = .ok (.getfield 35, 3) := by decide +kernel
theorem dX4_readClauseHead_82 : decode cX4_readClauseHead 82 = .ok (.ifCond .eq 4, 3) := by decide +kernel
theorem dX4_readClauseHead_85 : decode cX4_readClauseHead 85 = .ok (.return_, 1) := by decide +kernel
theorem dX4_readClauseHead_86 : decode cX4_readClauseHead 86 = .ok (.aload_n 0, 1) := by decide +kernel
theorem dX4_readClauseHead_87 : decode cX4_readClauseHead 87 = .ok (.invokevirtual 57, 3) := by decide +kernel
theorem dX4_readClauseHead_90 : decode cX4_readClauseHead 90 = .ok (.bipush 42, 2) := by decide +kernel
theorem dX4_readClauseHead_92 : decode cX4_readClauseHead 92 = .ok (.if_icmp .ne 32, 3) := by decide +kernel
theorem dX4_readClauseHead_95 : decode cX4_readClauseHead 95 = .ok (.aload_n 0, 1) := by decide +kernel
theorem dX4_readClauseHead_96 : decode cX4_readClauseHead 96 = .ok (.getfield 18, 3) := by decide +kernel
theorem dX4_readClauseHead_99 : decode cX4_readClauseHead 99 = .ok (.dup, 1) := by decide +kernel
theorem dX4_readClauseHead_100 : decode cX4_readClauseHead 100 = .ok (.getfield 85, 3) := by decide +kernel
theorem dX4_readClauseHead_103 : decode cX4_readClauseHead 103 = .ok (.iconst 1, 1) := by decide +kernel
theorem dX4_readClauseHead_104 : decode cX4_readClauseHead 104 = .ok (.iload_n 1, 1) := by decide +kernel
theorem dX4_readClauseHead_105 : decode cX4_readClauseHead 105 = .ok (.ishl, 1) := by decide +kernel
theorem dX4_readClauseHead_106 : decode cX4_readClauseHead 106 = .ok (.ior, 1) := by decide +kernel
theorem dX4_readClauseHead_107 : decode cX4_readClauseHead 107 = .ok (.putfield 85, 3) := by decide +kernel
theorem dX4_readClauseHead_110 : decode cX4_readClauseHead 110 = .ok (.aload_n 0, 1) := by decide +kernel
theorem dX4_readClauseHead_111 : decode cX4_readClauseHead 111 = .ok (.dup, 1) := by decide +kernel
theorem dX4_readClauseHead_112 : decode cX4_readClauseHead 112 = .ok (.getfield 38, 3) := by decide +kernel
theorem dX4_readClauseHead_115 : decode cX4_readClauseHead 115 = .ok (.iconst 1, 1) := by decide +kernel
theorem dX4_readClauseHead_116 : decode cX4_readClauseHead 116 = .ok (.iadd, 1) := by decide +kernel
theorem dX4_readClauseHead_117 : decode cX4_readClauseHead 117 = .ok (.putfield 38, 3) := by decide +kernel
theorem dX4_readClauseHead_120 : decode cX4_readClauseHead 120 = .ok (.aload_n 0, 1) := by decide +kernel
theorem dX4_readClauseHead_121 : decode cX4_readClauseHead 121 = .ok (.invokevirtual 44, 3) := by decide +kernel
theorem dX4_readClauseHead_124 : decode cX4_readClauseHead 124 = .ok (.aload_n 0, 1) := by decide +kernel
theorem dX4_readClauseHead_125 : decode cX4_readClauseHead 125 = .ok (.invokevirtual 57, 3) := by decide +kernel
theorem dX4_readClauseHead_128 : decode cX4_readClauseHead 128 = .ok (.bipush 40, 2) := by decide +kernel
theorem dX4_readClauseHead_130 : decode cX4_readClauseHead 130 = .ok (.if_icmp .eq 13, 3) := by decide +kernel
theorem dX4_readClauseHead_133 : decode cX4_readClauseHead 133 = .ok (.aload_n 0, 1) := by decide +kernel
theorem dX4_readClauseHead_134 : decode cX4_readClauseHead 134 = .ok (.iconst 1, 1) := by decide +kernel
theorem dX4_readClauseHead_135 : decode cX4_readClauseHead 135 = .ok (.aload_n 0, 1) := by decide +kernel
theorem dX4_readClauseHead_136 : decode cX4_readClauseHead 136 = .ok (.getfield 38, 3) := by decide +kernel
theorem dX4_readClauseHead_139 : decode cX4_readClauseHead 139 = .ok (.invokevirtual 50, 3) := by decide +kernel
theorem dX4_readClauseHead_142 : decode cX4_readClauseHead 142 = .ok (.return_, 1) := by decide +kernel
theorem dX4_readClauseHead_143 : decode cX4_readClauseHead 143 = .ok (.aload_n 0, 1) := by decide +kernel
theorem dX4_readClauseHead_144 : decode cX4_readClauseHead 144 = .ok (.dup, 1) := by decide +kernel
theorem dX4_readClauseHead_145 : decode cX4_readClauseHead 145 = .ok (.getfield 38, 3) := by decide +kernel
theorem dX4_readClauseHead_148 : decode cX4_readClauseHead 148 = .ok (.iconst 1, 1) := by decide +kernel
theorem dX4_readClauseHead_149 : decode cX4_readClauseHead 149 = .ok (.iadd, 1) := by decide +kernel
theorem dX4_readClauseHead_150 : decode cX4_readClauseHead 150 = .ok (.putfield 38, 3) := by decide +kernel
theorem dX4_readClauseHead_153 : decode cX4_readClauseHead 153 = .ok (.aload_n 0, 1) := by decide +kernel
theorem dX4_readClauseHead_154 : decode cX4_readClauseHead 154 = .ok (.iload_n 1, 1) := by decide +kernel
theorem dX4_readClauseHead_155 : decode cX4_readClauseHead 155 = .ok (.putfield 41, 3) := by decide +kernel
theorem dX4_readClauseHead_158 : decode cX4_readClauseHead 158 = .ok (.return_, 1) := by decide +kernel
theorem dX4_readReference_0 : decode cX4_readReference 0 = .ok (.aload_n 0, 1) := by decide +kernel
theorem dX4_readReference_1 : decode cX4_readReference 1 = .ok (.invokevirtual 44, 3) := by decide +kernel
theorem dX4_readReference_4 : decode cX4_readReference 4 = .ok (.aload_n 0, 1) := by decide +kernel
theorem dX4_readReference_5 : decode cX4_readReference 5 = .ok (.getfield 38, 3) := by decide +kernel
theorem dX4_readReference_8 : decode cX4_readReference 8 = .ok (.istore_n 1, 1) := by decide +kernel
theorem dX4_readReference_9 : decode cX4_readReference 9 = .ok (.iconst 0, 1) := by decide +kernel
theorem dX4_readReference_10 : decode cX4_readReference 10 = .ok (.istore_n 2, 1) := by decide +kernel
theorem dX4_readReference_11 : decode cX4_readReference 11 = .ok (.iconst 0, 1) := by decide +kernel
theorem dX4_readReference_12 : decode cX4_readReference 12 = .ok (.istore_n 3, 1) := by decide +kernel
theorem dX4_readReference_13 : decode cX4_readReference 13 = .ok (.iload_n 3, 1) := by decide +kernel
theorem dX4_readReference_14 : decode cX4_readReference 14 = .ok (.iconst 3, 1) := by decide +kernel
theorem dX4_readReference_15 : decode cX4_readReference 15 = .ok (.if_icmp .ge 37, 3) := by decide +kernel
theorem dX4_readReference_18 : decode cX4_readReference 18 = .ok (.aload_n 0, 1) := by decide +kernel
theorem dX4_readReference_19 : decode cX4_readReference 19 = .ok (.invokevirtual 111, 3) := by decide +kernel
theorem dX4_readReference_22 : decode cX4_readReference 22 = .ok (.iconst (-1), 1) := by decide +kernel
theorem dX4_readReference_23 : decode cX4_readReference 23 = .ok (.if_icmp .eq 29, 3) := by decide +kernel
theorem dX4_readReference_26 : decode cX4_readReference 26 = .ok (.iload_n 2, 1) := by decide +kernel
theorem dX4_readReference_27 : decode cX4_readReference 27 = .ok (.bipush 10, 2) := by decide +kernel
theorem dX4_readReference_29 : decode cX4_readReference 29 = .ok (.imul, 1) := by decide +kernel
theorem dX4_readReference_30 : decode cX4_readReference 30 = .ok (.aload_n 0, 1) := by decide +kernel
theorem dX4_readReference_31 : decode cX4_readReference 31 = .ok (.invokevirtual 111, 3) := by decide +kernel
theorem dX4_readReference_34 : decode cX4_readReference 34 = .ok (.iadd, 1) := by decide +kernel
theorem dX4_readReference_35 : decode cX4_readReference 35 = .ok (.istore_n 2, 1) := by decide +kernel
theorem dX4_readReference_36 : decode cX4_readReference 36 = .ok (.iinc 3 1, 3) := by decide +kernel
theorem dX4_readReference_39 : decode cX4_readReference 39 = .ok (.aload_n 0, 1) := by decide +kernel
theorem dX4_readReference_40 : decode cX4_readReference 40 = .ok (.dup, 1) := by decide +kernel
theorem dX4_readReference_41 : decode cX4_readReference 41 = .ok (.getfield 38, 3) := by decide +kernel
theorem dX4_readReference_44 : decode cX4_readReference 44 = .ok (.iconst 1, 1) := by decide +kernel
theorem dX4_readReference_45 : decode cX4_readReference 45 = .ok (.iadd, 1) := by decide +kernel
theorem dX4_readReference_46 : decode cX4_readReference 46 = .ok (.putfield 38, 3) := by decide +kernel
theorem dX4_readReference_49 : decode cX4_readReference 49 = .ok (.goto (-36), 3) := by decide +kernel
theorem dX4_readReference_52 : decode cX4_readReference 52 = .ok (.iload_n 3, 1) := by decide +kernel
theorem dX4_readReference_53 : decode cX4_readReference 53 = .ok (.ifCond .ne 12, 3) := by decide +kernel
theorem dX4_readReference_56 : decode cX4_readReference 56 = .ok (.aload_n 0, 1) := by decide +kernel
theorem dX4_readReference_57 : decode cX4_readReference 57 = .ok (.iconst 1, 1) := by decide +kernel
theorem dX4_readReference_58 : decode cX4_readReference 58 = .ok (.iload_n 1, 1) := by decide +kernel
theorem dX4_readReference_59 : decode cX4_readReference 59 = .ok (.invokevirtual 50, 3) := by decide +kernel
theorem dX4_readReference_62 : decode cX4_readReference 62 = .ok (.goto 61, 3) := by decide +kernel
theorem dX4_readReference_65 : decode cX4_readReference 65 = .ok (.iload_n 3, 1) := by decide +kernel
theorem dX4_readReference_66 : decode cX4_readReference 66 = .ok (.iconst 2, 1) := by decide +kernel
theorem dX4_readReference_67 : decode cX4_readReference 67 = .ok (.if_icmp .gt 9, 3) := by decide +kernel
theorem dX4_readReference_70 : decode cX4_readReference 70 = .ok (.iload_n 2, 1) := by decide +kernel
theorem dX4_readReference_71 : decode cX4_readReference 71 = .ok (.bipush 16, 2) := by decide +kernel
theorem dX4_readReference_73 : decode cX4_readReference 73 = .ok (.if_icmp .lt 12, 3) := by decide +kernel
theorem dX4_readReference_76 : decode cX4_readReference 76 = .ok (.aload_n 0, 1) := by decide +kernel
theorem dX4_readReference_77 : decode cX4_readReference 77 = .ok (.iconst 2, 1) := by decide +kernel
theorem dX4_readReference_78 : decode cX4_readReference 78 = .ok (.iload_n 1, 1) := by decide +kernel
theorem dX4_readReference_79 : decode cX4_readReference 79 = .ok (.invokevirtual 50, 3) := by decide +kernel
theorem dX4_readReference_82 : decode cX4_readReference 82 = .ok (.goto 41, 3) := by decide +kernel
theorem dX4_readReference_85 : decode cX4_readReference 85 = .ok (.aload_n 0, 1) := by decide +kernel
theorem dX4_readReference_86 : decode cX4_readReference 86 = .ok (.getfield 18, 3) := by decide +kernel
theorem dX4_readReference_89 : decode cX4_readReference 89 = .ok (.getfield 101, 3) := by decide +kernel
theorem dX4_readReference_92 : decode cX4_readReference 92 = .ok (.bipush 30, 2) := by decide +kernel
theorem dX4_readReference_94 : decode cX4_readReference 94 = .ok (.if_icmp .ge 29, 3) := by decide +kernel
theorem dX4_readReference_97 : decode cX4_readReference 97 = .ok (.aload_n 0, 1) := by decide +kernel
theorem dX4_readReference_98 : decode cX4_readReference 98 = .ok (.getfield 26, 3) := by decide +kernel
theorem dX4_readReference_101 : decode cX4_readReference 101 = .ok (.aload_n 0, 1) := by decide +kernel
theorem dX4_readReference_102 : decode cX4_readReference 102 = .ok (.getfield 18, 3) := by decide +kernel
theorem dX4_readReference_105 : decode cX4_readReference 105 = .ok (.getfield 101, 3) := by decide +kernel
theorem dX4_readReference_108 : decode cX4_readReference 108 = .ok (.iload_n 1, 1) := by decide +kernel
theorem dX4_readReference_109 : decode cX4_readReference 109 = .ok (.iastore, 1) := by decide +kernel
theorem dX4_readReference_110 : decode cX4_readReference 110 = .ok (.aload_n 0, 1) := by decide +kernel
theorem dX4_readReference_111 : decode cX4_readReference 111 = .ok (.getfield 18, 3) := by decide +kernel
theorem dX4_readReference_114 : decode cX4_readReference 114 = .ok (.aload_n 0, 1) := by decide +kernel
theorem dX4_readReference_115 : decode cX4_readReference 115 = .ok (.getfield 41, 3) := by decide +kernel
theorem dX4_readReference_118 : decode cX4_readReference 118 = .ok (.iconst 2, 1) := by decide +kernel
theorem dX4_readReference_119 : decode cX4_readReference 119 = .ok (.iload_n 2, 1) := by decide +kernel
theorem dX4_readReference_120 : decode cX4_readReference 120 = .ok (.invokevirtual 107, 3) := by decide +kernel
theorem dX4_readReference_123 : decode cX4_readReference 123 = .ok (.return_, 1) := by decide +kernel
theorem dX4_readPart_0 : decode cX4_readPart 0 = .ok (.aload_n 0, 1) := by decide +kernel
theorem dX4_readPart_1 : decode cX4_readPart 1 = .ok (.getfield 18, 3) := by decide +kernel
theorem dX4_readPart_4 : decode cX4_readPart 4 = .ok (.getfield 101, 3) := by decide +kernel
theorem dX4_readPart_7 : decode cX4_readPart 7 = .ok (.bipush 30, 2) := by decide +kernel
theorem dX4_readPart_9 : decode cX4_readPart 9 = .ok (.if_icmp .lt 13, 3) := by decide +kernel
theorem dX4_readPart_12 : decode cX4_readPart 12 = .ok (.aload_n 0, 1) := by decide +kernel
theorem dX4_readPart_13 : decode cX4_readPart 13 = .ok (.iconst 3, 1) := by decide +kernel
theorem dX4_readPart_14 : decode cX4_readPart 14 = .ok (.aload_n 0, 1) := by decide +kernel
theorem dX4_readPart_15 : decode cX4_readPart 15 = .ok (.getfield 38, 3) := by decide +kernel
theorem dX4_readPart_18 : decode cX4_readPart 18 = .ok (.invokevirtual 50, 3) := by decide +kernel
theorem dX4_readPart_21 : decode cX4_readPart 21 = .ok (.return_, 1) := by decide +kernel
theorem dX4_readPart_22 : decode cX4_readPart 22 = .ok (.aload_n 0, 1) := by decide +kernel
theorem dX4_readPart_23 : decode cX4_readPart 23 = .ok (.dup, 1) := by decide +kernel
theorem dX4_readPart_24 : decode cX4_readPart 24 = .ok (.getfield 38, 3) := by decide +kernel
theorem dX4_readPart_27 : decode cX4_readPart 27 = .ok (.iconst 1, 1) := by decide +kernel
theorem dX4_readPart_28 : decode cX4_readPart 28 = .ok (.iadd, 1) := by decide +kernel
theorem dX4_readPart_29 : decode cX4_readPart 29 = .ok (.putfield 38, 3) := by decide +kernel
theorem dX4_readPart_32 : decode cX4_readPart 32 = .ok (.iload_n 1, 1) := by decide +kernel
theorem dX4_readPart_33 : decode cX4_readPart 33 = .ok (.bipush 114, 2) := by decide +kernel
theorem dX4_readPart_35 : decode cX4_readPart 35 = .ok (.if_icmp .ne 8, 3) := by decide +kernel
theorem dX4_readPart_38 : decode cX4_readPart 38 = .ok (.aload_n 0, 1) := by decide +kernel
theorem dX4_readPart_39 : decode cX4_readPart 39 = .ok (.invokevirtual 104, 3) := by decide +kernel
theorem dX4_readPart_42 : decode cX4_readPart 42 = .ok (.return_, 1) := by decide +kernel
theorem dX4_readPart_43 : decode cX4_readPart 43 = .ok (.aload_n 0, 1) := by decide +kernel
theorem dX4_readPart_44 : decode cX4_readPart 44 = .ok (.bipush 8, 2) := by decide +kernel
theorem dX4_readPart_46 : decode cX4_readPart 46 = .ok (.invokevirtual 88, 3) := by decide +kernel
theorem dX4_readPart_49 : decode cX4_readPart 49 = .ok (.istore_n 2, 1) := by decide +kernel
theorem dX4_readPart_50 : decode cX4_readPart 50 = .ok (.iload_n 2, 1) := by decide +kernel
theorem dX4_readPart_51 : decode cX4_readPart 51 = .ok (.iconst (-1), 1) := by decide +kernel
theorem dX4_readPart_52 : decode cX4_readPart 52 = .ok (.if_icmp .eq 26, 3) := by decide +kernel
theorem dX4_readPart_55 : decode cX4_readPart 55 = .ok (.aload_n 0, 1) := by decide +kernel
theorem dX4_readPart_56 : decode cX4_readPart 56 = .ok (.getfield 18, 3) := by decide +kernel
theorem dX4_readPart_59 : decode cX4_readPart 59 = .ok (.aload_n 0, 1) := by decide +kernel
theorem dX4_readPart_60 : decode cX4_readPart 60 = .ok (.getfield 41, 3) := by decide +kernel
theorem dX4_readPart_63 : decode cX4_readPart 63 = .ok (.iload_n 1, 1) := by decide +kernel
theorem dX4_readPart_64 : decode cX4_readPart 64 = .ok (.bipush 100, 2) := by decide +kernel
theorem dX4_readPart_66 : decode cX4_readPart 66 = .ok (.if_icmp .ne 7, 3) := by decide +kernel
theorem dX4_readPart_69 : decode cX4_readPart 69 = .ok (.iconst 0, 1) := by decide +kernel
theorem dX4_readPart_70 : decode cX4_readPart 70 = .ok (.goto 4, 3) := by decide +kernel
theorem dX4_readPart_73 : decode cX4_readPart 73 = .ok (.iconst 1, 1) := by decide +kernel
theorem dX4_readPart_74 : decode cX4_readPart 74 = .ok (.iload_n 2, 1) := by decide +kernel
theorem dX4_readPart_75 : decode cX4_readPart 75 = .ok (.invokevirtual 107, 3) := by decide +kernel
theorem dX4_readPart_78 : decode cX4_readPart 78 = .ok (.return_, 1) := by decide +kernel
theorem dX4_readWord_0 : decode cX4_readWord 0 = .ok (.aload_n 0, 1) := by decide +kernel
theorem dX4_readWord_1 : decode cX4_readWord 1 = .ok (.invokevirtual 57, 3) := by decide +kernel
theorem dX4_readWord_4 : decode cX4_readWord 4 = .ok (.istore_n 1, 1) := by decide +kernel
theorem dX4_readWord_5 : decode cX4_readWord 5 = .ok (.iload_n 1, 1) := by decide +kernel
theorem dX4_readWord_6 : decode cX4_readWord 6 = .ok (.bipush 99, 2) := by decide +kernel
theorem dX4_readWord_8 : decode cX4_readWord 8 = .ok (.if_icmp .ne 10, 3) := by decide +kernel
theorem dX4_readWord_11 : decode cX4_readWord 11 = .ok (.aload_n 0, 1) := by decide +kernel
theorem dX4_readWord_12 : decode cX4_readWord 12 = .ok (.invokevirtual 61, 3) := by decide +kernel
theorem dX4_readWord_15 : decode cX4_readWord 15 = .ok (.goto 118, 3) := by decide +kernel
theorem dX4_readWord_18 : decode cX4_readWord 18 = .ok (.aload_n 0, 1) := by decide +kernel
theorem dX4_readWord_19 : decode cX4_readWord 19 = .ok (.getfield 41, 3) := by decide +kernel
theorem dX4_readWord_22 : decode cX4_readWord 22 = .ok (.iconst (-1), 1) := by decide +kernel
theorem dX4_readWord_23 : decode cX4_readWord 23 = .ok (.if_icmp .ne 15, 3) := by decide +kernel
theorem dX4_readWord_26 : decode cX4_readWord 26 = .ok (.aload_n 0, 1) := by decide +kernel
theorem dX4_readWord_27 : decode cX4_readWord 27 = .ok (.iconst 1, 1) := by decide +kernel
theorem dX4_readWord_28 : decode cX4_readWord 28 = .ok (.aload_n 0, 1) := by decide +kernel
theorem dX4_readWord_29 : decode cX4_readWord 29 = .ok (.getfield 38, 3) := by decide +kernel
theorem dX4_readWord_32 : decode cX4_readWord 32 = .ok (.invokevirtual 50, 3) := by decide +kernel
theorem dX4_readWord_35 : decode cX4_readWord 35 = .ok (.goto 98, 3) := by decide +kernel
theorem dX4_readWord_38 : decode cX4_readWord 38 = .ok (.iload_n 1, 1) := by decide +kernel
theorem dX4_readWord_39 : decode cX4_readWord 39 = .ok (.bipush 41, 2) := by decide +kernel
theorem dX4_readWord_41 : decode cX4_readWord 41 = .ok (.if_icmp .ne 57, 3) := by decide +kernel
theorem dX4_readWord_44 : decode cX4_readWord 44 = .ok (.aload_n 0, 1) := by decide +kernel
theorem dX4_readWord_45 : decode cX4_readWord 45 = .ok (.aload_n 0, 1) := by decide +kernel
theorem dX4_readWord_46 : decode cX4_readWord 46 = .ok (.getfield 41, 3) := by decide +kernel
theorem dX4_readWord_49 : decode cX4_readWord 49 = .ok (.aload_n 0, 1) := by decide +kernel
theorem dX4_readWord_50 : decode cX4_readWord 50 = .ok (.getfield 18, 3) := by decide +kernel
theorem dX4_readWord_53 : decode cX4_readWord 53 = .ok (.getfield 64, 3) := by decide +kernel
theorem dX4_readWord_56 : decode cX4_readWord 56 = .ok (.if_icmp .ge 25, 3) := by decide +kernel
theorem dX4_readWord_59 : decode cX4_readWord 59 = .ok (.aload_n 0, 1) := by decide +kernel
theorem dX4_readWord_60 : decode cX4_readWord 60 = .ok (.getfield 41, 3) := by decide +kernel
theorem dX4_readWord_63 : decode cX4_readWord 63 = .ok (.ifCond .lt 18, 3) := by decide +kernel
theorem dX4_readWord_66 : decode cX4_readWord 66 = .ok (.aload_n 0, 1) := by decide +kernel
theorem dX4_readWord_67 : decode cX4_readWord 67 = .ok (.getfield 18, 3) := by decide +kernel
theorem dX4_readWord_70 : decode cX4_readWord 70 = .ok (.getfield 67, 3) := by decide +kernel
theorem dX4_readWord_73 : decode cX4_readWord 73 = .ok (.aload_n 0, 1) := by decide +kernel
theorem dX4_readWord_74 : decode cX4_readWord 74 = .ok (.getfield 41, 3) := by decide +kernel
theorem dX4_readWord_77 : decode cX4_readWord 77 = .ok (.iaload, 1) := by decide +kernel
theorem dX4_readWord_78 : decode cX4_readWord 78 = .ok (.goto 4, 3) := by decide +kernel
theorem dX4_readWord_81 : decode cX4_readWord 81 = .ok (.iconst (-1), 1) := by decide +kernel
theorem dX4_readWord_82 : decode cX4_readWord 82 = .ok (.putfield 41, 3) := by decide +kernel
theorem dX4_readWord_85 : decode cX4_readWord 85 = .ok (.aload_n 0, 1) := by decide +kernel
theorem dX4_readWord_86 : decode cX4_readWord 86 = .ok (.dup, 1) := by decide +kernel
theorem dX4_readWord_87 : decode cX4_readWord 87 = .ok (.getfield 38, 3) := by decide +kernel
theorem dX4_readWord_90 : decode cX4_readWord 90 = .ok (.iconst 1, 1) := by decide +kernel
theorem dX4_readWord_91 : decode cX4_readWord 91 = .ok (.iadd, 1) := by decide +kernel
theorem dX4_readWord_92 : decode cX4_readWord 92 = .ok (.putfield 38, 3) := by decide +kernel
theorem dX4_readWord_95 : decode cX4_readWord 95 = .ok (.goto 38, 3) := by decide +kernel
theorem dX4_readWord_98 : decode cX4_readWord 98 = .ok (.iload_n 1, 1) := by decide +kernel
theorem dX4_readWord_99 : decode cX4_readWord 99 = .ok (.bipush 100, 2) := by decide +kernel
theorem dX4_readWord_101 : decode cX4_readWord 101 = .ok (.if_icmp .eq 15, 3) := by decide +kernel
theorem dX4_readWord_104 : decode cX4_readWord 104 = .ok (.iload_n 1, 1) := by decide +kernel
theorem dX4_readWord_105 : decode cX4_readWord 105 = .ok (.bipush 117, 2) := by decide +kernel
theorem dX4_readWord_107 : decode cX4_readWord 107 = .ok (.if_icmp .eq 9, 3) := by decide +kernel
theorem dX4_readWord_110 : decode cX4_readWord 110 = .ok (.iload_n 1, 1) := by decide +kernel
theorem dX4_readWord_111 : decode cX4_readWord 111 = .ok (.bipush 114, 2) := by decide +kernel
theorem dX4_readWord_113 : decode cX4_readWord 113 = .ok (.if_icmp .ne 11, 3) := by decide +kernel
theorem dX4_readWord_116 : decode cX4_readWord 116 = .ok (.aload_n 0, 1) := by decide +kernel
theorem dX4_readWord_117 : decode cX4_readWord 117 = .ok (.iload_n 1, 1) := by decide +kernel
theorem dX4_readWord_118 : decode cX4_readWord 118 = .ok (.invokevirtual 70, 3) := by decide +kernel
theorem dX4_readWord_121 : decode cX4_readWord 121 = .ok (.goto 12, 3) := by decide +kernel
theorem dX4_readWord_124 : decode cX4_readWord 124 = .ok (.aload_n 0, 1) := by decide +kernel
theorem dX4_readWord_125 : decode cX4_readWord 125 = .ok (.iconst 1, 1) := by decide +kernel
theorem dX4_readWord_126 : decode cX4_readWord 126 = .ok (.aload_n 0, 1) := by decide +kernel
theorem dX4_readWord_127 : decode cX4_readWord 127 = .ok (.getfield 38, 3) := by decide +kernel
theorem dX4_readWord_130 : decode cX4_readWord 130 = .ok (.invokevirtual 50, 3) := by decide +kernel
theorem dX4_readWord_133 : decode cX4_readWord 133 = .ok (.return_, 1) := by decide +kernel
theorem dX4_checkReferences_0 : decode cX4_checkReferences 0 = .ok (.iconst 0, 1) := by decide +kernel
theorem dX4_checkReferences_1 : decode cX4_checkReferences 1 = .ok (.istore_n 1, 1) := by decide +kernel
theorem dX4_checkReferences_2 : decode cX4_checkReferences 2 = .ok (.iload_n 1, 1) := by decide +kernel
theorem dX4_checkReferences_3 : decode cX4_checkReferences 3 = .ok (.aload_n 0, 1) := by decide +kernel
theorem dX4_checkReferences_4 : decode cX4_checkReferences 4 = .ok (.getfield 18, 3) := by decide +kernel
theorem dX4_checkReferences_7 : decode cX4_checkReferences 7 = .ok (.getfield 101, 3) := by decide +kernel
theorem dX4_checkReferences_10 : decode cX4_checkReferences 10 = .ok (.if_icmp .ge 53, 3) := by decide +kernel
theorem dX4_checkReferences_13 : decode cX4_checkReferences 13 = .ok (.aload_n 0, 1) := by decide +kernel
theorem dX4_checkReferences_14 : decode cX4_checkReferences 14 = .ok (.getfield 18, 3) := by decide +kernel
theorem dX4_checkReferences_17 : decode cX4_checkReferences 17 = .ok (.getfield 114, 3) := by decide +kernel
theorem dX4_checkReferences_20 : decode cX4_checkReferences 20 = .ok (.iload_n 1, 1) := by decide +kernel
theorem dX4_checkReferences_21 : decode cX4_checkReferences 21 = .ok (.iaload, 1) := by decide +kernel
theorem dX4_checkReferences_22 : decode cX4_checkReferences 22 = .ok (.iconst 2, 1) := by decide +kernel
theorem dX4_checkReferences_23 : decode cX4_checkReferences 23 = .ok (.if_icmp .ne 34, 3) := by decide +kernel
theorem dX4_checkReferences_26 : decode cX4_checkReferences 26 = .ok (.aload_n 0, 1) := by decide +kernel
theorem dX4_checkReferences_27 : decode cX4_checkReferences 27 = .ok (.getfield 18, 3) := by decide +kernel
theorem dX4_checkReferences_30 : decode cX4_checkReferences 30 = .ok (.getfield 117, 3) := by decide +kernel
theorem dX4_checkReferences_33 : decode cX4_checkReferences 33 = .ok (.iload_n 1, 1) := by decide +kernel
theorem dX4_checkReferences_34 : decode cX4_checkReferences 34 = .ok (.iaload, 1) := by decide +kernel
theorem dX4_checkReferences_35 : decode cX4_checkReferences 35 = .ok (.aload_n 0, 1) := by decide +kernel
theorem dX4_checkReferences_36 : decode cX4_checkReferences 36 = .ok (.getfield 18, 3) := by decide +kernel
theorem dX4_checkReferences_39 : decode cX4_checkReferences 39 = .ok (.getfield 64, 3) := by decide +kernel
theorem dX4_checkReferences_42 : decode cX4_checkReferences 42 = .ok (.if_icmp .lt 15, 3) := by decide +kernel
theorem dX4_checkReferences_45 : decode cX4_checkReferences 45 = .ok (.aload_n 0, 1) := by decide +kernel
theorem dX4_checkReferences_46 : decode cX4_checkReferences 46 = .ok (.iconst 5, 1) := by decide +kernel
theorem dX4_checkReferences_47 : decode cX4_checkReferences 47 = .ok (.aload_n 0, 1) := by decide +kernel
theorem dX4_checkReferences_48 : decode cX4_checkReferences 48 = .ok (.getfield 26, 3) := by decide +kernel
theorem dX4_checkReferences_51 : decode cX4_checkReferences 51 = .ok (.iload_n 1, 1) := by decide +kernel
theorem dX4_checkReferences_52 : decode cX4_checkReferences 52 = .ok (.iaload, 1) := by decide +kernel
theorem dX4_checkReferences_53 : decode cX4_checkReferences 53 = .ok (.invokevirtual 50, 3) := by decide +kernel
theorem dX4_checkReferences_56 : decode cX4_checkReferences 56 = .ok (.return_, 1) := by decide +kernel
theorem dX4_checkReferences_57 : decode cX4_checkReferences 57 = .ok (.iinc 1 1, 3) := by decide +kernel
theorem dX4_checkReferences_60 : decode cX4_checkReferences 60 = .ok (.goto (-58), 3) := by decide +kernel
theorem dX4_checkReferences_63 : decode cX4_checkReferences 63 = .ok (.return_, 1) := by decide +kernel
def FX4_readFigure (σ : SS) (a0 : Int32) : Option (Int32 × SS) :=
  ob (FX4_skipBlanks σ) (fun σ2 => ob (FX4_figureHere σ2) (fun r4 => if r4 = (-1 : Int32) then ob (FX4_fail σ2 (1 : Int32) (gI σ2 16)) (fun σ11 => some ((-1 : Int32), σ11))
    else if r4 < a0 then bd (sI σ2 16 ((gI σ2 16) + (1 : Int32))) (fun σ7 => some (r4, σ7))
    else ob (FX4_fail σ2 (2 : Int32) (gI σ2 16)) (fun σ9 => some ((-1 : Int32), σ9))))
set_option maxRecDepth 100000 in
set_option maxHeartbeats 4000000 in
theorem c_X4_readFigure {σ : SS} {a0 : Int32} {r : Int32} {σr : SS} (hf : FX4_readFigure σ a0 = some (r, σr)) : Mcw wsX yX4_readFigure cX4_readFigure 3 (some .int) ({ frames := 1, cells := 0, slots := 0, locals := 22 } : Room) (fun g => [.ref (g.2.1 1), .int a0]) σ (fun g => some (.int r)) σr := by
  refine w_enter wsX_fix (by decide) (fun g => Nat.le_of_ble_eq_true rfl) ?_
  intro X g hX
  replace hX : Okw wsX X g cX4_readFigure 3 RX4 (some .int) ({ frames := 1, cells := 0, slots := 0, locals := 22 } : Room) (fun g => some (.int r)) σr := hX
  have h0 := hX.1
  show Vx X g.1 3 (wsX g σ) 0 [(0, .ref (g.2.1 1)), (1, .int a0)] []
  rw [FX4_readFigure] at hf
  refine vx_aload_n h0 dX4_readFigure_0 rfl ?_
  obtain ⟨σ2, h1, hf⟩ := ob_some hf
  refine w_callV (st := []) (ci := 4) (q0 := 1) hX (c_X4_skipBlanks h1) ce_X4_skipBlanks q354 ⟨rfl, rfl⟩ ⟨by decide, by decide⟩ rfl rfl rfl rfl (xo_1 g _) rfl (Nat.le_of_ble_eq_true rfl) dX4_readFigure_1 ?_
  show Vx X g.1 3 (wsX g σ2) 4 [(0, .ref (g.2.1 1)), (1, .int a0)] []
  refine vx_aload_n h0 dX4_readFigure_4 rfl ?_
  obtain ⟨r4, h3, hf⟩ := ob_some hf
  refine w_callV (st := []) (ci := 4) (q0 := 1) hX (c_X4_figureHere h3) ce_X4_figureHere q390 ⟨rfl, rfl⟩ ⟨by decide, by decide⟩ rfl rfl rfl rfl (xo_1 g _) rfl (Nat.le_of_ble_eq_true rfl) dX4_readFigure_5 ?_
  show Vx X g.1 3 (wsX g σ2) 8 [(0, .ref (g.2.1 1)), (1, .int a0)] [.int r4]
  refine vx_istore_n (ls' := [(2, .int r4), (0, .ref (g.2.1 1)), (1, .int a0)]) h0 dX4_readFigure_8 (by decide) rfl ?_
  refine vx_iload_n h0 dX4_readFigure_9 rfl ?_
  refine vx_iconst (v := (-1 : Int32)) h0 dX4_readFigure_10 (by decide) ?_
  refine vx_icmp_ne (tgt := 25) h0 dX4_readFigure_11 (by decide) (fun c5 => ?_) (fun c5 => ?_)
  · replace hf := (if_neg c5).symm.trans hf
    refine vx_iload_n h0 dX4_readFigure_25 rfl ?_
    refine vx_iload_n h0 dX4_readFigure_26 rfl ?_
    refine vx_icmp_lt (tgt := 41) h0 dX4_readFigure_27 (by decide) (fun c6 => ?_) (fun c6 => ?_)
    · replace hf := (if_pos c6).symm.trans hf
      refine vx_aload_n h0 dX4_readFigure_41 rfl ?_
      refine vx_dup h0 dX4_readFigure_42 rfl ?_
      refine xg_1_6 hX q181 dX4_readFigure_43 ?_
      refine vx_iconst (v := (1 : Int32)) h0 dX4_readFigure_46 (by decide) ?_
      refine vx_iadd h0 dX4_readFigure_47 ?_
      refine xp_1_6 hX q181 dX4_readFigure_48 ?_
      generalize (sI σ2 16 ((gI σ2 16) + (1 : Int32))) = σ7 at hf ⊢
      replace hf := bd_h hf
      refine vx_iload_n h0 dX4_readFigure_51 rfl ?_
      exact w_iretE hX hf dX4_readFigure_52
    · replace hf := (if_neg c6).symm.trans hf
      refine vx_aload_n h0 dX4_readFigure_30 rfl ?_
      refine vx_iconst (v := (2 : Int32)) h0 dX4_readFigure_31 (by decide) ?_
      refine vx_aload_n h0 dX4_readFigure_32 rfl ?_
      refine xg_1_6 hX q181 dX4_readFigure_33 ?_
      obtain ⟨σ9, h8, hf⟩ := ob_some hf
      refine w_callV (st := []) (ci := 4) (q0 := 1) hX (c_X4_fail h8) ce_X4_fail q374 ⟨rfl, rfl⟩ ⟨by decide, by decide⟩ rfl rfl rfl rfl (xo_1 g _) rfl (Nat.le_of_ble_eq_true rfl) dX4_readFigure_36 ?_
      show Vx X g.1 3 (wsX g σ9) 39 [(2, .int r4), (0, .ref (g.2.1 1)), (1, .int a0)] []
      refine vx_iconst (v := (-1 : Int32)) h0 dX4_readFigure_39 (by decide) ?_
      exact w_iretE hX hf dX4_readFigure_40
  · replace hf := (if_pos c5).symm.trans hf
    refine vx_aload_n h0 dX4_readFigure_14 rfl ?_
    refine vx_iconst (v := (1 : Int32)) h0 dX4_readFigure_15 (by decide) ?_
    refine vx_aload_n h0 dX4_readFigure_16 rfl ?_
    refine xg_1_6 hX q181 dX4_readFigure_17 ?_
    obtain ⟨σ11, h10, hf⟩ := ob_some hf
    refine w_callV (st := []) (ci := 4) (q0 := 1) hX (c_X4_fail h10) ce_X4_fail q374 ⟨rfl, rfl⟩ ⟨by decide, by decide⟩ rfl rfl rfl rfl (xo_1 g _) rfl (Nat.le_of_ble_eq_true rfl) dX4_readFigure_20 ?_
    show Vx X g.1 3 (wsX g σ11) 23 [(2, .int r4), (0, .ref (g.2.1 1)), (1, .int a0)] []
    refine vx_iconst (v := (-1 : Int32)) h0 dX4_readFigure_23 (by decide) ?_
    exact w_iretE hX hf dX4_readFigure_24
def FX4_readWant_J14 (σ : SS) (v1 : Int32) (s0 : Int32) : Option (SS) :=
  bd (sI σ 16 ((gI σ 16) + (1 : Int32))) (fun σ4 => ob (FX4_readFigure σ4 (6 : Int32)) (fun p6 => if p6.1 = (-1 : Int32) then some p6.2
    else gd (inb v1 16) (gd (inb v1 16) (ob (FX7_has p6.2 ((gA p6.2 25 (Int32.toNatClampNeg v1)) ||| (gA p6.2 26 (Int32.toNatClampNeg v1))) p6.1) (fun r11 => if r11 = 0 then if s0 = 0 then gd (inb v1 16) (gd (inb v1 16) (bd (sA p6.2 26 (upd (gA p6.2 26) (Int32.toNatClampNeg v1) ((gA p6.2 26 (Int32.toNatClampNeg v1)) ||| (jshl (1 : Int32) p6.1)))) (fun σ16 => some σ16)))
    else gd (inb v1 16) (gd (inb v1 16) (bd (sA p6.2 25 (upd (gA p6.2 25) (Int32.toNatClampNeg v1) ((gA p6.2 25 (Int32.toNatClampNeg v1)) ||| (jshl (1 : Int32) p6.1)))) (fun σ19 => some σ19)))
    else ob (FX4_fail p6.2 (4 : Int32) ((gI p6.2 16) - (1 : Int32))) (fun σ21 => some σ21))))))
set_option maxRecDepth 100000 in
set_option maxHeartbeats 4000000 in
theorem PX4_readWant_J14 {X : Bx} {g : Gx} {σr : SS} {σ : SS} (hX : Okw wsX X g cX4_readWant 4 RX4 none ({ frames := 2, cells := 0, slots := 0, locals := 44 } : Room) (fun g => none) σr) {v1 : Int32} {s0 : Int32} (hf : FX4_readWant_J14 σ v1 s0 = some σr) : Vx X g.1 4 (wsX g σ) 14 [(0, .ref (g.2.1 1)), (1, .int v1)] [.int s0] := by
  have h0 := hX.1
  rw [FX4_readWant_J14] at hf
  refine vx_istore_n (ls' := [(2, .int s0), (0, .ref (g.2.1 1)), (1, .int v1)]) h0 dX4_readWant_14 (by decide) rfl ?_
  refine vx_aload_n h0 dX4_readWant_15 rfl ?_
  refine vx_dup h0 dX4_readWant_16 rfl ?_
  refine xg_1_6 hX q181 dX4_readWant_17 ?_
  refine vx_iconst (v := (1 : Int32)) h0 dX4_readWant_20 (by decide) ?_
  refine vx_iadd h0 dX4_readWant_21 ?_
  refine xp_1_6 hX q181 dX4_readWant_22 ?_
  generalize (sI σ 16 ((gI σ 16) + (1 : Int32))) = σ4 at hf ⊢
  replace hf := bd_h hf
  refine vx_aload_n h0 dX4_readWant_25 rfl ?_
  refine vx_bipush (v := (6 : Int32)) h0 dX4_readWant_26 (by decide) ?_
  obtain ⟨p6, h5, hf⟩ := ob_some hf
  refine w_callV (st := []) (ci := 4) (q0 := 1) hX (c_X4_readFigure h5) ce_X4_readFigure q386 ⟨rfl, rfl⟩ ⟨by decide, by decide⟩ rfl rfl rfl rfl (xo_1 g _) rfl (Nat.le_of_ble_eq_true rfl) dX4_readWant_28 ?_
  show Vx X g.1 4 (wsX g p6.2) 31 [(2, .int s0), (0, .ref (g.2.1 1)), (1, .int v1)] [.int p6.1]
  refine vx_istore_n (ls' := [(3, .int p6.1), (2, .int s0), (0, .ref (g.2.1 1)), (1, .int v1)]) h0 dX4_readWant_31 (by decide) rfl ?_
  refine vx_iload_n h0 dX4_readWant_32 rfl ?_
  refine vx_iconst (v := (-1 : Int32)) h0 dX4_readWant_33 (by decide) ?_
  refine vx_icmp_ne (tgt := 38) h0 dX4_readWant_34 (by decide) (fun c7 => ?_) (fun c7 => ?_)
  · replace hf := (if_neg c7).symm.trans hf
    refine vx_aload_n h0 dX4_readWant_38 rfl ?_
    refine xg_1_2 hX q176 dX4_readWant_39 ?_
    refine xg_2_5 hX q123 dX4_readWant_42 ?_
    refine vx_iload_n h0 dX4_readWant_45 rfl ?_
    obtain ⟨b8, hf⟩ := gd_some hf
    refine xl_5 hX b8 dX4_readWant_46 ?_
    refine vx_aload_n h0 dX4_readWant_47 rfl ?_
    refine xg_1_2 hX q176 dX4_readWant_48 ?_
    refine xg_2_6 hX q126 dX4_readWant_51 ?_
    refine vx_iload_n h0 dX4_readWant_54 rfl ?_
    obtain ⟨b9, hf⟩ := gd_some hf
    refine xl_6 hX b9 dX4_readWant_55 ?_
    refine vx_ior h0 dX4_readWant_56 ?_
    refine vx_iload_n h0 dX4_readWant_57 rfl ?_
    obtain ⟨r11, h10, hf⟩ := ob_some hf
    refine w_callSN (st := []) hX (c_X7_has h10) ce_X7_has q394 ⟨rfl, rfl⟩ ⟨by decide, by decide⟩ rfl rfl rfl (Nat.le_of_ble_eq_true rfl) dX4_readWant_58 ?_
    show Vx X g.1 4 (wsX g p6.2) 61 [(3, .int p6.1), (2, .int s0), (0, .ref (g.2.1 1)), (1, .int v1)] [.int r11]
    refine vx_if_eq (tgt := 78) h0 dX4_readWant_61 (by decide) (fun c12 => ?_) (fun c12 => ?_)
    · replace hf := (if_pos c12).symm.trans hf
      refine vx_iload_n h0 dX4_readWant_78 rfl ?_
      refine vx_if_eq (tgt := 100) h0 dX4_readWant_79 (by decide) (fun c13 => ?_) (fun c13 => ?_)
      · replace hf := (if_pos c13).symm.trans hf
        refine vx_aload_n h0 dX4_readWant_100 rfl ?_
        refine xg_1_2 hX q176 dX4_readWant_101 ?_
        refine xg_2_6 hX q126 dX4_readWant_104 ?_
        refine vx_iload_n h0 dX4_readWant_107 rfl ?_
        refine vx_dup2 h0 dX4_readWant_108 rfl rfl ?_
        obtain ⟨b14, hf⟩ := gd_some hf
        refine xl_6 hX b14 dX4_readWant_109 ?_
        refine vx_iconst (v := (1 : Int32)) h0 dX4_readWant_110 (by decide) ?_
        refine vx_iload_n h0 dX4_readWant_111 rfl ?_
        refine vx_ishl h0 dX4_readWant_112 ?_
        refine vx_ior h0 dX4_readWant_113 ?_
        obtain ⟨b15, hf⟩ := gd_some hf
        refine xs_6 hX b15 dX4_readWant_114 ?_
        generalize (sA p6.2 26 (upd (gA p6.2 26) (Int32.toNatClampNeg v1) ((gA p6.2 26 (Int32.toNatClampNeg v1)) ||| (jshl (1 : Int32) p6.1)))) = σ16 at hf ⊢
        replace hf := bd_h hf
        exact w_vretE hX hf dX4_readWant_115
      · replace hf := (if_neg c13).symm.trans hf
        refine vx_aload_n h0 dX4_readWant_82 rfl ?_
        refine xg_1_2 hX q176 dX4_readWant_83 ?_
        refine xg_2_5 hX q123 dX4_readWant_86 ?_
        refine vx_iload_n h0 dX4_readWant_89 rfl ?_
        refine vx_dup2 h0 dX4_readWant_90 rfl rfl ?_
        obtain ⟨b17, hf⟩ := gd_some hf
        refine xl_5 hX b17 dX4_readWant_91 ?_
        refine vx_iconst (v := (1 : Int32)) h0 dX4_readWant_92 (by decide) ?_
        refine vx_iload_n h0 dX4_readWant_93 rfl ?_
        refine vx_ishl h0 dX4_readWant_94 ?_
        refine vx_ior h0 dX4_readWant_95 ?_
        obtain ⟨b18, hf⟩ := gd_some hf
        refine xs_5 hX b18 dX4_readWant_96 ?_
        generalize (sA p6.2 25 (upd (gA p6.2 25) (Int32.toNatClampNeg v1) ((gA p6.2 25 (Int32.toNatClampNeg v1)) ||| (jshl (1 : Int32) p6.1)))) = σ19 at hf ⊢
        replace hf := bd_h hf
        refine vx_goto (tgt := 115) h0 dX4_readWant_97 (by decide) ?_
        exact w_vretE hX hf dX4_readWant_115
    · replace hf := (if_neg c12).symm.trans hf
      refine vx_aload_n h0 dX4_readWant_64 rfl ?_
      refine vx_iconst (v := (4 : Int32)) h0 dX4_readWant_65 (by decide) ?_
      refine vx_aload_n h0 dX4_readWant_66 rfl ?_
      refine xg_1_6 hX q181 dX4_readWant_67 ?_
      refine vx_iconst (v := (1 : Int32)) h0 dX4_readWant_70 (by decide) ?_
      refine vx_isub h0 dX4_readWant_71 ?_
      obtain ⟨σ21, h20, hf⟩ := ob_some hf
      refine w_callV (st := []) (ci := 4) (q0 := 1) hX (c_X4_fail h20) ce_X4_fail q374 ⟨rfl, rfl⟩ ⟨by decide, by decide⟩ rfl rfl rfl rfl (xo_1 g _) rfl (Nat.le_of_ble_eq_true rfl) dX4_readWant_72 ?_
      show Vx X g.1 4 (wsX g σ21) 75 [(3, .int p6.1), (2, .int s0), (0, .ref (g.2.1 1)), (1, .int v1)] []
      refine vx_goto (tgt := 115) h0 dX4_readWant_75 (by decide) ?_
      exact w_vretE hX hf dX4_readWant_115
  · replace hf := (if_pos c7).symm.trans hf
    exact w_vretE hX hf dX4_readWant_37
def FX4_readWant (σ : SS) (a0 : Int32) : Option (SS) :=
  ob (FX4_letterHere σ) (fun r2 => if r2 = (43 : Int32) then FX4_readWant_J14 σ a0 (1 : Int32)
    else FX4_readWant_J14 σ a0 (0 : Int32))
set_option maxRecDepth 100000 in
set_option maxHeartbeats 4000000 in
theorem c_X4_readWant {σ : SS} {a0 : Int32} {σr : SS} (hf : FX4_readWant σ a0 = some σr) : Mcw wsX yX4_readWant cX4_readWant 4 none ({ frames := 2, cells := 0, slots := 0, locals := 44 } : Room) (fun g => [.ref (g.2.1 1), .int a0]) σ (fun g => none) σr := by
  refine w_enter wsX_fix (by decide) (fun g => Nat.le_of_ble_eq_true rfl) ?_
  intro X g hX
  replace hX : Okw wsX X g cX4_readWant 4 RX4 none ({ frames := 2, cells := 0, slots := 0, locals := 44 } : Room) (fun g => none) σr := hX
  have h0 := hX.1
  show Vx X g.1 4 (wsX g σ) 0 [(0, .ref (g.2.1 1)), (1, .int a0)] []
  rw [FX4_readWant] at hf
  refine vx_aload_n h0 dX4_readWant_0 rfl ?_
  obtain ⟨r2, h1, hf⟩ := ob_some hf
  refine w_callV (st := []) (ci := 4) (q0 := 1) hX (c_X4_letterHere h1) ce_X4_letterHere q362 ⟨rfl, rfl⟩ ⟨by decide, by decide⟩ rfl rfl rfl rfl (xo_1 g _) rfl (Nat.le_of_ble_eq_true rfl) dX4_readWant_1 ?_
  show Vx X g.1 4 (wsX g σ) 4 [(0, .ref (g.2.1 1)), (1, .int a0)] [.int r2]
  refine vx_bipush (v := (43 : Int32)) h0 dX4_readWant_4 (by decide) ?_
  refine vx_icmp_ne (tgt := 13) h0 dX4_readWant_6 (by decide) (fun c3 => ?_) (fun c3 => ?_)
  · replace hf := (if_neg c3).symm.trans hf
    refine vx_iconst (v := (0 : Int32)) h0 dX4_readWant_13 (by decide) ?_
    exact PX4_readWant_J14 hX  hf
  · replace hf := (if_pos c3).symm.trans hf
    refine vx_iconst (v := (1 : Int32)) h0 dX4_readWant_9 (by decide) ?_
    refine vx_goto (tgt := 14) h0 dX4_readWant_10 (by decide) ?_
    exact PX4_readWant_J14 hX  hf
def FX4_readClauseHead_L43 (v1 : Int32) (k : SS → Option (SS)) : Nat → Int32 → SS → Option (SS)
  | 0, _, _ => none
  | n + 1, v2, σ => if (6 : Int32) < v2 then k σ
    else ob (FX4_isWantHere σ) (fun r9 => if r9 = 0 then k σ
    else if (gI σ 15) = 0 then ob (FX4_readWant σ v1) (fun σ13 => ob (FX4_skipBlanks σ13) (fun σ15 => FX4_readClauseHead_L43 v1 k n (v2 + (1 : Int32)) σ15))
    else k σ)
set_option maxRecDepth 100000 in
set_option maxHeartbeats 4000000 in
theorem PX4_readClauseHead_L43 {X : Bx} {g : Gx} {σr : SS} (hX : Okw wsX X g cX4_readClauseHead 3 RX4 none ({ frames := 3, cells := 0, slots := 0, locals := 67 } : Room) (fun g => none) σr) {v1 : Int32} {k : SS → Option (SS)} (hk : ∀ (σ : SS), k σ = some σr → Vx X g.1 3 (wsX g σ) 78 [(0, .ref (g.2.1 1)), (1, .int v1)] []) : ∀ (n : Nat) (v2 : Int32) (σ : SS), FX4_readClauseHead_L43 v1 k n v2 σ = some σr → Vx X g.1 3 (wsX g σ) 43 [(0, .ref (g.2.1 1)), (1, .int v1), (2, .int v2)] [] := by
  have h0 := hX.1
  intro n
  induction n with
  | zero =>
    intro v2 σ hf
    rw [FX4_readClauseHead_L43] at hf
    cases hf
  | succ n ih =>
    intro v2 σ hf
    rw [FX4_readClauseHead_L43] at hf
    refine vx_iload_n h0 dX4_readClauseHead_43 rfl ?_
    refine vx_bipush (v := (6 : Int32)) h0 dX4_readClauseHead_44 (by decide) ?_
    refine vx_icmp_gt (tgt := 78) h0 dX4_readClauseHead_46 (by decide) (fun c7 => ?_) (fun c7 => ?_)
    · replace hf := (if_pos c7).symm.trans hf
      refine vx_sub [0, 1] rfl ?_
      exact hk _ hf
    · replace hf := (if_neg c7).symm.trans hf
      refine vx_aload_n h0 dX4_readClauseHead_49 rfl ?_
      obtain ⟨r9, h8, hf⟩ := ob_some hf
      refine w_callV (st := []) (ci := 4) (q0 := 1) hX (c_X4_isWantHere h8) ce_X4_isWantHere q378 ⟨rfl, rfl⟩ ⟨by decide, by decide⟩ rfl rfl rfl rfl (xo_1 g _) rfl (Nat.le_of_ble_eq_true rfl) dX4_readClauseHead_50 ?_
      show Vx X g.1 3 (wsX g σ) 53 [(0, .ref (g.2.1 1)), (1, .int v1), (2, .int v2)] [.int r9]
      refine vx_if_eq (tgt := 78) h0 dX4_readClauseHead_53 (by decide) (fun c10 => ?_) (fun c10 => ?_)
      · replace hf := (if_pos c10).symm.trans hf
        refine vx_sub [0, 1] rfl ?_
        exact hk _ hf
      · replace hf := (if_neg c10).symm.trans hf
        refine vx_aload_n h0 dX4_readClauseHead_56 rfl ?_
        refine xg_1_5 hX q180 dX4_readClauseHead_57 ?_
        refine vx_if_ne (tgt := 78) h0 dX4_readClauseHead_60 (by decide) (fun c11 => ?_) (fun c11 => ?_)
        · replace hf := (if_neg c11).symm.trans hf
          refine vx_sub [0, 1] rfl ?_
          exact hk _ hf
        · replace hf := (if_pos c11).symm.trans hf
          refine vx_aload_n h0 dX4_readClauseHead_63 rfl ?_
          refine vx_iload_n h0 dX4_readClauseHead_64 rfl ?_
          obtain ⟨σ13, h12, hf⟩ := ob_some hf
          refine w_callV (st := []) (ci := 4) (q0 := 1) hX (c_X4_readWant h12) ce_X4_readWant q382 ⟨rfl, rfl⟩ ⟨by decide, by decide⟩ rfl rfl rfl rfl (xo_1 g _) rfl (Nat.le_of_ble_eq_true rfl) dX4_readClauseHead_65 ?_
          show Vx X g.1 3 (wsX g σ13) 68 [(0, .ref (g.2.1 1)), (1, .int v1), (2, .int v2)] []
          refine vx_aload_n h0 dX4_readClauseHead_68 rfl ?_
          obtain ⟨σ15, h14, hf⟩ := ob_some hf
          refine w_callV (st := []) (ci := 4) (q0 := 1) hX (c_X4_skipBlanks h14) ce_X4_skipBlanks q354 ⟨rfl, rfl⟩ ⟨by decide, by decide⟩ rfl rfl rfl rfl (xo_1 g _) rfl (Nat.le_of_ble_eq_true rfl) dX4_readClauseHead_69 ?_
          show Vx X g.1 3 (wsX g σ15) 72 [(0, .ref (g.2.1 1)), (1, .int v1), (2, .int v2)] []
          refine vx_iinc (q := 2) (v := (v2 + (1 : Int32))) (ls' := [(2, .int (v2 + (1 : Int32))), (0, .ref (g.2.1 1)), (1, .int v1)]) h0 dX4_readClauseHead_72 rfl rfl (by decide) rfl ?_
          refine vx_goto (tgt := 43) h0 dX4_readClauseHead_75 (by decide) ?_
          refine vx_sub [1, 2, 0] rfl ?_
          exact ih _ _ hf
def FX4_readClauseHead_J124 (σ : SS) (v1 : Int32) : Option (SS) :=
  ob (FX4_letterHere σ) (fun r22 => if r22 = (40 : Int32) then bd (sI σ 16 ((gI σ 16) + (1 : Int32))) (fun σ24 => bd (sI σ24 17 v1) (fun σ25 => some σ25))
    else ob (FX4_fail σ (1 : Int32) (gI σ 16)) (fun σ27 => some σ27))
set_option maxRecDepth 100000 in
set_option maxHeartbeats 4000000 in
theorem PX4_readClauseHead_J124 {X : Bx} {g : Gx} {σr : SS} {σ : SS} (hX : Okw wsX X g cX4_readClauseHead 3 RX4 none ({ frames := 3, cells := 0, slots := 0, locals := 67 } : Room) (fun g => none) σr) {v1 : Int32} (hf : FX4_readClauseHead_J124 σ v1 = some σr) : Vx X g.1 3 (wsX g σ) 124 [(0, .ref (g.2.1 1)), (1, .int v1)] [] := by
  have h0 := hX.1
  rw [FX4_readClauseHead_J124] at hf
  refine vx_aload_n h0 dX4_readClauseHead_124 rfl ?_
  obtain ⟨r22, h21, hf⟩ := ob_some hf
  refine w_callV (st := []) (ci := 4) (q0 := 1) hX (c_X4_letterHere h21) ce_X4_letterHere q362 ⟨rfl, rfl⟩ ⟨by decide, by decide⟩ rfl rfl rfl rfl (xo_1 g _) rfl (Nat.le_of_ble_eq_true rfl) dX4_readClauseHead_125 ?_
  show Vx X g.1 3 (wsX g σ) 128 [(0, .ref (g.2.1 1)), (1, .int v1)] [.int r22]
  refine vx_bipush (v := (40 : Int32)) h0 dX4_readClauseHead_128 (by decide) ?_
  refine vx_icmp_eq (tgt := 143) h0 dX4_readClauseHead_130 (by decide) (fun c23 => ?_) (fun c23 => ?_)
  · replace hf := (if_pos c23).symm.trans hf
    refine vx_aload_n h0 dX4_readClauseHead_143 rfl ?_
    refine vx_dup h0 dX4_readClauseHead_144 rfl ?_
    refine xg_1_6 hX q181 dX4_readClauseHead_145 ?_
    refine vx_iconst (v := (1 : Int32)) h0 dX4_readClauseHead_148 (by decide) ?_
    refine vx_iadd h0 dX4_readClauseHead_149 ?_
    refine xp_1_6 hX q181 dX4_readClauseHead_150 ?_
    generalize (sI σ 16 ((gI σ 16) + (1 : Int32))) = σ24 at hf ⊢
    replace hf := bd_h hf
    refine vx_aload_n h0 dX4_readClauseHead_153 rfl ?_
    refine vx_iload_n h0 dX4_readClauseHead_154 rfl ?_
    refine xp_1_7 hX q182 dX4_readClauseHead_155 ?_
    generalize (sI σ24 17 v1) = σ25 at hf ⊢
    replace hf := bd_h hf
    exact w_vretE hX hf dX4_readClauseHead_158
  · replace hf := (if_neg c23).symm.trans hf
    refine vx_aload_n h0 dX4_readClauseHead_133 rfl ?_
    refine vx_iconst (v := (1 : Int32)) h0 dX4_readClauseHead_134 (by decide) ?_
    refine vx_aload_n h0 dX4_readClauseHead_135 rfl ?_
    refine xg_1_6 hX q181 dX4_readClauseHead_136 ?_
    obtain ⟨σ27, h26, hf⟩ := ob_some hf
    refine w_callV (st := []) (ci := 4) (q0 := 1) hX (c_X4_fail h26) ce_X4_fail q374 ⟨rfl, rfl⟩ ⟨by decide, by decide⟩ rfl rfl rfl rfl (xo_1 g _) rfl (Nat.le_of_ble_eq_true rfl) dX4_readClauseHead_139 ?_
    show Vx X g.1 3 (wsX g σ27) 142 [(0, .ref (g.2.1 1)), (1, .int v1)] []
    exact w_vretE hX hf dX4_readClauseHead_142
def FX4_readClauseHead (σ : SS) : Option (SS) :=
  ob (FX0_addClause σ (gI σ 17)) (fun p2 => if p2.1 = (-1 : Int32) then ob (FX4_fail p2.2 (3 : Int32) (gI p2.2 16)) (fun σ33 => some σ33)
    else bd (sI p2.2 16 ((gI p2.2 16) + (1 : Int32))) (fun σ4 => ob (FX4_skipBlanks σ4) (fun σ6 => FX4_readClauseHead_L43 p2.1 (fun σ16 => if (gI σ16 15) = 0 then ob (FX4_letterHere σ16) (fun r19 => if r19 = (42 : Int32) then bd (sI σ16 22 ((gI σ16 22) ||| (jshl (1 : Int32) p2.1))) (fun σ28 => bd (sI σ28 16 ((gI σ28 16) + (1 : Int32))) (fun σ29 => ob (FX4_skipBlanks σ29) (fun σ31 => FX4_readClauseHead_J124 σ31 p2.1)))
    else FX4_readClauseHead_J124 σ16 p2.1)
    else some σ16) 5000 (0 : Int32) σ6)))
set_option maxRecDepth 100000 in
set_option maxHeartbeats 4000000 in
theorem c_X4_readClauseHead {σ : SS} {σr : SS} (hf : FX4_readClauseHead σ = some σr) : Mcw wsX yX4_readClauseHead cX4_readClauseHead 3 none ({ frames := 3, cells := 0, slots := 0, locals := 67 } : Room) (fun g => [.ref (g.2.1 1)]) σ (fun g => none) σr := by
  refine w_enter wsX_fix (by decide) (fun g => Nat.le_of_ble_eq_true rfl) ?_
  intro X g hX
  replace hX : Okw wsX X g cX4_readClauseHead 3 RX4 none ({ frames := 3, cells := 0, slots := 0, locals := 67 } : Room) (fun g => none) σr := hX
  have h0 := hX.1
  show Vx X g.1 3 (wsX g σ) 0 [(0, .ref (g.2.1 1))] []
  rw [FX4_readClauseHead] at hf
  refine vx_aload_n h0 dX4_readClauseHead_0 rfl ?_
  refine xg_1_2 hX q176 dX4_readClauseHead_1 ?_
  refine vx_aload_n h0 dX4_readClauseHead_4 rfl ?_
  refine xg_1_7 hX q182 dX4_readClauseHead_5 ?_
  obtain ⟨p2, h1, hf⟩ := ob_some hf
  refine w_callV (st := []) (ci := 0) (q0 := 2) hX (c_X0_addClause h1) ce_X0_addClause q370 ⟨rfl, rfl⟩ ⟨by decide, by decide⟩ rfl rfl rfl rfl (xo_2 g _) rfl (Nat.le_of_ble_eq_true rfl) dX4_readClauseHead_8 ?_
  show Vx X g.1 3 (wsX g p2.2) 11 [(0, .ref (g.2.1 1))] [.int p2.1]
  refine vx_istore_n (ls' := [(1, .int p2.1), (0, .ref (g.2.1 1))]) h0 dX4_readClauseHead_11 (by decide) rfl ?_
  refine vx_iload_n h0 dX4_readClauseHead_12 rfl ?_
  refine vx_iconst (v := (-1 : Int32)) h0 dX4_readClauseHead_13 (by decide) ?_
  refine vx_icmp_ne (tgt := 27) h0 dX4_readClauseHead_14 (by decide) (fun c3 => ?_) (fun c3 => ?_)
  · replace hf := (if_neg c3).symm.trans hf
    refine vx_aload_n h0 dX4_readClauseHead_27 rfl ?_
    refine vx_dup h0 dX4_readClauseHead_28 rfl ?_
    refine xg_1_6 hX q181 dX4_readClauseHead_29 ?_
    refine vx_iconst (v := (1 : Int32)) h0 dX4_readClauseHead_32 (by decide) ?_
    refine vx_iadd h0 dX4_readClauseHead_33 ?_
    refine xp_1_6 hX q181 dX4_readClauseHead_34 ?_
    generalize (sI p2.2 16 ((gI p2.2 16) + (1 : Int32))) = σ4 at hf ⊢
    replace hf := bd_h hf
    refine vx_aload_n h0 dX4_readClauseHead_37 rfl ?_
    obtain ⟨σ6, h5, hf⟩ := ob_some hf
    refine w_callV (st := []) (ci := 4) (q0 := 1) hX (c_X4_skipBlanks h5) ce_X4_skipBlanks q354 ⟨rfl, rfl⟩ ⟨by decide, by decide⟩ rfl rfl rfl rfl (xo_1 g _) rfl (Nat.le_of_ble_eq_true rfl) dX4_readClauseHead_38 ?_
    show Vx X g.1 3 (wsX g σ6) 41 [(1, .int p2.1), (0, .ref (g.2.1 1))] []
    refine vx_iconst (v := (0 : Int32)) h0 dX4_readClauseHead_41 (by decide) ?_
    refine vx_istore_n (ls' := [(2, .int (0 : Int32)), (1, .int p2.1), (0, .ref (g.2.1 1))]) h0 dX4_readClauseHead_42 (by decide) rfl ?_
    refine vx_sub [2, 1, 0] rfl ?_
    refine PX4_readClauseHead_L43 hX (fun σ16 hf => ?_) _ _ _ hf
    refine vx_aload_n h0 dX4_readClauseHead_78 rfl ?_
    refine xg_1_5 hX q180 dX4_readClauseHead_79 ?_
    refine vx_if_eq (tgt := 86) h0 dX4_readClauseHead_82 (by decide) (fun c17 => ?_) (fun c17 => ?_)
    · replace hf := (if_pos c17).symm.trans hf
      refine vx_aload_n h0 dX4_readClauseHead_86 rfl ?_
      obtain ⟨r19, h18, hf⟩ := ob_some hf
      refine w_callV (st := []) (ci := 4) (q0 := 1) hX (c_X4_letterHere h18) ce_X4_letterHere q362 ⟨rfl, rfl⟩ ⟨by decide, by decide⟩ rfl rfl rfl rfl (xo_1 g _) rfl (Nat.le_of_ble_eq_true rfl) dX4_readClauseHead_87 ?_
      show Vx X g.1 3 (wsX g σ16) 90 [(0, .ref (g.2.1 1)), (1, .int p2.1)] [.int r19]
      refine vx_bipush (v := (42 : Int32)) h0 dX4_readClauseHead_90 (by decide) ?_
      refine vx_icmp_ne (tgt := 124) h0 dX4_readClauseHead_92 (by decide) (fun c20 => ?_) (fun c20 => ?_)
      · replace hf := (if_neg c20).symm.trans hf
        exact PX4_readClauseHead_J124 hX  hf
      · replace hf := (if_pos c20).symm.trans hf
        refine vx_aload_n h0 dX4_readClauseHead_95 rfl ?_
        refine xg_1_2 hX q176 dX4_readClauseHead_96 ?_
        refine vx_dup h0 dX4_readClauseHead_99 rfl ?_
        refine xg_2_2 hX q113 dX4_readClauseHead_100 ?_
        refine vx_iconst (v := (1 : Int32)) h0 dX4_readClauseHead_103 (by decide) ?_
        refine vx_iload_n h0 dX4_readClauseHead_104 rfl ?_
        refine vx_ishl h0 dX4_readClauseHead_105 ?_
        refine vx_ior h0 dX4_readClauseHead_106 ?_
        refine xp_2_2 hX q113 dX4_readClauseHead_107 ?_
        generalize (sI σ16 22 ((gI σ16 22) ||| (jshl (1 : Int32) p2.1))) = σ28 at hf ⊢
        replace hf := bd_h hf
        refine vx_aload_n h0 dX4_readClauseHead_110 rfl ?_
        refine vx_dup h0 dX4_readClauseHead_111 rfl ?_
        refine xg_1_6 hX q181 dX4_readClauseHead_112 ?_
        refine vx_iconst (v := (1 : Int32)) h0 dX4_readClauseHead_115 (by decide) ?_
        refine vx_iadd h0 dX4_readClauseHead_116 ?_
        refine xp_1_6 hX q181 dX4_readClauseHead_117 ?_
        generalize (sI σ28 16 ((gI σ28 16) + (1 : Int32))) = σ29 at hf ⊢
        replace hf := bd_h hf
        refine vx_aload_n h0 dX4_readClauseHead_120 rfl ?_
        obtain ⟨σ31, h30, hf⟩ := ob_some hf
        refine w_callV (st := []) (ci := 4) (q0 := 1) hX (c_X4_skipBlanks h30) ce_X4_skipBlanks q354 ⟨rfl, rfl⟩ ⟨by decide, by decide⟩ rfl rfl rfl rfl (xo_1 g _) rfl (Nat.le_of_ble_eq_true rfl) dX4_readClauseHead_121 ?_
        show Vx X g.1 3 (wsX g σ31) 124 [(0, .ref (g.2.1 1)), (1, .int p2.1)] []
        exact PX4_readClauseHead_J124 hX  hf
    · replace hf := (if_neg c17).symm.trans hf
      exact w_vretE hX hf dX4_readClauseHead_85
  · replace hf := (if_pos c3).symm.trans hf
    refine vx_aload_n h0 dX4_readClauseHead_17 rfl ?_
    refine vx_iconst (v := (3 : Int32)) h0 dX4_readClauseHead_18 (by decide) ?_
    refine vx_aload_n h0 dX4_readClauseHead_19 rfl ?_
    refine xg_1_6 hX q181 dX4_readClauseHead_20 ?_
    obtain ⟨σ33, h32, hf⟩ := ob_some hf
    refine w_callV (st := []) (ci := 4) (q0 := 1) hX (c_X4_fail h32) ce_X4_fail q374 ⟨rfl, rfl⟩ ⟨by decide, by decide⟩ rfl rfl rfl rfl (xo_1 g _) rfl (Nat.le_of_ble_eq_true rfl) dX4_readClauseHead_23 ?_
    show Vx X g.1 3 (wsX g σ33) 26 [(1, .int p2.1), (0, .ref (g.2.1 1))] []
    exact w_vretE hX hf dX4_readClauseHead_26
def FX4_readReference_L13 (v1 : Int32) (k : Int32 → Int32 → SS → Option (SS)) : Nat → Int32 → Int32 → SS → Option (SS)
  | 0, _, _, _ => none
  | n + 1, v2, v3, σ => if (3 : Int32) ≤ v3 then k v2 v3 σ
    else ob (FX4_figureHere σ) (fun r5 => if r5 = (-1 : Int32) then k v2 v3 σ
    else ob (FX4_figureHere σ) (fun r8 => bd (sI σ 16 ((gI σ 16) + (1 : Int32))) (fun σ9 => FX4_readReference_L13 v1 k n ((v2 * (10 : Int32)) + r8) (v3 + (1 : Int32)) σ9)))
set_option maxRecDepth 100000 in
set_option maxHeartbeats 4000000 in
theorem PX4_readReference_L13 {X : Bx} {g : Gx} {σr : SS} (hX : Okw wsX X g cX4_readReference 4 RX4 none ({ frames := 1, cells := 0, slots := 0, locals := 23 } : Room) (fun g => none) σr) {v1 : Int32} {k : Int32 → Int32 → SS → Option (SS)} (hk : ∀ (v2 : Int32) (v3 : Int32) (σ : SS), k v2 v3 σ = some σr → Vx X g.1 4 (wsX g σ) 52 [(0, .ref (g.2.1 1)), (1, .int v1), (2, .int v2), (3, .int v3)] []) : ∀ (n : Nat) (v2 : Int32) (v3 : Int32) (σ : SS), FX4_readReference_L13 v1 k n v2 v3 σ = some σr → Vx X g.1 4 (wsX g σ) 13 [(0, .ref (g.2.1 1)), (1, .int v1), (2, .int v2), (3, .int v3)] [] := by
  have h0 := hX.1
  intro n
  induction n with
  | zero =>
    intro v2 v3 σ hf
    rw [FX4_readReference_L13] at hf
    cases hf
  | succ n ih =>
    intro v2 v3 σ hf
    rw [FX4_readReference_L13] at hf
    refine vx_iload_n h0 dX4_readReference_13 rfl ?_
    refine vx_iconst (v := (3 : Int32)) h0 dX4_readReference_14 (by decide) ?_
    refine vx_icmp_ge (tgt := 52) h0 dX4_readReference_15 (by decide) (fun c3 => ?_) (fun c3 => ?_)
    · replace hf := (if_pos c3).symm.trans hf
      exact hk _ _ _ hf
    · replace hf := (if_neg c3).symm.trans hf
      refine vx_aload_n h0 dX4_readReference_18 rfl ?_
      obtain ⟨r5, h4, hf⟩ := ob_some hf
      refine w_callV (st := []) (ci := 4) (q0 := 1) hX (c_X4_figureHere h4) ce_X4_figureHere q390 ⟨rfl, rfl⟩ ⟨by decide, by decide⟩ rfl rfl rfl rfl (xo_1 g _) rfl (Nat.le_of_ble_eq_true rfl) dX4_readReference_19 ?_
      show Vx X g.1 4 (wsX g σ) 22 [(0, .ref (g.2.1 1)), (1, .int v1), (2, .int v2), (3, .int v3)] [.int r5]
      refine vx_iconst (v := (-1 : Int32)) h0 dX4_readReference_22 (by decide) ?_
      refine vx_icmp_eq (tgt := 52) h0 dX4_readReference_23 (by decide) (fun c6 => ?_) (fun c6 => ?_)
      · replace hf := (if_pos c6).symm.trans hf
        exact hk _ _ _ hf
      · replace hf := (if_neg c6).symm.trans hf
        refine vx_iload_n h0 dX4_readReference_26 rfl ?_
        refine vx_bipush (v := (10 : Int32)) h0 dX4_readReference_27 (by decide) ?_
        refine vx_imul h0 dX4_readReference_29 ?_
        refine vx_aload_n h0 dX4_readReference_30 rfl ?_
        obtain ⟨r8, h7, hf⟩ := ob_some hf
        refine w_callV (st := [.int (v2 * (10 : Int32))]) (ci := 4) (q0 := 1) hX (c_X4_figureHere h7) ce_X4_figureHere q390 ⟨rfl, rfl⟩ ⟨by decide, by decide⟩ rfl rfl rfl rfl (xo_1 g _) rfl (Nat.le_of_ble_eq_true rfl) dX4_readReference_31 ?_
        show Vx X g.1 4 (wsX g σ) 34 [(0, .ref (g.2.1 1)), (1, .int v1), (2, .int v2), (3, .int v3)] [.int r8, .int (v2 * (10 : Int32))]
        refine vx_iadd h0 dX4_readReference_34 ?_
        refine vx_istore_n (ls' := [(2, .int ((v2 * (10 : Int32)) + r8)), (0, .ref (g.2.1 1)), (1, .int v1), (3, .int v3)]) h0 dX4_readReference_35 (by decide) rfl ?_
        refine vx_iinc (q := 3) (v := (v3 + (1 : Int32))) (ls' := [(3, .int (v3 + (1 : Int32))), (2, .int ((v2 * (10 : Int32)) + r8)), (0, .ref (g.2.1 1)), (1, .int v1)]) h0 dX4_readReference_36 rfl rfl (by decide) rfl ?_
        refine vx_aload_n h0 dX4_readReference_39 rfl ?_
        refine vx_dup h0 dX4_readReference_40 rfl ?_
        refine xg_1_6 hX q181 dX4_readReference_41 ?_
        refine vx_iconst (v := (1 : Int32)) h0 dX4_readReference_44 (by decide) ?_
        refine vx_iadd h0 dX4_readReference_45 ?_
        refine xp_1_6 hX q181 dX4_readReference_46 ?_
        generalize (sI σ 16 ((gI σ 16) + (1 : Int32))) = σ9 at hf ⊢
        replace hf := bd_h hf
        refine vx_goto (tgt := 13) h0 dX4_readReference_49 (by decide) ?_
        refine vx_sub [2, 3, 1, 0] rfl ?_
        exact ih _ _ _ hf
def FX4_readReference_J76 (σ : SS) (v1 : Int32) : Option (SS) :=
  ob (FX4_fail σ (2 : Int32) v1) (fun σ16 => some σ16)
set_option maxRecDepth 100000 in
set_option maxHeartbeats 4000000 in
theorem PX4_readReference_J76 {X : Bx} {g : Gx} {σr : SS} {σ : SS} (hX : Okw wsX X g cX4_readReference 4 RX4 none ({ frames := 1, cells := 0, slots := 0, locals := 23 } : Room) (fun g => none) σr) {v1 : Int32} (hf : FX4_readReference_J76 σ v1 = some σr) : Vx X g.1 4 (wsX g σ) 76 [(0, .ref (g.2.1 1)), (1, .int v1)] [] := by
  have h0 := hX.1
  rw [FX4_readReference_J76] at hf
  refine vx_aload_n h0 dX4_readReference_76 rfl ?_
  refine vx_iconst (v := (2 : Int32)) h0 dX4_readReference_77 (by decide) ?_
  refine vx_iload_n h0 dX4_readReference_78 rfl ?_
  obtain ⟨σ16, h15, hf⟩ := ob_some hf
  refine w_callV (st := []) (ci := 4) (q0 := 1) hX (c_X4_fail h15) ce_X4_fail q374 ⟨rfl, rfl⟩ ⟨by decide, by decide⟩ rfl rfl rfl rfl (xo_1 g _) rfl (Nat.le_of_ble_eq_true rfl) dX4_readReference_79 ?_
  show Vx X g.1 4 (wsX g σ16) 82 [(0, .ref (g.2.1 1)), (1, .int v1)] []
  refine vx_goto (tgt := 123) h0 dX4_readReference_82 (by decide) ?_
  exact w_vretE hX hf dX4_readReference_123
def FX4_readReference (σ : SS) : Option (SS) :=
  ob (FX4_skipBlanks σ) (fun σ2 => FX4_readReference_L13 (gI σ2 16) (fun u10 u11 σ12 => if u11 = 0 then ob (FX4_fail σ12 (1 : Int32) (gI σ2 16)) (fun σ24 => some σ24)
    else if (2 : Int32) < u11 then FX4_readReference_J76 σ12 (gI σ2 16)
    else if u10 < (16 : Int32) then if (30 : Int32) ≤ (gI σ12 21) then some σ12
    else gd (inb (gI σ12 21) 30) (bd (sA σ12 14 (upd (gA σ12 14) (Int32.toNatClampNeg (gI σ12 21)) (gI σ2 16))) (fun σ20 => ob (FX0_addPart σ20 (gI σ20 17) (2 : Int32) u10) (fun σ22 => some σ22)))
    else FX4_readReference_J76 σ12 (gI σ2 16)) 5000 (0 : Int32) (0 : Int32) σ2)
set_option maxRecDepth 100000 in
set_option maxHeartbeats 4000000 in
theorem c_X4_readReference {σ : SS} {σr : SS} (hf : FX4_readReference σ = some σr) : Mcw wsX yX4_readReference cX4_readReference 4 none ({ frames := 1, cells := 0, slots := 0, locals := 23 } : Room) (fun g => [.ref (g.2.1 1)]) σ (fun g => none) σr := by
  refine w_enter wsX_fix (by decide) (fun g => Nat.le_of_ble_eq_true rfl) ?_
  intro X g hX
  replace hX : Okw wsX X g cX4_readReference 4 RX4 none ({ frames := 1, cells := 0, slots := 0, locals := 23 } : Room) (fun g => none) σr := hX
  have h0 := hX.1
  show Vx X g.1 4 (wsX g σ) 0 [(0, .ref (g.2.1 1))] []
  rw [FX4_readReference] at hf
  refine vx_aload_n h0 dX4_readReference_0 rfl ?_
  obtain ⟨σ2, h1, hf⟩ := ob_some hf
  refine w_callV (st := []) (ci := 4) (q0 := 1) hX (c_X4_skipBlanks h1) ce_X4_skipBlanks q354 ⟨rfl, rfl⟩ ⟨by decide, by decide⟩ rfl rfl rfl rfl (xo_1 g _) rfl (Nat.le_of_ble_eq_true rfl) dX4_readReference_1 ?_
  show Vx X g.1 4 (wsX g σ2) 4 [(0, .ref (g.2.1 1))] []
  refine vx_aload_n h0 dX4_readReference_4 rfl ?_
  refine xg_1_6 hX q181 dX4_readReference_5 ?_
  refine vx_istore_n (ls' := [(1, .int (gI σ2 16)), (0, .ref (g.2.1 1))]) h0 dX4_readReference_8 (by decide) rfl ?_
  refine vx_iconst (v := (0 : Int32)) h0 dX4_readReference_9 (by decide) ?_
  refine vx_istore_n (ls' := [(2, .int (0 : Int32)), (1, .int (gI σ2 16)), (0, .ref (g.2.1 1))]) h0 dX4_readReference_10 (by decide) rfl ?_
  refine vx_iconst (v := (0 : Int32)) h0 dX4_readReference_11 (by decide) ?_
  refine vx_istore_n (ls' := [(3, .int (0 : Int32)), (2, .int (0 : Int32)), (1, .int (gI σ2 16)), (0, .ref (g.2.1 1))]) h0 dX4_readReference_12 (by decide) rfl ?_
  refine vx_sub [3, 2, 1, 0] rfl ?_
  refine PX4_readReference_L13 hX (fun u10 u11 σ12 hf => ?_) _ _ _ _ hf
  refine vx_iload_n h0 dX4_readReference_52 rfl ?_
  refine vx_if_ne (tgt := 65) h0 dX4_readReference_53 (by decide) (fun c13 => ?_) (fun c13 => ?_)
  · replace hf := (if_neg c13).symm.trans hf
    refine vx_iload_n h0 dX4_readReference_65 rfl ?_
    refine vx_iconst (v := (2 : Int32)) h0 dX4_readReference_66 (by decide) ?_
    refine vx_icmp_gt (tgt := 76) h0 dX4_readReference_67 (by decide) (fun c14 => ?_) (fun c14 => ?_)
    · replace hf := (if_pos c14).symm.trans hf
      refine vx_sub [0, 1] rfl ?_
      exact PX4_readReference_J76 hX  hf
    · replace hf := (if_neg c14).symm.trans hf
      refine vx_iload_n h0 dX4_readReference_70 rfl ?_
      refine vx_bipush (v := (16 : Int32)) h0 dX4_readReference_71 (by decide) ?_
      refine vx_icmp_lt (tgt := 85) h0 dX4_readReference_73 (by decide) (fun c17 => ?_) (fun c17 => ?_)
      · replace hf := (if_pos c17).symm.trans hf
        refine vx_aload_n h0 dX4_readReference_85 rfl ?_
        refine xg_1_2 hX q176 dX4_readReference_86 ?_
        refine xg_2_1 hX q110 dX4_readReference_89 ?_
        refine vx_bipush (v := (30 : Int32)) h0 dX4_readReference_92 (by decide) ?_
        refine vx_icmp_ge (tgt := 123) h0 dX4_readReference_94 (by decide) (fun c18 => ?_) (fun c18 => ?_)
        · replace hf := (if_pos c18).symm.trans hf
          exact w_vretE hX hf dX4_readReference_123
        · replace hf := (if_neg c18).symm.trans hf
          refine vx_aload_n h0 dX4_readReference_97 rfl ?_
          refine xg_1_4 hX q179 dX4_readReference_98 ?_
          refine vx_aload_n h0 dX4_readReference_101 rfl ?_
          refine xg_1_2 hX q176 dX4_readReference_102 ?_
          refine xg_2_1 hX q110 dX4_readReference_105 ?_
          refine vx_iload_n h0 dX4_readReference_108 rfl ?_
          obtain ⟨b19, hf⟩ := gd_some hf
          refine xs_13 hX b19 dX4_readReference_109 ?_
          generalize (sA σ12 14 (upd (gA σ12 14) (Int32.toNatClampNeg (gI σ12 21)) (gI σ2 16))) = σ20 at hf ⊢
          replace hf := bd_h hf
          refine vx_aload_n h0 dX4_readReference_110 rfl ?_
          refine xg_1_2 hX q176 dX4_readReference_111 ?_
          refine vx_aload_n h0 dX4_readReference_114 rfl ?_
          refine xg_1_7 hX q182 dX4_readReference_115 ?_
          refine vx_iconst (v := (2 : Int32)) h0 dX4_readReference_118 (by decide) ?_
          refine vx_iload_n h0 dX4_readReference_119 rfl ?_
          obtain ⟨σ22, h21, hf⟩ := ob_some hf
          refine w_callV (st := []) (ci := 0) (q0 := 2) hX (c_X0_addPart h21) ce_X0_addPart q405 ⟨rfl, rfl⟩ ⟨by decide, by decide⟩ rfl rfl rfl rfl (xo_2 g _) rfl (Nat.le_of_ble_eq_true rfl) dX4_readReference_120 ?_
          show Vx X g.1 4 (wsX g σ22) 123 [(0, .ref (g.2.1 1)), (1, .int (gI σ2 16)), (2, .int u10), (3, .int u11)] []
          exact w_vretE hX hf dX4_readReference_123
      · replace hf := (if_neg c17).symm.trans hf
        refine vx_sub [0, 1] rfl ?_
        exact PX4_readReference_J76 hX  hf
  · replace hf := (if_pos c13).symm.trans hf
    refine vx_aload_n h0 dX4_readReference_56 rfl ?_
    refine vx_iconst (v := (1 : Int32)) h0 dX4_readReference_57 (by decide) ?_
    refine vx_iload_n h0 dX4_readReference_58 rfl ?_
    obtain ⟨σ24, h23, hf⟩ := ob_some hf
    refine w_callV (st := []) (ci := 4) (q0 := 1) hX (c_X4_fail h23) ce_X4_fail q374 ⟨rfl, rfl⟩ ⟨by decide, by decide⟩ rfl rfl rfl rfl (xo_1 g _) rfl (Nat.le_of_ble_eq_true rfl) dX4_readReference_59 ?_
    show Vx X g.1 4 (wsX g σ24) 62 [(0, .ref (g.2.1 1)), (1, .int (gI σ2 16)), (2, .int u10), (3, .int u11)] []
    refine vx_goto (tgt := 123) h0 dX4_readReference_62 (by decide) ?_
    exact w_vretE hX hf dX4_readReference_123
def FX4_readPart_J74 (σ : SS) (v2 : Int32) (s0 : Int32) (s1 : Int32) : Option (SS) :=
  ob (FX0_addPart σ s1 s0 v2) (fun σ9 => some σ9)
set_option maxRecDepth 100000 in
set_option maxHeartbeats 4000000 in
theorem PX4_readPart_J74 {X : Bx} {g : Gx} {σr : SS} {σ : SS} (hX : Okw wsX X g cX4_readPart 3 RX4 none ({ frames := 2, cells := 0, slots := 0, locals := 46 } : Room) (fun g => none) σr) {v2 : Int32} {s0 : Int32} {s1 : Int32} (hf : FX4_readPart_J74 σ v2 s0 s1 = some σr) : Vx X g.1 3 (wsX g σ) 74 [(2, .int v2)] [.int s0, .int s1, .ref (g.2.1 2)] := by
  have h0 := hX.1
  rw [FX4_readPart_J74] at hf
  refine vx_iload_n h0 dX4_readPart_74 rfl ?_
  obtain ⟨σ9, h8, hf⟩ := ob_some hf
  refine w_callV (st := []) (ci := 0) (q0 := 2) hX (c_X0_addPart h8) ce_X0_addPart q405 ⟨rfl, rfl⟩ ⟨by decide, by decide⟩ rfl rfl rfl rfl (xo_2 g _) rfl (Nat.le_of_ble_eq_true rfl) dX4_readPart_75 ?_
  show Vx X g.1 3 (wsX g σ9) 78 [(2, .int v2)] []
  exact w_vretE hX hf dX4_readPart_78
def FX4_readPart (σ : SS) (a0 : Int32) : Option (SS) :=
  if (gI σ 21) < (30 : Int32) then bd (sI σ 16 ((gI σ 16) + (1 : Int32))) (fun σ2 => if a0 = (114 : Int32) then ob (FX4_readReference σ2) (fun σ11 => some σ11)
    else ob (FX4_readFigure σ2 (8 : Int32)) (fun p5 => if p5.1 = (-1 : Int32) then some p5.2
    else if a0 = (100 : Int32) then FX4_readPart_J74 p5.2 p5.1 (0 : Int32) (gI p5.2 17)
    else FX4_readPart_J74 p5.2 p5.1 (1 : Int32) (gI p5.2 17)))
    else ob (FX4_fail σ (3 : Int32) (gI σ 16)) (fun σ13 => some σ13)
set_option maxRecDepth 100000 in
set_option maxHeartbeats 4000000 in
theorem c_X4_readPart {σ : SS} {a0 : Int32} {σr : SS} (hf : FX4_readPart σ a0 = some σr) : Mcw wsX yX4_readPart cX4_readPart 3 none ({ frames := 2, cells := 0, slots := 0, locals := 46 } : Room) (fun g => [.ref (g.2.1 1), .int a0]) σ (fun g => none) σr := by
  refine w_enter wsX_fix (by decide) (fun g => Nat.le_of_ble_eq_true rfl) ?_
  intro X g hX
  replace hX : Okw wsX X g cX4_readPart 3 RX4 none ({ frames := 2, cells := 0, slots := 0, locals := 46 } : Room) (fun g => none) σr := hX
  have h0 := hX.1
  show Vx X g.1 3 (wsX g σ) 0 [(0, .ref (g.2.1 1)), (1, .int a0)] []
  rw [FX4_readPart] at hf
  refine vx_aload_n h0 dX4_readPart_0 rfl ?_
  refine xg_1_2 hX q176 dX4_readPart_1 ?_
  refine xg_2_1 hX q110 dX4_readPart_4 ?_
  refine vx_bipush (v := (30 : Int32)) h0 dX4_readPart_7 (by decide) ?_
  refine vx_icmp_lt (tgt := 22) h0 dX4_readPart_9 (by decide) (fun c1 => ?_) (fun c1 => ?_)
  · replace hf := (if_pos c1).symm.trans hf
    refine vx_aload_n h0 dX4_readPart_22 rfl ?_
    refine vx_dup h0 dX4_readPart_23 rfl ?_
    refine xg_1_6 hX q181 dX4_readPart_24 ?_
    refine vx_iconst (v := (1 : Int32)) h0 dX4_readPart_27 (by decide) ?_
    refine vx_iadd h0 dX4_readPart_28 ?_
    refine xp_1_6 hX q181 dX4_readPart_29 ?_
    generalize (sI σ 16 ((gI σ 16) + (1 : Int32))) = σ2 at hf ⊢
    replace hf := bd_h hf
    refine vx_iload_n h0 dX4_readPart_32 rfl ?_
    refine vx_bipush (v := (114 : Int32)) h0 dX4_readPart_33 (by decide) ?_
    refine vx_icmp_ne (tgt := 43) h0 dX4_readPart_35 (by decide) (fun c3 => ?_) (fun c3 => ?_)
    · replace hf := (if_neg c3).symm.trans hf
      refine vx_aload_n h0 dX4_readPart_43 rfl ?_
      refine vx_bipush (v := (8 : Int32)) h0 dX4_readPart_44 (by decide) ?_
      obtain ⟨p5, h4, hf⟩ := ob_some hf
      refine w_callV (st := []) (ci := 4) (q0 := 1) hX (c_X4_readFigure h4) ce_X4_readFigure q386 ⟨rfl, rfl⟩ ⟨by decide, by decide⟩ rfl rfl rfl rfl (xo_1 g _) rfl (Nat.le_of_ble_eq_true rfl) dX4_readPart_46 ?_
      show Vx X g.1 3 (wsX g p5.2) 49 [(0, .ref (g.2.1 1)), (1, .int a0)] [.int p5.1]
      refine vx_istore_n (ls' := [(2, .int p5.1), (0, .ref (g.2.1 1)), (1, .int a0)]) h0 dX4_readPart_49 (by decide) rfl ?_
      refine vx_iload_n h0 dX4_readPart_50 rfl ?_
      refine vx_iconst (v := (-1 : Int32)) h0 dX4_readPart_51 (by decide) ?_
      refine vx_icmp_eq (tgt := 78) h0 dX4_readPart_52 (by decide) (fun c6 => ?_) (fun c6 => ?_)
      · replace hf := (if_pos c6).symm.trans hf
        exact w_vretE hX hf dX4_readPart_78
      · replace hf := (if_neg c6).symm.trans hf
        refine vx_aload_n h0 dX4_readPart_55 rfl ?_
        refine xg_1_2 hX q176 dX4_readPart_56 ?_
        refine vx_aload_n h0 dX4_readPart_59 rfl ?_
        refine xg_1_7 hX q182 dX4_readPart_60 ?_
        refine vx_iload_n h0 dX4_readPart_63 rfl ?_
        refine vx_bipush (v := (100 : Int32)) h0 dX4_readPart_64 (by decide) ?_
        refine vx_icmp_ne (tgt := 73) h0 dX4_readPart_66 (by decide) (fun c7 => ?_) (fun c7 => ?_)
        · replace hf := (if_neg c7).symm.trans hf
          refine vx_iconst (v := (1 : Int32)) h0 dX4_readPart_73 (by decide) ?_
          refine vx_sub [0] rfl ?_
          exact PX4_readPart_J74 hX  hf
        · replace hf := (if_pos c7).symm.trans hf
          refine vx_iconst (v := (0 : Int32)) h0 dX4_readPart_69 (by decide) ?_
          refine vx_goto (tgt := 74) h0 dX4_readPart_70 (by decide) ?_
          refine vx_sub [0] rfl ?_
          exact PX4_readPart_J74 hX  hf
    · replace hf := (if_pos c3).symm.trans hf
      refine vx_aload_n h0 dX4_readPart_38 rfl ?_
      obtain ⟨σ11, h10, hf⟩ := ob_some hf
      refine w_callV (st := []) (ci := 4) (q0 := 1) hX (c_X4_readReference h10) ce_X4_readReference q401 ⟨rfl, rfl⟩ ⟨by decide, by decide⟩ rfl rfl rfl rfl (xo_1 g _) rfl (Nat.le_of_ble_eq_true rfl) dX4_readPart_39 ?_
      show Vx X g.1 3 (wsX g σ11) 42 [(0, .ref (g.2.1 1)), (1, .int a0)] []
      exact w_vretE hX hf dX4_readPart_42
  · replace hf := (if_neg c1).symm.trans hf
    refine vx_aload_n h0 dX4_readPart_12 rfl ?_
    refine vx_iconst (v := (3 : Int32)) h0 dX4_readPart_13 (by decide) ?_
    refine vx_aload_n h0 dX4_readPart_14 rfl ?_
    refine xg_1_6 hX q181 dX4_readPart_15 ?_
    obtain ⟨σ13, h12, hf⟩ := ob_some hf
    refine w_callV (st := []) (ci := 4) (q0 := 1) hX (c_X4_fail h12) ce_X4_fail q374 ⟨rfl, rfl⟩ ⟨by decide, by decide⟩ rfl rfl rfl rfl (xo_1 g _) rfl (Nat.le_of_ble_eq_true rfl) dX4_readPart_18 ?_
    show Vx X g.1 3 (wsX g σ13) 21 [(0, .ref (g.2.1 1)), (1, .int a0)] []
    exact w_vretE hX hf dX4_readPart_21
def FX4_readWord_J116 (σ : SS) (v1 : Int32) : Option (SS) :=
  ob (FX4_readPart σ v1) (fun σ8 => some σ8)
set_option maxRecDepth 100000 in
set_option maxHeartbeats 4000000 in
theorem PX4_readWord_J116 {X : Bx} {g : Gx} {σr : SS} {σ : SS} (hX : Okw wsX X g cX4_readWord 2 RX4 none ({ frames := 4, cells := 0, slots := 0, locals := 89 } : Room) (fun g => none) σr) {v1 : Int32} (hf : FX4_readWord_J116 σ v1 = some σr) : Vx X g.1 2 (wsX g σ) 116 [(0, .ref (g.2.1 1)), (1, .int v1)] [] := by
  have h0 := hX.1
  rw [FX4_readWord_J116] at hf
  refine vx_aload_n h0 dX4_readWord_116 rfl ?_
  refine vx_iload_n h0 dX4_readWord_117 rfl ?_
  obtain ⟨σ8, h7, hf⟩ := ob_some hf
  refine w_callV (st := []) (ci := 4) (q0 := 1) hX (c_X4_readPart h7) ce_X4_readPart q397 ⟨rfl, rfl⟩ ⟨by decide, by decide⟩ rfl rfl rfl rfl (xo_1 g _) rfl (Nat.le_of_ble_eq_true rfl) dX4_readWord_118 ?_
  show Vx X g.1 2 (wsX g σ8) 121 [(0, .ref (g.2.1 1)), (1, .int v1)] []
  refine vx_goto (tgt := 133) h0 dX4_readWord_121 (by decide) ?_
  exact w_vretE hX hf dX4_readWord_133
def FX4_readWord_J81 (σ : SS) : Option (SS) :=
  bd (sI σ 17 (-1 : Int32)) (fun σ14 => bd (sI σ14 16 ((gI σ14 16) + (1 : Int32))) (fun σ15 => some σ15))
set_option maxRecDepth 100000 in
set_option maxHeartbeats 4000000 in
theorem PX4_readWord_J81 {X : Bx} {g : Gx} {σr : SS} {σ : SS} (hX : Okw wsX X g cX4_readWord 2 RX4 none ({ frames := 4, cells := 0, slots := 0, locals := 89 } : Room) (fun g => none) σr) (hf : FX4_readWord_J81 σ = some σr) : Vx X g.1 2 (wsX g σ) 81 [(0, .ref (g.2.1 1))] [.ref (g.2.1 1)] := by
  have h0 := hX.1
  rw [FX4_readWord_J81] at hf
  refine vx_iconst (v := (-1 : Int32)) h0 dX4_readWord_81 (by decide) ?_
  refine xp_1_7 hX q182 dX4_readWord_82 ?_
  generalize (sI σ 17 (-1 : Int32)) = σ14 at hf ⊢
  replace hf := bd_h hf
  refine vx_aload_n h0 dX4_readWord_85 rfl ?_
  refine vx_dup h0 dX4_readWord_86 rfl ?_
  refine xg_1_6 hX q181 dX4_readWord_87 ?_
  refine vx_iconst (v := (1 : Int32)) h0 dX4_readWord_90 (by decide) ?_
  refine vx_iadd h0 dX4_readWord_91 ?_
  refine xp_1_6 hX q181 dX4_readWord_92 ?_
  generalize (sI σ14 16 ((gI σ14 16) + (1 : Int32))) = σ15 at hf ⊢
  replace hf := bd_h hf
  refine vx_goto (tgt := 133) h0 dX4_readWord_95 (by decide) ?_
  exact w_vretE hX hf dX4_readWord_133
def FX4_readWord (σ : SS) : Option (SS) :=
  ob (FX4_letterHere σ) (fun r2 => if r2 = (99 : Int32) then ob (FX4_readClauseHead σ) (fun σ23 => some σ23)
    else if (gI σ 17) = (-1 : Int32) then ob (FX4_fail σ (1 : Int32) (gI σ 16)) (fun σ21 => some σ21)
    else if r2 = (41 : Int32) then if (gI σ 20) ≤ (gI σ 17) then FX4_readWord_J81 σ
    else if (gI σ 17) < 0 then FX4_readWord_J81 σ
    else gd (inb (gI σ 17) 16) (bd (sI σ 17 (gA σ 23 (Int32.toNatClampNeg (gI σ 17)))) (fun σ18 => bd (sI σ18 16 ((gI σ18 16) + (1 : Int32))) (fun σ19 => some σ19)))
    else if r2 = (100 : Int32) then FX4_readWord_J116 σ r2
    else if r2 = (117 : Int32) then FX4_readWord_J116 σ r2
    else if r2 = (114 : Int32) then FX4_readWord_J116 σ r2
    else ob (FX4_fail σ (1 : Int32) (gI σ 16)) (fun σ12 => some σ12))
set_option maxRecDepth 100000 in
set_option maxHeartbeats 4000000 in
theorem c_X4_readWord {σ : SS} {σr : SS} (hf : FX4_readWord σ = some σr) : Mcw wsX yX4_readWord cX4_readWord 2 none ({ frames := 4, cells := 0, slots := 0, locals := 89 } : Room) (fun g => [.ref (g.2.1 1)]) σ (fun g => none) σr := by
  refine w_enter wsX_fix (by decide) (fun g => Nat.le_of_ble_eq_true rfl) ?_
  intro X g hX
  replace hX : Okw wsX X g cX4_readWord 2 RX4 none ({ frames := 4, cells := 0, slots := 0, locals := 89 } : Room) (fun g => none) σr := hX
  have h0 := hX.1
  show Vx X g.1 2 (wsX g σ) 0 [(0, .ref (g.2.1 1))] []
  rw [FX4_readWord] at hf
  refine vx_aload_n h0 dX4_readWord_0 rfl ?_
  obtain ⟨r2, h1, hf⟩ := ob_some hf
  refine w_callV (st := []) (ci := 4) (q0 := 1) hX (c_X4_letterHere h1) ce_X4_letterHere q362 ⟨rfl, rfl⟩ ⟨by decide, by decide⟩ rfl rfl rfl rfl (xo_1 g _) rfl (Nat.le_of_ble_eq_true rfl) dX4_readWord_1 ?_
  show Vx X g.1 2 (wsX g σ) 4 [(0, .ref (g.2.1 1))] [.int r2]
  refine vx_istore_n (ls' := [(1, .int r2), (0, .ref (g.2.1 1))]) h0 dX4_readWord_4 (by decide) rfl ?_
  refine vx_iload_n h0 dX4_readWord_5 rfl ?_
  refine vx_bipush (v := (99 : Int32)) h0 dX4_readWord_6 (by decide) ?_
  refine vx_icmp_ne (tgt := 18) h0 dX4_readWord_8 (by decide) (fun c3 => ?_) (fun c3 => ?_)
  · replace hf := (if_neg c3).symm.trans hf
    refine vx_aload_n h0 dX4_readWord_18 rfl ?_
    refine xg_1_7 hX q182 dX4_readWord_19 ?_
    refine vx_iconst (v := (-1 : Int32)) h0 dX4_readWord_22 (by decide) ?_
    refine vx_icmp_ne (tgt := 38) h0 dX4_readWord_23 (by decide) (fun c4 => ?_) (fun c4 => ?_)
    · replace hf := (if_neg c4).symm.trans hf
      refine vx_iload_n h0 dX4_readWord_38 rfl ?_
      refine vx_bipush (v := (41 : Int32)) h0 dX4_readWord_39 (by decide) ?_
      refine vx_icmp_ne (tgt := 98) h0 dX4_readWord_41 (by decide) (fun c5 => ?_) (fun c5 => ?_)
      · replace hf := (if_neg c5).symm.trans hf
        refine vx_iload_n h0 dX4_readWord_98 rfl ?_
        refine vx_bipush (v := (100 : Int32)) h0 dX4_readWord_99 (by decide) ?_
        refine vx_icmp_eq (tgt := 116) h0 dX4_readWord_101 (by decide) (fun c6 => ?_) (fun c6 => ?_)
        · replace hf := (if_pos c6).symm.trans hf
          refine vx_sub [1, 0] rfl ?_
          exact PX4_readWord_J116 hX  hf
        · replace hf := (if_neg c6).symm.trans hf
          refine vx_iload_n h0 dX4_readWord_104 rfl ?_
          refine vx_bipush (v := (117 : Int32)) h0 dX4_readWord_105 (by decide) ?_
          refine vx_icmp_eq (tgt := 116) h0 dX4_readWord_107 (by decide) (fun c9 => ?_) (fun c9 => ?_)
          · replace hf := (if_pos c9).symm.trans hf
            refine vx_sub [1, 0] rfl ?_
            exact PX4_readWord_J116 hX  hf
          · replace hf := (if_neg c9).symm.trans hf
            refine vx_iload_n h0 dX4_readWord_110 rfl ?_
            refine vx_bipush (v := (114 : Int32)) h0 dX4_readWord_111 (by decide) ?_
            refine vx_icmp_ne (tgt := 124) h0 dX4_readWord_113 (by decide) (fun c10 => ?_) (fun c10 => ?_)
            · replace hf := (if_neg c10).symm.trans hf
              refine vx_aload_n h0 dX4_readWord_124 rfl ?_
              refine vx_iconst (v := (1 : Int32)) h0 dX4_readWord_125 (by decide) ?_
              refine vx_aload_n h0 dX4_readWord_126 rfl ?_
              refine xg_1_6 hX q181 dX4_readWord_127 ?_
              obtain ⟨σ12, h11, hf⟩ := ob_some hf
              refine w_callV (st := []) (ci := 4) (q0 := 1) hX (c_X4_fail h11) ce_X4_fail q374 ⟨rfl, rfl⟩ ⟨by decide, by decide⟩ rfl rfl rfl rfl (xo_1 g _) rfl (Nat.le_of_ble_eq_true rfl) dX4_readWord_130 ?_
              show Vx X g.1 2 (wsX g σ12) 133 [(1, .int r2), (0, .ref (g.2.1 1))] []
              exact w_vretE hX hf dX4_readWord_133
            · replace hf := (if_pos c10).symm.trans hf
              refine vx_sub [1, 0] rfl ?_
              exact PX4_readWord_J116 hX  hf
      · replace hf := (if_pos c5).symm.trans hf
        refine vx_aload_n h0 dX4_readWord_44 rfl ?_
        refine vx_aload_n h0 dX4_readWord_45 rfl ?_
        refine xg_1_7 hX q182 dX4_readWord_46 ?_
        refine vx_aload_n h0 dX4_readWord_49 rfl ?_
        refine xg_1_2 hX q176 dX4_readWord_50 ?_
        refine xg_2_0 hX q105 dX4_readWord_53 ?_
        refine vx_icmp_ge (tgt := 81) h0 dX4_readWord_56 (by decide) (fun c13 => ?_) (fun c13 => ?_)
        · replace hf := (if_pos c13).symm.trans hf
          refine vx_sub [1] rfl ?_
          exact PX4_readWord_J81 hX  hf
        · replace hf := (if_neg c13).symm.trans hf
          refine vx_aload_n h0 dX4_readWord_59 rfl ?_
          refine xg_1_7 hX q182 dX4_readWord_60 ?_
          refine vx_if_lt (tgt := 81) h0 dX4_readWord_63 (by decide) (fun c16 => ?_) (fun c16 => ?_)
          · replace hf := (if_pos c16).symm.trans hf
            refine vx_sub [1] rfl ?_
            exact PX4_readWord_J81 hX  hf
          · replace hf := (if_neg c16).symm.trans hf
            refine vx_aload_n h0 dX4_readWord_66 rfl ?_
            refine xg_1_2 hX q176 dX4_readWord_67 ?_
            refine xg_2_3 hX q117 dX4_readWord_70 ?_
            refine vx_aload_n h0 dX4_readWord_73 rfl ?_
            refine xg_1_7 hX q182 dX4_readWord_74 ?_
            obtain ⟨b17, hf⟩ := gd_some hf
            refine xl_3 hX b17 dX4_readWord_77 ?_
            refine vx_goto (tgt := 82) h0 dX4_readWord_78 (by decide) ?_
            refine xp_1_7 hX q182 dX4_readWord_82 ?_
            generalize (sI σ 17 (gA σ 23 (Int32.toNatClampNeg (gI σ 17)))) = σ18 at hf ⊢
            replace hf := bd_h hf
            refine vx_aload_n h0 dX4_readWord_85 rfl ?_
            refine vx_dup h0 dX4_readWord_86 rfl ?_
            refine xg_1_6 hX q181 dX4_readWord_87 ?_
            refine vx_iconst (v := (1 : Int32)) h0 dX4_readWord_90 (by decide) ?_
            refine vx_iadd h0 dX4_readWord_91 ?_
            refine xp_1_6 hX q181 dX4_readWord_92 ?_
            generalize (sI σ18 16 ((gI σ18 16) + (1 : Int32))) = σ19 at hf ⊢
            replace hf := bd_h hf
            refine vx_goto (tgt := 133) h0 dX4_readWord_95 (by decide) ?_
            exact w_vretE hX hf dX4_readWord_133
    · replace hf := (if_pos c4).symm.trans hf
      refine vx_aload_n h0 dX4_readWord_26 rfl ?_
      refine vx_iconst (v := (1 : Int32)) h0 dX4_readWord_27 (by decide) ?_
      refine vx_aload_n h0 dX4_readWord_28 rfl ?_
      refine xg_1_6 hX q181 dX4_readWord_29 ?_
      obtain ⟨σ21, h20, hf⟩ := ob_some hf
      refine w_callV (st := []) (ci := 4) (q0 := 1) hX (c_X4_fail h20) ce_X4_fail q374 ⟨rfl, rfl⟩ ⟨by decide, by decide⟩ rfl rfl rfl rfl (xo_1 g _) rfl (Nat.le_of_ble_eq_true rfl) dX4_readWord_32 ?_
      show Vx X g.1 2 (wsX g σ21) 35 [(1, .int r2), (0, .ref (g.2.1 1))] []
      refine vx_goto (tgt := 133) h0 dX4_readWord_35 (by decide) ?_
      exact w_vretE hX hf dX4_readWord_133
  · replace hf := (if_pos c3).symm.trans hf
    refine vx_aload_n h0 dX4_readWord_11 rfl ?_
    obtain ⟨σ23, h22, hf⟩ := ob_some hf
    refine w_callV (st := []) (ci := 4) (q0 := 1) hX (c_X4_readClauseHead h22) ce_X4_readClauseHead q366 ⟨rfl, rfl⟩ ⟨by decide, by decide⟩ rfl rfl rfl rfl (xo_1 g _) rfl (Nat.le_of_ble_eq_true rfl) dX4_readWord_12 ?_
    show Vx X g.1 2 (wsX g σ23) 15 [(1, .int r2), (0, .ref (g.2.1 1))] []
    refine vx_goto (tgt := 133) h0 dX4_readWord_15 (by decide) ?_
    exact w_vretE hX hf dX4_readWord_133
def FX4_checkReferences_L2 (σ : SS) (k : Option (SS)) : Nat → Int32 → Option (SS)
  | 0, _ => none
  | n + 1, v1 => if (gI σ 21) ≤ v1 then k
    else gd (inb v1 30) (if (gA σ 29 (Int32.toNatClampNeg v1)) = (2 : Int32) then gd (inb v1 30) (if (gA σ 30 (Int32.toNatClampNeg v1)) < (gI σ 20) then FX4_checkReferences_L2 σ k n (v1 + (1 : Int32))
    else gd (inb v1 30) (ob (FX4_fail σ (5 : Int32) (gA σ 14 (Int32.toNatClampNeg v1))) (fun σ8 => some σ8)))
    else FX4_checkReferences_L2 σ k n (v1 + (1 : Int32)))
set_option maxRecDepth 100000 in
set_option maxHeartbeats 4000000 in
theorem PX4_checkReferences_L2 {X : Bx} {g : Gx} {σr : SS} {σ : SS} (hX : Okw wsX X g cX4_checkReferences 2 RX4 none ({ frames := 1, cells := 0, slots := 0, locals := 22 } : Room) (fun g => none) σr) {k : Option (SS)} (hk : k = some σr → Vx X g.1 2 (wsX g σ) 63 [] []) : ∀ (n : Nat) (v1 : Int32), FX4_checkReferences_L2 σ k n v1 = some σr → Vx X g.1 2 (wsX g σ) 2 [(0, .ref (g.2.1 1)), (1, .int v1)] [] := by
  have h0 := hX.1
  intro n
  induction n with
  | zero =>
    intro v1 hf
    rw [FX4_checkReferences_L2] at hf
    cases hf
  | succ n ih =>
    intro v1 hf
    rw [FX4_checkReferences_L2] at hf
    refine vx_iload_n h0 dX4_checkReferences_2 rfl ?_
    refine vx_aload_n h0 dX4_checkReferences_3 rfl ?_
    refine xg_1_2 hX q176 dX4_checkReferences_4 ?_
    refine xg_2_1 hX q110 dX4_checkReferences_7 ?_
    refine vx_icmp_ge (tgt := 63) h0 dX4_checkReferences_10 (by decide) (fun c1 => ?_) (fun c1 => ?_)
    · replace hf := (if_pos c1).symm.trans hf
      refine vx_sub [] rfl ?_
      exact hk hf
    · replace hf := (if_neg c1).symm.trans hf
      refine vx_aload_n h0 dX4_checkReferences_13 rfl ?_
      refine xg_1_2 hX q176 dX4_checkReferences_14 ?_
      refine xg_2_9 hX q137 dX4_checkReferences_17 ?_
      refine vx_iload_n h0 dX4_checkReferences_20 rfl ?_
      obtain ⟨b2, hf⟩ := gd_some hf
      refine xl_9 hX b2 dX4_checkReferences_21 ?_
      refine vx_iconst (v := (2 : Int32)) h0 dX4_checkReferences_22 (by decide) ?_
      refine vx_icmp_ne (tgt := 57) h0 dX4_checkReferences_23 (by decide) (fun c3 => ?_) (fun c3 => ?_)
      · replace hf := (if_neg c3).symm.trans hf
        refine vx_iinc (q := 1) (v := (v1 + (1 : Int32))) (ls' := [(1, .int (v1 + (1 : Int32))), (0, .ref (g.2.1 1))]) h0 dX4_checkReferences_57 rfl rfl (by decide) rfl ?_
        refine vx_goto (tgt := 2) h0 dX4_checkReferences_60 (by decide) ?_
        refine vx_sub [1, 0] rfl ?_
        exact ih _ hf
      · replace hf := (if_pos c3).symm.trans hf
        refine vx_aload_n h0 dX4_checkReferences_26 rfl ?_
        refine xg_1_2 hX q176 dX4_checkReferences_27 ?_
        refine xg_2_10 hX q142 dX4_checkReferences_30 ?_
        refine vx_iload_n h0 dX4_checkReferences_33 rfl ?_
        obtain ⟨b4, hf⟩ := gd_some hf
        refine xl_10 hX b4 dX4_checkReferences_34 ?_
        refine vx_aload_n h0 dX4_checkReferences_35 rfl ?_
        refine xg_1_2 hX q176 dX4_checkReferences_36 ?_
        refine xg_2_0 hX q105 dX4_checkReferences_39 ?_
        refine vx_icmp_lt (tgt := 57) h0 dX4_checkReferences_42 (by decide) (fun c5 => ?_) (fun c5 => ?_)
        · replace hf := (if_pos c5).symm.trans hf
          refine vx_iinc (q := 1) (v := (v1 + (1 : Int32))) (ls' := [(1, .int (v1 + (1 : Int32))), (0, .ref (g.2.1 1))]) h0 dX4_checkReferences_57 rfl rfl (by decide) rfl ?_
          refine vx_goto (tgt := 2) h0 dX4_checkReferences_60 (by decide) ?_
          refine vx_sub [1, 0] rfl ?_
          exact ih _ hf
        · replace hf := (if_neg c5).symm.trans hf
          refine vx_aload_n h0 dX4_checkReferences_45 rfl ?_
          refine vx_iconst (v := (5 : Int32)) h0 dX4_checkReferences_46 (by decide) ?_
          refine vx_aload_n h0 dX4_checkReferences_47 rfl ?_
          refine xg_1_4 hX q179 dX4_checkReferences_48 ?_
          refine vx_iload_n h0 dX4_checkReferences_51 rfl ?_
          obtain ⟨b6, hf⟩ := gd_some hf
          refine xl_13 hX b6 dX4_checkReferences_52 ?_
          obtain ⟨σ8, h7, hf⟩ := ob_some hf
          refine w_callV (st := []) (ci := 4) (q0 := 1) hX (c_X4_fail h7) ce_X4_fail q374 ⟨rfl, rfl⟩ ⟨by decide, by decide⟩ rfl rfl rfl rfl (xo_1 g _) rfl (Nat.le_of_ble_eq_true rfl) dX4_checkReferences_53 ?_
          show Vx X g.1 2 (wsX g σ8) 56 [(0, .ref (g.2.1 1)), (1, .int v1)] []
          exact w_vretE hX hf dX4_checkReferences_56
def FX4_checkReferences (σ : SS) : Option (SS) :=
  FX4_checkReferences_L2 σ (some σ) 5000 (0 : Int32)
set_option maxRecDepth 100000 in
set_option maxHeartbeats 4000000 in
theorem c_X4_checkReferences {σ : SS} {σr : SS} (hf : FX4_checkReferences σ = some σr) : Mcw wsX yX4_checkReferences cX4_checkReferences 2 none ({ frames := 1, cells := 0, slots := 0, locals := 22 } : Room) (fun g => [.ref (g.2.1 1)]) σ (fun g => none) σr := by
  refine w_enter wsX_fix (by decide) (fun g => Nat.le_of_ble_eq_true rfl) ?_
  intro X g hX
  replace hX : Okw wsX X g cX4_checkReferences 2 RX4 none ({ frames := 1, cells := 0, slots := 0, locals := 22 } : Room) (fun g => none) σr := hX
  have h0 := hX.1
  show Vx X g.1 2 (wsX g σ) 0 [(0, .ref (g.2.1 1))] []
  rw [FX4_checkReferences] at hf
  refine vx_iconst (v := (0 : Int32)) h0 dX4_checkReferences_0 (by decide) ?_
  refine vx_istore_n (ls' := [(1, .int (0 : Int32)), (0, .ref (g.2.1 1))]) h0 dX4_checkReferences_1 (by decide) rfl ?_
  refine vx_sub [1, 0] rfl ?_
  refine PX4_checkReferences_L2 hX (fun hf => ?_) _ _ hf
  exact w_vretE hX hf dX4_checkReferences_63
