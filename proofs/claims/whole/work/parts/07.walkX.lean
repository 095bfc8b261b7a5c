/-! printed by wip/whole/gen.py: decode rows, functions, contracts -/
theorem dX0_clear_0 : decode cX0_clear 0 = .ok (.aload_n 0, 1) := by decide +kernel
theorem dX0_clear_1 : decode cX0_clear 1 = .ok (.iconst 0, 1) := by decide +kernel
theorem dX0_clear_2 : decode cX0_clear 2 = .ok (.putfield 39, 3) := by decide +kernel
theorem dX0_clear_5 : decode cX0_clear 5 = .ok (.aload_n 0, 1) := by decide +kernel
theorem dX0_clear_6 : decode cX0_clear 6 = .ok (.iconst 0, 1) := by decide +kernel
theorem dX0_clear_7 : decode cX0_clear 7 = .ok (.putfield 43, 3) := by decide +kernel
theorem dX0_clear_10 : decode cX0_clear 10 = .ok (.aload_n 0, 1) := by decide +kernel
theorem dX0_clear_11 : decode cX0_clear 11 = .ok (.iconst 0, 1) := by decide +kernel
theorem dX0_clear_12 : decode cX0_clear 12 = .ok (.putfield 46, 3) := by decide +kernel
theorem dX0_clear_15 : decode cX0_clear 15 = .ok (.iconst 0, 1) := by decide +kernel
theorem dX0_clear_16 : decode cX0_clear 16 = .ok (.istore_n 1, 1) := by decide +kernel
theorem dX0_clear_17 : decode cX0_clear 17 = .ok (.iload_n 1, 1) := by decide +kernel
theorem dX0_clear_18 : decode cX0_clear 18 = .ok (.bipush 16, 2) := by decide +kernel
theorem dX0_clear_20 : decode cX0_clear 20 = .ok (.if_icmp .ge 23, 3) := by decide +kernel
theorem dX0_clear_23 : decode cX0_clear 23 = .ok (.aload_n 0, 1) := by decide +kernel
theorem dX0_clear_24 : decode cX0_clear 24 = .ok (.getfield 24, 3) := by decide +kernel
theorem dX0_clear_27 : decode cX0_clear 27 = .ok (.iload_n 1, 1) := by decide +kernel
theorem dX0_clear_28 : decode cX0_clear 28 = .ok (.iconst 0, 1) := by decide +kernel
theorem dX0_clear_29 : decode cX0_clear 29 = .ok (.iastore, 1) := by decide +kernel
theorem dX0_clear_30 : decode cX0_clear 30 = .ok (.aload_n 0, 1) := by decide +kernel
theorem dX0_clear_31 : decode cX0_clear 31 = .ok (.getfield 27, 3) := by decide +kernel
theorem dX0_clear_34 : decode cX0_clear 34 = .ok (.iload_n 1, 1) := by decide +kernel
theorem dX0_clear_35 : decode cX0_clear 35 = .ok (.iconst 0, 1) := by decide +kernel
theorem dX0_clear_36 : decode cX0_clear 36 = .ok (.iastore, 1) := by decide +kernel
theorem dX0_clear_37 : decode cX0_clear 37 = .ok (.iinc 1 1, 3) := by decide +kernel
theorem dX0_clear_40 : decode cX0_clear 40 = .ok (.goto (-23), 3) := by decide +kernel
theorem dX0_clear_43 : decode cX0_clear 43 = .ok (.return_, 1) := by decide +kernel
theorem dX0_takeOver_0 : decode cX0_takeOver 0 = .ok (.aload_n 0, 1) := by decide +kernel
theorem dX0_takeOver_1 : decode cX0_takeOver 1 = .ok (.aload_n 1, 1) := by decide +kernel
theorem dX0_takeOver_2 : decode cX0_takeOver 2 = .ok (.getfield 39, 3) := by decide +kernel
theorem dX0_takeOver_5 : decode cX0_takeOver 5 = .ok (.putfield 39, 3) := by decide +kernel
theorem dX0_takeOver_8 : decode cX0_takeOver 8 = .ok (.aload_n 0, 1) := by decide +kernel
theorem dX0_takeOver_9 : decode cX0_takeOver 9 = .ok (.aload_n 1, 1) := by decide +kernel
theorem dX0_takeOver_10 : decode cX0_takeOver 10 = .ok (.getfield 43, 3) := by decide +kernel
theorem dX0_takeOver_13 : decode cX0_takeOver 13 = .ok (.putfield 43, 3) := by decide +kernel
theorem dX0_takeOver_16 : decode cX0_takeOver 16 = .ok (.aload_n 0, 1) := by decide +kernel
theorem dX0_takeOver_17 : decode cX0_takeOver 17 = .ok (.aload_n 1, 1) := by decide +kernel
theorem dX0_takeOver_18 : decode cX0_takeOver 18 = .ok (.getfield 46, 3) := by decide +kernel
theorem dX0_takeOver_21 : decode cX0_takeOver 21 = .ok (.putfield 46, 3) := by decide +kernel
theorem dX0_takeOver_24 : decode cX0_takeOver 24 = .ok (.aload_n 1, 1) := by decide +kernel
theorem dX0_takeOver_25 : decode cX0_takeOver 25 = .ok (.getfield 9, 3) := by decide +kernel
theorem dX0_takeOver_28 : decode cX0_takeOver 28 = .ok (.iconst 0, 1) := by decide +kernel
theorem dX0_takeOver_29 : decode cX0_takeOver 29 = .ok (.aload_n 0, 1) := by decide +kernel
theorem dX0_takeOver_30 : decode cX0_takeOver 30 = .ok (.getfield 9, 3) := by decide +kernel
theorem dX0_takeOver_33 : decode cX0_takeOver 33 = .ok (.iconst 0, 1) := by decide +kernel
theorem dX0_takeOver_34 : decode cX0_takeOver 34 = .ok (.bipush 16, 2) := by decide +kernel
theorem dX0_takeOver_36 : decode cX0_takeOver 36 = .ok (.invokestatic 49, 3) := by decide +kernel
theorem dX0_takeOver_39 : decode cX0_takeOver 39 = .ok (.aload_n 1, 1) := by decide +kernel
theorem dX0_takeOver_40 : decode cX0_takeOver 40 = .ok (.getfield 15, 3) := by decide +kernel
theorem dX0_takeOver_43 : decode cX0_takeOver 43 = .ok (.iconst 0, 1) := by decide +kernel
theorem dX0_takeOver_44 : decode cX0_takeOver 44 = .ok (.aload_n 0, 1) := by decide +kernel
theorem dX0_takeOver_45 : decode cX0_takeOver 45 = .ok (.getfield 15, 3) := by decide +kernel
theorem dX0_takeOver_48 : decode cX0_takeOver 48 = .ok (.iconst 0, 1) := by decide +kernel
theorem dX0_takeOver_49 : decode cX0_takeOver 49 = .ok (.bipush 16, 2) := by decide +kernel
theorem dX0_takeOver_51 : decode cX0_takeOver 51 = .ok (.invokestatic 49, 3) := by decide +kernel
theorem dX0_takeOver_54 : decode cX0_takeOver 54 = .ok (.aload_n 1, 1) := by decide +kernel
theorem dX0_takeOver_55 : decode cX0_takeOver 55 = .ok (.getfield 18, 3) := by decide +kernel
theorem dX0_takeOver_58 : decode cX0_takeOver 58 = .ok (.iconst 0, 1) := by decide +kernel
theorem dX0_takeOver_59 : decode cX0_takeOver 59 = .ok (.aload_n 0, 1) := by decide +kernel
theorem dX0_takeOver_60 : decode cX0_takeOver 60 = .ok (.getfield 18, 3) := by decide +kernel
theorem dX0_takeOver_63 : decode cX0_takeOver 63 = .ok (.iconst 0, 1) := by decide +kernel
theorem dX0_takeOver_64 : decode cX0_takeOver 64 = .ok (.bipush 16, 2) := by decide +kernel
theorem dX0_takeOver_66 : decode cX0_takeOver 66 = .ok (.invokestatic 49, 3) := by decide +kernel
theorem dX0_takeOver_69 : decode cX0_takeOver 69 = .ok (.aload_n 1, 1) := by decide +kernel
theorem dX0_takeOver_70 : decode cX0_takeOver 70 = .ok (.getfield 21, 3) := by decide +kernel
theorem dX0_takeOver_73 : decode cX0_takeOver 73 = .ok (.iconst 0, 1) := by decide +kernel
theorem dX0_takeOver_74 : decode cX0_takeOver 74 = .ok (.aload_n 0, 1) := by decide +kernel
theorem dX0_takeOver_75 : decode cX0_takeOver 75 = .ok (.getfield 21, 3) := by decide +kernel
theorem dX0_takeOver_78 : decode cX0_takeOver 78 = .ok (.iconst 0, 1) := by decide +kernel
theorem dX0_takeOver_79 : decode cX0_takeOver 79 = .ok (.bipush 16, 2) := by decide +kernel
theorem dX0_takeOver_81 : decode cX0_takeOver 81 = .ok (.invokestatic 49, 3) := by decide +kernel
theorem dX0_takeOver_84 : decode cX0_takeOver 84 = .ok (.aload_n 1, 1) := by decide +kernel
theorem dX0_takeOver_85 : decode cX0_takeOver 85 = .ok (.getfield 24, 3) := by decide +kernel
theorem dX0_takeOver_88 : decode cX0_takeOver 88 = .ok (.iconst 0, 1) := by decide +kernel
theorem dX0_takeOver_89 : decode cX0_takeOver 89 = .ok (.aload_n 0, 1) := by decide +kernel
theorem dX0_takeOver_90 : decode cX0_takeOver 90 = .ok (.getfield 24, 3) := by decide +kernel
theorem dX0_takeOver_93 : decode cX0_takeOver 93 = .ok (.iconst 0, 1) := by decide +kernel
theorem dX0_takeOver_94 : decode cX0_takeOver 94 = .ok (.bipush 16, 2) := by decide +kernel
theorem dX0_takeOver_96 : decode cX0_takeOver 96 = .ok (.invokestatic 49, 3) := by decide +kernel
theorem dX0_takeOver_99 : decode cX0_takeOver 99 = .ok (.aload_n 1, 1) := by decide +kernel
theorem dX0_takeOver_100 : decode cX0_takeOver 100 = .ok (.getfield 27, 3) := by decide +kernel
theorem dX0_takeOver_103 : decode cX0_takeOver 103 = .ok (.iconst 0, 1) := by decide +kernel
theorem dX0_takeOver_104 : decode cX0_takeOver 104 = .ok (.aload_n 0, 1) := by decide +kernel
theorem dX0_takeOver_105 : decode cX0_takeOver 105 = .ok (.getfield 27, 3) := by decide +kernel
theorem dX0_takeOver_108 : decode cX0_takeOver 108 = .ok (.iconst 0, 1) := by decide +kernel
theorem dX0_takeOver_109 : decode cX0_takeOver 109 = .ok (.bipush 16, 2) := by decide +kernel
theorem dX0_takeOver_111 : decode cX0_takeOver 111 = .ok (.invokestatic 49, 3) := by decide +kernel
theorem dX0_takeOver_114 : decode cX0_takeOver 114 = .ok (.aload_n 1, 1) := by decide +kernel
theorem dX0_takeOver_115 : decode cX0_takeOver 115 = .ok (.getfield 30, 3) := by decide +kernel
theorem dX0_takeOver_118 : decode cX0_takeOver 118 = .ok (.iconst 0, 1) := by decide +kernel
theorem dX0_takeOver_119 : decode cX0_takeOver 119 = .ok (.aload_n 0, 1) := by decide +kernel
theorem dX0_takeOver_120 : decode cX0_takeOver 120 = .ok (.getfield 30, 3) := by decide +kernel
theorem dX0_takeOver_123 : decode cX0_takeOver 123 = .ok (.iconst 0, 1) := by decide +kernel
theorem dX0_takeOver_124 : decode cX0_takeOver 124 = .ok (.bipush 30, 2) := by decide +kernel
theorem dX0_takeOver_126 : decode cX0_takeOver 126 = .ok (.invokestatic 49, 3) := by decide +kernel
theorem dX0_takeOver_129 : decode cX0_takeOver 129 = .ok (.aload_n 1, 1) := by decide +kernel
theorem dX0_takeOver_130 : decode cX0_takeOver 130 = .ok (.getfield 33, 3) := by decide +kernel
theorem dX0_takeOver_133 : decode cX0_takeOver 133 = .ok (.iconst 0, 1) := by decide +kernel
theorem dX0_takeOver_134 : decode cX0_takeOver 134 = .ok (.aload_n 0, 1) := by decide +kernel
theorem dX0_takeOver_135 : decode cX0_takeOver 135 = .ok (.getfield 33, 3) := by decide +kernel
theorem dX0_takeOver_138 : decode cX0_takeOver 138 = .ok (.iconst 0, 1) := by decide +kernel
theorem dX0_takeOver_139 : decode cX0_takeOver 139 = .ok (.bipush 30, 2) := by decide +kernel
theorem dX0_takeOver_141 : decode cX0_takeOver 141 = .ok (.invokestatic 49, 3) := by decide +kernel
theorem dX0_takeOver_144 : decode cX0_takeOver 144 = .ok (.aload_n 1, 1) := by decide +kernel
theorem dX0_takeOver_145 : decode cX0_takeOver 145 = .ok (.getfield 36, 3) := by decide +kernel
theorem dX0_takeOver_148 : decode cX0_takeOver 148 = .ok (.iconst 0, 1) := by decide +kernel
theorem dX0_takeOver_149 : decode cX0_takeOver 149 = .ok (.aload_n 0, 1) := by decide +kernel
theorem dX0_takeOver_150 : decode cX0_takeOver 150 = .ok (.getfield 36, 3) := by decide +kernel
theorem dX0_takeOver_153 : decode cX0_takeOver 153 = .ok (.iconst 0, 1) := by decide +kernel
theorem dX0_takeOver_154 : decode cX0_takeOver 154 = .ok (.bipush 30, 2) := by decide +kernel
theorem dX0_takeOver_156 : decode cX0_takeOver 156 = .ok (.invokestatic 49, 3) := by decide +kernel
theorem dX0_takeOver_159 : decode cX0_takeOver 159 = .ok (.return_, 1) := by decide +kernel
theorem dX0_addClause_0 : decode cX0_addClause 0 = .ok (.aload_n 0, 1) := by decide +kernel
theorem dX0_addClause_1 : decode cX0_addClause 1 = .ok (.getfield 39, 3) := by decide +kernel
theorem dX0_addClause_4 : decode cX0_addClause 4 = .ok (.bipush 16, 2) := by decide +kernel
theorem dX0_addClause_6 : decode cX0_addClause 6 = .ok (.if_icmp .lt 5, 3) := by decide +kernel
theorem dX0_addClause_9 : decode cX0_addClause 9 = .ok (.iconst (-1), 1) := by decide +kernel
theorem dX0_addClause_10 : decode cX0_addClause 10 = .ok (.ireturn, 1) := by decide +kernel
theorem dX0_addClause_11 : decode cX0_addClause 11 = .ok (.aload_n 0, 1) := by decide +kernel
theorem dX0_addClause_12 : decode cX0_addClause 12 = .ok (.getfield 39, 3) := by decide +kernel
theorem dX0_addClause_15 : decode cX0_addClause 15 = .ok (.istore_n 2, 1) := by decide +kernel
theorem dX0_addClause_16 : decode cX0_addClause 16 = .ok (.aload_n 0, 1) := by decide +kernel
theorem dX0_addClause_17 : decode cX0_addClause 17 = .ok (.getfield 9, 3) := by decide +kernel
theorem dX0_addClause_20 : decode cX0_addClause 20 = .ok (.iload_n 2, 1) := by decide +kernel
theorem dX0_addClause_21 : decode cX0_addClause 21 = .ok (.iload_n 1, 1) := by decide +kernel
theorem dX0_addClause_22 : decode cX0_addClause 22 = .ok (.iastore, 1) := by decide +kernel
theorem dX0_addClause_23 : decode cX0_addClause 23 = .ok (.aload_n 0, 1) := by decide +kernel
theorem dX0_addClause_24 : decode cX0_addClause 24 = .ok (.getfield 15, 3) := by decide +kernel
theorem dX0_addClause_27 : decode cX0_addClause 27 = .ok (.iload_n 2, 1) := by decide +kernel
theorem dX0_addClause_28 : decode cX0_addClause 28 = .ok (.iload_n 1, 1) := by decide +kernel
theorem dX0_addClause_29 : decode cX0_addClause 29 = .ok (.ifCond .lt 19, 3) := by decide +kernel
theorem dX0_addClause_32 : decode cX0_addClause 32 = .ok (.iload_n 1, 1) := by decide +kernel
theorem dX0_addClause_33 : decode cX0_addClause 33 = .ok (.iload_n 2, 1) := by decide +kernel
theorem dX0_addClause_34 : decode cX0_addClause 34 = .ok (.if_icmp .ge 14, 3) := by decide +kernel
theorem dX0_addClause_37 : decode cX0_addClause 37 = .ok (.aload_n 0, 1) := by decide +kernel
theorem dX0_addClause_38 : decode cX0_addClause 38 = .ok (.getfield 15, 3) := by decide +kernel
theorem dX0_addClause_41 : decode cX0_addClause 41 = .ok (.iload_n 1, 1) := by decide +kernel
theorem dX0_addClause_42 : decode cX0_addClause 42 = .ok (.iaload, 1) := by decide +kernel
theorem dX0_addClause_43 : decode cX0_addClause 43 = .ok (.iconst 1, 1) := by decide +kernel
theorem dX0_addClause_44 : decode cX0_addClause 44 = .ok (.iadd, 1) := by decide +kernel
theorem dX0_addClause_45 : decode cX0_addClause 45 = .ok (.goto 4, 3) := by decide +kernel
theorem dX0_addClause_48 : decode cX0_addClause 48 = .ok (.iconst 0, 1) := by decide +kernel
theorem dX0_addClause_49 : decode cX0_addClause 49 = .ok (.iastore, 1) := by decide +kernel
theorem dX0_addClause_50 : decode cX0_addClause 50 = .ok (.aload_n 0, 1) := by decide +kernel
theorem dX0_addClause_51 : decode cX0_addClause 51 = .ok (.getfield 18, 3) := by decide +kernel
theorem dX0_addClause_54 : decode cX0_addClause 54 = .ok (.iload_n 2, 1) := by decide +kernel
theorem dX0_addClause_55 : decode cX0_addClause 55 = .ok (.iconst 0, 1) := by decide +kernel
theorem dX0_addClause_56 : decode cX0_addClause 56 = .ok (.iastore, 1) := by decide +kernel
theorem dX0_addClause_57 : decode cX0_addClause 57 = .ok (.aload_n 0, 1) := by decide +kernel
theorem dX0_addClause_58 : decode cX0_addClause 58 = .ok (.getfield 21, 3) := by decide +kernel
theorem dX0_addClause_61 : decode cX0_addClause 61 = .ok (.iload_n 2, 1) := by decide +kernel
theorem dX0_addClause_62 : decode cX0_addClause 62 = .ok (.iconst 0, 1) := by decide +kernel
theorem dX0_addClause_63 : decode cX0_addClause 63 = .ok (.iastore, 1) := by decide +kernel
theorem dX0_addClause_64 : decode cX0_addClause 64 = .ok (.aload_n 0, 1) := by decide +kernel
theorem dX0_addClause_65 : decode cX0_addClause 65 = .ok (.dup, 1) := by decide +kernel
theorem dX0_addClause_66 : decode cX0_addClause 66 = .ok (.getfield 39, 3) := by decide +kernel
theorem dX0_addClause_69 : decode cX0_addClause 69 = .ok (.iconst 1, 1) := by decide +kernel
theorem dX0_addClause_70 : decode cX0_addClause 70 = .ok (.iadd, 1) := by decide +kernel
theorem dX0_addClause_71 : decode cX0_addClause 71 = .ok (.putfield 39, 3) := by decide +kernel
theorem dX0_addClause_74 : decode cX0_addClause 74 = .ok (.iload_n 2, 1) := by decide +kernel
theorem dX0_addClause_75 : decode cX0_addClause 75 = .ok (.ireturn, 1) := by decide +kernel
theorem dX0_addPart_0 : decode cX0_addPart 0 = .ok (.aload_n 0, 1) := by decide +kernel
theorem dX0_addPart_1 : decode cX0_addPart 1 = .ok (.getfield 43, 3) := by decide +kernel
theorem dX0_addPart_4 : decode cX0_addPart 4 = .ok (.bipush 30, 2) := by decide +kernel
theorem dX0_addPart_6 : decode cX0_addPart 6 = .ok (.if_icmp .ge 15, 3) := by decide +kernel
theorem dX0_addPart_9 : decode cX0_addPart 9 = .ok (.iload_n 1, 1) := by decide +kernel
theorem dX0_addPart_10 : decode cX0_addPart 10 = .ok (.ifCond .lt 11, 3) := by decide +kernel
theorem dX0_addPart_13 : decode cX0_addPart 13 = .ok (.iload_n 1, 1) := by decide +kernel
theorem dX0_addPart_14 : decode cX0_addPart 14 = .ok (.aload_n 0, 1) := by decide +kernel
theorem dX0_addPart_15 : decode cX0_addPart 15 = .ok (.getfield 39, 3) := by decide +kernel
theorem dX0_addPart_18 : decode cX0_addPart 18 = .ok (.if_icmp .lt 4, 3) := by decide +kernel
theorem dX0_addPart_21 : decode cX0_addPart 21 = .ok (.return_, 1) := by decide +kernel
theorem dX0_addPart_22 : decode cX0_addPart 22 = .ok (.aload_n 0, 1) := by decide +kernel
theorem dX0_addPart_23 : decode cX0_addPart 23 = .ok (.getfield 30, 3) := by decide +kernel
theorem dX0_addPart_26 : decode cX0_addPart 26 = .ok (.aload_n 0, 1) := by decide +kernel
theorem dX0_addPart_27 : decode cX0_addPart 27 = .ok (.getfield 43, 3) := by decide +kernel
theorem dX0_addPart_30 : decode cX0_addPart 30 = .ok (.iload_n 2, 1) := by decide +kernel
theorem dX0_addPart_31 : decode cX0_addPart 31 = .ok (.iastore, 1) := by decide +kernel
theorem dX0_addPart_32 : decode cX0_addPart 32 = .ok (.aload_n 0, 1) := by decide +kernel
theorem dX0_addPart_33 : decode cX0_addPart 33 = .ok (.getfield 33, 3) := by decide +kernel
theorem dX0_addPart_36 : decode cX0_addPart 36 = .ok (.aload_n 0, 1) := by decide +kernel
theorem dX0_addPart_37 : decode cX0_addPart 37 = .ok (.getfield 43, 3) := by decide +kernel
theorem dX0_addPart_40 : decode cX0_addPart 40 = .ok (.iload_n 3, 1) := by decide +kernel
theorem dX0_addPart_41 : decode cX0_addPart 41 = .ok (.iastore, 1) := by decide +kernel
theorem dX0_addPart_42 : decode cX0_addPart 42 = .ok (.aload_n 0, 1) := by decide +kernel
theorem dX0_addPart_43 : decode cX0_addPart 43 = .ok (.getfield 36, 3) := by decide +kernel
theorem dX0_addPart_46 : decode cX0_addPart 46 = .ok (.aload_n 0, 1) := by decide +kernel
theorem dX0_addPart_47 : decode cX0_addPart 47 = .ok (.getfield 43, 3) := by decide +kernel
theorem dX0_addPart_50 : decode cX0_addPart 50 = .ok (.iload_n 1, 1) := by decide +kernel
theorem dX0_addPart_51 : decode cX0_addPart 51 = .ok (.iastore, 1) := by decide +kernel
theorem dX0_addPart_52 : decode cX0_addPart 52 = .ok (.aload_n 0, 1) := by decide +kernel
theorem dX0_addPart_53 : decode cX0_addPart 53 = .ok (.dup, 1) := by decide +kernel
theorem dX0_addPart_54 : decode cX0_addPart 54 = .ok (.getfield 43, 3) := by decide +kernel
theorem dX0_addPart_57 : decode cX0_addPart 57 = .ok (.iconst 1, 1) := by decide +kernel
theorem dX0_addPart_58 : decode cX0_addPart 58 = .ok (.iadd, 1) := by decide +kernel
theorem dX0_addPart_59 : decode cX0_addPart 59 = .ok (.putfield 43, 3) := by decide +kernel
theorem dX0_addPart_62 : decode cX0_addPart 62 = .ok (.iload_n 2, 1) := by decide +kernel
theorem dX0_addPart_63 : decode cX0_addPart 63 = .ok (.iconst 1, 1) := by decide +kernel
theorem dX0_addPart_64 : decode cX0_addPart 64 = .ok (.if_icmp .ne 15, 3) := by decide +kernel
theorem dX0_addPart_67 : decode cX0_addPart 67 = .ok (.aload_n 0, 1) := by decide +kernel
theorem dX0_addPart_68 : decode cX0_addPart 68 = .ok (.getfield 27, 3) := by decide +kernel
theorem dX0_addPart_71 : decode cX0_addPart 71 = .ok (.iload_n 1, 1) := by decide +kernel
theorem dX0_addPart_72 : decode cX0_addPart 72 = .ok (.dup2, 1) := by decide +kernel
theorem dX0_addPart_73 : decode cX0_addPart 73 = .ok (.iaload, 1) := by decide +kernel
theorem dX0_addPart_74 : decode cX0_addPart 74 = .ok (.iconst 1, 1) := by decide +kernel
theorem dX0_addPart_75 : decode cX0_addPart 75 = .ok (.iload_n 3, 1) := by decide +kernel
theorem dX0_addPart_76 : decode cX0_addPart 76 = .ok (.ishl, 1) := by decide +kernel
theorem dX0_addPart_77 : decode cX0_addPart 77 = .ok (.ior, 1) := by decide +kernel
theorem dX0_addPart_78 : decode cX0_addPart 78 = .ok (.iastore, 1) := by decide +kernel
theorem dX0_addPart_79 : decode cX0_addPart 79 = .ok (.iload_n 2, 1) := by decide +kernel
theorem dX0_addPart_80 : decode cX0_addPart 80 = .ok (.iconst 2, 1) := by decide +kernel
theorem dX0_addPart_81 : decode cX0_addPart 81 = .ok (.if_icmp .ne 25, 3) := by decide +kernel
theorem dX0_addPart_84 : decode cX0_addPart 84 = .ok (.iload_n 3, 1) := by decide +kernel
theorem dX0_addPart_85 : decode cX0_addPart 85 = .ok (.ifCond .lt 21, 3) := by decide +kernel
theorem dX0_addPart_88 : decode cX0_addPart 88 = .ok (.iload_n 3, 1) := by decide +kernel
theorem dX0_addPart_89 : decode cX0_addPart 89 = .ok (.bipush 16, 2) := by decide +kernel
theorem dX0_addPart_91 : decode cX0_addPart 91 = .ok (.if_icmp .ge 15, 3) := by decide +kernel
theorem dX0_addPart_94 : decode cX0_addPart 94 = .ok (.aload_n 0, 1) := by decide +kernel
theorem dX0_addPart_95 : decode cX0_addPart 95 = .ok (.getfield 24, 3) := by decide +kernel
theorem dX0_addPart_98 : decode cX0_addPart 98 = .ok (.iload_n 3, 1) := by decide +kernel
theorem dX0_addPart_99 : decode cX0_addPart 99 = .ok (.dup2, 1) := by decide +kernel
theorem dX0_addPart_100 : decode cX0_addPart 100 = .ok (.iaload, 1) := by decide +kernel
theorem dX0_addPart_101 : decode cX0_addPart 101 = .ok (.iconst 1, 1) := by decide +kernel
theorem dX0_addPart_102 : decode cX0_addPart 102 = .ok (.iload_n 1, 1) := by decide +kernel
theorem dX0_addPart_103 : decode cX0_addPart 103 = .ok (.ishl, 1) := by decide +kernel
theorem dX0_addPart_104 : decode cX0_addPart 104 = .ok (.ior, 1) := by decide +kernel
theorem dX0_addPart_105 : decode cX0_addPart 105 = .ok (.iastore, 1) := by decide +kernel
theorem dX0_addPart_106 : decode cX0_addPart 106 = .ok (.return_, 1) := by decide +kernel
theorem dX0_ownerOf_0 : decode cX0_ownerOf 0 = .ok (.iload_n 1, 1) := by decide +kernel
theorem dX0_ownerOf_1 : decode cX0_ownerOf 1 = .ok (.ifCond .lt 20, 3) := by decide +kernel
theorem dX0_ownerOf_4 : decode cX0_ownerOf 4 = .ok (.iload_n 1, 1) := by decide +kernel
theorem dX0_ownerOf_5 : decode cX0_ownerOf 5 = .ok (.aload_n 0, 1) := by decide +kernel
theorem dX0_ownerOf_6 : decode cX0_ownerOf 6 = .ok (.getfield 43, 3) := by decide +kernel
theorem dX0_ownerOf_9 : decode cX0_ownerOf 9 = .ok (.if_icmp .ge 12, 3) := by decide +kernel
theorem dX0_ownerOf_12 : decode cX0_ownerOf 12 = .ok (.aload_n 0, 1) := by decide +kernel
theorem dX0_ownerOf_13 : decode cX0_ownerOf 13 = .ok (.getfield 36, 3) := by decide +kernel
theorem dX0_ownerOf_16 : decode cX0_ownerOf 16 = .ok (.iload_n 1, 1) := by decide +kernel
theorem dX0_ownerOf_17 : decode cX0_ownerOf 17 = .ok (.iaload, 1) := by decide +kernel
theorem dX0_ownerOf_18 : decode cX0_ownerOf 18 = .ok (.goto 4, 3) := by decide +kernel
theorem dX0_ownerOf_21 : decode cX0_ownerOf 21 = .ok (.iconst (-1), 1) := by decide +kernel
theorem dX0_ownerOf_22 : decode cX0_ownerOf 22 = .ok (.ireturn, 1) := by decide +kernel
theorem dX0_within_0 : decode cX0_within 0 = .ok (.iconst 0, 1) := by decide +kernel
theorem dX0_within_1 : decode cX0_within 1 = .ok (.istore_n 2, 1) := by decide +kernel
theorem dX0_within_2 : decode cX0_within 2 = .ok (.iconst 0, 1) := by decide +kernel
theorem dX0_within_3 : decode cX0_within 3 = .ok (.istore_n 3, 1) := by decide +kernel
theorem dX0_within_4 : decode cX0_within 4 = .ok (.iload_n 3, 1) := by decide +kernel
theorem dX0_within_5 : decode cX0_within 5 = .ok (.aload_n 0, 1) := by decide +kernel
theorem dX0_within_6 : decode cX0_within 6 = .ok (.getfield 39, 3) := by decide +kernel
theorem dX0_within_9 : decode cX0_within 9 = .ok (.if_icmp .ge 25, 3) := by decide +kernel
theorem dX0_within_12 : decode cX0_within 12 = .ok (.aload_n 0, 1) := by decide +kernel
theorem dX0_within_13 : decode cX0_within 13 = .ok (.getfield 9, 3) := by decide +kernel
theorem dX0_within_16 : decode cX0_within 16 = .ok (.iload_n 3, 1) := by decide +kernel
theorem dX0_within_17 : decode cX0_within 17 = .ok (.iaload, 1) := by decide +kernel
theorem dX0_within_18 : decode cX0_within 18 = .ok (.iload_n 1, 1) := by decide +kernel
theorem dX0_within_19 : decode cX0_within 19 = .ok (.if_icmp .ne 9, 3) := by decide +kernel
theorem dX0_within_22 : decode cX0_within 22 = .ok (.iload_n 2, 1) := by decide +kernel
theorem dX0_within_23 : decode cX0_within 23 = .ok (.iconst 1, 1) := by decide +kernel
theorem dX0_within_24 : decode cX0_within 24 = .ok (.iload_n 3, 1) := by decide +kernel
theorem dX0_within_25 : decode cX0_within 25 = .ok (.ishl, 1) := by decide +kernel
theorem dX0_within_26 : decode cX0_within 26 = .ok (.ior, 1) := by decide +kernel
theorem dX0_within_27 : decode cX0_within 27 = .ok (.istore_n 2, 1) := by decide +kernel
theorem dX0_within_28 : decode cX0_within 28 = .ok (.iinc 3 1, 3) := by decide +kernel
theorem dX0_within_31 : decode cX0_within 31 = .ok (.goto (-27), 3) := by decide +kernel
theorem dX0_within_34 : decode cX0_within 34 = .ok (.iload_n 2, 1) := by decide +kernel
theorem dX0_within_35 : decode cX0_within 35 = .ok (.ireturn, 1) := by decide +kernel
theorem dX0_countOwnParts_0 : decode cX0_countOwnParts 0 = .ok (.iconst 0, 1) := by decide +kernel
theorem dX0_countOwnParts_1 : decode cX0_countOwnParts 1 = .ok (.istore_n 2, 1) := by decide +kernel
theorem dX0_countOwnParts_2 : decode cX0_countOwnParts 2 = .ok (.iconst 0, 1) := by decide +kernel
theorem dX0_countOwnParts_3 : decode cX0_countOwnParts 3 = .ok (.istore_n 3, 1) := by decide +kernel
theorem dX0_countOwnParts_4 : decode cX0_countOwnParts 4 = .ok (.iload_n 3, 1) := by decide +kernel
theorem dX0_countOwnParts_5 : decode cX0_countOwnParts 5 = .ok (.aload_n 0, 1) := by decide +kernel
theorem dX0_countOwnParts_6 : decode cX0_countOwnParts 6 = .ok (.getfield 43, 3) := by decide +kernel
theorem dX0_countOwnParts_9 : decode cX0_countOwnParts 9 = .ok (.if_icmp .ge 22, 3) := by decide +kernel
theorem dX0_countOwnParts_12 : decode cX0_countOwnParts 12 = .ok (.aload_n 0, 1) := by decide +kernel
theorem dX0_countOwnParts_13 : decode cX0_countOwnParts 13 = .ok (.getfield 36, 3) := by decide +kernel
theorem dX0_countOwnParts_16 : decode cX0_countOwnParts 16 = .ok (.iload_n 3, 1) := by decide +kernel
theorem dX0_countOwnParts_17 : decode cX0_countOwnParts 17 = .ok (.iaload, 1) := by decide +kernel
theorem dX0_countOwnParts_18 : decode cX0_countOwnParts 18 = .ok (.iload_n 1, 1) := by decide +kernel
theorem dX0_countOwnParts_19 : decode cX0_countOwnParts 19 = .ok (.if_icmp .ne 6, 3) := by decide +kernel
theorem dX0_countOwnParts_22 : decode cX0_countOwnParts 22 = .ok (.iinc 2 1, 3) := by decide +kernel
theorem dX0_countOwnParts_25 : decode cX0_countOwnParts 25 = .ok (.iinc 3 1, 3) := by decide +kernel
theorem dX0_countOwnParts_28 : decode cX0_countOwnParts 28 = .ok (.goto (-24), 3) := by decide +kernel
theorem dX0_countOwnParts_31 : decode cX0_countOwnParts 31 = .ok (.iload_n 2, 1) := by decide +kernel
theorem dX0_countOwnParts_32 : decode cX0_countOwnParts 32 = .ok (.ireturn, 1) := by decide +kernel
theorem dX0_ownPart_0 : decode cX0_ownPart 0 = .ok (.iconst 0, 1) := by decide +kernel
theorem dX0_ownPart_1 : decode cX0_ownPart 1 = .ok (.istore_n 3, 1) := by decide +kernel
theorem dX0_ownPart_2 : decode cX0_ownPart 2 = .ok (.iconst 0, 1) := by decide +kernel
theorem dX0_ownPart_3 : decode cX0_ownPart 3 = .ok (.istore 4, 2) := by decide +kernel
theorem dX0_ownPart_5 : decode cX0_ownPart 5 = .ok (.iload 4, 2) := by decide +kernel
theorem dX0_ownPart_7 : decode cX0_ownPart 7 = .ok (.aload_n 0, 1) := by decide +kernel
theorem dX0_ownPart_8 : decode cX0_ownPart 8 = .ok (.getfield 43, 3) := by decide +kernel
theorem dX0_ownPart_11 : decode cX0_ownPart 11 = .ok (.if_icmp .ge 31, 3) := by decide +kernel
theorem dX0_ownPart_14 : decode cX0_ownPart 14 = .ok (.aload_n 0, 1) := by decide +kernel
theorem dX0_ownPart_15 : decode cX0_ownPart 15 = .ok (.getfield 36, 3) := by decide +kernel
theorem dX0_ownPart_18 : decode cX0_ownPart 18 = .ok (.iload 4, 2) := by decide +kernel
theorem dX0_ownPart_20 : decode cX0_ownPart 20 = .ok (.iaload, 1) := by decide +kernel
theorem dX0_ownPart_21 : decode cX0_ownPart 21 = .ok (.iload_n 1, 1) := by decide +kernel
theorem dX0_ownPart_22 : decode cX0_ownPart 22 = .ok (.if_icmp .ne 14, 3) := by decide +kernel
theorem dX0_ownPart_25 : decode cX0_ownPart 25 = .ok (.iload_n 3, 1) := by decide +kernel
theorem dX0_ownPart_26 : decode cX0_ownPart 26 = .ok (.iload_n 2, 1) := by decide +kernel
theorem dX0_ownPart_27 : decode cX0_ownPart 27 = .ok (.if_icmp .ne 6, 3) := by decide +kernel
theorem dX0_ownPart_30 : decode cX0_ownPart 30 = .ok (.iload 4, 2) := by decide +kernel
theorem dX0_ownPart_32 : decode cX0_ownPart 32 = .ok (.ireturn, 1) := by decide +kernel
theorem dX0_ownPart_33 : decode cX0_ownPart 33 = .ok (.iinc 3 1, 3) := by decide +kernel
theorem dX0_ownPart_36 : decode cX0_ownPart 36 = .ok (.iinc 4 1, 3) := by decide +kernel
theorem dX0_ownPart_39 : decode cX0_ownPart 39 = .ok (.goto (-34), 3) := by decide +kernel
theorem dX0_ownPart_42 : decode cX0_ownPart 42 = .ok (.iconst (-1), 1) := by decide +kernel
theorem dX0_ownPart_43 : decode cX0_ownPart 43 = .ok (.ireturn, 1) := by decide +kernel
theorem dX7_agreeing_0 : decode cX7_agreeing 0 = .ok (.ldc2_w 289, 3) := by decide +kernel
theorem dX7_agreeing_3 : decode cX7_agreeing 3 = .ok (.lstore_n 2, 1) := by decide +kernel
theorem dX7_agreeing_4 : decode cX7_agreeing 4 = .ok (.iconst 0, 1) := by decide +kernel
theorem dX7_agreeing_5 : decode cX7_agreeing 5 = .ok (.istore 4, 2) := by decide +kernel
theorem dX7_agreeing_7 : decode cX7_agreeing 7 = .ok (.iload 4, 2) := by decide +kernel
theorem dX7_agreeing_9 : decode cX7_agreeing 9 = .ok (.bipush 6, 2) := by decide +kernel
theorem dX7_agreeing_11 : decode cX7_agreeing 11 = .ok (.if_icmp .ge 51, 3) := by decide +kernel
theorem dX7_agreeing_14 : decode cX7_agreeing 14 = .ok (.iconst 1, 1) := by decide +kernel
theorem dX7_agreeing_15 : decode cX7_agreeing 15 = .ok (.iload 4, 2) := by decide +kernel
theorem dX7_agreeing_17 : decode cX7_agreeing 17 = .ok (.ishl, 1) := by decide +kernel
theorem dX7_agreeing_18 : decode cX7_agreeing 18 = .ok (.istore 5, 2) := by decide +kernel
theorem dX7_agreeing_20 : decode cX7_agreeing 20 = .ok (.iload_n 0, 1) := by decide +kernel
theorem dX7_agreeing_21 : decode cX7_agreeing 21 = .ok (.iload 5, 2) := by decide +kernel
theorem dX7_agreeing_23 : decode cX7_agreeing 23 = .ok (.iand, 1) := by decide +kernel
theorem dX7_agreeing_24 : decode cX7_agreeing 24 = .ok (.ifCond .eq 32, 3) := by decide +kernel
theorem dX7_agreeing_27 : decode cX7_agreeing 27 = .ok (.lload_n 2, 1) := by decide +kernel
theorem dX7_agreeing_28 : decode cX7_agreeing 28 = .ok (.iload_n 1, 1) := by decide +kernel
theorem dX7_agreeing_29 : decode cX7_agreeing 29 = .ok (.iload 5, 2) := by decide +kernel
theorem dX7_agreeing_31 : decode cX7_agreeing 31 = .ok (.iand, 1) := by decide +kernel
theorem dX7_agreeing_32 : decode cX7_agreeing 32 = .ok (.ifCond .eq 12, 3) := by decide +kernel
theorem dX7_agreeing_35 : decode cX7_agreeing 35 = .ok (.getstatic 291, 3) := by decide +kernel
theorem dX7_agreeing_38 : decode cX7_agreeing 38 = .ok (.iload 4, 2) := by decide +kernel
theorem dX7_agreeing_40 : decode cX7_agreeing 40 = .ok (.laload, 1) := by decide +kernel
theorem dX7_agreeing_41 : decode cX7_agreeing 41 = .ok (.goto 13, 3) := by decide +kernel
theorem dX7_agreeing_44 : decode cX7_agreeing 44 = .ok (.getstatic 291, 3) := by decide +kernel
theorem dX7_agreeing_47 : decode cX7_agreeing 47 = .ok (.iload 4, 2) := by decide +kernel
theorem dX7_agreeing_49 : decode cX7_agreeing 49 = .ok (.laload, 1) := by decide +kernel
theorem dX7_agreeing_50 : decode cX7_agreeing 50 = .ok (.ldc2_w 289, 3) := by decide +kernel
theorem dX7_agreeing_53 : decode cX7_agreeing 53 = .ok (.lxor, 1) := by decide +kernel
theorem dX7_agreeing_54 : decode cX7_agreeing 54 = .ok (.land, 1) := by decide +kernel
theorem dX7_agreeing_55 : decode cX7_agreeing 55 = .ok (.lstore_n 2, 1) := by decide +kernel
theorem dX7_agreeing_56 : decode cX7_agreeing 56 = .ok (.iinc 4 1, 3) := by decide +kernel
theorem dX7_agreeing_59 : decode cX7_agreeing 59 = .ok (.goto (-52), 3) := by decide +kernel
theorem dX7_agreeing_62 : decode cX7_agreeing 62 = .ok (.lload_n 2, 1) := by decide +kernel
theorem dX7_agreeing_63 : decode cX7_agreeing 63 = .ok (.lreturn, 1) := by decide +kernel
theorem dX0_holds_0 : decode cX0_holds 0 = .ok (.aload_n 0, 1) := by decide +kernel
theorem dX0_holds_1 : decode cX0_holds 1 = .ok (.getfield 18, 3) := by decide +kernel
theorem dX0_holds_4 : decode cX0_holds 4 = .ok (.iload_n 1, 1) := by decide +kernel
theorem dX0_holds_5 : decode cX0_holds 5 = .ok (.iaload, 1) := by decide +kernel
theorem dX0_holds_6 : decode cX0_holds 6 = .ok (.aload_n 0, 1) := by decide +kernel
theorem dX0_holds_7 : decode cX0_holds 7 = .ok (.getfield 21, 3) := by decide +kernel
theorem dX0_holds_10 : decode cX0_holds 10 = .ok (.iload_n 1, 1) := by decide +kernel
theorem dX0_holds_11 : decode cX0_holds 11 = .ok (.iaload, 1) := by decide +kernel
theorem dX0_holds_12 : decode cX0_holds 12 = .ok (.ior, 1) := by decide +kernel
theorem dX0_holds_13 : decode cX0_holds 13 = .ok (.aload_n 0, 1) := by decide +kernel
theorem dX0_holds_14 : decode cX0_holds 14 = .ok (.getfield 18, 3) := by decide +kernel
theorem dX0_holds_17 : decode cX0_holds 17 = .ok (.iload_n 1, 1) := by decide +kernel
theorem dX0_holds_18 : decode cX0_holds 18 = .ok (.iaload, 1) := by decide +kernel
theorem dX0_holds_19 : decode cX0_holds 19 = .ok (.invokestatic 55, 3) := by decide +kernel
theorem dX0_holds_22 : decode cX0_holds 22 = .ok (.lreturn, 1) := by decide +kernel
theorem dX0_aroundAt_0 : decode cX0_aroundAt 0 = .ok (.iload_n 1, 1) := by decide +kernel
theorem dX0_aroundAt_1 : decode cX0_aroundAt 1 = .ok (.istore_n 3, 1) := by decide +kernel
theorem dX0_aroundAt_2 : decode cX0_aroundAt 2 = .ok (.iconst 0, 1) := by decide +kernel
theorem dX0_aroundAt_3 : decode cX0_aroundAt 3 = .ok (.istore 4, 2) := by decide +kernel
theorem dX0_aroundAt_5 : decode cX0_aroundAt 5 = .ok (.iload 4, 2) := by decide +kernel
theorem dX0_aroundAt_7 : decode cX0_aroundAt 7 = .ok (.bipush 16, 2) := by decide +kernel
theorem dX0_aroundAt_9 : decode cX0_aroundAt 9 = .ok (.if_icmp .ge 38, 3) := by decide +kernel
theorem dX0_aroundAt_12 : decode cX0_aroundAt 12 = .ok (.iload_n 3, 1) := by decide +kernel
theorem dX0_aroundAt_13 : decode cX0_aroundAt 13 = .ok (.ifCond .lt 34, 3) := by decide +kernel
theorem dX0_aroundAt_16 : decode cX0_aroundAt 16 = .ok (.iload_n 3, 1) := by decide +kernel
theorem dX0_aroundAt_17 : decode cX0_aroundAt 17 = .ok (.aload_n 0, 1) := by decide +kernel
theorem dX0_aroundAt_18 : decode cX0_aroundAt 18 = .ok (.getfield 39, 3) := by decide +kernel
theorem dX0_aroundAt_21 : decode cX0_aroundAt 21 = .ok (.if_icmp .ge 26, 3) := by decide +kernel
theorem dX0_aroundAt_24 : decode cX0_aroundAt 24 = .ok (.aload_n 0, 1) := by decide +kernel
theorem dX0_aroundAt_25 : decode cX0_aroundAt 25 = .ok (.getfield 15, 3) := by decide +kernel
theorem dX0_aroundAt_28 : decode cX0_aroundAt 28 = .ok (.iload_n 3, 1) := by decide +kernel
theorem dX0_aroundAt_29 : decode cX0_aroundAt 29 = .ok (.iaload, 1) := by decide +kernel
theorem dX0_aroundAt_30 : decode cX0_aroundAt 30 = .ok (.iload_n 2, 1) := by decide +kernel
theorem dX0_aroundAt_31 : decode cX0_aroundAt 31 = .ok (.if_icmp .le 16, 3) := by decide +kernel
theorem dX0_aroundAt_34 : decode cX0_aroundAt 34 = .ok (.aload_n 0, 1) := by decide +kernel
theorem dX0_aroundAt_35 : decode cX0_aroundAt 35 = .ok (.getfield 9, 3) := by decide +kernel
theorem dX0_aroundAt_38 : decode cX0_aroundAt 38 = .ok (.iload_n 3, 1) := by decide +kernel
theorem dX0_aroundAt_39 : decode cX0_aroundAt 39 = .ok (.iaload, 1) := by decide +kernel
theorem dX0_aroundAt_40 : decode cX0_aroundAt 40 = .ok (.istore_n 3, 1) := by decide +kernel
theorem dX0_aroundAt_41 : decode cX0_aroundAt 41 = .ok (.iinc 4 1, 3) := by decide +kernel
theorem dX0_aroundAt_44 : decode cX0_aroundAt 44 = .ok (.goto (-39), 3) := by decide +kernel
theorem dX0_aroundAt_47 : decode cX0_aroundAt 47 = .ok (.iload_n 3, 1) := by decide +kernel
theorem dX0_aroundAt_48 : decode cX0_aroundAt 48 = .ok (.ireturn, 1) := by decide +kernel
theorem dX7_has_0 : decode cX7_has 0 = .ok (.iload_n 0, 1) := by decide +kernel
theorem dX7_has_1 : decode cX7_has 1 = .ok (.iload_n 1, 1) := by decide +kernel
theorem dX7_has_2 : decode cX7_has 2 = .ok (.iushr, 1) := by decide +kernel
theorem dX7_has_3 : decode cX7_has 3 = .ok (.iconst 1, 1) := by decide +kernel
theorem dX7_has_4 : decode cX7_has 4 = .ok (.iand, 1) := by decide +kernel
theorem dX7_has_5 : decode cX7_has 5 = .ok (.ifCond .eq 7, 3) := by decide +kernel
theorem dX7_has_8 : decode cX7_has 8 = .ok (.iconst 1, 1) := by decide +kernel
theorem dX7_has_9 : decode cX7_has 9 = .ok (.goto 4, 3) := by decide +kernel
theorem dX7_has_12 : decode cX7_has 12 = .ok (.iconst 0, 1) := by decide +kernel
theorem dX7_has_13 : decode cX7_has 13 = .ok (.ireturn, 1) := by decide +kernel
def FX0_clear_L17 (k : SS → Option (SS)) : Nat → Int32 → SS → Option (SS)
  | 0, _, _ => none
  | n + 1, v1, σ => if (16 : Int32) ≤ v1 then k σ
    else gd (inb v1 16) (bd (sA σ 27 (upd (gA σ 27) (Int32.toNatClampNeg v1) (0 : Int32))) (fun σ6 => gd (inb v1 16) (bd (sA σ6 28 (upd (gA σ6 28) (Int32.toNatClampNeg v1) (0 : Int32))) (fun σ8 => FX0_clear_L17 k n (v1 + (1 : Int32)) σ8))))
set_option maxRecDepth 100000 in
set_option maxHeartbeats 4000000 in
theorem PX0_clear_L17 {X : Bx} {g : Gx} {σr : SS} (hX : Okw wsX X g cX0_clear 2 RX0 none ({ frames := 0, cells := 0, slots := 0, locals := 0 } : Room) (fun g => none) σr) {k : SS → Option (SS)} (hk : ∀ (σ : SS), k σ = some σr → Vx X g.1 2 (wsX g σ) 43 [] []) : ∀ (n : Nat) (v1 : Int32) (σ : SS), FX0_clear_L17 k n v1 σ = some σr → Vx X g.1 2 (wsX g σ) 17 [(0, .ref (g.2.1 2)), (1, .int v1)] [] := by
  have h0 := hX.1
  intro n
  induction n with
  | zero =>
    intro v1 σ hf
    rw [FX0_clear_L17] at hf
    cases hf
  | succ n ih =>
    intro v1 σ hf
    rw [FX0_clear_L17] at hf
    refine vx_iload_n h0 dX0_clear_17 rfl ?_
    refine vx_bipush (v := (16 : Int32)) h0 dX0_clear_18 (by decide) ?_
    refine vx_icmp_ge (tgt := 43) h0 dX0_clear_20 (by decide) (fun c4 => ?_) (fun c4 => ?_)
    · replace hf := (if_pos c4).symm.trans hf
      refine vx_sub [] rfl ?_
      exact hk _ hf
    · replace hf := (if_neg c4).symm.trans hf
      refine vx_aload_n h0 dX0_clear_23 rfl ?_
      refine xg_2_7 hX q128 dX0_clear_24 ?_
      refine vx_iload_n h0 dX0_clear_27 rfl ?_
      refine vx_iconst (v := (0 : Int32)) h0 dX0_clear_28 (by decide) ?_
      obtain ⟨b5, hf⟩ := gd_some hf
      refine xs_7 hX b5 dX0_clear_29 ?_
      generalize (sA σ 27 (upd (gA σ 27) (Int32.toNatClampNeg v1) (0 : Int32))) = σ6 at hf ⊢
      replace hf := bd_h hf
      refine vx_aload_n h0 dX0_clear_30 rfl ?_
      refine xg_2_8 hX q131 dX0_clear_31 ?_
      refine vx_iload_n h0 dX0_clear_34 rfl ?_
      refine vx_iconst (v := (0 : Int32)) h0 dX0_clear_35 (by decide) ?_
      obtain ⟨b7, hf⟩ := gd_some hf
      refine xs_8 hX b7 dX0_clear_36 ?_
      generalize (sA σ6 28 (upd (gA σ6 28) (Int32.toNatClampNeg v1) (0 : Int32))) = σ8 at hf ⊢
      replace hf := bd_h hf
      refine vx_iinc (q := 1) (v := (v1 + (1 : Int32))) (ls' := [(1, .int (v1 + (1 : Int32))), (0, .ref (g.2.1 2))]) h0 dX0_clear_37 rfl rfl (by decide) rfl ?_
      refine vx_goto (tgt := 17) h0 dX0_clear_40 (by decide) ?_
      refine vx_sub [1, 0] rfl ?_
      exact ih _ _ hf
def FX0_clear (σ : SS) : Option (SS) :=
  bd (sI σ 20 (0 : Int32)) (fun σ1 => bd (sI σ1 21 (0 : Int32)) (fun σ2 => bd (sI σ2 22 (0 : Int32)) (fun σ3 => FX0_clear_L17 (fun σ9 => some σ9) 5000 (0 : Int32) σ3)))
set_option maxRecDepth 100000 in
set_option maxHeartbeats 4000000 in
theorem c_X0_clear {σ : SS} {σr : SS} (hf : FX0_clear σ = some σr) : Mcw wsX yX0_clear cX0_clear 2 none ({ frames := 0, cells := 0, slots := 0, locals := 0 } : Room) (fun g => [.ref (g.2.1 2)]) σ (fun g => none) σr := by
  refine w_enter wsX_fix (by decide) (fun g => Nat.le_of_ble_eq_true rfl) ?_
  intro X g hX
  replace hX : Okw wsX X g cX0_clear 2 RX0 none ({ frames := 0, cells := 0, slots := 0, locals := 0 } : Room) (fun g => none) σr := hX
  have h0 := hX.1
  show Vx X g.1 2 (wsX g σ) 0 [(0, .ref (g.2.1 2))] []
  rw [FX0_clear] at hf
  refine vx_aload_n h0 dX0_clear_0 rfl ?_
  refine vx_iconst (v := (0 : Int32)) h0 dX0_clear_1 (by decide) ?_
  refine xp_2_0 hX q100 dX0_clear_2 ?_
  generalize (sI σ 20 (0 : Int32)) = σ1 at hf ⊢
  replace hf := bd_h hf
  refine vx_aload_n h0 dX0_clear_5 rfl ?_
  refine vx_iconst (v := (0 : Int32)) h0 dX0_clear_6 (by decide) ?_
  refine xp_2_1 hX q106 dX0_clear_7 ?_
  generalize (sI σ1 21 (0 : Int32)) = σ2 at hf ⊢
  replace hf := bd_h hf
  refine vx_aload_n h0 dX0_clear_10 rfl ?_
  refine vx_iconst (v := (0 : Int32)) h0 dX0_clear_11 (by decide) ?_
  refine xp_2_2 hX q111 dX0_clear_12 ?_
  generalize (sI σ2 22 (0 : Int32)) = σ3 at hf ⊢
  replace hf := bd_h hf
  refine vx_iconst (v := (0 : Int32)) h0 dX0_clear_15 (by decide) ?_
  refine vx_istore_n (ls' := [(1, .int (0 : Int32)), (0, .ref (g.2.1 2))]) h0 dX0_clear_16 (by decide) rfl ?_
  refine vx_sub [1, 0] rfl ?_
  refine PX0_clear_L17 hX (fun σ9 hf => ?_) _ _ _ hf
  exact w_vretE hX hf dX0_clear_43
def FX0_takeOver (σ : SS) : Option (SS) :=
  bd (sI σ 40 (gI σ 20)) (fun σ1 => bd (sI σ1 41 (gI σ1 21)) (fun σ2 => bd (sI σ2 42 (gI σ2 22)) (fun σ3 => bd (sA σ3 43 (va_cpy (gA σ3 23) (gA σ3 43) (Int32.toNatClampNeg (0 : Int32)) (Int32.toNatClampNeg (0 : Int32)) (Int32.toNatClampNeg (16 : Int32)))) (fun σ4 => bd (sA σ4 44 (va_cpy (gA σ4 24) (gA σ4 44) (Int32.toNatClampNeg (0 : Int32)) (Int32.toNatClampNeg (0 : Int32)) (Int32.toNatClampNeg (16 : Int32)))) (fun σ5 => bd (sA σ5 45 (va_cpy (gA σ5 25) (gA σ5 45) (Int32.toNatClampNeg (0 : Int32)) (Int32.toNatClampNeg (0 : Int32)) (Int32.toNatClampNeg (16 : Int32)))) (fun σ6 => bd (sA σ6 46 (va_cpy (gA σ6 26) (gA σ6 46) (Int32.toNatClampNeg (0 : Int32)) (Int32.toNatClampNeg (0 : Int32)) (Int32.toNatClampNeg (16 : Int32)))) (fun σ7 => bd (sA σ7 47 (va_cpy (gA σ7 27) (gA σ7 47) (Int32.toNatClampNeg (0 : Int32)) (Int32.toNatClampNeg (0 : Int32)) (Int32.toNatClampNeg (16 : Int32)))) (fun σ8 => bd (sA σ8 48 (va_cpy (gA σ8 28) (gA σ8 48) (Int32.toNatClampNeg (0 : Int32)) (Int32.toNatClampNeg (0 : Int32)) (Int32.toNatClampNeg (16 : Int32)))) (fun σ9 => bd (sA σ9 49 (va_cpy (gA σ9 29) (gA σ9 49) (Int32.toNatClampNeg (0 : Int32)) (Int32.toNatClampNeg (0 : Int32)) (Int32.toNatClampNeg (30 : Int32)))) (fun σ10 => bd (sA σ10 50 (va_cpy (gA σ10 30) (gA σ10 50) (Int32.toNatClampNeg (0 : Int32)) (Int32.toNatClampNeg (0 : Int32)) (Int32.toNatClampNeg (30 : Int32)))) (fun σ11 => bd (sA σ11 51 (va_cpy (gA σ11 31) (gA σ11 51) (Int32.toNatClampNeg (0 : Int32)) (Int32.toNatClampNeg (0 : Int32)) (Int32.toNatClampNeg (30 : Int32)))) (fun σ12 => some σ12))))))))))))
set_option maxRecDepth 100000 in
set_option maxHeartbeats 4000000 in
theorem c_X0_takeOver {σ : SS} {σr : SS} (hf : FX0_takeOver σ = some σr) : Mcw wsX yX0_takeOver cX0_takeOver 2 none ({ frames := 1, cells := 0, slots := 0, locals := 22 } : Room) (fun g => [.ref (g.2.1 14), .ref (g.2.1 2)]) σ (fun g => none) σr := by
  refine w_enter wsX_fix (by decide) (fun g => Nat.le_of_ble_eq_true rfl) ?_
  intro X g hX
  replace hX : Okw wsX X g cX0_takeOver 2 RX0 none ({ frames := 1, cells := 0, slots := 0, locals := 22 } : Room) (fun g => none) σr := hX
  have h0 := hX.1
  show Vx X g.1 2 (wsX g σ) 0 [(0, .ref (g.2.1 14)), (1, .ref (g.2.1 2))] []
  rw [FX0_takeOver] at hf
  refine vx_aload_n h0 dX0_takeOver_0 rfl ?_
  refine vx_aload_n h0 dX0_takeOver_1 rfl ?_
  refine xg_2_0 hX q100 dX0_takeOver_2 ?_
  refine xp_14_0 hX q100 dX0_takeOver_5 ?_
  generalize (sI σ 40 (gI σ 20)) = σ1 at hf ⊢
  replace hf := bd_h hf
  refine vx_aload_n h0 dX0_takeOver_8 rfl ?_
  refine vx_aload_n h0 dX0_takeOver_9 rfl ?_
  refine xg_2_1 hX q106 dX0_takeOver_10 ?_
  refine xp_14_1 hX q106 dX0_takeOver_13 ?_
  generalize (sI σ1 41 (gI σ1 21)) = σ2 at hf ⊢
  replace hf := bd_h hf
  refine vx_aload_n h0 dX0_takeOver_16 rfl ?_
  refine vx_aload_n h0 dX0_takeOver_17 rfl ?_
  refine xg_2_2 hX q111 dX0_takeOver_18 ?_
  refine xp_14_2 hX q111 dX0_takeOver_21 ?_
  generalize (sI σ2 42 (gI σ2 22)) = σ3 at hf ⊢
  replace hf := bd_h hf
  refine vx_aload_n h0 dX0_takeOver_24 rfl ?_
  refine xg_2_3 hX q115 dX0_takeOver_25 ?_
  refine vx_iconst (v := (0 : Int32)) h0 dX0_takeOver_28 (by decide) ?_
  refine vx_aload_n h0 dX0_takeOver_29 rfl ?_
  refine xg_14_3 hX q115 dX0_takeOver_30 ?_
  refine vx_iconst (v := (0 : Int32)) h0 dX0_takeOver_33 (by decide) ?_
  refine vx_bipush (v := (16 : Int32)) h0 dX0_takeOver_34 (by decide) ?_
  refine vx_copyi h0 (hX.2.1 _) 3 15 0 (xa_3 g _) (xa_15 g _) rfl (by decide) q417 q419 q418 q77 ⟨by rw [hX.2.2.2.2.2.1]; exact Nat.le_of_ble_eq_true rfl, by rw [hX.2.2.2.2.2.1]; exact Nat.le_of_ble_eq_true rfl⟩ dX0_takeOver_36 (xu_15 g _ _) ?_
  generalize (sA σ3 43 (va_cpy (gA σ3 23) (gA σ3 43) (Int32.toNatClampNeg (0 : Int32)) (Int32.toNatClampNeg (0 : Int32)) (Int32.toNatClampNeg (16 : Int32)))) = σ4 at hf ⊢
  replace hf := bd_h hf
  refine vx_aload_n h0 dX0_takeOver_39 rfl ?_
  refine xg_2_4 hX q119 dX0_takeOver_40 ?_
  refine vx_iconst (v := (0 : Int32)) h0 dX0_takeOver_43 (by decide) ?_
  refine vx_aload_n h0 dX0_takeOver_44 rfl ?_
  refine xg_14_4 hX q119 dX0_takeOver_45 ?_
  refine vx_iconst (v := (0 : Int32)) h0 dX0_takeOver_48 (by decide) ?_
  refine vx_bipush (v := (16 : Int32)) h0 dX0_takeOver_49 (by decide) ?_
  refine vx_copyi h0 (hX.2.1 _) 4 16 0 (xa_4 g _) (xa_16 g _) rfl (by decide) q417 q419 q418 q77 ⟨by rw [hX.2.2.2.2.2.1]; exact Nat.le_of_ble_eq_true rfl, by rw [hX.2.2.2.2.2.1]; exact Nat.le_of_ble_eq_true rfl⟩ dX0_takeOver_51 (xu_16 g _ _) ?_
  generalize (sA σ4 44 (va_cpy (gA σ4 24) (gA σ4 44) (Int32.toNatClampNeg (0 : Int32)) (Int32.toNatClampNeg (0 : Int32)) (Int32.toNatClampNeg (16 : Int32)))) = σ5 at hf ⊢
  replace hf := bd_h hf
  refine vx_aload_n h0 dX0_takeOver_54 rfl ?_
  refine xg_2_5 hX q122 dX0_takeOver_55 ?_
  refine vx_iconst (v := (0 : Int32)) h0 dX0_takeOver_58 (by decide) ?_
  refine vx_aload_n h0 dX0_takeOver_59 rfl ?_
  refine xg_14_5 hX q122 dX0_takeOver_60 ?_
  refine vx_iconst (v := (0 : Int32)) h0 dX0_takeOver_63 (by decide) ?_
  refine vx_bipush (v := (16 : Int32)) h0 dX0_takeOver_64 (by decide) ?_
  refine vx_copyi h0 (hX.2.1 _) 5 17 0 (xa_5 g _) (xa_17 g _) rfl (by decide) q417 q419 q418 q77 ⟨by rw [hX.2.2.2.2.2.1]; exact Nat.le_of_ble_eq_true rfl, by rw [hX.2.2.2.2.2.1]; exact Nat.le_of_ble_eq_true rfl⟩ dX0_takeOver_66 (xu_17 g _ _) ?_
  generalize (sA σ5 45 (va_cpy (gA σ5 25) (gA σ5 45) (Int32.toNatClampNeg (0 : Int32)) (Int32.toNatClampNeg (0 : Int32)) (Int32.toNatClampNeg (16 : Int32)))) = σ6 at hf ⊢
  replace hf := bd_h hf
  refine vx_aload_n h0 dX0_takeOver_69 rfl ?_
  refine xg_2_6 hX q125 dX0_takeOver_70 ?_
  refine vx_iconst (v := (0 : Int32)) h0 dX0_takeOver_73 (by decide) ?_
  refine vx_aload_n h0 dX0_takeOver_74 rfl ?_
  refine xg_14_6 hX q125 dX0_takeOver_75 ?_
  refine vx_iconst (v := (0 : Int32)) h0 dX0_takeOver_78 (by decide) ?_
  refine vx_bipush (v := (16 : Int32)) h0 dX0_takeOver_79 (by decide) ?_
  refine vx_copyi h0 (hX.2.1 _) 6 18 0 (xa_6 g _) (xa_18 g _) rfl (by decide) q417 q419 q418 q77 ⟨by rw [hX.2.2.2.2.2.1]; exact Nat.le_of_ble_eq_true rfl, by rw [hX.2.2.2.2.2.1]; exact Nat.le_of_ble_eq_true rfl⟩ dX0_takeOver_81 (xu_18 g _ _) ?_
  generalize (sA σ6 46 (va_cpy (gA σ6 26) (gA σ6 46) (Int32.toNatClampNeg (0 : Int32)) (Int32.toNatClampNeg (0 : Int32)) (Int32.toNatClampNeg (16 : Int32)))) = σ7 at hf ⊢
  replace hf := bd_h hf
  refine vx_aload_n h0 dX0_takeOver_84 rfl ?_
  refine xg_2_7 hX q128 dX0_takeOver_85 ?_
  refine vx_iconst (v := (0 : Int32)) h0 dX0_takeOver_88 (by decide) ?_
  refine vx_aload_n h0 dX0_takeOver_89 rfl ?_
  refine xg_14_7 hX q128 dX0_takeOver_90 ?_
  refine vx_iconst (v := (0 : Int32)) h0 dX0_takeOver_93 (by decide) ?_
  refine vx_bipush (v := (16 : Int32)) h0 dX0_takeOver_94 (by decide) ?_
  refine vx_copyi h0 (hX.2.1 _) 7 19 0 (xa_7 g _) (xa_19 g _) rfl (by decide) q417 q419 q418 q77 ⟨by rw [hX.2.2.2.2.2.1]; exact Nat.le_of_ble_eq_true rfl, by rw [hX.2.2.2.2.2.1]; exact Nat.le_of_ble_eq_true rfl⟩ dX0_takeOver_96 (xu_19 g _ _) ?_
  generalize (sA σ7 47 (va_cpy (gA σ7 27) (gA σ7 47) (Int32.toNatClampNeg (0 : Int32)) (Int32.toNatClampNeg (0 : Int32)) (Int32.toNatClampNeg (16 : Int32)))) = σ8 at hf ⊢
  replace hf := bd_h hf
  refine vx_aload_n h0 dX0_takeOver_99 rfl ?_
  refine xg_2_8 hX q131 dX0_takeOver_100 ?_
  refine vx_iconst (v := (0 : Int32)) h0 dX0_takeOver_103 (by decide) ?_
  refine vx_aload_n h0 dX0_takeOver_104 rfl ?_
  refine xg_14_8 hX q131 dX0_takeOver_105 ?_
  refine vx_iconst (v := (0 : Int32)) h0 dX0_takeOver_108 (by decide) ?_
  refine vx_bipush (v := (16 : Int32)) h0 dX0_takeOver_109 (by decide) ?_
  refine vx_copyi h0 (hX.2.1 _) 8 20 0 (xa_8 g _) (xa_20 g _) rfl (by decide) q417 q419 q418 q77 ⟨by rw [hX.2.2.2.2.2.1]; exact Nat.le_of_ble_eq_true rfl, by rw [hX.2.2.2.2.2.1]; exact Nat.le_of_ble_eq_true rfl⟩ dX0_takeOver_111 (xu_20 g _ _) ?_
  generalize (sA σ8 48 (va_cpy (gA σ8 28) (gA σ8 48) (Int32.toNatClampNeg (0 : Int32)) (Int32.toNatClampNeg (0 : Int32)) (Int32.toNatClampNeg (16 : Int32)))) = σ9 at hf ⊢
  replace hf := bd_h hf
  refine vx_aload_n h0 dX0_takeOver_114 rfl ?_
  refine xg_2_9 hX q133 dX0_takeOver_115 ?_
  refine vx_iconst (v := (0 : Int32)) h0 dX0_takeOver_118 (by decide) ?_
  refine vx_aload_n h0 dX0_takeOver_119 rfl ?_
  refine xg_14_9 hX q133 dX0_takeOver_120 ?_
  refine vx_iconst (v := (0 : Int32)) h0 dX0_takeOver_123 (by decide) ?_
  refine vx_bipush (v := (30 : Int32)) h0 dX0_takeOver_124 (by decide) ?_
  refine vx_copyi h0 (hX.2.1 _) 9 21 0 (xa_9 g _) (xa_21 g _) rfl (by decide) q417 q419 q418 q77 ⟨by rw [hX.2.2.2.2.2.1]; exact Nat.le_of_ble_eq_true rfl, by rw [hX.2.2.2.2.2.1]; exact Nat.le_of_ble_eq_true rfl⟩ dX0_takeOver_126 (xu_21 g _ _) ?_
  generalize (sA σ9 49 (va_cpy (gA σ9 29) (gA σ9 49) (Int32.toNatClampNeg (0 : Int32)) (Int32.toNatClampNeg (0 : Int32)) (Int32.toNatClampNeg (30 : Int32)))) = σ10 at hf ⊢
  replace hf := bd_h hf
  refine vx_aload_n h0 dX0_takeOver_129 rfl ?_
  refine xg_2_10 hX q138 dX0_takeOver_130 ?_
  refine vx_iconst (v := (0 : Int32)) h0 dX0_takeOver_133 (by decide) ?_
  refine vx_aload_n h0 dX0_takeOver_134 rfl ?_
  refine xg_14_10 hX q138 dX0_takeOver_135 ?_
  refine vx_iconst (v := (0 : Int32)) h0 dX0_takeOver_138 (by decide) ?_
  refine vx_bipush (v := (30 : Int32)) h0 dX0_takeOver_139 (by decide) ?_
  refine vx_copyi h0 (hX.2.1 _) 10 22 0 (xa_10 g _) (xa_22 g _) rfl (by decide) q417 q419 q418 q77 ⟨by rw [hX.2.2.2.2.2.1]; exact Nat.le_of_ble_eq_true rfl, by rw [hX.2.2.2.2.2.1]; exact Nat.le_of_ble_eq_true rfl⟩ dX0_takeOver_141 (xu_22 g _ _) ?_
  generalize (sA σ10 50 (va_cpy (gA σ10 30) (gA σ10 50) (Int32.toNatClampNeg (0 : Int32)) (Int32.toNatClampNeg (0 : Int32)) (Int32.toNatClampNeg (30 : Int32)))) = σ11 at hf ⊢
  replace hf := bd_h hf
  refine vx_aload_n h0 dX0_takeOver_144 rfl ?_
  refine xg_2_11 hX q143 dX0_takeOver_145 ?_
  refine vx_iconst (v := (0 : Int32)) h0 dX0_takeOver_148 (by decide) ?_
  refine vx_aload_n h0 dX0_takeOver_149 rfl ?_
  refine xg_14_11 hX q143 dX0_takeOver_150 ?_
  refine vx_iconst (v := (0 : Int32)) h0 dX0_takeOver_153 (by decide) ?_
  refine vx_bipush (v := (30 : Int32)) h0 dX0_takeOver_154 (by decide) ?_
  refine vx_copyi h0 (hX.2.1 _) 11 23 0 (xa_11 g _) (xa_23 g _) rfl (by decide) q417 q419 q418 q77 ⟨by rw [hX.2.2.2.2.2.1]; exact Nat.le_of_ble_eq_true rfl, by rw [hX.2.2.2.2.2.1]; exact Nat.le_of_ble_eq_true rfl⟩ dX0_takeOver_156 (xu_23 g _ _) ?_
  generalize (sA σ11 51 (va_cpy (gA σ11 31) (gA σ11 51) (Int32.toNatClampNeg (0 : Int32)) (Int32.toNatClampNeg (0 : Int32)) (Int32.toNatClampNeg (30 : Int32)))) = σ12 at hf ⊢
  replace hf := bd_h hf
  exact w_vretE hX hf dX0_takeOver_159
def FX0_addClause_J49 (σ : SS) (v2 : Int32) (s0 : Int32) (s1 : Int32) : Option (Int32 × SS) :=
  gd (inb s1 16) (bd (sA σ 24 (upd (gA σ 24) (Int32.toNatClampNeg s1) s0)) (fun σ6 => gd (inb v2 16) (bd (sA σ6 25 (upd (gA σ6 25) (Int32.toNatClampNeg v2) (0 : Int32))) (fun σ8 => gd (inb v2 16) (bd (sA σ8 26 (upd (gA σ8 26) (Int32.toNatClampNeg v2) (0 : Int32))) (fun σ10 => bd (sI σ10 20 ((gI σ10 20) + (1 : Int32))) (fun σ11 => some (v2, σ11))))))))
set_option maxRecDepth 100000 in
set_option maxHeartbeats 4000000 in
theorem PX0_addClause_J49 {X : Bx} {g : Gx} {r : Int32} {σr : SS} {σ : SS} (hX : Okw wsX X g cX0_addClause 3 RX0 (some .int) ({ frames := 0, cells := 0, slots := 0, locals := 0 } : Room) (fun g => some (.int r)) σr) {v2 : Int32} {s0 : Int32} {s1 : Int32} (hf : FX0_addClause_J49 σ v2 s0 s1 = some (r, σr)) : Vx X g.1 3 (wsX g σ) 49 [(0, .ref (g.2.1 2)), (2, .int v2)] [.int s0, .int s1, .ref (g.2.1 4)] := by
  have h0 := hX.1
  rw [FX0_addClause_J49] at hf
  obtain ⟨b5, hf⟩ := gd_some hf
  refine xs_4 hX b5 dX0_addClause_49 ?_
  generalize (sA σ 24 (upd (gA σ 24) (Int32.toNatClampNeg s1) s0)) = σ6 at hf ⊢
  replace hf := bd_h hf
  refine vx_aload_n h0 dX0_addClause_50 rfl ?_
  refine xg_2_5 hX q122 dX0_addClause_51 ?_
  refine vx_iload_n h0 dX0_addClause_54 rfl ?_
  refine vx_iconst (v := (0 : Int32)) h0 dX0_addClause_55 (by decide) ?_
  obtain ⟨b7, hf⟩ := gd_some hf
  refine xs_5 hX b7 dX0_addClause_56 ?_
  generalize (sA σ6 25 (upd (gA σ6 25) (Int32.toNatClampNeg v2) (0 : Int32))) = σ8 at hf ⊢
  replace hf := bd_h hf
  refine vx_aload_n h0 dX0_addClause_57 rfl ?_
  refine xg_2_6 hX q125 dX0_addClause_58 ?_
  refine vx_iload_n h0 dX0_addClause_61 rfl ?_
  refine vx_iconst (v := (0 : Int32)) h0 dX0_addClause_62 (by decide) ?_
  obtain ⟨b9, hf⟩ := gd_some hf
  refine xs_6 hX b9 dX0_addClause_63 ?_
  generalize (sA σ8 26 (upd (gA σ8 26) (Int32.toNatClampNeg v2) (0 : Int32))) = σ10 at hf ⊢
  replace hf := bd_h hf
  refine vx_aload_n h0 dX0_addClause_64 rfl ?_
  refine vx_dup h0 dX0_addClause_65 rfl ?_
  refine xg_2_0 hX q100 dX0_addClause_66 ?_
  refine vx_iconst (v := (1 : Int32)) h0 dX0_addClause_69 (by decide) ?_
  refine vx_iadd h0 dX0_addClause_70 ?_
  refine xp_2_0 hX q100 dX0_addClause_71 ?_
  generalize (sI σ10 20 ((gI σ10 20) + (1 : Int32))) = σ11 at hf ⊢
  replace hf := bd_h hf
  refine vx_iload_n h0 dX0_addClause_74 rfl ?_
  exact w_iretE hX hf dX0_addClause_75
def FX0_addClause_J48 (σ : SS) (v2 : Int32) (s0 : Int32) : Option (Int32 × SS) :=
  FX0_addClause_J49 σ v2 (0 : Int32) s0
set_option maxRecDepth 100000 in
set_option maxHeartbeats 4000000 in
theorem PX0_addClause_J48 {X : Bx} {g : Gx} {r : Int32} {σr : SS} {σ : SS} (hX : Okw wsX X g cX0_addClause 3 RX0 (some .int) ({ frames := 0, cells := 0, slots := 0, locals := 0 } : Room) (fun g => some (.int r)) σr) {v2 : Int32} {s0 : Int32} (hf : FX0_addClause_J48 σ v2 s0 = some (r, σr)) : Vx X g.1 3 (wsX g σ) 48 [(0, .ref (g.2.1 2)), (2, .int v2)] [.int s0, .ref (g.2.1 4)] := by
  have h0 := hX.1
  rw [FX0_addClause_J48] at hf
  refine vx_iconst (v := (0 : Int32)) h0 dX0_addClause_48 (by decide) ?_
  exact PX0_addClause_J49 hX  hf
def FX0_addClause (σ : SS) (a0 : Int32) : Option (Int32 × SS) :=
  if (gI σ 20) < (16 : Int32) then gd (inb (gI σ 20) 16) (bd (sA σ 23 (upd (gA σ 23) (Int32.toNatClampNeg (gI σ 20)) a0)) (fun σ3 => if a0 < 0 then FX0_addClause_J48 σ3 (gI σ 20) (gI σ 20)
    else if (gI σ 20) ≤ a0 then FX0_addClause_J48 σ3 (gI σ 20) (gI σ 20)
    else gd (inb a0 16) (FX0_addClause_J49 σ3 (gI σ 20) ((gA σ3 24 (Int32.toNatClampNeg a0)) + (1 : Int32)) (gI σ 20))))
    else some ((-1 : Int32), σ)
set_option maxRecDepth 100000 in
set_option maxHeartbeats 4000000 in
theorem c_X0_addClause {σ : SS} {a0 : Int32} {r : Int32} {σr : SS} (hf : FX0_addClause σ a0 = some (r, σr)) : Mcw wsX yX0_addClause cX0_addClause 3 (some .int) ({ frames := 0, cells := 0, slots := 0, locals := 0 } : Room) (fun g => [.ref (g.2.1 2), .int a0]) σ (fun g => some (.int r)) σr := by
  refine w_enter wsX_fix (by decide) (fun g => Nat.le_of_ble_eq_true rfl) ?_
  intro X g hX
  replace hX : Okw wsX X g cX0_addClause 3 RX0 (some .int) ({ frames := 0, cells := 0, slots := 0, locals := 0 } : Room) (fun g => some (.int r)) σr := hX
  have h0 := hX.1
  show Vx X g.1 3 (wsX g σ) 0 [(0, .ref (g.2.1 2)), (1, .int a0)] []
  rw [FX0_addClause] at hf
  refine vx_aload_n h0 dX0_addClause_0 rfl ?_
  refine xg_2_0 hX q100 dX0_addClause_1 ?_
  refine vx_bipush (v := (16 : Int32)) h0 dX0_addClause_4 (by decide) ?_
  refine vx_icmp_lt (tgt := 11) h0 dX0_addClause_6 (by decide) (fun c1 => ?_) (fun c1 => ?_)
  · replace hf := (if_pos c1).symm.trans hf
    refine vx_aload_n h0 dX0_addClause_11 rfl ?_
    refine xg_2_0 hX q100 dX0_addClause_12 ?_
    refine vx_istore_n (ls' := [(2, .int (gI σ 20)), (0, .ref (g.2.1 2)), (1, .int a0)]) h0 dX0_addClause_15 (by decide) rfl ?_
    refine vx_aload_n h0 dX0_addClause_16 rfl ?_
    refine xg_2_3 hX q115 dX0_addClause_17 ?_
    refine vx_iload_n h0 dX0_addClause_20 rfl ?_
    refine vx_iload_n h0 dX0_addClause_21 rfl ?_
    obtain ⟨b2, hf⟩ := gd_some hf
    refine xs_3 hX b2 dX0_addClause_22 ?_
    generalize (sA σ 23 (upd (gA σ 23) (Int32.toNatClampNeg (gI σ 20)) a0)) = σ3 at hf ⊢
    replace hf := bd_h hf
    refine vx_aload_n h0 dX0_addClause_23 rfl ?_
    refine xg_2_4 hX q119 dX0_addClause_24 ?_
    refine vx_iload_n h0 dX0_addClause_27 rfl ?_
    refine vx_iload_n h0 dX0_addClause_28 rfl ?_
    refine vx_if_lt (tgt := 48) h0 dX0_addClause_29 (by decide) (fun c4 => ?_) (fun c4 => ?_)
    · replace hf := (if_pos c4).symm.trans hf
      refine vx_sub [1, 0] rfl ?_
      exact PX0_addClause_J48 hX  hf
    · replace hf := (if_neg c4).symm.trans hf
      refine vx_iload_n h0 dX0_addClause_32 rfl ?_
      refine vx_iload_n h0 dX0_addClause_33 rfl ?_
      refine vx_icmp_ge (tgt := 48) h0 dX0_addClause_34 (by decide) (fun c12 => ?_) (fun c12 => ?_)
      · replace hf := (if_pos c12).symm.trans hf
        refine vx_sub [1, 0] rfl ?_
        exact PX0_addClause_J48 hX  hf
      · replace hf := (if_neg c12).symm.trans hf
        refine vx_aload_n h0 dX0_addClause_37 rfl ?_
        refine xg_2_4 hX q119 dX0_addClause_38 ?_
        refine vx_iload_n h0 dX0_addClause_41 rfl ?_
        obtain ⟨b13, hf⟩ := gd_some hf
        refine xl_4 hX b13 dX0_addClause_42 ?_
        refine vx_iconst (v := (1 : Int32)) h0 dX0_addClause_43 (by decide) ?_
        refine vx_iadd h0 dX0_addClause_44 ?_
        refine vx_goto (tgt := 49) h0 dX0_addClause_45 (by decide) ?_
        refine vx_sub [1, 0] rfl ?_
        exact PX0_addClause_J49 hX  hf
  · replace hf := (if_neg c1).symm.trans hf
    refine vx_iconst (v := (-1 : Int32)) h0 dX0_addClause_9 (by decide) ?_
    exact w_iretE hX hf dX0_addClause_10
def FX0_addPart_J79 (σ : SS) (v1 : Int32) (v2 : Int32) (v3 : Int32) : Option (SS) :=
  if v2 = (2 : Int32) then if v3 < 0 then some σ
    else if (16 : Int32) ≤ v3 then some σ
    else gd (inb v3 16) (gd (inb v3 16) (bd (sA σ 27 (upd (gA σ 27) (Int32.toNatClampNeg v3) ((gA σ 27 (Int32.toNatClampNeg v3)) ||| (jshl (1 : Int32) v1)))) (fun σ17 => some σ17)))
    else some σ
set_option maxRecDepth 100000 in
set_option maxHeartbeats 4000000 in
theorem PX0_addPart_J79 {X : Bx} {g : Gx} {σr : SS} {σ : SS} (hX : Okw wsX X g cX0_addPart 4 RX0 none ({ frames := 0, cells := 0, slots := 0, locals := 0 } : Room) (fun g => none) σr) {v1 : Int32} {v2 : Int32} {v3 : Int32} (hf : FX0_addPart_J79 σ v1 v2 v3 = some σr) : Vx X g.1 4 (wsX g σ) 79 [(0, .ref (g.2.1 2)), (1, .int v1), (2, .int v2), (3, .int v3)] [] := by
  have h0 := hX.1
  rw [FX0_addPart_J79] at hf
  refine vx_iload_n h0 dX0_addPart_79 rfl ?_
  refine vx_iconst (v := (2 : Int32)) h0 dX0_addPart_80 (by decide) ?_
  refine vx_icmp_ne (tgt := 106) h0 dX0_addPart_81 (by decide) (fun c12 => ?_) (fun c12 => ?_)
  · replace hf := (if_neg c12).symm.trans hf
    exact w_vretE hX hf dX0_addPart_106
  · replace hf := (if_pos c12).symm.trans hf
    refine vx_iload_n h0 dX0_addPart_84 rfl ?_
    refine vx_if_lt (tgt := 106) h0 dX0_addPart_85 (by decide) (fun c13 => ?_) (fun c13 => ?_)
    · replace hf := (if_pos c13).symm.trans hf
      exact w_vretE hX hf dX0_addPart_106
    · replace hf := (if_neg c13).symm.trans hf
      refine vx_iload_n h0 dX0_addPart_88 rfl ?_
      refine vx_bipush (v := (16 : Int32)) h0 dX0_addPart_89 (by decide) ?_
      refine vx_icmp_ge (tgt := 106) h0 dX0_addPart_91 (by decide) (fun c14 => ?_) (fun c14 => ?_)
      · replace hf := (if_pos c14).symm.trans hf
        exact w_vretE hX hf dX0_addPart_106
      · replace hf := (if_neg c14).symm.trans hf
        refine vx_aload_n h0 dX0_addPart_94 rfl ?_
        refine xg_2_7 hX q128 dX0_addPart_95 ?_
        refine vx_iload_n h0 dX0_addPart_98 rfl ?_
        refine vx_dup2 h0 dX0_addPart_99 rfl rfl ?_
        obtain ⟨b15, hf⟩ := gd_some hf
        refine xl_7 hX b15 dX0_addPart_100 ?_
        refine vx_iconst (v := (1 : Int32)) h0 dX0_addPart_101 (by decide) ?_
        refine vx_iload_n h0 dX0_addPart_102 rfl ?_
        refine vx_ishl h0 dX0_addPart_103 ?_
        refine vx_ior h0 dX0_addPart_104 ?_
        obtain ⟨b16, hf⟩ := gd_some hf
        refine xs_7 hX b16 dX0_addPart_105 ?_
        generalize (sA σ 27 (upd (gA σ 27) (Int32.toNatClampNeg v3) ((gA σ 27 (Int32.toNatClampNeg v3)) ||| (jshl (1 : Int32) v1)))) = σ17 at hf ⊢
        replace hf := bd_h hf
        exact w_vretE hX hf dX0_addPart_106
def FX0_addPart (σ : SS) (a0 : Int32) (a1 : Int32) (a2 : Int32) : Option (SS) :=
  if (30 : Int32) ≤ (gI σ 21) then some σ
    else if a0 < 0 then some σ
    else if a0 < (gI σ 20) then gd (inb (gI σ 21) 30) (bd (sA σ 29 (upd (gA σ 29) (Int32.toNatClampNeg (gI σ 21)) a1)) (fun σ5 => gd (inb (gI σ5 21) 30) (bd (sA σ5 30 (upd (gA σ5 30) (Int32.toNatClampNeg (gI σ5 21)) a2)) (fun σ7 => gd (inb (gI σ7 21) 30) (bd (sA σ7 31 (upd (gA σ7 31) (Int32.toNatClampNeg (gI σ7 21)) a0)) (fun σ9 => bd (sI σ9 21 ((gI σ9 21) + (1 : Int32))) (fun σ10 => if a1 = (1 : Int32) then gd (inb a0 16) (gd (inb a0 16) (bd (sA σ10 28 (upd (gA σ10 28) (Int32.toNatClampNeg a0) ((gA σ10 28 (Int32.toNatClampNeg a0)) ||| (jshl (1 : Int32) a2)))) (fun σ20 => FX0_addPart_J79 σ20 a0 a1 a2)))
    else FX0_addPart_J79 σ10 a0 a1 a2)))))))
    else some σ
set_option maxRecDepth 100000 in
set_option maxHeartbeats 4000000 in
theorem c_X0_addPart {σ : SS} {a0 : Int32} {a1 : Int32} {a2 : Int32} {σr : SS} (hf : FX0_addPart σ a0 a1 a2 = some σr) : Mcw wsX yX0_addPart cX0_addPart 4 none ({ frames := 0, cells := 0, slots := 0, locals := 0 } : Room) (fun g => [.ref (g.2.1 2), .int a0, .int a1, .int a2]) σ (fun g => none) σr := by
  refine w_enter wsX_fix (by decide) (fun g => Nat.le_of_ble_eq_true rfl) ?_
  intro X g hX
  replace hX : Okw wsX X g cX0_addPart 4 RX0 none ({ frames := 0, cells := 0, slots := 0, locals := 0 } : Room) (fun g => none) σr := hX
  have h0 := hX.1
  show Vx X g.1 4 (wsX g σ) 0 [(0, .ref (g.2.1 2)), (1, .int a0), (2, .int a1), (3, .int a2)] []
  rw [FX0_addPart] at hf
  refine vx_aload_n h0 dX0_addPart_0 rfl ?_
  refine xg_2_1 hX q106 dX0_addPart_1 ?_
  refine vx_bipush (v := (30 : Int32)) h0 dX0_addPart_4 (by decide) ?_
  refine vx_icmp_ge (tgt := 21) h0 dX0_addPart_6 (by decide) (fun c1 => ?_) (fun c1 => ?_)
  · replace hf := (if_pos c1).symm.trans hf
    exact w_vretE hX hf dX0_addPart_21
  · replace hf := (if_neg c1).symm.trans hf
    refine vx_iload_n h0 dX0_addPart_9 rfl ?_
    refine vx_if_lt (tgt := 21) h0 dX0_addPart_10 (by decide) (fun c2 => ?_) (fun c2 => ?_)
    · replace hf := (if_pos c2).symm.trans hf
      exact w_vretE hX hf dX0_addPart_21
    · replace hf := (if_neg c2).symm.trans hf
      refine vx_iload_n h0 dX0_addPart_13 rfl ?_
      refine vx_aload_n h0 dX0_addPart_14 rfl ?_
      refine xg_2_0 hX q100 dX0_addPart_15 ?_
      refine vx_icmp_lt (tgt := 22) h0 dX0_addPart_18 (by decide) (fun c3 => ?_) (fun c3 => ?_)
      · replace hf := (if_pos c3).symm.trans hf
        refine vx_aload_n h0 dX0_addPart_22 rfl ?_
        refine xg_2_9 hX q133 dX0_addPart_23 ?_
        refine vx_aload_n h0 dX0_addPart_26 rfl ?_
        refine xg_2_1 hX q106 dX0_addPart_27 ?_
        refine vx_iload_n h0 dX0_addPart_30 rfl ?_
        obtain ⟨b4, hf⟩ := gd_some hf
        refine xs_9 hX b4 dX0_addPart_31 ?_
        generalize (sA σ 29 (upd (gA σ 29) (Int32.toNatClampNeg (gI σ 21)) a1)) = σ5 at hf ⊢
        replace hf := bd_h hf
        refine vx_aload_n h0 dX0_addPart_32 rfl ?_
        refine xg_2_10 hX q138 dX0_addPart_33 ?_
        refine vx_aload_n h0 dX0_addPart_36 rfl ?_
        refine xg_2_1 hX q106 dX0_addPart_37 ?_
        refine vx_iload_n h0 dX0_addPart_40 rfl ?_
        obtain ⟨b6, hf⟩ := gd_some hf
        refine xs_10 hX b6 dX0_addPart_41 ?_
        generalize (sA σ5 30 (upd (gA σ5 30) (Int32.toNatClampNeg (gI σ5 21)) a2)) = σ7 at hf ⊢
        replace hf := bd_h hf
        refine vx_aload_n h0 dX0_addPart_42 rfl ?_
        refine xg_2_11 hX q143 dX0_addPart_43 ?_
        refine vx_aload_n h0 dX0_addPart_46 rfl ?_
        refine xg_2_1 hX q106 dX0_addPart_47 ?_
        refine vx_iload_n h0 dX0_addPart_50 rfl ?_
        obtain ⟨b8, hf⟩ := gd_some hf
        refine xs_11 hX b8 dX0_addPart_51 ?_
        generalize (sA σ7 31 (upd (gA σ7 31) (Int32.toNatClampNeg (gI σ7 21)) a0)) = σ9 at hf ⊢
        replace hf := bd_h hf
        refine vx_aload_n h0 dX0_addPart_52 rfl ?_
        refine vx_dup h0 dX0_addPart_53 rfl ?_
        refine xg_2_1 hX q106 dX0_addPart_54 ?_
        refine vx_iconst (v := (1 : Int32)) h0 dX0_addPart_57 (by decide) ?_
        refine vx_iadd h0 dX0_addPart_58 ?_
        refine xp_2_1 hX q106 dX0_addPart_59 ?_
        generalize (sI σ9 21 ((gI σ9 21) + (1 : Int32))) = σ10 at hf ⊢
        replace hf := bd_h hf
        refine vx_iload_n h0 dX0_addPart_62 rfl ?_
        refine vx_iconst (v := (1 : Int32)) h0 dX0_addPart_63 (by decide) ?_
        refine vx_icmp_ne (tgt := 79) h0 dX0_addPart_64 (by decide) (fun c11 => ?_) (fun c11 => ?_)
        · replace hf := (if_neg c11).symm.trans hf
          exact PX0_addPart_J79 hX  hf
        · replace hf := (if_pos c11).symm.trans hf
          refine vx_aload_n h0 dX0_addPart_67 rfl ?_
          refine xg_2_8 hX q131 dX0_addPart_68 ?_
          refine vx_iload_n h0 dX0_addPart_71 rfl ?_
          refine vx_dup2 h0 dX0_addPart_72 rfl rfl ?_
          obtain ⟨b18, hf⟩ := gd_some hf
          refine xl_8 hX b18 dX0_addPart_73 ?_
          refine vx_iconst (v := (1 : Int32)) h0 dX0_addPart_74 (by decide) ?_
          refine vx_iload_n h0 dX0_addPart_75 rfl ?_
          refine vx_ishl h0 dX0_addPart_76 ?_
          refine vx_ior h0 dX0_addPart_77 ?_
          obtain ⟨b19, hf⟩ := gd_some hf
          refine xs_8 hX b19 dX0_addPart_78 ?_
          generalize (sA σ10 28 (upd (gA σ10 28) (Int32.toNatClampNeg a0) ((gA σ10 28 (Int32.toNatClampNeg a0)) ||| (jshl (1 : Int32) a2)))) = σ20 at hf ⊢
          replace hf := bd_h hf
          exact PX0_addPart_J79 hX  hf
      · replace hf := (if_neg c3).symm.trans hf
        exact w_vretE hX hf dX0_addPart_21
def FX0_ownerOf (σ : SS) (a0 : Int32) : Option (Int32) :=
  if a0 < 0 then some (-1 : Int32)
    else if (gI σ 41) ≤ a0 then some (-1 : Int32)
    else gd (inb a0 30) (some (gA σ 51 (Int32.toNatClampNeg a0)))
set_option maxRecDepth 100000 in
set_option maxHeartbeats 4000000 in
theorem c_X0_ownerOf {σ : SS} {a0 : Int32} {r : Int32} (hf : FX0_ownerOf σ a0 = some r) : Mcw wsX yX0_ownerOf cX0_ownerOf 2 (some .int) ({ frames := 0, cells := 0, slots := 0, locals := 0 } : Room) (fun g => [.ref (g.2.1 14), .int a0]) σ (fun g => some (.int r)) σ := by
  refine w_enter wsX_fix (by decide) (fun g => Nat.le_of_ble_eq_true rfl) ?_
  intro X g hX
  replace hX : Okw wsX X g cX0_ownerOf 2 RX0 (some .int) ({ frames := 0, cells := 0, slots := 0, locals := 0 } : Room) (fun g => some (.int r)) σ := hX
  have h0 := hX.1
  show Vx X g.1 2 (wsX g σ) 0 [(0, .ref (g.2.1 14)), (1, .int a0)] []
  rw [FX0_ownerOf] at hf
  refine vx_iload_n h0 dX0_ownerOf_0 rfl ?_
  refine vx_if_lt (tgt := 21) h0 dX0_ownerOf_1 (by decide) (fun c1 => ?_) (fun c1 => ?_)
  · replace hf := (if_pos c1).symm.trans hf
    refine vx_iconst (v := (-1 : Int32)) h0 dX0_ownerOf_21 (by decide) ?_
    exact w_iretP hX hf dX0_ownerOf_22
  · replace hf := (if_neg c1).symm.trans hf
    refine vx_iload_n h0 dX0_ownerOf_4 rfl ?_
    refine vx_aload_n h0 dX0_ownerOf_5 rfl ?_
    refine xg_14_1 hX q106 dX0_ownerOf_6 ?_
    refine vx_icmp_ge (tgt := 21) h0 dX0_ownerOf_9 (by decide) (fun c2 => ?_) (fun c2 => ?_)
    · replace hf := (if_pos c2).symm.trans hf
      refine vx_iconst (v := (-1 : Int32)) h0 dX0_ownerOf_21 (by decide) ?_
      exact w_iretP hX hf dX0_ownerOf_22
    · replace hf := (if_neg c2).symm.trans hf
      refine vx_aload_n h0 dX0_ownerOf_12 rfl ?_
      refine xg_14_11 hX q143 dX0_ownerOf_13 ?_
      refine vx_iload_n h0 dX0_ownerOf_16 rfl ?_
      obtain ⟨b3, hf⟩ := gd_some hf
      refine xl_23 hX b3 dX0_ownerOf_17 ?_
      refine vx_goto (tgt := 22) h0 dX0_ownerOf_18 (by decide) ?_
      exact w_iretP hX hf dX0_ownerOf_22
def FX0_within_L4 (σ : SS) (v1 : Int32) (k : Int32 → Option (Int32)) : Nat → Int32 → Int32 → Option (Int32)
  | 0, _, _ => none
  | n + 1, v2, v3 => if (gI σ 40) ≤ v3 then k v2
    else gd (inb v3 16) (if (gA σ 43 (Int32.toNatClampNeg v3)) = v1 then FX0_within_L4 σ v1 k n (v2 ||| (jshl (1 : Int32) v3)) (v3 + (1 : Int32))
    else FX0_within_L4 σ v1 k n v2 (v3 + (1 : Int32)))
set_option maxRecDepth 100000 in
set_option maxHeartbeats 4000000 in
theorem PX0_within_L4 {X : Bx} {g : Gx} {r : Int32} {σ : SS} (hX : Okw wsX X g cX0_within 4 RX0 (some .int) ({ frames := 0, cells := 0, slots := 0, locals := 0 } : Room) (fun g => some (.int r)) σ) {v1 : Int32} {k : Int32 → Option (Int32)} (hk : ∀ (v2 : Int32), k v2 = some r → Vx X g.1 4 (wsX g σ) 34 [(2, .int v2)] []) : ∀ (n : Nat) (v2 : Int32) (v3 : Int32), FX0_within_L4 σ v1 k n v2 v3 = some r → Vx X g.1 4 (wsX g σ) 4 [(0, .ref (g.2.1 14)), (1, .int v1), (2, .int v2), (3, .int v3)] [] := by
  have h0 := hX.1
  intro n
  induction n with
  | zero =>
    intro v2 v3 hf
    rw [FX0_within_L4] at hf
    cases hf
  | succ n ih =>
    intro v2 v3 hf
    rw [FX0_within_L4] at hf
    refine vx_iload_n h0 dX0_within_4 rfl ?_
    refine vx_aload_n h0 dX0_within_5 rfl ?_
    refine xg_14_0 hX q100 dX0_within_6 ?_
    refine vx_icmp_ge (tgt := 34) h0 dX0_within_9 (by decide) (fun c1 => ?_) (fun c1 => ?_)
    · replace hf := (if_pos c1).symm.trans hf
      refine vx_sub [2] rfl ?_
      exact hk _ hf
    · replace hf := (if_neg c1).symm.trans hf
      refine vx_aload_n h0 dX0_within_12 rfl ?_
      refine xg_14_3 hX q115 dX0_within_13 ?_
      refine vx_iload_n h0 dX0_within_16 rfl ?_
      obtain ⟨b2, hf⟩ := gd_some hf
      refine xl_15 hX b2 dX0_within_17 ?_
      refine vx_iload_n h0 dX0_within_18 rfl ?_
      refine vx_icmp_ne (tgt := 28) h0 dX0_within_19 (by decide) (fun c3 => ?_) (fun c3 => ?_)
      · replace hf := (if_neg c3).symm.trans hf
        refine vx_iinc (q := 3) (v := (v3 + (1 : Int32))) (ls' := [(3, .int (v3 + (1 : Int32))), (0, .ref (g.2.1 14)), (1, .int v1), (2, .int v2)]) h0 dX0_within_28 rfl rfl (by decide) rfl ?_
        refine vx_goto (tgt := 4) h0 dX0_within_31 (by decide) ?_
        refine vx_sub [1, 2, 3, 0] rfl ?_
        exact ih _ _ hf
      · replace hf := (if_pos c3).symm.trans hf
        refine vx_iload_n h0 dX0_within_22 rfl ?_
        refine vx_iconst (v := (1 : Int32)) h0 dX0_within_23 (by decide) ?_
        refine vx_iload_n h0 dX0_within_24 rfl ?_
        refine vx_ishl h0 dX0_within_25 ?_
        refine vx_ior h0 dX0_within_26 ?_
        refine vx_istore_n (ls' := [(2, .int (v2 ||| (jshl (1 : Int32) v3))), (0, .ref (g.2.1 14)), (1, .int v1), (3, .int v3)]) h0 dX0_within_27 (by decide) rfl ?_
        refine vx_iinc (q := 3) (v := (v3 + (1 : Int32))) (ls' := [(3, .int (v3 + (1 : Int32))), (2, .int (v2 ||| (jshl (1 : Int32) v3))), (0, .ref (g.2.1 14)), (1, .int v1)]) h0 dX0_within_28 rfl rfl (by decide) rfl ?_
        refine vx_goto (tgt := 4) h0 dX0_within_31 (by decide) ?_
        refine vx_sub [2, 3, 1, 0] rfl ?_
        exact ih _ _ hf
def FX0_within (σ : SS) (a0 : Int32) : Option (Int32) :=
  FX0_within_L4 σ a0 (fun u4 => some u4) 5000 (0 : Int32) (0 : Int32)
set_option maxRecDepth 100000 in
set_option maxHeartbeats 4000000 in
theorem c_X0_within {σ : SS} {a0 : Int32} {r : Int32} (hf : FX0_within σ a0 = some r) : Mcw wsX yX0_within cX0_within 4 (some .int) ({ frames := 0, cells := 0, slots := 0, locals := 0 } : Room) (fun g => [.ref (g.2.1 14), .int a0]) σ (fun g => some (.int r)) σ := by
  refine w_enter wsX_fix (by decide) (fun g => Nat.le_of_ble_eq_true rfl) ?_
  intro X g hX
  replace hX : Okw wsX X g cX0_within 4 RX0 (some .int) ({ frames := 0, cells := 0, slots := 0, locals := 0 } : Room) (fun g => some (.int r)) σ := hX
  have h0 := hX.1
  show Vx X g.1 4 (wsX g σ) 0 [(0, .ref (g.2.1 14)), (1, .int a0)] []
  rw [FX0_within] at hf
  refine vx_iconst (v := (0 : Int32)) h0 dX0_within_0 (by decide) ?_
  refine vx_istore_n (ls' := [(2, .int (0 : Int32)), (0, .ref (g.2.1 14)), (1, .int a0)]) h0 dX0_within_1 (by decide) rfl ?_
  refine vx_iconst (v := (0 : Int32)) h0 dX0_within_2 (by decide) ?_
  refine vx_istore_n (ls' := [(3, .int (0 : Int32)), (2, .int (0 : Int32)), (0, .ref (g.2.1 14)), (1, .int a0)]) h0 dX0_within_3 (by decide) rfl ?_
  refine vx_sub [2, 3, 1, 0] rfl ?_
  refine PX0_within_L4 hX (fun u4 hf => ?_) _ _ _ hf
  refine vx_iload_n h0 dX0_within_34 rfl ?_
  exact w_iretP hX hf dX0_within_35
def FX0_countOwnParts_L4 (σ : SS) (v1 : Int32) (k : Int32 → Option (Int32)) : Nat → Int32 → Int32 → Option (Int32)
  | 0, _, _ => none
  | n + 1, v2, v3 => if (gI σ 41) ≤ v3 then k v2
    else gd (inb v3 30) (if (gA σ 51 (Int32.toNatClampNeg v3)) = v1 then FX0_countOwnParts_L4 σ v1 k n (v2 + (1 : Int32)) (v3 + (1 : Int32))
    else FX0_countOwnParts_L4 σ v1 k n v2 (v3 + (1 : Int32)))
set_option maxRecDepth 100000 in
set_option maxHeartbeats 4000000 in
theorem PX0_countOwnParts_L4 {X : Bx} {g : Gx} {r : Int32} {σ : SS} (hX : Okw wsX X g cX0_countOwnParts 4 RX0 (some .int) ({ frames := 0, cells := 0, slots := 0, locals := 0 } : Room) (fun g => some (.int r)) σ) {v1 : Int32} {k : Int32 → Option (Int32)} (hk : ∀ (v2 : Int32), k v2 = some r → Vx X g.1 4 (wsX g σ) 31 [(2, .int v2)] []) : ∀ (n : Nat) (v2 : Int32) (v3 : Int32), FX0_countOwnParts_L4 σ v1 k n v2 v3 = some r → Vx X g.1 4 (wsX g σ) 4 [(0, .ref (g.2.1 14)), (1, .int v1), (2, .int v2), (3, .int v3)] [] := by
  have h0 := hX.1
  intro n
  induction n with
  | zero =>
    intro v2 v3 hf
    rw [FX0_countOwnParts_L4] at hf
    cases hf
  | succ n ih =>
    intro v2 v3 hf
    rw [FX0_countOwnParts_L4] at hf
    refine vx_iload_n h0 dX0_countOwnParts_4 rfl ?_
    refine vx_aload_n h0 dX0_countOwnParts_5 rfl ?_
    refine xg_14_1 hX q106 dX0_countOwnParts_6 ?_
    refine vx_icmp_ge (tgt := 31) h0 dX0_countOwnParts_9 (by decide) (fun c1 => ?_) (fun c1 => ?_)
    · replace hf := (if_pos c1).symm.trans hf
      refine vx_sub [2] rfl ?_
      exact hk _ hf
    · replace hf := (if_neg c1).symm.trans hf
      refine vx_aload_n h0 dX0_countOwnParts_12 rfl ?_
      refine xg_14_11 hX q143 dX0_countOwnParts_13 ?_
      refine vx_iload_n h0 dX0_countOwnParts_16 rfl ?_
      obtain ⟨b2, hf⟩ := gd_some hf
      refine xl_23 hX b2 dX0_countOwnParts_17 ?_
      refine vx_iload_n h0 dX0_countOwnParts_18 rfl ?_
      refine vx_icmp_ne (tgt := 25) h0 dX0_countOwnParts_19 (by decide) (fun c3 => ?_) (fun c3 => ?_)
      · replace hf := (if_neg c3).symm.trans hf
        refine vx_iinc (q := 3) (v := (v3 + (1 : Int32))) (ls' := [(3, .int (v3 + (1 : Int32))), (0, .ref (g.2.1 14)), (1, .int v1), (2, .int v2)]) h0 dX0_countOwnParts_25 rfl rfl (by decide) rfl ?_
        refine vx_goto (tgt := 4) h0 dX0_countOwnParts_28 (by decide) ?_
        refine vx_sub [1, 2, 3, 0] rfl ?_
        exact ih _ _ hf
      · replace hf := (if_pos c3).symm.trans hf
        refine vx_iinc (q := 2) (v := (v2 + (1 : Int32))) (ls' := [(2, .int (v2 + (1 : Int32))), (0, .ref (g.2.1 14)), (1, .int v1), (3, .int v3)]) h0 dX0_countOwnParts_22 rfl rfl (by decide) rfl ?_
        refine vx_iinc (q := 3) (v := (v3 + (1 : Int32))) (ls' := [(3, .int (v3 + (1 : Int32))), (2, .int (v2 + (1 : Int32))), (0, .ref (g.2.1 14)), (1, .int v1)]) h0 dX0_countOwnParts_25 rfl rfl (by decide) rfl ?_
        refine vx_goto (tgt := 4) h0 dX0_countOwnParts_28 (by decide) ?_
        refine vx_sub [2, 3, 1, 0] rfl ?_
        exact ih _ _ hf
def FX0_countOwnParts (σ : SS) (a0 : Int32) : Option (Int32) :=
  FX0_countOwnParts_L4 σ a0 (fun u4 => some u4) 5000 (0 : Int32) (0 : Int32)
set_option maxRecDepth 100000 in
set_option maxHeartbeats 4000000 in
theorem c_X0_countOwnParts {σ : SS} {a0 : Int32} {r : Int32} (hf : FX0_countOwnParts σ a0 = some r) : Mcw wsX yX0_countOwnParts cX0_countOwnParts 4 (some .int) ({ frames := 0, cells := 0, slots := 0, locals := 0 } : Room) (fun g => [.ref (g.2.1 14), .int a0]) σ (fun g => some (.int r)) σ := by
  refine w_enter wsX_fix (by decide) (fun g => Nat.le_of_ble_eq_true rfl) ?_
  intro X g hX
  replace hX : Okw wsX X g cX0_countOwnParts 4 RX0 (some .int) ({ frames := 0, cells := 0, slots := 0, locals := 0 } : Room) (fun g => some (.int r)) σ := hX
  have h0 := hX.1
  show Vx X g.1 4 (wsX g σ) 0 [(0, .ref (g.2.1 14)), (1, .int a0)] []
  rw [FX0_countOwnParts] at hf
  refine vx_iconst (v := (0 : Int32)) h0 dX0_countOwnParts_0 (by decide) ?_
  refine vx_istore_n (ls' := [(2, .int (0 : Int32)), (0, .ref (g.2.1 14)), (1, .int a0)]) h0 dX0_countOwnParts_1 (by decide) rfl ?_
  refine vx_iconst (v := (0 : Int32)) h0 dX0_countOwnParts_2 (by decide) ?_
  refine vx_istore_n (ls' := [(3, .int (0 : Int32)), (2, .int (0 : Int32)), (0, .ref (g.2.1 14)), (1, .int a0)]) h0 dX0_countOwnParts_3 (by decide) rfl ?_
  refine vx_sub [2, 3, 1, 0] rfl ?_
  refine PX0_countOwnParts_L4 hX (fun u4 hf => ?_) _ _ _ hf
  refine vx_iload_n h0 dX0_countOwnParts_31 rfl ?_
  exact w_iretP hX hf dX0_countOwnParts_32
def FX0_ownPart_L5 (σ : SS) (v1 : Int32) (v2 : Int32) (k : Option (Int32)) : Nat → Int32 → Int32 → Option (Int32)
  | 0, _, _ => none
  | n + 1, v3, v4 => if (gI σ 41) ≤ v4 then k
    else gd (inb v4 30) (if (gA σ 51 (Int32.toNatClampNeg v4)) = v1 then if v3 = v2 then some v4
    else FX0_ownPart_L5 σ v1 v2 k n (v3 + (1 : Int32)) (v4 + (1 : Int32))
    else FX0_ownPart_L5 σ v1 v2 k n v3 (v4 + (1 : Int32)))
set_option maxRecDepth 100000 in
set_option maxHeartbeats 4000000 in
theorem PX0_ownPart_L5 {X : Bx} {g : Gx} {r : Int32} {σ : SS} (hX : Okw wsX X g cX0_ownPart 5 RX0 (some .int) ({ frames := 0, cells := 0, slots := 0, locals := 0 } : Room) (fun g => some (.int r)) σ) {v1 : Int32} {v2 : Int32} {k : Option (Int32)} (hk : k = some r → Vx X g.1 5 (wsX g σ) 42 [] []) : ∀ (n : Nat) (v3 : Int32) (v4 : Int32), FX0_ownPart_L5 σ v1 v2 k n v3 v4 = some r → Vx X g.1 5 (wsX g σ) 5 [(0, .ref (g.2.1 14)), (1, .int v1), (2, .int v2), (3, .int v3), (4, .int v4)] [] := by
  have h0 := hX.1
  intro n
  induction n with
  | zero =>
    intro v3 v4 hf
    rw [FX0_ownPart_L5] at hf
    cases hf
  | succ n ih =>
    intro v3 v4 hf
    rw [FX0_ownPart_L5] at hf
    refine vx_iload h0 dX0_ownPart_5 rfl ?_
    refine vx_aload_n h0 dX0_ownPart_7 rfl ?_
    refine xg_14_1 hX q106 dX0_ownPart_8 ?_
    refine vx_icmp_ge (tgt := 42) h0 dX0_ownPart_11 (by decide) (fun c1 => ?_) (fun c1 => ?_)
    · replace hf := (if_pos c1).symm.trans hf
      refine vx_sub [] rfl ?_
      exact hk hf
    · replace hf := (if_neg c1).symm.trans hf
      refine vx_aload_n h0 dX0_ownPart_14 rfl ?_
      refine xg_14_11 hX q143 dX0_ownPart_15 ?_
      refine vx_iload h0 dX0_ownPart_18 rfl ?_
      obtain ⟨b2, hf⟩ := gd_some hf
      refine xl_23 hX b2 dX0_ownPart_20 ?_
      refine vx_iload_n h0 dX0_ownPart_21 rfl ?_
      refine vx_icmp_ne (tgt := 36) h0 dX0_ownPart_22 (by decide) (fun c3 => ?_) (fun c3 => ?_)
      · replace hf := (if_neg c3).symm.trans hf
        refine vx_iinc (q := 4) (v := (v4 + (1 : Int32))) (ls' := [(4, .int (v4 + (1 : Int32))), (0, .ref (g.2.1 14)), (1, .int v1), (2, .int v2), (3, .int v3)]) h0 dX0_ownPart_36 rfl rfl (by decide) rfl ?_
        refine vx_goto (tgt := 5) h0 dX0_ownPart_39 (by decide) ?_
        refine vx_sub [1, 2, 3, 4, 0] rfl ?_
        exact ih _ _ hf
      · replace hf := (if_pos c3).symm.trans hf
        refine vx_iload_n h0 dX0_ownPart_25 rfl ?_
        refine vx_iload_n h0 dX0_ownPart_26 rfl ?_
        refine vx_icmp_ne (tgt := 33) h0 dX0_ownPart_27 (by decide) (fun c4 => ?_) (fun c4 => ?_)
        · replace hf := (if_neg c4).symm.trans hf
          refine vx_iinc (q := 3) (v := (v3 + (1 : Int32))) (ls' := [(3, .int (v3 + (1 : Int32))), (0, .ref (g.2.1 14)), (1, .int v1), (2, .int v2), (4, .int v4)]) h0 dX0_ownPart_33 rfl rfl (by decide) rfl ?_
          refine vx_iinc (q := 4) (v := (v4 + (1 : Int32))) (ls' := [(4, .int (v4 + (1 : Int32))), (3, .int (v3 + (1 : Int32))), (0, .ref (g.2.1 14)), (1, .int v1), (2, .int v2)]) h0 dX0_ownPart_36 rfl rfl (by decide) rfl ?_
          refine vx_goto (tgt := 5) h0 dX0_ownPart_39 (by decide) ?_
          refine vx_sub [2, 3, 4, 1, 0] rfl ?_
          exact ih _ _ hf
        · replace hf := (if_pos c4).symm.trans hf
          refine vx_iload h0 dX0_ownPart_30 rfl ?_
          exact w_iretP hX hf dX0_ownPart_32
def FX0_ownPart (σ : SS) (a0 : Int32) (a1 : Int32) : Option (Int32) :=
  FX0_ownPart_L5 σ a0 a1 (some (-1 : Int32)) 5000 (0 : Int32) (0 : Int32)
set_option maxRecDepth 100000 in
set_option maxHeartbeats 4000000 in
theorem c_X0_ownPart {σ : SS} {a0 : Int32} {a1 : Int32} {r : Int32} (hf : FX0_ownPart σ a0 a1 = some r) : Mcw wsX yX0_ownPart cX0_ownPart 5 (some .int) ({ frames := 0, cells := 0, slots := 0, locals := 0 } : Room) (fun g => [.ref (g.2.1 14), .int a0, .int a1]) σ (fun g => some (.int r)) σ := by
  refine w_enter wsX_fix (by decide) (fun g => Nat.le_of_ble_eq_true rfl) ?_
  intro X g hX
  replace hX : Okw wsX X g cX0_ownPart 5 RX0 (some .int) ({ frames := 0, cells := 0, slots := 0, locals := 0 } : Room) (fun g => some (.int r)) σ := hX
  have h0 := hX.1
  show Vx X g.1 5 (wsX g σ) 0 [(0, .ref (g.2.1 14)), (1, .int a0), (2, .int a1)] []
  rw [FX0_ownPart] at hf
  refine vx_iconst (v := (0 : Int32)) h0 dX0_ownPart_0 (by decide) ?_
  refine vx_istore_n (ls' := [(3, .int (0 : Int32)), (0, .ref (g.2.1 14)), (1, .int a0), (2, .int a1)]) h0 dX0_ownPart_1 (by decide) rfl ?_
  refine vx_iconst (v := (0 : Int32)) h0 dX0_ownPart_2 (by decide) ?_
  refine vx_istore (ls' := [(4, .int (0 : Int32)), (3, .int (0 : Int32)), (0, .ref (g.2.1 14)), (1, .int a0), (2, .int a1)]) h0 dX0_ownPart_3 (by decide) rfl ?_
  refine vx_sub [2, 3, 4, 1, 0] rfl ?_
  refine PX0_ownPart_L5 hX (fun hf => ?_) _ _ _ hf
  refine vx_iconst (v := (-1 : Int32)) h0 dX0_ownPart_42 (by decide) ?_
  exact w_iretP hX hf dX0_ownPart_43
def FX7_agreeing_L7 (σ : SS) (v0 : Int32) (v1 : Int32) (k : Int64 → Option (Int64)) : Nat → Int64 → Int32 → Option (Int64)
  | 0, _, _ => none
  | n + 1, v2, v4 => if (6 : Int32) ≤ v4 then k v2
    else if (v0 &&& (jshl (1 : Int32) v4)) = 0 then FX7_agreeing_L7 σ v0 v1 k n v2 (v4 + (1 : Int32))
    else if (v1 &&& (jshl (1 : Int32) v4)) = 0 then gd (inb v4 6) (bd (v2 &&& ((yesT (Int32.toNatClampNeg v4)) ^^^ (-1 : Int64))) (fun x5 => FX7_agreeing_L7 σ v0 v1 k n x5 (v4 + (1 : Int32))))
    else gd (inb v4 6) (FX7_agreeing_L7 σ v0 v1 k n (v2 &&& (yesT (Int32.toNatClampNeg v4))) (v4 + (1 : Int32)))
set_option maxRecDepth 100000 in
set_option maxHeartbeats 4000000 in
theorem PX7_agreeing_L7 {X : Bx} {g : Gx} {r : Int64} {σ : SS} (hX : Okw wsX X g cX7_agreeing 6 RX7 (some .long) ({ frames := 0, cells := 0, slots := 0, locals := 0 } : Room) (fun g => some (.long r)) σ) {v0 : Int32} {v1 : Int32} {k : Int64 → Option (Int64)} (hk : ∀ (v2 : Int64), k v2 = some r → Vx X g.1 6 (wsX g σ) 62 [(2, .long v2)] []) : ∀ (n : Nat) (v2 : Int64) (v4 : Int32), FX7_agreeing_L7 σ v0 v1 k n v2 v4 = some r → Vx X g.1 6 (wsX g σ) 7 [(0, .int v0), (1, .int v1), (2, .long v2), (4, .int v4)] [] := by
  have h0 := hX.1
  intro n
  induction n with
  | zero =>
    intro v2 v4 hf
    rw [FX7_agreeing_L7] at hf
    cases hf
  | succ n ih =>
    intro v2 v4 hf
    rw [FX7_agreeing_L7] at hf
    refine vx_iload h0 dX7_agreeing_7 rfl ?_
    refine vx_bipush (v := (6 : Int32)) h0 dX7_agreeing_9 (by decide) ?_
    refine vx_icmp_ge (tgt := 62) h0 dX7_agreeing_11 (by decide) (fun c1 => ?_) (fun c1 => ?_)
    · replace hf := (if_pos c1).symm.trans hf
      refine vx_sub [2] rfl ?_
      exact hk _ hf
    · replace hf := (if_neg c1).symm.trans hf
      refine vx_iconst (v := (1 : Int32)) h0 dX7_agreeing_14 (by decide) ?_
      refine vx_iload h0 dX7_agreeing_15 rfl ?_
      refine vx_ishl h0 dX7_agreeing_17 ?_
      refine vx_istore (ls' := [(5, .int (jshl (1 : Int32) v4)), (0, .int v0), (1, .int v1), (2, .long v2), (4, .int v4)]) h0 dX7_agreeing_18 (by decide) rfl ?_
      refine vx_iload_n h0 dX7_agreeing_20 rfl ?_
      refine vx_iload h0 dX7_agreeing_21 rfl ?_
      refine vx_iand h0 dX7_agreeing_23 ?_
      refine vx_if_eq (tgt := 56) h0 dX7_agreeing_24 (by decide) (fun c2 => ?_) (fun c2 => ?_)
      · replace hf := (if_pos c2).symm.trans hf
        refine vx_iinc (q := 4) (v := (v4 + (1 : Int32))) (ls' := [(4, .int (v4 + (1 : Int32))), (5, .int (jshl (1 : Int32) v4)), (0, .int v0), (1, .int v1), (2, .long v2)]) h0 dX7_agreeing_56 rfl rfl (by decide) rfl ?_
        refine vx_goto (tgt := 7) h0 dX7_agreeing_59 (by decide) ?_
        refine vx_sub [2, 3, 4, 0] rfl ?_
        exact ih _ _ hf
      · replace hf := (if_neg c2).symm.trans hf
        refine vx_lload_n h0 dX7_agreeing_27 rfl ?_
        refine vx_iload_n h0 dX7_agreeing_28 rfl ?_
        refine vx_iload h0 dX7_agreeing_29 rfl ?_
        refine vx_iand h0 dX7_agreeing_31 ?_
        refine vx_if_eq (tgt := 44) h0 dX7_agreeing_32 (by decide) (fun c3 => ?_) (fun c3 => ?_)
        · replace hf := (if_pos c3).symm.trans hf
          refine w_gets hX q445 dX7_agreeing_44 ?_
          refine vx_iload h0 dX7_agreeing_47 rfl ?_
          obtain ⟨b4, hf⟩ := gd_some hf
          refine w_tl hX b4 dX7_agreeing_49 ?_
          refine vx_ldc2 h0 q444 dX7_agreeing_50 ?_
          refine vx_lxor h0 dX7_agreeing_53 ?_
          refine vx_land h0 dX7_agreeing_54 ?_
          generalize (v2 &&& ((yesT (Int32.toNatClampNeg v4)) ^^^ (-1 : Int64))) = x5 at hf ⊢
          replace hf := bd_h hf
          refine vx_lstore_n (ls' := [(2, .long x5), (5, .int (jshl (1 : Int32) v4)), (0, .int v0), (1, .int v1), (4, .int v4)]) h0 dX7_agreeing_55 (by decide) rfl ?_
          refine vx_iinc (q := 4) (v := (v4 + (1 : Int32))) (ls' := [(4, .int (v4 + (1 : Int32))), (2, .long x5), (5, .int (jshl (1 : Int32) v4)), (0, .int v0), (1, .int v1)]) h0 dX7_agreeing_56 rfl rfl (by decide) rfl ?_
          refine vx_goto (tgt := 7) h0 dX7_agreeing_59 (by decide) ?_
          refine vx_sub [3, 4, 1, 0] rfl ?_
          exact ih _ _ hf
        · replace hf := (if_neg c3).symm.trans hf
          refine w_gets hX q445 dX7_agreeing_35 ?_
          refine vx_iload h0 dX7_agreeing_38 rfl ?_
          obtain ⟨b6, hf⟩ := gd_some hf
          refine w_tl hX b6 dX7_agreeing_40 ?_
          refine vx_goto (tgt := 54) h0 dX7_agreeing_41 (by decide) ?_
          refine vx_land h0 dX7_agreeing_54 ?_
          refine vx_lstore_n (ls' := [(2, .long (v2 &&& (yesT (Int32.toNatClampNeg v4)))), (5, .int (jshl (1 : Int32) v4)), (0, .int v0), (1, .int v1), (4, .int v4)]) h0 dX7_agreeing_55 (by decide) rfl ?_
          refine vx_iinc (q := 4) (v := (v4 + (1 : Int32))) (ls' := [(4, .int (v4 + (1 : Int32))), (2, .long (v2 &&& (yesT (Int32.toNatClampNeg v4)))), (5, .int (jshl (1 : Int32) v4)), (0, .int v0), (1, .int v1)]) h0 dX7_agreeing_56 rfl rfl (by decide) rfl ?_
          refine vx_goto (tgt := 7) h0 dX7_agreeing_59 (by decide) ?_
          refine vx_sub [3, 4, 1, 0] rfl ?_
          exact ih _ _ hf
def FX7_agreeing (σ : SS) (a0 : Int32) (a1 : Int32) : Option (Int64) :=
  FX7_agreeing_L7 σ a0 a1 (fun u7 => some u7) 5000 (-1 : Int64) (0 : Int32)
set_option maxRecDepth 100000 in
set_option maxHeartbeats 4000000 in
theorem c_X7_agreeing {σ : SS} {a0 : Int32} {a1 : Int32} {r : Int64} (hf : FX7_agreeing σ a0 a1 = some r) : Mcw wsX yX7_agreeing cX7_agreeing 6 (some .long) ({ frames := 0, cells := 0, slots := 0, locals := 0 } : Room) (fun g => [.int a0, .int a1]) σ (fun g => some (.long r)) σ := by
  refine w_enter wsX_fix (by decide) (fun g => Nat.le_of_ble_eq_true rfl) ?_
  intro X g hX
  replace hX : Okw wsX X g cX7_agreeing 6 RX7 (some .long) ({ frames := 0, cells := 0, slots := 0, locals := 0 } : Room) (fun g => some (.long r)) σ := hX
  have h0 := hX.1
  show Vx X g.1 6 (wsX g σ) 0 [(0, .int a0), (1, .int a1)] []
  rw [FX7_agreeing] at hf
  refine vx_ldc2 h0 q444 dX7_agreeing_0 ?_
  refine vx_lstore_n (ls' := [(2, .long (-1 : Int64)), (0, .int a0), (1, .int a1)]) h0 dX7_agreeing_3 (by decide) rfl ?_
  refine vx_iconst (v := (0 : Int32)) h0 dX7_agreeing_4 (by decide) ?_
  refine vx_istore (ls' := [(4, .int (0 : Int32)), (2, .long (-1 : Int64)), (0, .int a0), (1, .int a1)]) h0 dX7_agreeing_5 (by decide) rfl ?_
  refine vx_sub [2, 3, 1, 0] rfl ?_
  refine PX7_agreeing_L7 hX (fun u7 hf => ?_) _ _ _ hf
  refine vx_lload_n h0 dX7_agreeing_62 rfl ?_
  exact w_lretP hX hf dX7_agreeing_63
def FX0_holds (σ : SS) (a0 : Int32) : Option (Int64) :=
  gd (inb a0 16) (gd (inb a0 16) (gd (inb a0 16) (ob (FX7_agreeing σ ((gA σ 45 (Int32.toNatClampNeg a0)) ||| (gA σ 46 (Int32.toNatClampNeg a0))) (gA σ 45 (Int32.toNatClampNeg a0))) (fun r5 => some r5))))
set_option maxRecDepth 100000 in
set_option maxHeartbeats 4000000 in
theorem c_X0_holds {σ : SS} {a0 : Int32} {r : Int64} (hf : FX0_holds σ a0 = some r) : Mcw wsX yX0_holds cX0_holds 2 (some .long) ({ frames := 1, cells := 0, slots := 0, locals := 25 } : Room) (fun g => [.ref (g.2.1 14), .int a0]) σ (fun g => some (.long r)) σ := by
  refine w_enter wsX_fix (by decide) (fun g => Nat.le_of_ble_eq_true rfl) ?_
  intro X g hX
  replace hX : Okw wsX X g cX0_holds 2 RX0 (some .long) ({ frames := 1, cells := 0, slots := 0, locals := 25 } : Room) (fun g => some (.long r)) σ := hX
  have h0 := hX.1
  show Vx X g.1 2 (wsX g σ) 0 [(0, .ref (g.2.1 14)), (1, .int a0)] []
  rw [FX0_holds] at hf
  refine vx_aload_n h0 dX0_holds_0 rfl ?_
  refine xg_14_5 hX q122 dX0_holds_1 ?_
  refine vx_iload_n h0 dX0_holds_4 rfl ?_
  obtain ⟨b1, hf⟩ := gd_some hf
  refine xl_17 hX b1 dX0_holds_5 ?_
  refine vx_aload_n h0 dX0_holds_6 rfl ?_
  refine xg_14_6 hX q125 dX0_holds_7 ?_
  refine vx_iload_n h0 dX0_holds_10 rfl ?_
  obtain ⟨b2, hf⟩ := gd_some hf
  refine xl_18 hX b2 dX0_holds_11 ?_
  refine vx_ior h0 dX0_holds_12 ?_
  refine vx_aload_n h0 dX0_holds_13 rfl ?_
  refine xg_14_5 hX q122 dX0_holds_14 ?_
  refine vx_iload_n h0 dX0_holds_17 rfl ?_
  obtain ⟨b3, hf⟩ := gd_some hf
  refine xl_17 hX b3 dX0_holds_18 ?_
  obtain ⟨r5, h4, hf⟩ := ob_some hf
  refine w_callSN (st := []) hX (c_X7_agreeing h4) ce_X7_agreeing q441 ⟨rfl, rfl⟩ ⟨by decide, by decide⟩ rfl rfl rfl (Nat.le_of_ble_eq_true rfl) dX0_holds_19 ?_
  show Vx X g.1 2 (wsX g σ) 22 [(0, .ref (g.2.1 14)), (1, .int a0)] [.long r5]
  exact w_lretP hX hf dX0_holds_22
def FX0_aroundAt_L5 (σ : SS) (v2 : Int32) (k : Int32 → Option (Int32)) : Nat → Int32 → Int32 → Option (Int32)
  | 0, _, _ => none
  | n + 1, v3, v4 => if (16 : Int32) ≤ v4 then k v3
    else if v3 < 0 then k v3
    else if (gI σ 40) ≤ v3 then k v3
    else gd (inb v3 16) (if (gA σ 44 (Int32.toNatClampNeg v3)) ≤ v2 then k v3
    else gd (inb v3 16) (FX0_aroundAt_L5 σ v2 k n (gA σ 43 (Int32.toNatClampNeg v3)) (v4 + (1 : Int32))))
set_option maxRecDepth 100000 in
set_option maxHeartbeats 4000000 in
theorem PX0_aroundAt_L5 {X : Bx} {g : Gx} {r : Int32} {σ : SS} (hX : Okw wsX X g cX0_aroundAt 5 RX0 (some .int) ({ frames := 0, cells := 0, slots := 0, locals := 0 } : Room) (fun g => some (.int r)) σ) {v2 : Int32} {k : Int32 → Option (Int32)} (hk : ∀ (v3 : Int32), k v3 = some r → Vx X g.1 5 (wsX g σ) 47 [(3, .int v3)] []) : ∀ (n : Nat) (v3 : Int32) (v4 : Int32), FX0_aroundAt_L5 σ v2 k n v3 v4 = some r → Vx X g.1 5 (wsX g σ) 5 [(0, .ref (g.2.1 14)), (2, .int v2), (3, .int v3), (4, .int v4)] [] := by
  have h0 := hX.1
  intro n
  induction n with
  | zero =>
    intro v3 v4 hf
    rw [FX0_aroundAt_L5] at hf
    cases hf
  | succ n ih =>
    intro v3 v4 hf
    rw [FX0_aroundAt_L5] at hf
    refine vx_iload h0 dX0_aroundAt_5 rfl ?_
    refine vx_bipush (v := (16 : Int32)) h0 dX0_aroundAt_7 (by decide) ?_
    refine vx_icmp_ge (tgt := 47) h0 dX0_aroundAt_9 (by decide) (fun c1 => ?_) (fun c1 => ?_)
    · replace hf := (if_pos c1).symm.trans hf
      refine vx_sub [2] rfl ?_
      exact hk _ hf
    · replace hf := (if_neg c1).symm.trans hf
      refine vx_iload_n h0 dX0_aroundAt_12 rfl ?_
      refine vx_if_lt (tgt := 47) h0 dX0_aroundAt_13 (by decide) (fun c2 => ?_) (fun c2 => ?_)
      · replace hf := (if_pos c2).symm.trans hf
        refine vx_sub [2] rfl ?_
        exact hk _ hf
      · replace hf := (if_neg c2).symm.trans hf
        refine vx_iload_n h0 dX0_aroundAt_16 rfl ?_
        refine vx_aload_n h0 dX0_aroundAt_17 rfl ?_
        refine xg_14_0 hX q100 dX0_aroundAt_18 ?_
        refine vx_icmp_ge (tgt := 47) h0 dX0_aroundAt_21 (by decide) (fun c3 => ?_) (fun c3 => ?_)
        · replace hf := (if_pos c3).symm.trans hf
          refine vx_sub [2] rfl ?_
          exact hk _ hf
        · replace hf := (if_neg c3).symm.trans hf
          refine vx_aload_n h0 dX0_aroundAt_24 rfl ?_
          refine xg_14_4 hX q119 dX0_aroundAt_25 ?_
          refine vx_iload_n h0 dX0_aroundAt_28 rfl ?_
          obtain ⟨b4, hf⟩ := gd_some hf
          refine xl_16 hX b4 dX0_aroundAt_29 ?_
          refine vx_iload_n h0 dX0_aroundAt_30 rfl ?_
          refine vx_icmp_le (tgt := 47) h0 dX0_aroundAt_31 (by decide) (fun c5 => ?_) (fun c5 => ?_)
          · replace hf := (if_pos c5).symm.trans hf
            refine vx_sub [2] rfl ?_
            exact hk _ hf
          · replace hf := (if_neg c5).symm.trans hf
            refine vx_aload_n h0 dX0_aroundAt_34 rfl ?_
            refine xg_14_3 hX q115 dX0_aroundAt_35 ?_
            refine vx_iload_n h0 dX0_aroundAt_38 rfl ?_
            obtain ⟨b6, hf⟩ := gd_some hf
            refine xl_15 hX b6 dX0_aroundAt_39 ?_
            refine vx_istore_n (ls' := [(3, .int (gA σ 43 (Int32.toNatClampNeg v3))), (0, .ref (g.2.1 14)), (2, .int v2), (4, .int v4)]) h0 dX0_aroundAt_40 (by decide) rfl ?_
            refine vx_iinc (q := 3) (v := (v4 + (1 : Int32))) (ls' := [(4, .int (v4 + (1 : Int32))), (3, .int (gA σ 43 (Int32.toNatClampNeg v3))), (0, .ref (g.2.1 14)), (2, .int v2)]) h0 dX0_aroundAt_41 rfl rfl (by decide) rfl ?_
            refine vx_goto (tgt := 5) h0 dX0_aroundAt_44 (by decide) ?_
            refine vx_sub [2, 3, 1, 0] rfl ?_
            exact ih _ _ hf
def FX0_aroundAt (σ : SS) (a0 : Int32) (a1 : Int32) : Option (Int32) :=
  FX0_aroundAt_L5 σ a1 (fun u7 => some u7) 5000 a0 (0 : Int32)
set_option maxRecDepth 100000 in
set_option maxHeartbeats 4000000 in
theorem c_X0_aroundAt {σ : SS} {a0 : Int32} {a1 : Int32} {r : Int32} (hf : FX0_aroundAt σ a0 a1 = some r) : Mcw wsX yX0_aroundAt cX0_aroundAt 5 (some .int) ({ frames := 0, cells := 0, slots := 0, locals := 0 } : Room) (fun g => [.ref (g.2.1 14), .int a0, .int a1]) σ (fun g => some (.int r)) σ := by
  refine w_enter wsX_fix (by decide) (fun g => Nat.le_of_ble_eq_true rfl) ?_
  intro X g hX
  replace hX : Okw wsX X g cX0_aroundAt 5 RX0 (some .int) ({ frames := 0, cells := 0, slots := 0, locals := 0 } : Room) (fun g => some (.int r)) σ := hX
  have h0 := hX.1
  show Vx X g.1 5 (wsX g σ) 0 [(0, .ref (g.2.1 14)), (1, .int a0), (2, .int a1)] []
  rw [FX0_aroundAt] at hf
  refine vx_iload_n h0 dX0_aroundAt_0 rfl ?_
  refine vx_istore_n (ls' := [(3, .int a0), (0, .ref (g.2.1 14)), (1, .int a0), (2, .int a1)]) h0 dX0_aroundAt_1 (by decide) rfl ?_
  refine vx_iconst (v := (0 : Int32)) h0 dX0_aroundAt_2 (by decide) ?_
  refine vx_istore (ls' := [(4, .int (0 : Int32)), (3, .int a0), (0, .ref (g.2.1 14)), (1, .int a0), (2, .int a1)]) h0 dX0_aroundAt_3 (by decide) rfl ?_
  refine vx_sub [2, 4, 1, 0] rfl ?_
  refine PX0_aroundAt_L5 hX (fun u7 hf => ?_) _ _ _ hf
  refine vx_iload_n h0 dX0_aroundAt_47 rfl ?_
  exact w_iretP hX hf dX0_aroundAt_48
def FX7_has (σ : SS) (a0 : Int32) (a1 : Int32) : Option (Int32) :=
  if ((jushr a0 a1) &&& (1 : Int32)) = 0 then some (0 : Int32)
    else some (1 : Int32)
set_option maxRecDepth 100000 in
set_option maxHeartbeats 4000000 in
theorem c_X7_has {σ : SS} {a0 : Int32} {a1 : Int32} {r : Int32} (hf : FX7_has σ a0 a1 = some r) : Mcw wsX yX7_has cX7_has 2 (some .boolean) ({ frames := 0, cells := 0, slots := 0, locals := 0 } : Room) (fun g => [.int a0, .int a1]) σ (fun g => some (.int r)) σ := by
  refine w_enter wsX_fix (by decide) (fun g => Nat.le_of_ble_eq_true rfl) ?_
  intro X g hX
  replace hX : Okw wsX X g cX7_has 2 RX7 (some .boolean) ({ frames := 0, cells := 0, slots := 0, locals := 0 } : Room) (fun g => some (.int r)) σ := hX
  have h0 := hX.1
  show Vx X g.1 2 (wsX g σ) 0 [(0, .int a0), (1, .int a1)] []
  rw [FX7_has] at hf
  refine vx_iload_n h0 dX7_has_0 rfl ?_
  refine vx_iload_n h0 dX7_has_1 rfl ?_
  refine vx_iushr h0 dX7_has_2 ?_
  refine vx_iconst (v := (1 : Int32)) h0 dX7_has_3 (by decide) ?_
  refine vx_iand h0 dX7_has_4 ?_
  refine vx_if_eq (tgt := 12) h0 dX7_has_5 (by decide) (fun c1 => ?_) (fun c1 => ?_)
  · replace hf := (if_pos c1).symm.trans hf
    refine vx_iconst (v := (0 : Int32)) h0 dX7_has_12 (by decide) ?_
    exact w_zretP hX hf rfl dX7_has_13
  · replace hf := (if_neg c1).symm.trans hf
    refine vx_iconst (v := (1 : Int32)) h0 dX7_has_8 (by decide) ?_
    refine vx_goto (tgt := 13) h0 dX7_has_9 (by decide) ?_
    exact w_zretP hX hf rfl dX7_has_13
