/-! printed by wip/whole/gen.py: decode rows, functions, contracts -/
theorem dX8_part_0 : decode cX8_part 0 = .ok (.aload_n 0, 1) := by decide +kernel
theorem dX8_part_1 : decode cX8_part 1 = .ok (.iload_n 1, 1) := by decide +kernel
theorem dX8_part_2 : decode cX8_part 2 = .ok (.invokevirtual 190, 3) := by decide +kernel
theorem dX8_part_5 : decode cX8_part 5 = .ok (.ifCond .ne 6, 3) := by decide +kernel
theorem dX8_part_8 : decode cX8_part 8 = .ok (.ldc 182, 2) := by decide +kernel
theorem dX8_part_10 : decode cX8_part 10 = .ok (.ireturn, 1) := by decide +kernel
theorem dX8_part_11 : decode cX8_part 11 = .ok (.iload_n 2, 1) := by decide +kernel
theorem dX8_part_12 : decode cX8_part 12 = .ok (.ifCond .lt 12, 3) := by decide +kernel
theorem dX8_part_15 : decode cX8_part 15 = .ok (.iload_n 3, 1) := by decide +kernel
theorem dX8_part_16 : decode cX8_part 16 = .ok (.iconst 0, 1) := by decide +kernel
theorem dX8_part_17 : decode cX8_part 17 = .ok (.iconst 1, 1) := by decide +kernel
theorem dX8_part_18 : decode cX8_part 18 = .ok (.invokestatic 84, 3) := by decide +kernel
theorem dX8_part_21 : decode cX8_part 21 = .ok (.ifCond .ne 6, 3) := by decide +kernel
theorem dX8_part_24 : decode cX8_part 24 = .ok (.ldc 88, 2) := by decide +kernel
theorem dX8_part_26 : decode cX8_part 26 = .ok (.ireturn, 1) := by decide +kernel
theorem dX8_part_27 : decode cX8_part 27 = .ok (.iload_n 2, 1) := by decide +kernel
theorem dX8_part_28 : decode cX8_part 28 = .ok (.istore 4, 2) := by decide +kernel
theorem dX8_part_30 : decode cX8_part 30 = .ok (.iconst 0, 1) := by decide +kernel
theorem dX8_part_31 : decode cX8_part 31 = .ok (.istore 5, 2) := by decide +kernel
theorem dX8_part_33 : decode cX8_part 33 = .ok (.iload 5, 2) := by decide +kernel
theorem dX8_part_35 : decode cX8_part 35 = .ok (.aload_n 0, 1) := by decide +kernel
theorem dX8_part_36 : decode cX8_part 36 = .ok (.getfield 138, 3) := by decide +kernel
theorem dX8_part_39 : decode cX8_part 39 = .ok (.if_icmp .ge 50, 3) := by decide +kernel
theorem dX8_part_42 : decode cX8_part 42 = .ok (.aload_n 0, 1) := by decide +kernel
theorem dX8_part_43 : decode cX8_part 43 = .ok (.getfield 29, 3) := by decide +kernel
theorem dX8_part_46 : decode cX8_part 46 = .ok (.iload 5, 2) := by decide +kernel
theorem dX8_part_48 : decode cX8_part 48 = .ok (.iaload, 1) := by decide +kernel
theorem dX8_part_49 : decode cX8_part 49 = .ok (.iload_n 1, 1) := by decide +kernel
theorem dX8_part_50 : decode cX8_part 50 = .ok (.if_icmp .ne 33, 3) := by decide +kernel
theorem dX8_part_53 : decode cX8_part 53 = .ok (.iload 4, 2) := by decide +kernel
theorem dX8_part_55 : decode cX8_part 55 = .ok (.ifCond .ne 25, 3) := by decide +kernel
theorem dX8_part_58 : decode cX8_part 58 = .ok (.iload_n 3, 1) := by decide +kernel
theorem dX8_part_59 : decode cX8_part 59 = .ok (.ifCond .ne 13, 3) := by decide +kernel
theorem dX8_part_62 : decode cX8_part 62 = .ok (.aload_n 0, 1) := by decide +kernel
theorem dX8_part_63 : decode cX8_part 63 = .ok (.getfield 32, 3) := by decide +kernel
theorem dX8_part_66 : decode cX8_part 66 = .ok (.iload 5, 2) := by decide +kernel
theorem dX8_part_68 : decode cX8_part 68 = .ok (.iaload, 1) := by decide +kernel
theorem dX8_part_69 : decode cX8_part 69 = .ok (.goto 10, 3) := by decide +kernel
theorem dX8_part_72 : decode cX8_part 72 = .ok (.aload_n 0, 1) := by decide +kernel
theorem dX8_part_73 : decode cX8_part 73 = .ok (.getfield 35, 3) := by decide +kernel
theorem dX8_part_76 : decode cX8_part 76 = .ok (.iload 5, 2) := by decide +kernel
theorem dX8_part_78 : decode cX8_part 78 = .ok (.iaload, 1) := by decide +kernel
theorem dX8_part_79 : decode cX8_part 79 = .ok (.ireturn, 1) := by decide +kernel
theorem dX8_part_80 : decode cX8_part 80 = .ok (.iinc 4 (-1), 3) := by decide +kernel
theorem dX8_part_83 : decode cX8_part 83 = .ok (.iinc 5 1, 3) := by decide +kernel
theorem dX8_part_86 : decode cX8_part 86 = .ok (.goto (-53), 3) := by decide +kernel
theorem dX8_part_89 : decode cX8_part 89 = .ok (.iconst (-1), 1) := by decide +kernel
theorem dX8_part_90 : decode cX8_part 90 = .ok (.ireturn, 1) := by decide +kernel
theorem dX8_number_0 : decode cX8_number 0 = .ok (.aload_n 0, 1) := by decide +kernel
theorem dX8_number_1 : decode cX8_number 1 = .ok (.iload_n 1, 1) := by decide +kernel
theorem dX8_number_2 : decode cX8_number 2 = .ok (.invokevirtual 190, 3) := by decide +kernel
theorem dX8_number_5 : decode cX8_number 5 = .ok (.ifCond .ne 6, 3) := by decide +kernel
theorem dX8_number_8 : decode cX8_number 8 = .ok (.ldc 182, 2) := by decide +kernel
theorem dX8_number_10 : decode cX8_number 10 = .ok (.ireturn, 1) := by decide +kernel
theorem dX8_number_11 : decode cX8_number 11 = .ok (.iload_n 2, 1) := by decide +kernel
theorem dX8_number_12 : decode cX8_number 12 = .ok (.ifCond .ge 6, 3) := by decide +kernel
theorem dX8_number_15 : decode cX8_number 15 = .ok (.ldc 88, 2) := by decide +kernel
theorem dX8_number_17 : decode cX8_number 17 = .ok (.ireturn, 1) := by decide +kernel
theorem dX8_number_18 : decode cX8_number 18 = .ok (.aload_n 0, 1) := by decide +kernel
theorem dX8_number_19 : decode cX8_number 19 = .ok (.invokevirtual 193, 3) := by decide +kernel
theorem dX8_number_22 : decode cX8_number 22 = .ok (.istore_n 3, 1) := by decide +kernel
theorem dX8_number_23 : decode cX8_number 23 = .ok (.iload_n 3, 1) := by decide +kernel
theorem dX8_number_24 : decode cX8_number 24 = .ok (.iload_n 1, 1) := by decide +kernel
theorem dX8_number_25 : decode cX8_number 25 = .ok (.invokestatic 118, 3) := by decide +kernel
theorem dX8_number_28 : decode cX8_number 28 = .ok (.ifCond .eq 26, 3) := by decide +kernel
theorem dX8_number_31 : decode cX8_number 31 = .ok (.iload_n 2, 1) := by decide +kernel
theorem dX8_number_32 : decode cX8_number 32 = .ok (.aload_n 0, 1) := by decide +kernel
theorem dX8_number_33 : decode cX8_number 33 = .ok (.iload_n 1, 1) := by decide +kernel
theorem dX8_number_34 : decode cX8_number 34 = .ok (.invokevirtual 214, 3) := by decide +kernel
theorem dX8_number_37 : decode cX8_number 37 = .ok (.if_icmp .gt 17, 3) := by decide +kernel
theorem dX8_number_40 : decode cX8_number 40 = .ok (.aload_n 0, 1) := by decide +kernel
theorem dX8_number_41 : decode cX8_number 41 = .ok (.iload_n 3, 1) := by decide +kernel
theorem dX8_number_42 : decode cX8_number 42 = .ok (.aload_n 0, 1) := by decide +kernel
theorem dX8_number_43 : decode cX8_number 43 = .ok (.iload_n 1, 1) := by decide +kernel
theorem dX8_number_44 : decode cX8_number 44 = .ok (.iload_n 2, 1) := by decide +kernel
theorem dX8_number_45 : decode cX8_number 45 = .ok (.invokevirtual 223, 3) := by decide +kernel
theorem dX8_number_48 : decode cX8_number 48 = .ok (.invokevirtual 226, 3) := by decide +kernel
theorem dX8_number_51 : decode cX8_number 51 = .ok (.goto 4, 3) := by decide +kernel
theorem dX8_number_54 : decode cX8_number 54 = .ok (.iconst (-1), 1) := by decide +kernel
theorem dX8_number_55 : decode cX8_number 55 = .ok (.ireturn, 1) := by decide +kernel
theorem dX8_hangs_0 : decode cX8_hangs 0 = .ok (.aload_n 0, 1) := by decide +kernel
theorem dX8_hangs_1 : decode cX8_hangs 1 = .ok (.iload_n 1, 1) := by decide +kernel
theorem dX8_hangs_2 : decode cX8_hangs 2 = .ok (.invokevirtual 190, 3) := by decide +kernel
theorem dX8_hangs_5 : decode cX8_hangs 5 = .ok (.ifCond .ne 6, 3) := by decide +kernel
theorem dX8_hangs_8 : decode cX8_hangs 8 = .ok (.ldc 182, 2) := by decide +kernel
theorem dX8_hangs_10 : decode cX8_hangs 10 = .ok (.ireturn, 1) := by decide +kernel
theorem dX8_hangs_11 : decode cX8_hangs 11 = .ok (.iload_n 2, 1) := by decide +kernel
theorem dX8_hangs_12 : decode cX8_hangs 12 = .ok (.tableswitch 86 0 3 #[32, 40, 46, 52], 32) := by decide +kernel
theorem dX8_hangs_44 : decode cX8_hangs 44 = .ok (.aload_n 0, 1) := by decide +kernel
theorem dX8_hangs_45 : decode cX8_hangs 45 = .ok (.iconst 1, 1) := by decide +kernel
theorem dX8_hangs_46 : decode cX8_hangs 46 = .ok (.iload_n 1, 1) := by decide +kernel
theorem dX8_hangs_47 : decode cX8_hangs 47 = .ok (.ishl, 1) := by decide +kernel
theorem dX8_hangs_48 : decode cX8_hangs 48 = .ok (.invokevirtual 235, 3) := by decide +kernel
theorem dX8_hangs_51 : decode cX8_hangs 51 = .ok (.ireturn, 1) := by decide +kernel
theorem dX8_hangs_52 : decode cX8_hangs 52 = .ok (.aload_n 0, 1) := by decide +kernel
theorem dX8_hangs_53 : decode cX8_hangs 53 = .ok (.iload_n 1, 1) := by decide +kernel
theorem dX8_hangs_54 : decode cX8_hangs 54 = .ok (.invokevirtual 251, 3) := by decide +kernel
theorem dX8_hangs_57 : decode cX8_hangs 57 = .ok (.ireturn, 1) := by decide +kernel
theorem dX8_hangs_58 : decode cX8_hangs 58 = .ok (.aload_n 0, 1) := by decide +kernel
theorem dX8_hangs_59 : decode cX8_hangs 59 = .ok (.iload_n 1, 1) := by decide +kernel
theorem dX8_hangs_60 : decode cX8_hangs 60 = .ok (.invokevirtual 254, 3) := by decide +kernel
theorem dX8_hangs_63 : decode cX8_hangs 63 = .ok (.ireturn, 1) := by decide +kernel
theorem dX8_hangs_64 : decode cX8_hangs 64 = .ok (.aload_n 0, 1) := by decide +kernel
theorem dX8_hangs_65 : decode cX8_hangs 65 = .ok (.iconst 2, 1) := by decide +kernel
theorem dX8_hangs_66 : decode cX8_hangs 66 = .ok (.invokevirtual 232, 3) := by decide +kernel
theorem dX8_hangs_69 : decode cX8_hangs 69 = .ok (.iload_n 1, 1) := by decide +kernel
theorem dX8_hangs_70 : decode cX8_hangs 70 = .ok (.invokestatic 118, 3) := by decide +kernel
theorem dX8_hangs_73 : decode cX8_hangs 73 = .ok (.ifCond .eq 7, 3) := by decide +kernel
theorem dX8_hangs_76 : decode cX8_hangs 76 = .ok (.iconst 2, 1) := by decide +kernel
theorem dX8_hangs_77 : decode cX8_hangs 77 = .ok (.goto 20, 3) := by decide +kernel
theorem dX8_hangs_80 : decode cX8_hangs 80 = .ok (.aload_n 0, 1) := by decide +kernel
theorem dX8_hangs_81 : decode cX8_hangs 81 = .ok (.iconst 1, 1) := by decide +kernel
theorem dX8_hangs_82 : decode cX8_hangs 82 = .ok (.invokevirtual 232, 3) := by decide +kernel
theorem dX8_hangs_85 : decode cX8_hangs 85 = .ok (.iload_n 1, 1) := by decide +kernel
theorem dX8_hangs_86 : decode cX8_hangs 86 = .ok (.invokestatic 118, 3) := by decide +kernel
theorem dX8_hangs_89 : decode cX8_hangs 89 = .ok (.ifCond .eq 7, 3) := by decide +kernel
theorem dX8_hangs_92 : decode cX8_hangs 92 = .ok (.iconst 1, 1) := by decide +kernel
theorem dX8_hangs_93 : decode cX8_hangs 93 = .ok (.goto 4, 3) := by decide +kernel
theorem dX8_hangs_96 : decode cX8_hangs 96 = .ok (.iconst 0, 1) := by decide +kernel
theorem dX8_hangs_97 : decode cX8_hangs 97 = .ok (.ireturn, 1) := by decide +kernel
theorem dX8_hangs_98 : decode cX8_hangs 98 = .ok (.ldc 88, 2) := by decide +kernel
theorem dX8_hangs_100 : decode cX8_hangs 100 = .ok (.ireturn, 1) := by decide +kernel
theorem dX8_term_0 : decode cX8_term 0 = .ok (.iload_n 1, 1) := by decide +kernel
theorem dX8_term_1 : decode cX8_term 1 = .ok (.iconst 0, 1) := by decide +kernel
theorem dX8_term_2 : decode cX8_term 2 = .ok (.bipush 7, 2) := by decide +kernel
theorem dX8_term_4 : decode cX8_term 4 = .ok (.invokestatic 84, 3) := by decide +kernel
theorem dX8_term_7 : decode cX8_term 7 = .ok (.ifCond .ne 6, 3) := by decide +kernel
theorem dX8_term_10 : decode cX8_term 10 = .ok (.ldc 182, 2) := by decide +kernel
theorem dX8_term_12 : decode cX8_term 12 = .ok (.ireturn, 1) := by decide +kernel
theorem dX8_term_13 : decode cX8_term 13 = .ok (.aload_n 0, 1) := by decide +kernel
theorem dX8_term_14 : decode cX8_term 14 = .ok (.invokevirtual 193, 3) := by decide +kernel
theorem dX8_term_17 : decode cX8_term 17 = .ok (.istore_n 3, 1) := by decide +kernel
theorem dX8_term_18 : decode cX8_term 18 = .ok (.iload_n 2, 1) := by decide +kernel
theorem dX8_term_19 : decode cX8_term 19 = .ok (.tableswitch 145 0 4 #[33, 45, 57, 120, 138], 33) := by decide +kernel
theorem dX8_term_52 : decode cX8_term 52 = .ok (.aload_n 0, 1) := by decide +kernel
theorem dX8_term_53 : decode cX8_term 53 = .ok (.iload_n 3, 1) := by decide +kernel
theorem dX8_term_54 : decode cX8_term 54 = .ok (.iload_n 1, 1) := by decide +kernel
theorem dX8_term_55 : decode cX8_term 55 = .ok (.iconst 0, 1) := by decide +kernel
theorem dX8_term_56 : decode cX8_term 56 = .ok (.aload_n 0, 1) := by decide +kernel
theorem dX8_term_57 : decode cX8_term 57 = .ok (.getfield 138, 3) := by decide +kernel
theorem dX8_term_60 : decode cX8_term 60 = .ok (.invokevirtual 162, 3) := by decide +kernel
theorem dX8_term_63 : decode cX8_term 63 = .ok (.ireturn, 1) := by decide +kernel
theorem dX8_term_64 : decode cX8_term 64 = .ok (.aload_n 0, 1) := by decide +kernel
theorem dX8_term_65 : decode cX8_term 65 = .ok (.iload_n 3, 1) := by decide +kernel
theorem dX8_term_66 : decode cX8_term 66 = .ok (.iload_n 1, 1) := by decide +kernel
theorem dX8_term_67 : decode cX8_term 67 = .ok (.iconst 1, 1) := by decide +kernel
theorem dX8_term_68 : decode cX8_term 68 = .ok (.aload_n 0, 1) := by decide +kernel
theorem dX8_term_69 : decode cX8_term 69 = .ok (.getfield 138, 3) := by decide +kernel
theorem dX8_term_72 : decode cX8_term 72 = .ok (.invokevirtual 162, 3) := by decide +kernel
theorem dX8_term_75 : decode cX8_term 75 = .ok (.ireturn, 1) := by decide +kernel
theorem dX8_term_76 : decode cX8_term 76 = .ok (.iconst 0, 1) := by decide +kernel
theorem dX8_term_77 : decode cX8_term 77 = .ok (.istore 4, 2) := by decide +kernel
theorem dX8_term_79 : decode cX8_term 79 = .ok (.iload 4, 2) := by decide +kernel
theorem dX8_term_81 : decode cX8_term 81 = .ok (.aload_n 0, 1) := by decide +kernel
theorem dX8_term_82 : decode cX8_term 82 = .ok (.getfield 138, 3) := by decide +kernel
theorem dX8_term_85 : decode cX8_term 85 = .ok (.if_icmp .ge 52, 3) := by decide +kernel
theorem dX8_term_88 : decode cX8_term 88 = .ok (.iload_n 3, 1) := by decide +kernel
theorem dX8_term_89 : decode cX8_term 89 = .ok (.aload_n 0, 1) := by decide +kernel
theorem dX8_term_90 : decode cX8_term 90 = .ok (.getfield 29, 3) := by decide +kernel
theorem dX8_term_93 : decode cX8_term 93 = .ok (.iload 4, 2) := by decide +kernel
theorem dX8_term_95 : decode cX8_term 95 = .ok (.iaload, 1) := by decide +kernel
theorem dX8_term_96 : decode cX8_term 96 = .ok (.invokestatic 118, 3) := by decide +kernel
theorem dX8_term_99 : decode cX8_term 99 = .ok (.ifCond .eq 32, 3) := by decide +kernel
theorem dX8_term_102 : decode cX8_term 102 = .ok (.aload_n 0, 1) := by decide +kernel
theorem dX8_term_103 : decode cX8_term 103 = .ok (.getfield 32, 3) := by decide +kernel
theorem dX8_term_106 : decode cX8_term 106 = .ok (.iload 4, 2) := by decide +kernel
theorem dX8_term_108 : decode cX8_term 108 = .ok (.iaload, 1) := by decide +kernel
theorem dX8_term_109 : decode cX8_term 109 = .ok (.ifCond .ne 22, 3) := by decide +kernel
theorem dX8_term_112 : decode cX8_term 112 = .ok (.aload_n 0, 1) := by decide +kernel
theorem dX8_term_113 : decode cX8_term 113 = .ok (.getfield 35, 3) := by decide +kernel
theorem dX8_term_116 : decode cX8_term 116 = .ok (.iload 4, 2) := by decide +kernel
theorem dX8_term_118 : decode cX8_term 118 = .ok (.iaload, 1) := by decide +kernel
theorem dX8_term_119 : decode cX8_term 119 = .ok (.iload_n 1, 1) := by decide +kernel
theorem dX8_term_120 : decode cX8_term 120 = .ok (.if_icmp .ne 11, 3) := by decide +kernel
theorem dX8_term_123 : decode cX8_term 123 = .ok (.aload_n 0, 1) := by decide +kernel
theorem dX8_term_124 : decode cX8_term 124 = .ok (.getfield 29, 3) := by decide +kernel
theorem dX8_term_127 : decode cX8_term 127 = .ok (.iload 4, 2) := by decide +kernel
theorem dX8_term_129 : decode cX8_term 129 = .ok (.iaload, 1) := by decide +kernel
theorem dX8_term_130 : decode cX8_term 130 = .ok (.ireturn, 1) := by decide +kernel
theorem dX8_term_131 : decode cX8_term 131 = .ok (.iinc 4 1, 3) := by decide +kernel
theorem dX8_term_134 : decode cX8_term 134 = .ok (.goto (-55), 3) := by decide +kernel
theorem dX8_term_137 : decode cX8_term 137 = .ok (.iconst (-1), 1) := by decide +kernel
theorem dX8_term_138 : decode cX8_term 138 = .ok (.ireturn, 1) := by decide +kernel
theorem dX8_term_139 : decode cX8_term 139 = .ok (.aload_n 0, 1) := by decide +kernel
theorem dX8_term_140 : decode cX8_term 140 = .ok (.iload_n 3, 1) := by decide +kernel
theorem dX8_term_141 : decode cX8_term 141 = .ok (.invokevirtual 176, 3) := by decide +kernel
theorem dX8_term_144 : decode cX8_term 144 = .ok (.iload_n 1, 1) := by decide +kernel
theorem dX8_term_145 : decode cX8_term 145 = .ok (.invokestatic 118, 3) := by decide +kernel
theorem dX8_term_148 : decode cX8_term 148 = .ok (.ifCond .eq 7, 3) := by decide +kernel
theorem dX8_term_151 : decode cX8_term 151 = .ok (.iconst 1, 1) := by decide +kernel
theorem dX8_term_152 : decode cX8_term 152 = .ok (.goto 4, 3) := by decide +kernel
theorem dX8_term_155 : decode cX8_term 155 = .ok (.iconst 0, 1) := by decide +kernel
theorem dX8_term_156 : decode cX8_term 156 = .ok (.ireturn, 1) := by decide +kernel
theorem dX8_term_157 : decode cX8_term 157 = .ok (.aload_n 0, 1) := by decide +kernel
theorem dX8_term_158 : decode cX8_term 158 = .ok (.iload_n 3, 1) := by decide +kernel
theorem dX8_term_159 : decode cX8_term 159 = .ok (.iload_n 1, 1) := by decide +kernel
theorem dX8_term_160 : decode cX8_term 160 = .ok (.invokevirtual 166, 3) := by decide +kernel
theorem dX8_term_163 : decode cX8_term 163 = .ok (.ireturn, 1) := by decide +kernel
theorem dX8_term_164 : decode cX8_term 164 = .ok (.ldc 88, 2) := by decide +kernel
theorem dX8_term_166 : decode cX8_term 166 = .ok (.ireturn, 1) := by decide +kernel
theorem dX8_by_0 : decode cX8_by 0 = .ok (.iload_n 1, 1) := by decide +kernel
theorem dX8_by_1 : decode cX8_by 1 = .ok (.iconst 0, 1) := by decide +kernel
theorem dX8_by_2 : decode cX8_by 2 = .ok (.bipush 63, 2) := by decide +kernel
theorem dX8_by_4 : decode cX8_by 4 = .ok (.invokestatic 84, 3) := by decide +kernel
theorem dX8_by_7 : decode cX8_by 7 = .ok (.ifCond .eq 12, 3) := by decide +kernel
theorem dX8_by_10 : decode cX8_by 10 = .ok (.iload_n 2, 1) := by decide +kernel
theorem dX8_by_11 : decode cX8_by 11 = .ok (.iconst 0, 1) := by decide +kernel
theorem dX8_by_12 : decode cX8_by 12 = .ok (.iconst 1, 1) := by decide +kernel
theorem dX8_by_13 : decode cX8_by 13 = .ok (.invokestatic 84, 3) := by decide +kernel
theorem dX8_by_16 : decode cX8_by 16 = .ok (.ifCond .ne 6, 3) := by decide +kernel
theorem dX8_by_19 : decode cX8_by 19 = .ok (.ldc 88, 2) := by decide +kernel
theorem dX8_by_21 : decode cX8_by 21 = .ok (.ireturn, 1) := by decide +kernel
theorem dX8_by_22 : decode cX8_by 22 = .ok (.aload_n 0, 1) := by decide +kernel
theorem dX8_by_23 : decode cX8_by 23 = .ok (.iload_n 1, 1) := by decide +kernel
theorem dX8_by_24 : decode cX8_by 24 = .ok (.invokevirtual 156, 3) := by decide +kernel
theorem dX8_by_27 : decode cX8_by 27 = .ok (.istore_n 3, 1) := by decide +kernel
theorem dX8_by_28 : decode cX8_by 28 = .ok (.iload_n 2, 1) := by decide +kernel
theorem dX8_by_29 : decode cX8_by 29 = .ok (.ifCond .ne 7, 3) := by decide +kernel
theorem dX8_by_32 : decode cX8_by 32 = .ok (.iload_n 3, 1) := by decide +kernel
theorem dX8_by_33 : decode cX8_by 33 = .ok (.goto 8, 3) := by decide +kernel
theorem dX8_by_36 : decode cX8_by 36 = .ok (.aload_n 0, 1) := by decide +kernel
theorem dX8_by_37 : decode cX8_by 37 = .ok (.iload_n 3, 1) := by decide +kernel
theorem dX8_by_38 : decode cX8_by 38 = .ok (.invokevirtual 211, 3) := by decide +kernel
theorem dX8_by_41 : decode cX8_by 41 = .ok (.ireturn, 1) := by decide +kernel
theorem dX8_sign__0 : decode cX8_sign_ 0 = .ok (.iload_n 1, 1) := by decide +kernel
theorem dX8_sign__1 : decode cX8_sign_ 1 = .ok (.ifCond .ge 6, 3) := by decide +kernel
theorem dX8_sign__4 : decode cX8_sign_ 4 = .ok (.ldc 88, 2) := by decide +kernel
theorem dX8_sign__6 : decode cX8_sign_ 6 = .ok (.ireturn, 1) := by decide +kernel
theorem dX8_sign__7 : decode cX8_sign_ 7 = .ok (.iload_n 1, 1) := by decide +kernel
theorem dX8_sign__8 : decode cX8_sign_ 8 = .ok (.aload_n 0, 1) := by decide +kernel
theorem dX8_sign__9 : decode cX8_sign_ 9 = .ok (.invokevirtual 242, 3) := by decide +kernel
theorem dX8_sign__12 : decode cX8_sign_ 12 = .ok (.if_icmp .ge 12, 3) := by decide +kernel
theorem dX8_sign__15 : decode cX8_sign_ 15 = .ok (.aload_n 0, 1) := by decide +kernel
theorem dX8_sign__16 : decode cX8_sign_ 16 = .ok (.getfield 78, 3) := by decide +kernel
theorem dX8_sign__19 : decode cX8_sign_ 19 = .ok (.iload_n 1, 1) := by decide +kernel
theorem dX8_sign__20 : decode cX8_sign_ 20 = .ok (.iaload, 1) := by decide +kernel
theorem dX8_sign__21 : decode cX8_sign_ 21 = .ok (.goto 4, 3) := by decide +kernel
theorem dX8_sign__24 : decode cX8_sign_ 24 = .ok (.iconst (-1), 1) := by decide +kernel
theorem dX8_sign__25 : decode cX8_sign_ 25 = .ok (.ireturn, 1) := by decide +kernel
theorem dX8_keep_0 : decode cX8_keep 0 = .ok (.iload_n 1, 1) := by decide +kernel
theorem dX8_keep_1 : decode cX8_keep 1 = .ok (.iconst 0, 1) := by decide +kernel
theorem dX8_keep_2 : decode cX8_keep 2 = .ok (.iconst 1, 1) := by decide +kernel
theorem dX8_keep_3 : decode cX8_keep 3 = .ok (.invokestatic 84, 3) := by decide +kernel
theorem dX8_keep_6 : decode cX8_keep 6 = .ok (.ifCond .ne 6, 3) := by decide +kernel
theorem dX8_keep_9 : decode cX8_keep 9 = .ok (.ldc 182, 2) := by decide +kernel
theorem dX8_keep_11 : decode cX8_keep 11 = .ok (.ireturn, 1) := by decide +kernel
theorem dX8_keep_12 : decode cX8_keep 12 = .ok (.aload_n 0, 1) := by decide +kernel
theorem dX8_keep_13 : decode cX8_keep 13 = .ok (.getfield 65, 3) := by decide +kernel
theorem dX8_keep_16 : decode cX8_keep 16 = .ok (.iconst 3, 1) := by decide +kernel
theorem dX8_keep_17 : decode cX8_keep 17 = .ok (.iload_n 1, 1) := by decide +kernel
theorem dX8_keep_18 : decode cX8_keep 18 = .ok (.imul, 1) := by decide +kernel
theorem dX8_keep_19 : decode cX8_keep 19 = .ok (.aload_n 0, 1) := by decide +kernel
theorem dX8_keep_20 : decode cX8_keep 20 = .ok (.getfield 159, 3) := by decide +kernel
theorem dX8_keep_23 : decode cX8_keep 23 = .ok (.iastore, 1) := by decide +kernel
theorem dX8_keep_24 : decode cX8_keep 24 = .ok (.aload_n 0, 1) := by decide +kernel
theorem dX8_keep_25 : decode cX8_keep 25 = .ok (.getfield 65, 3) := by decide +kernel
theorem dX8_keep_28 : decode cX8_keep 28 = .ok (.iconst 3, 1) := by decide +kernel
theorem dX8_keep_29 : decode cX8_keep 29 = .ok (.iload_n 1, 1) := by decide +kernel
theorem dX8_keep_30 : decode cX8_keep 30 = .ok (.imul, 1) := by decide +kernel
theorem dX8_keep_31 : decode cX8_keep 31 = .ok (.iconst 1, 1) := by decide +kernel
theorem dX8_keep_32 : decode cX8_keep 32 = .ok (.iadd, 1) := by decide +kernel
theorem dX8_keep_33 : decode cX8_keep 33 = .ok (.aload_n 0, 1) := by decide +kernel
theorem dX8_keep_34 : decode cX8_keep 34 = .ok (.getfield 153, 3) := by decide +kernel
theorem dX8_keep_37 : decode cX8_keep 37 = .ok (.iastore, 1) := by decide +kernel
theorem dX8_keep_38 : decode cX8_keep 38 = .ok (.aload_n 0, 1) := by decide +kernel
theorem dX8_keep_39 : decode cX8_keep 39 = .ok (.getfield 65, 3) := by decide +kernel
theorem dX8_keep_42 : decode cX8_keep 42 = .ok (.iconst 3, 1) := by decide +kernel
theorem dX8_keep_43 : decode cX8_keep 43 = .ok (.iload_n 1, 1) := by decide +kernel
theorem dX8_keep_44 : decode cX8_keep 44 = .ok (.imul, 1) := by decide +kernel
theorem dX8_keep_45 : decode cX8_keep 45 = .ok (.iconst 2, 1) := by decide +kernel
theorem dX8_keep_46 : decode cX8_keep 46 = .ok (.iadd, 1) := by decide +kernel
theorem dX8_keep_47 : decode cX8_keep 47 = .ok (.aload_n 0, 1) := by decide +kernel
theorem dX8_keep_48 : decode cX8_keep 48 = .ok (.getfield 141, 3) := by decide +kernel
theorem dX8_keep_51 : decode cX8_keep 51 = .ok (.iastore, 1) := by decide +kernel
theorem dX8_keep_52 : decode cX8_keep 52 = .ok (.aload_n 0, 1) := by decide +kernel
theorem dX8_keep_53 : decode cX8_keep 53 = .ok (.getfield 68, 3) := by decide +kernel
theorem dX8_keep_56 : decode cX8_keep 56 = .ok (.iload_n 1, 1) := by decide +kernel
theorem dX8_keep_57 : decode cX8_keep 57 = .ok (.iconst 1, 1) := by decide +kernel
theorem dX8_keep_58 : decode cX8_keep 58 = .ok (.bastore, 1) := by decide +kernel
theorem dX8_keep_59 : decode cX8_keep 59 = .ok (.aload_n 0, 1) := by decide +kernel
theorem dX8_keep_60 : decode cX8_keep 60 = .ok (.iconst 0, 1) := by decide +kernel
theorem dX8_keep_61 : decode cX8_keep 61 = .ok (.putfield 144, 3) := by decide +kernel
theorem dX8_keep_64 : decode cX8_keep 64 = .ok (.iconst 1, 1) := by decide +kernel
theorem dX8_keep_65 : decode cX8_keep 65 = .ok (.ireturn, 1) := by decide +kernel
theorem dX8_goBack_0 : decode cX8_goBack 0 = .ok (.iload_n 1, 1) := by decide +kernel
theorem dX8_goBack_1 : decode cX8_goBack 1 = .ok (.iconst 0, 1) := by decide +kernel
theorem dX8_goBack_2 : decode cX8_goBack 2 = .ok (.iconst 1, 1) := by decide +kernel
theorem dX8_goBack_3 : decode cX8_goBack 3 = .ok (.invokestatic 84, 3) := by decide +kernel
theorem dX8_goBack_6 : decode cX8_goBack 6 = .ok (.ifCond .ne 6, 3) := by decide +kernel
theorem dX8_goBack_9 : decode cX8_goBack 9 = .ok (.ldc 182, 2) := by decide +kernel
theorem dX8_goBack_11 : decode cX8_goBack 11 = .ok (.ireturn, 1) := by decide +kernel
theorem dX8_goBack_12 : decode cX8_goBack 12 = .ok (.aload_n 0, 1) := by decide +kernel
theorem dX8_goBack_13 : decode cX8_goBack 13 = .ok (.getfield 68, 3) := by decide +kernel
theorem dX8_goBack_16 : decode cX8_goBack 16 = .ok (.iload_n 1, 1) := by decide +kernel
theorem dX8_goBack_17 : decode cX8_goBack 17 = .ok (.baload, 1) := by decide +kernel
theorem dX8_goBack_18 : decode cX8_goBack 18 = .ok (.ifCond .ne 6, 3) := by decide +kernel
theorem dX8_goBack_21 : decode cX8_goBack 21 = .ok (.ldc 186, 2) := by decide +kernel
theorem dX8_goBack_23 : decode cX8_goBack 23 = .ok (.ireturn, 1) := by decide +kernel
theorem dX8_goBack_24 : decode cX8_goBack 24 = .ok (.aload_n 0, 1) := by decide +kernel
theorem dX8_goBack_25 : decode cX8_goBack 25 = .ok (.aload_n 0, 1) := by decide +kernel
theorem dX8_goBack_26 : decode cX8_goBack 26 = .ok (.getfield 65, 3) := by decide +kernel
theorem dX8_goBack_29 : decode cX8_goBack 29 = .ok (.iconst 3, 1) := by decide +kernel
theorem dX8_goBack_30 : decode cX8_goBack 30 = .ok (.iload_n 1, 1) := by decide +kernel
theorem dX8_goBack_31 : decode cX8_goBack 31 = .ok (.imul, 1) := by decide +kernel
theorem dX8_goBack_32 : decode cX8_goBack 32 = .ok (.iaload, 1) := by decide +kernel
theorem dX8_goBack_33 : decode cX8_goBack 33 = .ok (.putfield 159, 3) := by decide +kernel
theorem dX8_goBack_36 : decode cX8_goBack 36 = .ok (.aload_n 0, 1) := by decide +kernel
theorem dX8_goBack_37 : decode cX8_goBack 37 = .ok (.aload_n 0, 1) := by decide +kernel
theorem dX8_goBack_38 : decode cX8_goBack 38 = .ok (.getfield 65, 3) := by decide +kernel
theorem dX8_goBack_41 : decode cX8_goBack 41 = .ok (.iconst 3, 1) := by decide +kernel
theorem dX8_goBack_42 : decode cX8_goBack 42 = .ok (.iload_n 1, 1) := by decide +kernel
theorem dX8_goBack_43 : decode cX8_goBack 43 = .ok (.imul, 1) := by decide +kernel
theorem dX8_goBack_44 : decode cX8_goBack 44 = .ok (.iconst 1, 1) := by decide +kernel
theorem dX8_goBack_45 : decode cX8_goBack 45 = .ok (.iadd, 1) := by decide +kernel
theorem dX8_goBack_46 : decode cX8_goBack 46 = .ok (.iaload, 1) := by decide +kernel
theorem dX8_goBack_47 : decode cX8_goBack 47 = .ok (.putfield 153, 3) := by decide +kernel
theorem dX8_goBack_50 : decode cX8_goBack 50 = .ok (.aload_n 0, 1) := by decide +kernel
theorem dX8_goBack_51 : decode cX8_goBack 51 = .ok (.aload_n 0, 1) := by decide +kernel
theorem dX8_goBack_52 : decode cX8_goBack 52 = .ok (.getfield 65, 3) := by decide +kernel
theorem dX8_goBack_55 : decode cX8_goBack 55 = .ok (.iconst 3, 1) := by decide +kernel
theorem dX8_goBack_56 : decode cX8_goBack 56 = .ok (.iload_n 1, 1) := by decide +kernel
theorem dX8_goBack_57 : decode cX8_goBack 57 = .ok (.imul, 1) := by decide +kernel
theorem dX8_goBack_58 : decode cX8_goBack 58 = .ok (.iconst 2, 1) := by decide +kernel
theorem dX8_goBack_59 : decode cX8_goBack 59 = .ok (.iadd, 1) := by decide +kernel
theorem dX8_goBack_60 : decode cX8_goBack 60 = .ok (.iaload, 1) := by decide +kernel
theorem dX8_goBack_61 : decode cX8_goBack 61 = .ok (.putfield 141, 3) := by decide +kernel
theorem dX8_goBack_64 : decode cX8_goBack 64 = .ok (.aload_n 0, 1) := by decide +kernel
theorem dX8_goBack_65 : decode cX8_goBack 65 = .ok (.iconst 0, 1) := by decide +kernel
theorem dX8_goBack_66 : decode cX8_goBack 66 = .ok (.putfield 144, 3) := by decide +kernel
theorem dX8_goBack_69 : decode cX8_goBack 69 = .ok (.iconst 1, 1) := by decide +kernel
theorem dX8_goBack_70 : decode cX8_goBack 70 = .ok (.ireturn, 1) := by decide +kernel
def FX8_part_L33 (σ : SS) (v1 : Int32) (v3 : Int32) (k : Int32 → Option (Int32)) : Nat → Int32 → Int32 → Option (Int32)
  | 0, _, _ => none
  | n + 1, v4, v5 => if (gI σ 8) ≤ v5 then some (-1 : Int32)
    else gd (inb v5 30) (if (gA σ 9 (Int32.toNatClampNeg v5)) = v1 then if v4 = 0 then k v5
    else FX8_part_L33 σ v1 v3 k n (v4 + (-1 : Int32)) (v5 + (1 : Int32))
    else FX8_part_L33 σ v1 v3 k n v4 (v5 + (1 : Int32)))
set_option maxRecDepth 100000 in
set_option maxHeartbeats 4000000 in
theorem PX8_part_L33 {X : Bx} {g : Gx} {r : Int32} {σ : SS} (hX : Okw wsM X g cX8_part 6 RX8 (some .int) ({ frames := 2, cells := 0, slots := 0, locals := 43 } : Room) (fun g => some (.int r)) σ) {v1 : Int32} {v3 : Int32} {k : Int32 → Option (Int32)} (hk : ∀ (v5 : Int32), k v5 = some r → Vx X g.1 6 (wsM g σ) 58 [(0, .ref (g.2.1 0)), (3, .int v3), (5, .int v5)] []) : ∀ (n : Nat) (v4 : Int32) (v5 : Int32), FX8_part_L33 σ v1 v3 k n v4 v5 = some r → Vx X g.1 6 (wsM g σ) 33 [(0, .ref (g.2.1 0)), (1, .int v1), (3, .int v3), (4, .int v4), (5, .int v5)] [] := by
  have h0 := hX.1
  intro n
  induction n with
  | zero =>
    intro v4 v5 hf
    rw [FX8_part_L33] at hf
    cases hf
  | succ n ih =>
    intro v4 v5 hf
    rw [FX8_part_L33] at hf
    refine vx_iload h0 dX8_part_33 rfl ?_
    refine vx_aload_n h0 dX8_part_35 rfl ?_
    refine mg_0_8 hX q792 dX8_part_36 ?_
    refine vx_icmp_ge (tgt := 89) h0 dX8_part_39 (by decide) (fun c8 => ?_) (fun c8 => ?_)
    · replace hf := (if_pos c8).symm.trans hf
      refine vx_iconst (v := (-1 : Int32)) h0 dX8_part_89 (by decide) ?_
      exact w_iretP hX hf dX8_part_90
    · replace hf := (if_neg c8).symm.trans hf
      refine vx_aload_n h0 dX8_part_42 rfl ?_
      refine mg_0_9 hX q793 dX8_part_43 ?_
      refine vx_iload h0 dX8_part_46 rfl ?_
      obtain ⟨b9, hf⟩ := gd_some hf
      refine ml_6 hX b9 dX8_part_48 ?_
      refine vx_iload_n h0 dX8_part_49 rfl ?_
      refine vx_icmp_ne (tgt := 83) h0 dX8_part_50 (by decide) (fun c10 => ?_) (fun c10 => ?_)
      · replace hf := (if_neg c10).symm.trans hf
        refine vx_iinc (q := 4) (v := (v5 + (1 : Int32))) (ls' := [(5, .int (v5 + (1 : Int32))), (0, .ref (g.2.1 0)), (1, .int v1), (3, .int v3), (4, .int v4)]) h0 dX8_part_83 rfl rfl (by decide) rfl ?_
        refine vx_goto (tgt := 33) h0 dX8_part_86 (by decide) ?_
        refine vx_sub [1, 2, 3, 4, 0] rfl ?_
        exact ih _ _ hf
      · replace hf := (if_pos c10).symm.trans hf
        refine vx_iload h0 dX8_part_53 rfl ?_
        refine vx_if_ne (tgt := 80) h0 dX8_part_55 (by decide) (fun c11 => ?_) (fun c11 => ?_)
        · replace hf := (if_neg c11).symm.trans hf
          refine vx_iinc (q := 3) (v := (v4 + (-1 : Int32))) (ls' := [(4, .int (v4 + (-1 : Int32))), (0, .ref (g.2.1 0)), (1, .int v1), (3, .int v3), (5, .int v5)]) h0 dX8_part_80 rfl rfl (by decide) rfl ?_
          refine vx_iinc (q := 4) (v := (v5 + (1 : Int32))) (ls' := [(5, .int (v5 + (1 : Int32))), (4, .int (v4 + (-1 : Int32))), (0, .ref (g.2.1 0)), (1, .int v1), (3, .int v3)]) h0 dX8_part_83 rfl rfl (by decide) rfl ?_
          refine vx_goto (tgt := 33) h0 dX8_part_86 (by decide) ?_
          refine vx_sub [2, 3, 4, 1, 0] rfl ?_
          exact ih _ _ hf
        · replace hf := (if_pos c11).symm.trans hf
          refine vx_sub [0, 2, 4] rfl ?_
          exact hk _ hf
def FX8_part (σ : SS) (a0 : Int32) (a1 : Int32) (a2 : Int32) : Option (Int32) :=
  ob (FX8_isClause σ a0) (fun r2 => if r2 = 0 then some (-1000000001 : Int32)
    else if a1 < 0 then some (-1000000002 : Int32)
    else ob (FX8_in σ a2 (0 : Int32) (1 : Int32)) (fun r6 => if r6 = 0 then some (-1000000002 : Int32)
    else FX8_part_L33 σ a0 a2 (fun u12 => if a2 = 0 then gd (inb u12 30) (some (gA σ 10 (Int32.toNatClampNeg u12)))
    else gd (inb u12 30) (some (gA σ 11 (Int32.toNatClampNeg u12)))) 5000 a1 (0 : Int32)))
set_option maxRecDepth 100000 in
set_option maxHeartbeats 4000000 in
theorem c_X8_part {σ : SS} {a0 : Int32} {a1 : Int32} {a2 : Int32} {r : Int32} (hf : FX8_part σ a0 a1 a2 = some r) : Mcw wsM yX8_part cX8_part 6 (some .int) ({ frames := 2, cells := 0, slots := 0, locals := 43 } : Room) (fun g => [.ref (g.2.1 0), .int a0, .int a1, .int a2]) σ (fun g => some (.int r)) σ := by
  refine w_enter wsM_fix (by decide) (fun g => Nat.le_of_ble_eq_true rfl) ?_
  intro X g hX
  replace hX : Okw wsM X g cX8_part 6 RX8 (some .int) ({ frames := 2, cells := 0, slots := 0, locals := 43 } : Room) (fun g => some (.int r)) σ := hX
  have h0 := hX.1
  show Vx X g.1 6 (wsM g σ) 0 [(0, .ref (g.2.1 0)), (1, .int a0), (2, .int a1), (3, .int a2)] []
  rw [FX8_part] at hf
  refine vx_aload_n h0 dX8_part_0 rfl ?_
  refine vx_iload_n h0 dX8_part_1 rfl ?_
  obtain ⟨r2, h1, hf⟩ := ob_some hf
  refine w_callV (st := []) (ci := 8) (q0 := 0) hX (c_X8_isClause h1) ce_X8_isClause q965 ⟨rfl, rfl⟩ ⟨by decide, by decide⟩ rfl rfl rfl rfl (mo_0 g _) rfl (Nat.le_of_ble_eq_true rfl) dX8_part_2 ?_
  show Vx X g.1 6 (wsM g σ) 5 [(0, .ref (g.2.1 0)), (1, .int a0), (2, .int a1), (3, .int a2)] [.int r2]
  refine vx_if_ne (tgt := 11) h0 dX8_part_5 (by decide) (fun c3 => ?_) (fun c3 => ?_)
  · replace hf := (if_neg c3).symm.trans hf
    refine vx_iload_n h0 dX8_part_11 rfl ?_
    refine vx_if_lt (tgt := 24) h0 dX8_part_12 (by decide) (fun c4 => ?_) (fun c4 => ?_)
    · replace hf := (if_pos c4).symm.trans hf
      refine vx_ldc h0 q898 dX8_part_24 ?_
      exact w_iretP hX hf dX8_part_26
    · replace hf := (if_neg c4).symm.trans hf
      refine vx_iload_n h0 dX8_part_15 rfl ?_
      refine vx_iconst (v := (0 : Int32)) h0 dX8_part_16 (by decide) ?_
      refine vx_iconst (v := (1 : Int32)) h0 dX8_part_17 (by decide) ?_
      obtain ⟨r6, h5, hf⟩ := ob_some hf
      refine w_callS (st := []) hX (c_X8_in h5) ce_X8_in q895 ⟨rfl, rfl⟩ ⟨by decide, by decide⟩ rfl rfl rfl (Nat.le_of_ble_eq_true rfl) dX8_part_18 ?_
      show Vx X g.1 6 (wsM g σ) 21 [(0, .ref (g.2.1 0)), (1, .int a0), (2, .int a1), (3, .int a2)] [.int r6]
      refine vx_if_ne (tgt := 27) h0 dX8_part_21 (by decide) (fun c7 => ?_) (fun c7 => ?_)
      · replace hf := (if_neg c7).symm.trans hf
        refine vx_iload_n h0 dX8_part_27 rfl ?_
        refine vx_istore (ls' := [(4, .int a1), (0, .ref (g.2.1 0)), (1, .int a0), (2, .int a1), (3, .int a2)]) h0 dX8_part_28 (by decide) rfl ?_
        refine vx_iconst (v := (0 : Int32)) h0 dX8_part_30 (by decide) ?_
        refine vx_istore (ls' := [(5, .int (0 : Int32)), (4, .int a1), (0, .ref (g.2.1 0)), (1, .int a0), (2, .int a1), (3, .int a2)]) h0 dX8_part_31 (by decide) rfl ?_
        refine vx_sub [2, 3, 5, 1, 0] rfl ?_
        refine PX8_part_L33 hX (fun u12 hf => ?_) _ _ _ hf
        refine vx_iload_n h0 dX8_part_58 rfl ?_
        refine vx_if_ne (tgt := 72) h0 dX8_part_59 (by decide) (fun c13 => ?_) (fun c13 => ?_)
        · replace hf := (if_neg c13).symm.trans hf
          refine vx_aload_n h0 dX8_part_72 rfl ?_
          refine mg_0_11 hX q795 dX8_part_73 ?_
          refine vx_iload h0 dX8_part_76 rfl ?_
          obtain ⟨b14, hf⟩ := gd_some hf
          refine ml_8 hX b14 dX8_part_78 ?_
          exact w_iretP hX hf dX8_part_79
        · replace hf := (if_pos c13).symm.trans hf
          refine vx_aload_n h0 dX8_part_62 rfl ?_
          refine mg_0_10 hX q794 dX8_part_63 ?_
          refine vx_iload h0 dX8_part_66 rfl ?_
          obtain ⟨b15, hf⟩ := gd_some hf
          refine ml_7 hX b15 dX8_part_68 ?_
          refine vx_goto (tgt := 79) h0 dX8_part_69 (by decide) ?_
          exact w_iretP hX hf dX8_part_79
      · replace hf := (if_pos c7).symm.trans hf
        refine vx_ldc h0 q898 dX8_part_24 ?_
        exact w_iretP hX hf dX8_part_26
  · replace hf := (if_pos c3).symm.trans hf
    refine vx_ldc h0 q946 dX8_part_8 ?_
    exact w_iretP hX hf dX8_part_10
def FX8_number (σ : SS) (a0 : Int32) (a1 : Int32) : Option (Int32) :=
  ob (FX8_isClause σ a0) (fun r2 => if r2 = 0 then some (-1000000001 : Int32)
    else if 0 ≤ a1 then ob (FX8_now σ) (fun r6 => ob (FX8_has σ r6 a0) (fun r8 => if r8 = 0 then some (-1 : Int32)
    else ob (FX8_depthOf σ a0) (fun r11 => if r11 < a1 then some (-1 : Int32)
    else ob (FX8_upTo σ a0 a1) (fun r14 => ob (FX8_placeOf σ r6 r14) (fun r16 => some r16)))))
    else some (-1000000002 : Int32))
set_option maxRecDepth 100000 in
set_option maxHeartbeats 4000000 in
theorem c_X8_number {σ : SS} {a0 : Int32} {a1 : Int32} {r : Int32} (hf : FX8_number σ a0 a1 = some r) : Mcw wsM yX8_number cX8_number 4 (some .int) ({ frames := 4, cells := 0, slots := 0, locals := 90 } : Room) (fun g => [.ref (g.2.1 0), .int a0, .int a1]) σ (fun g => some (.int r)) σ := by
  refine w_enter wsM_fix (by decide) (fun g => Nat.le_of_ble_eq_true rfl) ?_
  intro X g hX
  replace hX : Okw wsM X g cX8_number 4 RX8 (some .int) ({ frames := 4, cells := 0, slots := 0, locals := 90 } : Room) (fun g => some (.int r)) σ := hX
  have h0 := hX.1
  show Vx X g.1 4 (wsM g σ) 0 [(0, .ref (g.2.1 0)), (1, .int a0), (2, .int a1)] []
  rw [FX8_number] at hf
  refine vx_aload_n h0 dX8_number_0 rfl ?_
  refine vx_iload_n h0 dX8_number_1 rfl ?_
  obtain ⟨r2, h1, hf⟩ := ob_some hf
  refine w_callV (st := []) (ci := 8) (q0 := 0) hX (c_X8_isClause h1) ce_X8_isClause q965 ⟨rfl, rfl⟩ ⟨by decide, by decide⟩ rfl rfl rfl rfl (mo_0 g _) rfl (Nat.le_of_ble_eq_true rfl) dX8_number_2 ?_
  show Vx X g.1 4 (wsM g σ) 5 [(0, .ref (g.2.1 0)), (1, .int a0), (2, .int a1)] [.int r2]
  refine vx_if_ne (tgt := 11) h0 dX8_number_5 (by decide) (fun c3 => ?_) (fun c3 => ?_)
  · replace hf := (if_neg c3).symm.trans hf
    refine vx_iload_n h0 dX8_number_11 rfl ?_
    refine vx_if_ge (tgt := 18) h0 dX8_number_12 (by decide) (fun c4 => ?_) (fun c4 => ?_)
    · replace hf := (if_pos c4).symm.trans hf
      refine vx_aload_n h0 dX8_number_18 rfl ?_
      obtain ⟨r6, h5, hf⟩ := ob_some hf
      refine w_callV (st := []) (ci := 8) (q0 := 0) hX (c_X8_now h5) ce_X8_now q969 ⟨rfl, rfl⟩ ⟨by decide, by decide⟩ rfl rfl rfl rfl (mo_0 g _) rfl (Nat.le_of_ble_eq_true rfl) dX8_number_19 ?_
      show Vx X g.1 4 (wsM g σ) 22 [(0, .ref (g.2.1 0)), (1, .int a0), (2, .int a1)] [.int r6]
      refine vx_istore_n (ls' := [(3, .int r6), (0, .ref (g.2.1 0)), (1, .int a0), (2, .int a1)]) h0 dX8_number_22 (by decide) rfl ?_
      refine vx_iload_n h0 dX8_number_23 rfl ?_
      refine vx_iload_n h0 dX8_number_24 rfl ?_
      obtain ⟨r8, h7, hf⟩ := ob_some hf
      refine w_callS (st := []) hX (c_X8_has h7) ce_X8_has q927 ⟨rfl, rfl⟩ ⟨by decide, by decide⟩ rfl rfl rfl (Nat.le_of_ble_eq_true rfl) dX8_number_25 ?_
      show Vx X g.1 4 (wsM g σ) 28 [(3, .int r6), (0, .ref (g.2.1 0)), (1, .int a0), (2, .int a1)] [.int r8]
      refine vx_if_eq (tgt := 54) h0 dX8_number_28 (by decide) (fun c9 => ?_) (fun c9 => ?_)
      · replace hf := (if_pos c9).symm.trans hf
        refine vx_iconst (v := (-1 : Int32)) h0 dX8_number_54 (by decide) ?_
        exact w_iretP hX hf dX8_number_55
      · replace hf := (if_neg c9).symm.trans hf
        refine vx_iload_n h0 dX8_number_31 rfl ?_
        refine vx_aload_n h0 dX8_number_32 rfl ?_
        refine vx_iload_n h0 dX8_number_33 rfl ?_
        obtain ⟨r11, h10, hf⟩ := ob_some hf
        refine w_callV (st := [.int a1]) (ci := 8) (q0 := 0) hX (c_X8_depthOf h10) ce_X8_depthOf q1057 ⟨rfl, rfl⟩ ⟨by decide, by decide⟩ rfl rfl rfl rfl (mo_0 g _) rfl (Nat.le_of_ble_eq_true rfl) dX8_number_34 ?_
        show Vx X g.1 4 (wsM g σ) 37 [(3, .int r6), (0, .ref (g.2.1 0)), (1, .int a0), (2, .int a1)] [.int r11, .int a1]
        refine vx_icmp_gt (tgt := 54) h0 dX8_number_37 (by decide) (fun c12 => ?_) (fun c12 => ?_)
        · replace hf := (if_pos c12).symm.trans hf
          refine vx_iconst (v := (-1 : Int32)) h0 dX8_number_54 (by decide) ?_
          exact w_iretP hX hf dX8_number_55
        · replace hf := (if_neg c12).symm.trans hf
          refine vx_aload_n h0 dX8_number_40 rfl ?_
          refine vx_iload_n h0 dX8_number_41 rfl ?_
          refine vx_aload_n h0 dX8_number_42 rfl ?_
          refine vx_iload_n h0 dX8_number_43 rfl ?_
          refine vx_iload_n h0 dX8_number_44 rfl ?_
          obtain ⟨r14, h13, hf⟩ := ob_some hf
          refine w_callV (st := [.int r6, .ref (g.2.1 0)]) (ci := 8) (q0 := 0) hX (c_X8_upTo h13) ce_X8_upTo q1065 ⟨rfl, rfl⟩ ⟨by decide, by decide⟩ rfl rfl rfl rfl (mo_0 g _) rfl (Nat.le_of_ble_eq_true rfl) dX8_number_45 ?_
          show Vx X g.1 4 (wsM g σ) 48 [(3, .int r6), (0, .ref (g.2.1 0)), (1, .int a0), (2, .int a1)] [.int r14, .int r6, .ref (g.2.1 0)]
          obtain ⟨r16, h15, hf⟩ := ob_some hf
          refine w_callV (st := []) (ci := 8) (q0 := 0) hX (c_X8_placeOf h15) ce_X8_placeOf q1069 ⟨rfl, rfl⟩ ⟨by decide, by decide⟩ rfl rfl rfl rfl (mo_0 g _) rfl (Nat.le_of_ble_eq_true rfl) dX8_number_48 ?_
          show Vx X g.1 4 (wsM g σ) 51 [(3, .int r6), (0, .ref (g.2.1 0)), (1, .int a0), (2, .int a1)] [.int r16]
          refine vx_goto (tgt := 55) h0 dX8_number_51 (by decide) ?_
          exact w_iretP hX hf dX8_number_55
    · replace hf := (if_neg c4).symm.trans hf
      refine vx_ldc h0 q898 dX8_number_15 ?_
      exact w_iretP hX hf dX8_number_17
  · replace hf := (if_pos c3).symm.trans hf
    refine vx_ldc h0 q946 dX8_number_8 ?_
    exact w_iretP hX hf dX8_number_10
def FX8_hangs (σ : SS) (a0 : Int32) (a1 : Int32) : Option (Int32 × SS) :=
  ob (FX8_isClause σ a0) (fun r2 => if r2 = 0 then some ((-1000000001 : Int32), σ)
    else if a1 = (0 : Int32) then ob (FX8_matters σ (jshl (1 : Int32) a0)) (fun p6 => some (p6.1, p6.2))
    else if a1 = (1 : Int32) then ob (FX8_settles σ a0) (fun p9 => some (p9.1, p9.2))
    else if a1 = (2 : Int32) then ob (FX8_brings σ a0) (fun p12 => some (p12.1, p12.2))
    else if a1 = (3 : Int32) then ob (FX8_surely σ (2 : Int32)) (fun p15 => ob (FX8_has p15.2 p15.1 a0) (fun r17 => if r17 = 0 then ob (FX8_surely p15.2 (1 : Int32)) (fun p20 => ob (FX8_has p20.2 p20.1 a0) (fun r22 => if r22 = 0 then some ((0 : Int32), p20.2)
    else some ((1 : Int32), p20.2)))
    else some ((2 : Int32), p15.2)))
    else some ((-1000000002 : Int32), σ))
set_option maxRecDepth 100000 in
set_option maxHeartbeats 4000000 in
theorem c_X8_hangs {σ : SS} {a0 : Int32} {a1 : Int32} {r : Int32} {σr : SS} (hf : FX8_hangs σ a0 a1 = some (r, σr)) : Mcw wsM yX8_hangs cX8_hangs 3 (some .int) ({ frames := 5, cells := 0, slots := 0, locals := 119 } : Room) (fun g => [.ref (g.2.1 0), .int a0, .int a1]) σ (fun g => some (.int r)) σr := by
  refine w_enter wsM_fix (by decide) (fun g => Nat.le_of_ble_eq_true rfl) ?_
  intro X g hX
  replace hX : Okw wsM X g cX8_hangs 3 RX8 (some .int) ({ frames := 5, cells := 0, slots := 0, locals := 119 } : Room) (fun g => some (.int r)) σr := hX
  have h0 := hX.1
  show Vx X g.1 3 (wsM g σ) 0 [(0, .ref (g.2.1 0)), (1, .int a0), (2, .int a1)] []
  rw [FX8_hangs] at hf
  refine vx_aload_n h0 dX8_hangs_0 rfl ?_
  refine vx_iload_n h0 dX8_hangs_1 rfl ?_
  obtain ⟨r2, h1, hf⟩ := ob_some hf
  refine w_callV (st := []) (ci := 8) (q0 := 0) hX (c_X8_isClause h1) ce_X8_isClause q965 ⟨rfl, rfl⟩ ⟨by decide, by decide⟩ rfl rfl rfl rfl (mo_0 g _) rfl (Nat.le_of_ble_eq_true rfl) dX8_hangs_2 ?_
  show Vx X g.1 3 (wsM g σ) 5 [(0, .ref (g.2.1 0)), (1, .int a0), (2, .int a1)] [.int r2]
  refine vx_if_ne (tgt := 11) h0 dX8_hangs_5 (by decide) (fun c3 => ?_) (fun c3 => ?_)
  · replace hf := (if_neg c3).symm.trans hf
    refine vx_iload_n h0 dX8_hangs_11 rfl ?_
    by_cases c4 : a1 = (0 : Int32)
    · replace hf := (if_pos c4).symm.trans hf
      refine vx_tabK (off := 32) (tgt := 44) h0 (0 : Int32) c4 dX8_hangs_12 (by decide) (by decide) (by decide) (by decide) ?_
      refine vx_aload_n h0 dX8_hangs_44 rfl ?_
      refine vx_iconst (v := (1 : Int32)) h0 dX8_hangs_45 (by decide) ?_
      refine vx_iload_n h0 dX8_hangs_46 rfl ?_
      refine vx_ishl h0 dX8_hangs_47 ?_
      obtain ⟨p6, h5, hf⟩ := ob_some hf
      refine w_callV (st := []) (ci := 8) (q0 := 0) hX (c_X8_matters h5) ce_X8_matters q1041 ⟨rfl, rfl⟩ ⟨by decide, by decide⟩ rfl rfl rfl rfl (mo_0 g _) rfl (Nat.le_of_ble_eq_true rfl) dX8_hangs_48 ?_
      show Vx X g.1 3 (wsM g p6.2) 51 [(0, .ref (g.2.1 0)), (1, .int a0), (2, .int a1)] [.int p6.1]
      exact w_iretE hX hf dX8_hangs_51
    · replace hf := (if_neg c4).symm.trans hf
      by_cases c7 : a1 = (1 : Int32)
      · replace hf := (if_pos c7).symm.trans hf
        refine vx_tabK (off := 40) (tgt := 52) h0 (1 : Int32) c7 dX8_hangs_12 (by decide) (by decide) (by decide) (by decide) ?_
        refine vx_aload_n h0 dX8_hangs_52 rfl ?_
        refine vx_iload_n h0 dX8_hangs_53 rfl ?_
        obtain ⟨p9, h8, hf⟩ := ob_some hf
        refine w_callV (st := []) (ci := 8) (q0 := 0) hX (c_X8_settles h8) ce_X8_settles q1101 ⟨rfl, rfl⟩ ⟨by decide, by decide⟩ rfl rfl rfl rfl (mo_0 g _) rfl (Nat.le_of_ble_eq_true rfl) dX8_hangs_54 ?_
        show Vx X g.1 3 (wsM g p9.2) 57 [(0, .ref (g.2.1 0)), (1, .int a0), (2, .int a1)] [.int p9.1]
        exact w_iretE hX hf dX8_hangs_57
      · replace hf := (if_neg c7).symm.trans hf
        by_cases c10 : a1 = (2 : Int32)
        · replace hf := (if_pos c10).symm.trans hf
          refine vx_tabK (off := 46) (tgt := 58) h0 (2 : Int32) c10 dX8_hangs_12 (by decide) (by decide) (by decide) (by decide) ?_
          refine vx_aload_n h0 dX8_hangs_58 rfl ?_
          refine vx_iload_n h0 dX8_hangs_59 rfl ?_
          obtain ⟨p12, h11, hf⟩ := ob_some hf
          refine w_callV (st := []) (ci := 8) (q0 := 0) hX (c_X8_brings h11) ce_X8_brings q1105 ⟨rfl, rfl⟩ ⟨by decide, by decide⟩ rfl rfl rfl rfl (mo_0 g _) rfl (Nat.le_of_ble_eq_true rfl) dX8_hangs_60 ?_
          show Vx X g.1 3 (wsM g p12.2) 63 [(0, .ref (g.2.1 0)), (1, .int a0), (2, .int a1)] [.int p12.1]
          exact w_iretE hX hf dX8_hangs_63
        · replace hf := (if_neg c10).symm.trans hf
          by_cases c13 : a1 = (3 : Int32)
          · replace hf := (if_pos c13).symm.trans hf
            refine vx_tabK (off := 52) (tgt := 64) h0 (3 : Int32) c13 dX8_hangs_12 (by decide) (by decide) (by decide) (by decide) ?_
            refine vx_aload_n h0 dX8_hangs_64 rfl ?_
            refine vx_iconst (v := (2 : Int32)) h0 dX8_hangs_65 (by decide) ?_
            obtain ⟨p15, h14, hf⟩ := ob_some hf
            refine w_callV (st := []) (ci := 8) (q0 := 0) hX (c_X8_surely h14) ce_X8_surely q1005 ⟨rfl, rfl⟩ ⟨by decide, by decide⟩ rfl rfl rfl rfl (mo_0 g _) rfl (Nat.le_of_ble_eq_true rfl) dX8_hangs_66 ?_
            show Vx X g.1 3 (wsM g p15.2) 69 [(0, .ref (g.2.1 0)), (1, .int a0), (2, .int a1)] [.int p15.1]
            refine vx_iload_n h0 dX8_hangs_69 rfl ?_
            obtain ⟨r17, h16, hf⟩ := ob_some hf
            refine w_callS (st := []) hX (c_X8_has h16) ce_X8_has q927 ⟨rfl, rfl⟩ ⟨by decide, by decide⟩ rfl rfl rfl (Nat.le_of_ble_eq_true rfl) dX8_hangs_70 ?_
            show Vx X g.1 3 (wsM g p15.2) 73 [(0, .ref (g.2.1 0)), (1, .int a0), (2, .int a1)] [.int r17]
            refine vx_if_eq (tgt := 80) h0 dX8_hangs_73 (by decide) (fun c18 => ?_) (fun c18 => ?_)
            · replace hf := (if_pos c18).symm.trans hf
              refine vx_aload_n h0 dX8_hangs_80 rfl ?_
              refine vx_iconst (v := (1 : Int32)) h0 dX8_hangs_81 (by decide) ?_
              obtain ⟨p20, h19, hf⟩ := ob_some hf
              refine w_callV (st := []) (ci := 8) (q0 := 0) hX (c_X8_surely h19) ce_X8_surely q1005 ⟨rfl, rfl⟩ ⟨by decide, by decide⟩ rfl rfl rfl rfl (mo_0 g _) rfl (Nat.le_of_ble_eq_true rfl) dX8_hangs_82 ?_
              show Vx X g.1 3 (wsM g p20.2) 85 [(0, .ref (g.2.1 0)), (1, .int a0), (2, .int a1)] [.int p20.1]
              refine vx_iload_n h0 dX8_hangs_85 rfl ?_
              obtain ⟨r22, h21, hf⟩ := ob_some hf
              refine w_callS (st := []) hX (c_X8_has h21) ce_X8_has q927 ⟨rfl, rfl⟩ ⟨by decide, by decide⟩ rfl rfl rfl (Nat.le_of_ble_eq_true rfl) dX8_hangs_86 ?_
              show Vx X g.1 3 (wsM g p20.2) 89 [(0, .ref (g.2.1 0)), (1, .int a0), (2, .int a1)] [.int r22]
              refine vx_if_eq (tgt := 96) h0 dX8_hangs_89 (by decide) (fun c23 => ?_) (fun c23 => ?_)
              · replace hf := (if_pos c23).symm.trans hf
                refine vx_iconst (v := (0 : Int32)) h0 dX8_hangs_96 (by decide) ?_
                exact w_iretE hX hf dX8_hangs_97
              · replace hf := (if_neg c23).symm.trans hf
                refine vx_iconst (v := (1 : Int32)) h0 dX8_hangs_92 (by decide) ?_
                refine vx_goto (tgt := 97) h0 dX8_hangs_93 (by decide) ?_
                exact w_iretE hX hf dX8_hangs_97
            · replace hf := (if_neg c18).symm.trans hf
              refine vx_iconst (v := (2 : Int32)) h0 dX8_hangs_76 (by decide) ?_
              refine vx_goto (tgt := 97) h0 dX8_hangs_77 (by decide) ?_
              exact w_iretE hX hf dX8_hangs_97
          · replace hf := (if_neg c13).symm.trans hf
            have nc4 : ¬ Int32.toInt a1 = 0 := lv_neT c4 rfl
            have nc7 : ¬ Int32.toInt a1 = 1 := lv_neT c7 rfl
            have nc10 : ¬ Int32.toInt a1 = 2 := lv_neT c10 rfl
            have nc13 : ¬ Int32.toInt a1 = 3 := lv_neT c13 rfl
            refine vx_tabOut (tgt := 98) h0 dX8_hangs_12 (by omega) (by decide) ?_
            refine vx_ldc h0 q898 dX8_hangs_98 ?_
            exact w_iretE hX hf dX8_hangs_100
  · replace hf := (if_pos c3).symm.trans hf
    refine vx_ldc h0 q946 dX8_hangs_8 ?_
    exact w_iretE hX hf dX8_hangs_10
def FX8_term_L79 (σ : SS) (v1 : Int32) (v3 : Int32) (k : Option (Int32 × SS)) : Nat → Int32 → Option (Int32 × SS)
  | 0, _ => none
  | n + 1, v4 => if (gI σ 8) ≤ v4 then k
    else gd (inb v4 30) (ob (FX8_has σ v3 (gA σ 9 (Int32.toNatClampNeg v4))) (fun r16 => if r16 = 0 then FX8_term_L79 σ v1 v3 k n (v4 + (1 : Int32))
    else gd (inb v4 30) (if (gA σ 10 (Int32.toNatClampNeg v4)) = 0 then gd (inb v4 30) (if (gA σ 11 (Int32.toNatClampNeg v4)) = v1 then gd (inb v4 30) (some ((gA σ 9 (Int32.toNatClampNeg v4)), σ))
    else FX8_term_L79 σ v1 v3 k n (v4 + (1 : Int32)))
    else FX8_term_L79 σ v1 v3 k n (v4 + (1 : Int32)))))
set_option maxRecDepth 100000 in
set_option maxHeartbeats 4000000 in
theorem PX8_term_L79 {X : Bx} {g : Gx} {r : Int32} {σr : SS} {σ : SS} (hX : Okw wsM X g cX8_term 5 RX8 (some .int) ({ frames := 4, cells := 0, slots := 0, locals := 90 } : Room) (fun g => some (.int r)) σr) {v1 : Int32} {v3 : Int32} {k : Option (Int32 × SS)} (hk : k = some (r, σr) → Vx X g.1 5 (wsM g σ) 137 [] []) : ∀ (n : Nat) (v4 : Int32), FX8_term_L79 σ v1 v3 k n v4 = some (r, σr) → Vx X g.1 5 (wsM g σ) 79 [(0, .ref (g.2.1 0)), (1, .int v1), (3, .int v3), (4, .int v4)] [] := by
  have h0 := hX.1
  intro n
  induction n with
  | zero =>
    intro v4 hf
    rw [FX8_term_L79] at hf
    cases hf
  | succ n ih =>
    intro v4 hf
    rw [FX8_term_L79] at hf
    refine vx_iload h0 dX8_term_79 rfl ?_
    refine vx_aload_n h0 dX8_term_81 rfl ?_
    refine mg_0_8 hX q792 dX8_term_82 ?_
    refine vx_icmp_ge (tgt := 137) h0 dX8_term_85 (by decide) (fun c13 => ?_) (fun c13 => ?_)
    · replace hf := (if_pos c13).symm.trans hf
      refine vx_sub [] rfl ?_
      exact hk hf
    · replace hf := (if_neg c13).symm.trans hf
      refine vx_iload_n h0 dX8_term_88 rfl ?_
      refine vx_aload_n h0 dX8_term_89 rfl ?_
      refine mg_0_9 hX q793 dX8_term_90 ?_
      refine vx_iload h0 dX8_term_93 rfl ?_
      obtain ⟨b14, hf⟩ := gd_some hf
      refine ml_6 hX b14 dX8_term_95 ?_
      obtain ⟨r16, h15, hf⟩ := ob_some hf
      refine w_callS (st := []) hX (c_X8_has h15) ce_X8_has q927 ⟨rfl, rfl⟩ ⟨by decide, by decide⟩ rfl rfl rfl (Nat.le_of_ble_eq_true rfl) dX8_term_96 ?_
      show Vx X g.1 5 (wsM g σ) 99 [(0, .ref (g.2.1 0)), (1, .int v1), (3, .int v3), (4, .int v4)] [.int r16]
      refine vx_if_eq (tgt := 131) h0 dX8_term_99 (by decide) (fun c17 => ?_) (fun c17 => ?_)
      · replace hf := (if_pos c17).symm.trans hf
        refine vx_iinc (q := 3) (v := (v4 + (1 : Int32))) (ls' := [(4, .int (v4 + (1 : Int32))), (0, .ref (g.2.1 0)), (1, .int v1), (3, .int v3)]) h0 dX8_term_131 rfl rfl (by decide) rfl ?_
        refine vx_goto (tgt := 79) h0 dX8_term_134 (by decide) ?_
        refine vx_sub [1, 2, 3, 0] rfl ?_
        exact ih _ hf
      · replace hf := (if_neg c17).symm.trans hf
        refine vx_aload_n h0 dX8_term_102 rfl ?_
        refine mg_0_10 hX q794 dX8_term_103 ?_
        refine vx_iload h0 dX8_term_106 rfl ?_
        obtain ⟨b18, hf⟩ := gd_some hf
        refine ml_7 hX b18 dX8_term_108 ?_
        refine vx_if_ne (tgt := 131) h0 dX8_term_109 (by decide) (fun c19 => ?_) (fun c19 => ?_)
        · replace hf := (if_neg c19).symm.trans hf
          refine vx_iinc (q := 3) (v := (v4 + (1 : Int32))) (ls' := [(4, .int (v4 + (1 : Int32))), (0, .ref (g.2.1 0)), (1, .int v1), (3, .int v3)]) h0 dX8_term_131 rfl rfl (by decide) rfl ?_
          refine vx_goto (tgt := 79) h0 dX8_term_134 (by decide) ?_
          refine vx_sub [1, 2, 3, 0] rfl ?_
          exact ih _ hf
        · replace hf := (if_pos c19).symm.trans hf
          refine vx_aload_n h0 dX8_term_112 rfl ?_
          refine mg_0_11 hX q795 dX8_term_113 ?_
          refine vx_iload h0 dX8_term_116 rfl ?_
          obtain ⟨b20, hf⟩ := gd_some hf
          refine ml_8 hX b20 dX8_term_118 ?_
          refine vx_iload_n h0 dX8_term_119 rfl ?_
          refine vx_icmp_ne (tgt := 131) h0 dX8_term_120 (by decide) (fun c21 => ?_) (fun c21 => ?_)
          · replace hf := (if_neg c21).symm.trans hf
            refine vx_iinc (q := 3) (v := (v4 + (1 : Int32))) (ls' := [(4, .int (v4 + (1 : Int32))), (0, .ref (g.2.1 0)), (1, .int v1), (3, .int v3)]) h0 dX8_term_131 rfl rfl (by decide) rfl ?_
            refine vx_goto (tgt := 79) h0 dX8_term_134 (by decide) ?_
            refine vx_sub [1, 2, 3, 0] rfl ?_
            exact ih _ hf
          · replace hf := (if_pos c21).symm.trans hf
            refine vx_aload_n h0 dX8_term_123 rfl ?_
            refine mg_0_9 hX q793 dX8_term_124 ?_
            refine vx_iload h0 dX8_term_127 rfl ?_
            obtain ⟨b22, hf⟩ := gd_some hf
            refine ml_6 hX b22 dX8_term_129 ?_
            exact w_iretE hX hf dX8_term_130
def FX8_term (σ : SS) (a0 : Int32) (a1 : Int32) : Option (Int32 × SS) :=
  ob (FX8_in σ a0 (0 : Int32) (7 : Int32)) (fun r2 => if r2 = 0 then some ((-1000000001 : Int32), σ)
    else ob (FX8_now σ) (fun r5 => if a1 = (0 : Int32) then ob (FX8_often σ r5 a0 (0 : Int32) (gI σ 8)) (fun r8 => some (r8, σ))
    else if a1 = (1 : Int32) then ob (FX8_often σ r5 a0 (1 : Int32) (gI σ 8)) (fun r11 => some (r11, σ))
    else if a1 = (2 : Int32) then FX8_term_L79 σ a0 r5 (some ((-1 : Int32), σ)) 5000 (0 : Int32)
    else if a1 = (3 : Int32) then ob (FX8_roundOf σ r5) (fun p25 => ob (FX8_has p25.2 p25.1 a0) (fun r27 => if r27 = 0 then some ((0 : Int32), p25.2)
    else some ((1 : Int32), p25.2)))
    else if a1 = (4 : Int32) then ob (FX8_hangsOn σ r5 a0) (fun r31 => some (r31, σ))
    else some ((-1000000002 : Int32), σ)))
set_option maxRecDepth 100000 in
set_option maxHeartbeats 4000000 in
theorem c_X8_term {σ : SS} {a0 : Int32} {a1 : Int32} {r : Int32} {σr : SS} (hf : FX8_term σ a0 a1 = some (r, σr)) : Mcw wsM yX8_term cX8_term 5 (some .int) ({ frames := 4, cells := 0, slots := 0, locals := 90 } : Room) (fun g => [.ref (g.2.1 0), .int a0, .int a1]) σ (fun g => some (.int r)) σr := by
  refine w_enter wsM_fix (by decide) (fun g => Nat.le_of_ble_eq_true rfl) ?_
  intro X g hX
  replace hX : Okw wsM X g cX8_term 5 RX8 (some .int) ({ frames := 4, cells := 0, slots := 0, locals := 90 } : Room) (fun g => some (.int r)) σr := hX
  have h0 := hX.1
  show Vx X g.1 5 (wsM g σ) 0 [(0, .ref (g.2.1 0)), (1, .int a0), (2, .int a1)] []
  rw [FX8_term] at hf
  refine vx_iload_n h0 dX8_term_0 rfl ?_
  refine vx_iconst (v := (0 : Int32)) h0 dX8_term_1 (by decide) ?_
  refine vx_bipush (v := (7 : Int32)) h0 dX8_term_2 (by decide) ?_
  obtain ⟨r2, h1, hf⟩ := ob_some hf
  refine w_callS (st := []) hX (c_X8_in h1) ce_X8_in q895 ⟨rfl, rfl⟩ ⟨by decide, by decide⟩ rfl rfl rfl (Nat.le_of_ble_eq_true rfl) dX8_term_4 ?_
  show Vx X g.1 5 (wsM g σ) 7 [(0, .ref (g.2.1 0)), (1, .int a0), (2, .int a1)] [.int r2]
  refine vx_if_ne (tgt := 13) h0 dX8_term_7 (by decide) (fun c3 => ?_) (fun c3 => ?_)
  · replace hf := (if_neg c3).symm.trans hf
    refine vx_aload_n h0 dX8_term_13 rfl ?_
    obtain ⟨r5, h4, hf⟩ := ob_some hf
    refine w_callV (st := []) (ci := 8) (q0 := 0) hX (c_X8_now h4) ce_X8_now q969 ⟨rfl, rfl⟩ ⟨by decide, by decide⟩ rfl rfl rfl rfl (mo_0 g _) rfl (Nat.le_of_ble_eq_true rfl) dX8_term_14 ?_
    show Vx X g.1 5 (wsM g σ) 17 [(0, .ref (g.2.1 0)), (1, .int a0), (2, .int a1)] [.int r5]
    refine vx_istore_n (ls' := [(3, .int r5), (0, .ref (g.2.1 0)), (1, .int a0), (2, .int a1)]) h0 dX8_term_17 (by decide) rfl ?_
    refine vx_iload_n h0 dX8_term_18 rfl ?_
    by_cases c6 : a1 = (0 : Int32)
    · replace hf := (if_pos c6).symm.trans hf
      refine vx_tabK (off := 33) (tgt := 52) h0 (0 : Int32) c6 dX8_term_19 (by decide) (by decide) (by decide) (by decide) ?_
      refine vx_aload_n h0 dX8_term_52 rfl ?_
      refine vx_iload_n h0 dX8_term_53 rfl ?_
      refine vx_iload_n h0 dX8_term_54 rfl ?_
      refine vx_iconst (v := (0 : Int32)) h0 dX8_term_55 (by decide) ?_
      refine vx_aload_n h0 dX8_term_56 rfl ?_
      refine mg_0_8 hX q792 dX8_term_57 ?_
      obtain ⟨r8, h7, hf⟩ := ob_some hf
      refine w_callV (st := []) (ci := 8) (q0 := 0) hX (c_X8_often h7) ce_X8_often q1029 ⟨rfl, rfl⟩ ⟨by decide, by decide⟩ rfl rfl rfl rfl (mo_0 g _) rfl (Nat.le_of_ble_eq_true rfl) dX8_term_60 ?_
      show Vx X g.1 5 (wsM g σ) 63 [(3, .int r5), (0, .ref (g.2.1 0)), (1, .int a0), (2, .int a1)] [.int r8]
      exact w_iretE hX hf dX8_term_63
    · replace hf := (if_neg c6).symm.trans hf
      by_cases c9 : a1 = (1 : Int32)
      · replace hf := (if_pos c9).symm.trans hf
        refine vx_tabK (off := 45) (tgt := 64) h0 (1 : Int32) c9 dX8_term_19 (by decide) (by decide) (by decide) (by decide) ?_
        refine vx_aload_n h0 dX8_term_64 rfl ?_
        refine vx_iload_n h0 dX8_term_65 rfl ?_
        refine vx_iload_n h0 dX8_term_66 rfl ?_
        refine vx_iconst (v := (1 : Int32)) h0 dX8_term_67 (by decide) ?_
        refine vx_aload_n h0 dX8_term_68 rfl ?_
        refine mg_0_8 hX q792 dX8_term_69 ?_
        obtain ⟨r11, h10, hf⟩ := ob_some hf
        refine w_callV (st := []) (ci := 8) (q0 := 0) hX (c_X8_often h10) ce_X8_often q1029 ⟨rfl, rfl⟩ ⟨by decide, by decide⟩ rfl rfl rfl rfl (mo_0 g _) rfl (Nat.le_of_ble_eq_true rfl) dX8_term_72 ?_
        show Vx X g.1 5 (wsM g σ) 75 [(3, .int r5), (0, .ref (g.2.1 0)), (1, .int a0), (2, .int a1)] [.int r11]
        exact w_iretE hX hf dX8_term_75
      · replace hf := (if_neg c9).symm.trans hf
        by_cases c12 : a1 = (2 : Int32)
        · replace hf := (if_pos c12).symm.trans hf
          refine vx_tabK (off := 57) (tgt := 76) h0 (2 : Int32) c12 dX8_term_19 (by decide) (by decide) (by decide) (by decide) ?_
          refine vx_iconst (v := (0 : Int32)) h0 dX8_term_76 (by decide) ?_
          refine vx_istore (ls' := [(4, .int (0 : Int32)), (3, .int r5), (0, .ref (g.2.1 0)), (1, .int a0), (2, .int a1)]) h0 dX8_term_77 (by decide) rfl ?_
          refine vx_sub [2, 3, 1, 0] rfl ?_
          refine PX8_term_L79 hX (fun hf => ?_) _ _ hf
          refine vx_iconst (v := (-1 : Int32)) h0 dX8_term_137 (by decide) ?_
          exact w_iretE hX hf dX8_term_138
        · replace hf := (if_neg c12).symm.trans hf
          by_cases c23 : a1 = (3 : Int32)
          · replace hf := (if_pos c23).symm.trans hf
            refine vx_tabK (off := 120) (tgt := 139) h0 (3 : Int32) c23 dX8_term_19 (by decide) (by decide) (by decide) (by decide) ?_
            refine vx_aload_n h0 dX8_term_139 rfl ?_
            refine vx_iload_n h0 dX8_term_140 rfl ?_
            obtain ⟨p25, h24, hf⟩ := ob_some hf
            refine w_callV (st := []) (ci := 8) (q0 := 0) hX (c_X8_roundOf h24) ce_X8_roundOf q1033 ⟨rfl, rfl⟩ ⟨by decide, by decide⟩ rfl rfl rfl rfl (mo_0 g _) rfl (Nat.le_of_ble_eq_true rfl) dX8_term_141 ?_
            show Vx X g.1 5 (wsM g p25.2) 144 [(3, .int r5), (0, .ref (g.2.1 0)), (1, .int a0), (2, .int a1)] [.int p25.1]
            refine vx_iload_n h0 dX8_term_144 rfl ?_
            obtain ⟨r27, h26, hf⟩ := ob_some hf
            refine w_callS (st := []) hX (c_X8_has h26) ce_X8_has q927 ⟨rfl, rfl⟩ ⟨by decide, by decide⟩ rfl rfl rfl (Nat.le_of_ble_eq_true rfl) dX8_term_145 ?_
            show Vx X g.1 5 (wsM g p25.2) 148 [(3, .int r5), (0, .ref (g.2.1 0)), (1, .int a0), (2, .int a1)] [.int r27]
            refine vx_if_eq (tgt := 155) h0 dX8_term_148 (by decide) (fun c28 => ?_) (fun c28 => ?_)
            · replace hf := (if_pos c28).symm.trans hf
              refine vx_iconst (v := (0 : Int32)) h0 dX8_term_155 (by decide) ?_
              exact w_iretE hX hf dX8_term_156
            · replace hf := (if_neg c28).symm.trans hf
              refine vx_iconst (v := (1 : Int32)) h0 dX8_term_151 (by decide) ?_
              refine vx_goto (tgt := 156) h0 dX8_term_152 (by decide) ?_
              exact w_iretE hX hf dX8_term_156
          · replace hf := (if_neg c23).symm.trans hf
            by_cases c29 : a1 = (4 : Int32)
            · replace hf := (if_pos c29).symm.trans hf
              refine vx_tabK (off := 138) (tgt := 157) h0 (4 : Int32) c29 dX8_term_19 (by decide) (by decide) (by decide) (by decide) ?_
              refine vx_aload_n h0 dX8_term_157 rfl ?_
              refine vx_iload_n h0 dX8_term_158 rfl ?_
              refine vx_iload_n h0 dX8_term_159 rfl ?_
              obtain ⟨r31, h30, hf⟩ := ob_some hf
              refine w_callV (st := []) (ci := 8) (q0 := 0) hX (c_X8_hangsOn h30) ce_X8_hangsOn q1037 ⟨rfl, rfl⟩ ⟨by decide, by decide⟩ rfl rfl rfl rfl (mo_0 g _) rfl (Nat.le_of_ble_eq_true rfl) dX8_term_160 ?_
              show Vx X g.1 5 (wsM g σ) 163 [(3, .int r5), (0, .ref (g.2.1 0)), (1, .int a0), (2, .int a1)] [.int r31]
              exact w_iretE hX hf dX8_term_163
            · replace hf := (if_neg c29).symm.trans hf
              have nc6 : ¬ Int32.toInt a1 = 0 := lv_neT c6 rfl
              have nc9 : ¬ Int32.toInt a1 = 1 := lv_neT c9 rfl
              have nc12 : ¬ Int32.toInt a1 = 2 := lv_neT c12 rfl
              have nc23 : ¬ Int32.toInt a1 = 3 := lv_neT c23 rfl
              have nc29 : ¬ Int32.toInt a1 = 4 := lv_neT c29 rfl
              refine vx_tabOut (tgt := 164) h0 dX8_term_19 (by omega) (by decide) ?_
              refine vx_ldc h0 q898 dX8_term_164 ?_
              exact w_iretE hX hf dX8_term_166
  · replace hf := (if_pos c3).symm.trans hf
    refine vx_ldc h0 q946 dX8_term_10 ?_
    exact w_iretE hX hf dX8_term_12
def FX8_by (σ : SS) (a0 : Int32) (a1 : Int32) : Option (Int32 × SS) :=
  ob (FX8_in σ a0 (0 : Int32) (63 : Int32)) (fun r2 => if r2 = 0 then some ((-1000000002 : Int32), σ)
    else ob (FX8_in σ a1 (0 : Int32) (1 : Int32)) (fun r5 => if r5 = 0 then some ((-1000000002 : Int32), σ)
    else ob (FX8_forceBy σ a0) (fun r8 => if a1 = 0 then some (r8, σ)
    else ob (FX8_wrongBy σ r8) (fun p11 => some (p11.1, p11.2)))))
set_option maxRecDepth 100000 in
set_option maxHeartbeats 4000000 in
theorem c_X8_by {σ : SS} {a0 : Int32} {a1 : Int32} {r : Int32} {σr : SS} (hf : FX8_by σ a0 a1 = some (r, σr)) : Mcw wsM yX8_by cX8_by 4 (some .int) ({ frames := 5, cells := 0, slots := 0, locals := 115 } : Room) (fun g => [.ref (g.2.1 0), .int a0, .int a1]) σ (fun g => some (.int r)) σr := by
  refine w_enter wsM_fix (by decide) (fun g => Nat.le_of_ble_eq_true rfl) ?_
  intro X g hX
  replace hX : Okw wsM X g cX8_by 4 RX8 (some .int) ({ frames := 5, cells := 0, slots := 0, locals := 115 } : Room) (fun g => some (.int r)) σr := hX
  have h0 := hX.1
  show Vx X g.1 4 (wsM g σ) 0 [(0, .ref (g.2.1 0)), (1, .int a0), (2, .int a1)] []
  rw [FX8_by] at hf
  refine vx_iload_n h0 dX8_by_0 rfl ?_
  refine vx_iconst (v := (0 : Int32)) h0 dX8_by_1 (by decide) ?_
  refine vx_bipush (v := (63 : Int32)) h0 dX8_by_2 (by decide) ?_
  obtain ⟨r2, h1, hf⟩ := ob_some hf
  refine w_callS (st := []) hX (c_X8_in h1) ce_X8_in q895 ⟨rfl, rfl⟩ ⟨by decide, by decide⟩ rfl rfl rfl (Nat.le_of_ble_eq_true rfl) dX8_by_4 ?_
  show Vx X g.1 4 (wsM g σ) 7 [(0, .ref (g.2.1 0)), (1, .int a0), (2, .int a1)] [.int r2]
  refine vx_if_eq (tgt := 19) h0 dX8_by_7 (by decide) (fun c3 => ?_) (fun c3 => ?_)
  · replace hf := (if_pos c3).symm.trans hf
    refine vx_ldc h0 q898 dX8_by_19 ?_
    exact w_iretE hX hf dX8_by_21
  · replace hf := (if_neg c3).symm.trans hf
    refine vx_iload_n h0 dX8_by_10 rfl ?_
    refine vx_iconst (v := (0 : Int32)) h0 dX8_by_11 (by decide) ?_
    refine vx_iconst (v := (1 : Int32)) h0 dX8_by_12 (by decide) ?_
    obtain ⟨r5, h4, hf⟩ := ob_some hf
    refine w_callS (st := []) hX (c_X8_in h4) ce_X8_in q895 ⟨rfl, rfl⟩ ⟨by decide, by decide⟩ rfl rfl rfl (Nat.le_of_ble_eq_true rfl) dX8_by_13 ?_
    show Vx X g.1 4 (wsM g σ) 16 [(0, .ref (g.2.1 0)), (1, .int a0), (2, .int a1)] [.int r5]
    refine vx_if_ne (tgt := 22) h0 dX8_by_16 (by decide) (fun c6 => ?_) (fun c6 => ?_)
    · replace hf := (if_neg c6).symm.trans hf
      refine vx_aload_n h0 dX8_by_22 rfl ?_
      refine vx_iload_n h0 dX8_by_23 rfl ?_
      obtain ⟨r8, h7, hf⟩ := ob_some hf
      refine w_callV (st := []) (ci := 8) (q0 := 0) hX (c_X8_forceBy h7) ce_X8_forceBy q973 ⟨rfl, rfl⟩ ⟨by decide, by decide⟩ rfl rfl rfl rfl (mo_0 g _) rfl (Nat.le_of_ble_eq_true rfl) dX8_by_24 ?_
      show Vx X g.1 4 (wsM g σ) 27 [(0, .ref (g.2.1 0)), (1, .int a0), (2, .int a1)] [.int r8]
      refine vx_istore_n (ls' := [(3, .int r8), (0, .ref (g.2.1 0)), (1, .int a0), (2, .int a1)]) h0 dX8_by_27 (by decide) rfl ?_
      refine vx_iload_n h0 dX8_by_28 rfl ?_
      refine vx_if_ne (tgt := 36) h0 dX8_by_29 (by decide) (fun c9 => ?_) (fun c9 => ?_)
      · replace hf := (if_neg c9).symm.trans hf
        refine vx_aload_n h0 dX8_by_36 rfl ?_
        refine vx_iload_n h0 dX8_by_37 rfl ?_
        obtain ⟨p11, h10, hf⟩ := ob_some hf
        refine w_callV (st := []) (ci := 8) (q0 := 0) hX (c_X8_wrongBy h10) ce_X8_wrongBy q1017 ⟨rfl, rfl⟩ ⟨by decide, by decide⟩ rfl rfl rfl rfl (mo_0 g _) rfl (Nat.le_of_ble_eq_true rfl) dX8_by_38 ?_
        show Vx X g.1 4 (wsM g p11.2) 41 [(3, .int r8), (0, .ref (g.2.1 0)), (1, .int a0), (2, .int a1)] [.int p11.1]
        exact w_iretE hX hf dX8_by_41
      · replace hf := (if_pos c9).symm.trans hf
        refine vx_iload_n h0 dX8_by_32 rfl ?_
        refine vx_goto (tgt := 41) h0 dX8_by_33 (by decide) ?_
        exact w_iretE hX hf dX8_by_41
    · replace hf := (if_pos c6).symm.trans hf
      refine vx_ldc h0 q898 dX8_by_19 ?_
      exact w_iretE hX hf dX8_by_21
def FX8_sign_ (σ : SS) (a0 : Int32) : Option (Int32 × SS) :=
  if 0 ≤ a0 then ob (FX8_writesAll σ) (fun p3 => if p3.1 ≤ a0 then some ((-1 : Int32), p3.2)
    else gd (inb a0 4000) (some ((gA p3.2 33 (Int32.toNatClampNeg a0)), p3.2)))
    else some ((-1000000002 : Int32), σ)
set_option maxRecDepth 100000 in
set_option maxHeartbeats 4000000 in
theorem c_X8_sign_ {σ : SS} {a0 : Int32} {r : Int32} {σr : SS} (hf : FX8_sign_ σ a0 = some (r, σr)) : Mcw wsM yX8_sign_ cX8_sign_ 2 (some .int) ({ frames := 5, cells := 0, slots := 0, locals := 113 } : Room) (fun g => [.ref (g.2.1 0), .int a0]) σ (fun g => some (.int r)) σr := by
  refine w_enter wsM_fix (by decide) (fun g => Nat.le_of_ble_eq_true rfl) ?_
  intro X g hX
  replace hX : Okw wsM X g cX8_sign_ 2 RX8 (some .int) ({ frames := 5, cells := 0, slots := 0, locals := 113 } : Room) (fun g => some (.int r)) σr := hX
  have h0 := hX.1
  show Vx X g.1 2 (wsM g σ) 0 [(0, .ref (g.2.1 0)), (1, .int a0)] []
  rw [FX8_sign_] at hf
  refine vx_iload_n h0 dX8_sign__0 rfl ?_
  refine vx_if_ge (tgt := 7) h0 dX8_sign__1 (by decide) (fun c1 => ?_) (fun c1 => ?_)
  · replace hf := (if_pos c1).symm.trans hf
    refine vx_iload_n h0 dX8_sign__7 rfl ?_
    refine vx_aload_n h0 dX8_sign__8 rfl ?_
    obtain ⟨p3, h2, hf⟩ := ob_some hf
    refine w_callV (st := [.int a0]) (ci := 8) (q0 := 0) hX (c_X8_writesAll h2) ce_X8_writesAll q1049 ⟨rfl, rfl⟩ ⟨by decide, by decide⟩ rfl rfl rfl rfl (mo_0 g _) rfl (Nat.le_of_ble_eq_true rfl) dX8_sign__9 ?_
    show Vx X g.1 2 (wsM g p3.2) 12 [(0, .ref (g.2.1 0)), (1, .int a0)] [.int p3.1, .int a0]
    refine vx_icmp_ge (tgt := 24) h0 dX8_sign__12 (by decide) (fun c4 => ?_) (fun c4 => ?_)
    · replace hf := (if_pos c4).symm.trans hf
      refine vx_iconst (v := (-1 : Int32)) h0 dX8_sign__24 (by decide) ?_
      exact w_iretE hX hf dX8_sign__25
    · replace hf := (if_neg c4).symm.trans hf
      refine vx_aload_n h0 dX8_sign__15 rfl ?_
      refine mg_0_33 hX q817 dX8_sign__16 ?_
      refine vx_iload_n h0 dX8_sign__19 rfl ?_
      obtain ⟨b5, hf⟩ := gd_some hf
      refine ml_22 hX b5 dX8_sign__20 ?_
      refine vx_goto (tgt := 25) h0 dX8_sign__21 (by decide) ?_
      exact w_iretE hX hf dX8_sign__25
  · replace hf := (if_neg c1).symm.trans hf
    refine vx_ldc h0 q898 dX8_sign__4 ?_
    exact w_iretE hX hf dX8_sign__6
def FX8_keep (σ : SS) (a0 : Int32) : Option (Int32 × SS) :=
  ob (FX8_in σ a0 (0 : Int32) (1 : Int32)) (fun r2 => if r2 = 0 then some ((-1000000001 : Int32), σ)
    else gd (inb ((3 : Int32) * a0) 6) (bd (sA σ 29 (upd (gA σ 29) (Int32.toNatClampNeg ((3 : Int32) * a0)) (gI σ 24))) (fun σ5 => gd (inb (((3 : Int32) * a0) + (1 : Int32)) 6) (bd (sA σ5 29 (upd (gA σ5 29) (Int32.toNatClampNeg (((3 : Int32) * a0) + (1 : Int32))) (gI σ5 25))) (fun σ7 => gd (inb (((3 : Int32) * a0) + (2 : Int32)) 6) (bd (sA σ7 29 (upd (gA σ7 29) (Int32.toNatClampNeg (((3 : Int32) * a0) + (2 : Int32))) (gI σ7 26))) (fun σ9 => gd (inb a0 2) (bd (sA σ9 30 (upd (gA σ9 30) (Int32.toNatClampNeg a0) (1 : Int32))) (fun σ11 => bd (sI σ11 28 (0 : Int32)) (fun σ12 => some ((1 : Int32), σ12)))))))))))
set_option maxRecDepth 100000 in
set_option maxHeartbeats 4000000 in
theorem c_X8_keep {σ : SS} {a0 : Int32} {r : Int32} {σr : SS} (hf : FX8_keep σ a0 = some (r, σr)) : Mcw wsM yX8_keep cX8_keep 2 (some .int) ({ frames := 1, cells := 0, slots := 0, locals := 22 } : Room) (fun g => [.ref (g.2.1 0), .int a0]) σ (fun g => some (.int r)) σr := by
  refine w_enter wsM_fix (by decide) (fun g => Nat.le_of_ble_eq_true rfl) ?_
  intro X g hX
  replace hX : Okw wsM X g cX8_keep 2 RX8 (some .int) ({ frames := 1, cells := 0, slots := 0, locals := 22 } : Room) (fun g => some (.int r)) σr := hX
  have h0 := hX.1
  show Vx X g.1 2 (wsM g σ) 0 [(0, .ref (g.2.1 0)), (1, .int a0)] []
  rw [FX8_keep] at hf
  refine vx_iload_n h0 dX8_keep_0 rfl ?_
  refine vx_iconst (v := (0 : Int32)) h0 dX8_keep_1 (by decide) ?_
  refine vx_iconst (v := (1 : Int32)) h0 dX8_keep_2 (by decide) ?_
  obtain ⟨r2, h1, hf⟩ := ob_some hf
  refine w_callS (st := []) hX (c_X8_in h1) ce_X8_in q895 ⟨rfl, rfl⟩ ⟨by decide, by decide⟩ rfl rfl rfl (Nat.le_of_ble_eq_true rfl) dX8_keep_3 ?_
  show Vx X g.1 2 (wsM g σ) 6 [(0, .ref (g.2.1 0)), (1, .int a0)] [.int r2]
  refine vx_if_ne (tgt := 12) h0 dX8_keep_6 (by decide) (fun c3 => ?_) (fun c3 => ?_)
  · replace hf := (if_neg c3).symm.trans hf
    refine vx_aload_n h0 dX8_keep_12 rfl ?_
    refine mg_0_29 hX q813 dX8_keep_13 ?_
    refine vx_iconst (v := (3 : Int32)) h0 dX8_keep_16 (by decide) ?_
    refine vx_iload_n h0 dX8_keep_17 rfl ?_
    refine vx_imul h0 dX8_keep_18 ?_
    refine vx_aload_n h0 dX8_keep_19 rfl ?_
    refine mg_0_24 hX q808 dX8_keep_20 ?_
    obtain ⟨b4, hf⟩ := gd_some hf
    refine ms_18 hX b4 dX8_keep_23 ?_
    generalize (sA σ 29 (upd (gA σ 29) (Int32.toNatClampNeg ((3 : Int32) * a0)) (gI σ 24))) = σ5 at hf ⊢
    replace hf := bd_h hf
    refine vx_aload_n h0 dX8_keep_24 rfl ?_
    refine mg_0_29 hX q813 dX8_keep_25 ?_
    refine vx_iconst (v := (3 : Int32)) h0 dX8_keep_28 (by decide) ?_
    refine vx_iload_n h0 dX8_keep_29 rfl ?_
    refine vx_imul h0 dX8_keep_30 ?_
    refine vx_iconst (v := (1 : Int32)) h0 dX8_keep_31 (by decide) ?_
    refine vx_iadd h0 dX8_keep_32 ?_
    refine vx_aload_n h0 dX8_keep_33 rfl ?_
    refine mg_0_25 hX q809 dX8_keep_34 ?_
    obtain ⟨b6, hf⟩ := gd_some hf
    refine ms_18 hX b6 dX8_keep_37 ?_
    generalize (sA σ5 29 (upd (gA σ5 29) (Int32.toNatClampNeg (((3 : Int32) * a0) + (1 : Int32))) (gI σ5 25))) = σ7 at hf ⊢
    replace hf := bd_h hf
    refine vx_aload_n h0 dX8_keep_38 rfl ?_
    refine mg_0_29 hX q813 dX8_keep_39 ?_
    refine vx_iconst (v := (3 : Int32)) h0 dX8_keep_42 (by decide) ?_
    refine vx_iload_n h0 dX8_keep_43 rfl ?_
    refine vx_imul h0 dX8_keep_44 ?_
    refine vx_iconst (v := (2 : Int32)) h0 dX8_keep_45 (by decide) ?_
    refine vx_iadd h0 dX8_keep_46 ?_
    refine vx_aload_n h0 dX8_keep_47 rfl ?_
    refine mg_0_26 hX q810 dX8_keep_48 ?_
    obtain ⟨b8, hf⟩ := gd_some hf
    refine ms_18 hX b8 dX8_keep_51 ?_
    generalize (sA σ7 29 (upd (gA σ7 29) (Int32.toNatClampNeg (((3 : Int32) * a0) + (2 : Int32))) (gI σ7 26))) = σ9 at hf ⊢
    replace hf := bd_h hf
    refine vx_aload_n h0 dX8_keep_52 rfl ?_
    refine mg_0_30 hX q814 dX8_keep_53 ?_
    refine vx_iload_n h0 dX8_keep_56 rfl ?_
    refine vx_iconst (v := (1 : Int32)) h0 dX8_keep_57 (by decide) ?_
    obtain ⟨b10, hf⟩ := gd_some hf
    refine ms_19 hX b10 (by decide) dX8_keep_58 ?_
    generalize (sA σ9 30 (upd (gA σ9 30) (Int32.toNatClampNeg a0) (1 : Int32))) = σ11 at hf ⊢
    replace hf := bd_h hf
    refine vx_aload_n h0 dX8_keep_59 rfl ?_
    refine vx_iconst (v := (0 : Int32)) h0 dX8_keep_60 (by decide) ?_
    refine mp_0_28 hX q812 dX8_keep_61 ?_
    generalize (sI σ11 28 (0 : Int32)) = σ12 at hf ⊢
    replace hf := bd_h hf
    refine vx_iconst (v := (1 : Int32)) h0 dX8_keep_64 (by decide) ?_
    exact w_iretE hX hf dX8_keep_65
  · replace hf := (if_pos c3).symm.trans hf
    refine vx_ldc h0 q946 dX8_keep_9 ?_
    exact w_iretE hX hf dX8_keep_11
def FX8_goBack (σ : SS) (a0 : Int32) : Option (Int32 × SS) :=
  ob (FX8_in σ a0 (0 : Int32) (1 : Int32)) (fun r2 => if r2 = 0 then some ((-1000000001 : Int32), σ)
    else gd (inb a0 2) (if (gA σ 30 (Int32.toNatClampNeg a0)) = 0 then some ((-1000000003 : Int32), σ)
    else gd (inb ((3 : Int32) * a0) 6) (bd (sI σ 24 (gA σ 29 (Int32.toNatClampNeg ((3 : Int32) * a0)))) (fun σ7 => gd (inb (((3 : Int32) * a0) + (1 : Int32)) 6) (bd (sI σ7 25 (gA σ7 29 (Int32.toNatClampNeg (((3 : Int32) * a0) + (1 : Int32))))) (fun σ9 => gd (inb (((3 : Int32) * a0) + (2 : Int32)) 6) (bd (sI σ9 26 (gA σ9 29 (Int32.toNatClampNeg (((3 : Int32) * a0) + (2 : Int32))))) (fun σ11 => bd (sI σ11 28 (0 : Int32)) (fun σ12 => some ((1 : Int32), σ12))))))))))
set_option maxRecDepth 100000 in
set_option maxHeartbeats 4000000 in
theorem c_X8_goBack {σ : SS} {a0 : Int32} {r : Int32} {σr : SS} (hf : FX8_goBack σ a0 = some (r, σr)) : Mcw wsM yX8_goBack cX8_goBack 2 (some .int) ({ frames := 1, cells := 0, slots := 0, locals := 22 } : Room) (fun g => [.ref (g.2.1 0), .int a0]) σ (fun g => some (.int r)) σr := by
  refine w_enter wsM_fix (by decide) (fun g => Nat.le_of_ble_eq_true rfl) ?_
  intro X g hX
  replace hX : Okw wsM X g cX8_goBack 2 RX8 (some .int) ({ frames := 1, cells := 0, slots := 0, locals := 22 } : Room) (fun g => some (.int r)) σr := hX
  have h0 := hX.1
  show Vx X g.1 2 (wsM g σ) 0 [(0, .ref (g.2.1 0)), (1, .int a0)] []
  rw [FX8_goBack] at hf
  refine vx_iload_n h0 dX8_goBack_0 rfl ?_
  refine vx_iconst (v := (0 : Int32)) h0 dX8_goBack_1 (by decide) ?_
  refine vx_iconst (v := (1 : Int32)) h0 dX8_goBack_2 (by decide) ?_
  obtain ⟨r2, h1, hf⟩ := ob_some hf
  refine w_callS (st := []) hX (c_X8_in h1) ce_X8_in q895 ⟨rfl, rfl⟩ ⟨by decide, by decide⟩ rfl rfl rfl (Nat.le_of_ble_eq_true rfl) dX8_goBack_3 ?_
  show Vx X g.1 2 (wsM g σ) 6 [(0, .ref (g.2.1 0)), (1, .int a0)] [.int r2]
  refine vx_if_ne (tgt := 12) h0 dX8_goBack_6 (by decide) (fun c3 => ?_) (fun c3 => ?_)
  · replace hf := (if_neg c3).symm.trans hf
    refine vx_aload_n h0 dX8_goBack_12 rfl ?_
    refine mg_0_30 hX q814 dX8_goBack_13 ?_
    refine vx_iload_n h0 dX8_goBack_16 rfl ?_
    obtain ⟨b4, hf⟩ := gd_some hf
    refine ml_19 hX b4 dX8_goBack_17 ?_
    refine vx_if_ne (tgt := 24) h0 dX8_goBack_18 (by decide) (fun c5 => ?_) (fun c5 => ?_)
    · replace hf := (if_neg c5).symm.trans hf
      refine vx_aload_n h0 dX8_goBack_24 rfl ?_
      refine vx_aload_n h0 dX8_goBack_25 rfl ?_
      refine mg_0_29 hX q813 dX8_goBack_26 ?_
      refine vx_iconst (v := (3 : Int32)) h0 dX8_goBack_29 (by decide) ?_
      refine vx_iload_n h0 dX8_goBack_30 rfl ?_
      refine vx_imul h0 dX8_goBack_31 ?_
      obtain ⟨b6, hf⟩ := gd_some hf
      refine ml_18 hX b6 dX8_goBack_32 ?_
      refine mp_0_24 hX q808 dX8_goBack_33 ?_
      generalize (sI σ 24 (gA σ 29 (Int32.toNatClampNeg ((3 : Int32) * a0)))) = σ7 at hf ⊢
      replace hf := bd_h hf
      refine vx_aload_n h0 dX8_goBack_36 rfl ?_
      refine vx_aload_n h0 dX8_goBack_37 rfl ?_
      refine mg_0_29 hX q813 dX8_goBack_38 ?_
      refine vx_iconst (v := (3 : Int32)) h0 dX8_goBack_41 (by decide) ?_
      refine vx_iload_n h0 dX8_goBack_42 rfl ?_
      refine vx_imul h0 dX8_goBack_43 ?_
      refine vx_iconst (v := (1 : Int32)) h0 dX8_goBack_44 (by decide) ?_
      refine vx_iadd h0 dX8_goBack_45 ?_
      obtain ⟨b8, hf⟩ := gd_some hf
      refine ml_18 hX b8 dX8_goBack_46 ?_
      refine mp_0_25 hX q809 dX8_goBack_47 ?_
      generalize (sI σ7 25 (gA σ7 29 (Int32.toNatClampNeg (((3 : Int32) * a0) + (1 : Int32))))) = σ9 at hf ⊢
      replace hf := bd_h hf
      refine vx_aload_n h0 dX8_goBack_50 rfl ?_
      refine vx_aload_n h0 dX8_goBack_51 rfl ?_
      refine mg_0_29 hX q813 dX8_goBack_52 ?_
      refine vx_iconst (v := (3 : Int32)) h0 dX8_goBack_55 (by decide) ?_
      refine vx_iload_n h0 dX8_goBack_56 rfl ?_
      refine vx_imul h0 dX8_goBack_57 ?_
      refine vx_iconst (v := (2 : Int32)) h0 dX8_goBack_58 (by decide) ?_
      refine vx_iadd h0 dX8_goBack_59 ?_
      obtain ⟨b10, hf⟩ := gd_some hf
      refine ml_18 hX b10 dX8_goBack_60 ?_
      refine mp_0_26 hX q810 dX8_goBack_61 ?_
      generalize (sI σ9 26 (gA σ9 29 (Int32.toNatClampNeg (((3 : Int32) * a0) + (2 : Int32))))) = σ11 at hf ⊢
      replace hf := bd_h hf
      refine vx_aload_n h0 dX8_goBack_64 rfl ?_
      refine vx_iconst (v := (0 : Int32)) h0 dX8_goBack_65 (by decide) ?_
      refine mp_0_28 hX q812 dX8_goBack_66 ?_
      generalize (sI σ11 28 (0 : Int32)) = σ12 at hf ⊢
      replace hf := bd_h hf
      refine vx_iconst (v := (1 : Int32)) h0 dX8_goBack_69 (by decide) ?_
      exact w_iretE hX hf dX8_goBack_70
    · replace hf := (if_pos c5).symm.trans hf
      refine vx_ldc h0 q952 dX8_goBack_21 ?_
      exact w_iretE hX hf dX8_goBack_23
  · replace hf := (if_pos c3).symm.trans hf
    refine vx_ldc h0 q946 dX8_goBack_9 ?_
    exact w_iretE hX hf dX8_goBack_11
