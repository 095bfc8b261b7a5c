/-! printed by wip/whole/gen.py: decode rows, functions, contracts -/
theorem dX8_takesPart_0 : decode cX8_takesPart 0 = .ok (.aload_n 0, 1) := by decide +kernel
theorem dX8_takesPart_1 : decode cX8_takesPart 1 = .ok (.getfield 122, 3) := by decide +kernel
theorem dX8_takesPart_4 : decode cX8_takesPart 4 = .ok (.bipush 30, 2) := by decide +kernel
theorem dX8_takesPart_6 : decode cX8_takesPart 6 = .ok (.if_icmp .ne 9, 3) := by decide +kernel
theorem dX8_takesPart_9 : decode cX8_takesPart 9 = .ok (.aload_n 0, 1) := by decide +kernel
theorem dX8_takesPart_10 : decode cX8_takesPart 10 = .ok (.iconst 3, 1) := by decide +kernel
theorem dX8_takesPart_11 : decode cX8_takesPart 11 = .ok (.invokevirtual 107, 3) := by decide +kernel
theorem dX8_takesPart_14 : decode cX8_takesPart 14 = .ok (.return_, 1) := by decide +kernel
theorem dX8_takesPart_15 : decode cX8_takesPart 15 = .ok (.aload_n 0, 1) := by decide +kernel
theorem dX8_takesPart_16 : decode cX8_takesPart 16 = .ok (.dup, 1) := by decide +kernel
theorem dX8_takesPart_17 : decode cX8_takesPart 17 = .ok (.getfield 93, 3) := by decide +kernel
theorem dX8_takesPart_20 : decode cX8_takesPart 20 = .ok (.iconst 1, 1) := by decide +kernel
theorem dX8_takesPart_21 : decode cX8_takesPart 21 = .ok (.iadd, 1) := by decide +kernel
theorem dX8_takesPart_22 : decode cX8_takesPart 22 = .ok (.putfield 93, 3) := by decide +kernel
theorem dX8_takesPart_25 : decode cX8_takesPart 25 = .ok (.aload_n 0, 1) := by decide +kernel
theorem dX8_takesPart_26 : decode cX8_takesPart 26 = .ok (.invokevirtual 99, 3) := by decide +kernel
theorem dX8_takesPart_29 : decode cX8_takesPart 29 = .ok (.pop, 1) := by decide +kernel
theorem dX8_takesPart_30 : decode cX8_takesPart 30 = .ok (.aload_n 0, 1) := by decide +kernel
theorem dX8_takesPart_31 : decode cX8_takesPart 31 = .ok (.getfield 93, 3) := by decide +kernel
theorem dX8_takesPart_34 : decode cX8_takesPart 34 = .ok (.istore_n 3, 1) := by decide +kernel
theorem dX8_takesPart_35 : decode cX8_takesPart 35 = .ok (.iload_n 2, 1) := by decide +kernel
theorem dX8_takesPart_36 : decode cX8_takesPart 36 = .ok (.iconst 2, 1) := by decide +kernel
theorem dX8_takesPart_37 : decode cX8_takesPart 37 = .ok (.if_icmp .ne 10, 3) := by decide +kernel
theorem dX8_takesPart_40 : decode cX8_takesPart 40 = .ok (.aload_n 0, 1) := by decide +kernel
theorem dX8_takesPart_41 : decode cX8_takesPart 41 = .ok (.invokevirtual 125, 3) := by decide +kernel
theorem dX8_takesPart_44 : decode cX8_takesPart 44 = .ok (.goto 9, 3) := by decide +kernel
theorem dX8_takesPart_47 : decode cX8_takesPart 47 = .ok (.aload_n 0, 1) := by decide +kernel
theorem dX8_takesPart_48 : decode cX8_takesPart 48 = .ok (.bipush 7, 2) := by decide +kernel
theorem dX8_takesPart_50 : decode cX8_takesPart 50 = .ok (.invokevirtual 114, 3) := by decide +kernel
theorem dX8_takesPart_53 : decode cX8_takesPart 53 = .ok (.istore 4, 2) := by decide +kernel
theorem dX8_takesPart_55 : decode cX8_takesPart 55 = .ok (.aload_n 0, 1) := by decide +kernel
theorem dX8_takesPart_56 : decode cX8_takesPart 56 = .ok (.getfield 50, 3) := by decide +kernel
theorem dX8_takesPart_59 : decode cX8_takesPart 59 = .ok (.aload_n 0, 1) := by decide +kernel
theorem dX8_takesPart_60 : decode cX8_takesPart 60 = .ok (.getfield 122, 3) := by decide +kernel
theorem dX8_takesPart_63 : decode cX8_takesPart 63 = .ok (.iload_n 1, 1) := by decide +kernel
theorem dX8_takesPart_64 : decode cX8_takesPart 64 = .ok (.iastore, 1) := by decide +kernel
theorem dX8_takesPart_65 : decode cX8_takesPart 65 = .ok (.aload_n 0, 1) := by decide +kernel
theorem dX8_takesPart_66 : decode cX8_takesPart 66 = .ok (.getfield 53, 3) := by decide +kernel
theorem dX8_takesPart_69 : decode cX8_takesPart 69 = .ok (.aload_n 0, 1) := by decide +kernel
theorem dX8_takesPart_70 : decode cX8_takesPart 70 = .ok (.getfield 122, 3) := by decide +kernel
theorem dX8_takesPart_73 : decode cX8_takesPart 73 = .ok (.iload_n 2, 1) := by decide +kernel
theorem dX8_takesPart_74 : decode cX8_takesPart 74 = .ok (.iastore, 1) := by decide +kernel
theorem dX8_takesPart_75 : decode cX8_takesPart 75 = .ok (.aload_n 0, 1) := by decide +kernel
theorem dX8_takesPart_76 : decode cX8_takesPart 76 = .ok (.getfield 56, 3) := by decide +kernel
theorem dX8_takesPart_79 : decode cX8_takesPart 79 = .ok (.aload_n 0, 1) := by decide +kernel
theorem dX8_takesPart_80 : decode cX8_takesPart 80 = .ok (.getfield 122, 3) := by decide +kernel
theorem dX8_takesPart_83 : decode cX8_takesPart 83 = .ok (.iload 4, 2) := by decide +kernel
theorem dX8_takesPart_85 : decode cX8_takesPart 85 = .ok (.iastore, 1) := by decide +kernel
theorem dX8_takesPart_86 : decode cX8_takesPart 86 = .ok (.aload_n 0, 1) := by decide +kernel
theorem dX8_takesPart_87 : decode cX8_takesPart 87 = .ok (.getfield 59, 3) := by decide +kernel
theorem dX8_takesPart_90 : decode cX8_takesPart 90 = .ok (.aload_n 0, 1) := by decide +kernel
theorem dX8_takesPart_91 : decode cX8_takesPart 91 = .ok (.getfield 122, 3) := by decide +kernel
theorem dX8_takesPart_94 : decode cX8_takesPart 94 = .ok (.iload_n 3, 1) := by decide +kernel
theorem dX8_takesPart_95 : decode cX8_takesPart 95 = .ok (.iastore, 1) := by decide +kernel
theorem dX8_takesPart_96 : decode cX8_takesPart 96 = .ok (.aload_n 0, 1) := by decide +kernel
theorem dX8_takesPart_97 : decode cX8_takesPart 97 = .ok (.dup, 1) := by decide +kernel
theorem dX8_takesPart_98 : decode cX8_takesPart 98 = .ok (.getfield 122, 3) := by decide +kernel
theorem dX8_takesPart_101 : decode cX8_takesPart 101 = .ok (.iconst 1, 1) := by decide +kernel
theorem dX8_takesPart_102 : decode cX8_takesPart 102 = .ok (.iadd, 1) := by decide +kernel
theorem dX8_takesPart_103 : decode cX8_takesPart 103 = .ok (.putfield 122, 3) := by decide +kernel
theorem dX8_takesPart_106 : decode cX8_takesPart 106 = .ok (.return_, 1) := by decide +kernel
theorem dX8_reads_0 : decode cX8_reads 0 = .ok (.iconst (-1), 1) := by decide +kernel
theorem dX8_reads_1 : decode cX8_reads 1 = .ok (.istore_n 1, 1) := by decide +kernel
theorem dX8_reads_2 : decode cX8_reads 2 = .ok (.aload_n 0, 1) := by decide +kernel
theorem dX8_reads_3 : decode cX8_reads 3 = .ok (.getfield 96, 3) := by decide +kernel
theorem dX8_reads_6 : decode cX8_reads 6 = .ok (.ifCond .ne 133, 3) := by decide +kernel
theorem dX8_reads_9 : decode cX8_reads 9 = .ok (.aload_n 0, 1) := by decide +kernel
theorem dX8_reads_10 : decode cX8_reads 10 = .ok (.invokevirtual 99, 3) := by decide +kernel
theorem dX8_reads_13 : decode cX8_reads 13 = .ok (.iconst (-1), 1) := by decide +kernel
theorem dX8_reads_14 : decode cX8_reads 14 = .ok (.if_icmp .ne 8, 3) := by decide +kernel
theorem dX8_reads_17 : decode cX8_reads 17 = .ok (.iload_n 1, 1) := by decide +kernel
theorem dX8_reads_18 : decode cX8_reads 18 = .ok (.iconst (-1), 1) := by decide +kernel
theorem dX8_reads_19 : decode cX8_reads 19 = .ok (.if_icmp .eq 120, 3) := by decide +kernel
theorem dX8_reads_22 : decode cX8_reads 22 = .ok (.aload_n 0, 1) := by decide +kernel
theorem dX8_reads_23 : decode cX8_reads 23 = .ok (.invokevirtual 99, 3) := by decide +kernel
theorem dX8_reads_26 : decode cX8_reads 26 = .ok (.istore_n 2, 1) := by decide +kernel
theorem dX8_reads_27 : decode cX8_reads 27 = .ok (.iload_n 2, 1) := by decide +kernel
theorem dX8_reads_28 : decode cX8_reads 28 = .ok (.bipush 99, 2) := by decide +kernel
theorem dX8_reads_30 : decode cX8_reads 30 = .ok (.if_icmp .ne 18, 3) := by decide +kernel
theorem dX8_reads_33 : decode cX8_reads 33 = .ok (.aload_n 0, 1) := by decide +kernel
theorem dX8_reads_34 : decode cX8_reads 34 = .ok (.iload_n 1, 1) := by decide +kernel
theorem dX8_reads_35 : decode cX8_reads 35 = .ok (.invokevirtual 128, 3) := by decide +kernel
theorem dX8_reads_38 : decode cX8_reads 38 = .ok (.aload_n 0, 1) := by decide +kernel
theorem dX8_reads_39 : decode cX8_reads 39 = .ok (.getfield 111, 3) := by decide +kernel
theorem dX8_reads_42 : decode cX8_reads 42 = .ok (.iconst 1, 1) := by decide +kernel
theorem dX8_reads_43 : decode cX8_reads 43 = .ok (.isub, 1) := by decide +kernel
theorem dX8_reads_44 : decode cX8_reads 44 = .ok (.istore_n 1, 1) := by decide +kernel
theorem dX8_reads_45 : decode cX8_reads 45 = .ok (.goto 91, 3) := by decide +kernel
theorem dX8_reads_48 : decode cX8_reads 48 = .ok (.iload_n 2, 1) := by decide +kernel
theorem dX8_reads_49 : decode cX8_reads 49 = .ok (.bipush 41, 2) := by decide +kernel
theorem dX8_reads_51 : decode cX8_reads 51 = .ok (.if_icmp .ne 28, 3) := by decide +kernel
theorem dX8_reads_54 : decode cX8_reads 54 = .ok (.iload_n 1, 1) := by decide +kernel
theorem dX8_reads_55 : decode cX8_reads 55 = .ok (.iconst (-1), 1) := by decide +kernel
theorem dX8_reads_56 : decode cX8_reads 56 = .ok (.if_icmp .eq 23, 3) := by decide +kernel
theorem dX8_reads_59 : decode cX8_reads 59 = .ok (.aload_n 0, 1) := by decide +kernel
theorem dX8_reads_60 : decode cX8_reads 60 = .ok (.dup, 1) := by decide +kernel
theorem dX8_reads_61 : decode cX8_reads 61 = .ok (.getfield 93, 3) := by decide +kernel
theorem dX8_reads_64 : decode cX8_reads 64 = .ok (.iconst 1, 1) := by decide +kernel
theorem dX8_reads_65 : decode cX8_reads 65 = .ok (.iadd, 1) := by decide +kernel
theorem dX8_reads_66 : decode cX8_reads 66 = .ok (.putfield 93, 3) := by decide +kernel
theorem dX8_reads_69 : decode cX8_reads 69 = .ok (.aload_n 0, 1) := by decide +kernel
theorem dX8_reads_70 : decode cX8_reads 70 = .ok (.getfield 38, 3) := by decide +kernel
theorem dX8_reads_73 : decode cX8_reads 73 = .ok (.iload_n 1, 1) := by decide +kernel
theorem dX8_reads_74 : decode cX8_reads 74 = .ok (.iaload, 1) := by decide +kernel
theorem dX8_reads_75 : decode cX8_reads 75 = .ok (.istore_n 1, 1) := by decide +kernel
theorem dX8_reads_76 : decode cX8_reads 76 = .ok (.goto 60, 3) := by decide +kernel
theorem dX8_reads_79 : decode cX8_reads 79 = .ok (.iload_n 1, 1) := by decide +kernel
theorem dX8_reads_80 : decode cX8_reads 80 = .ok (.iconst (-1), 1) := by decide +kernel
theorem dX8_reads_81 : decode cX8_reads 81 = .ok (.if_icmp .eq 50, 3) := by decide +kernel
theorem dX8_reads_84 : decode cX8_reads 84 = .ok (.iload_n 2, 1) := by decide +kernel
theorem dX8_reads_85 : decode cX8_reads 85 = .ok (.bipush 100, 2) := by decide +kernel
theorem dX8_reads_87 : decode cX8_reads 87 = .ok (.if_icmp .eq 15, 3) := by decide +kernel
theorem dX8_reads_90 : decode cX8_reads 90 = .ok (.iload_n 2, 1) := by decide +kernel
theorem dX8_reads_91 : decode cX8_reads 91 = .ok (.bipush 117, 2) := by decide +kernel
theorem dX8_reads_93 : decode cX8_reads 93 = .ok (.if_icmp .eq 9, 3) := by decide +kernel
theorem dX8_reads_96 : decode cX8_reads 96 = .ok (.iload_n 2, 1) := by decide +kernel
theorem dX8_reads_97 : decode cX8_reads 97 = .ok (.bipush 114, 2) := by decide +kernel
theorem dX8_reads_99 : decode cX8_reads 99 = .ok (.if_icmp .ne 32, 3) := by decide +kernel
theorem dX8_reads_102 : decode cX8_reads 102 = .ok (.aload_n 0, 1) := by decide +kernel
theorem dX8_reads_103 : decode cX8_reads 103 = .ok (.iload_n 1, 1) := by decide +kernel
theorem dX8_reads_104 : decode cX8_reads 104 = .ok (.iload_n 2, 1) := by decide +kernel
theorem dX8_reads_105 : decode cX8_reads 105 = .ok (.bipush 100, 2) := by decide +kernel
theorem dX8_reads_107 : decode cX8_reads 107 = .ok (.if_icmp .ne 7, 3) := by decide +kernel
theorem dX8_reads_110 : decode cX8_reads 110 = .ok (.iconst 0, 1) := by decide +kernel
theorem dX8_reads_111 : decode cX8_reads 111 = .ok (.goto 14, 3) := by decide +kernel
theorem dX8_reads_114 : decode cX8_reads 114 = .ok (.iload_n 2, 1) := by decide +kernel
theorem dX8_reads_115 : decode cX8_reads 115 = .ok (.bipush 117, 2) := by decide +kernel
theorem dX8_reads_117 : decode cX8_reads 117 = .ok (.if_icmp .ne 7, 3) := by decide +kernel
theorem dX8_reads_120 : decode cX8_reads 120 = .ok (.iconst 1, 1) := by decide +kernel
theorem dX8_reads_121 : decode cX8_reads 121 = .ok (.goto 4, 3) := by decide +kernel
theorem dX8_reads_124 : decode cX8_reads 124 = .ok (.iconst 2, 1) := by decide +kernel
theorem dX8_reads_125 : decode cX8_reads 125 = .ok (.invokevirtual 131, 3) := by decide +kernel
theorem dX8_reads_128 : decode cX8_reads 128 = .ok (.goto 8, 3) := by decide +kernel
theorem dX8_reads_131 : decode cX8_reads 131 = .ok (.aload_n 0, 1) := by decide +kernel
theorem dX8_reads_132 : decode cX8_reads 132 = .ok (.iconst 1, 1) := by decide +kernel
theorem dX8_reads_133 : decode cX8_reads 133 = .ok (.invokevirtual 107, 3) := by decide +kernel
theorem dX8_reads_136 : decode cX8_reads 136 = .ok (.goto (-134), 3) := by decide +kernel
theorem dX8_reads_139 : decode cX8_reads 139 = .ok (.iconst 0, 1) := by decide +kernel
theorem dX8_reads_140 : decode cX8_reads 140 = .ok (.istore_n 2, 1) := by decide +kernel
theorem dX8_reads_141 : decode cX8_reads 141 = .ok (.iload_n 2, 1) := by decide +kernel
theorem dX8_reads_142 : decode cX8_reads 142 = .ok (.aload_n 0, 1) := by decide +kernel
theorem dX8_reads_143 : decode cX8_reads 143 = .ok (.getfield 122, 3) := by decide +kernel
theorem dX8_reads_146 : decode cX8_reads 146 = .ok (.if_icmp .ge 54, 3) := by decide +kernel
theorem dX8_reads_149 : decode cX8_reads 149 = .ok (.aload_n 0, 1) := by decide +kernel
theorem dX8_reads_150 : decode cX8_reads 150 = .ok (.getfield 96, 3) := by decide +kernel
theorem dX8_reads_153 : decode cX8_reads 153 = .ok (.ifCond .ne 47, 3) := by decide +kernel
theorem dX8_reads_156 : decode cX8_reads 156 = .ok (.aload_n 0, 1) := by decide +kernel
theorem dX8_reads_157 : decode cX8_reads 157 = .ok (.getfield 53, 3) := by decide +kernel
theorem dX8_reads_160 : decode cX8_reads 160 = .ok (.iload_n 2, 1) := by decide +kernel
theorem dX8_reads_161 : decode cX8_reads 161 = .ok (.iaload, 1) := by decide +kernel
theorem dX8_reads_162 : decode cX8_reads 162 = .ok (.iconst 2, 1) := by decide +kernel
theorem dX8_reads_163 : decode cX8_reads 163 = .ok (.if_icmp .ne 31, 3) := by decide +kernel
theorem dX8_reads_166 : decode cX8_reads 166 = .ok (.aload_n 0, 1) := by decide +kernel
theorem dX8_reads_167 : decode cX8_reads 167 = .ok (.getfield 56, 3) := by decide +kernel
theorem dX8_reads_170 : decode cX8_reads 170 = .ok (.iload_n 2, 1) := by decide +kernel
theorem dX8_reads_171 : decode cX8_reads 171 = .ok (.iaload, 1) := by decide +kernel
theorem dX8_reads_172 : decode cX8_reads 172 = .ok (.aload_n 0, 1) := by decide +kernel
theorem dX8_reads_173 : decode cX8_reads 173 = .ok (.getfield 111, 3) := by decide +kernel
theorem dX8_reads_176 : decode cX8_reads 176 = .ok (.if_icmp .lt 18, 3) := by decide +kernel
theorem dX8_reads_179 : decode cX8_reads 179 = .ok (.aload_n 0, 1) := by decide +kernel
theorem dX8_reads_180 : decode cX8_reads 180 = .ok (.aload_n 0, 1) := by decide +kernel
theorem dX8_reads_181 : decode cX8_reads 181 = .ok (.getfield 59, 3) := by decide +kernel
theorem dX8_reads_184 : decode cX8_reads 184 = .ok (.iload_n 2, 1) := by decide +kernel
theorem dX8_reads_185 : decode cX8_reads 185 = .ok (.iaload, 1) := by decide +kernel
theorem dX8_reads_186 : decode cX8_reads 186 = .ok (.putfield 93, 3) := by decide +kernel
theorem dX8_reads_189 : decode cX8_reads 189 = .ok (.aload_n 0, 1) := by decide +kernel
theorem dX8_reads_190 : decode cX8_reads 190 = .ok (.iconst 5, 1) := by decide +kernel
theorem dX8_reads_191 : decode cX8_reads 191 = .ok (.invokevirtual 107, 3) := by decide +kernel
theorem dX8_reads_194 : decode cX8_reads 194 = .ok (.iinc 2 1, 3) := by decide +kernel
theorem dX8_reads_197 : decode cX8_reads 197 = .ok (.goto (-56), 3) := by decide +kernel
theorem dX8_reads_200 : decode cX8_reads 200 = .ok (.return_, 1) := by decide +kernel
theorem dX8_contract_0 : decode cX8_contract 0 = .ok (.aload_n 0, 1) := by decide +kernel
theorem dX8_contract_1 : decode cX8_contract 1 = .ok (.iconst 0, 1) := by decide +kernel
theorem dX8_contract_2 : decode cX8_contract 2 = .ok (.putfield 111, 3) := by decide +kernel
theorem dX8_contract_5 : decode cX8_contract 5 = .ok (.aload_n 0, 1) := by decide +kernel
theorem dX8_contract_6 : decode cX8_contract 6 = .ok (.iconst 0, 1) := by decide +kernel
theorem dX8_contract_7 : decode cX8_contract 7 = .ok (.putfield 122, 3) := by decide +kernel
theorem dX8_contract_10 : decode cX8_contract 10 = .ok (.aload_n 0, 1) := by decide +kernel
theorem dX8_contract_11 : decode cX8_contract 11 = .ok (.iconst 0, 1) := by decide +kernel
theorem dX8_contract_12 : decode cX8_contract 12 = .ok (.putfield 93, 3) := by decide +kernel
theorem dX8_contract_15 : decode cX8_contract 15 = .ok (.aload_n 0, 1) := by decide +kernel
theorem dX8_contract_16 : decode cX8_contract 16 = .ok (.iconst 0, 1) := by decide +kernel
theorem dX8_contract_17 : decode cX8_contract 17 = .ok (.putfield 96, 3) := by decide +kernel
theorem dX8_contract_20 : decode cX8_contract 20 = .ok (.aload_n 0, 1) := by decide +kernel
theorem dX8_contract_21 : decode cX8_contract 21 = .ok (.iconst (-1), 1) := by decide +kernel
theorem dX8_contract_22 : decode cX8_contract 22 = .ok (.putfield 13, 3) := by decide +kernel
theorem dX8_contract_25 : decode cX8_contract 25 = .ok (.aload_n 0, 1) := by decide +kernel
theorem dX8_contract_26 : decode cX8_contract 26 = .ok (.invokevirtual 135, 3) := by decide +kernel
theorem dX8_contract_29 : decode cX8_contract 29 = .ok (.aload_n 0, 1) := by decide +kernel
theorem dX8_contract_30 : decode cX8_contract 30 = .ok (.iconst 0, 1) := by decide +kernel
theorem dX8_contract_31 : decode cX8_contract 31 = .ok (.putfield 89, 3) := by decide +kernel
theorem dX8_contract_34 : decode cX8_contract 34 = .ok (.aload_n 0, 1) := by decide +kernel
theorem dX8_contract_35 : decode cX8_contract 35 = .ok (.getfield 96, 3) := by decide +kernel
theorem dX8_contract_38 : decode cX8_contract 38 = .ok (.ifCond .le 11, 3) := by decide +kernel
theorem dX8_contract_41 : decode cX8_contract 41 = .ok (.bipush (-10), 2) := by decide +kernel
theorem dX8_contract_43 : decode cX8_contract 43 = .ok (.aload_n 0, 1) := by decide +kernel
theorem dX8_contract_44 : decode cX8_contract 44 = .ok (.getfield 96, 3) := by decide +kernel
theorem dX8_contract_47 : decode cX8_contract 47 = .ok (.isub, 1) := by decide +kernel
theorem dX8_contract_48 : decode cX8_contract 48 = .ok (.ireturn, 1) := by decide +kernel
theorem dX8_contract_49 : decode cX8_contract 49 = .ok (.aload_n 0, 1) := by decide +kernel
theorem dX8_contract_50 : decode cX8_contract 50 = .ok (.aload_n 0, 1) := by decide +kernel
theorem dX8_contract_51 : decode cX8_contract 51 = .ok (.getfield 111, 3) := by decide +kernel
theorem dX8_contract_54 : decode cX8_contract 54 = .ok (.putfield 81, 3) := by decide +kernel
theorem dX8_contract_57 : decode cX8_contract 57 = .ok (.aload_n 0, 1) := by decide +kernel
theorem dX8_contract_58 : decode cX8_contract 58 = .ok (.aload_n 0, 1) := by decide +kernel
theorem dX8_contract_59 : decode cX8_contract 59 = .ok (.getfield 122, 3) := by decide +kernel
theorem dX8_contract_62 : decode cX8_contract 62 = .ok (.putfield 138, 3) := by decide +kernel
theorem dX8_contract_65 : decode cX8_contract 65 = .ok (.iconst 0, 1) := by decide +kernel
theorem dX8_contract_66 : decode cX8_contract 66 = .ok (.istore_n 1, 1) := by decide +kernel
theorem dX8_contract_67 : decode cX8_contract 67 = .ok (.iload_n 1, 1) := by decide +kernel
theorem dX8_contract_68 : decode cX8_contract 68 = .ok (.aload_n 0, 1) := by decide +kernel
theorem dX8_contract_69 : decode cX8_contract 69 = .ok (.getfield 81, 3) := by decide +kernel
theorem dX8_contract_72 : decode cX8_contract 72 = .ok (.if_icmp .ge 57, 3) := by decide +kernel
theorem dX8_contract_75 : decode cX8_contract 75 = .ok (.aload_n 0, 1) := by decide +kernel
theorem dX8_contract_76 : decode cX8_contract 76 = .ok (.getfield 17, 3) := by decide +kernel
theorem dX8_contract_79 : decode cX8_contract 79 = .ok (.iload_n 1, 1) := by decide +kernel
theorem dX8_contract_80 : decode cX8_contract 80 = .ok (.aload_n 0, 1) := by decide +kernel
theorem dX8_contract_81 : decode cX8_contract 81 = .ok (.getfield 38, 3) := by decide +kernel
theorem dX8_contract_84 : decode cX8_contract 84 = .ok (.iload_n 1, 1) := by decide +kernel
theorem dX8_contract_85 : decode cX8_contract 85 = .ok (.iaload, 1) := by decide +kernel
theorem dX8_contract_86 : decode cX8_contract 86 = .ok (.iastore, 1) := by decide +kernel
theorem dX8_contract_87 : decode cX8_contract 87 = .ok (.aload_n 0, 1) := by decide +kernel
theorem dX8_contract_88 : decode cX8_contract 88 = .ok (.getfield 20, 3) := by decide +kernel
theorem dX8_contract_91 : decode cX8_contract 91 = .ok (.iload_n 1, 1) := by decide +kernel
theorem dX8_contract_92 : decode cX8_contract 92 = .ok (.aload_n 0, 1) := by decide +kernel
theorem dX8_contract_93 : decode cX8_contract 93 = .ok (.getfield 41, 3) := by decide +kernel
theorem dX8_contract_96 : decode cX8_contract 96 = .ok (.iload_n 1, 1) := by decide +kernel
theorem dX8_contract_97 : decode cX8_contract 97 = .ok (.iaload, 1) := by decide +kernel
theorem dX8_contract_98 : decode cX8_contract 98 = .ok (.iastore, 1) := by decide +kernel
theorem dX8_contract_99 : decode cX8_contract 99 = .ok (.aload_n 0, 1) := by decide +kernel
theorem dX8_contract_100 : decode cX8_contract 100 = .ok (.getfield 23, 3) := by decide +kernel
theorem dX8_contract_103 : decode cX8_contract 103 = .ok (.iload_n 1, 1) := by decide +kernel
theorem dX8_contract_104 : decode cX8_contract 104 = .ok (.aload_n 0, 1) := by decide +kernel
theorem dX8_contract_105 : decode cX8_contract 105 = .ok (.getfield 44, 3) := by decide +kernel
theorem dX8_contract_108 : decode cX8_contract 108 = .ok (.iload_n 1, 1) := by decide +kernel
theorem dX8_contract_109 : decode cX8_contract 109 = .ok (.iaload, 1) := by decide +kernel
theorem dX8_contract_110 : decode cX8_contract 110 = .ok (.iastore, 1) := by decide +kernel
theorem dX8_contract_111 : decode cX8_contract 111 = .ok (.aload_n 0, 1) := by decide +kernel
theorem dX8_contract_112 : decode cX8_contract 112 = .ok (.getfield 26, 3) := by decide +kernel
theorem dX8_contract_115 : decode cX8_contract 115 = .ok (.iload_n 1, 1) := by decide +kernel
theorem dX8_contract_116 : decode cX8_contract 116 = .ok (.aload_n 0, 1) := by decide +kernel
theorem dX8_contract_117 : decode cX8_contract 117 = .ok (.getfield 47, 3) := by decide +kernel
theorem dX8_contract_120 : decode cX8_contract 120 = .ok (.iload_n 1, 1) := by decide +kernel
theorem dX8_contract_121 : decode cX8_contract 121 = .ok (.iaload, 1) := by decide +kernel
theorem dX8_contract_122 : decode cX8_contract 122 = .ok (.iastore, 1) := by decide +kernel
theorem dX8_contract_123 : decode cX8_contract 123 = .ok (.iinc 1 1, 3) := by decide +kernel
theorem dX8_contract_126 : decode cX8_contract 126 = .ok (.goto (-59), 3) := by decide +kernel
theorem dX8_contract_129 : decode cX8_contract 129 = .ok (.iconst 0, 1) := by decide +kernel
theorem dX8_contract_130 : decode cX8_contract 130 = .ok (.istore_n 1, 1) := by decide +kernel
theorem dX8_contract_131 : decode cX8_contract 131 = .ok (.iload_n 1, 1) := by decide +kernel
theorem dX8_contract_132 : decode cX8_contract 132 = .ok (.aload_n 0, 1) := by decide +kernel
theorem dX8_contract_133 : decode cX8_contract 133 = .ok (.getfield 138, 3) := by decide +kernel
theorem dX8_contract_136 : decode cX8_contract 136 = .ok (.if_icmp .ge 45, 3) := by decide +kernel
theorem dX8_contract_139 : decode cX8_contract 139 = .ok (.aload_n 0, 1) := by decide +kernel
theorem dX8_contract_140 : decode cX8_contract 140 = .ok (.getfield 29, 3) := by decide +kernel
theorem dX8_contract_143 : decode cX8_contract 143 = .ok (.iload_n 1, 1) := by decide +kernel
theorem dX8_contract_144 : decode cX8_contract 144 = .ok (.aload_n 0, 1) := by decide +kernel
theorem dX8_contract_145 : decode cX8_contract 145 = .ok (.getfield 50, 3) := by decide +kernel
theorem dX8_contract_148 : decode cX8_contract 148 = .ok (.iload_n 1, 1) := by decide +kernel
theorem dX8_contract_149 : decode cX8_contract 149 = .ok (.iaload, 1) := by decide +kernel
theorem dX8_contract_150 : decode cX8_contract 150 = .ok (.iastore, 1) := by decide +kernel
theorem dX8_contract_151 : decode cX8_contract 151 = .ok (.aload_n 0, 1) := by decide +kernel
theorem dX8_contract_152 : decode cX8_contract 152 = .ok (.getfield 32, 3) := by decide +kernel
theorem dX8_contract_155 : decode cX8_contract 155 = .ok (.iload_n 1, 1) := by decide +kernel
theorem dX8_contract_156 : decode cX8_contract 156 = .ok (.aload_n 0, 1) := by decide +kernel
theorem dX8_contract_157 : decode cX8_contract 157 = .ok (.getfield 53, 3) := by decide +kernel
theorem dX8_contract_160 : decode cX8_contract 160 = .ok (.iload_n 1, 1) := by decide +kernel
theorem dX8_contract_161 : decode cX8_contract 161 = .ok (.iaload, 1) := by decide +kernel
theorem dX8_contract_162 : decode cX8_contract 162 = .ok (.iastore, 1) := by decide +kernel
theorem dX8_contract_163 : decode cX8_contract 163 = .ok (.aload_n 0, 1) := by decide +kernel
theorem dX8_contract_164 : decode cX8_contract 164 = .ok (.getfield 35, 3) := by decide +kernel
theorem dX8_contract_167 : decode cX8_contract 167 = .ok (.iload_n 1, 1) := by decide +kernel
theorem dX8_contract_168 : decode cX8_contract 168 = .ok (.aload_n 0, 1) := by decide +kernel
theorem dX8_contract_169 : decode cX8_contract 169 = .ok (.getfield 56, 3) := by decide +kernel
theorem dX8_contract_172 : decode cX8_contract 172 = .ok (.iload_n 1, 1) := by decide +kernel
theorem dX8_contract_173 : decode cX8_contract 173 = .ok (.iaload, 1) := by decide +kernel
theorem dX8_contract_174 : decode cX8_contract 174 = .ok (.iastore, 1) := by decide +kernel
theorem dX8_contract_175 : decode cX8_contract 175 = .ok (.iinc 1 1, 3) := by decide +kernel
theorem dX8_contract_178 : decode cX8_contract 178 = .ok (.goto (-47), 3) := by decide +kernel
theorem dX8_contract_181 : decode cX8_contract 181 = .ok (.aload_n 0, 1) := by decide +kernel
theorem dX8_contract_182 : decode cX8_contract 182 = .ok (.iconst 0, 1) := by decide +kernel
theorem dX8_contract_183 : decode cX8_contract 183 = .ok (.putfield 141, 3) := by decide +kernel
theorem dX8_contract_186 : decode cX8_contract 186 = .ok (.aload_n 0, 1) := by decide +kernel
theorem dX8_contract_187 : decode cX8_contract 187 = .ok (.iconst 0, 1) := by decide +kernel
theorem dX8_contract_188 : decode cX8_contract 188 = .ok (.putfield 144, 3) := by decide +kernel
theorem dX8_contract_191 : decode cX8_contract 191 = .ok (.aload_n 0, 1) := by decide +kernel
theorem dX8_contract_192 : decode cX8_contract 192 = .ok (.getfield 68, 3) := by decide +kernel
theorem dX8_contract_195 : decode cX8_contract 195 = .ok (.iconst 0, 1) := by decide +kernel
theorem dX8_contract_196 : decode cX8_contract 196 = .ok (.iconst 0, 1) := by decide +kernel
theorem dX8_contract_197 : decode cX8_contract 197 = .ok (.bastore, 1) := by decide +kernel
theorem dX8_contract_198 : decode cX8_contract 198 = .ok (.aload_n 0, 1) := by decide +kernel
theorem dX8_contract_199 : decode cX8_contract 199 = .ok (.getfield 68, 3) := by decide +kernel
theorem dX8_contract_202 : decode cX8_contract 202 = .ok (.iconst 1, 1) := by decide +kernel
theorem dX8_contract_203 : decode cX8_contract 203 = .ok (.iconst 0, 1) := by decide +kernel
theorem dX8_contract_204 : decode cX8_contract 204 = .ok (.bastore, 1) := by decide +kernel
theorem dX8_contract_205 : decode cX8_contract 205 = .ok (.aload_n 0, 1) := by decide +kernel
theorem dX8_contract_206 : decode cX8_contract 206 = .ok (.getfield 81, 3) := by decide +kernel
theorem dX8_contract_209 : decode cX8_contract 209 = .ok (.ireturn, 1) := by decide +kernel
theorem dX8_fault_0 : decode cX8_fault 0 = .ok (.aload_n 0, 1) := by decide +kernel
theorem dX8_fault_1 : decode cX8_fault 1 = .ok (.getfield 13, 3) := by decide +kernel
theorem dX8_fault_4 : decode cX8_fault 4 = .ok (.ireturn, 1) := by decide +kernel
theorem dX8_holds_0 : decode cX8_holds 0 = .ok (.aload_n 0, 1) := by decide +kernel
theorem dX8_holds_1 : decode cX8_holds 1 = .ok (.getfield 20, 3) := by decide +kernel
theorem dX8_holds_4 : decode cX8_holds 4 = .ok (.iload_n 1, 1) := by decide +kernel
theorem dX8_holds_5 : decode cX8_holds 5 = .ok (.iaload, 1) := by decide +kernel
theorem dX8_holds_6 : decode cX8_holds 6 = .ok (.iload_n 2, 1) := by decide +kernel
theorem dX8_holds_7 : decode cX8_holds 7 = .ok (.iconst (-1), 1) := by decide +kernel
theorem dX8_holds_8 : decode cX8_holds 8 = .ok (.ixor, 1) := by decide +kernel
theorem dX8_holds_9 : decode cX8_holds 9 = .ok (.iand, 1) := by decide +kernel
theorem dX8_holds_10 : decode cX8_holds 10 = .ok (.ifCond .ne 18, 3) := by decide +kernel
theorem dX8_holds_13 : decode cX8_holds 13 = .ok (.aload_n 0, 1) := by decide +kernel
theorem dX8_holds_14 : decode cX8_holds 14 = .ok (.getfield 23, 3) := by decide +kernel
theorem dX8_holds_17 : decode cX8_holds 17 = .ok (.iload_n 1, 1) := by decide +kernel
theorem dX8_holds_18 : decode cX8_holds 18 = .ok (.iaload, 1) := by decide +kernel
theorem dX8_holds_19 : decode cX8_holds 19 = .ok (.iload_n 2, 1) := by decide +kernel
theorem dX8_holds_20 : decode cX8_holds 20 = .ok (.iand, 1) := by decide +kernel
theorem dX8_holds_21 : decode cX8_holds 21 = .ok (.ifCond .ne 7, 3) := by decide +kernel
theorem dX8_holds_24 : decode cX8_holds 24 = .ok (.iconst 1, 1) := by decide +kernel
theorem dX8_holds_25 : decode cX8_holds 25 = .ok (.goto 4, 3) := by decide +kernel
theorem dX8_holds_28 : decode cX8_holds 28 = .ok (.iconst 0, 1) := by decide +kernel
theorem dX8_holds_29 : decode cX8_holds 29 = .ok (.ireturn, 1) := by decide +kernel
theorem dX8_isCalled_0 : decode cX8_isCalled 0 = .ok (.aload_n 0, 1) := by decide +kernel
theorem dX8_isCalled_1 : decode cX8_isCalled 1 = .ok (.getfield 26, 3) := by decide +kernel
theorem dX8_isCalled_4 : decode cX8_isCalled 4 = .ok (.iload_n 1, 1) := by decide +kernel
theorem dX8_isCalled_5 : decode cX8_isCalled 5 = .ok (.iaload, 1) := by decide +kernel
theorem dX8_isCalled_6 : decode cX8_isCalled 6 = .ok (.ifCond .ne 7, 3) := by decide +kernel
theorem dX8_isCalled_9 : decode cX8_isCalled 9 = .ok (.iconst 1, 1) := by decide +kernel
theorem dX8_isCalled_10 : decode cX8_isCalled 10 = .ok (.goto 4, 3) := by decide +kernel
theorem dX8_isCalled_13 : decode cX8_isCalled 13 = .ok (.iconst 0, 1) := by decide +kernel
theorem dX8_isCalled_14 : decode cX8_isCalled 14 = .ok (.istore_n 3, 1) := by decide +kernel
theorem dX8_isCalled_15 : decode cX8_isCalled 15 = .ok (.iconst 0, 1) := by decide +kernel
theorem dX8_isCalled_16 : decode cX8_isCalled 16 = .ok (.istore 4, 2) := by decide +kernel
theorem dX8_isCalled_18 : decode cX8_isCalled 18 = .ok (.iload 4, 2) := by decide +kernel
theorem dX8_isCalled_20 : decode cX8_isCalled 20 = .ok (.aload_n 0, 1) := by decide +kernel
theorem dX8_isCalled_21 : decode cX8_isCalled 21 = .ok (.getfield 138, 3) := by decide +kernel
theorem dX8_isCalled_24 : decode cX8_isCalled 24 = .ok (.if_icmp .ge 66, 3) := by decide +kernel
theorem dX8_isCalled_27 : decode cX8_isCalled 27 = .ok (.iload_n 3, 1) := by decide +kernel
theorem dX8_isCalled_28 : decode cX8_isCalled 28 = .ok (.ifCond .ne 50, 3) := by decide +kernel
theorem dX8_isCalled_31 : decode cX8_isCalled 31 = .ok (.aload_n 0, 1) := by decide +kernel
theorem dX8_isCalled_32 : decode cX8_isCalled 32 = .ok (.getfield 32, 3) := by decide +kernel
theorem dX8_isCalled_35 : decode cX8_isCalled 35 = .ok (.iload 4, 2) := by decide +kernel
theorem dX8_isCalled_37 : decode cX8_isCalled 37 = .ok (.iaload, 1) := by decide +kernel
theorem dX8_isCalled_38 : decode cX8_isCalled 38 = .ok (.iconst 2, 1) := by decide +kernel
theorem dX8_isCalled_39 : decode cX8_isCalled 39 = .ok (.if_icmp .ne 43, 3) := by decide +kernel
theorem dX8_isCalled_42 : decode cX8_isCalled 42 = .ok (.aload_n 0, 1) := by decide +kernel
theorem dX8_isCalled_43 : decode cX8_isCalled 43 = .ok (.getfield 35, 3) := by decide +kernel
theorem dX8_isCalled_46 : decode cX8_isCalled 46 = .ok (.iload 4, 2) := by decide +kernel
theorem dX8_isCalled_48 : decode cX8_isCalled 48 = .ok (.iaload, 1) := by decide +kernel
theorem dX8_isCalled_49 : decode cX8_isCalled 49 = .ok (.iload_n 1, 1) := by decide +kernel
theorem dX8_isCalled_50 : decode cX8_isCalled 50 = .ok (.if_icmp .ne 32, 3) := by decide +kernel
theorem dX8_isCalled_53 : decode cX8_isCalled 53 = .ok (.aload_n 0, 1) := by decide +kernel
theorem dX8_isCalled_54 : decode cX8_isCalled 54 = .ok (.getfield 29, 3) := by decide +kernel
theorem dX8_isCalled_57 : decode cX8_isCalled 57 = .ok (.iload 4, 2) := by decide +kernel
theorem dX8_isCalled_59 : decode cX8_isCalled 59 = .ok (.iaload, 1) := by decide +kernel
theorem dX8_isCalled_60 : decode cX8_isCalled 60 = .ok (.iload_n 1, 1) := by decide +kernel
theorem dX8_isCalled_61 : decode cX8_isCalled 61 = .ok (.if_icmp .eq 21, 3) := by decide +kernel
theorem dX8_isCalled_64 : decode cX8_isCalled 64 = .ok (.iload_n 2, 1) := by decide +kernel
theorem dX8_isCalled_65 : decode cX8_isCalled 65 = .ok (.aload_n 0, 1) := by decide +kernel
theorem dX8_isCalled_66 : decode cX8_isCalled 66 = .ok (.getfield 29, 3) := by decide +kernel
theorem dX8_isCalled_69 : decode cX8_isCalled 69 = .ok (.iload 4, 2) := by decide +kernel
theorem dX8_isCalled_71 : decode cX8_isCalled 71 = .ok (.iaload, 1) := by decide +kernel
theorem dX8_isCalled_72 : decode cX8_isCalled 72 = .ok (.invokestatic 118, 3) := by decide +kernel
theorem dX8_isCalled_75 : decode cX8_isCalled 75 = .ok (.ifCond .eq 7, 3) := by decide +kernel
theorem dX8_isCalled_78 : decode cX8_isCalled 78 = .ok (.iconst 1, 1) := by decide +kernel
theorem dX8_isCalled_79 : decode cX8_isCalled 79 = .ok (.goto 4, 3) := by decide +kernel
theorem dX8_isCalled_82 : decode cX8_isCalled 82 = .ok (.iconst 0, 1) := by decide +kernel
theorem dX8_isCalled_83 : decode cX8_isCalled 83 = .ok (.istore_n 3, 1) := by decide +kernel
theorem dX8_isCalled_84 : decode cX8_isCalled 84 = .ok (.iinc 4 1, 3) := by decide +kernel
theorem dX8_isCalled_87 : decode cX8_isCalled 87 = .ok (.goto (-69), 3) := by decide +kernel
theorem dX8_isCalled_90 : decode cX8_isCalled 90 = .ok (.iload_n 3, 1) := by decide +kernel
theorem dX8_isCalled_91 : decode cX8_isCalled 91 = .ok (.ireturn, 1) := by decide +kernel
def FX8_takesPart_J53 (σ : SS) (v1 : Int32) (v2 : Int32) (v3 : Int32) (s0 : Int32) : Option (SS) :=
  gd (inb (gI σ 17) 30) (bd (sA σ 18 (upd (gA σ 18) (Int32.toNatClampNeg (gI σ 17)) v1)) (fun σ9 => gd (inb (gI σ9 17) 30) (bd (sA σ9 19 (upd (gA σ9 19) (Int32.toNatClampNeg (gI σ9 17)) v2)) (fun σ11 => gd (inb (gI σ11 17) 30) (bd (sA σ11 20 (upd (gA σ11 20) (Int32.toNatClampNeg (gI σ11 17)) s0)) (fun σ13 => gd (inb (gI σ13 17) 30) (bd (sA σ13 21 (upd (gA σ13 21) (Int32.toNatClampNeg (gI σ13 17)) v3)) (fun σ15 => bd (sI σ15 17 ((gI σ15 17) + (1 : Int32))) (fun σ16 => some σ16)))))))))
set_option maxRecDepth 100000 in
set_option maxHeartbeats 4000000 in
theorem PX8_takesPart_J53 {X : Bx} {g : Gx} {σr : SS} {σ : SS} (hX : Okw wsM X g cX8_takesPart 5 RX8 none ({ frames := 3, cells := 0, slots := 0, locals := 64 } : Room) (fun g => none) σr) {v1 : Int32} {v2 : Int32} {v3 : Int32} {s0 : Int32} (hf : FX8_takesPart_J53 σ v1 v2 v3 s0 = some σr) : Vx X g.1 5 (wsM g σ) 53 [(0, .ref (g.2.1 0)), (1, .int v1), (2, .int v2), (3, .int v3)] [.int s0] := by
  have h0 := hX.1
  rw [FX8_takesPart_J53] at hf
  refine vx_istore (ls' := [(4, .int s0), (0, .ref (g.2.1 0)), (1, .int v1), (2, .int v2), (3, .int v3)]) h0 dX8_takesPart_53 (by decide) rfl ?_
  refine vx_aload_n h0 dX8_takesPart_55 rfl ?_
  refine mg_0_18 hX q802 dX8_takesPart_56 ?_
  refine vx_aload_n h0 dX8_takesPart_59 rfl ?_
  refine mg_0_17 hX q801 dX8_takesPart_60 ?_
  refine vx_iload_n h0 dX8_takesPart_63 rfl ?_
  obtain ⟨b8, hf⟩ := gd_some hf
  refine ms_13 hX b8 dX8_takesPart_64 ?_
  generalize (sA σ 18 (upd (gA σ 18) (Int32.toNatClampNeg (gI σ 17)) v1)) = σ9 at hf ⊢
  replace hf := bd_h hf
  refine vx_aload_n h0 dX8_takesPart_65 rfl ?_
  refine mg_0_19 hX q803 dX8_takesPart_66 ?_
  refine vx_aload_n h0 dX8_takesPart_69 rfl ?_
  refine mg_0_17 hX q801 dX8_takesPart_70 ?_
  refine vx_iload_n h0 dX8_takesPart_73 rfl ?_
  obtain ⟨b10, hf⟩ := gd_some hf
  refine ms_14 hX b10 dX8_takesPart_74 ?_
  generalize (sA σ9 19 (upd (gA σ9 19) (Int32.toNatClampNeg (gI σ9 17)) v2)) = σ11 at hf ⊢
  replace hf := bd_h hf
  refine vx_aload_n h0 dX8_takesPart_75 rfl ?_
  refine mg_0_20 hX q804 dX8_takesPart_76 ?_
  refine vx_aload_n h0 dX8_takesPart_79 rfl ?_
  refine mg_0_17 hX q801 dX8_takesPart_80 ?_
  refine vx_iload h0 dX8_takesPart_83 rfl ?_
  obtain ⟨b12, hf⟩ := gd_some hf
  refine ms_15 hX b12 dX8_takesPart_85 ?_
  generalize (sA σ11 20 (upd (gA σ11 20) (Int32.toNatClampNeg (gI σ11 17)) s0)) = σ13 at hf ⊢
  replace hf := bd_h hf
  refine vx_aload_n h0 dX8_takesPart_86 rfl ?_
  refine mg_0_21 hX q805 dX8_takesPart_87 ?_
  refine vx_aload_n h0 dX8_takesPart_90 rfl ?_
  refine mg_0_17 hX q801 dX8_takesPart_91 ?_
  refine vx_iload_n h0 dX8_takesPart_94 rfl ?_
  obtain ⟨b14, hf⟩ := gd_some hf
  refine ms_16 hX b14 dX8_takesPart_95 ?_
  generalize (sA σ13 21 (upd (gA σ13 21) (Int32.toNatClampNeg (gI σ13 17)) v3)) = σ15 at hf ⊢
  replace hf := bd_h hf
  refine vx_aload_n h0 dX8_takesPart_96 rfl ?_
  refine vx_dup h0 dX8_takesPart_97 rfl ?_
  refine mg_0_17 hX q801 dX8_takesPart_98 ?_
  refine vx_iconst (v := (1 : Int32)) h0 dX8_takesPart_101 (by decide) ?_
  refine vx_iadd h0 dX8_takesPart_102 ?_
  refine mp_0_17 hX q801 dX8_takesPart_103 ?_
  generalize (sI σ15 17 ((gI σ15 17) + (1 : Int32))) = σ16 at hf ⊢
  replace hf := bd_h hf
  exact w_vretE hX hf dX8_takesPart_106
def FX8_takesPart (σ : SS) (a0 : Int32) (a1 : Int32) : Option (SS) :=
  if (gI σ 17) = (30 : Int32) then ob (FX8_fails σ (3 : Int32)) (fun σ20 => some σ20)
    else bd (sI σ 22 ((gI σ 22) + (1 : Int32))) (fun σ2 => ob (FX8_sign σ2) (fun p4 => if a1 = (2 : Int32) then ob (FX8_clauseNumber p4.2) (fun p18 => FX8_takesPart_J53 p18.2 a0 a1 (gI p4.2 22) p18.1)
    else ob (FX8_figure p4.2 (7 : Int32)) (fun p7 => FX8_takesPart_J53 p7.2 a0 a1 (gI p4.2 22) p7.1)))
set_option maxRecDepth 100000 in
set_option maxHeartbeats 4000000 in
theorem c_X8_takesPart {σ : SS} {a0 : Int32} {a1 : Int32} {σr : SS} (hf : FX8_takesPart σ a0 a1 = some σr) : Mcw wsM yX8_takesPart cX8_takesPart 5 none ({ frames := 3, cells := 0, slots := 0, locals := 64 } : Room) (fun g => [.ref (g.2.1 0), .int a0, .int a1]) σ (fun g => none) σr := by
  refine w_enter wsM_fix (by decide) (fun g => Nat.le_of_ble_eq_true rfl) ?_
  intro X g hX
  replace hX : Okw wsM X g cX8_takesPart 5 RX8 none ({ frames := 3, cells := 0, slots := 0, locals := 64 } : Room) (fun g => none) σr := hX
  have h0 := hX.1
  show Vx X g.1 5 (wsM g σ) 0 [(0, .ref (g.2.1 0)), (1, .int a0), (2, .int a1)] []
  rw [FX8_takesPart] at hf
  refine vx_aload_n h0 dX8_takesPart_0 rfl ?_
  refine mg_0_17 hX q801 dX8_takesPart_1 ?_
  refine vx_bipush (v := (30 : Int32)) h0 dX8_takesPart_4 (by decide) ?_
  refine vx_icmp_ne (tgt := 15) h0 dX8_takesPart_6 (by decide) (fun c1 => ?_) (fun c1 => ?_)
  · replace hf := (if_neg c1).symm.trans hf
    refine vx_aload_n h0 dX8_takesPart_15 rfl ?_
    refine vx_dup h0 dX8_takesPart_16 rfl ?_
    refine mg_0_22 hX q806 dX8_takesPart_17 ?_
    refine vx_iconst (v := (1 : Int32)) h0 dX8_takesPart_20 (by decide) ?_
    refine vx_iadd h0 dX8_takesPart_21 ?_
    refine mp_0_22 hX q806 dX8_takesPart_22 ?_
    generalize (sI σ 22 ((gI σ 22) + (1 : Int32))) = σ2 at hf ⊢
    replace hf := bd_h hf
    refine vx_aload_n h0 dX8_takesPart_25 rfl ?_
    obtain ⟨p4, h3, hf⟩ := ob_some hf
    refine w_callV (st := []) (ci := 8) (q0 := 0) hX (c_X8_sign h3) ce_X8_sign q908 ⟨rfl, rfl⟩ ⟨by decide, by decide⟩ rfl rfl rfl rfl (mo_0 g _) rfl (Nat.le_of_ble_eq_true rfl) dX8_takesPart_26 ?_
    show Vx X g.1 5 (wsM g p4.2) 29 [(0, .ref (g.2.1 0)), (1, .int a0), (2, .int a1)] [.int p4.1]
    refine vx_pop h0 dX8_takesPart_29 rfl ?_
    refine vx_aload_n h0 dX8_takesPart_30 rfl ?_
    refine mg_0_22 hX q806 dX8_takesPart_31 ?_
    refine vx_istore_n (ls' := [(3, .int (gI p4.2 22)), (0, .ref (g.2.1 0)), (1, .int a0), (2, .int a1)]) h0 dX8_takesPart_34 (by decide) rfl ?_
    refine vx_iload_n h0 dX8_takesPart_35 rfl ?_
    refine vx_iconst (v := (2 : Int32)) h0 dX8_takesPart_36 (by decide) ?_
    refine vx_icmp_ne (tgt := 47) h0 dX8_takesPart_37 (by decide) (fun c5 => ?_) (fun c5 => ?_)
    · replace hf := (if_neg c5).symm.trans hf
      refine vx_aload_n h0 dX8_takesPart_47 rfl ?_
      refine vx_bipush (v := (7 : Int32)) h0 dX8_takesPart_48 (by decide) ?_
      obtain ⟨p7, h6, hf⟩ := ob_some hf
      refine w_callV (st := []) (ci := 8) (q0 := 0) hX (c_X8_figure h6) ce_X8_figure q920 ⟨rfl, rfl⟩ ⟨by decide, by decide⟩ rfl rfl rfl rfl (mo_0 g _) rfl (Nat.le_of_ble_eq_true rfl) dX8_takesPart_50 ?_
      show Vx X g.1 5 (wsM g p7.2) 53 [(3, .int (gI p4.2 22)), (0, .ref (g.2.1 0)), (1, .int a0), (2, .int a1)] [.int p7.1]
      refine vx_sub [1, 2, 3, 0] rfl ?_
      exact PX8_takesPart_J53 hX  hf
    · replace hf := (if_pos c5).symm.trans hf
      refine vx_aload_n h0 dX8_takesPart_40 rfl ?_
      obtain ⟨p18, h17, hf⟩ := ob_some hf
      refine w_callV (st := []) (ci := 8) (q0 := 0) hX (c_X8_clauseNumber h17) ce_X8_clauseNumber q934 ⟨rfl, rfl⟩ ⟨by decide, by decide⟩ rfl rfl rfl rfl (mo_0 g _) rfl (Nat.le_of_ble_eq_true rfl) dX8_takesPart_41 ?_
      show Vx X g.1 5 (wsM g p18.2) 44 [(3, .int (gI p4.2 22)), (0, .ref (g.2.1 0)), (1, .int a0), (2, .int a1)] [.int p18.1]
      refine vx_goto (tgt := 53) h0 dX8_takesPart_44 (by decide) ?_
      refine vx_sub [1, 2, 3, 0] rfl ?_
      exact PX8_takesPart_J53 hX  hf
  · replace hf := (if_pos c1).symm.trans hf
    refine vx_aload_n h0 dX8_takesPart_9 rfl ?_
    refine vx_iconst (v := (3 : Int32)) h0 dX8_takesPart_10 (by decide) ?_
    obtain ⟨σ20, h19, hf⟩ := ob_some hf
    refine w_callV (st := []) (ci := 8) (q0 := 0) hX (c_X8_fails h19) ce_X8_fails q916 ⟨rfl, rfl⟩ ⟨by decide, by decide⟩ rfl rfl rfl rfl (mo_0 g _) rfl (Nat.le_of_ble_eq_true rfl) dX8_takesPart_11 ?_
    show Vx X g.1 5 (wsM g σ20) 14 [(0, .ref (g.2.1 0)), (1, .int a0), (2, .int a1)] []
    exact w_vretE hX hf dX8_takesPart_14
def FX8_reads_J131 (σ : SS) (rec : Int32 → SS → Option (SS)) (v1 : Int32) : Option (SS) :=
  ob (FX8_fails σ (1 : Int32)) (fun σ11 => rec v1 σ11)
set_option maxRecDepth 100000 in
set_option maxHeartbeats 4000000 in
theorem PX8_reads_J131 {X : Bx} {g : Gx} {σr : SS} {σ : SS} (hX : Okw wsM X g cX8_reads 3 RX8 none ({ frames := 4, cells := 0, slots := 0, locals := 88 } : Room) (fun g => none) σr) {rec : Int32 → SS → Option (SS)} {v1 : Int32} (hrec : ∀ (w1 : Int32) (σ2 : SS), rec w1 σ2 = some σr → Vx X g.1 3 (wsM g σ2) 2 [(0, .ref (g.2.1 0)), (1, .int w1)] []) (hf : FX8_reads_J131 σ rec v1 = some σr) : Vx X g.1 3 (wsM g σ) 131 [(0, .ref (g.2.1 0)), (1, .int v1)] [] := by
  have h0 := hX.1
  rw [FX8_reads_J131] at hf
  refine vx_aload_n h0 dX8_reads_131 rfl ?_
  refine vx_iconst (v := (1 : Int32)) h0 dX8_reads_132 (by decide) ?_
  obtain ⟨σ11, h10, hf⟩ := ob_some hf
  refine w_callV (st := []) (ci := 8) (q0 := 0) hX (c_X8_fails h10) ce_X8_fails q916 ⟨rfl, rfl⟩ ⟨by decide, by decide⟩ rfl rfl rfl rfl (mo_0 g _) rfl (Nat.le_of_ble_eq_true rfl) dX8_reads_133 ?_
  show Vx X g.1 3 (wsM g σ11) 136 [(0, .ref (g.2.1 0)), (1, .int v1)] []
  refine vx_goto (tgt := 2) h0 dX8_reads_136 (by decide) ?_
  exact hrec _ _ hf
def FX8_reads_J125 (σ : SS) (rec : Int32 → SS → Option (SS)) (v1 : Int32) (s0 : Int32) (s1 : Int32) : Option (SS) :=
  ob (FX8_takesPart σ s1 s0) (fun σ18 => rec v1 σ18)
set_option maxRecDepth 100000 in
set_option maxHeartbeats 4000000 in
theorem PX8_reads_J125 {X : Bx} {g : Gx} {σr : SS} {σ : SS} (hX : Okw wsM X g cX8_reads 3 RX8 none ({ frames := 4, cells := 0, slots := 0, locals := 88 } : Room) (fun g => none) σr) {rec : Int32 → SS → Option (SS)} {v1 : Int32} {s0 : Int32} {s1 : Int32} (hrec : ∀ (w1 : Int32) (σ2 : SS), rec w1 σ2 = some σr → Vx X g.1 3 (wsM g σ2) 2 [(0, .ref (g.2.1 0)), (1, .int w1)] []) (hf : FX8_reads_J125 σ rec v1 s0 s1 = some σr) : Vx X g.1 3 (wsM g σ) 125 [(0, .ref (g.2.1 0)), (1, .int v1)] [.int s0, .int s1, .ref (g.2.1 0)] := by
  have h0 := hX.1
  rw [FX8_reads_J125] at hf
  obtain ⟨σ18, h17, hf⟩ := ob_some hf
  refine w_callV (st := []) (ci := 8) (q0 := 0) hX (c_X8_takesPart h17) ce_X8_takesPart q930 ⟨rfl, rfl⟩ ⟨by decide, by decide⟩ rfl rfl rfl rfl (mo_0 g _) rfl (Nat.le_of_ble_eq_true rfl) dX8_reads_125 ?_
  show Vx X g.1 3 (wsM g σ18) 128 [(0, .ref (g.2.1 0)), (1, .int v1)] []
  refine vx_goto (tgt := 136) h0 dX8_reads_128 (by decide) ?_
  refine vx_goto (tgt := 2) h0 dX8_reads_136 (by decide) ?_
  exact hrec _ _ hf
def FX8_reads_J102 (σ : SS) (rec : Int32 → SS → Option (SS)) (v1 : Int32) (v2 : Int32) : Option (SS) :=
  if v2 = (100 : Int32) then FX8_reads_J125 σ (fun a23 σ24 => rec a23 σ24) v1 (0 : Int32) v1
    else if v2 = (117 : Int32) then FX8_reads_J125 σ (fun a21 σ22 => rec a21 σ22) v1 (1 : Int32) v1
    else FX8_reads_J125 σ (fun a19 σ20 => rec a19 σ20) v1 (2 : Int32) v1
set_option maxRecDepth 100000 in
set_option maxHeartbeats 4000000 in
theorem PX8_reads_J102 {X : Bx} {g : Gx} {σr : SS} {σ : SS} (hX : Okw wsM X g cX8_reads 3 RX8 none ({ frames := 4, cells := 0, slots := 0, locals := 88 } : Room) (fun g => none) σr) {rec : Int32 → SS → Option (SS)} {v1 : Int32} {v2 : Int32} (hrec : ∀ (w1 : Int32) (σ2 : SS), rec w1 σ2 = some σr → Vx X g.1 3 (wsM g σ2) 2 [(0, .ref (g.2.1 0)), (1, .int w1)] []) (hf : FX8_reads_J102 σ rec v1 v2 = some σr) : Vx X g.1 3 (wsM g σ) 102 [(0, .ref (g.2.1 0)), (1, .int v1), (2, .int v2)] [] := by
  have h0 := hX.1
  rw [FX8_reads_J102] at hf
  refine vx_aload_n h0 dX8_reads_102 rfl ?_
  refine vx_iload_n h0 dX8_reads_103 rfl ?_
  refine vx_iload_n h0 dX8_reads_104 rfl ?_
  refine vx_bipush (v := (100 : Int32)) h0 dX8_reads_105 (by decide) ?_
  refine vx_icmp_ne (tgt := 114) h0 dX8_reads_107 (by decide) (fun c15 => ?_) (fun c15 => ?_)
  · replace hf := (if_neg c15).symm.trans hf
    refine vx_iload_n h0 dX8_reads_114 rfl ?_
    refine vx_bipush (v := (117 : Int32)) h0 dX8_reads_115 (by decide) ?_
    refine vx_icmp_ne (tgt := 124) h0 dX8_reads_117 (by decide) (fun c16 => ?_) (fun c16 => ?_)
    · replace hf := (if_neg c16).symm.trans hf
      refine vx_iconst (v := (2 : Int32)) h0 dX8_reads_124 (by decide) ?_
      refine vx_sub [0, 1] rfl ?_
      exact PX8_reads_J125 hX (fun a19 σ20 hf => hrec a19 σ20 hf) hf
    · replace hf := (if_pos c16).symm.trans hf
      refine vx_iconst (v := (1 : Int32)) h0 dX8_reads_120 (by decide) ?_
      refine vx_goto (tgt := 125) h0 dX8_reads_121 (by decide) ?_
      refine vx_sub [0, 1] rfl ?_
      exact PX8_reads_J125 hX (fun a21 σ22 hf => hrec a21 σ22 hf) hf
  · replace hf := (if_pos c15).symm.trans hf
    refine vx_iconst (v := (0 : Int32)) h0 dX8_reads_110 (by decide) ?_
    refine vx_goto (tgt := 125) h0 dX8_reads_111 (by decide) ?_
    refine vx_sub [0, 1] rfl ?_
    exact PX8_reads_J125 hX (fun a23 σ24 hf => hrec a23 σ24 hf) hf
def FX8_reads_J79 (σ : SS) (rec : Int32 → SS → Option (SS)) (v1 : Int32) (v2 : Int32) : Option (SS) :=
  if v1 = (-1 : Int32) then FX8_reads_J131 σ (fun a12 σ13 => rec a12 σ13) v1
    else if v2 = (100 : Int32) then FX8_reads_J102 σ (fun a25 σ26 => rec a25 σ26) v1 v2
    else if v2 = (117 : Int32) then FX8_reads_J102 σ (fun a28 σ29 => rec a28 σ29) v1 v2
    else if v2 = (114 : Int32) then FX8_reads_J102 σ (fun a33 σ34 => rec a33 σ34) v1 v2
    else FX8_reads_J131 σ (fun a31 σ32 => rec a31 σ32) v1
set_option maxRecDepth 100000 in
set_option maxHeartbeats 4000000 in
theorem PX8_reads_J79 {X : Bx} {g : Gx} {σr : SS} {σ : SS} (hX : Okw wsM X g cX8_reads 3 RX8 none ({ frames := 4, cells := 0, slots := 0, locals := 88 } : Room) (fun g => none) σr) {rec : Int32 → SS → Option (SS)} {v1 : Int32} {v2 : Int32} (hrec : ∀ (w1 : Int32) (σ2 : SS), rec w1 σ2 = some σr → Vx X g.1 3 (wsM g σ2) 2 [(0, .ref (g.2.1 0)), (1, .int w1)] []) (hf : FX8_reads_J79 σ rec v1 v2 = some σr) : Vx X g.1 3 (wsM g σ) 79 [(0, .ref (g.2.1 0)), (1, .int v1), (2, .int v2)] [] := by
  have h0 := hX.1
  rw [FX8_reads_J79] at hf
  refine vx_iload_n h0 dX8_reads_79 rfl ?_
  refine vx_iconst (v := (-1 : Int32)) h0 dX8_reads_80 (by decide) ?_
  refine vx_icmp_eq (tgt := 131) h0 dX8_reads_81 (by decide) (fun c9 => ?_) (fun c9 => ?_)
  · replace hf := (if_pos c9).symm.trans hf
    refine vx_sub [0, 1] rfl ?_
    exact PX8_reads_J131 hX (fun a12 σ13 hf => hrec a12 σ13 hf) hf
  · replace hf := (if_neg c9).symm.trans hf
    refine vx_iload_n h0 dX8_reads_84 rfl ?_
    refine vx_bipush (v := (100 : Int32)) h0 dX8_reads_85 (by decide) ?_
    refine vx_icmp_eq (tgt := 102) h0 dX8_reads_87 (by decide) (fun c14 => ?_) (fun c14 => ?_)
    · replace hf := (if_pos c14).symm.trans hf
      exact PX8_reads_J102 hX (fun a25 σ26 hf => hrec a25 σ26 hf) hf
    · replace hf := (if_neg c14).symm.trans hf
      refine vx_iload_n h0 dX8_reads_90 rfl ?_
      refine vx_bipush (v := (117 : Int32)) h0 dX8_reads_91 (by decide) ?_
      refine vx_icmp_eq (tgt := 102) h0 dX8_reads_93 (by decide) (fun c27 => ?_) (fun c27 => ?_)
      · replace hf := (if_pos c27).symm.trans hf
        exact PX8_reads_J102 hX (fun a28 σ29 hf => hrec a28 σ29 hf) hf
      · replace hf := (if_neg c27).symm.trans hf
        refine vx_iload_n h0 dX8_reads_96 rfl ?_
        refine vx_bipush (v := (114 : Int32)) h0 dX8_reads_97 (by decide) ?_
        refine vx_icmp_ne (tgt := 131) h0 dX8_reads_99 (by decide) (fun c30 => ?_) (fun c30 => ?_)
        · replace hf := (if_neg c30).symm.trans hf
          refine vx_sub [0, 1] rfl ?_
          exact PX8_reads_J131 hX (fun a31 σ32 hf => hrec a31 σ32 hf) hf
        · replace hf := (if_pos c30).symm.trans hf
          exact PX8_reads_J102 hX (fun a33 σ34 hf => hrec a33 σ34 hf) hf
def FX8_reads_J22 (σ : SS) (rec : Int32 → SS → Option (SS)) (v1 : Int32) : Option (SS) :=
  ob (FX8_sign σ) (fun p6 => if p6.1 = (99 : Int32) then ob (FX8_opens p6.2 v1) (fun σ43 => rec ((gI σ43 12) - (1 : Int32)) σ43)
    else if p6.1 = (41 : Int32) then if v1 = (-1 : Int32) then FX8_reads_J79 p6.2 (fun a38 σ39 => rec a38 σ39) v1 p6.1
    else bd (sI p6.2 22 ((gI p6.2 22) + (1 : Int32))) (fun σ40 => gd (inb v1 16) (rec (gA σ40 13 (Int32.toNatClampNeg v1)) σ40))
    else FX8_reads_J79 p6.2 (fun a35 σ36 => rec a35 σ36) v1 p6.1)
set_option maxRecDepth 100000 in
set_option maxHeartbeats 4000000 in
theorem PX8_reads_J22 {X : Bx} {g : Gx} {σr : SS} {σ : SS} (hX : Okw wsM X g cX8_reads 3 RX8 none ({ frames := 4, cells := 0, slots := 0, locals := 88 } : Room) (fun g => none) σr) {rec : Int32 → SS → Option (SS)} {v1 : Int32} (hrec : ∀ (w1 : Int32) (σ2 : SS), rec w1 σ2 = some σr → Vx X g.1 3 (wsM g σ2) 2 [(0, .ref (g.2.1 0)), (1, .int w1)] []) (hf : FX8_reads_J22 σ rec v1 = some σr) : Vx X g.1 3 (wsM g σ) 22 [(0, .ref (g.2.1 0)), (1, .int v1)] [] := by
  have h0 := hX.1
  rw [FX8_reads_J22] at hf
  refine vx_aload_n h0 dX8_reads_22 rfl ?_
  obtain ⟨p6, h5, hf⟩ := ob_some hf
  refine w_callV (st := []) (ci := 8) (q0 := 0) hX (c_X8_sign h5) ce_X8_sign q908 ⟨rfl, rfl⟩ ⟨by decide, by decide⟩ rfl rfl rfl rfl (mo_0 g _) rfl (Nat.le_of_ble_eq_true rfl) dX8_reads_23 ?_
  show Vx X g.1 3 (wsM g p6.2) 26 [(0, .ref (g.2.1 0)), (1, .int v1)] [.int p6.1]
  refine vx_istore_n (ls' := [(2, .int p6.1), (0, .ref (g.2.1 0)), (1, .int v1)]) h0 dX8_reads_26 (by decide) rfl ?_
  refine vx_iload_n h0 dX8_reads_27 rfl ?_
  refine vx_bipush (v := (99 : Int32)) h0 dX8_reads_28 (by decide) ?_
  refine vx_icmp_ne (tgt := 48) h0 dX8_reads_30 (by decide) (fun c7 => ?_) (fun c7 => ?_)
  · replace hf := (if_neg c7).symm.trans hf
    refine vx_iload_n h0 dX8_reads_48 rfl ?_
    refine vx_bipush (v := (41 : Int32)) h0 dX8_reads_49 (by decide) ?_
    refine vx_icmp_ne (tgt := 79) h0 dX8_reads_51 (by decide) (fun c8 => ?_) (fun c8 => ?_)
    · replace hf := (if_neg c8).symm.trans hf
      refine vx_sub [1, 2, 0] rfl ?_
      exact PX8_reads_J79 hX (fun a35 σ36 hf => hrec a35 σ36 hf) hf
    · replace hf := (if_pos c8).symm.trans hf
      refine vx_iload_n h0 dX8_reads_54 rfl ?_
      refine vx_iconst (v := (-1 : Int32)) h0 dX8_reads_55 (by decide) ?_
      refine vx_icmp_eq (tgt := 79) h0 dX8_reads_56 (by decide) (fun c37 => ?_) (fun c37 => ?_)
      · replace hf := (if_pos c37).symm.trans hf
        refine vx_sub [1, 2, 0] rfl ?_
        exact PX8_reads_J79 hX (fun a38 σ39 hf => hrec a38 σ39 hf) hf
      · replace hf := (if_neg c37).symm.trans hf
        refine vx_aload_n h0 dX8_reads_59 rfl ?_
        refine vx_dup h0 dX8_reads_60 rfl ?_
        refine mg_0_22 hX q806 dX8_reads_61 ?_
        refine vx_iconst (v := (1 : Int32)) h0 dX8_reads_64 (by decide) ?_
        refine vx_iadd h0 dX8_reads_65 ?_
        refine mp_0_22 hX q806 dX8_reads_66 ?_
        generalize (sI p6.2 22 ((gI p6.2 22) + (1 : Int32))) = σ40 at hf ⊢
        replace hf := bd_h hf
        refine vx_aload_n h0 dX8_reads_69 rfl ?_
        refine mg_0_13 hX q797 dX8_reads_70 ?_
        refine vx_iload_n h0 dX8_reads_73 rfl ?_
        obtain ⟨b41, hf⟩ := gd_some hf
        refine ml_9 hX b41 dX8_reads_74 ?_
        refine vx_istore_n (ls' := [(1, .int (gA σ40 13 (Int32.toNatClampNeg v1))), (2, .int p6.1), (0, .ref (g.2.1 0))]) h0 dX8_reads_75 (by decide) rfl ?_
        refine vx_goto (tgt := 136) h0 dX8_reads_76 (by decide) ?_
        refine vx_goto (tgt := 2) h0 dX8_reads_136 (by decide) ?_
        refine vx_sub [2, 0] rfl ?_
        exact hrec _ _ hf
  · replace hf := (if_pos c7).symm.trans hf
    refine vx_aload_n h0 dX8_reads_33 rfl ?_
    refine vx_iload_n h0 dX8_reads_34 rfl ?_
    obtain ⟨σ43, h42, hf⟩ := ob_some hf
    refine w_callV (st := []) (ci := 8) (q0 := 0) hX (c_X8_opens h42) ce_X8_opens q912 ⟨rfl, rfl⟩ ⟨by decide, by decide⟩ rfl rfl rfl rfl (mo_0 g _) rfl (Nat.le_of_ble_eq_true rfl) dX8_reads_35 ?_
    show Vx X g.1 3 (wsM g σ43) 38 [(2, .int p6.1), (0, .ref (g.2.1 0)), (1, .int v1)] []
    refine vx_aload_n h0 dX8_reads_38 rfl ?_
    refine mg_0_12 hX q796 dX8_reads_39 ?_
    refine vx_iconst (v := (1 : Int32)) h0 dX8_reads_42 (by decide) ?_
    refine vx_isub h0 dX8_reads_43 ?_
    refine vx_istore_n (ls' := [(1, .int ((gI σ43 12) - (1 : Int32))), (2, .int p6.1), (0, .ref (g.2.1 0))]) h0 dX8_reads_44 (by decide) rfl ?_
    refine vx_goto (tgt := 136) h0 dX8_reads_45 (by decide) ?_
    refine vx_goto (tgt := 2) h0 dX8_reads_136 (by decide) ?_
    refine vx_sub [2, 0] rfl ?_
    exact hrec _ _ hf
def FX8_reads_L2 (k : SS → Option (SS)) : Nat → Int32 → SS → Option (SS)
  | 0, _, _ => none
  | n + 1, v1, σ => if (gI σ 23) = 0 then ob (FX8_sign σ) (fun p3 => if p3.1 = (-1 : Int32) then if v1 = (-1 : Int32) then k p3.2
    else FX8_reads_J22 p3.2 (fun a47 σ48 => FX8_reads_L2 k n a47 σ48) v1
    else FX8_reads_J22 p3.2 (fun a44 σ45 => FX8_reads_L2 k n a44 σ45) v1)
    else k σ
set_option maxRecDepth 100000 in
set_option maxHeartbeats 4000000 in
theorem PX8_reads_L2 {X : Bx} {g : Gx} {σr : SS} (hX : Okw wsM X g cX8_reads 3 RX8 none ({ frames := 4, cells := 0, slots := 0, locals := 88 } : Room) (fun g => none) σr) {k : SS → Option (SS)} (hk : ∀ (σ : SS), k σ = some σr → Vx X g.1 3 (wsM g σ) 139 [(0, .ref (g.2.1 0))] []) : ∀ (n : Nat) (v1 : Int32) (σ : SS), FX8_reads_L2 k n v1 σ = some σr → Vx X g.1 3 (wsM g σ) 2 [(0, .ref (g.2.1 0)), (1, .int v1)] [] := by
  have h0 := hX.1
  intro n
  induction n with
  | zero =>
    intro v1 σ hf
    rw [FX8_reads_L2] at hf
    cases hf
  | succ n ih =>
    intro v1 σ hf
    rw [FX8_reads_L2] at hf
    refine vx_aload_n h0 dX8_reads_2 rfl ?_
    refine mg_0_23 hX q807 dX8_reads_3 ?_
    refine vx_if_ne (tgt := 139) h0 dX8_reads_6 (by decide) (fun c1 => ?_) (fun c1 => ?_)
    · replace hf := (if_neg c1).symm.trans hf
      refine vx_sub [0] rfl ?_
      exact hk _ hf
    · replace hf := (if_pos c1).symm.trans hf
      refine vx_aload_n h0 dX8_reads_9 rfl ?_
      obtain ⟨p3, h2, hf⟩ := ob_some hf
      refine w_callV (st := []) (ci := 8) (q0 := 0) hX (c_X8_sign h2) ce_X8_sign q908 ⟨rfl, rfl⟩ ⟨by decide, by decide⟩ rfl rfl rfl rfl (mo_0 g _) rfl (Nat.le_of_ble_eq_true rfl) dX8_reads_10 ?_
      show Vx X g.1 3 (wsM g p3.2) 13 [(0, .ref (g.2.1 0)), (1, .int v1)] [.int p3.1]
      refine vx_iconst (v := (-1 : Int32)) h0 dX8_reads_13 (by decide) ?_
      refine vx_icmp_ne (tgt := 22) h0 dX8_reads_14 (by decide) (fun c4 => ?_) (fun c4 => ?_)
      · replace hf := (if_neg c4).symm.trans hf
        exact PX8_reads_J22 hX (fun a44 σ45 hf => ih a44 σ45 hf) hf
      · replace hf := (if_pos c4).symm.trans hf
        refine vx_iload_n h0 dX8_reads_17 rfl ?_
        refine vx_iconst (v := (-1 : Int32)) h0 dX8_reads_18 (by decide) ?_
        refine vx_icmp_eq (tgt := 139) h0 dX8_reads_19 (by decide) (fun c46 => ?_) (fun c46 => ?_)
        · replace hf := (if_pos c46).symm.trans hf
          refine vx_sub [0] rfl ?_
          exact hk _ hf
        · replace hf := (if_neg c46).symm.trans hf
          exact PX8_reads_J22 hX (fun a47 σ48 hf => ih a47 σ48 hf) hf
def FX8_reads_L141 (k : SS → Option (SS)) : Nat → Int32 → SS → Option (SS)
  | 0, _, _ => none
  | n + 1, v2, σ => if (gI σ 17) ≤ v2 then k σ
    else if (gI σ 23) = 0 then gd (inb v2 30) (if (gA σ 19 (Int32.toNatClampNeg v2)) = (2 : Int32) then gd (inb v2 30) (if (gA σ 20 (Int32.toNatClampNeg v2)) < (gI σ 12) then FX8_reads_L141 k n (v2 + (1 : Int32)) σ
    else gd (inb v2 30) (bd (sI σ 22 (gA σ 21 (Int32.toNatClampNeg v2))) (fun σ57 => ob (FX8_fails σ57 (5 : Int32)) (fun σ59 => FX8_reads_L141 k n (v2 + (1 : Int32)) σ59))))
    else FX8_reads_L141 k n (v2 + (1 : Int32)) σ)
    else k σ
set_option maxRecDepth 100000 in
set_option maxHeartbeats 4000000 in
theorem PX8_reads_L141 {X : Bx} {g : Gx} {σr : SS} (hX : Okw wsM X g cX8_reads 3 RX8 none ({ frames := 4, cells := 0, slots := 0, locals := 88 } : Room) (fun g => none) σr) {k : SS → Option (SS)} (hk : ∀ (σ : SS), k σ = some σr → Vx X g.1 3 (wsM g σ) 200 [] []) : ∀ (n : Nat) (v2 : Int32) (σ : SS), FX8_reads_L141 k n v2 σ = some σr → Vx X g.1 3 (wsM g σ) 141 [(0, .ref (g.2.1 0)), (2, .int v2)] [] := by
  have h0 := hX.1
  intro n
  induction n with
  | zero =>
    intro v2 σ hf
    rw [FX8_reads_L141] at hf
    cases hf
  | succ n ih =>
    intro v2 σ hf
    rw [FX8_reads_L141] at hf
    refine vx_iload_n h0 dX8_reads_141 rfl ?_
    refine vx_aload_n h0 dX8_reads_142 rfl ?_
    refine mg_0_17 hX q801 dX8_reads_143 ?_
    refine vx_icmp_ge (tgt := 200) h0 dX8_reads_146 (by decide) (fun c50 => ?_) (fun c50 => ?_)
    · replace hf := (if_pos c50).symm.trans hf
      refine vx_sub [] rfl ?_
      exact hk _ hf
    · replace hf := (if_neg c50).symm.trans hf
      refine vx_aload_n h0 dX8_reads_149 rfl ?_
      refine mg_0_23 hX q807 dX8_reads_150 ?_
      refine vx_if_ne (tgt := 200) h0 dX8_reads_153 (by decide) (fun c51 => ?_) (fun c51 => ?_)
      · replace hf := (if_neg c51).symm.trans hf
        refine vx_sub [] rfl ?_
        exact hk _ hf
      · replace hf := (if_pos c51).symm.trans hf
        refine vx_aload_n h0 dX8_reads_156 rfl ?_
        refine mg_0_19 hX q803 dX8_reads_157 ?_
        refine vx_iload_n h0 dX8_reads_160 rfl ?_
        obtain ⟨b52, hf⟩ := gd_some hf
        refine ml_14 hX b52 dX8_reads_161 ?_
        refine vx_iconst (v := (2 : Int32)) h0 dX8_reads_162 (by decide) ?_
        refine vx_icmp_ne (tgt := 194) h0 dX8_reads_163 (by decide) (fun c53 => ?_) (fun c53 => ?_)
        · replace hf := (if_neg c53).symm.trans hf
          refine vx_iinc (q := 1) (v := (v2 + (1 : Int32))) (ls' := [(2, .int (v2 + (1 : Int32))), (0, .ref (g.2.1 0))]) h0 dX8_reads_194 rfl rfl (by decide) rfl ?_
          refine vx_goto (tgt := 141) h0 dX8_reads_197 (by decide) ?_
          refine vx_sub [1, 0] rfl ?_
          exact ih _ _ hf
        · replace hf := (if_pos c53).symm.trans hf
          refine vx_aload_n h0 dX8_reads_166 rfl ?_
          refine mg_0_20 hX q804 dX8_reads_167 ?_
          refine vx_iload_n h0 dX8_reads_170 rfl ?_
          obtain ⟨b54, hf⟩ := gd_some hf
          refine ml_15 hX b54 dX8_reads_171 ?_
          refine vx_aload_n h0 dX8_reads_172 rfl ?_
          refine mg_0_12 hX q796 dX8_reads_173 ?_
          refine vx_icmp_lt (tgt := 194) h0 dX8_reads_176 (by decide) (fun c55 => ?_) (fun c55 => ?_)
          · replace hf := (if_pos c55).symm.trans hf
            refine vx_iinc (q := 1) (v := (v2 + (1 : Int32))) (ls' := [(2, .int (v2 + (1 : Int32))), (0, .ref (g.2.1 0))]) h0 dX8_reads_194 rfl rfl (by decide) rfl ?_
            refine vx_goto (tgt := 141) h0 dX8_reads_197 (by decide) ?_
            refine vx_sub [1, 0] rfl ?_
            exact ih _ _ hf
          · replace hf := (if_neg c55).symm.trans hf
            refine vx_aload_n h0 dX8_reads_179 rfl ?_
            refine vx_aload_n h0 dX8_reads_180 rfl ?_
            refine mg_0_21 hX q805 dX8_reads_181 ?_
            refine vx_iload_n h0 dX8_reads_184 rfl ?_
            obtain ⟨b56, hf⟩ := gd_some hf
            refine ml_16 hX b56 dX8_reads_185 ?_
            refine mp_0_22 hX q806 dX8_reads_186 ?_
            generalize (sI σ 22 (gA σ 21 (Int32.toNatClampNeg v2))) = σ57 at hf ⊢
            replace hf := bd_h hf
            refine vx_aload_n h0 dX8_reads_189 rfl ?_
            refine vx_iconst (v := (5 : Int32)) h0 dX8_reads_190 (by decide) ?_
            obtain ⟨σ59, h58, hf⟩ := ob_some hf
            refine w_callV (st := []) (ci := 8) (q0 := 0) hX (c_X8_fails h58) ce_X8_fails q916 ⟨rfl, rfl⟩ ⟨by decide, by decide⟩ rfl rfl rfl rfl (mo_0 g _) rfl (Nat.le_of_ble_eq_true rfl) dX8_reads_191 ?_
            show Vx X g.1 3 (wsM g σ59) 194 [(0, .ref (g.2.1 0)), (2, .int v2)] []
            refine vx_iinc (q := 1) (v := (v2 + (1 : Int32))) (ls' := [(2, .int (v2 + (1 : Int32))), (0, .ref (g.2.1 0))]) h0 dX8_reads_194 rfl rfl (by decide) rfl ?_
            refine vx_goto (tgt := 141) h0 dX8_reads_197 (by decide) ?_
            refine vx_sub [1, 0] rfl ?_
            exact ih _ _ hf
def FX8_reads (σ : SS) : Option (SS) :=
  FX8_reads_L2 (fun σ49 => FX8_reads_L141 (fun σ60 => some σ60) 5000 (0 : Int32) σ49) 5000 (-1 : Int32) σ
set_option maxRecDepth 100000 in
set_option maxHeartbeats 4000000 in
theorem c_X8_reads {σ : SS} {σr : SS} (hf : FX8_reads σ = some σr) : Mcw wsM yX8_reads cX8_reads 3 none ({ frames := 4, cells := 0, slots := 0, locals := 88 } : Room) (fun g => [.ref (g.2.1 0)]) σ (fun g => none) σr := by
  refine w_enter wsM_fix (by decide) (fun g => Nat.le_of_ble_eq_true rfl) ?_
  intro X g hX
  replace hX : Okw wsM X g cX8_reads 3 RX8 none ({ frames := 4, cells := 0, slots := 0, locals := 88 } : Room) (fun g => none) σr := hX
  have h0 := hX.1
  show Vx X g.1 3 (wsM g σ) 0 [(0, .ref (g.2.1 0))] []
  rw [FX8_reads] at hf
  refine vx_iconst (v := (-1 : Int32)) h0 dX8_reads_0 (by decide) ?_
  refine vx_istore_n (ls' := [(1, .int (-1 : Int32)), (0, .ref (g.2.1 0))]) h0 dX8_reads_1 (by decide) rfl ?_
  refine vx_sub [1, 0] rfl ?_
  refine PX8_reads_L2 hX (fun σ49 hf => ?_) _ _ _ hf
  refine vx_iconst (v := (0 : Int32)) h0 dX8_reads_139 (by decide) ?_
  refine vx_istore_n (ls' := [(2, .int (0 : Int32)), (0, .ref (g.2.1 0))]) h0 dX8_reads_140 (by decide) rfl ?_
  refine vx_sub [1, 0] rfl ?_
  refine PX8_reads_L141 hX (fun σ60 hf => ?_) _ _ _ hf
  exact w_vretE hX hf dX8_reads_200
def FX8_contract_L67 (k : SS → Option (Int32 × SS)) : Nat → Int32 → SS → Option (Int32 × SS)
  | 0, _, _ => none
  | n + 1, v1, σ => if (gI σ 3) ≤ v1 then k σ
    else gd (inb v1 16) (gd (inb v1 16) (bd (sA σ 4 (upd (gA σ 4) (Int32.toNatClampNeg v1) (gA σ 13 (Int32.toNatClampNeg v1)))) (fun σ15 => gd (inb v1 16) (gd (inb v1 16) (bd (sA σ15 5 (upd (gA σ15 5) (Int32.toNatClampNeg v1) (gA σ15 14 (Int32.toNatClampNeg v1)))) (fun σ18 => gd (inb v1 16) (gd (inb v1 16) (bd (sA σ18 6 (upd (gA σ18 6) (Int32.toNatClampNeg v1) (gA σ18 15 (Int32.toNatClampNeg v1)))) (fun σ21 => gd (inb v1 16) (gd (inb v1 16) (bd (sA σ21 7 (upd (gA σ21 7) (Int32.toNatClampNeg v1) (gA σ21 16 (Int32.toNatClampNeg v1)))) (fun σ24 => FX8_contract_L67 k n (v1 + (1 : Int32)) σ24))))))))))))
set_option maxRecDepth 100000 in
set_option maxHeartbeats 4000000 in
theorem PX8_contract_L67 {X : Bx} {g : Gx} {r : Int32} {σr : SS} (hX : Okw wsM X g cX8_contract 2 RX8 (some .int) ({ frames := 5, cells := 0, slots := 0, locals := 110 } : Room) (fun g => some (.int r)) σr) {k : SS → Option (Int32 × SS)} (hk : ∀ (σ : SS), k σ = some (r, σr) → Vx X g.1 2 (wsM g σ) 129 [(0, .ref (g.2.1 0))] []) : ∀ (n : Nat) (v1 : Int32) (σ : SS), FX8_contract_L67 k n v1 σ = some (r, σr) → Vx X g.1 2 (wsM g σ) 67 [(0, .ref (g.2.1 0)), (1, .int v1)] [] := by
  have h0 := hX.1
  intro n
  induction n with
  | zero =>
    intro v1 σ hf
    rw [FX8_contract_L67] at hf
    cases hf
  | succ n ih =>
    intro v1 σ hf
    rw [FX8_contract_L67] at hf
    refine vx_iload_n h0 dX8_contract_67 rfl ?_
    refine vx_aload_n h0 dX8_contract_68 rfl ?_
    refine mg_0_3 hX q787 dX8_contract_69 ?_
    refine vx_icmp_ge (tgt := 129) h0 dX8_contract_72 (by decide) (fun c12 => ?_) (fun c12 => ?_)
    · replace hf := (if_pos c12).symm.trans hf
      refine vx_sub [0] rfl ?_
      exact hk _ hf
    · replace hf := (if_neg c12).symm.trans hf
      refine vx_aload_n h0 dX8_contract_75 rfl ?_
      refine mg_0_4 hX q788 dX8_contract_76 ?_
      refine vx_iload_n h0 dX8_contract_79 rfl ?_
      refine vx_aload_n h0 dX8_contract_80 rfl ?_
      refine mg_0_13 hX q797 dX8_contract_81 ?_
      refine vx_iload_n h0 dX8_contract_84 rfl ?_
      obtain ⟨b13, hf⟩ := gd_some hf
      refine ml_9 hX b13 dX8_contract_85 ?_
      obtain ⟨b14, hf⟩ := gd_some hf
      refine ms_2 hX b14 dX8_contract_86 ?_
      generalize (sA σ 4 (upd (gA σ 4) (Int32.toNatClampNeg v1) (gA σ 13 (Int32.toNatClampNeg v1)))) = σ15 at hf ⊢
      replace hf := bd_h hf
      refine vx_aload_n h0 dX8_contract_87 rfl ?_
      refine mg_0_5 hX q789 dX8_contract_88 ?_
      refine vx_iload_n h0 dX8_contract_91 rfl ?_
      refine vx_aload_n h0 dX8_contract_92 rfl ?_
      refine mg_0_14 hX q798 dX8_contract_93 ?_
      refine vx_iload_n h0 dX8_contract_96 rfl ?_
      obtain ⟨b16, hf⟩ := gd_some hf
      refine ml_10 hX b16 dX8_contract_97 ?_
      obtain ⟨b17, hf⟩ := gd_some hf
      refine ms_3 hX b17 dX8_contract_98 ?_
      generalize (sA σ15 5 (upd (gA σ15 5) (Int32.toNatClampNeg v1) (gA σ15 14 (Int32.toNatClampNeg v1)))) = σ18 at hf ⊢
      replace hf := bd_h hf
      refine vx_aload_n h0 dX8_contract_99 rfl ?_
      refine mg_0_6 hX q790 dX8_contract_100 ?_
      refine vx_iload_n h0 dX8_contract_103 rfl ?_
      refine vx_aload_n h0 dX8_contract_104 rfl ?_
      refine mg_0_15 hX q799 dX8_contract_105 ?_
      refine vx_iload_n h0 dX8_contract_108 rfl ?_
      obtain ⟨b19, hf⟩ := gd_some hf
      refine ml_11 hX b19 dX8_contract_109 ?_
      obtain ⟨b20, hf⟩ := gd_some hf
      refine ms_4 hX b20 dX8_contract_110 ?_
      generalize (sA σ18 6 (upd (gA σ18 6) (Int32.toNatClampNeg v1) (gA σ18 15 (Int32.toNatClampNeg v1)))) = σ21 at hf ⊢
      replace hf := bd_h hf
      refine vx_aload_n h0 dX8_contract_111 rfl ?_
      refine mg_0_7 hX q791 dX8_contract_112 ?_
      refine vx_iload_n h0 dX8_contract_115 rfl ?_
      refine vx_aload_n h0 dX8_contract_116 rfl ?_
      refine mg_0_16 hX q800 dX8_contract_117 ?_
      refine vx_iload_n h0 dX8_contract_120 rfl ?_
      obtain ⟨b22, hf⟩ := gd_some hf
      refine ml_12 hX b22 dX8_contract_121 ?_
      obtain ⟨b23, hf⟩ := gd_some hf
      refine ms_5 hX b23 dX8_contract_122 ?_
      generalize (sA σ21 7 (upd (gA σ21 7) (Int32.toNatClampNeg v1) (gA σ21 16 (Int32.toNatClampNeg v1)))) = σ24 at hf ⊢
      replace hf := bd_h hf
      refine vx_iinc (q := 1) (v := (v1 + (1 : Int32))) (ls' := [(1, .int (v1 + (1 : Int32))), (0, .ref (g.2.1 0))]) h0 dX8_contract_123 rfl rfl (by decide) rfl ?_
      refine vx_goto (tgt := 67) h0 dX8_contract_126 (by decide) ?_
      refine vx_sub [1, 0] rfl ?_
      exact ih _ _ hf
def FX8_contract_L131 (k : SS → Option (Int32 × SS)) : Nat → Int32 → SS → Option (Int32 × SS)
  | 0, _, _ => none
  | n + 1, v1, σ => if (gI σ 8) ≤ v1 then k σ
    else gd (inb v1 30) (gd (inb v1 30) (bd (sA σ 9 (upd (gA σ 9) (Int32.toNatClampNeg v1) (gA σ 18 (Int32.toNatClampNeg v1)))) (fun σ29 => gd (inb v1 30) (gd (inb v1 30) (bd (sA σ29 10 (upd (gA σ29 10) (Int32.toNatClampNeg v1) (gA σ29 19 (Int32.toNatClampNeg v1)))) (fun σ32 => gd (inb v1 30) (gd (inb v1 30) (bd (sA σ32 11 (upd (gA σ32 11) (Int32.toNatClampNeg v1) (gA σ32 20 (Int32.toNatClampNeg v1)))) (fun σ35 => FX8_contract_L131 k n (v1 + (1 : Int32)) σ35)))))))))
set_option maxRecDepth 100000 in
set_option maxHeartbeats 4000000 in
theorem PX8_contract_L131 {X : Bx} {g : Gx} {r : Int32} {σr : SS} (hX : Okw wsM X g cX8_contract 2 RX8 (some .int) ({ frames := 5, cells := 0, slots := 0, locals := 110 } : Room) (fun g => some (.int r)) σr) {k : SS → Option (Int32 × SS)} (hk : ∀ (σ : SS), k σ = some (r, σr) → Vx X g.1 2 (wsM g σ) 181 [(0, .ref (g.2.1 0))] []) : ∀ (n : Nat) (v1 : Int32) (σ : SS), FX8_contract_L131 k n v1 σ = some (r, σr) → Vx X g.1 2 (wsM g σ) 131 [(0, .ref (g.2.1 0)), (1, .int v1)] [] := by
  have h0 := hX.1
  intro n
  induction n with
  | zero =>
    intro v1 σ hf
    rw [FX8_contract_L131] at hf
    cases hf
  | succ n ih =>
    intro v1 σ hf
    rw [FX8_contract_L131] at hf
    refine vx_iload_n h0 dX8_contract_131 rfl ?_
    refine vx_aload_n h0 dX8_contract_132 rfl ?_
    refine mg_0_8 hX q792 dX8_contract_133 ?_
    refine vx_icmp_ge (tgt := 181) h0 dX8_contract_136 (by decide) (fun c26 => ?_) (fun c26 => ?_)
    · replace hf := (if_pos c26).symm.trans hf
      refine vx_sub [0] rfl ?_
      exact hk _ hf
    · replace hf := (if_neg c26).symm.trans hf
      refine vx_aload_n h0 dX8_contract_139 rfl ?_
      refine mg_0_9 hX q793 dX8_contract_140 ?_
      refine vx_iload_n h0 dX8_contract_143 rfl ?_
      refine vx_aload_n h0 dX8_contract_144 rfl ?_
      refine mg_0_18 hX q802 dX8_contract_145 ?_
      refine vx_iload_n h0 dX8_contract_148 rfl ?_
      obtain ⟨b27, hf⟩ := gd_some hf
      refine ml_13 hX b27 dX8_contract_149 ?_
      obtain ⟨b28, hf⟩ := gd_some hf
      refine ms_6 hX b28 dX8_contract_150 ?_
      generalize (sA σ 9 (upd (gA σ 9) (Int32.toNatClampNeg v1) (gA σ 18 (Int32.toNatClampNeg v1)))) = σ29 at hf ⊢
      replace hf := bd_h hf
      refine vx_aload_n h0 dX8_contract_151 rfl ?_
      refine mg_0_10 hX q794 dX8_contract_152 ?_
      refine vx_iload_n h0 dX8_contract_155 rfl ?_
      refine vx_aload_n h0 dX8_contract_156 rfl ?_
      refine mg_0_19 hX q803 dX8_contract_157 ?_
      refine vx_iload_n h0 dX8_contract_160 rfl ?_
      obtain ⟨b30, hf⟩ := gd_some hf
      refine ml_14 hX b30 dX8_contract_161 ?_
      obtain ⟨b31, hf⟩ := gd_some hf
      refine ms_7 hX b31 dX8_contract_162 ?_
      generalize (sA σ29 10 (upd (gA σ29 10) (Int32.toNatClampNeg v1) (gA σ29 19 (Int32.toNatClampNeg v1)))) = σ32 at hf ⊢
      replace hf := bd_h hf
      refine vx_aload_n h0 dX8_contract_163 rfl ?_
      refine mg_0_11 hX q795 dX8_contract_164 ?_
      refine vx_iload_n h0 dX8_contract_167 rfl ?_
      refine vx_aload_n h0 dX8_contract_168 rfl ?_
      refine mg_0_20 hX q804 dX8_contract_169 ?_
      refine vx_iload_n h0 dX8_contract_172 rfl ?_
      obtain ⟨b33, hf⟩ := gd_some hf
      refine ml_15 hX b33 dX8_contract_173 ?_
      obtain ⟨b34, hf⟩ := gd_some hf
      refine ms_8 hX b34 dX8_contract_174 ?_
      generalize (sA σ32 11 (upd (gA σ32 11) (Int32.toNatClampNeg v1) (gA σ32 20 (Int32.toNatClampNeg v1)))) = σ35 at hf ⊢
      replace hf := bd_h hf
      refine vx_iinc (q := 1) (v := (v1 + (1 : Int32))) (ls' := [(1, .int (v1 + (1 : Int32))), (0, .ref (g.2.1 0))]) h0 dX8_contract_175 rfl rfl (by decide) rfl ?_
      refine vx_goto (tgt := 131) h0 dX8_contract_178 (by decide) ?_
      refine vx_sub [1, 0] rfl ?_
      exact ih _ _ hf
def FX8_contract (σ : SS) : Option (Int32 × SS) :=
  bd (sI σ 12 (0 : Int32)) (fun σ1 => bd (sI σ1 17 (0 : Int32)) (fun σ2 => bd (sI σ2 22 (0 : Int32)) (fun σ3 => bd (sI σ3 23 (0 : Int32)) (fun σ4 => bd (sI σ4 2 (-1 : Int32)) (fun σ5 => ob (FX8_reads σ5) (fun σ7 => bd (sI σ7 1 (0 : Int32)) (fun σ8 => if (gI σ8 23) ≤ 0 then bd (sI σ8 3 (gI σ8 12)) (fun σ10 => bd (sI σ10 8 (gI σ10 17)) (fun σ11 => FX8_contract_L67 (fun σ25 => FX8_contract_L131 (fun σ36 => bd (sI σ36 26 (0 : Int32)) (fun σ37 => bd (sI σ37 28 (0 : Int32)) (fun σ38 => gd (inb (0 : Int32) 2) (bd (sA σ38 30 (upd (gA σ38 30) (Int32.toNatClampNeg (0 : Int32)) (0 : Int32))) (fun σ40 => gd (inb (1 : Int32) 2) (bd (sA σ40 30 (upd (gA σ40 30) (Int32.toNatClampNeg (1 : Int32)) (0 : Int32))) (fun σ42 => some ((gI σ42 3), σ42)))))))) 5000 (0 : Int32) σ25) 5000 (0 : Int32) σ11))
    else some (((-10 : Int32) - (gI σ8 23)), σ8))))))))
set_option maxRecDepth 100000 in
set_option maxHeartbeats 4000000 in
theorem c_X8_contract {σ : SS} {r : Int32} {σr : SS} (hf : FX8_contract σ = some (r, σr)) : Mcw wsM yX8_contract cX8_contract 2 (some .int) ({ frames := 5, cells := 0, slots := 0, locals := 110 } : Room) (fun g => [.ref (g.2.1 0)]) σ (fun g => some (.int r)) σr := by
  refine w_enter wsM_fix (by decide) (fun g => Nat.le_of_ble_eq_true rfl) ?_
  intro X g hX
  replace hX : Okw wsM X g cX8_contract 2 RX8 (some .int) ({ frames := 5, cells := 0, slots := 0, locals := 110 } : Room) (fun g => some (.int r)) σr := hX
  have h0 := hX.1
  show Vx X g.1 2 (wsM g σ) 0 [(0, .ref (g.2.1 0))] []
  rw [FX8_contract] at hf
  refine vx_aload_n h0 dX8_contract_0 rfl ?_
  refine vx_iconst (v := (0 : Int32)) h0 dX8_contract_1 (by decide) ?_
  refine mp_0_12 hX q796 dX8_contract_2 ?_
  generalize (sI σ 12 (0 : Int32)) = σ1 at hf ⊢
  replace hf := bd_h hf
  refine vx_aload_n h0 dX8_contract_5 rfl ?_
  refine vx_iconst (v := (0 : Int32)) h0 dX8_contract_6 (by decide) ?_
  refine mp_0_17 hX q801 dX8_contract_7 ?_
  generalize (sI σ1 17 (0 : Int32)) = σ2 at hf ⊢
  replace hf := bd_h hf
  refine vx_aload_n h0 dX8_contract_10 rfl ?_
  refine vx_iconst (v := (0 : Int32)) h0 dX8_contract_11 (by decide) ?_
  refine mp_0_22 hX q806 dX8_contract_12 ?_
  generalize (sI σ2 22 (0 : Int32)) = σ3 at hf ⊢
  replace hf := bd_h hf
  refine vx_aload_n h0 dX8_contract_15 rfl ?_
  refine vx_iconst (v := (0 : Int32)) h0 dX8_contract_16 (by decide) ?_
  refine mp_0_23 hX q807 dX8_contract_17 ?_
  generalize (sI σ3 23 (0 : Int32)) = σ4 at hf ⊢
  replace hf := bd_h hf
  refine vx_aload_n h0 dX8_contract_20 rfl ?_
  refine vx_iconst (v := (-1 : Int32)) h0 dX8_contract_21 (by decide) ?_
  refine mp_0_2 hX q786 dX8_contract_22 ?_
  generalize (sI σ4 2 (-1 : Int32)) = σ5 at hf ⊢
  replace hf := bd_h hf
  refine vx_aload_n h0 dX8_contract_25 rfl ?_
  obtain ⟨σ7, h6, hf⟩ := ob_some hf
  refine w_callV (st := []) (ci := 8) (q0 := 0) hX (c_X8_reads h6) ce_X8_reads q904 ⟨rfl, rfl⟩ ⟨by decide, by decide⟩ rfl rfl rfl rfl (mo_0 g _) rfl (Nat.le_of_ble_eq_true rfl) dX8_contract_26 ?_
  show Vx X g.1 2 (wsM g σ7) 29 [(0, .ref (g.2.1 0))] []
  refine vx_aload_n h0 dX8_contract_29 rfl ?_
  refine vx_iconst (v := (0 : Int32)) h0 dX8_contract_30 (by decide) ?_
  refine mp_0_1 hX q785 dX8_contract_31 ?_
  generalize (sI σ7 1 (0 : Int32)) = σ8 at hf ⊢
  replace hf := bd_h hf
  refine vx_aload_n h0 dX8_contract_34 rfl ?_
  refine mg_0_23 hX q807 dX8_contract_35 ?_
  refine vx_if_le (tgt := 49) h0 dX8_contract_38 (by decide) (fun c9 => ?_) (fun c9 => ?_)
  · replace hf := (if_pos c9).symm.trans hf
    refine vx_aload_n h0 dX8_contract_49 rfl ?_
    refine vx_aload_n h0 dX8_contract_50 rfl ?_
    refine mg_0_12 hX q796 dX8_contract_51 ?_
    refine mp_0_3 hX q787 dX8_contract_54 ?_
    generalize (sI σ8 3 (gI σ8 12)) = σ10 at hf ⊢
    replace hf := bd_h hf
    refine vx_aload_n h0 dX8_contract_57 rfl ?_
    refine vx_aload_n h0 dX8_contract_58 rfl ?_
    refine mg_0_17 hX q801 dX8_contract_59 ?_
    refine mp_0_8 hX q792 dX8_contract_62 ?_
    generalize (sI σ10 8 (gI σ10 17)) = σ11 at hf ⊢
    replace hf := bd_h hf
    refine vx_iconst (v := (0 : Int32)) h0 dX8_contract_65 (by decide) ?_
    refine vx_istore_n (ls' := [(1, .int (0 : Int32)), (0, .ref (g.2.1 0))]) h0 dX8_contract_66 (by decide) rfl ?_
    refine vx_sub [1, 0] rfl ?_
    refine PX8_contract_L67 hX (fun σ25 hf => ?_) _ _ _ hf
    refine vx_iconst (v := (0 : Int32)) h0 dX8_contract_129 (by decide) ?_
    refine vx_istore_n (ls' := [(1, .int (0 : Int32)), (0, .ref (g.2.1 0))]) h0 dX8_contract_130 (by decide) rfl ?_
    refine vx_sub [1, 0] rfl ?_
    refine PX8_contract_L131 hX (fun σ36 hf => ?_) _ _ _ hf
    refine vx_aload_n h0 dX8_contract_181 rfl ?_
    refine vx_iconst (v := (0 : Int32)) h0 dX8_contract_182 (by decide) ?_
    refine mp_0_26 hX q810 dX8_contract_183 ?_
    generalize (sI σ36 26 (0 : Int32)) = σ37 at hf ⊢
    replace hf := bd_h hf
    refine vx_aload_n h0 dX8_contract_186 rfl ?_
    refine vx_iconst (v := (0 : Int32)) h0 dX8_contract_187 (by decide) ?_
    refine mp_0_28 hX q812 dX8_contract_188 ?_
    generalize (sI σ37 28 (0 : Int32)) = σ38 at hf ⊢
    replace hf := bd_h hf
    refine vx_aload_n h0 dX8_contract_191 rfl ?_
    refine mg_0_30 hX q814 dX8_contract_192 ?_
    refine vx_iconst (v := (0 : Int32)) h0 dX8_contract_195 (by decide) ?_
    refine vx_iconst (v := (0 : Int32)) h0 dX8_contract_196 (by decide) ?_
    obtain ⟨b39, hf⟩ := gd_some hf
    refine ms_19 hX b39 (by decide) dX8_contract_197 ?_
    generalize (sA σ38 30 (upd (gA σ38 30) (Int32.toNatClampNeg (0 : Int32)) (0 : Int32))) = σ40 at hf ⊢
    replace hf := bd_h hf
    refine vx_aload_n h0 dX8_contract_198 rfl ?_
    refine mg_0_30 hX q814 dX8_contract_199 ?_
    refine vx_iconst (v := (1 : Int32)) h0 dX8_contract_202 (by decide) ?_
    refine vx_iconst (v := (0 : Int32)) h0 dX8_contract_203 (by decide) ?_
    obtain ⟨b41, hf⟩ := gd_some hf
    refine ms_19 hX b41 (by decide) dX8_contract_204 ?_
    generalize (sA σ40 30 (upd (gA σ40 30) (Int32.toNatClampNeg (1 : Int32)) (0 : Int32))) = σ42 at hf ⊢
    replace hf := bd_h hf
    refine vx_aload_n h0 dX8_contract_205 rfl ?_
    refine mg_0_3 hX q787 dX8_contract_206 ?_
    exact w_iretE hX hf dX8_contract_209
  · replace hf := (if_neg c9).symm.trans hf
    refine vx_bipush (v := (-10 : Int32)) h0 dX8_contract_41 (by decide) ?_
    refine vx_aload_n h0 dX8_contract_43 rfl ?_
    refine mg_0_23 hX q807 dX8_contract_44 ?_
    refine vx_isub h0 dX8_contract_47 ?_
    exact w_iretE hX hf dX8_contract_48
def FX8_fault (σ : SS) : Option (Int32) :=
  some (gI σ 2)
set_option maxRecDepth 100000 in
set_option maxHeartbeats 4000000 in
theorem c_X8_fault {σ : SS} {r : Int32} (hf : FX8_fault σ = some r) : Mcw wsM yX8_fault cX8_fault 1 (some .int) ({ frames := 0, cells := 0, slots := 0, locals := 0 } : Room) (fun g => [.ref (g.2.1 0)]) σ (fun g => some (.int r)) σ := by
  refine w_enter wsM_fix (by decide) (fun g => Nat.le_of_ble_eq_true rfl) ?_
  intro X g hX
  replace hX : Okw wsM X g cX8_fault 1 RX8 (some .int) ({ frames := 0, cells := 0, slots := 0, locals := 0 } : Room) (fun g => some (.int r)) σ := hX
  have h0 := hX.1
  show Vx X g.1 1 (wsM g σ) 0 [(0, .ref (g.2.1 0))] []
  rw [FX8_fault] at hf
  refine vx_aload_n h0 dX8_fault_0 rfl ?_
  refine mg_0_2 hX q786 dX8_fault_1 ?_
  exact w_iretP hX hf dX8_fault_4
def FX8_holds (σ : SS) (a0 : Int32) (a1 : Int32) : Option (Int32) :=
  gd (inb a0 16) (if ((gA σ 5 (Int32.toNatClampNeg a0)) &&& (a1 ^^^ (-1 : Int32))) = 0 then gd (inb a0 16) (if ((gA σ 6 (Int32.toNatClampNeg a0)) &&& a1) = 0 then some (1 : Int32)
    else some (0 : Int32))
    else some (0 : Int32))
set_option maxRecDepth 100000 in
set_option maxHeartbeats 4000000 in
theorem c_X8_holds {σ : SS} {a0 : Int32} {a1 : Int32} {r : Int32} (hf : FX8_holds σ a0 a1 = some r) : Mcw wsM yX8_holds cX8_holds 3 (some .boolean) ({ frames := 0, cells := 0, slots := 0, locals := 0 } : Room) (fun g => [.ref (g.2.1 0), .int a0, .int a1]) σ (fun g => some (.int r)) σ := by
  refine w_enter wsM_fix (by decide) (fun g => Nat.le_of_ble_eq_true rfl) ?_
  intro X g hX
  replace hX : Okw wsM X g cX8_holds 3 RX8 (some .boolean) ({ frames := 0, cells := 0, slots := 0, locals := 0 } : Room) (fun g => some (.int r)) σ := hX
  have h0 := hX.1
  show Vx X g.1 3 (wsM g σ) 0 [(0, .ref (g.2.1 0)), (1, .int a0), (2, .int a1)] []
  rw [FX8_holds] at hf
  refine vx_aload_n h0 dX8_holds_0 rfl ?_
  refine mg_0_5 hX q789 dX8_holds_1 ?_
  refine vx_iload_n h0 dX8_holds_4 rfl ?_
  obtain ⟨b1, hf⟩ := gd_some hf
  refine ml_3 hX b1 dX8_holds_5 ?_
  refine vx_iload_n h0 dX8_holds_6 rfl ?_
  refine vx_iconst (v := (-1 : Int32)) h0 dX8_holds_7 (by decide) ?_
  refine vx_ixor h0 dX8_holds_8 ?_
  refine vx_iand h0 dX8_holds_9 ?_
  refine vx_if_ne (tgt := 28) h0 dX8_holds_10 (by decide) (fun c2 => ?_) (fun c2 => ?_)
  · replace hf := (if_neg c2).symm.trans hf
    refine vx_iconst (v := (0 : Int32)) h0 dX8_holds_28 (by decide) ?_
    exact w_zretP hX hf rfl dX8_holds_29
  · replace hf := (if_pos c2).symm.trans hf
    refine vx_aload_n h0 dX8_holds_13 rfl ?_
    refine mg_0_6 hX q790 dX8_holds_14 ?_
    refine vx_iload_n h0 dX8_holds_17 rfl ?_
    obtain ⟨b4, hf⟩ := gd_some hf
    refine ml_4 hX b4 dX8_holds_18 ?_
    refine vx_iload_n h0 dX8_holds_19 rfl ?_
    refine vx_iand h0 dX8_holds_20 ?_
    refine vx_if_ne (tgt := 28) h0 dX8_holds_21 (by decide) (fun c5 => ?_) (fun c5 => ?_)
    · replace hf := (if_neg c5).symm.trans hf
      refine vx_iconst (v := (0 : Int32)) h0 dX8_holds_28 (by decide) ?_
      exact w_zretP hX hf rfl dX8_holds_29
    · replace hf := (if_pos c5).symm.trans hf
      refine vx_iconst (v := (1 : Int32)) h0 dX8_holds_24 (by decide) ?_
      refine vx_goto (tgt := 29) h0 dX8_holds_25 (by decide) ?_
      exact w_zretP hX hf rfl dX8_holds_29
def FX8_isCalled_L18 (σ : SS) (v1 : Int32) (v2 : Int32) (k : Int32 → Option (Int32)) : Nat → Int32 → Int32 → Option (Int32)
  | 0, _, _ => none
  | n + 1, v3, v4 => if (gI σ 8) ≤ v4 then k v3
    else if v3 = 0 then gd (inb v4 30) (if (gA σ 10 (Int32.toNatClampNeg v4)) = (2 : Int32) then gd (inb v4 30) (if (gA σ 11 (Int32.toNatClampNeg v4)) = v1 then gd (inb v4 30) (if (gA σ 9 (Int32.toNatClampNeg v4)) = v1 then FX8_isCalled_L18 σ v1 v2 k n (0 : Int32) (v4 + (1 : Int32))
    else gd (inb v4 30) (ob (FX8_has σ v2 (gA σ 9 (Int32.toNatClampNeg v4))) (fun r13 => if r13 = 0 then FX8_isCalled_L18 σ v1 v2 k n (0 : Int32) (v4 + (1 : Int32))
    else FX8_isCalled_L18 σ v1 v2 k n (1 : Int32) (v4 + (1 : Int32)))))
    else FX8_isCalled_L18 σ v1 v2 k n (0 : Int32) (v4 + (1 : Int32)))
    else FX8_isCalled_L18 σ v1 v2 k n (0 : Int32) (v4 + (1 : Int32)))
    else FX8_isCalled_L18 σ v1 v2 k n (1 : Int32) (v4 + (1 : Int32))
set_option maxRecDepth 100000 in
set_option maxHeartbeats 4000000 in
theorem PX8_isCalled_L18 {X : Bx} {g : Gx} {r : Int32} {σ : SS} (hX : Okw wsM X g cX8_isCalled 5 RX8 (some .boolean) ({ frames := 1, cells := 0, slots := 0, locals := 21 } : Room) (fun g => some (.int r)) σ) {v1 : Int32} {v2 : Int32} {k : Int32 → Option (Int32)} (hk : ∀ (v3 : Int32), k v3 = some r → Vx X g.1 5 (wsM g σ) 90 [(3, .int v3)] []) : ∀ (n : Nat) (v3 : Int32) (v4 : Int32), FX8_isCalled_L18 σ v1 v2 k n v3 v4 = some r → Vx X g.1 5 (wsM g σ) 18 [(0, .ref (g.2.1 0)), (1, .int v1), (2, .int v2), (3, .int v3), (4, .int v4)] [] := by
  have h0 := hX.1
  intro n
  induction n with
  | zero =>
    intro v3 v4 hf
    rw [FX8_isCalled_L18] at hf
    cases hf
  | succ n ih =>
    intro v3 v4 hf
    rw [FX8_isCalled_L18] at hf
    refine vx_iload h0 dX8_isCalled_18 rfl ?_
    refine vx_aload_n h0 dX8_isCalled_20 rfl ?_
    refine mg_0_8 hX q792 dX8_isCalled_21 ?_
    refine vx_icmp_ge (tgt := 90) h0 dX8_isCalled_24 (by decide) (fun c3 => ?_) (fun c3 => ?_)
    · replace hf := (if_pos c3).symm.trans hf
      refine vx_sub [3] rfl ?_
      exact hk _ hf
    · replace hf := (if_neg c3).symm.trans hf
      refine vx_iload_n h0 dX8_isCalled_27 rfl ?_
      refine vx_if_ne (tgt := 78) h0 dX8_isCalled_28 (by decide) (fun c4 => ?_) (fun c4 => ?_)
      · replace hf := (if_neg c4).symm.trans hf
        refine vx_iconst (v := (1 : Int32)) h0 dX8_isCalled_78 (by decide) ?_
        refine vx_goto (tgt := 83) h0 dX8_isCalled_79 (by decide) ?_
        refine vx_istore_n (ls' := [(3, .int (1 : Int32)), (0, .ref (g.2.1 0)), (1, .int v1), (2, .int v2), (4, .int v4)]) h0 dX8_isCalled_83 (by decide) rfl ?_
        refine vx_iinc (q := 4) (v := (v4 + (1 : Int32))) (ls' := [(4, .int (v4 + (1 : Int32))), (3, .int (1 : Int32)), (0, .ref (g.2.1 0)), (1, .int v1), (2, .int v2)]) h0 dX8_isCalled_84 rfl rfl (by decide) rfl ?_
        refine vx_goto (tgt := 18) h0 dX8_isCalled_87 (by decide) ?_
        refine vx_sub [2, 3, 4, 1, 0] rfl ?_
        exact ih _ _ hf
      · replace hf := (if_pos c4).symm.trans hf
        refine vx_aload_n h0 dX8_isCalled_31 rfl ?_
        refine mg_0_10 hX q794 dX8_isCalled_32 ?_
        refine vx_iload h0 dX8_isCalled_35 rfl ?_
        obtain ⟨b5, hf⟩ := gd_some hf
        refine ml_7 hX b5 dX8_isCalled_37 ?_
        refine vx_iconst (v := (2 : Int32)) h0 dX8_isCalled_38 (by decide) ?_
        refine vx_icmp_ne (tgt := 82) h0 dX8_isCalled_39 (by decide) (fun c6 => ?_) (fun c6 => ?_)
        · replace hf := (if_neg c6).symm.trans hf
          refine vx_iconst (v := (0 : Int32)) h0 dX8_isCalled_82 (by decide) ?_
          refine vx_istore_n (ls' := [(3, .int (0 : Int32)), (0, .ref (g.2.1 0)), (1, .int v1), (2, .int v2), (4, .int v4)]) h0 dX8_isCalled_83 (by decide) rfl ?_
          refine vx_iinc (q := 4) (v := (v4 + (1 : Int32))) (ls' := [(4, .int (v4 + (1 : Int32))), (3, .int (0 : Int32)), (0, .ref (g.2.1 0)), (1, .int v1), (2, .int v2)]) h0 dX8_isCalled_84 rfl rfl (by decide) rfl ?_
          refine vx_goto (tgt := 18) h0 dX8_isCalled_87 (by decide) ?_
          refine vx_sub [2, 3, 4, 1, 0] rfl ?_
          exact ih _ _ hf
        · replace hf := (if_pos c6).symm.trans hf
          refine vx_aload_n h0 dX8_isCalled_42 rfl ?_
          refine mg_0_11 hX q795 dX8_isCalled_43 ?_
          refine vx_iload h0 dX8_isCalled_46 rfl ?_
          obtain ⟨b7, hf⟩ := gd_some hf
          refine ml_8 hX b7 dX8_isCalled_48 ?_
          refine vx_iload_n h0 dX8_isCalled_49 rfl ?_
          refine vx_icmp_ne (tgt := 82) h0 dX8_isCalled_50 (by decide) (fun c8 => ?_) (fun c8 => ?_)
          · replace hf := (if_neg c8).symm.trans hf
            refine vx_iconst (v := (0 : Int32)) h0 dX8_isCalled_82 (by decide) ?_
            refine vx_istore_n (ls' := [(3, .int (0 : Int32)), (0, .ref (g.2.1 0)), (1, .int v1), (2, .int v2), (4, .int v4)]) h0 dX8_isCalled_83 (by decide) rfl ?_
            refine vx_iinc (q := 4) (v := (v4 + (1 : Int32))) (ls' := [(4, .int (v4 + (1 : Int32))), (3, .int (0 : Int32)), (0, .ref (g.2.1 0)), (1, .int v1), (2, .int v2)]) h0 dX8_isCalled_84 rfl rfl (by decide) rfl ?_
            refine vx_goto (tgt := 18) h0 dX8_isCalled_87 (by decide) ?_
            refine vx_sub [2, 3, 4, 1, 0] rfl ?_
            exact ih _ _ hf
          · replace hf := (if_pos c8).symm.trans hf
            refine vx_aload_n h0 dX8_isCalled_53 rfl ?_
            refine mg_0_9 hX q793 dX8_isCalled_54 ?_
            refine vx_iload h0 dX8_isCalled_57 rfl ?_
            obtain ⟨b9, hf⟩ := gd_some hf
            refine ml_6 hX b9 dX8_isCalled_59 ?_
            refine vx_iload_n h0 dX8_isCalled_60 rfl ?_
            refine vx_icmp_eq (tgt := 82) h0 dX8_isCalled_61 (by decide) (fun c10 => ?_) (fun c10 => ?_)
            · replace hf := (if_pos c10).symm.trans hf
              refine vx_iconst (v := (0 : Int32)) h0 dX8_isCalled_82 (by decide) ?_
              refine vx_istore_n (ls' := [(3, .int (0 : Int32)), (0, .ref (g.2.1 0)), (1, .int v1), (2, .int v2), (4, .int v4)]) h0 dX8_isCalled_83 (by decide) rfl ?_
              refine vx_iinc (q := 4) (v := (v4 + (1 : Int32))) (ls' := [(4, .int (v4 + (1 : Int32))), (3, .int (0 : Int32)), (0, .ref (g.2.1 0)), (1, .int v1), (2, .int v2)]) h0 dX8_isCalled_84 rfl rfl (by decide) rfl ?_
              refine vx_goto (tgt := 18) h0 dX8_isCalled_87 (by decide) ?_
              refine vx_sub [2, 3, 4, 1, 0] rfl ?_
              exact ih _ _ hf
            · replace hf := (if_neg c10).symm.trans hf
              refine vx_iload_n h0 dX8_isCalled_64 rfl ?_
              refine vx_aload_n h0 dX8_isCalled_65 rfl ?_
              refine mg_0_9 hX q793 dX8_isCalled_66 ?_
              refine vx_iload h0 dX8_isCalled_69 rfl ?_
              obtain ⟨b11, hf⟩ := gd_some hf
              refine ml_6 hX b11 dX8_isCalled_71 ?_
              obtain ⟨r13, h12, hf⟩ := ob_some hf
              refine w_callS (st := []) hX (c_X8_has h12) ce_X8_has q927 ⟨rfl, rfl⟩ ⟨by decide, by decide⟩ rfl rfl rfl (Nat.le_of_ble_eq_true rfl) dX8_isCalled_72 ?_
              show Vx X g.1 5 (wsM g σ) 75 [(0, .ref (g.2.1 0)), (1, .int v1), (2, .int v2), (3, .int v3), (4, .int v4)] [.int r13]
              refine vx_if_eq (tgt := 82) h0 dX8_isCalled_75 (by decide) (fun c14 => ?_) (fun c14 => ?_)
              · replace hf := (if_pos c14).symm.trans hf
                refine vx_iconst (v := (0 : Int32)) h0 dX8_isCalled_82 (by decide) ?_
                refine vx_istore_n (ls' := [(3, .int (0 : Int32)), (0, .ref (g.2.1 0)), (1, .int v1), (2, .int v2), (4, .int v4)]) h0 dX8_isCalled_83 (by decide) rfl ?_
                refine vx_iinc (q := 4) (v := (v4 + (1 : Int32))) (ls' := [(4, .int (v4 + (1 : Int32))), (3, .int (0 : Int32)), (0, .ref (g.2.1 0)), (1, .int v1), (2, .int v2)]) h0 dX8_isCalled_84 rfl rfl (by decide) rfl ?_
                refine vx_goto (tgt := 18) h0 dX8_isCalled_87 (by decide) ?_
                refine vx_sub [2, 3, 4, 1, 0] rfl ?_
                exact ih _ _ hf
              · replace hf := (if_neg c14).symm.trans hf
                refine vx_iconst (v := (1 : Int32)) h0 dX8_isCalled_78 (by decide) ?_
                refine vx_goto (tgt := 83) h0 dX8_isCalled_79 (by decide) ?_
                refine vx_istore_n (ls' := [(3, .int (1 : Int32)), (0, .ref (g.2.1 0)), (1, .int v1), (2, .int v2), (4, .int v4)]) h0 dX8_isCalled_83 (by decide) rfl ?_
                refine vx_iinc (q := 4) (v := (v4 + (1 : Int32))) (ls' := [(4, .int (v4 + (1 : Int32))), (3, .int (1 : Int32)), (0, .ref (g.2.1 0)), (1, .int v1), (2, .int v2)]) h0 dX8_isCalled_84 rfl rfl (by decide) rfl ?_
                refine vx_goto (tgt := 18) h0 dX8_isCalled_87 (by decide) ?_
                refine vx_sub [2, 3, 4, 1, 0] rfl ?_
                exact ih _ _ hf
def FX8_isCalled (σ : SS) (a0 : Int32) (a1 : Int32) : Option (Int32) :=
  gd (inb a0 16) (if (gA σ 7 (Int32.toNatClampNeg a0)) = 0 then FX8_isCalled_L18 σ a0 a1 (fun u17 => gd (isb u17) (some u17)) 5000 (1 : Int32) (0 : Int32)
    else FX8_isCalled_L18 σ a0 a1 (fun u15 => gd (isb u15) (some u15)) 5000 (0 : Int32) (0 : Int32))
set_option maxRecDepth 100000 in
set_option maxHeartbeats 4000000 in
theorem c_X8_isCalled {σ : SS} {a0 : Int32} {a1 : Int32} {r : Int32} (hf : FX8_isCalled σ a0 a1 = some r) : Mcw wsM yX8_isCalled cX8_isCalled 5 (some .boolean) ({ frames := 1, cells := 0, slots := 0, locals := 21 } : Room) (fun g => [.ref (g.2.1 0), .int a0, .int a1]) σ (fun g => some (.int r)) σ := by
  refine w_enter wsM_fix (by decide) (fun g => Nat.le_of_ble_eq_true rfl) ?_
  intro X g hX
  replace hX : Okw wsM X g cX8_isCalled 5 RX8 (some .boolean) ({ frames := 1, cells := 0, slots := 0, locals := 21 } : Room) (fun g => some (.int r)) σ := hX
  have h0 := hX.1
  show Vx X g.1 5 (wsM g σ) 0 [(0, .ref (g.2.1 0)), (1, .int a0), (2, .int a1)] []
  rw [FX8_isCalled] at hf
  refine vx_aload_n h0 dX8_isCalled_0 rfl ?_
  refine mg_0_7 hX q791 dX8_isCalled_1 ?_
  refine vx_iload_n h0 dX8_isCalled_4 rfl ?_
  obtain ⟨b1, hf⟩ := gd_some hf
  refine ml_5 hX b1 dX8_isCalled_5 ?_
  refine vx_if_ne (tgt := 13) h0 dX8_isCalled_6 (by decide) (fun c2 => ?_) (fun c2 => ?_)
  · replace hf := (if_neg c2).symm.trans hf
    refine vx_iconst (v := (0 : Int32)) h0 dX8_isCalled_13 (by decide) ?_
    refine vx_istore_n (ls' := [(3, .int (0 : Int32)), (0, .ref (g.2.1 0)), (1, .int a0), (2, .int a1)]) h0 dX8_isCalled_14 (by decide) rfl ?_
    refine vx_iconst (v := (0 : Int32)) h0 dX8_isCalled_15 (by decide) ?_
    refine vx_istore (ls' := [(4, .int (0 : Int32)), (3, .int (0 : Int32)), (0, .ref (g.2.1 0)), (1, .int a0), (2, .int a1)]) h0 dX8_isCalled_16 (by decide) rfl ?_
    refine vx_sub [2, 3, 4, 1, 0] rfl ?_
    refine PX8_isCalled_L18 hX (fun u15 hf => ?_) _ _ _ hf
    refine vx_iload_n h0 dX8_isCalled_90 rfl ?_
    obtain ⟨b16, hf⟩ := gd_some hf
    exact w_zretP hX hf b16 dX8_isCalled_91
  · replace hf := (if_pos c2).symm.trans hf
    refine vx_iconst (v := (1 : Int32)) h0 dX8_isCalled_9 (by decide) ?_
    refine vx_goto (tgt := 14) h0 dX8_isCalled_10 (by decide) ?_
    refine vx_istore_n (ls' := [(3, .int (1 : Int32)), (0, .ref (g.2.1 0)), (1, .int a0), (2, .int a1)]) h0 dX8_isCalled_14 (by decide) rfl ?_
    refine vx_iconst (v := (0 : Int32)) h0 dX8_isCalled_15 (by decide) ?_
    refine vx_istore (ls' := [(4, .int (0 : Int32)), (3, .int (1 : Int32)), (0, .ref (g.2.1 0)), (1, .int a0), (2, .int a1)]) h0 dX8_isCalled_16 (by decide) rfl ?_
    refine vx_sub [2, 3, 4, 1, 0] rfl ?_
    refine PX8_isCalled_L18 hX (fun u17 hf => ?_) _ _ _ hf
    refine vx_iload_n h0 dX8_isCalled_90 rfl ?_
    obtain ⟨b18, hf⟩ := gd_some hf
    exact w_zretP hX hf b18 dX8_isCalled_91
