/-! printed by wip/whole/gen.py: decode rows, functions, contracts -/
theorem dX8_matters_0 : decode cX8_matters 0 = .ok (.iconst 0, 1) := by decide +kernel
theorem dX8_matters_1 : decode cX8_matters 1 = .ok (.istore_n 2, 1) := by decide +kernel
theorem dX8_matters_2 : decode cX8_matters 2 = .ok (.aload_n 0, 1) := by decide +kernel
theorem dX8_matters_3 : decode cX8_matters 3 = .ok (.invokevirtual 205, 3) := by decide +kernel
theorem dX8_matters_6 : decode cX8_matters 6 = .ok (.iconst 0, 1) := by decide +kernel
theorem dX8_matters_7 : decode cX8_matters 7 = .ok (.istore_n 3, 1) := by decide +kernel
theorem dX8_matters_8 : decode cX8_matters 8 = .ok (.iload_n 3, 1) := by decide +kernel
theorem dX8_matters_9 : decode cX8_matters 9 = .ok (.bipush 6, 2) := by decide +kernel
theorem dX8_matters_11 : decode cX8_matters 11 = .ok (.if_icmp .ge 91, 3) := by decide +kernel
theorem dX8_matters_14 : decode cX8_matters 14 = .ok (.iconst 0, 1) := by decide +kernel
theorem dX8_matters_15 : decode cX8_matters 15 = .ok (.istore 4, 2) := by decide +kernel
theorem dX8_matters_17 : decode cX8_matters 17 = .ok (.iload 4, 2) := by decide +kernel
theorem dX8_matters_19 : decode cX8_matters 19 = .ok (.bipush 64, 2) := by decide +kernel
theorem dX8_matters_21 : decode cX8_matters 21 = .ok (.if_icmp .ge 75, 3) := by decide +kernel
theorem dX8_matters_24 : decode cX8_matters 24 = .ok (.aload_n 0, 1) := by decide +kernel
theorem dX8_matters_25 : decode cX8_matters 25 = .ok (.getfield 159, 3) := by decide +kernel
theorem dX8_matters_28 : decode cX8_matters 28 = .ok (.iload_n 3, 1) := by decide +kernel
theorem dX8_matters_29 : decode cX8_matters 29 = .ok (.invokestatic 118, 3) := by decide +kernel
theorem dX8_matters_32 : decode cX8_matters 32 = .ok (.ifCond .ne 40, 3) := by decide +kernel
theorem dX8_matters_35 : decode cX8_matters 35 = .ok (.aload_n 0, 1) := by decide +kernel
theorem dX8_matters_36 : decode cX8_matters 36 = .ok (.iload 4, 2) := by decide +kernel
theorem dX8_matters_38 : decode cX8_matters 38 = .ok (.invokevirtual 208, 3) := by decide +kernel
theorem dX8_matters_41 : decode cX8_matters 41 = .ok (.ifCond .eq 31, 3) := by decide +kernel
theorem dX8_matters_44 : decode cX8_matters 44 = .ok (.aload_n 0, 1) := by decide +kernel
theorem dX8_matters_45 : decode cX8_matters 45 = .ok (.getfield 72, 3) := by decide +kernel
theorem dX8_matters_48 : decode cX8_matters 48 = .ok (.iload 4, 2) := by decide +kernel
theorem dX8_matters_50 : decode cX8_matters 50 = .ok (.iaload, 1) := by decide +kernel
theorem dX8_matters_51 : decode cX8_matters 51 = .ok (.aload_n 0, 1) := by decide +kernel
theorem dX8_matters_52 : decode cX8_matters 52 = .ok (.getfield 72, 3) := by decide +kernel
theorem dX8_matters_55 : decode cX8_matters 55 = .ok (.iload 4, 2) := by decide +kernel
theorem dX8_matters_57 : decode cX8_matters 57 = .ok (.iconst 1, 1) := by decide +kernel
theorem dX8_matters_58 : decode cX8_matters 58 = .ok (.iload_n 3, 1) := by decide +kernel
theorem dX8_matters_59 : decode cX8_matters 59 = .ok (.ishl, 1) := by decide +kernel
theorem dX8_matters_60 : decode cX8_matters 60 = .ok (.ixor, 1) := by decide +kernel
theorem dX8_matters_61 : decode cX8_matters 61 = .ok (.iaload, 1) := by decide +kernel
theorem dX8_matters_62 : decode cX8_matters 62 = .ok (.ixor, 1) := by decide +kernel
theorem dX8_matters_63 : decode cX8_matters 63 = .ok (.iload_n 1, 1) := by decide +kernel
theorem dX8_matters_64 : decode cX8_matters 64 = .ok (.iand, 1) := by decide +kernel
theorem dX8_matters_65 : decode cX8_matters 65 = .ok (.ifCond .eq 7, 3) := by decide +kernel
theorem dX8_matters_68 : decode cX8_matters 68 = .ok (.iconst 1, 1) := by decide +kernel
theorem dX8_matters_69 : decode cX8_matters 69 = .ok (.goto 4, 3) := by decide +kernel
theorem dX8_matters_72 : decode cX8_matters 72 = .ok (.iconst 0, 1) := by decide +kernel
theorem dX8_matters_73 : decode cX8_matters 73 = .ok (.istore 5, 2) := by decide +kernel
theorem dX8_matters_75 : decode cX8_matters 75 = .ok (.iload_n 2, 1) := by decide +kernel
theorem dX8_matters_76 : decode cX8_matters 76 = .ok (.iload 5, 2) := by decide +kernel
theorem dX8_matters_78 : decode cX8_matters 78 = .ok (.ifCond .eq 9, 3) := by decide +kernel
theorem dX8_matters_81 : decode cX8_matters 81 = .ok (.iconst 1, 1) := by decide +kernel
theorem dX8_matters_82 : decode cX8_matters 82 = .ok (.iload_n 3, 1) := by decide +kernel
theorem dX8_matters_83 : decode cX8_matters 83 = .ok (.ishl, 1) := by decide +kernel
theorem dX8_matters_84 : decode cX8_matters 84 = .ok (.goto 4, 3) := by decide +kernel
theorem dX8_matters_87 : decode cX8_matters 87 = .ok (.iconst 0, 1) := by decide +kernel
theorem dX8_matters_88 : decode cX8_matters 88 = .ok (.ior, 1) := by decide +kernel
theorem dX8_matters_89 : decode cX8_matters 89 = .ok (.istore_n 2, 1) := by decide +kernel
theorem dX8_matters_90 : decode cX8_matters 90 = .ok (.iinc 4 1, 3) := by decide +kernel
theorem dX8_matters_93 : decode cX8_matters 93 = .ok (.goto (-76), 3) := by decide +kernel
theorem dX8_matters_96 : decode cX8_matters 96 = .ok (.iinc 3 1, 3) := by decide +kernel
theorem dX8_matters_99 : decode cX8_matters 99 = .ok (.goto (-91), 3) := by decide +kernel
theorem dX8_matters_102 : decode cX8_matters 102 = .ok (.iload_n 2, 1) := by decide +kernel
theorem dX8_matters_103 : decode cX8_matters 103 = .ok (.ireturn, 1) := by decide +kernel
theorem dX8_ways_0 : decode cX8_ways 0 = .ok (.iconst 0, 1) := by decide +kernel
theorem dX8_ways_1 : decode cX8_ways 1 = .ok (.istore_n 2, 1) := by decide +kernel
theorem dX8_ways_2 : decode cX8_ways 2 = .ok (.iconst 0, 1) := by decide +kernel
theorem dX8_ways_3 : decode cX8_ways 3 = .ok (.istore_n 3, 1) := by decide +kernel
theorem dX8_ways_4 : decode cX8_ways 4 = .ok (.iload_n 3, 1) := by decide +kernel
theorem dX8_ways_5 : decode cX8_ways 5 = .ok (.bipush 64, 2) := by decide +kernel
theorem dX8_ways_7 : decode cX8_ways 7 = .ok (.if_icmp .ge 38, 3) := by decide +kernel
theorem dX8_ways_10 : decode cX8_ways 10 = .ok (.aload_n 0, 1) := by decide +kernel
theorem dX8_ways_11 : decode cX8_ways 11 = .ok (.iload_n 3, 1) := by decide +kernel
theorem dX8_ways_12 : decode cX8_ways 12 = .ok (.invokevirtual 208, 3) := by decide +kernel
theorem dX8_ways_15 : decode cX8_ways 15 = .ok (.ifCond .eq 24, 3) := by decide +kernel
theorem dX8_ways_18 : decode cX8_ways 18 = .ok (.aload_n 0, 1) := by decide +kernel
theorem dX8_ways_19 : decode cX8_ways 19 = .ok (.aload_n 0, 1) := by decide +kernel
theorem dX8_ways_20 : decode cX8_ways 20 = .ok (.iload_n 3, 1) := by decide +kernel
theorem dX8_ways_21 : decode cX8_ways 21 = .ok (.invokevirtual 156, 3) := by decide +kernel
theorem dX8_ways_24 : decode cX8_ways 24 = .ok (.invokevirtual 211, 3) := by decide +kernel
theorem dX8_ways_27 : decode cX8_ways 27 = .ok (.ifCond .ne 12, 3) := by decide +kernel
theorem dX8_ways_30 : decode cX8_ways 30 = .ok (.iload_n 1, 1) := by decide +kernel
theorem dX8_ways_31 : decode cX8_ways 31 = .ok (.ifCond .eq 5, 3) := by decide +kernel
theorem dX8_ways_34 : decode cX8_ways 34 = .ok (.iload_n 3, 1) := by decide +kernel
theorem dX8_ways_35 : decode cX8_ways 35 = .ok (.ireturn, 1) := by decide +kernel
theorem dX8_ways_36 : decode cX8_ways 36 = .ok (.iinc 2 1, 3) := by decide +kernel
theorem dX8_ways_39 : decode cX8_ways 39 = .ok (.iinc 3 1, 3) := by decide +kernel
theorem dX8_ways_42 : decode cX8_ways 42 = .ok (.goto (-38), 3) := by decide +kernel
theorem dX8_ways_45 : decode cX8_ways 45 = .ok (.iload_n 1, 1) := by decide +kernel
theorem dX8_ways_46 : decode cX8_ways 46 = .ok (.ifCond .eq 7, 3) := by decide +kernel
theorem dX8_ways_49 : decode cX8_ways 49 = .ok (.iconst (-1), 1) := by decide +kernel
theorem dX8_ways_50 : decode cX8_ways 50 = .ok (.goto 4, 3) := by decide +kernel
theorem dX8_ways_53 : decode cX8_ways 53 = .ok (.iload_n 2, 1) := by decide +kernel
theorem dX8_ways_54 : decode cX8_ways 54 = .ok (.ireturn, 1) := by decide +kernel
theorem dX8_brings_0 : decode cX8_brings 0 = .ok (.iconst 0, 1) := by decide +kernel
theorem dX8_brings_1 : decode cX8_brings 1 = .ok (.istore_n 2, 1) := by decide +kernel
theorem dX8_brings_2 : decode cX8_brings 2 = .ok (.aload_n 0, 1) := by decide +kernel
theorem dX8_brings_3 : decode cX8_brings 3 = .ok (.invokevirtual 205, 3) := by decide +kernel
theorem dX8_brings_6 : decode cX8_brings 6 = .ok (.iconst 0, 1) := by decide +kernel
theorem dX8_brings_7 : decode cX8_brings 7 = .ok (.istore_n 3, 1) := by decide +kernel
theorem dX8_brings_8 : decode cX8_brings 8 = .ok (.iload_n 3, 1) := by decide +kernel
theorem dX8_brings_9 : decode cX8_brings 9 = .ok (.bipush 64, 2) := by decide +kernel
theorem dX8_brings_11 : decode cX8_brings 11 = .ok (.if_icmp .ge 38, 3) := by decide +kernel
theorem dX8_brings_14 : decode cX8_brings 14 = .ok (.iload_n 2, 1) := by decide +kernel
theorem dX8_brings_15 : decode cX8_brings 15 = .ok (.aload_n 0, 1) := by decide +kernel
theorem dX8_brings_16 : decode cX8_brings 16 = .ok (.iload_n 3, 1) := by decide +kernel
theorem dX8_brings_17 : decode cX8_brings 17 = .ok (.invokevirtual 208, 3) := by decide +kernel
theorem dX8_brings_20 : decode cX8_brings 20 = .ok (.ifCond .eq 20, 3) := by decide +kernel
theorem dX8_brings_23 : decode cX8_brings 23 = .ok (.aload_n 0, 1) := by decide +kernel
theorem dX8_brings_24 : decode cX8_brings 24 = .ok (.getfield 72, 3) := by decide +kernel
theorem dX8_brings_27 : decode cX8_brings 27 = .ok (.iload_n 3, 1) := by decide +kernel
theorem dX8_brings_28 : decode cX8_brings 28 = .ok (.iaload, 1) := by decide +kernel
theorem dX8_brings_29 : decode cX8_brings 29 = .ok (.iload_n 1, 1) := by decide +kernel
theorem dX8_brings_30 : decode cX8_brings 30 = .ok (.invokestatic 118, 3) := by decide +kernel
theorem dX8_brings_33 : decode cX8_brings 33 = .ok (.ifCond .eq 7, 3) := by decide +kernel
theorem dX8_brings_36 : decode cX8_brings 36 = .ok (.iconst 1, 1) := by decide +kernel
theorem dX8_brings_37 : decode cX8_brings 37 = .ok (.goto 4, 3) := by decide +kernel
theorem dX8_brings_40 : decode cX8_brings 40 = .ok (.iconst 0, 1) := by decide +kernel
theorem dX8_brings_41 : decode cX8_brings 41 = .ok (.iadd, 1) := by decide +kernel
theorem dX8_brings_42 : decode cX8_brings 42 = .ok (.istore_n 2, 1) := by decide +kernel
theorem dX8_brings_43 : decode cX8_brings 43 = .ok (.iinc 3 1, 3) := by decide +kernel
theorem dX8_brings_46 : decode cX8_brings 46 = .ok (.goto (-38), 3) := by decide +kernel
theorem dX8_brings_49 : decode cX8_brings 49 = .ok (.iload_n 2, 1) := by decide +kernel
theorem dX8_brings_50 : decode cX8_brings 50 = .ok (.ireturn, 1) := by decide +kernel
theorem dX8_settles_0 : decode cX8_settles 0 = .ok (.bipush 6, 2) := by decide +kernel
theorem dX8_settles_2 : decode cX8_settles 2 = .ok (.istore_n 2, 1) := by decide +kernel
theorem dX8_settles_3 : decode cX8_settles 3 = .ok (.aload_n 0, 1) := by decide +kernel
theorem dX8_settles_4 : decode cX8_settles 4 = .ok (.invokevirtual 205, 3) := by decide +kernel
theorem dX8_settles_7 : decode cX8_settles 7 = .ok (.iconst 0, 1) := by decide +kernel
theorem dX8_settles_8 : decode cX8_settles 8 = .ok (.istore_n 3, 1) := by decide +kernel
theorem dX8_settles_9 : decode cX8_settles 9 = .ok (.iload_n 3, 1) := by decide +kernel
theorem dX8_settles_10 : decode cX8_settles 10 = .ok (.bipush 64, 2) := by decide +kernel
theorem dX8_settles_12 : decode cX8_settles 12 = .ok (.if_icmp .ge 179, 3) := by decide +kernel
theorem dX8_settles_15 : decode cX8_settles 15 = .ok (.iconst 0, 1) := by decide +kernel
theorem dX8_settles_16 : decode cX8_settles 16 = .ok (.istore 4, 2) := by decide +kernel
theorem dX8_settles_18 : decode cX8_settles 18 = .ok (.iload 4, 2) := by decide +kernel
theorem dX8_settles_20 : decode cX8_settles 20 = .ok (.bipush 64, 2) := by decide +kernel
theorem dX8_settles_22 : decode cX8_settles 22 = .ok (.if_icmp .ge 163, 3) := by decide +kernel
theorem dX8_settles_25 : decode cX8_settles 25 = .ok (.iload_n 3, 1) := by decide +kernel
theorem dX8_settles_26 : decode cX8_settles 26 = .ok (.aload_n 0, 1) := by decide +kernel
theorem dX8_settles_27 : decode cX8_settles 27 = .ok (.getfield 159, 3) := by decide +kernel
theorem dX8_settles_30 : decode cX8_settles 30 = .ok (.iand, 1) := by decide +kernel
theorem dX8_settles_31 : decode cX8_settles 31 = .ok (.ifCond .ne 148, 3) := by decide +kernel
theorem dX8_settles_34 : decode cX8_settles 34 = .ok (.iload 4, 2) := by decide +kernel
theorem dX8_settles_36 : decode cX8_settles 36 = .ok (.iload_n 3, 1) := by decide +kernel
theorem dX8_settles_37 : decode cX8_settles 37 = .ok (.iconst (-1), 1) := by decide +kernel
theorem dX8_settles_38 : decode cX8_settles 38 = .ok (.ixor, 1) := by decide +kernel
theorem dX8_settles_39 : decode cX8_settles 39 = .ok (.iand, 1) := by decide +kernel
theorem dX8_settles_40 : decode cX8_settles 40 = .ok (.ifCond .ne 139, 3) := by decide +kernel
theorem dX8_settles_43 : decode cX8_settles 43 = .ok (.iload_n 3, 1) := by decide +kernel
theorem dX8_settles_44 : decode cX8_settles 44 = .ok (.invokestatic 179, 3) := by decide +kernel
theorem dX8_settles_47 : decode cX8_settles 47 = .ok (.iload_n 2, 1) := by decide +kernel
theorem dX8_settles_48 : decode cX8_settles 48 = .ok (.if_icmp .ge 131, 3) := by decide +kernel
theorem dX8_settles_51 : decode cX8_settles 51 = .ok (.iconst 1, 1) := by decide +kernel
theorem dX8_settles_52 : decode cX8_settles 52 = .ok (.istore 5, 2) := by decide +kernel
theorem dX8_settles_54 : decode cX8_settles 54 = .ok (.iconst 1, 1) := by decide +kernel
theorem dX8_settles_55 : decode cX8_settles 55 = .ok (.istore 6, 2) := by decide +kernel
theorem dX8_settles_57 : decode cX8_settles 57 = .ok (.iconst 0, 1) := by decide +kernel
theorem dX8_settles_58 : decode cX8_settles 58 = .ok (.istore 7, 2) := by decide +kernel
theorem dX8_settles_60 : decode cX8_settles 60 = .ok (.iload 7, 2) := by decide +kernel
theorem dX8_settles_62 : decode cX8_settles 62 = .ok (.bipush 64, 2) := by decide +kernel
theorem dX8_settles_64 : decode cX8_settles 64 = .ok (.if_icmp .ge 96, 3) := by decide +kernel
theorem dX8_settles_67 : decode cX8_settles 67 = .ok (.aload_n 0, 1) := by decide +kernel
theorem dX8_settles_68 : decode cX8_settles 68 = .ok (.iload 7, 2) := by decide +kernel
theorem dX8_settles_70 : decode cX8_settles 70 = .ok (.invokevirtual 208, 3) := by decide +kernel
theorem dX8_settles_73 : decode cX8_settles 73 = .ok (.ifCond .eq 16, 3) := by decide +kernel
theorem dX8_settles_76 : decode cX8_settles 76 = .ok (.iload 7, 2) := by decide +kernel
theorem dX8_settles_78 : decode cX8_settles 78 = .ok (.iload_n 3, 1) := by decide +kernel
theorem dX8_settles_79 : decode cX8_settles 79 = .ok (.iand, 1) := by decide +kernel
theorem dX8_settles_80 : decode cX8_settles 80 = .ok (.iload 4, 2) := by decide +kernel
theorem dX8_settles_82 : decode cX8_settles 82 = .ok (.if_icmp .ne 7, 3) := by decide +kernel
theorem dX8_settles_85 : decode cX8_settles 85 = .ok (.iconst 1, 1) := by decide +kernel
theorem dX8_settles_86 : decode cX8_settles 86 = .ok (.goto 4, 3) := by decide +kernel
theorem dX8_settles_89 : decode cX8_settles 89 = .ok (.iconst 0, 1) := by decide +kernel
theorem dX8_settles_90 : decode cX8_settles 90 = .ok (.istore 8, 2) := by decide +kernel
theorem dX8_settles_92 : decode cX8_settles 92 = .ok (.iload 5, 2) := by decide +kernel
theorem dX8_settles_94 : decode cX8_settles 94 = .ok (.ifCond .eq 26, 3) := by decide +kernel
theorem dX8_settles_97 : decode cX8_settles 97 = .ok (.iload 8, 2) := by decide +kernel
theorem dX8_settles_99 : decode cX8_settles 99 = .ok (.ifCond .eq 17, 3) := by decide +kernel
theorem dX8_settles_102 : decode cX8_settles 102 = .ok (.aload_n 0, 1) := by decide +kernel
theorem dX8_settles_103 : decode cX8_settles 103 = .ok (.getfield 72, 3) := by decide +kernel
theorem dX8_settles_106 : decode cX8_settles 106 = .ok (.iload 7, 2) := by decide +kernel
theorem dX8_settles_108 : decode cX8_settles 108 = .ok (.iaload, 1) := by decide +kernel
theorem dX8_settles_109 : decode cX8_settles 109 = .ok (.iload_n 1, 1) := by decide +kernel
theorem dX8_settles_110 : decode cX8_settles 110 = .ok (.invokestatic 118, 3) := by decide +kernel
theorem dX8_settles_113 : decode cX8_settles 113 = .ok (.ifCond .eq 7, 3) := by decide +kernel
theorem dX8_settles_116 : decode cX8_settles 116 = .ok (.iconst 1, 1) := by decide +kernel
theorem dX8_settles_117 : decode cX8_settles 117 = .ok (.goto 4, 3) := by decide +kernel
theorem dX8_settles_120 : decode cX8_settles 120 = .ok (.iconst 0, 1) := by decide +kernel
theorem dX8_settles_121 : decode cX8_settles 121 = .ok (.istore 5, 2) := by decide +kernel
theorem dX8_settles_123 : decode cX8_settles 123 = .ok (.iload 6, 2) := by decide +kernel
theorem dX8_settles_125 : decode cX8_settles 125 = .ok (.ifCond .eq 26, 3) := by decide +kernel
theorem dX8_settles_128 : decode cX8_settles 128 = .ok (.iload 8, 2) := by decide +kernel
theorem dX8_settles_130 : decode cX8_settles 130 = .ok (.ifCond .eq 17, 3) := by decide +kernel
theorem dX8_settles_133 : decode cX8_settles 133 = .ok (.aload_n 0, 1) := by decide +kernel
theorem dX8_settles_134 : decode cX8_settles 134 = .ok (.getfield 72, 3) := by decide +kernel
theorem dX8_settles_137 : decode cX8_settles 137 = .ok (.iload 7, 2) := by decide +kernel
theorem dX8_settles_139 : decode cX8_settles 139 = .ok (.iaload, 1) := by decide +kernel
theorem dX8_settles_140 : decode cX8_settles 140 = .ok (.iload_n 1, 1) := by decide +kernel
theorem dX8_settles_141 : decode cX8_settles 141 = .ok (.invokestatic 118, 3) := by decide +kernel
theorem dX8_settles_144 : decode cX8_settles 144 = .ok (.ifCond .ne 7, 3) := by decide +kernel
theorem dX8_settles_147 : decode cX8_settles 147 = .ok (.iconst 1, 1) := by decide +kernel
theorem dX8_settles_148 : decode cX8_settles 148 = .ok (.goto 4, 3) := by decide +kernel
theorem dX8_settles_151 : decode cX8_settles 151 = .ok (.iconst 0, 1) := by decide +kernel
theorem dX8_settles_152 : decode cX8_settles 152 = .ok (.istore 6, 2) := by decide +kernel
theorem dX8_settles_154 : decode cX8_settles 154 = .ok (.iinc 7 1, 3) := by decide +kernel
theorem dX8_settles_157 : decode cX8_settles 157 = .ok (.goto (-97), 3) := by decide +kernel
theorem dX8_settles_160 : decode cX8_settles 160 = .ok (.iload 5, 2) := by decide +kernel
theorem dX8_settles_162 : decode cX8_settles 162 = .ok (.ifCond .ne 8, 3) := by decide +kernel
theorem dX8_settles_165 : decode cX8_settles 165 = .ok (.iload 6, 2) := by decide +kernel
theorem dX8_settles_167 : decode cX8_settles 167 = .ok (.ifCond .eq 10, 3) := by decide +kernel
theorem dX8_settles_170 : decode cX8_settles 170 = .ok (.iload_n 3, 1) := by decide +kernel
theorem dX8_settles_171 : decode cX8_settles 171 = .ok (.invokestatic 179, 3) := by decide +kernel
theorem dX8_settles_174 : decode cX8_settles 174 = .ok (.goto 4, 3) := by decide +kernel
theorem dX8_settles_177 : decode cX8_settles 177 = .ok (.iload_n 2, 1) := by decide +kernel
theorem dX8_settles_178 : decode cX8_settles 178 = .ok (.istore_n 2, 1) := by decide +kernel
theorem dX8_settles_179 : decode cX8_settles 179 = .ok (.iinc 4 1, 3) := by decide +kernel
theorem dX8_settles_182 : decode cX8_settles 182 = .ok (.goto (-164), 3) := by decide +kernel
theorem dX8_settles_185 : decode cX8_settles 185 = .ok (.iinc 3 1, 3) := by decide +kernel
theorem dX8_settles_188 : decode cX8_settles 188 = .ok (.goto (-179), 3) := by decide +kernel
theorem dX8_settles_191 : decode cX8_settles 191 = .ok (.iload_n 2, 1) := by decide +kernel
theorem dX8_settles_192 : decode cX8_settles 192 = .ok (.ireturn, 1) := by decide +kernel
theorem dX8_depthOf_0 : decode cX8_depthOf 0 = .ok (.iconst 0, 1) := by decide +kernel
theorem dX8_depthOf_1 : decode cX8_depthOf 1 = .ok (.istore_n 2, 1) := by decide +kernel
theorem dX8_depthOf_2 : decode cX8_depthOf 2 = .ok (.aload_n 0, 1) := by decide +kernel
theorem dX8_depthOf_3 : decode cX8_depthOf 3 = .ok (.getfield 17, 3) := by decide +kernel
theorem dX8_depthOf_6 : decode cX8_depthOf 6 = .ok (.iload_n 1, 1) := by decide +kernel
theorem dX8_depthOf_7 : decode cX8_depthOf 7 = .ok (.iaload, 1) := by decide +kernel
theorem dX8_depthOf_8 : decode cX8_depthOf 8 = .ok (.istore_n 3, 1) := by decide +kernel
theorem dX8_depthOf_9 : decode cX8_depthOf 9 = .ok (.iload_n 3, 1) := by decide +kernel
theorem dX8_depthOf_10 : decode cX8_depthOf 10 = .ok (.iconst (-1), 1) := by decide +kernel
theorem dX8_depthOf_11 : decode cX8_depthOf 11 = .ok (.if_icmp .eq 16, 3) := by decide +kernel
theorem dX8_depthOf_14 : decode cX8_depthOf 14 = .ok (.iinc 2 1, 3) := by decide +kernel
theorem dX8_depthOf_17 : decode cX8_depthOf 17 = .ok (.aload_n 0, 1) := by decide +kernel
theorem dX8_depthOf_18 : decode cX8_depthOf 18 = .ok (.getfield 17, 3) := by decide +kernel
theorem dX8_depthOf_21 : decode cX8_depthOf 21 = .ok (.iload_n 3, 1) := by decide +kernel
theorem dX8_depthOf_22 : decode cX8_depthOf 22 = .ok (.iaload, 1) := by decide +kernel
theorem dX8_depthOf_23 : decode cX8_depthOf 23 = .ok (.istore_n 3, 1) := by decide +kernel
theorem dX8_depthOf_24 : decode cX8_depthOf 24 = .ok (.goto (-15), 3) := by decide +kernel
theorem dX8_depthOf_27 : decode cX8_depthOf 27 = .ok (.iload_n 2, 1) := by decide +kernel
theorem dX8_depthOf_28 : decode cX8_depthOf 28 = .ok (.ireturn, 1) := by decide +kernel
theorem dX8_placeOf_0 : decode cX8_placeOf 0 = .ok (.iconst 1, 1) := by decide +kernel
theorem dX8_placeOf_1 : decode cX8_placeOf 1 = .ok (.istore_n 3, 1) := by decide +kernel
theorem dX8_placeOf_2 : decode cX8_placeOf 2 = .ok (.iconst 0, 1) := by decide +kernel
theorem dX8_placeOf_3 : decode cX8_placeOf 3 = .ok (.istore 4, 2) := by decide +kernel
theorem dX8_placeOf_5 : decode cX8_placeOf 5 = .ok (.iload 4, 2) := by decide +kernel
theorem dX8_placeOf_7 : decode cX8_placeOf 7 = .ok (.iload_n 2, 1) := by decide +kernel
theorem dX8_placeOf_8 : decode cX8_placeOf 8 = .ok (.if_icmp .ge 42, 3) := by decide +kernel
theorem dX8_placeOf_11 : decode cX8_placeOf 11 = .ok (.iload_n 3, 1) := by decide +kernel
theorem dX8_placeOf_12 : decode cX8_placeOf 12 = .ok (.iload_n 1, 1) := by decide +kernel
theorem dX8_placeOf_13 : decode cX8_placeOf 13 = .ok (.iload 4, 2) := by decide +kernel
theorem dX8_placeOf_15 : decode cX8_placeOf 15 = .ok (.invokestatic 118, 3) := by decide +kernel
theorem dX8_placeOf_18 : decode cX8_placeOf 18 = .ok (.ifCond .eq 23, 3) := by decide +kernel
theorem dX8_placeOf_21 : decode cX8_placeOf 21 = .ok (.aload_n 0, 1) := by decide +kernel
theorem dX8_placeOf_22 : decode cX8_placeOf 22 = .ok (.getfield 17, 3) := by decide +kernel
theorem dX8_placeOf_25 : decode cX8_placeOf 25 = .ok (.iload 4, 2) := by decide +kernel
theorem dX8_placeOf_27 : decode cX8_placeOf 27 = .ok (.iaload, 1) := by decide +kernel
theorem dX8_placeOf_28 : decode cX8_placeOf 28 = .ok (.aload_n 0, 1) := by decide +kernel
theorem dX8_placeOf_29 : decode cX8_placeOf 29 = .ok (.getfield 17, 3) := by decide +kernel
theorem dX8_placeOf_32 : decode cX8_placeOf 32 = .ok (.iload_n 2, 1) := by decide +kernel
theorem dX8_placeOf_33 : decode cX8_placeOf 33 = .ok (.iaload, 1) := by decide +kernel
theorem dX8_placeOf_34 : decode cX8_placeOf 34 = .ok (.if_icmp .ne 7, 3) := by decide +kernel
theorem dX8_placeOf_37 : decode cX8_placeOf 37 = .ok (.iconst 1, 1) := by decide +kernel
theorem dX8_placeOf_38 : decode cX8_placeOf 38 = .ok (.goto 4, 3) := by decide +kernel
theorem dX8_placeOf_41 : decode cX8_placeOf 41 = .ok (.iconst 0, 1) := by decide +kernel
theorem dX8_placeOf_42 : decode cX8_placeOf 42 = .ok (.iadd, 1) := by decide +kernel
theorem dX8_placeOf_43 : decode cX8_placeOf 43 = .ok (.istore_n 3, 1) := by decide +kernel
theorem dX8_placeOf_44 : decode cX8_placeOf 44 = .ok (.iinc 4 1, 3) := by decide +kernel
theorem dX8_placeOf_47 : decode cX8_placeOf 47 = .ok (.goto (-42), 3) := by decide +kernel
theorem dX8_placeOf_50 : decode cX8_placeOf 50 = .ok (.iload_n 3, 1) := by decide +kernel
theorem dX8_placeOf_51 : decode cX8_placeOf 51 = .ok (.ireturn, 1) := by decide +kernel
theorem dX8_upTo_0 : decode cX8_upTo 0 = .ok (.iload_n 1, 1) := by decide +kernel
theorem dX8_upTo_1 : decode cX8_upTo 1 = .ok (.istore_n 3, 1) := by decide +kernel
theorem dX8_upTo_2 : decode cX8_upTo 2 = .ok (.aload_n 0, 1) := by decide +kernel
theorem dX8_upTo_3 : decode cX8_upTo 3 = .ok (.iload_n 1, 1) := by decide +kernel
theorem dX8_upTo_4 : decode cX8_upTo 4 = .ok (.invokevirtual 214, 3) := by decide +kernel
theorem dX8_upTo_7 : decode cX8_upTo 7 = .ok (.istore 4, 2) := by decide +kernel
theorem dX8_upTo_9 : decode cX8_upTo 9 = .ok (.iload 4, 2) := by decide +kernel
theorem dX8_upTo_11 : decode cX8_upTo 11 = .ok (.iload_n 2, 1) := by decide +kernel
theorem dX8_upTo_12 : decode cX8_upTo 12 = .ok (.if_icmp .le 16, 3) := by decide +kernel
theorem dX8_upTo_15 : decode cX8_upTo 15 = .ok (.aload_n 0, 1) := by decide +kernel
theorem dX8_upTo_16 : decode cX8_upTo 16 = .ok (.getfield 17, 3) := by decide +kernel
theorem dX8_upTo_19 : decode cX8_upTo 19 = .ok (.iload_n 3, 1) := by decide +kernel
theorem dX8_upTo_20 : decode cX8_upTo 20 = .ok (.iaload, 1) := by decide +kernel
theorem dX8_upTo_21 : decode cX8_upTo 21 = .ok (.istore_n 3, 1) := by decide +kernel
theorem dX8_upTo_22 : decode cX8_upTo 22 = .ok (.iinc 4 (-1), 3) := by decide +kernel
theorem dX8_upTo_25 : decode cX8_upTo 25 = .ok (.goto (-16), 3) := by decide +kernel
theorem dX8_upTo_28 : decode cX8_upTo 28 = .ok (.iload_n 3, 1) := by decide +kernel
theorem dX8_upTo_29 : decode cX8_upTo 29 = .ok (.ireturn, 1) := by decide +kernel
theorem dX8_writes_0 : decode cX8_writes 0 = .ok (.aload_n 0, 1) := by decide +kernel
theorem dX8_writes_1 : decode cX8_writes 1 = .ok (.getfield 78, 3) := by decide +kernel
theorem dX8_writes_4 : decode cX8_writes 4 = .ok (.aload_n 0, 1) := by decide +kernel
theorem dX8_writes_5 : decode cX8_writes 5 = .ok (.getfield 217, 3) := by decide +kernel
theorem dX8_writes_8 : decode cX8_writes 8 = .ok (.iload_n 1, 1) := by decide +kernel
theorem dX8_writes_9 : decode cX8_writes 9 = .ok (.iastore, 1) := by decide +kernel
theorem dX8_writes_10 : decode cX8_writes 10 = .ok (.aload_n 0, 1) := by decide +kernel
theorem dX8_writes_11 : decode cX8_writes 11 = .ok (.dup, 1) := by decide +kernel
theorem dX8_writes_12 : decode cX8_writes 12 = .ok (.getfield 217, 3) := by decide +kernel
theorem dX8_writes_15 : decode cX8_writes 15 = .ok (.iconst 1, 1) := by decide +kernel
theorem dX8_writes_16 : decode cX8_writes 16 = .ok (.iadd, 1) := by decide +kernel
theorem dX8_writes_17 : decode cX8_writes 17 = .ok (.putfield 217, 3) := by decide +kernel
theorem dX8_writes_20 : decode cX8_writes 20 = .ok (.return_, 1) := by decide +kernel
theorem dX8_writesNumber_0 : decode cX8_writesNumber 0 = .ok (.iconst 0, 1) := by decide +kernel
theorem dX8_writesNumber_1 : decode cX8_writesNumber 1 = .ok (.istore_n 3, 1) := by decide +kernel
theorem dX8_writesNumber_2 : decode cX8_writesNumber 2 = .ok (.iload_n 3, 1) := by decide +kernel
theorem dX8_writesNumber_3 : decode cX8_writesNumber 3 = .ok (.aload_n 0, 1) := by decide +kernel
theorem dX8_writesNumber_4 : decode cX8_writesNumber 4 = .ok (.iload_n 2, 1) := by decide +kernel
theorem dX8_writesNumber_5 : decode cX8_writesNumber 5 = .ok (.invokevirtual 214, 3) := by decide +kernel
theorem dX8_writesNumber_8 : decode cX8_writesNumber 8 = .ok (.if_icmp .gt 57, 3) := by decide +kernel
theorem dX8_writesNumber_11 : decode cX8_writesNumber 11 = .ok (.iload_n 3, 1) := by decide +kernel
theorem dX8_writesNumber_12 : decode cX8_writesNumber 12 = .ok (.ifCond .le 9, 3) := by decide +kernel
theorem dX8_writesNumber_15 : decode cX8_writesNumber 15 = .ok (.aload_n 0, 1) := by decide +kernel
theorem dX8_writesNumber_16 : decode cX8_writesNumber 16 = .ok (.bipush 46, 2) := by decide +kernel
theorem dX8_writesNumber_18 : decode cX8_writesNumber 18 = .ok (.invokevirtual 220, 3) := by decide +kernel
theorem dX8_writesNumber_21 : decode cX8_writesNumber 21 = .ok (.aload_n 0, 1) := by decide +kernel
theorem dX8_writesNumber_22 : decode cX8_writesNumber 22 = .ok (.iload_n 1, 1) := by decide +kernel
theorem dX8_writesNumber_23 : decode cX8_writesNumber 23 = .ok (.aload_n 0, 1) := by decide +kernel
theorem dX8_writesNumber_24 : decode cX8_writesNumber 24 = .ok (.iload_n 2, 1) := by decide +kernel
theorem dX8_writesNumber_25 : decode cX8_writesNumber 25 = .ok (.iload_n 3, 1) := by decide +kernel
theorem dX8_writesNumber_26 : decode cX8_writesNumber 26 = .ok (.invokevirtual 223, 3) := by decide +kernel
theorem dX8_writesNumber_29 : decode cX8_writesNumber 29 = .ok (.invokevirtual 226, 3) := by decide +kernel
theorem dX8_writesNumber_32 : decode cX8_writesNumber 32 = .ok (.istore 4, 2) := by decide +kernel
theorem dX8_writesNumber_34 : decode cX8_writesNumber 34 = .ok (.iload 4, 2) := by decide +kernel
theorem dX8_writesNumber_36 : decode cX8_writesNumber 36 = .ok (.bipush 9, 2) := by decide +kernel
theorem dX8_writesNumber_38 : decode cX8_writesNumber 38 = .ok (.if_icmp .le 9, 3) := by decide +kernel
theorem dX8_writesNumber_41 : decode cX8_writesNumber 41 = .ok (.aload_n 0, 1) := by decide +kernel
theorem dX8_writesNumber_42 : decode cX8_writesNumber 42 = .ok (.bipush 49, 2) := by decide +kernel
theorem dX8_writesNumber_44 : decode cX8_writesNumber 44 = .ok (.invokevirtual 220, 3) := by decide +kernel
theorem dX8_writesNumber_47 : decode cX8_writesNumber 47 = .ok (.aload_n 0, 1) := by decide +kernel
theorem dX8_writesNumber_48 : decode cX8_writesNumber 48 = .ok (.bipush 48, 2) := by decide +kernel
theorem dX8_writesNumber_50 : decode cX8_writesNumber 50 = .ok (.iload 4, 2) := by decide +kernel
theorem dX8_writesNumber_52 : decode cX8_writesNumber 52 = .ok (.bipush 10, 2) := by decide +kernel
theorem dX8_writesNumber_54 : decode cX8_writesNumber 54 = .ok (.irem, 1) := by decide +kernel
theorem dX8_writesNumber_55 : decode cX8_writesNumber 55 = .ok (.iadd, 1) := by decide +kernel
theorem dX8_writesNumber_56 : decode cX8_writesNumber 56 = .ok (.invokevirtual 220, 3) := by decide +kernel
theorem dX8_writesNumber_59 : decode cX8_writesNumber 59 = .ok (.iinc 3 1, 3) := by decide +kernel
theorem dX8_writesNumber_62 : decode cX8_writesNumber 62 = .ok (.goto (-60), 3) := by decide +kernel
theorem dX8_writesNumber_65 : decode cX8_writesNumber 65 = .ok (.return_, 1) := by decide +kernel
def FX8_matters_J73 (σ : SS) (rec : Int32 → Int32 → Option (Int32 × SS)) (v1 : Int32) (v2 : Int32) (v3 : Int32) (v4 : Int32) (s0 : Int32) : Option (Int32 × SS) :=
  if s0 = 0 then rec (v2 ||| (0 : Int32)) (v4 + (1 : Int32))
    else rec (v2 ||| (jshl (1 : Int32) v3)) (v4 + (1 : Int32))
set_option maxRecDepth 100000 in
set_option maxHeartbeats 4000000 in
theorem PX8_matters_J73 {X : Bx} {g : Gx} {r : Int32} {σr : SS} {σ : SS} (hX : Okw wsM X g cX8_matters 6 RX8 (some .int) ({ frames := 4, cells := 0, slots := 0, locals := 91 } : Room) (fun g => some (.int r)) σr) {rec : Int32 → Int32 → Option (Int32 × SS)} {v1 : Int32} {v2 : Int32} {v3 : Int32} {v4 : Int32} {s0 : Int32} (hrec : ∀ (w2 : Int32) (w4 : Int32), rec w2 w4 = some (r, σr) → Vx X g.1 6 (wsM g σ) 17 [(0, .ref (g.2.1 0)), (1, .int v1), (2, .int w2), (3, .int v3), (4, .int w4)] []) (hf : FX8_matters_J73 σ rec v1 v2 v3 v4 s0 = some (r, σr)) : Vx X g.1 6 (wsM g σ) 73 [(0, .ref (g.2.1 0)), (1, .int v1), (2, .int v2), (3, .int v3), (4, .int v4)] [.int s0] := by
  have h0 := hX.1
  rw [FX8_matters_J73] at hf
  refine vx_istore (ls' := [(5, .int s0), (0, .ref (g.2.1 0)), (1, .int v1), (2, .int v2), (3, .int v3), (4, .int v4)]) h0 dX8_matters_73 (by decide) rfl ?_
  refine vx_iload_n h0 dX8_matters_75 rfl ?_
  refine vx_iload h0 dX8_matters_76 rfl ?_
  refine vx_if_eq (tgt := 87) h0 dX8_matters_78 (by decide) (fun c8 => ?_) (fun c8 => ?_)
  · replace hf := (if_pos c8).symm.trans hf
    refine vx_iconst (v := (0 : Int32)) h0 dX8_matters_87 (by decide) ?_
    refine vx_ior h0 dX8_matters_88 ?_
    refine vx_istore_n (ls' := [(2, .int (v2 ||| (0 : Int32))), (5, .int s0), (0, .ref (g.2.1 0)), (1, .int v1), (3, .int v3), (4, .int v4)]) h0 dX8_matters_89 (by decide) rfl ?_
    refine vx_iinc (q := 5) (v := (v4 + (1 : Int32))) (ls' := [(4, .int (v4 + (1 : Int32))), (2, .int (v2 ||| (0 : Int32))), (5, .int s0), (0, .ref (g.2.1 0)), (1, .int v1), (3, .int v3)]) h0 dX8_matters_90 rfl rfl (by decide) rfl ?_
    refine vx_goto (tgt := 17) h0 dX8_matters_93 (by decide) ?_
    refine vx_sub [3, 4, 1, 5, 0] rfl ?_
    exact hrec _ _ hf
  · replace hf := (if_neg c8).symm.trans hf
    refine vx_iconst (v := (1 : Int32)) h0 dX8_matters_81 (by decide) ?_
    refine vx_iload_n h0 dX8_matters_82 rfl ?_
    refine vx_ishl h0 dX8_matters_83 ?_
    refine vx_goto (tgt := 88) h0 dX8_matters_84 (by decide) ?_
    refine vx_ior h0 dX8_matters_88 ?_
    refine vx_istore_n (ls' := [(2, .int (v2 ||| (jshl (1 : Int32) v3))), (5, .int s0), (0, .ref (g.2.1 0)), (1, .int v1), (3, .int v3), (4, .int v4)]) h0 dX8_matters_89 (by decide) rfl ?_
    refine vx_iinc (q := 5) (v := (v4 + (1 : Int32))) (ls' := [(4, .int (v4 + (1 : Int32))), (2, .int (v2 ||| (jshl (1 : Int32) v3))), (5, .int s0), (0, .ref (g.2.1 0)), (1, .int v1), (3, .int v3)]) h0 dX8_matters_90 rfl rfl (by decide) rfl ?_
    refine vx_goto (tgt := 17) h0 dX8_matters_93 (by decide) ?_
    refine vx_sub [3, 4, 1, 5, 0] rfl ?_
    exact hrec _ _ hf
def FX8_matters_J72 (σ : SS) (rec : Int32 → Int32 → Option (Int32 × SS)) (v1 : Int32) (v2 : Int32) (v3 : Int32) (v4 : Int32) : Option (Int32 × SS) :=
  FX8_matters_J73 σ (fun a9 a10 => rec a9 a10) v1 v2 v3 v4 (0 : Int32)
set_option maxRecDepth 100000 in
set_option maxHeartbeats 4000000 in
theorem PX8_matters_J72 {X : Bx} {g : Gx} {r : Int32} {σr : SS} {σ : SS} (hX : Okw wsM X g cX8_matters 6 RX8 (some .int) ({ frames := 4, cells := 0, slots := 0, locals := 91 } : Room) (fun g => some (.int r)) σr) {rec : Int32 → Int32 → Option (Int32 × SS)} {v1 : Int32} {v2 : Int32} {v3 : Int32} {v4 : Int32} (hrec : ∀ (w2 : Int32) (w4 : Int32), rec w2 w4 = some (r, σr) → Vx X g.1 6 (wsM g σ) 17 [(0, .ref (g.2.1 0)), (1, .int v1), (2, .int w2), (3, .int v3), (4, .int w4)] []) (hf : FX8_matters_J72 σ rec v1 v2 v3 v4 = some (r, σr)) : Vx X g.1 6 (wsM g σ) 72 [(0, .ref (g.2.1 0)), (1, .int v1), (2, .int v2), (3, .int v3), (4, .int v4)] [] := by
  have h0 := hX.1
  rw [FX8_matters_J72] at hf
  refine vx_iconst (v := (0 : Int32)) h0 dX8_matters_72 (by decide) ?_
  exact PX8_matters_J73 hX (fun a9 a10 hf => hrec a9 a10 hf) hf
def FX8_matters_L17 (σ : SS) (v1 : Int32) (v3 : Int32) (k : Int32 → Option (Int32 × SS)) : Nat → Int32 → Int32 → Option (Int32 × SS)
  | 0, _, _ => none
  | n + 1, v2, v4 => if (64 : Int32) ≤ v4 then k v2
    else ob (FX8_has σ (gI σ 24) v3) (fun r6 => if r6 = 0 then ob (FX8_canBe σ v4) (fun r14 => if r14 = 0 then FX8_matters_J72 σ (fun a16 a17 => FX8_matters_L17 σ v1 v3 k n a16 a17) v1 v2 v3 v4
    else gd (inb v4 64) (gd (inb (v4 ^^^ (jshl (1 : Int32) v3)) 64) (if (((gA σ 31 (Int32.toNatClampNeg v4)) ^^^ (gA σ 31 (Int32.toNatClampNeg (v4 ^^^ (jshl (1 : Int32) v3))))) &&& v1) = 0 then FX8_matters_J72 σ (fun a21 a22 => FX8_matters_L17 σ v1 v3 k n a21 a22) v1 v2 v3 v4
    else FX8_matters_J73 σ (fun a23 a24 => FX8_matters_L17 σ v1 v3 k n a23 a24) v1 v2 v3 v4 (1 : Int32))))
    else FX8_matters_J72 σ (fun a11 a12 => FX8_matters_L17 σ v1 v3 k n a11 a12) v1 v2 v3 v4)
set_option maxRecDepth 100000 in
set_option maxHeartbeats 4000000 in
theorem PX8_matters_L17 {X : Bx} {g : Gx} {r : Int32} {σr : SS} {σ : SS} (hX : Okw wsM X g cX8_matters 6 RX8 (some .int) ({ frames := 4, cells := 0, slots := 0, locals := 91 } : Room) (fun g => some (.int r)) σr) {v1 : Int32} {v3 : Int32} {k : Int32 → Option (Int32 × SS)} (hk : ∀ (v2 : Int32), k v2 = some (r, σr) → Vx X g.1 6 (wsM g σ) 96 [(0, .ref (g.2.1 0)), (1, .int v1), (2, .int v2), (3, .int v3)] []) : ∀ (n : Nat) (v2 : Int32) (v4 : Int32), FX8_matters_L17 σ v1 v3 k n v2 v4 = some (r, σr) → Vx X g.1 6 (wsM g σ) 17 [(0, .ref (g.2.1 0)), (1, .int v1), (2, .int v2), (3, .int v3), (4, .int v4)] [] := by
  have h0 := hX.1
  intro n
  induction n with
  | zero =>
    intro v2 v4 hf
    rw [FX8_matters_L17] at hf
    cases hf
  | succ n ih =>
    intro v2 v4 hf
    rw [FX8_matters_L17] at hf
    refine vx_iload h0 dX8_matters_17 rfl ?_
    refine vx_bipush (v := (64 : Int32)) h0 dX8_matters_19 (by decide) ?_
    refine vx_icmp_ge (tgt := 96) h0 dX8_matters_21 (by decide) (fun c4 => ?_) (fun c4 => ?_)
    · replace hf := (if_pos c4).symm.trans hf
      refine vx_sub [0, 1, 2, 3] rfl ?_
      exact hk _ hf
    · replace hf := (if_neg c4).symm.trans hf
      refine vx_aload_n h0 dX8_matters_24 rfl ?_
      refine mg_0_24 hX q808 dX8_matters_25 ?_
      refine vx_iload_n h0 dX8_matters_28 rfl ?_
      obtain ⟨r6, h5, hf⟩ := ob_some hf
      refine w_callS (st := []) hX (c_X8_has h5) ce_X8_has q927 ⟨rfl, rfl⟩ ⟨by decide, by decide⟩ rfl rfl rfl (Nat.le_of_ble_eq_true rfl) dX8_matters_29 ?_
      show Vx X g.1 6 (wsM g σ) 32 [(0, .ref (g.2.1 0)), (1, .int v1), (2, .int v2), (3, .int v3), (4, .int v4)] [.int r6]
      refine vx_if_ne (tgt := 72) h0 dX8_matters_32 (by decide) (fun c7 => ?_) (fun c7 => ?_)
      · replace hf := (if_neg c7).symm.trans hf
        exact PX8_matters_J72 hX (fun a11 a12 hf => ih a11 a12 hf) hf
      · replace hf := (if_pos c7).symm.trans hf
        refine vx_aload_n h0 dX8_matters_35 rfl ?_
        refine vx_iload h0 dX8_matters_36 rfl ?_
        obtain ⟨r14, h13, hf⟩ := ob_some hf
        refine w_callV (st := []) (ci := 8) (q0 := 0) hX (c_X8_canBe h13) ce_X8_canBe q1013 ⟨rfl, rfl⟩ ⟨by decide, by decide⟩ rfl rfl rfl rfl (mo_0 g _) rfl (Nat.le_of_ble_eq_true rfl) dX8_matters_38 ?_
        show Vx X g.1 6 (wsM g σ) 41 [(0, .ref (g.2.1 0)), (1, .int v1), (2, .int v2), (3, .int v3), (4, .int v4)] [.int r14]
        refine vx_if_eq (tgt := 72) h0 dX8_matters_41 (by decide) (fun c15 => ?_) (fun c15 => ?_)
        · replace hf := (if_pos c15).symm.trans hf
          exact PX8_matters_J72 hX (fun a16 a17 hf => ih a16 a17 hf) hf
        · replace hf := (if_neg c15).symm.trans hf
          refine vx_aload_n h0 dX8_matters_44 rfl ?_
          refine mg_0_31 hX q815 dX8_matters_45 ?_
          refine vx_iload h0 dX8_matters_48 rfl ?_
          obtain ⟨b18, hf⟩ := gd_some hf
          refine ml_20 hX b18 dX8_matters_50 ?_
          refine vx_aload_n h0 dX8_matters_51 rfl ?_
          refine mg_0_31 hX q815 dX8_matters_52 ?_
          refine vx_iload h0 dX8_matters_55 rfl ?_
          refine vx_iconst (v := (1 : Int32)) h0 dX8_matters_57 (by decide) ?_
          refine vx_iload_n h0 dX8_matters_58 rfl ?_
          refine vx_ishl h0 dX8_matters_59 ?_
          refine vx_ixor h0 dX8_matters_60 ?_
          obtain ⟨b19, hf⟩ := gd_some hf
          refine ml_20 hX b19 dX8_matters_61 ?_
          refine vx_ixor h0 dX8_matters_62 ?_
          refine vx_iload_n h0 dX8_matters_63 rfl ?_
          refine vx_iand h0 dX8_matters_64 ?_
          refine vx_if_eq (tgt := 72) h0 dX8_matters_65 (by decide) (fun c20 => ?_) (fun c20 => ?_)
          · replace hf := (if_pos c20).symm.trans hf
            exact PX8_matters_J72 hX (fun a21 a22 hf => ih a21 a22 hf) hf
          · replace hf := (if_neg c20).symm.trans hf
            refine vx_iconst (v := (1 : Int32)) h0 dX8_matters_68 (by decide) ?_
            refine vx_goto (tgt := 73) h0 dX8_matters_69 (by decide) ?_
            exact PX8_matters_J73 hX (fun a23 a24 hf => ih a23 a24 hf) hf
def FX8_matters_L8 (σ : SS) (v1 : Int32) (k : Int32 → Option (Int32 × SS)) : Nat → Int32 → Int32 → Option (Int32 × SS)
  | 0, _, _ => none
  | n + 1, v2, v3 => if (6 : Int32) ≤ v3 then k v2
    else FX8_matters_L17 σ v1 v3 (fun u25 => FX8_matters_L8 σ v1 k n u25 (v3 + (1 : Int32))) 5000 v2 (0 : Int32)
set_option maxRecDepth 100000 in
set_option maxHeartbeats 4000000 in
theorem PX8_matters_L8 {X : Bx} {g : Gx} {r : Int32} {σr : SS} {σ : SS} (hX : Okw wsM X g cX8_matters 6 RX8 (some .int) ({ frames := 4, cells := 0, slots := 0, locals := 91 } : Room) (fun g => some (.int r)) σr) {v1 : Int32} {k : Int32 → Option (Int32 × SS)} (hk : ∀ (v2 : Int32), k v2 = some (r, σr) → Vx X g.1 6 (wsM g σ) 102 [(2, .int v2)] []) : ∀ (n : Nat) (v2 : Int32) (v3 : Int32), FX8_matters_L8 σ v1 k n v2 v3 = some (r, σr) → Vx X g.1 6 (wsM g σ) 8 [(0, .ref (g.2.1 0)), (1, .int v1), (2, .int v2), (3, .int v3)] [] := by
  have h0 := hX.1
  intro n
  induction n with
  | zero =>
    intro v2 v3 hf
    rw [FX8_matters_L8] at hf
    cases hf
  | succ n ih =>
    intro v2 v3 hf
    rw [FX8_matters_L8] at hf
    refine vx_iload_n h0 dX8_matters_8 rfl ?_
    refine vx_bipush (v := (6 : Int32)) h0 dX8_matters_9 (by decide) ?_
    refine vx_icmp_ge (tgt := 102) h0 dX8_matters_11 (by decide) (fun c3 => ?_) (fun c3 => ?_)
    · replace hf := (if_pos c3).symm.trans hf
      refine vx_sub [2] rfl ?_
      exact hk _ hf
    · replace hf := (if_neg c3).symm.trans hf
      refine vx_iconst (v := (0 : Int32)) h0 dX8_matters_14 (by decide) ?_
      refine vx_istore (ls' := [(4, .int (0 : Int32)), (0, .ref (g.2.1 0)), (1, .int v1), (2, .int v2), (3, .int v3)]) h0 dX8_matters_15 (by decide) rfl ?_
      refine vx_sub [1, 2, 3, 4, 0] rfl ?_
      refine PX8_matters_L17 hX (fun u25 hf => ?_) _ _ _ hf
      refine vx_iinc (q := 3) (v := (v3 + (1 : Int32))) (ls' := [(3, .int (v3 + (1 : Int32))), (0, .ref (g.2.1 0)), (1, .int v1), (2, .int u25)]) h0 dX8_matters_96 rfl rfl (by decide) rfl ?_
      refine vx_goto (tgt := 8) h0 dX8_matters_99 (by decide) ?_
      refine vx_sub [1, 2, 3, 0] rfl ?_
      exact ih _ _ hf
def FX8_matters (σ : SS) (a0 : Int32) : Option (Int32 × SS) :=
  ob (FX8_forces σ) (fun σ2 => FX8_matters_L8 σ2 a0 (fun u26 => some (u26, σ2)) 5000 (0 : Int32) (0 : Int32))
set_option maxRecDepth 100000 in
set_option maxHeartbeats 4000000 in
theorem c_X8_matters {σ : SS} {a0 : Int32} {r : Int32} {σr : SS} (hf : FX8_matters σ a0 = some (r, σr)) : Mcw wsM yX8_matters cX8_matters 6 (some .int) ({ frames := 4, cells := 0, slots := 0, locals := 91 } : Room) (fun g => [.ref (g.2.1 0), .int a0]) σ (fun g => some (.int r)) σr := by
  refine w_enter wsM_fix (by decide) (fun g => Nat.le_of_ble_eq_true rfl) ?_
  intro X g hX
  replace hX : Okw wsM X g cX8_matters 6 RX8 (some .int) ({ frames := 4, cells := 0, slots := 0, locals := 91 } : Room) (fun g => some (.int r)) σr := hX
  have h0 := hX.1
  show Vx X g.1 6 (wsM g σ) 0 [(0, .ref (g.2.1 0)), (1, .int a0)] []
  rw [FX8_matters] at hf
  refine vx_iconst (v := (0 : Int32)) h0 dX8_matters_0 (by decide) ?_
  refine vx_istore_n (ls' := [(2, .int (0 : Int32)), (0, .ref (g.2.1 0)), (1, .int a0)]) h0 dX8_matters_1 (by decide) rfl ?_
  refine vx_aload_n h0 dX8_matters_2 rfl ?_
  obtain ⟨σ2, h1, hf⟩ := ob_some hf
  refine w_callV (st := []) (ci := 8) (q0 := 0) hX (c_X8_forces h1) ce_X8_forces q1009 ⟨rfl, rfl⟩ ⟨by decide, by decide⟩ rfl rfl rfl rfl (mo_0 g _) rfl (Nat.le_of_ble_eq_true rfl) dX8_matters_3 ?_
  show Vx X g.1 6 (wsM g σ2) 6 [(2, .int (0 : Int32)), (0, .ref (g.2.1 0)), (1, .int a0)] []
  refine vx_iconst (v := (0 : Int32)) h0 dX8_matters_6 (by decide) ?_
  refine vx_istore_n (ls' := [(3, .int (0 : Int32)), (2, .int (0 : Int32)), (0, .ref (g.2.1 0)), (1, .int a0)]) h0 dX8_matters_7 (by decide) rfl ?_
  refine vx_sub [2, 3, 1, 0] rfl ?_
  refine PX8_matters_L8 hX (fun u26 hf => ?_) _ _ _ hf
  refine vx_iload_n h0 dX8_matters_102 rfl ?_
  exact w_iretE hX hf dX8_matters_103
def FX8_ways_L4 (v1 : Int32) (k : Int32 → SS → Option (Int32 × SS)) : Nat → Int32 → Int32 → SS → Option (Int32 × SS)
  | 0, _, _, _ => none
  | n + 1, v2, v3, σ => if (64 : Int32) ≤ v3 then k v2 σ
    else ob (FX8_canBe σ v3) (fun r3 => if r3 = 0 then FX8_ways_L4 v1 k n v2 (v3 + (1 : Int32)) σ
    else ob (FX8_forceBy σ v3) (fun r6 => ob (FX8_wrongBy σ r6) (fun p8 => if p8.1 = 0 then if v1 = 0 then FX8_ways_L4 v1 k n (v2 + (1 : Int32)) (v3 + (1 : Int32)) p8.2
    else some (v3, p8.2)
    else FX8_ways_L4 v1 k n v2 (v3 + (1 : Int32)) p8.2)))
set_option maxRecDepth 100000 in
set_option maxHeartbeats 4000000 in
theorem PX8_ways_L4 {X : Bx} {g : Gx} {r : Int32} {σr : SS} (hX : Okw wsM X g cX8_ways 4 RX8 (some .int) ({ frames := 5, cells := 0, slots := 0, locals := 115 } : Room) (fun g => some (.int r)) σr) {v1 : Int32} {k : Int32 → SS → Option (Int32 × SS)} (hk : ∀ (v2 : Int32) (σ : SS), k v2 σ = some (r, σr) → Vx X g.1 4 (wsM g σ) 45 [(1, .int v1), (2, .int v2)] []) : ∀ (n : Nat) (v2 : Int32) (v3 : Int32) (σ : SS), FX8_ways_L4 v1 k n v2 v3 σ = some (r, σr) → Vx X g.1 4 (wsM g σ) 4 [(0, .ref (g.2.1 0)), (1, .int v1), (2, .int v2), (3, .int v3)] [] := by
  have h0 := hX.1
  intro n
  induction n with
  | zero =>
    intro v2 v3 σ hf
    rw [FX8_ways_L4] at hf
    cases hf
  | succ n ih =>
    intro v2 v3 σ hf
    rw [FX8_ways_L4] at hf
    refine vx_iload_n h0 dX8_ways_4 rfl ?_
    refine vx_bipush (v := (64 : Int32)) h0 dX8_ways_5 (by decide) ?_
    refine vx_icmp_ge (tgt := 45) h0 dX8_ways_7 (by decide) (fun c1 => ?_) (fun c1 => ?_)
    · replace hf := (if_pos c1).symm.trans hf
      refine vx_sub [1, 2] rfl ?_
      exact hk _ _ hf
    · replace hf := (if_neg c1).symm.trans hf
      refine vx_aload_n h0 dX8_ways_10 rfl ?_
      refine vx_iload_n h0 dX8_ways_11 rfl ?_
      obtain ⟨r3, h2, hf⟩ := ob_some hf
      refine w_callV (st := []) (ci := 8) (q0 := 0) hX (c_X8_canBe h2) ce_X8_canBe q1013 ⟨rfl, rfl⟩ ⟨by decide, by decide⟩ rfl rfl rfl rfl (mo_0 g _) rfl (Nat.le_of_ble_eq_true rfl) dX8_ways_12 ?_
      show Vx X g.1 4 (wsM g σ) 15 [(0, .ref (g.2.1 0)), (1, .int v1), (2, .int v2), (3, .int v3)] [.int r3]
      refine vx_if_eq (tgt := 39) h0 dX8_ways_15 (by decide) (fun c4 => ?_) (fun c4 => ?_)
      · replace hf := (if_pos c4).symm.trans hf
        refine vx_iinc (q := 3) (v := (v3 + (1 : Int32))) (ls' := [(3, .int (v3 + (1 : Int32))), (0, .ref (g.2.1 0)), (1, .int v1), (2, .int v2)]) h0 dX8_ways_39 rfl rfl (by decide) rfl ?_
        refine vx_goto (tgt := 4) h0 dX8_ways_42 (by decide) ?_
        refine vx_sub [1, 2, 3, 0] rfl ?_
        exact ih _ _ _ hf
      · replace hf := (if_neg c4).symm.trans hf
        refine vx_aload_n h0 dX8_ways_18 rfl ?_
        refine vx_aload_n h0 dX8_ways_19 rfl ?_
        refine vx_iload_n h0 dX8_ways_20 rfl ?_
        obtain ⟨r6, h5, hf⟩ := ob_some hf
        refine w_callV (st := [.ref (g.2.1 0)]) (ci := 8) (q0 := 0) hX (c_X8_forceBy h5) ce_X8_forceBy q973 ⟨rfl, rfl⟩ ⟨by decide, by decide⟩ rfl rfl rfl rfl (mo_0 g _) rfl (Nat.le_of_ble_eq_true rfl) dX8_ways_21 ?_
        show Vx X g.1 4 (wsM g σ) 24 [(0, .ref (g.2.1 0)), (1, .int v1), (2, .int v2), (3, .int v3)] [.int r6, .ref (g.2.1 0)]
        obtain ⟨p8, h7, hf⟩ := ob_some hf
        refine w_callV (st := []) (ci := 8) (q0 := 0) hX (c_X8_wrongBy h7) ce_X8_wrongBy q1017 ⟨rfl, rfl⟩ ⟨by decide, by decide⟩ rfl rfl rfl rfl (mo_0 g _) rfl (Nat.le_of_ble_eq_true rfl) dX8_ways_24 ?_
        show Vx X g.1 4 (wsM g p8.2) 27 [(0, .ref (g.2.1 0)), (1, .int v1), (2, .int v2), (3, .int v3)] [.int p8.1]
        refine vx_if_ne (tgt := 39) h0 dX8_ways_27 (by decide) (fun c9 => ?_) (fun c9 => ?_)
        · replace hf := (if_neg c9).symm.trans hf
          refine vx_iinc (q := 3) (v := (v3 + (1 : Int32))) (ls' := [(3, .int (v3 + (1 : Int32))), (0, .ref (g.2.1 0)), (1, .int v1), (2, .int v2)]) h0 dX8_ways_39 rfl rfl (by decide) rfl ?_
          refine vx_goto (tgt := 4) h0 dX8_ways_42 (by decide) ?_
          refine vx_sub [1, 2, 3, 0] rfl ?_
          exact ih _ _ _ hf
        · replace hf := (if_pos c9).symm.trans hf
          refine vx_iload_n h0 dX8_ways_30 rfl ?_
          refine vx_if_eq (tgt := 36) h0 dX8_ways_31 (by decide) (fun c10 => ?_) (fun c10 => ?_)
          · replace hf := (if_pos c10).symm.trans hf
            refine vx_iinc (q := 2) (v := (v2 + (1 : Int32))) (ls' := [(2, .int (v2 + (1 : Int32))), (0, .ref (g.2.1 0)), (1, .int v1), (3, .int v3)]) h0 dX8_ways_36 rfl rfl (by decide) rfl ?_
            refine vx_iinc (q := 3) (v := (v3 + (1 : Int32))) (ls' := [(3, .int (v3 + (1 : Int32))), (2, .int (v2 + (1 : Int32))), (0, .ref (g.2.1 0)), (1, .int v1)]) h0 dX8_ways_39 rfl rfl (by decide) rfl ?_
            refine vx_goto (tgt := 4) h0 dX8_ways_42 (by decide) ?_
            refine vx_sub [2, 3, 1, 0] rfl ?_
            exact ih _ _ _ hf
          · replace hf := (if_neg c10).symm.trans hf
            refine vx_iload_n h0 dX8_ways_34 rfl ?_
            exact w_iretE hX hf dX8_ways_35
def FX8_ways (σ : SS) (a0 : Int32) : Option (Int32 × SS) :=
  FX8_ways_L4 a0 (fun u11 σ12 => if a0 = 0 then some (u11, σ12)
    else some ((-1 : Int32), σ12)) 5000 (0 : Int32) (0 : Int32) σ
set_option maxRecDepth 100000 in
set_option maxHeartbeats 4000000 in
theorem c_X8_ways {σ : SS} {a0 : Int32} {r : Int32} {σr : SS} (hf : FX8_ways σ a0 = some (r, σr)) : Mcw wsM yX8_ways cX8_ways 4 (some .int) ({ frames := 5, cells := 0, slots := 0, locals := 115 } : Room) (fun g => [.ref (g.2.1 0), .int a0]) σ (fun g => some (.int r)) σr := by
  refine w_enter wsM_fix (by decide) (fun g => Nat.le_of_ble_eq_true rfl) ?_
  intro X g hX
  replace hX : Okw wsM X g cX8_ways 4 RX8 (some .int) ({ frames := 5, cells := 0, slots := 0, locals := 115 } : Room) (fun g => some (.int r)) σr := hX
  have h0 := hX.1
  show Vx X g.1 4 (wsM g σ) 0 [(0, .ref (g.2.1 0)), (1, .int a0)] []
  rw [FX8_ways] at hf
  refine vx_iconst (v := (0 : Int32)) h0 dX8_ways_0 (by decide) ?_
  refine vx_istore_n (ls' := [(2, .int (0 : Int32)), (0, .ref (g.2.1 0)), (1, .int a0)]) h0 dX8_ways_1 (by decide) rfl ?_
  refine vx_iconst (v := (0 : Int32)) h0 dX8_ways_2 (by decide) ?_
  refine vx_istore_n (ls' := [(3, .int (0 : Int32)), (2, .int (0 : Int32)), (0, .ref (g.2.1 0)), (1, .int a0)]) h0 dX8_ways_3 (by decide) rfl ?_
  refine vx_sub [2, 3, 1, 0] rfl ?_
  refine PX8_ways_L4 hX (fun u11 σ12 hf => ?_) _ _ _ _ hf
  refine vx_iload_n h0 dX8_ways_45 rfl ?_
  refine vx_if_eq (tgt := 53) h0 dX8_ways_46 (by decide) (fun c13 => ?_) (fun c13 => ?_)
  · replace hf := (if_pos c13).symm.trans hf
    refine vx_iload_n h0 dX8_ways_53 rfl ?_
    exact w_iretE hX hf dX8_ways_54
  · replace hf := (if_neg c13).symm.trans hf
    refine vx_iconst (v := (-1 : Int32)) h0 dX8_ways_49 (by decide) ?_
    refine vx_goto (tgt := 54) h0 dX8_ways_50 (by decide) ?_
    exact w_iretE hX hf dX8_ways_54
def FX8_brings_L8 (σ : SS) (v1 : Int32) (k : Int32 → Option (Int32 × SS)) : Nat → Int32 → Int32 → Option (Int32 × SS)
  | 0, _, _ => none
  | n + 1, v2, v3 => if (64 : Int32) ≤ v3 then k v2
    else ob (FX8_canBe σ v3) (fun r5 => if r5 = 0 then FX8_brings_L8 σ v1 k n (v2 + (0 : Int32)) (v3 + (1 : Int32))
    else gd (inb v3 64) (ob (FX8_has σ (gA σ 31 (Int32.toNatClampNeg v3)) v1) (fun r9 => if r9 = 0 then FX8_brings_L8 σ v1 k n (v2 + (0 : Int32)) (v3 + (1 : Int32))
    else FX8_brings_L8 σ v1 k n (v2 + (1 : Int32)) (v3 + (1 : Int32)))))
set_option maxRecDepth 100000 in
set_option maxHeartbeats 4000000 in
theorem PX8_brings_L8 {X : Bx} {g : Gx} {r : Int32} {σr : SS} {σ : SS} (hX : Okw wsM X g cX8_brings 4 RX8 (some .int) ({ frames := 4, cells := 0, slots := 0, locals := 91 } : Room) (fun g => some (.int r)) σr) {v1 : Int32} {k : Int32 → Option (Int32 × SS)} (hk : ∀ (v2 : Int32), k v2 = some (r, σr) → Vx X g.1 4 (wsM g σ) 49 [(2, .int v2)] []) : ∀ (n : Nat) (v2 : Int32) (v3 : Int32), FX8_brings_L8 σ v1 k n v2 v3 = some (r, σr) → Vx X g.1 4 (wsM g σ) 8 [(0, .ref (g.2.1 0)), (1, .int v1), (2, .int v2), (3, .int v3)] [] := by
  have h0 := hX.1
  intro n
  induction n with
  | zero =>
    intro v2 v3 hf
    rw [FX8_brings_L8] at hf
    cases hf
  | succ n ih =>
    intro v2 v3 hf
    rw [FX8_brings_L8] at hf
    refine vx_iload_n h0 dX8_brings_8 rfl ?_
    refine vx_bipush (v := (64 : Int32)) h0 dX8_brings_9 (by decide) ?_
    refine vx_icmp_ge (tgt := 49) h0 dX8_brings_11 (by decide) (fun c3 => ?_) (fun c3 => ?_)
    · replace hf := (if_pos c3).symm.trans hf
      refine vx_sub [2] rfl ?_
      exact hk _ hf
    · replace hf := (if_neg c3).symm.trans hf
      refine vx_iload_n h0 dX8_brings_14 rfl ?_
      refine vx_aload_n h0 dX8_brings_15 rfl ?_
      refine vx_iload_n h0 dX8_brings_16 rfl ?_
      obtain ⟨r5, h4, hf⟩ := ob_some hf
      refine w_callV (st := [.int v2]) (ci := 8) (q0 := 0) hX (c_X8_canBe h4) ce_X8_canBe q1013 ⟨rfl, rfl⟩ ⟨by decide, by decide⟩ rfl rfl rfl rfl (mo_0 g _) rfl (Nat.le_of_ble_eq_true rfl) dX8_brings_17 ?_
      show Vx X g.1 4 (wsM g σ) 20 [(0, .ref (g.2.1 0)), (1, .int v1), (2, .int v2), (3, .int v3)] [.int r5, .int v2]
      refine vx_if_eq (tgt := 40) h0 dX8_brings_20 (by decide) (fun c6 => ?_) (fun c6 => ?_)
      · replace hf := (if_pos c6).symm.trans hf
        refine vx_iconst (v := (0 : Int32)) h0 dX8_brings_40 (by decide) ?_
        refine vx_iadd h0 dX8_brings_41 ?_
        refine vx_istore_n (ls' := [(2, .int (v2 + (0 : Int32))), (0, .ref (g.2.1 0)), (1, .int v1), (3, .int v3)]) h0 dX8_brings_42 (by decide) rfl ?_
        refine vx_iinc (q := 3) (v := (v3 + (1 : Int32))) (ls' := [(3, .int (v3 + (1 : Int32))), (2, .int (v2 + (0 : Int32))), (0, .ref (g.2.1 0)), (1, .int v1)]) h0 dX8_brings_43 rfl rfl (by decide) rfl ?_
        refine vx_goto (tgt := 8) h0 dX8_brings_46 (by decide) ?_
        refine vx_sub [2, 3, 1, 0] rfl ?_
        exact ih _ _ hf
      · replace hf := (if_neg c6).symm.trans hf
        refine vx_aload_n h0 dX8_brings_23 rfl ?_
        refine mg_0_31 hX q815 dX8_brings_24 ?_
        refine vx_iload_n h0 dX8_brings_27 rfl ?_
        obtain ⟨b7, hf⟩ := gd_some hf
        refine ml_20 hX b7 dX8_brings_28 ?_
        refine vx_iload_n h0 dX8_brings_29 rfl ?_
        obtain ⟨r9, h8, hf⟩ := ob_some hf
        refine w_callS (st := [.int v2]) hX (c_X8_has h8) ce_X8_has q927 ⟨rfl, rfl⟩ ⟨by decide, by decide⟩ rfl rfl rfl (Nat.le_of_ble_eq_true rfl) dX8_brings_30 ?_
        show Vx X g.1 4 (wsM g σ) 33 [(0, .ref (g.2.1 0)), (1, .int v1), (2, .int v2), (3, .int v3)] [.int r9, .int v2]
        refine vx_if_eq (tgt := 40) h0 dX8_brings_33 (by decide) (fun c10 => ?_) (fun c10 => ?_)
        · replace hf := (if_pos c10).symm.trans hf
          refine vx_iconst (v := (0 : Int32)) h0 dX8_brings_40 (by decide) ?_
          refine vx_iadd h0 dX8_brings_41 ?_
          refine vx_istore_n (ls' := [(2, .int (v2 + (0 : Int32))), (0, .ref (g.2.1 0)), (1, .int v1), (3, .int v3)]) h0 dX8_brings_42 (by decide) rfl ?_
          refine vx_iinc (q := 3) (v := (v3 + (1 : Int32))) (ls' := [(3, .int (v3 + (1 : Int32))), (2, .int (v2 + (0 : Int32))), (0, .ref (g.2.1 0)), (1, .int v1)]) h0 dX8_brings_43 rfl rfl (by decide) rfl ?_
          refine vx_goto (tgt := 8) h0 dX8_brings_46 (by decide) ?_
          refine vx_sub [2, 3, 1, 0] rfl ?_
          exact ih _ _ hf
        · replace hf := (if_neg c10).symm.trans hf
          refine vx_iconst (v := (1 : Int32)) h0 dX8_brings_36 (by decide) ?_
          refine vx_goto (tgt := 41) h0 dX8_brings_37 (by decide) ?_
          refine vx_iadd h0 dX8_brings_41 ?_
          refine vx_istore_n (ls' := [(2, .int (v2 + (1 : Int32))), (0, .ref (g.2.1 0)), (1, .int v1), (3, .int v3)]) h0 dX8_brings_42 (by decide) rfl ?_
          refine vx_iinc (q := 3) (v := (v3 + (1 : Int32))) (ls' := [(3, .int (v3 + (1 : Int32))), (2, .int (v2 + (1 : Int32))), (0, .ref (g.2.1 0)), (1, .int v1)]) h0 dX8_brings_43 rfl rfl (by decide) rfl ?_
          refine vx_goto (tgt := 8) h0 dX8_brings_46 (by decide) ?_
          refine vx_sub [2, 3, 1, 0] rfl ?_
          exact ih _ _ hf
def FX8_brings (σ : SS) (a0 : Int32) : Option (Int32 × SS) :=
  ob (FX8_forces σ) (fun σ2 => FX8_brings_L8 σ2 a0 (fun u11 => some (u11, σ2)) 5000 (0 : Int32) (0 : Int32))
set_option maxRecDepth 100000 in
set_option maxHeartbeats 4000000 in
theorem c_X8_brings {σ : SS} {a0 : Int32} {r : Int32} {σr : SS} (hf : FX8_brings σ a0 = some (r, σr)) : Mcw wsM yX8_brings cX8_brings 4 (some .int) ({ frames := 4, cells := 0, slots := 0, locals := 91 } : Room) (fun g => [.ref (g.2.1 0), .int a0]) σ (fun g => some (.int r)) σr := by
  refine w_enter wsM_fix (by decide) (fun g => Nat.le_of_ble_eq_true rfl) ?_
  intro X g hX
  replace hX : Okw wsM X g cX8_brings 4 RX8 (some .int) ({ frames := 4, cells := 0, slots := 0, locals := 91 } : Room) (fun g => some (.int r)) σr := hX
  have h0 := hX.1
  show Vx X g.1 4 (wsM g σ) 0 [(0, .ref (g.2.1 0)), (1, .int a0)] []
  rw [FX8_brings] at hf
  refine vx_iconst (v := (0 : Int32)) h0 dX8_brings_0 (by decide) ?_
  refine vx_istore_n (ls' := [(2, .int (0 : Int32)), (0, .ref (g.2.1 0)), (1, .int a0)]) h0 dX8_brings_1 (by decide) rfl ?_
  refine vx_aload_n h0 dX8_brings_2 rfl ?_
  obtain ⟨σ2, h1, hf⟩ := ob_some hf
  refine w_callV (st := []) (ci := 8) (q0 := 0) hX (c_X8_forces h1) ce_X8_forces q1009 ⟨rfl, rfl⟩ ⟨by decide, by decide⟩ rfl rfl rfl rfl (mo_0 g _) rfl (Nat.le_of_ble_eq_true rfl) dX8_brings_3 ?_
  show Vx X g.1 4 (wsM g σ2) 6 [(2, .int (0 : Int32)), (0, .ref (g.2.1 0)), (1, .int a0)] []
  refine vx_iconst (v := (0 : Int32)) h0 dX8_brings_6 (by decide) ?_
  refine vx_istore_n (ls' := [(3, .int (0 : Int32)), (2, .int (0 : Int32)), (0, .ref (g.2.1 0)), (1, .int a0)]) h0 dX8_brings_7 (by decide) rfl ?_
  refine vx_sub [2, 3, 1, 0] rfl ?_
  refine PX8_brings_L8 hX (fun u11 hf => ?_) _ _ _ hf
  refine vx_iload_n h0 dX8_brings_49 rfl ?_
  exact w_iretE hX hf dX8_brings_50
def FX8_settles_J121 (σ : SS) (rec : Int32 → Int32 → Int32 → Option (Int32 × SS)) (v1 : Int32) (v2 : Int32) (v3 : Int32) (v4 : Int32) (v6 : Int32) (v7 : Int32) (v8 : Int32) (s0 : Int32) : Option (Int32 × SS) :=
  if v6 = 0 then rec s0 (0 : Int32) (v7 + (1 : Int32))
    else if v8 = 0 then rec s0 (1 : Int32) (v7 + (1 : Int32))
    else gd (inb v7 64) (ob (FX8_has σ (gA σ 31 (Int32.toNatClampNeg v7)) v1) (fun r19 => if r19 = 0 then rec s0 (1 : Int32) (v7 + (1 : Int32))
    else rec s0 (0 : Int32) (v7 + (1 : Int32))))
set_option maxRecDepth 100000 in
set_option maxHeartbeats 4000000 in
theorem PX8_settles_J121 {X : Bx} {g : Gx} {r : Int32} {σr : SS} {σ : SS} (hX : Okw wsM X g cX8_settles 9 RX8 (some .int) ({ frames := 4, cells := 0, slots := 0, locals := 91 } : Room) (fun g => some (.int r)) σr) {rec : Int32 → Int32 → Int32 → Option (Int32 × SS)} {v1 : Int32} {v2 : Int32} {v3 : Int32} {v4 : Int32} {v6 : Int32} {v7 : Int32} {v8 : Int32} {s0 : Int32} (hrec : ∀ (w5 : Int32) (w6 : Int32) (w7 : Int32), rec w5 w6 w7 = some (r, σr) → Vx X g.1 9 (wsM g σ) 60 [(0, .ref (g.2.1 0)), (1, .int v1), (2, .int v2), (3, .int v3), (4, .int v4), (5, .int w5), (6, .int w6), (7, .int w7)] []) (hf : FX8_settles_J121 σ rec v1 v2 v3 v4 v6 v7 v8 s0 = some (r, σr)) : Vx X g.1 9 (wsM g σ) 121 [(0, .ref (g.2.1 0)), (1, .int v1), (2, .int v2), (3, .int v3), (4, .int v4), (6, .int v6), (7, .int v7), (8, .int v8)] [.int s0] := by
  have h0 := hX.1
  rw [FX8_settles_J121] at hf
  refine vx_istore (ls' := [(5, .int s0), (0, .ref (g.2.1 0)), (1, .int v1), (2, .int v2), (3, .int v3), (4, .int v4), (6, .int v6), (7, .int v7), (8, .int v8)]) h0 dX8_settles_121 (by decide) rfl ?_
  refine vx_iload h0 dX8_settles_123 rfl ?_
  refine vx_if_eq (tgt := 151) h0 dX8_settles_125 (by decide) (fun c15 => ?_) (fun c15 => ?_)
  · replace hf := (if_pos c15).symm.trans hf
    refine vx_iconst (v := (0 : Int32)) h0 dX8_settles_151 (by decide) ?_
    refine vx_istore (ls' := [(6, .int (0 : Int32)), (5, .int s0), (0, .ref (g.2.1 0)), (1, .int v1), (2, .int v2), (3, .int v3), (4, .int v4), (7, .int v7), (8, .int v8)]) h0 dX8_settles_152 (by decide) rfl ?_
    refine vx_iinc (q := 7) (v := (v7 + (1 : Int32))) (ls' := [(7, .int (v7 + (1 : Int32))), (6, .int (0 : Int32)), (5, .int s0), (0, .ref (g.2.1 0)), (1, .int v1), (2, .int v2), (3, .int v3), (4, .int v4), (8, .int v8)]) h0 dX8_settles_154 rfl rfl (by decide) rfl ?_
    refine vx_goto (tgt := 60) h0 dX8_settles_157 (by decide) ?_
    refine vx_sub [3, 4, 5, 6, 7, 2, 1, 0] rfl ?_
    exact hrec _ _ _ hf
  · replace hf := (if_neg c15).symm.trans hf
    refine vx_iload h0 dX8_settles_128 rfl ?_
    refine vx_if_eq (tgt := 147) h0 dX8_settles_130 (by decide) (fun c16 => ?_) (fun c16 => ?_)
    · replace hf := (if_pos c16).symm.trans hf
      refine vx_iconst (v := (1 : Int32)) h0 dX8_settles_147 (by decide) ?_
      refine vx_goto (tgt := 152) h0 dX8_settles_148 (by decide) ?_
      refine vx_istore (ls' := [(6, .int (1 : Int32)), (5, .int s0), (0, .ref (g.2.1 0)), (1, .int v1), (2, .int v2), (3, .int v3), (4, .int v4), (7, .int v7), (8, .int v8)]) h0 dX8_settles_152 (by decide) rfl ?_
      refine vx_iinc (q := 7) (v := (v7 + (1 : Int32))) (ls' := [(7, .int (v7 + (1 : Int32))), (6, .int (1 : Int32)), (5, .int s0), (0, .ref (g.2.1 0)), (1, .int v1), (2, .int v2), (3, .int v3), (4, .int v4), (8, .int v8)]) h0 dX8_settles_154 rfl rfl (by decide) rfl ?_
      refine vx_goto (tgt := 60) h0 dX8_settles_157 (by decide) ?_
      refine vx_sub [3, 4, 5, 6, 7, 2, 1, 0] rfl ?_
      exact hrec _ _ _ hf
    · replace hf := (if_neg c16).symm.trans hf
      refine vx_aload_n h0 dX8_settles_133 rfl ?_
      refine mg_0_31 hX q815 dX8_settles_134 ?_
      refine vx_iload h0 dX8_settles_137 rfl ?_
      obtain ⟨b17, hf⟩ := gd_some hf
      refine ml_20 hX b17 dX8_settles_139 ?_
      refine vx_iload_n h0 dX8_settles_140 rfl ?_
      obtain ⟨r19, h18, hf⟩ := ob_some hf
      refine w_callS (st := []) hX (c_X8_has h18) ce_X8_has q927 ⟨rfl, rfl⟩ ⟨by decide, by decide⟩ rfl rfl rfl (Nat.le_of_ble_eq_true rfl) dX8_settles_141 ?_
      show Vx X g.1 9 (wsM g σ) 144 [(5, .int s0), (0, .ref (g.2.1 0)), (1, .int v1), (2, .int v2), (3, .int v3), (4, .int v4), (6, .int v6), (7, .int v7), (8, .int v8)] [.int r19]
      refine vx_if_ne (tgt := 151) h0 dX8_settles_144 (by decide) (fun c20 => ?_) (fun c20 => ?_)
      · replace hf := (if_neg c20).symm.trans hf
        refine vx_iconst (v := (0 : Int32)) h0 dX8_settles_151 (by decide) ?_
        refine vx_istore (ls' := [(6, .int (0 : Int32)), (5, .int s0), (0, .ref (g.2.1 0)), (1, .int v1), (2, .int v2), (3, .int v3), (4, .int v4), (7, .int v7), (8, .int v8)]) h0 dX8_settles_152 (by decide) rfl ?_
        refine vx_iinc (q := 7) (v := (v7 + (1 : Int32))) (ls' := [(7, .int (v7 + (1 : Int32))), (6, .int (0 : Int32)), (5, .int s0), (0, .ref (g.2.1 0)), (1, .int v1), (2, .int v2), (3, .int v3), (4, .int v4), (8, .int v8)]) h0 dX8_settles_154 rfl rfl (by decide) rfl ?_
        refine vx_goto (tgt := 60) h0 dX8_settles_157 (by decide) ?_
        refine vx_sub [3, 4, 5, 6, 7, 2, 1, 0] rfl ?_
        exact hrec _ _ _ hf
      · replace hf := (if_pos c20).symm.trans hf
        refine vx_iconst (v := (1 : Int32)) h0 dX8_settles_147 (by decide) ?_
        refine vx_goto (tgt := 152) h0 dX8_settles_148 (by decide) ?_
        refine vx_istore (ls' := [(6, .int (1 : Int32)), (5, .int s0), (0, .ref (g.2.1 0)), (1, .int v1), (2, .int v2), (3, .int v3), (4, .int v4), (7, .int v7), (8, .int v8)]) h0 dX8_settles_152 (by decide) rfl ?_
        refine vx_iinc (q := 7) (v := (v7 + (1 : Int32))) (ls' := [(7, .int (v7 + (1 : Int32))), (6, .int (1 : Int32)), (5, .int s0), (0, .ref (g.2.1 0)), (1, .int v1), (2, .int v2), (3, .int v3), (4, .int v4), (8, .int v8)]) h0 dX8_settles_154 rfl rfl (by decide) rfl ?_
        refine vx_goto (tgt := 60) h0 dX8_settles_157 (by decide) ?_
        refine vx_sub [3, 4, 5, 6, 7, 2, 1, 0] rfl ?_
        exact hrec _ _ _ hf
def FX8_settles_J120 (σ : SS) (rec : Int32 → Int32 → Int32 → Option (Int32 × SS)) (v1 : Int32) (v2 : Int32) (v3 : Int32) (v4 : Int32) (v6 : Int32) (v7 : Int32) (v8 : Int32) : Option (Int32 × SS) :=
  FX8_settles_J121 σ (fun a21 a22 a23 => rec a21 a22 a23) v1 v2 v3 v4 v6 v7 v8 (0 : Int32)
set_option maxRecDepth 100000 in
set_option maxHeartbeats 4000000 in
theorem PX8_settles_J120 {X : Bx} {g : Gx} {r : Int32} {σr : SS} {σ : SS} (hX : Okw wsM X g cX8_settles 9 RX8 (some .int) ({ frames := 4, cells := 0, slots := 0, locals := 91 } : Room) (fun g => some (.int r)) σr) {rec : Int32 → Int32 → Int32 → Option (Int32 × SS)} {v1 : Int32} {v2 : Int32} {v3 : Int32} {v4 : Int32} {v6 : Int32} {v7 : Int32} {v8 : Int32} (hrec : ∀ (w5 : Int32) (w6 : Int32) (w7 : Int32), rec w5 w6 w7 = some (r, σr) → Vx X g.1 9 (wsM g σ) 60 [(0, .ref (g.2.1 0)), (1, .int v1), (2, .int v2), (3, .int v3), (4, .int v4), (5, .int w5), (6, .int w6), (7, .int w7)] []) (hf : FX8_settles_J120 σ rec v1 v2 v3 v4 v6 v7 v8 = some (r, σr)) : Vx X g.1 9 (wsM g σ) 120 [(0, .ref (g.2.1 0)), (1, .int v1), (2, .int v2), (3, .int v3), (4, .int v4), (6, .int v6), (7, .int v7), (8, .int v8)] [] := by
  have h0 := hX.1
  rw [FX8_settles_J120] at hf
  refine vx_iconst (v := (0 : Int32)) h0 dX8_settles_120 (by decide) ?_
  exact PX8_settles_J121 hX (fun a21 a22 a23 hf => hrec a21 a22 a23 hf) hf
def FX8_settles_J116 (σ : SS) (rec : Int32 → Int32 → Int32 → Option (Int32 × SS)) (v1 : Int32) (v2 : Int32) (v3 : Int32) (v4 : Int32) (v6 : Int32) (v7 : Int32) (v8 : Int32) : Option (Int32 × SS) :=
  FX8_settles_J121 σ (fun a28 a29 a30 => rec a28 a29 a30) v1 v2 v3 v4 v6 v7 v8 (1 : Int32)
set_option maxRecDepth 100000 in
set_option maxHeartbeats 4000000 in
theorem PX8_settles_J116 {X : Bx} {g : Gx} {r : Int32} {σr : SS} {σ : SS} (hX : Okw wsM X g cX8_settles 9 RX8 (some .int) ({ frames := 4, cells := 0, slots := 0, locals := 91 } : Room) (fun g => some (.int r)) σr) {rec : Int32 → Int32 → Int32 → Option (Int32 × SS)} {v1 : Int32} {v2 : Int32} {v3 : Int32} {v4 : Int32} {v6 : Int32} {v7 : Int32} {v8 : Int32} (hrec : ∀ (w5 : Int32) (w6 : Int32) (w7 : Int32), rec w5 w6 w7 = some (r, σr) → Vx X g.1 9 (wsM g σ) 60 [(0, .ref (g.2.1 0)), (1, .int v1), (2, .int v2), (3, .int v3), (4, .int v4), (5, .int w5), (6, .int w6), (7, .int w7)] []) (hf : FX8_settles_J116 σ rec v1 v2 v3 v4 v6 v7 v8 = some (r, σr)) : Vx X g.1 9 (wsM g σ) 116 [(0, .ref (g.2.1 0)), (1, .int v1), (2, .int v2), (3, .int v3), (4, .int v4), (6, .int v6), (7, .int v7), (8, .int v8)] [] := by
  have h0 := hX.1
  rw [FX8_settles_J116] at hf
  refine vx_iconst (v := (1 : Int32)) h0 dX8_settles_116 (by decide) ?_
  refine vx_goto (tgt := 121) h0 dX8_settles_117 (by decide) ?_
  exact PX8_settles_J121 hX (fun a28 a29 a30 hf => hrec a28 a29 a30 hf) hf
def FX8_settles_J90 (σ : SS) (rec : Int32 → Int32 → Int32 → Option (Int32 × SS)) (v1 : Int32) (v2 : Int32) (v3 : Int32) (v4 : Int32) (v5 : Int32) (v6 : Int32) (v7 : Int32) (s0 : Int32) : Option (Int32 × SS) :=
  if v5 = 0 then FX8_settles_J120 σ (fun a24 a25 a26 => rec a24 a25 a26) v1 v2 v3 v4 v6 v7 s0
    else if s0 = 0 then FX8_settles_J116 σ (fun a31 a32 a33 => rec a31 a32 a33) v1 v2 v3 v4 v6 v7 s0
    else gd (inb v7 64) (ob (FX8_has σ (gA σ 31 (Int32.toNatClampNeg v7)) v1) (fun r36 => if r36 = 0 then FX8_settles_J120 σ (fun a38 a39 a40 => rec a38 a39 a40) v1 v2 v3 v4 v6 v7 s0
    else FX8_settles_J116 σ (fun a41 a42 a43 => rec a41 a42 a43) v1 v2 v3 v4 v6 v7 s0))
set_option maxRecDepth 100000 in
set_option maxHeartbeats 4000000 in
theorem PX8_settles_J90 {X : Bx} {g : Gx} {r : Int32} {σr : SS} {σ : SS} (hX : Okw wsM X g cX8_settles 9 RX8 (some .int) ({ frames := 4, cells := 0, slots := 0, locals := 91 } : Room) (fun g => some (.int r)) σr) {rec : Int32 → Int32 → Int32 → Option (Int32 × SS)} {v1 : Int32} {v2 : Int32} {v3 : Int32} {v4 : Int32} {v5 : Int32} {v6 : Int32} {v7 : Int32} {s0 : Int32} (hrec : ∀ (w5 : Int32) (w6 : Int32) (w7 : Int32), rec w5 w6 w7 = some (r, σr) → Vx X g.1 9 (wsM g σ) 60 [(0, .ref (g.2.1 0)), (1, .int v1), (2, .int v2), (3, .int v3), (4, .int v4), (5, .int w5), (6, .int w6), (7, .int w7)] []) (hf : FX8_settles_J90 σ rec v1 v2 v3 v4 v5 v6 v7 s0 = some (r, σr)) : Vx X g.1 9 (wsM g σ) 90 [(0, .ref (g.2.1 0)), (1, .int v1), (2, .int v2), (3, .int v3), (4, .int v4), (5, .int v5), (6, .int v6), (7, .int v7)] [.int s0] := by
  have h0 := hX.1
  rw [FX8_settles_J90] at hf
  refine vx_istore (ls' := [(8, .int s0), (0, .ref (g.2.1 0)), (1, .int v1), (2, .int v2), (3, .int v3), (4, .int v4), (5, .int v5), (6, .int v6), (7, .int v7)]) h0 dX8_settles_90 (by decide) rfl ?_
  refine vx_iload h0 dX8_settles_92 rfl ?_
  refine vx_if_eq (tgt := 120) h0 dX8_settles_94 (by decide) (fun c14 => ?_) (fun c14 => ?_)
  · replace hf := (if_pos c14).symm.trans hf
    refine vx_sub [1, 2, 3, 4, 5, 7, 8, 0] rfl ?_
    exact PX8_settles_J120 hX (fun a24 a25 a26 hf => hrec a24 a25 a26 hf) hf
  · replace hf := (if_neg c14).symm.trans hf
    refine vx_iload h0 dX8_settles_97 rfl ?_
    refine vx_if_eq (tgt := 116) h0 dX8_settles_99 (by decide) (fun c27 => ?_) (fun c27 => ?_)
    · replace hf := (if_pos c27).symm.trans hf
      refine vx_sub [1, 2, 3, 4, 5, 7, 8, 0] rfl ?_
      exact PX8_settles_J116 hX (fun a31 a32 a33 hf => hrec a31 a32 a33 hf) hf
    · replace hf := (if_neg c27).symm.trans hf
      refine vx_aload_n h0 dX8_settles_102 rfl ?_
      refine mg_0_31 hX q815 dX8_settles_103 ?_
      refine vx_iload h0 dX8_settles_106 rfl ?_
      obtain ⟨b34, hf⟩ := gd_some hf
      refine ml_20 hX b34 dX8_settles_108 ?_
      refine vx_iload_n h0 dX8_settles_109 rfl ?_
      obtain ⟨r36, h35, hf⟩ := ob_some hf
      refine w_callS (st := []) hX (c_X8_has h35) ce_X8_has q927 ⟨rfl, rfl⟩ ⟨by decide, by decide⟩ rfl rfl rfl (Nat.le_of_ble_eq_true rfl) dX8_settles_110 ?_
      show Vx X g.1 9 (wsM g σ) 113 [(8, .int s0), (0, .ref (g.2.1 0)), (1, .int v1), (2, .int v2), (3, .int v3), (4, .int v4), (5, .int v5), (6, .int v6), (7, .int v7)] [.int r36]
      refine vx_if_eq (tgt := 120) h0 dX8_settles_113 (by decide) (fun c37 => ?_) (fun c37 => ?_)
      · replace hf := (if_pos c37).symm.trans hf
        refine vx_sub [1, 2, 3, 4, 5, 7, 8, 0] rfl ?_
        exact PX8_settles_J120 hX (fun a38 a39 a40 hf => hrec a38 a39 a40 hf) hf
      · replace hf := (if_neg c37).symm.trans hf
        refine vx_sub [1, 2, 3, 4, 5, 7, 8, 0] rfl ?_
        exact PX8_settles_J116 hX (fun a41 a42 a43 hf => hrec a41 a42 a43 hf) hf
def FX8_settles_J89 (σ : SS) (rec : Int32 → Int32 → Int32 → Option (Int32 × SS)) (v1 : Int32) (v2 : Int32) (v3 : Int32) (v4 : Int32) (v5 : Int32) (v6 : Int32) (v7 : Int32) : Option (Int32 × SS) :=
  FX8_settles_J90 σ (fun a44 a45 a46 => rec a44 a45 a46) v1 v2 v3 v4 v5 v6 v7 (0 : Int32)
set_option maxRecDepth 100000 in
set_option maxHeartbeats 4000000 in
theorem PX8_settles_J89 {X : Bx} {g : Gx} {r : Int32} {σr : SS} {σ : SS} (hX : Okw wsM X g cX8_settles 9 RX8 (some .int) ({ frames := 4, cells := 0, slots := 0, locals := 91 } : Room) (fun g => some (.int r)) σr) {rec : Int32 → Int32 → Int32 → Option (Int32 × SS)} {v1 : Int32} {v2 : Int32} {v3 : Int32} {v4 : Int32} {v5 : Int32} {v6 : Int32} {v7 : Int32} (hrec : ∀ (w5 : Int32) (w6 : Int32) (w7 : Int32), rec w5 w6 w7 = some (r, σr) → Vx X g.1 9 (wsM g σ) 60 [(0, .ref (g.2.1 0)), (1, .int v1), (2, .int v2), (3, .int v3), (4, .int v4), (5, .int w5), (6, .int w6), (7, .int w7)] []) (hf : FX8_settles_J89 σ rec v1 v2 v3 v4 v5 v6 v7 = some (r, σr)) : Vx X g.1 9 (wsM g σ) 89 [(0, .ref (g.2.1 0)), (1, .int v1), (2, .int v2), (3, .int v3), (4, .int v4), (5, .int v5), (6, .int v6), (7, .int v7)] [] := by
  have h0 := hX.1
  rw [FX8_settles_J89] at hf
  refine vx_iconst (v := (0 : Int32)) h0 dX8_settles_89 (by decide) ?_
  exact PX8_settles_J90 hX (fun a44 a45 a46 hf => hrec a44 a45 a46 hf) hf
def FX8_settles_L60 (σ : SS) (v1 : Int32) (v2 : Int32) (v3 : Int32) (v4 : Int32) (k : Int32 → Int32 → Option (Int32 × SS)) : Nat → Int32 → Int32 → Int32 → Option (Int32 × SS)
  | 0, _, _, _ => none
  | n + 1, v5, v6, v7 => if (64 : Int32) ≤ v7 then k v5 v6
    else ob (FX8_canBe σ v7) (fun r12 => if r12 = 0 then FX8_settles_J89 σ (fun a47 a48 a49 => FX8_settles_L60 σ v1 v2 v3 v4 k n a47 a48 a49) v1 v2 v3 v4 v5 v6 v7
    else if (v7 &&& v3) = v4 then FX8_settles_J90 σ (fun a54 a55 a56 => FX8_settles_L60 σ v1 v2 v3 v4 k n a54 a55 a56) v1 v2 v3 v4 v5 v6 v7 (1 : Int32)
    else FX8_settles_J89 σ (fun a51 a52 a53 => FX8_settles_L60 σ v1 v2 v3 v4 k n a51 a52 a53) v1 v2 v3 v4 v5 v6 v7)
set_option maxRecDepth 100000 in
set_option maxHeartbeats 4000000 in
theorem PX8_settles_L60 {X : Bx} {g : Gx} {r : Int32} {σr : SS} {σ : SS} (hX : Okw wsM X g cX8_settles 9 RX8 (some .int) ({ frames := 4, cells := 0, slots := 0, locals := 91 } : Room) (fun g => some (.int r)) σr) {v1 : Int32} {v2 : Int32} {v3 : Int32} {v4 : Int32} {k : Int32 → Int32 → Option (Int32 × SS)} (hk : ∀ (v5 : Int32) (v6 : Int32), k v5 v6 = some (r, σr) → Vx X g.1 9 (wsM g σ) 160 [(0, .ref (g.2.1 0)), (1, .int v1), (2, .int v2), (3, .int v3), (4, .int v4), (5, .int v5), (6, .int v6)] []) : ∀ (n : Nat) (v5 : Int32) (v6 : Int32) (v7 : Int32), FX8_settles_L60 σ v1 v2 v3 v4 k n v5 v6 v7 = some (r, σr) → Vx X g.1 9 (wsM g σ) 60 [(0, .ref (g.2.1 0)), (1, .int v1), (2, .int v2), (3, .int v3), (4, .int v4), (5, .int v5), (6, .int v6), (7, .int v7)] [] := by
  have h0 := hX.1
  intro n
  induction n with
  | zero =>
    intro v5 v6 v7 hf
    rw [FX8_settles_L60] at hf
    cases hf
  | succ n ih =>
    intro v5 v6 v7 hf
    rw [FX8_settles_L60] at hf
    refine vx_iload h0 dX8_settles_60 rfl ?_
    refine vx_bipush (v := (64 : Int32)) h0 dX8_settles_62 (by decide) ?_
    refine vx_icmp_ge (tgt := 160) h0 dX8_settles_64 (by decide) (fun c10 => ?_) (fun c10 => ?_)
    · replace hf := (if_pos c10).symm.trans hf
      refine vx_sub [0, 1, 2, 3, 4, 5, 6] rfl ?_
      exact hk _ _ hf
    · replace hf := (if_neg c10).symm.trans hf
      refine vx_aload_n h0 dX8_settles_67 rfl ?_
      refine vx_iload h0 dX8_settles_68 rfl ?_
      obtain ⟨r12, h11, hf⟩ := ob_some hf
      refine w_callV (st := []) (ci := 8) (q0 := 0) hX (c_X8_canBe h11) ce_X8_canBe q1013 ⟨rfl, rfl⟩ ⟨by decide, by decide⟩ rfl rfl rfl rfl (mo_0 g _) rfl (Nat.le_of_ble_eq_true rfl) dX8_settles_70 ?_
      show Vx X g.1 9 (wsM g σ) 73 [(0, .ref (g.2.1 0)), (1, .int v1), (2, .int v2), (3, .int v3), (4, .int v4), (5, .int v5), (6, .int v6), (7, .int v7)] [.int r12]
      refine vx_if_eq (tgt := 89) h0 dX8_settles_73 (by decide) (fun c13 => ?_) (fun c13 => ?_)
      · replace hf := (if_pos c13).symm.trans hf
        exact PX8_settles_J89 hX (fun a47 a48 a49 hf => ih a47 a48 a49 hf) hf
      · replace hf := (if_neg c13).symm.trans hf
        refine vx_iload h0 dX8_settles_76 rfl ?_
        refine vx_iload_n h0 dX8_settles_78 rfl ?_
        refine vx_iand h0 dX8_settles_79 ?_
        refine vx_iload h0 dX8_settles_80 rfl ?_
        refine vx_icmp_ne (tgt := 89) h0 dX8_settles_82 (by decide) (fun c50 => ?_) (fun c50 => ?_)
        · replace hf := (if_neg c50).symm.trans hf
          exact PX8_settles_J89 hX (fun a51 a52 a53 hf => ih a51 a52 a53 hf) hf
        · replace hf := (if_pos c50).symm.trans hf
          refine vx_iconst (v := (1 : Int32)) h0 dX8_settles_85 (by decide) ?_
          refine vx_goto (tgt := 90) h0 dX8_settles_86 (by decide) ?_
          exact PX8_settles_J90 hX (fun a54 a55 a56 hf => ih a54 a55 a56 hf) hf
def FX8_settles_J170 (σ : SS) (rec : Int32 → Int32 → Option (Int32 × SS)) (v1 : Int32) (v3 : Int32) (v4 : Int32) : Option (Int32 × SS) :=
  ob (FX8_ones σ v3) (fun r61 => rec r61 (v4 + (1 : Int32)))
set_option maxRecDepth 100000 in
set_option maxHeartbeats 4000000 in
theorem PX8_settles_J170 {X : Bx} {g : Gx} {r : Int32} {σr : SS} {σ : SS} (hX : Okw wsM X g cX8_settles 9 RX8 (some .int) ({ frames := 4, cells := 0, slots := 0, locals := 91 } : Room) (fun g => some (.int r)) σr) {rec : Int32 → Int32 → Option (Int32 × SS)} {v1 : Int32} {v3 : Int32} {v4 : Int32} (hrec : ∀ (w2 : Int32) (w4 : Int32), rec w2 w4 = some (r, σr) → Vx X g.1 9 (wsM g σ) 18 [(0, .ref (g.2.1 0)), (1, .int v1), (2, .int w2), (3, .int v3), (4, .int w4)] []) (hf : FX8_settles_J170 σ rec v1 v3 v4 = some (r, σr)) : Vx X g.1 9 (wsM g σ) 170 [(0, .ref (g.2.1 0)), (1, .int v1), (3, .int v3), (4, .int v4)] [] := by
  have h0 := hX.1
  rw [FX8_settles_J170] at hf
  refine vx_iload_n h0 dX8_settles_170 rfl ?_
  obtain ⟨r61, h60, hf⟩ := ob_some hf
  refine w_callS (st := []) hX (c_X8_ones h60) ce_X8_ones q985 ⟨rfl, rfl⟩ ⟨by decide, by decide⟩ rfl rfl rfl (Nat.le_of_ble_eq_true rfl) dX8_settles_171 ?_
  show Vx X g.1 9 (wsM g σ) 174 [(0, .ref (g.2.1 0)), (1, .int v1), (3, .int v3), (4, .int v4)] [.int r61]
  refine vx_goto (tgt := 178) h0 dX8_settles_174 (by decide) ?_
  refine vx_istore_n (ls' := [(2, .int r61), (0, .ref (g.2.1 0)), (1, .int v1), (3, .int v3), (4, .int v4)]) h0 dX8_settles_178 (by decide) rfl ?_
  refine vx_iinc (q := 4) (v := (v4 + (1 : Int32))) (ls' := [(4, .int (v4 + (1 : Int32))), (2, .int r61), (0, .ref (g.2.1 0)), (1, .int v1), (3, .int v3)]) h0 dX8_settles_179 rfl rfl (by decide) rfl ?_
  refine vx_goto (tgt := 18) h0 dX8_settles_182 (by decide) ?_
  refine vx_sub [2, 3, 1, 4, 0] rfl ?_
  exact hrec _ _ hf
def FX8_settles_L18 (σ : SS) (v1 : Int32) (v3 : Int32) (k : Int32 → Option (Int32 × SS)) : Nat → Int32 → Int32 → Option (Int32 × SS)
  | 0, _, _ => none
  | n + 1, v2, v4 => if (64 : Int32) ≤ v4 then k v2
    else if (v3 &&& (gI σ 24)) = 0 then if (v4 &&& (v3 ^^^ (-1 : Int32))) = 0 then ob (FX8_ones σ v3) (fun r8 => if v2 ≤ r8 then FX8_settles_L18 σ v1 v3 k n v2 (v4 + (1 : Int32))
    else FX8_settles_L60 σ v1 v2 v3 v4 (fun u57 u58 => if u57 = 0 then if u58 = 0 then FX8_settles_L18 σ v1 v3 k n v2 (v4 + (1 : Int32))
    else FX8_settles_J170 σ (fun a65 a66 => FX8_settles_L18 σ v1 v3 k n a65 a66) v1 v3 v4
    else FX8_settles_J170 σ (fun a62 a63 => FX8_settles_L18 σ v1 v3 k n a62 a63) v1 v3 v4) 5000 (1 : Int32) (1 : Int32) (0 : Int32))
    else FX8_settles_L18 σ v1 v3 k n v2 (v4 + (1 : Int32))
    else FX8_settles_L18 σ v1 v3 k n v2 (v4 + (1 : Int32))
set_option maxRecDepth 100000 in
set_option maxHeartbeats 4000000 in
theorem PX8_settles_L18 {X : Bx} {g : Gx} {r : Int32} {σr : SS} {σ : SS} (hX : Okw wsM X g cX8_settles 9 RX8 (some .int) ({ frames := 4, cells := 0, slots := 0, locals := 91 } : Room) (fun g => some (.int r)) σr) {v1 : Int32} {v3 : Int32} {k : Int32 → Option (Int32 × SS)} (hk : ∀ (v2 : Int32), k v2 = some (r, σr) → Vx X g.1 9 (wsM g σ) 185 [(0, .ref (g.2.1 0)), (1, .int v1), (2, .int v2), (3, .int v3)] []) : ∀ (n : Nat) (v2 : Int32) (v4 : Int32), FX8_settles_L18 σ v1 v3 k n v2 v4 = some (r, σr) → Vx X g.1 9 (wsM g σ) 18 [(0, .ref (g.2.1 0)), (1, .int v1), (2, .int v2), (3, .int v3), (4, .int v4)] [] := by
  have h0 := hX.1
  intro n
  induction n with
  | zero =>
    intro v2 v4 hf
    rw [FX8_settles_L18] at hf
    cases hf
  | succ n ih =>
    intro v2 v4 hf
    rw [FX8_settles_L18] at hf
    refine vx_iload h0 dX8_settles_18 rfl ?_
    refine vx_bipush (v := (64 : Int32)) h0 dX8_settles_20 (by decide) ?_
    refine vx_icmp_ge (tgt := 185) h0 dX8_settles_22 (by decide) (fun c4 => ?_) (fun c4 => ?_)
    · replace hf := (if_pos c4).symm.trans hf
      refine vx_sub [0, 1, 2, 3] rfl ?_
      exact hk _ hf
    · replace hf := (if_neg c4).symm.trans hf
      refine vx_iload_n h0 dX8_settles_25 rfl ?_
      refine vx_aload_n h0 dX8_settles_26 rfl ?_
      refine mg_0_24 hX q808 dX8_settles_27 ?_
      refine vx_iand h0 dX8_settles_30 ?_
      refine vx_if_ne (tgt := 179) h0 dX8_settles_31 (by decide) (fun c5 => ?_) (fun c5 => ?_)
      · replace hf := (if_neg c5).symm.trans hf
        refine vx_iinc (q := 4) (v := (v4 + (1 : Int32))) (ls' := [(4, .int (v4 + (1 : Int32))), (0, .ref (g.2.1 0)), (1, .int v1), (2, .int v2), (3, .int v3)]) h0 dX8_settles_179 rfl rfl (by decide) rfl ?_
        refine vx_goto (tgt := 18) h0 dX8_settles_182 (by decide) ?_
        refine vx_sub [1, 2, 3, 4, 0] rfl ?_
        exact ih _ _ hf
      · replace hf := (if_pos c5).symm.trans hf
        refine vx_iload h0 dX8_settles_34 rfl ?_
        refine vx_iload_n h0 dX8_settles_36 rfl ?_
        refine vx_iconst (v := (-1 : Int32)) h0 dX8_settles_37 (by decide) ?_
        refine vx_ixor h0 dX8_settles_38 ?_
        refine vx_iand h0 dX8_settles_39 ?_
        refine vx_if_ne (tgt := 179) h0 dX8_settles_40 (by decide) (fun c6 => ?_) (fun c6 => ?_)
        · replace hf := (if_neg c6).symm.trans hf
          refine vx_iinc (q := 4) (v := (v4 + (1 : Int32))) (ls' := [(4, .int (v4 + (1 : Int32))), (0, .ref (g.2.1 0)), (1, .int v1), (2, .int v2), (3, .int v3)]) h0 dX8_settles_179 rfl rfl (by decide) rfl ?_
          refine vx_goto (tgt := 18) h0 dX8_settles_182 (by decide) ?_
          refine vx_sub [1, 2, 3, 4, 0] rfl ?_
          exact ih _ _ hf
        · replace hf := (if_pos c6).symm.trans hf
          refine vx_iload_n h0 dX8_settles_43 rfl ?_
          obtain ⟨r8, h7, hf⟩ := ob_some hf
          refine w_callS (st := []) hX (c_X8_ones h7) ce_X8_ones q985 ⟨rfl, rfl⟩ ⟨by decide, by decide⟩ rfl rfl rfl (Nat.le_of_ble_eq_true rfl) dX8_settles_44 ?_
          show Vx X g.1 9 (wsM g σ) 47 [(0, .ref (g.2.1 0)), (1, .int v1), (2, .int v2), (3, .int v3), (4, .int v4)] [.int r8]
          refine vx_iload_n h0 dX8_settles_47 rfl ?_
          refine vx_icmp_ge (tgt := 179) h0 dX8_settles_48 (by decide) (fun c9 => ?_) (fun c9 => ?_)
          · replace hf := (if_pos c9).symm.trans hf
            refine vx_iinc (q := 4) (v := (v4 + (1 : Int32))) (ls' := [(4, .int (v4 + (1 : Int32))), (0, .ref (g.2.1 0)), (1, .int v1), (2, .int v2), (3, .int v3)]) h0 dX8_settles_179 rfl rfl (by decide) rfl ?_
            refine vx_goto (tgt := 18) h0 dX8_settles_182 (by decide) ?_
            refine vx_sub [1, 2, 3, 4, 0] rfl ?_
            exact ih _ _ hf
          · replace hf := (if_neg c9).symm.trans hf
            refine vx_iconst (v := (1 : Int32)) h0 dX8_settles_51 (by decide) ?_
            refine vx_istore (ls' := [(5, .int (1 : Int32)), (0, .ref (g.2.1 0)), (1, .int v1), (2, .int v2), (3, .int v3), (4, .int v4)]) h0 dX8_settles_52 (by decide) rfl ?_
            refine vx_iconst (v := (1 : Int32)) h0 dX8_settles_54 (by decide) ?_
            refine vx_istore (ls' := [(6, .int (1 : Int32)), (5, .int (1 : Int32)), (0, .ref (g.2.1 0)), (1, .int v1), (2, .int v2), (3, .int v3), (4, .int v4)]) h0 dX8_settles_55 (by decide) rfl ?_
            refine vx_iconst (v := (0 : Int32)) h0 dX8_settles_57 (by decide) ?_
            refine vx_istore (ls' := [(7, .int (0 : Int32)), (6, .int (1 : Int32)), (5, .int (1 : Int32)), (0, .ref (g.2.1 0)), (1, .int v1), (2, .int v2), (3, .int v3), (4, .int v4)]) h0 dX8_settles_58 (by decide) rfl ?_
            refine vx_sub [3, 4, 5, 6, 7, 2, 1, 0] rfl ?_
            refine PX8_settles_L60 hX (fun u57 u58 hf => ?_) _ _ _ _ hf
            refine vx_iload h0 dX8_settles_160 rfl ?_
            refine vx_if_ne (tgt := 170) h0 dX8_settles_162 (by decide) (fun c59 => ?_) (fun c59 => ?_)
            · replace hf := (if_neg c59).symm.trans hf
              refine vx_sub [0, 1, 3, 4] rfl ?_
              exact PX8_settles_J170 hX (fun a62 a63 hf => ih a62 a63 hf) hf
            · replace hf := (if_pos c59).symm.trans hf
              refine vx_iload h0 dX8_settles_165 rfl ?_
              refine vx_if_eq (tgt := 177) h0 dX8_settles_167 (by decide) (fun c64 => ?_) (fun c64 => ?_)
              · replace hf := (if_pos c64).symm.trans hf
                refine vx_iload_n h0 dX8_settles_177 rfl ?_
                refine vx_istore_n (ls' := [(2, .int v2), (0, .ref (g.2.1 0)), (1, .int v1), (3, .int v3), (4, .int v4), (5, .int u57), (6, .int u58)]) h0 dX8_settles_178 (by decide) rfl ?_
                refine vx_iinc (q := 4) (v := (v4 + (1 : Int32))) (ls' := [(4, .int (v4 + (1 : Int32))), (2, .int v2), (0, .ref (g.2.1 0)), (1, .int v1), (3, .int v3), (5, .int u57), (6, .int u58)]) h0 dX8_settles_179 rfl rfl (by decide) rfl ?_
                refine vx_goto (tgt := 18) h0 dX8_settles_182 (by decide) ?_
                refine vx_sub [2, 3, 1, 4, 0] rfl ?_
                exact ih _ _ hf
              · replace hf := (if_neg c64).symm.trans hf
                refine vx_sub [0, 1, 3, 4] rfl ?_
                exact PX8_settles_J170 hX (fun a65 a66 hf => ih a65 a66 hf) hf
def FX8_settles_L9 (σ : SS) (v1 : Int32) (k : Int32 → Option (Int32 × SS)) : Nat → Int32 → Int32 → Option (Int32 × SS)
  | 0, _, _ => none
  | n + 1, v2, v3 => if (64 : Int32) ≤ v3 then k v2
    else FX8_settles_L18 σ v1 v3 (fun u67 => FX8_settles_L9 σ v1 k n u67 (v3 + (1 : Int32))) 5000 v2 (0 : Int32)
set_option maxRecDepth 100000 in
set_option maxHeartbeats 4000000 in
theorem PX8_settles_L9 {X : Bx} {g : Gx} {r : Int32} {σr : SS} {σ : SS} (hX : Okw wsM X g cX8_settles 9 RX8 (some .int) ({ frames := 4, cells := 0, slots := 0, locals := 91 } : Room) (fun g => some (.int r)) σr) {v1 : Int32} {k : Int32 → Option (Int32 × SS)} (hk : ∀ (v2 : Int32), k v2 = some (r, σr) → Vx X g.1 9 (wsM g σ) 191 [(2, .int v2)] []) : ∀ (n : Nat) (v2 : Int32) (v3 : Int32), FX8_settles_L9 σ v1 k n v2 v3 = some (r, σr) → Vx X g.1 9 (wsM g σ) 9 [(0, .ref (g.2.1 0)), (1, .int v1), (2, .int v2), (3, .int v3)] [] := by
  have h0 := hX.1
  intro n
  induction n with
  | zero =>
    intro v2 v3 hf
    rw [FX8_settles_L9] at hf
    cases hf
  | succ n ih =>
    intro v2 v3 hf
    rw [FX8_settles_L9] at hf
    refine vx_iload_n h0 dX8_settles_9 rfl ?_
    refine vx_bipush (v := (64 : Int32)) h0 dX8_settles_10 (by decide) ?_
    refine vx_icmp_ge (tgt := 191) h0 dX8_settles_12 (by decide) (fun c3 => ?_) (fun c3 => ?_)
    · replace hf := (if_pos c3).symm.trans hf
      refine vx_sub [2] rfl ?_
      exact hk _ hf
    · replace hf := (if_neg c3).symm.trans hf
      refine vx_iconst (v := (0 : Int32)) h0 dX8_settles_15 (by decide) ?_
      refine vx_istore (ls' := [(4, .int (0 : Int32)), (0, .ref (g.2.1 0)), (1, .int v1), (2, .int v2), (3, .int v3)]) h0 dX8_settles_16 (by decide) rfl ?_
      refine vx_sub [1, 2, 3, 4, 0] rfl ?_
      refine PX8_settles_L18 hX (fun u67 hf => ?_) _ _ _ hf
      refine vx_iinc (q := 3) (v := (v3 + (1 : Int32))) (ls' := [(3, .int (v3 + (1 : Int32))), (0, .ref (g.2.1 0)), (1, .int v1), (2, .int u67)]) h0 dX8_settles_185 rfl rfl (by decide) rfl ?_
      refine vx_goto (tgt := 9) h0 dX8_settles_188 (by decide) ?_
      refine vx_sub [1, 2, 3, 0] rfl ?_
      exact ih _ _ hf
def FX8_settles (σ : SS) (a0 : Int32) : Option (Int32 × SS) :=
  ob (FX8_forces σ) (fun σ2 => FX8_settles_L9 σ2 a0 (fun u68 => some (u68, σ2)) 5000 (6 : Int32) (0 : Int32))
set_option maxRecDepth 100000 in
set_option maxHeartbeats 4000000 in
theorem c_X8_settles {σ : SS} {a0 : Int32} {r : Int32} {σr : SS} (hf : FX8_settles σ a0 = some (r, σr)) : Mcw wsM yX8_settles cX8_settles 9 (some .int) ({ frames := 4, cells := 0, slots := 0, locals := 91 } : Room) (fun g => [.ref (g.2.1 0), .int a0]) σ (fun g => some (.int r)) σr := by
  refine w_enter wsM_fix (by decide) (fun g => Nat.le_of_ble_eq_true rfl) ?_
  intro X g hX
  replace hX : Okw wsM X g cX8_settles 9 RX8 (some .int) ({ frames := 4, cells := 0, slots := 0, locals := 91 } : Room) (fun g => some (.int r)) σr := hX
  have h0 := hX.1
  show Vx X g.1 9 (wsM g σ) 0 [(0, .ref (g.2.1 0)), (1, .int a0)] []
  rw [FX8_settles] at hf
  refine vx_bipush (v := (6 : Int32)) h0 dX8_settles_0 (by decide) ?_
  refine vx_istore_n (ls' := [(2, .int (6 : Int32)), (0, .ref (g.2.1 0)), (1, .int a0)]) h0 dX8_settles_2 (by decide) rfl ?_
  refine vx_aload_n h0 dX8_settles_3 rfl ?_
  obtain ⟨σ2, h1, hf⟩ := ob_some hf
  refine w_callV (st := []) (ci := 8) (q0 := 0) hX (c_X8_forces h1) ce_X8_forces q1009 ⟨rfl, rfl⟩ ⟨by decide, by decide⟩ rfl rfl rfl rfl (mo_0 g _) rfl (Nat.le_of_ble_eq_true rfl) dX8_settles_4 ?_
  show Vx X g.1 9 (wsM g σ2) 7 [(2, .int (6 : Int32)), (0, .ref (g.2.1 0)), (1, .int a0)] []
  refine vx_iconst (v := (0 : Int32)) h0 dX8_settles_7 (by decide) ?_
  refine vx_istore_n (ls' := [(3, .int (0 : Int32)), (2, .int (6 : Int32)), (0, .ref (g.2.1 0)), (1, .int a0)]) h0 dX8_settles_8 (by decide) rfl ?_
  refine vx_sub [2, 3, 1, 0] rfl ?_
  refine PX8_settles_L9 hX (fun u68 hf => ?_) _ _ _ hf
  refine vx_iload_n h0 dX8_settles_191 rfl ?_
  exact w_iretE hX hf dX8_settles_192
def FX8_depthOf_L9 (σ : SS) (k : Int32 → Option (Int32)) : Nat → Int32 → Int32 → Option (Int32)
  | 0, _, _ => none
  | n + 1, v2, v3 => if v3 = (-1 : Int32) then k v2
    else gd (inb v3 16) (FX8_depthOf_L9 σ k n (v2 + (1 : Int32)) (gA σ 4 (Int32.toNatClampNeg v3)))
set_option maxRecDepth 100000 in
set_option maxHeartbeats 4000000 in
theorem PX8_depthOf_L9 {X : Bx} {g : Gx} {r : Int32} {σ : SS} (hX : Okw wsM X g cX8_depthOf 4 RX8 (some .int) ({ frames := 0, cells := 0, slots := 0, locals := 0 } : Room) (fun g => some (.int r)) σ) {k : Int32 → Option (Int32)} (hk : ∀ (v2 : Int32), k v2 = some r → Vx X g.1 4 (wsM g σ) 27 [(2, .int v2)] []) : ∀ (n : Nat) (v2 : Int32) (v3 : Int32), FX8_depthOf_L9 σ k n v2 v3 = some r → Vx X g.1 4 (wsM g σ) 9 [(0, .ref (g.2.1 0)), (2, .int v2), (3, .int v3)] [] := by
  have h0 := hX.1
  intro n
  induction n with
  | zero =>
    intro v2 v3 hf
    rw [FX8_depthOf_L9] at hf
    cases hf
  | succ n ih =>
    intro v2 v3 hf
    rw [FX8_depthOf_L9] at hf
    refine vx_iload_n h0 dX8_depthOf_9 rfl ?_
    refine vx_iconst (v := (-1 : Int32)) h0 dX8_depthOf_10 (by decide) ?_
    refine vx_icmp_eq (tgt := 27) h0 dX8_depthOf_11 (by decide) (fun c2 => ?_) (fun c2 => ?_)
    · replace hf := (if_pos c2).symm.trans hf
      refine vx_sub [1] rfl ?_
      exact hk _ hf
    · replace hf := (if_neg c2).symm.trans hf
      refine vx_iinc (q := 1) (v := (v2 + (1 : Int32))) (ls' := [(2, .int (v2 + (1 : Int32))), (0, .ref (g.2.1 0)), (3, .int v3)]) h0 dX8_depthOf_14 rfl rfl (by decide) rfl ?_
      refine vx_aload_n h0 dX8_depthOf_17 rfl ?_
      refine mg_0_4 hX q788 dX8_depthOf_18 ?_
      refine vx_iload_n h0 dX8_depthOf_21 rfl ?_
      obtain ⟨b3, hf⟩ := gd_some hf
      refine ml_2 hX b3 dX8_depthOf_22 ?_
      refine vx_istore_n (ls' := [(3, .int (gA σ 4 (Int32.toNatClampNeg v3))), (2, .int (v2 + (1 : Int32))), (0, .ref (g.2.1 0))]) h0 dX8_depthOf_23 (by decide) rfl ?_
      refine vx_goto (tgt := 9) h0 dX8_depthOf_24 (by decide) ?_
      refine vx_sub [2, 1, 0] rfl ?_
      exact ih _ _ hf
def FX8_depthOf (σ : SS) (a0 : Int32) : Option (Int32) :=
  gd (inb a0 16) (FX8_depthOf_L9 σ (fun u4 => some u4) 5000 (0 : Int32) (gA σ 4 (Int32.toNatClampNeg a0)))
set_option maxRecDepth 100000 in
set_option maxHeartbeats 4000000 in
theorem c_X8_depthOf {σ : SS} {a0 : Int32} {r : Int32} (hf : FX8_depthOf σ a0 = some r) : Mcw wsM yX8_depthOf cX8_depthOf 4 (some .int) ({ frames := 0, cells := 0, slots := 0, locals := 0 } : Room) (fun g => [.ref (g.2.1 0), .int a0]) σ (fun g => some (.int r)) σ := by
  refine w_enter wsM_fix (by decide) (fun g => Nat.le_of_ble_eq_true rfl) ?_
  intro X g hX
  replace hX : Okw wsM X g cX8_depthOf 4 RX8 (some .int) ({ frames := 0, cells := 0, slots := 0, locals := 0 } : Room) (fun g => some (.int r)) σ := hX
  have h0 := hX.1
  show Vx X g.1 4 (wsM g σ) 0 [(0, .ref (g.2.1 0)), (1, .int a0)] []
  rw [FX8_depthOf] at hf
  refine vx_iconst (v := (0 : Int32)) h0 dX8_depthOf_0 (by decide) ?_
  refine vx_istore_n (ls' := [(2, .int (0 : Int32)), (0, .ref (g.2.1 0)), (1, .int a0)]) h0 dX8_depthOf_1 (by decide) rfl ?_
  refine vx_aload_n h0 dX8_depthOf_2 rfl ?_
  refine mg_0_4 hX q788 dX8_depthOf_3 ?_
  refine vx_iload_n h0 dX8_depthOf_6 rfl ?_
  obtain ⟨b1, hf⟩ := gd_some hf
  refine ml_2 hX b1 dX8_depthOf_7 ?_
  refine vx_istore_n (ls' := [(3, .int (gA σ 4 (Int32.toNatClampNeg a0))), (2, .int (0 : Int32)), (0, .ref (g.2.1 0)), (1, .int a0)]) h0 dX8_depthOf_8 (by decide) rfl ?_
  refine vx_sub [2, 1, 0] rfl ?_
  refine PX8_depthOf_L9 hX (fun u4 hf => ?_) _ _ _ hf
  refine vx_iload_n h0 dX8_depthOf_27 rfl ?_
  exact w_iretP hX hf dX8_depthOf_28
def FX8_placeOf_L5 (σ : SS) (v1 : Int32) (v2 : Int32) (k : Int32 → Option (Int32)) : Nat → Int32 → Int32 → Option (Int32)
  | 0, _, _ => none
  | n + 1, v3, v4 => if v2 ≤ v4 then k v3
    else ob (FX8_has σ v1 v4) (fun r3 => if r3 = 0 then FX8_placeOf_L5 σ v1 v2 k n (v3 + (0 : Int32)) (v4 + (1 : Int32))
    else gd (inb v4 16) (gd (inb v2 16) (if (gA σ 4 (Int32.toNatClampNeg v4)) = (gA σ 4 (Int32.toNatClampNeg v2)) then FX8_placeOf_L5 σ v1 v2 k n (v3 + (1 : Int32)) (v4 + (1 : Int32))
    else FX8_placeOf_L5 σ v1 v2 k n (v3 + (0 : Int32)) (v4 + (1 : Int32)))))
set_option maxRecDepth 100000 in
set_option maxHeartbeats 4000000 in
theorem PX8_placeOf_L5 {X : Bx} {g : Gx} {r : Int32} {σ : SS} (hX : Okw wsM X g cX8_placeOf 5 RX8 (some .int) ({ frames := 1, cells := 0, slots := 0, locals := 21 } : Room) (fun g => some (.int r)) σ) {v1 : Int32} {v2 : Int32} {k : Int32 → Option (Int32)} (hk : ∀ (v3 : Int32), k v3 = some r → Vx X g.1 5 (wsM g σ) 50 [(3, .int v3)] []) : ∀ (n : Nat) (v3 : Int32) (v4 : Int32), FX8_placeOf_L5 σ v1 v2 k n v3 v4 = some r → Vx X g.1 5 (wsM g σ) 5 [(0, .ref (g.2.1 0)), (1, .int v1), (2, .int v2), (3, .int v3), (4, .int v4)] [] := by
  have h0 := hX.1
  intro n
  induction n with
  | zero =>
    intro v3 v4 hf
    rw [FX8_placeOf_L5] at hf
    cases hf
  | succ n ih =>
    intro v3 v4 hf
    rw [FX8_placeOf_L5] at hf
    refine vx_iload h0 dX8_placeOf_5 rfl ?_
    refine vx_iload_n h0 dX8_placeOf_7 rfl ?_
    refine vx_icmp_ge (tgt := 50) h0 dX8_placeOf_8 (by decide) (fun c1 => ?_) (fun c1 => ?_)
    · replace hf := (if_pos c1).symm.trans hf
      refine vx_sub [3] rfl ?_
      exact hk _ hf
    · replace hf := (if_neg c1).symm.trans hf
      refine vx_iload_n h0 dX8_placeOf_11 rfl ?_
      refine vx_iload_n h0 dX8_placeOf_12 rfl ?_
      refine vx_iload h0 dX8_placeOf_13 rfl ?_
      obtain ⟨r3, h2, hf⟩ := ob_some hf
      refine w_callS (st := [.int v3]) hX (c_X8_has h2) ce_X8_has q927 ⟨rfl, rfl⟩ ⟨by decide, by decide⟩ rfl rfl rfl (Nat.le_of_ble_eq_true rfl) dX8_placeOf_15 ?_
      show Vx X g.1 5 (wsM g σ) 18 [(0, .ref (g.2.1 0)), (1, .int v1), (2, .int v2), (3, .int v3), (4, .int v4)] [.int r3, .int v3]
      refine vx_if_eq (tgt := 41) h0 dX8_placeOf_18 (by decide) (fun c4 => ?_) (fun c4 => ?_)
      · replace hf := (if_pos c4).symm.trans hf
        refine vx_iconst (v := (0 : Int32)) h0 dX8_placeOf_41 (by decide) ?_
        refine vx_iadd h0 dX8_placeOf_42 ?_
        refine vx_istore_n (ls' := [(3, .int (v3 + (0 : Int32))), (0, .ref (g.2.1 0)), (1, .int v1), (2, .int v2), (4, .int v4)]) h0 dX8_placeOf_43 (by decide) rfl ?_
        refine vx_iinc (q := 4) (v := (v4 + (1 : Int32))) (ls' := [(4, .int (v4 + (1 : Int32))), (3, .int (v3 + (0 : Int32))), (0, .ref (g.2.1 0)), (1, .int v1), (2, .int v2)]) h0 dX8_placeOf_44 rfl rfl (by decide) rfl ?_
        refine vx_goto (tgt := 5) h0 dX8_placeOf_47 (by decide) ?_
        refine vx_sub [2, 3, 4, 1, 0] rfl ?_
        exact ih _ _ hf
      · replace hf := (if_neg c4).symm.trans hf
        refine vx_aload_n h0 dX8_placeOf_21 rfl ?_
        refine mg_0_4 hX q788 dX8_placeOf_22 ?_
        refine vx_iload h0 dX8_placeOf_25 rfl ?_
        obtain ⟨b5, hf⟩ := gd_some hf
        refine ml_2 hX b5 dX8_placeOf_27 ?_
        refine vx_aload_n h0 dX8_placeOf_28 rfl ?_
        refine mg_0_4 hX q788 dX8_placeOf_29 ?_
        refine vx_iload_n h0 dX8_placeOf_32 rfl ?_
        obtain ⟨b6, hf⟩ := gd_some hf
        refine ml_2 hX b6 dX8_placeOf_33 ?_
        refine vx_icmp_ne (tgt := 41) h0 dX8_placeOf_34 (by decide) (fun c7 => ?_) (fun c7 => ?_)
        · replace hf := (if_neg c7).symm.trans hf
          refine vx_iconst (v := (0 : Int32)) h0 dX8_placeOf_41 (by decide) ?_
          refine vx_iadd h0 dX8_placeOf_42 ?_
          refine vx_istore_n (ls' := [(3, .int (v3 + (0 : Int32))), (0, .ref (g.2.1 0)), (1, .int v1), (2, .int v2), (4, .int v4)]) h0 dX8_placeOf_43 (by decide) rfl ?_
          refine vx_iinc (q := 4) (v := (v4 + (1 : Int32))) (ls' := [(4, .int (v4 + (1 : Int32))), (3, .int (v3 + (0 : Int32))), (0, .ref (g.2.1 0)), (1, .int v1), (2, .int v2)]) h0 dX8_placeOf_44 rfl rfl (by decide) rfl ?_
          refine vx_goto (tgt := 5) h0 dX8_placeOf_47 (by decide) ?_
          refine vx_sub [2, 3, 4, 1, 0] rfl ?_
          exact ih _ _ hf
        · replace hf := (if_pos c7).symm.trans hf
          refine vx_iconst (v := (1 : Int32)) h0 dX8_placeOf_37 (by decide) ?_
          refine vx_goto (tgt := 42) h0 dX8_placeOf_38 (by decide) ?_
          refine vx_iadd h0 dX8_placeOf_42 ?_
          refine vx_istore_n (ls' := [(3, .int (v3 + (1 : Int32))), (0, .ref (g.2.1 0)), (1, .int v1), (2, .int v2), (4, .int v4)]) h0 dX8_placeOf_43 (by decide) rfl ?_
          refine vx_iinc (q := 4) (v := (v4 + (1 : Int32))) (ls' := [(4, .int (v4 + (1 : Int32))), (3, .int (v3 + (1 : Int32))), (0, .ref (g.2.1 0)), (1, .int v1), (2, .int v2)]) h0 dX8_placeOf_44 rfl rfl (by decide) rfl ?_
          refine vx_goto (tgt := 5) h0 dX8_placeOf_47 (by decide) ?_
          refine vx_sub [2, 3, 4, 1, 0] rfl ?_
          exact ih _ _ hf
def FX8_placeOf (σ : SS) (a0 : Int32) (a1 : Int32) : Option (Int32) :=
  FX8_placeOf_L5 σ a0 a1 (fun u8 => some u8) 5000 (1 : Int32) (0 : Int32)
set_option maxRecDepth 100000 in
set_option maxHeartbeats 4000000 in
theorem c_X8_placeOf {σ : SS} {a0 : Int32} {a1 : Int32} {r : Int32} (hf : FX8_placeOf σ a0 a1 = some r) : Mcw wsM yX8_placeOf cX8_placeOf 5 (some .int) ({ frames := 1, cells := 0, slots := 0, locals := 21 } : Room) (fun g => [.ref (g.2.1 0), .int a0, .int a1]) σ (fun g => some (.int r)) σ := by
  refine w_enter wsM_fix (by decide) (fun g => Nat.le_of_ble_eq_true rfl) ?_
  intro X g hX
  replace hX : Okw wsM X g cX8_placeOf 5 RX8 (some .int) ({ frames := 1, cells := 0, slots := 0, locals := 21 } : Room) (fun g => some (.int r)) σ := hX
  have h0 := hX.1
  show Vx X g.1 5 (wsM g σ) 0 [(0, .ref (g.2.1 0)), (1, .int a0), (2, .int a1)] []
  rw [FX8_placeOf] at hf
  refine vx_iconst (v := (1 : Int32)) h0 dX8_placeOf_0 (by decide) ?_
  refine vx_istore_n (ls' := [(3, .int (1 : Int32)), (0, .ref (g.2.1 0)), (1, .int a0), (2, .int a1)]) h0 dX8_placeOf_1 (by decide) rfl ?_
  refine vx_iconst (v := (0 : Int32)) h0 dX8_placeOf_2 (by decide) ?_
  refine vx_istore (ls' := [(4, .int (0 : Int32)), (3, .int (1 : Int32)), (0, .ref (g.2.1 0)), (1, .int a0), (2, .int a1)]) h0 dX8_placeOf_3 (by decide) rfl ?_
  refine vx_sub [2, 3, 4, 1, 0] rfl ?_
  refine PX8_placeOf_L5 hX (fun u8 hf => ?_) _ _ _ hf
  refine vx_iload_n h0 dX8_placeOf_50 rfl ?_
  exact w_iretP hX hf dX8_placeOf_51
def FX8_upTo_L9 (σ : SS) (v2 : Int32) (k : Int32 → Option (Int32)) : Nat → Int32 → Int32 → Option (Int32)
  | 0, _, _ => none
  | n + 1, v3, v4 => if v4 ≤ v2 then k v3
    else gd (inb v3 16) (FX8_upTo_L9 σ v2 k n (gA σ 4 (Int32.toNatClampNeg v3)) (v4 + (-1 : Int32)))
set_option maxRecDepth 100000 in
set_option maxHeartbeats 4000000 in
theorem PX8_upTo_L9 {X : Bx} {g : Gx} {r : Int32} {σ : SS} (hX : Okw wsM X g cX8_upTo 5 RX8 (some .int) ({ frames := 1, cells := 0, slots := 0, locals := 23 } : Room) (fun g => some (.int r)) σ) {v2 : Int32} {k : Int32 → Option (Int32)} (hk : ∀ (v3 : Int32), k v3 = some r → Vx X g.1 5 (wsM g σ) 28 [(3, .int v3)] []) : ∀ (n : Nat) (v3 : Int32) (v4 : Int32), FX8_upTo_L9 σ v2 k n v3 v4 = some r → Vx X g.1 5 (wsM g σ) 9 [(0, .ref (g.2.1 0)), (2, .int v2), (3, .int v3), (4, .int v4)] [] := by
  have h0 := hX.1
  intro n
  induction n with
  | zero =>
    intro v3 v4 hf
    rw [FX8_upTo_L9] at hf
    cases hf
  | succ n ih =>
    intro v3 v4 hf
    rw [FX8_upTo_L9] at hf
    refine vx_iload h0 dX8_upTo_9 rfl ?_
    refine vx_iload_n h0 dX8_upTo_11 rfl ?_
    refine vx_icmp_le (tgt := 28) h0 dX8_upTo_12 (by decide) (fun c3 => ?_) (fun c3 => ?_)
    · replace hf := (if_pos c3).symm.trans hf
      refine vx_sub [2] rfl ?_
      exact hk _ hf
    · replace hf := (if_neg c3).symm.trans hf
      refine vx_aload_n h0 dX8_upTo_15 rfl ?_
      refine mg_0_4 hX q788 dX8_upTo_16 ?_
      refine vx_iload_n h0 dX8_upTo_19 rfl ?_
      obtain ⟨b4, hf⟩ := gd_some hf
      refine ml_2 hX b4 dX8_upTo_20 ?_
      refine vx_istore_n (ls' := [(3, .int (gA σ 4 (Int32.toNatClampNeg v3))), (0, .ref (g.2.1 0)), (2, .int v2), (4, .int v4)]) h0 dX8_upTo_21 (by decide) rfl ?_
      refine vx_iinc (q := 3) (v := (v4 + (-1 : Int32))) (ls' := [(4, .int (v4 + (-1 : Int32))), (3, .int (gA σ 4 (Int32.toNatClampNeg v3))), (0, .ref (g.2.1 0)), (2, .int v2)]) h0 dX8_upTo_22 rfl rfl (by decide) rfl ?_
      refine vx_goto (tgt := 9) h0 dX8_upTo_25 (by decide) ?_
      refine vx_sub [2, 3, 1, 0] rfl ?_
      exact ih _ _ hf
def FX8_upTo (σ : SS) (a0 : Int32) (a1 : Int32) : Option (Int32) :=
  ob (FX8_depthOf σ a0) (fun r2 => FX8_upTo_L9 σ a1 (fun u5 => some u5) 5000 a0 r2)
set_option maxRecDepth 100000 in
set_option maxHeartbeats 4000000 in
theorem c_X8_upTo {σ : SS} {a0 : Int32} {a1 : Int32} {r : Int32} (hf : FX8_upTo σ a0 a1 = some r) : Mcw wsM yX8_upTo cX8_upTo 5 (some .int) ({ frames := 1, cells := 0, slots := 0, locals := 23 } : Room) (fun g => [.ref (g.2.1 0), .int a0, .int a1]) σ (fun g => some (.int r)) σ := by
  refine w_enter wsM_fix (by decide) (fun g => Nat.le_of_ble_eq_true rfl) ?_
  intro X g hX
  replace hX : Okw wsM X g cX8_upTo 5 RX8 (some .int) ({ frames := 1, cells := 0, slots := 0, locals := 23 } : Room) (fun g => some (.int r)) σ := hX
  have h0 := hX.1
  show Vx X g.1 5 (wsM g σ) 0 [(0, .ref (g.2.1 0)), (1, .int a0), (2, .int a1)] []
  rw [FX8_upTo] at hf
  refine vx_iload_n h0 dX8_upTo_0 rfl ?_
  refine vx_istore_n (ls' := [(3, .int a0), (0, .ref (g.2.1 0)), (1, .int a0), (2, .int a1)]) h0 dX8_upTo_1 (by decide) rfl ?_
  refine vx_aload_n h0 dX8_upTo_2 rfl ?_
  refine vx_iload_n h0 dX8_upTo_3 rfl ?_
  obtain ⟨r2, h1, hf⟩ := ob_some hf
  refine w_callV (st := []) (ci := 8) (q0 := 0) hX (c_X8_depthOf h1) ce_X8_depthOf q1057 ⟨rfl, rfl⟩ ⟨by decide, by decide⟩ rfl rfl rfl rfl (mo_0 g _) rfl (Nat.le_of_ble_eq_true rfl) dX8_upTo_4 ?_
  show Vx X g.1 5 (wsM g σ) 7 [(3, .int a0), (0, .ref (g.2.1 0)), (1, .int a0), (2, .int a1)] [.int r2]
  refine vx_istore (ls' := [(4, .int r2), (3, .int a0), (0, .ref (g.2.1 0)), (1, .int a0), (2, .int a1)]) h0 dX8_upTo_7 (by decide) rfl ?_
  refine vx_sub [2, 4, 1, 0] rfl ?_
  refine PX8_upTo_L9 hX (fun u5 hf => ?_) _ _ _ hf
  refine vx_iload_n h0 dX8_upTo_28 rfl ?_
  exact w_iretP hX hf dX8_upTo_29
def FX8_writes (σ : SS) (a0 : Int32) : Option (SS) :=
  gd (inb (gI σ 34) 4000) (bd (sA σ 33 (upd (gA σ 33) (Int32.toNatClampNeg (gI σ 34)) a0)) (fun σ2 => bd (sI σ2 34 ((gI σ2 34) + (1 : Int32))) (fun σ3 => some σ3)))
set_option maxRecDepth 100000 in
set_option maxHeartbeats 4000000 in
theorem c_X8_writes {σ : SS} {a0 : Int32} {σr : SS} (hf : FX8_writes σ a0 = some σr) : Mcw wsM yX8_writes cX8_writes 2 none ({ frames := 0, cells := 0, slots := 0, locals := 0 } : Room) (fun g => [.ref (g.2.1 0), .int a0]) σ (fun g => none) σr := by
  refine w_enter wsM_fix (by decide) (fun g => Nat.le_of_ble_eq_true rfl) ?_
  intro X g hX
  replace hX : Okw wsM X g cX8_writes 2 RX8 none ({ frames := 0, cells := 0, slots := 0, locals := 0 } : Room) (fun g => none) σr := hX
  have h0 := hX.1
  show Vx X g.1 2 (wsM g σ) 0 [(0, .ref (g.2.1 0)), (1, .int a0)] []
  rw [FX8_writes] at hf
  refine vx_aload_n h0 dX8_writes_0 rfl ?_
  refine mg_0_33 hX q817 dX8_writes_1 ?_
  refine vx_aload_n h0 dX8_writes_4 rfl ?_
  refine mg_0_34 hX q818 dX8_writes_5 ?_
  refine vx_iload_n h0 dX8_writes_8 rfl ?_
  obtain ⟨b1, hf⟩ := gd_some hf
  refine ms_22 hX b1 dX8_writes_9 ?_
  generalize (sA σ 33 (upd (gA σ 33) (Int32.toNatClampNeg (gI σ 34)) a0)) = σ2 at hf ⊢
  replace hf := bd_h hf
  refine vx_aload_n h0 dX8_writes_10 rfl ?_
  refine vx_dup h0 dX8_writes_11 rfl ?_
  refine mg_0_34 hX q818 dX8_writes_12 ?_
  refine vx_iconst (v := (1 : Int32)) h0 dX8_writes_15 (by decide) ?_
  refine vx_iadd h0 dX8_writes_16 ?_
  refine mp_0_34 hX q818 dX8_writes_17 ?_
  generalize (sI σ2 34 ((gI σ2 34) + (1 : Int32))) = σ3 at hf ⊢
  replace hf := bd_h hf
  exact w_vretE hX hf dX8_writes_20
def FX8_writesNumber_J47 (σ : SS) (rec : Int32 → SS → Option (SS)) (v1 : Int32) (v2 : Int32) (v3 : Int32) (v4 : Int32) : Option (SS) :=
  ob (FX8_writes σ ((48 : Int32) + (jrem v4 (10 : Int32)))) (fun σ11 => rec (v3 + (1 : Int32)) σ11)
set_option maxRecDepth 100000 in
set_option maxHeartbeats 4000000 in
theorem PX8_writesNumber_J47 {X : Bx} {g : Gx} {σr : SS} {σ : SS} (hX : Okw wsM X g cX8_writesNumber 5 RX8 none ({ frames := 2, cells := 0, slots := 0, locals := 47 } : Room) (fun g => none) σr) {rec : Int32 → SS → Option (SS)} {v1 : Int32} {v2 : Int32} {v3 : Int32} {v4 : Int32} (hrec : ∀ (w3 : Int32) (σ2 : SS), rec w3 σ2 = some σr → Vx X g.1 5 (wsM g σ2) 2 [(0, .ref (g.2.1 0)), (1, .int v1), (2, .int v2), (3, .int w3)] []) (hf : FX8_writesNumber_J47 σ rec v1 v2 v3 v4 = some σr) : Vx X g.1 5 (wsM g σ) 47 [(0, .ref (g.2.1 0)), (1, .int v1), (2, .int v2), (3, .int v3), (4, .int v4)] [] := by
  have h0 := hX.1
  rw [FX8_writesNumber_J47] at hf
  refine vx_aload_n h0 dX8_writesNumber_47 rfl ?_
  refine vx_bipush (v := (48 : Int32)) h0 dX8_writesNumber_48 (by decide) ?_
  refine vx_iload h0 dX8_writesNumber_50 rfl ?_
  refine vx_bipush (v := (10 : Int32)) h0 dX8_writesNumber_52 (by decide) ?_
  refine vx_irem h0 dX8_writesNumber_54 (by decide) ?_
  refine vx_iadd h0 dX8_writesNumber_55 ?_
  obtain ⟨σ11, h10, hf⟩ := ob_some hf
  refine w_callV (st := []) (ci := 8) (q0 := 0) hX (c_X8_writes h10) ce_X8_writes q1061 ⟨rfl, rfl⟩ ⟨by decide, by decide⟩ rfl rfl rfl rfl (mo_0 g _) rfl (Nat.le_of_ble_eq_true rfl) dX8_writesNumber_56 ?_
  show Vx X g.1 5 (wsM g σ11) 59 [(0, .ref (g.2.1 0)), (1, .int v1), (2, .int v2), (3, .int v3), (4, .int v4)] []
  refine vx_iinc (q := 3) (v := (v3 + (1 : Int32))) (ls' := [(3, .int (v3 + (1 : Int32))), (0, .ref (g.2.1 0)), (1, .int v1), (2, .int v2), (4, .int v4)]) h0 dX8_writesNumber_59 rfl rfl (by decide) rfl ?_
  refine vx_goto (tgt := 2) h0 dX8_writesNumber_62 (by decide) ?_
  refine vx_sub [1, 2, 3, 0] rfl ?_
  exact hrec _ _ hf
def FX8_writesNumber_J21 (σ : SS) (rec : Int32 → SS → Option (SS)) (v1 : Int32) (v2 : Int32) (v3 : Int32) : Option (SS) :=
  ob (FX8_upTo σ v2 v3) (fun r6 => ob (FX8_placeOf σ v1 r6) (fun r8 => if r8 ≤ (9 : Int32) then FX8_writesNumber_J47 σ (fun a12 σ13 => rec a12 σ13) v1 v2 v3 r8
    else ob (FX8_writes σ (49 : Int32)) (fun σ15 => FX8_writesNumber_J47 σ15 (fun a16 σ17 => rec a16 σ17) v1 v2 v3 r8)))
set_option maxRecDepth 100000 in
set_option maxHeartbeats 4000000 in
theorem PX8_writesNumber_J21 {X : Bx} {g : Gx} {σr : SS} {σ : SS} (hX : Okw wsM X g cX8_writesNumber 5 RX8 none ({ frames := 2, cells := 0, slots := 0, locals := 47 } : Room) (fun g => none) σr) {rec : Int32 → SS → Option (SS)} {v1 : Int32} {v2 : Int32} {v3 : Int32} (hrec : ∀ (w3 : Int32) (σ2 : SS), rec w3 σ2 = some σr → Vx X g.1 5 (wsM g σ2) 2 [(0, .ref (g.2.1 0)), (1, .int v1), (2, .int v2), (3, .int w3)] []) (hf : FX8_writesNumber_J21 σ rec v1 v2 v3 = some σr) : Vx X g.1 5 (wsM g σ) 21 [(0, .ref (g.2.1 0)), (1, .int v1), (2, .int v2), (3, .int v3)] [] := by
  have h0 := hX.1
  rw [FX8_writesNumber_J21] at hf
  refine vx_aload_n h0 dX8_writesNumber_21 rfl ?_
  refine vx_iload_n h0 dX8_writesNumber_22 rfl ?_
  refine vx_aload_n h0 dX8_writesNumber_23 rfl ?_
  refine vx_iload_n h0 dX8_writesNumber_24 rfl ?_
  refine vx_iload_n h0 dX8_writesNumber_25 rfl ?_
  obtain ⟨r6, h5, hf⟩ := ob_some hf
  refine w_callV (st := [.int v1, .ref (g.2.1 0)]) (ci := 8) (q0 := 0) hX (c_X8_upTo h5) ce_X8_upTo q1065 ⟨rfl, rfl⟩ ⟨by decide, by decide⟩ rfl rfl rfl rfl (mo_0 g _) rfl (Nat.le_of_ble_eq_true rfl) dX8_writesNumber_26 ?_
  show Vx X g.1 5 (wsM g σ) 29 [(0, .ref (g.2.1 0)), (1, .int v1), (2, .int v2), (3, .int v3)] [.int r6, .int v1, .ref (g.2.1 0)]
  obtain ⟨r8, h7, hf⟩ := ob_some hf
  refine w_callV (st := []) (ci := 8) (q0 := 0) hX (c_X8_placeOf h7) ce_X8_placeOf q1069 ⟨rfl, rfl⟩ ⟨by decide, by decide⟩ rfl rfl rfl rfl (mo_0 g _) rfl (Nat.le_of_ble_eq_true rfl) dX8_writesNumber_29 ?_
  show Vx X g.1 5 (wsM g σ) 32 [(0, .ref (g.2.1 0)), (1, .int v1), (2, .int v2), (3, .int v3)] [.int r8]
  refine vx_istore (ls' := [(4, .int r8), (0, .ref (g.2.1 0)), (1, .int v1), (2, .int v2), (3, .int v3)]) h0 dX8_writesNumber_32 (by decide) rfl ?_
  refine vx_iload h0 dX8_writesNumber_34 rfl ?_
  refine vx_bipush (v := (9 : Int32)) h0 dX8_writesNumber_36 (by decide) ?_
  refine vx_icmp_le (tgt := 47) h0 dX8_writesNumber_38 (by decide) (fun c9 => ?_) (fun c9 => ?_)
  · replace hf := (if_pos c9).symm.trans hf
    refine vx_sub [1, 2, 3, 4, 0] rfl ?_
    exact PX8_writesNumber_J47 hX (fun a12 σ13 hf => hrec a12 σ13 hf) hf
  · replace hf := (if_neg c9).symm.trans hf
    refine vx_aload_n h0 dX8_writesNumber_41 rfl ?_
    refine vx_bipush (v := (49 : Int32)) h0 dX8_writesNumber_42 (by decide) ?_
    obtain ⟨σ15, h14, hf⟩ := ob_some hf
    refine w_callV (st := []) (ci := 8) (q0 := 0) hX (c_X8_writes h14) ce_X8_writes q1061 ⟨rfl, rfl⟩ ⟨by decide, by decide⟩ rfl rfl rfl rfl (mo_0 g _) rfl (Nat.le_of_ble_eq_true rfl) dX8_writesNumber_44 ?_
    show Vx X g.1 5 (wsM g σ15) 47 [(4, .int r8), (0, .ref (g.2.1 0)), (1, .int v1), (2, .int v2), (3, .int v3)] []
    refine vx_sub [1, 2, 3, 4, 0] rfl ?_
    exact PX8_writesNumber_J47 hX (fun a16 σ17 hf => hrec a16 σ17 hf) hf
def FX8_writesNumber_L2 (v1 : Int32) (v2 : Int32) (k : SS → Option (SS)) : Nat → Int32 → SS → Option (SS)
  | 0, _, _ => none
  | n + 1, v3, σ => ob (FX8_depthOf σ v2) (fun r2 => if r2 < v3 then k σ
    else if v3 ≤ 0 then FX8_writesNumber_J21 σ (fun a18 σ19 => FX8_writesNumber_L2 v1 v2 k n a18 σ19) v1 v2 v3
    else ob (FX8_writes σ (46 : Int32)) (fun σ21 => FX8_writesNumber_J21 σ21 (fun a22 σ23 => FX8_writesNumber_L2 v1 v2 k n a22 σ23) v1 v2 v3))
set_option maxRecDepth 100000 in
set_option maxHeartbeats 4000000 in
theorem PX8_writesNumber_L2 {X : Bx} {g : Gx} {σr : SS} (hX : Okw wsM X g cX8_writesNumber 5 RX8 none ({ frames := 2, cells := 0, slots := 0, locals := 47 } : Room) (fun g => none) σr) {v1 : Int32} {v2 : Int32} {k : SS → Option (SS)} (hk : ∀ (σ : SS), k σ = some σr → Vx X g.1 5 (wsM g σ) 65 [] []) : ∀ (n : Nat) (v3 : Int32) (σ : SS), FX8_writesNumber_L2 v1 v2 k n v3 σ = some σr → Vx X g.1 5 (wsM g σ) 2 [(0, .ref (g.2.1 0)), (1, .int v1), (2, .int v2), (3, .int v3)] [] := by
  have h0 := hX.1
  intro n
  induction n with
  | zero =>
    intro v3 σ hf
    rw [FX8_writesNumber_L2] at hf
    cases hf
  | succ n ih =>
    intro v3 σ hf
    rw [FX8_writesNumber_L2] at hf
    refine vx_iload_n h0 dX8_writesNumber_2 rfl ?_
    refine vx_aload_n h0 dX8_writesNumber_3 rfl ?_
    refine vx_iload_n h0 dX8_writesNumber_4 rfl ?_
    obtain ⟨r2, h1, hf⟩ := ob_some hf
    refine w_callV (st := [.int v3]) (ci := 8) (q0 := 0) hX (c_X8_depthOf h1) ce_X8_depthOf q1057 ⟨rfl, rfl⟩ ⟨by decide, by decide⟩ rfl rfl rfl rfl (mo_0 g _) rfl (Nat.le_of_ble_eq_true rfl) dX8_writesNumber_5 ?_
    show Vx X g.1 5 (wsM g σ) 8 [(0, .ref (g.2.1 0)), (1, .int v1), (2, .int v2), (3, .int v3)] [.int r2, .int v3]
    refine vx_icmp_gt (tgt := 65) h0 dX8_writesNumber_8 (by decide) (fun c3 => ?_) (fun c3 => ?_)
    · replace hf := (if_pos c3).symm.trans hf
      refine vx_sub [] rfl ?_
      exact hk _ hf
    · replace hf := (if_neg c3).symm.trans hf
      refine vx_iload_n h0 dX8_writesNumber_11 rfl ?_
      refine vx_if_le (tgt := 21) h0 dX8_writesNumber_12 (by decide) (fun c4 => ?_) (fun c4 => ?_)
      · replace hf := (if_pos c4).symm.trans hf
        exact PX8_writesNumber_J21 hX (fun a18 σ19 hf => ih a18 σ19 hf) hf
      · replace hf := (if_neg c4).symm.trans hf
        refine vx_aload_n h0 dX8_writesNumber_15 rfl ?_
        refine vx_bipush (v := (46 : Int32)) h0 dX8_writesNumber_16 (by decide) ?_
        obtain ⟨σ21, h20, hf⟩ := ob_some hf
        refine w_callV (st := []) (ci := 8) (q0 := 0) hX (c_X8_writes h20) ce_X8_writes q1061 ⟨rfl, rfl⟩ ⟨by decide, by decide⟩ rfl rfl rfl rfl (mo_0 g _) rfl (Nat.le_of_ble_eq_true rfl) dX8_writesNumber_18 ?_
        show Vx X g.1 5 (wsM g σ21) 21 [(0, .ref (g.2.1 0)), (1, .int v1), (2, .int v2), (3, .int v3)] []
        exact PX8_writesNumber_J21 hX (fun a22 σ23 hf => ih a22 σ23 hf) hf
def FX8_writesNumber (σ : SS) (a0 : Int32) (a1 : Int32) : Option (SS) :=
  FX8_writesNumber_L2 a0 a1 (fun σ24 => some σ24) 5000 (0 : Int32) σ
set_option maxRecDepth 100000 in
set_option maxHeartbeats 4000000 in
theorem c_X8_writesNumber {σ : SS} {a0 : Int32} {a1 : Int32} {σr : SS} (hf : FX8_writesNumber σ a0 a1 = some σr) : Mcw wsM yX8_writesNumber cX8_writesNumber 5 none ({ frames := 2, cells := 0, slots := 0, locals := 47 } : Room) (fun g => [.ref (g.2.1 0), .int a0, .int a1]) σ (fun g => none) σr := by
  refine w_enter wsM_fix (by decide) (fun g => Nat.le_of_ble_eq_true rfl) ?_
  intro X g hX
  replace hX : Okw wsM X g cX8_writesNumber 5 RX8 none ({ frames := 2, cells := 0, slots := 0, locals := 47 } : Room) (fun g => none) σr := hX
  have h0 := hX.1
  show Vx X g.1 5 (wsM g σ) 0 [(0, .ref (g.2.1 0)), (1, .int a0), (2, .int a1)] []
  rw [FX8_writesNumber] at hf
  refine vx_iconst (v := (0 : Int32)) h0 dX8_writesNumber_0 (by decide) ?_
  refine vx_istore_n (ls' := [(3, .int (0 : Int32)), (0, .ref (g.2.1 0)), (1, .int a0), (2, .int a1)]) h0 dX8_writesNumber_1 (by decide) rfl ?_
  refine vx_sub [1, 2, 3, 0] rfl ?_
  refine PX8_writesNumber_L2 hX (fun σ24 hf => ?_) _ _ _ hf
  exact w_vretE hX hf dX8_writesNumber_65
