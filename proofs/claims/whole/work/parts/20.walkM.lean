/-! printed by wip/whole/gen.py: decode rows, functions, contracts -/
theorem dX8_writesAll_0 : decode cX8_writesAll 0 = .ok (.aload_n 0, 1) := by decide +kernel
theorem dX8_writesAll_1 : decode cX8_writesAll 1 = .ok (.invokevirtual 193, 3) := by decide +kernel
theorem dX8_writesAll_4 : decode cX8_writesAll 4 = .ok (.istore_n 1, 1) := by decide +kernel
theorem dX8_writesAll_5 : decode cX8_writesAll 5 = .ok (.aload_n 0, 1) := by decide +kernel
theorem dX8_writesAll_6 : decode cX8_writesAll 6 = .ok (.iconst 0, 1) := by decide +kernel
theorem dX8_writesAll_7 : decode cX8_writesAll 7 = .ok (.putfield 217, 3) := by decide +kernel
theorem dX8_writesAll_10 : decode cX8_writesAll 10 = .ok (.iconst 0, 1) := by decide +kernel
theorem dX8_writesAll_11 : decode cX8_writesAll 11 = .ok (.istore_n 2, 1) := by decide +kernel
theorem dX8_writesAll_12 : decode cX8_writesAll 12 = .ok (.iload_n 2, 1) := by decide +kernel
theorem dX8_writesAll_13 : decode cX8_writesAll 13 = .ok (.aload_n 0, 1) := by decide +kernel
theorem dX8_writesAll_14 : decode cX8_writesAll 14 = .ok (.getfield 81, 3) := by decide +kernel
theorem dX8_writesAll_17 : decode cX8_writesAll 17 = .ok (.if_icmp .ge 156, 3) := by decide +kernel
theorem dX8_writesAll_20 : decode cX8_writesAll 20 = .ok (.iload_n 1, 1) := by decide +kernel
theorem dX8_writesAll_21 : decode cX8_writesAll 21 = .ok (.iload_n 2, 1) := by decide +kernel
theorem dX8_writesAll_22 : decode cX8_writesAll 22 = .ok (.invokestatic 118, 3) := by decide +kernel
theorem dX8_writesAll_25 : decode cX8_writesAll 25 = .ok (.ifCond .eq 142, 3) := by decide +kernel
theorem dX8_writesAll_28 : decode cX8_writesAll 28 = .ok (.aload_n 0, 1) := by decide +kernel
theorem dX8_writesAll_29 : decode cX8_writesAll 29 = .ok (.iload_n 1, 1) := by decide +kernel
theorem dX8_writesAll_30 : decode cX8_writesAll 30 = .ok (.iload_n 2, 1) := by decide +kernel
theorem dX8_writesAll_31 : decode cX8_writesAll 31 = .ok (.invokevirtual 229, 3) := by decide +kernel
theorem dX8_writesAll_34 : decode cX8_writesAll 34 = .ok (.aload_n 0, 1) := by decide +kernel
theorem dX8_writesAll_35 : decode cX8_writesAll 35 = .ok (.bipush 32, 2) := by decide +kernel
theorem dX8_writesAll_37 : decode cX8_writesAll 37 = .ok (.invokevirtual 220, 3) := by decide +kernel
theorem dX8_writesAll_40 : decode cX8_writesAll 40 = .ok (.iconst 0, 1) := by decide +kernel
theorem dX8_writesAll_41 : decode cX8_writesAll 41 = .ok (.istore_n 3, 1) := by decide +kernel
theorem dX8_writesAll_42 : decode cX8_writesAll 42 = .ok (.iload_n 3, 1) := by decide +kernel
theorem dX8_writesAll_43 : decode cX8_writesAll 43 = .ok (.aload_n 0, 1) := by decide +kernel
theorem dX8_writesAll_44 : decode cX8_writesAll 44 = .ok (.getfield 138, 3) := by decide +kernel
theorem dX8_writesAll_47 : decode cX8_writesAll 47 = .ok (.if_icmp .ge 114, 3) := by decide +kernel
theorem dX8_writesAll_50 : decode cX8_writesAll 50 = .ok (.aload_n 0, 1) := by decide +kernel
theorem dX8_writesAll_51 : decode cX8_writesAll 51 = .ok (.getfield 29, 3) := by decide +kernel
theorem dX8_writesAll_54 : decode cX8_writesAll 54 = .ok (.iload_n 3, 1) := by decide +kernel
theorem dX8_writesAll_55 : decode cX8_writesAll 55 = .ok (.iaload, 1) := by decide +kernel
theorem dX8_writesAll_56 : decode cX8_writesAll 56 = .ok (.iload_n 2, 1) := by decide +kernel
theorem dX8_writesAll_57 : decode cX8_writesAll 57 = .ok (.if_icmp .ne 43, 3) := by decide +kernel
theorem dX8_writesAll_60 : decode cX8_writesAll 60 = .ok (.aload_n 0, 1) := by decide +kernel
theorem dX8_writesAll_61 : decode cX8_writesAll 61 = .ok (.getfield 32, 3) := by decide +kernel
theorem dX8_writesAll_64 : decode cX8_writesAll 64 = .ok (.iload_n 3, 1) := by decide +kernel
theorem dX8_writesAll_65 : decode cX8_writesAll 65 = .ok (.iaload, 1) := by decide +kernel
theorem dX8_writesAll_66 : decode cX8_writesAll 66 = .ok (.iconst 2, 1) := by decide +kernel
theorem dX8_writesAll_67 : decode cX8_writesAll 67 = .ok (.if_icmp .eq 33, 3) := by decide +kernel
theorem dX8_writesAll_70 : decode cX8_writesAll 70 = .ok (.aload_n 0, 1) := by decide +kernel
theorem dX8_writesAll_71 : decode cX8_writesAll 71 = .ok (.aload_n 0, 1) := by decide +kernel
theorem dX8_writesAll_72 : decode cX8_writesAll 72 = .ok (.getfield 32, 3) := by decide +kernel
theorem dX8_writesAll_75 : decode cX8_writesAll 75 = .ok (.iload_n 3, 1) := by decide +kernel
theorem dX8_writesAll_76 : decode cX8_writesAll 76 = .ok (.iaload, 1) := by decide +kernel
theorem dX8_writesAll_77 : decode cX8_writesAll 77 = .ok (.ifCond .ne 8, 3) := by decide +kernel
theorem dX8_writesAll_80 : decode cX8_writesAll 80 = .ok (.bipush 65, 2) := by decide +kernel
theorem dX8_writesAll_82 : decode cX8_writesAll 82 = .ok (.goto 5, 3) := by decide +kernel
theorem dX8_writesAll_85 : decode cX8_writesAll 85 = .ok (.bipush 97, 2) := by decide +kernel
theorem dX8_writesAll_87 : decode cX8_writesAll 87 = .ok (.aload_n 0, 1) := by decide +kernel
theorem dX8_writesAll_88 : decode cX8_writesAll 88 = .ok (.getfield 35, 3) := by decide +kernel
theorem dX8_writesAll_91 : decode cX8_writesAll 91 = .ok (.iload_n 3, 1) := by decide +kernel
theorem dX8_writesAll_92 : decode cX8_writesAll 92 = .ok (.iaload, 1) := by decide +kernel
theorem dX8_writesAll_93 : decode cX8_writesAll 93 = .ok (.iadd, 1) := by decide +kernel
theorem dX8_writesAll_94 : decode cX8_writesAll 94 = .ok (.invokevirtual 220, 3) := by decide +kernel
theorem dX8_writesAll_97 : decode cX8_writesAll 97 = .ok (.goto 58, 3) := by decide +kernel
theorem dX8_writesAll_100 : decode cX8_writesAll 100 = .ok (.aload_n 0, 1) := by decide +kernel
theorem dX8_writesAll_101 : decode cX8_writesAll 101 = .ok (.getfield 29, 3) := by decide +kernel
theorem dX8_writesAll_104 : decode cX8_writesAll 104 = .ok (.iload_n 3, 1) := by decide +kernel
theorem dX8_writesAll_105 : decode cX8_writesAll 105 = .ok (.iaload, 1) := by decide +kernel
theorem dX8_writesAll_106 : decode cX8_writesAll 106 = .ok (.iload_n 2, 1) := by decide +kernel
theorem dX8_writesAll_107 : decode cX8_writesAll 107 = .ok (.if_icmp .ne 48, 3) := by decide +kernel
theorem dX8_writesAll_110 : decode cX8_writesAll 110 = .ok (.aload_n 0, 1) := by decide +kernel
theorem dX8_writesAll_111 : decode cX8_writesAll 111 = .ok (.bipush 91, 2) := by decide +kernel
theorem dX8_writesAll_113 : decode cX8_writesAll 113 = .ok (.invokevirtual 220, 3) := by decide +kernel
theorem dX8_writesAll_116 : decode cX8_writesAll 116 = .ok (.iload_n 1, 1) := by decide +kernel
theorem dX8_writesAll_117 : decode cX8_writesAll 117 = .ok (.aload_n 0, 1) := by decide +kernel
theorem dX8_writesAll_118 : decode cX8_writesAll 118 = .ok (.getfield 35, 3) := by decide +kernel
theorem dX8_writesAll_121 : decode cX8_writesAll 121 = .ok (.iload_n 3, 1) := by decide +kernel
theorem dX8_writesAll_122 : decode cX8_writesAll 122 = .ok (.iaload, 1) := by decide +kernel
theorem dX8_writesAll_123 : decode cX8_writesAll 123 = .ok (.invokestatic 118, 3) := by decide +kernel
theorem dX8_writesAll_126 : decode cX8_writesAll 126 = .ok (.ifCond .eq 17, 3) := by decide +kernel
theorem dX8_writesAll_129 : decode cX8_writesAll 129 = .ok (.aload_n 0, 1) := by decide +kernel
theorem dX8_writesAll_130 : decode cX8_writesAll 130 = .ok (.iload_n 1, 1) := by decide +kernel
theorem dX8_writesAll_131 : decode cX8_writesAll 131 = .ok (.aload_n 0, 1) := by decide +kernel
theorem dX8_writesAll_132 : decode cX8_writesAll 132 = .ok (.getfield 35, 3) := by decide +kernel
theorem dX8_writesAll_135 : decode cX8_writesAll 135 = .ok (.iload_n 3, 1) := by decide +kernel
theorem dX8_writesAll_136 : decode cX8_writesAll 136 = .ok (.iaload, 1) := by decide +kernel
theorem dX8_writesAll_137 : decode cX8_writesAll 137 = .ok (.invokevirtual 229, 3) := by decide +kernel
theorem dX8_writesAll_140 : decode cX8_writesAll 140 = .ok (.goto 9, 3) := by decide +kernel
theorem dX8_writesAll_143 : decode cX8_writesAll 143 = .ok (.aload_n 0, 1) := by decide +kernel
theorem dX8_writesAll_144 : decode cX8_writesAll 144 = .ok (.bipush 63, 2) := by decide +kernel
theorem dX8_writesAll_146 : decode cX8_writesAll 146 = .ok (.invokevirtual 220, 3) := by decide +kernel
theorem dX8_writesAll_149 : decode cX8_writesAll 149 = .ok (.aload_n 0, 1) := by decide +kernel
theorem dX8_writesAll_150 : decode cX8_writesAll 150 = .ok (.bipush 93, 2) := by decide +kernel
theorem dX8_writesAll_152 : decode cX8_writesAll 152 = .ok (.invokevirtual 220, 3) := by decide +kernel
theorem dX8_writesAll_155 : decode cX8_writesAll 155 = .ok (.iinc 3 1, 3) := by decide +kernel
theorem dX8_writesAll_158 : decode cX8_writesAll 158 = .ok (.goto (-116), 3) := by decide +kernel
theorem dX8_writesAll_161 : decode cX8_writesAll 161 = .ok (.aload_n 0, 1) := by decide +kernel
theorem dX8_writesAll_162 : decode cX8_writesAll 162 = .ok (.bipush 59, 2) := by decide +kernel
theorem dX8_writesAll_164 : decode cX8_writesAll 164 = .ok (.invokevirtual 220, 3) := by decide +kernel
theorem dX8_writesAll_167 : decode cX8_writesAll 167 = .ok (.iinc 2 1, 3) := by decide +kernel
theorem dX8_writesAll_170 : decode cX8_writesAll 170 = .ok (.goto (-158), 3) := by decide +kernel
theorem dX8_writesAll_173 : decode cX8_writesAll 173 = .ok (.aload_n 0, 1) := by decide +kernel
theorem dX8_writesAll_174 : decode cX8_writesAll 174 = .ok (.getfield 217, 3) := by decide +kernel
theorem dX8_writesAll_177 : decode cX8_writesAll 177 = .ok (.ireturn, 1) := by decide +kernel
theorem dX8_told_0 : decode cX8_told 0 = .ok (.iload_n 1, 1) := by decide +kernel
theorem dX8_told_1 : decode cX8_told 1 = .ok (.tableswitch 167 0 14 #[75, 80, 85, 90, 95, 100, 106, 112, 118, 123, 132, 145, 151, 157, 162], 75) := by decide +kernel
theorem dX8_told_76 : decode cX8_told 76 = .ok (.aload_n 0, 1) := by decide +kernel
theorem dX8_told_77 : decode cX8_told 77 = .ok (.getfield 81, 3) := by decide +kernel
theorem dX8_told_80 : decode cX8_told 80 = .ok (.ireturn, 1) := by decide +kernel
theorem dX8_told_81 : decode cX8_told 81 = .ok (.aload_n 0, 1) := by decide +kernel
theorem dX8_told_82 : decode cX8_told 82 = .ok (.getfield 138, 3) := by decide +kernel
theorem dX8_told_85 : decode cX8_told 85 = .ok (.ireturn, 1) := by decide +kernel
theorem dX8_told_86 : decode cX8_told 86 = .ok (.aload_n 0, 1) := by decide +kernel
theorem dX8_told_87 : decode cX8_told 87 = .ok (.getfield 89, 3) := by decide +kernel
theorem dX8_told_90 : decode cX8_told 90 = .ok (.ireturn, 1) := by decide +kernel
theorem dX8_told_91 : decode cX8_told 91 = .ok (.aload_n 0, 1) := by decide +kernel
theorem dX8_told_92 : decode cX8_told 92 = .ok (.getfield 159, 3) := by decide +kernel
theorem dX8_told_95 : decode cX8_told 95 = .ok (.ireturn, 1) := by decide +kernel
theorem dX8_told_96 : decode cX8_told 96 = .ok (.aload_n 0, 1) := by decide +kernel
theorem dX8_told_97 : decode cX8_told 97 = .ok (.invokevirtual 193, 3) := by decide +kernel
theorem dX8_told_100 : decode cX8_told 100 = .ok (.ireturn, 1) := by decide +kernel
theorem dX8_told_101 : decode cX8_told 101 = .ok (.aload_n 0, 1) := by decide +kernel
theorem dX8_told_102 : decode cX8_told 102 = .ok (.iconst 2, 1) := by decide +kernel
theorem dX8_told_103 : decode cX8_told 103 = .ok (.invokevirtual 232, 3) := by decide +kernel
theorem dX8_told_106 : decode cX8_told 106 = .ok (.ireturn, 1) := by decide +kernel
theorem dX8_told_107 : decode cX8_told 107 = .ok (.aload_n 0, 1) := by decide +kernel
theorem dX8_told_108 : decode cX8_told 108 = .ok (.iconst 0, 1) := by decide +kernel
theorem dX8_told_109 : decode cX8_told 109 = .ok (.invokevirtual 232, 3) := by decide +kernel
theorem dX8_told_112 : decode cX8_told 112 = .ok (.ireturn, 1) := by decide +kernel
theorem dX8_told_113 : decode cX8_told 113 = .ok (.aload_n 0, 1) := by decide +kernel
theorem dX8_told_114 : decode cX8_told 114 = .ok (.iconst 1, 1) := by decide +kernel
theorem dX8_told_115 : decode cX8_told 115 = .ok (.invokevirtual 232, 3) := by decide +kernel
theorem dX8_told_118 : decode cX8_told 118 = .ok (.ireturn, 1) := by decide +kernel
theorem dX8_told_119 : decode cX8_told 119 = .ok (.aload_n 0, 1) := by decide +kernel
theorem dX8_told_120 : decode cX8_told 120 = .ok (.getfield 141, 3) := by decide +kernel
theorem dX8_told_123 : decode cX8_told 123 = .ok (.ireturn, 1) := by decide +kernel
theorem dX8_told_124 : decode cX8_told 124 = .ok (.aload_n 0, 1) := by decide +kernel
theorem dX8_told_125 : decode cX8_told 125 = .ok (.aload_n 0, 1) := by decide +kernel
theorem dX8_told_126 : decode cX8_told 126 = .ok (.invokevirtual 193, 3) := by decide +kernel
theorem dX8_told_129 : decode cX8_told 129 = .ok (.invokevirtual 211, 3) := by decide +kernel
theorem dX8_told_132 : decode cX8_told 132 = .ok (.ireturn, 1) := by decide +kernel
theorem dX8_told_133 : decode cX8_told 133 = .ok (.aload_n 0, 1) := by decide +kernel
theorem dX8_told_134 : decode cX8_told 134 = .ok (.iconst 1, 1) := by decide +kernel
theorem dX8_told_135 : decode cX8_told 135 = .ok (.aload_n 0, 1) := by decide +kernel
theorem dX8_told_136 : decode cX8_told 136 = .ok (.getfield 81, 3) := by decide +kernel
theorem dX8_told_139 : decode cX8_told 139 = .ok (.ishl, 1) := by decide +kernel
theorem dX8_told_140 : decode cX8_told 140 = .ok (.iconst 1, 1) := by decide +kernel
theorem dX8_told_141 : decode cX8_told 141 = .ok (.isub, 1) := by decide +kernel
theorem dX8_told_142 : decode cX8_told 142 = .ok (.invokevirtual 235, 3) := by decide +kernel
theorem dX8_told_145 : decode cX8_told 145 = .ok (.ireturn, 1) := by decide +kernel
theorem dX8_told_146 : decode cX8_told 146 = .ok (.aload_n 0, 1) := by decide +kernel
theorem dX8_told_147 : decode cX8_told 147 = .ok (.iconst 0, 1) := by decide +kernel
theorem dX8_told_148 : decode cX8_told 148 = .ok (.invokevirtual 238, 3) := by decide +kernel
theorem dX8_told_151 : decode cX8_told 151 = .ok (.ireturn, 1) := by decide +kernel
theorem dX8_told_152 : decode cX8_told 152 = .ok (.aload_n 0, 1) := by decide +kernel
theorem dX8_told_153 : decode cX8_told 153 = .ok (.iconst 1, 1) := by decide +kernel
theorem dX8_told_154 : decode cX8_told 154 = .ok (.invokevirtual 238, 3) := by decide +kernel
theorem dX8_told_157 : decode cX8_told 157 = .ok (.ireturn, 1) := by decide +kernel
theorem dX8_told_158 : decode cX8_told 158 = .ok (.aload_n 0, 1) := by decide +kernel
theorem dX8_told_159 : decode cX8_told 159 = .ok (.invokevirtual 242, 3) := by decide +kernel
theorem dX8_told_162 : decode cX8_told 162 = .ok (.ireturn, 1) := by decide +kernel
theorem dX8_told_163 : decode cX8_told 163 = .ok (.aload_n 0, 1) := by decide +kernel
theorem dX8_told_164 : decode cX8_told 164 = .ok (.getfield 144, 3) := by decide +kernel
theorem dX8_told_167 : decode cX8_told 167 = .ok (.ireturn, 1) := by decide +kernel
theorem dX8_told_168 : decode cX8_told 168 = .ok (.ldc 88, 2) := by decide +kernel
theorem dX8_told_170 : decode cX8_told 170 = .ok (.ireturn, 1) := by decide +kernel
theorem dX8_idle_0 : decode cX8_idle 0 = .ok (.iconst 0, 1) := by decide +kernel
theorem dX8_idle_1 : decode cX8_idle 1 = .ok (.istore_n 2, 1) := by decide +kernel
theorem dX8_idle_2 : decode cX8_idle 2 = .ok (.iconst 0, 1) := by decide +kernel
theorem dX8_idle_3 : decode cX8_idle 3 = .ok (.istore_n 3, 1) := by decide +kernel
theorem dX8_idle_4 : decode cX8_idle 4 = .ok (.iload_n 3, 1) := by decide +kernel
theorem dX8_idle_5 : decode cX8_idle 5 = .ok (.bipush 8, 2) := by decide +kernel
theorem dX8_idle_7 : decode cX8_idle 7 = .ok (.if_icmp .ge 45, 3) := by decide +kernel
theorem dX8_idle_10 : decode cX8_idle 10 = .ok (.iload_n 2, 1) := by decide +kernel
theorem dX8_idle_11 : decode cX8_idle 11 = .ok (.aload_n 0, 1) := by decide +kernel
theorem dX8_idle_12 : decode cX8_idle 12 = .ok (.iload_n 1, 1) := by decide +kernel
theorem dX8_idle_13 : decode cX8_idle 13 = .ok (.iload_n 3, 1) := by decide +kernel
theorem dX8_idle_14 : decode cX8_idle 14 = .ok (.iconst 0, 1) := by decide +kernel
theorem dX8_idle_15 : decode cX8_idle 15 = .ok (.aload_n 0, 1) := by decide +kernel
theorem dX8_idle_16 : decode cX8_idle 16 = .ok (.getfield 138, 3) := by decide +kernel
theorem dX8_idle_19 : decode cX8_idle 19 = .ok (.invokevirtual 162, 3) := by decide +kernel
theorem dX8_idle_22 : decode cX8_idle 22 = .ok (.ifCond .le 21, 3) := by decide +kernel
theorem dX8_idle_25 : decode cX8_idle 25 = .ok (.aload_n 0, 1) := by decide +kernel
theorem dX8_idle_26 : decode cX8_idle 26 = .ok (.iload_n 1, 1) := by decide +kernel
theorem dX8_idle_27 : decode cX8_idle 27 = .ok (.iload_n 3, 1) := by decide +kernel
theorem dX8_idle_28 : decode cX8_idle 28 = .ok (.iconst 1, 1) := by decide +kernel
theorem dX8_idle_29 : decode cX8_idle 29 = .ok (.aload_n 0, 1) := by decide +kernel
theorem dX8_idle_30 : decode cX8_idle 30 = .ok (.getfield 138, 3) := by decide +kernel
theorem dX8_idle_33 : decode cX8_idle 33 = .ok (.invokevirtual 162, 3) := by decide +kernel
theorem dX8_idle_36 : decode cX8_idle 36 = .ok (.ifCond .ne 7, 3) := by decide +kernel
theorem dX8_idle_39 : decode cX8_idle 39 = .ok (.iconst 1, 1) := by decide +kernel
theorem dX8_idle_40 : decode cX8_idle 40 = .ok (.goto 4, 3) := by decide +kernel
theorem dX8_idle_43 : decode cX8_idle 43 = .ok (.iconst 0, 1) := by decide +kernel
theorem dX8_idle_44 : decode cX8_idle 44 = .ok (.iadd, 1) := by decide +kernel
theorem dX8_idle_45 : decode cX8_idle 45 = .ok (.istore_n 2, 1) := by decide +kernel
theorem dX8_idle_46 : decode cX8_idle 46 = .ok (.iinc 3 1, 3) := by decide +kernel
theorem dX8_idle_49 : decode cX8_idle 49 = .ok (.goto (-45), 3) := by decide +kernel
theorem dX8_idle_52 : decode cX8_idle 52 = .ok (.iload_n 2, 1) := by decide +kernel
theorem dX8_idle_53 : decode cX8_idle 53 = .ok (.ireturn, 1) := by decide +kernel
theorem dX8_firstWrong_0 : decode cX8_firstWrong 0 = .ok (.iconst 0, 1) := by decide +kernel
theorem dX8_firstWrong_1 : decode cX8_firstWrong 1 = .ok (.istore_n 2, 1) := by decide +kernel
theorem dX8_firstWrong_2 : decode cX8_firstWrong 2 = .ok (.iload_n 2, 1) := by decide +kernel
theorem dX8_firstWrong_3 : decode cX8_firstWrong 3 = .ok (.aload_n 0, 1) := by decide +kernel
theorem dX8_firstWrong_4 : decode cX8_firstWrong 4 = .ok (.getfield 138, 3) := by decide +kernel
theorem dX8_firstWrong_7 : decode cX8_firstWrong 7 = .ok (.if_icmp .ge 41, 3) := by decide +kernel
theorem dX8_firstWrong_10 : decode cX8_firstWrong 10 = .ok (.aload_n 0, 1) := by decide +kernel
theorem dX8_firstWrong_11 : decode cX8_firstWrong 11 = .ok (.iload_n 1, 1) := by decide +kernel
theorem dX8_firstWrong_12 : decode cX8_firstWrong 12 = .ok (.iload_n 2, 1) := by decide +kernel
theorem dX8_firstWrong_13 : decode cX8_firstWrong 13 = .ok (.iconst 0, 1) := by decide +kernel
theorem dX8_firstWrong_14 : decode cX8_firstWrong 14 = .ok (.invokevirtual 170, 3) := by decide +kernel
theorem dX8_firstWrong_17 : decode cX8_firstWrong 17 = .ok (.ifCond .ne 23, 3) := by decide +kernel
theorem dX8_firstWrong_20 : decode cX8_firstWrong 20 = .ok (.aload_n 0, 1) := by decide +kernel
theorem dX8_firstWrong_21 : decode cX8_firstWrong 21 = .ok (.iload_n 1, 1) := by decide +kernel
theorem dX8_firstWrong_22 : decode cX8_firstWrong 22 = .ok (.iload_n 2, 1) := by decide +kernel
theorem dX8_firstWrong_23 : decode cX8_firstWrong 23 = .ok (.iconst 1, 1) := by decide +kernel
theorem dX8_firstWrong_24 : decode cX8_firstWrong 24 = .ok (.invokevirtual 170, 3) := by decide +kernel
theorem dX8_firstWrong_27 : decode cX8_firstWrong 27 = .ok (.ifCond .ne 13, 3) := by decide +kernel
theorem dX8_firstWrong_30 : decode cX8_firstWrong 30 = .ok (.aload_n 0, 1) := by decide +kernel
theorem dX8_firstWrong_31 : decode cX8_firstWrong 31 = .ok (.iload_n 1, 1) := by decide +kernel
theorem dX8_firstWrong_32 : decode cX8_firstWrong 32 = .ok (.iload_n 2, 1) := by decide +kernel
theorem dX8_firstWrong_33 : decode cX8_firstWrong 33 = .ok (.iconst 3, 1) := by decide +kernel
theorem dX8_firstWrong_34 : decode cX8_firstWrong 34 = .ok (.invokevirtual 170, 3) := by decide +kernel
theorem dX8_firstWrong_37 : decode cX8_firstWrong 37 = .ok (.ifCond .eq 5, 3) := by decide +kernel
theorem dX8_firstWrong_40 : decode cX8_firstWrong 40 = .ok (.iload_n 2, 1) := by decide +kernel
theorem dX8_firstWrong_41 : decode cX8_firstWrong 41 = .ok (.ireturn, 1) := by decide +kernel
theorem dX8_firstWrong_42 : decode cX8_firstWrong 42 = .ok (.iinc 2 1, 3) := by decide +kernel
theorem dX8_firstWrong_45 : decode cX8_firstWrong 45 = .ok (.goto (-43), 3) := by decide +kernel
theorem dX8_firstWrong_48 : decode cX8_firstWrong 48 = .ok (.iconst (-1), 1) := by decide +kernel
theorem dX8_firstWrong_49 : decode cX8_firstWrong 49 = .ok (.ireturn, 1) := by decide +kernel
theorem dX8_wrong_0 : decode cX8_wrong 0 = .ok (.aload_n 0, 1) := by decide +kernel
theorem dX8_wrong_1 : decode cX8_wrong 1 = .ok (.invokevirtual 193, 3) := by decide +kernel
theorem dX8_wrong_4 : decode cX8_wrong 4 = .ok (.istore_n 2, 1) := by decide +kernel
theorem dX8_wrong_5 : decode cX8_wrong 5 = .ok (.aload_n 0, 1) := by decide +kernel
theorem dX8_wrong_6 : decode cX8_wrong 6 = .ok (.iload_n 2, 1) := by decide +kernel
theorem dX8_wrong_7 : decode cX8_wrong 7 = .ok (.invokevirtual 245, 3) := by decide +kernel
theorem dX8_wrong_10 : decode cX8_wrong 10 = .ok (.istore_n 3, 1) := by decide +kernel
theorem dX8_wrong_11 : decode cX8_wrong 11 = .ok (.iload_n 1, 1) := by decide +kernel
theorem dX8_wrong_12 : decode cX8_wrong 12 = .ok (.tableswitch 81 0 6 #[44, 44, 51, 44, 57, 63, 79], 44) := by decide +kernel
theorem dX8_wrong_56 : decode cX8_wrong 56 = .ok (.aload_n 0, 1) := by decide +kernel
theorem dX8_wrong_57 : decode cX8_wrong 57 = .ok (.iload_n 2, 1) := by decide +kernel
theorem dX8_wrong_58 : decode cX8_wrong 58 = .ok (.iload_n 1, 1) := by decide +kernel
theorem dX8_wrong_59 : decode cX8_wrong 59 = .ok (.invokevirtual 173, 3) := by decide +kernel
theorem dX8_wrong_62 : decode cX8_wrong 62 = .ok (.ireturn, 1) := by decide +kernel
theorem dX8_wrong_63 : decode cX8_wrong 63 = .ok (.aload_n 0, 1) := by decide +kernel
theorem dX8_wrong_64 : decode cX8_wrong 64 = .ok (.iload_n 2, 1) := by decide +kernel
theorem dX8_wrong_65 : decode cX8_wrong 65 = .ok (.invokevirtual 248, 3) := by decide +kernel
theorem dX8_wrong_68 : decode cX8_wrong 68 = .ok (.ireturn, 1) := by decide +kernel
theorem dX8_wrong_69 : decode cX8_wrong 69 = .ok (.aload_n 0, 1) := by decide +kernel
theorem dX8_wrong_70 : decode cX8_wrong 70 = .ok (.iload_n 2, 1) := by decide +kernel
theorem dX8_wrong_71 : decode cX8_wrong 71 = .ok (.invokevirtual 176, 3) := by decide +kernel
theorem dX8_wrong_74 : decode cX8_wrong 74 = .ok (.ireturn, 1) := by decide +kernel
theorem dX8_wrong_75 : decode cX8_wrong 75 = .ok (.iload_n 3, 1) := by decide +kernel
theorem dX8_wrong_76 : decode cX8_wrong 76 = .ok (.iconst (-1), 1) := by decide +kernel
theorem dX8_wrong_77 : decode cX8_wrong 77 = .ok (.if_icmp .ne 7, 3) := by decide +kernel
theorem dX8_wrong_80 : decode cX8_wrong 80 = .ok (.iconst (-1), 1) := by decide +kernel
theorem dX8_wrong_81 : decode cX8_wrong 81 = .ok (.goto 9, 3) := by decide +kernel
theorem dX8_wrong_84 : decode cX8_wrong 84 = .ok (.aload_n 0, 1) := by decide +kernel
theorem dX8_wrong_85 : decode cX8_wrong 85 = .ok (.getfield 29, 3) := by decide +kernel
theorem dX8_wrong_88 : decode cX8_wrong 88 = .ok (.iload_n 3, 1) := by decide +kernel
theorem dX8_wrong_89 : decode cX8_wrong 89 = .ok (.iaload, 1) := by decide +kernel
theorem dX8_wrong_90 : decode cX8_wrong 90 = .ok (.ireturn, 1) := by decide +kernel
theorem dX8_wrong_91 : decode cX8_wrong 91 = .ok (.iload_n 3, 1) := by decide +kernel
theorem dX8_wrong_92 : decode cX8_wrong 92 = .ok (.ireturn, 1) := by decide +kernel
theorem dX8_wrong_93 : decode cX8_wrong 93 = .ok (.ldc 88, 2) := by decide +kernel
theorem dX8_wrong_95 : decode cX8_wrong 95 = .ok (.ireturn, 1) := by decide +kernel
theorem dX8_clause_0 : decode cX8_clause 0 = .ok (.aload_n 0, 1) := by decide +kernel
theorem dX8_clause_1 : decode cX8_clause 1 = .ok (.iload_n 1, 1) := by decide +kernel
theorem dX8_clause_2 : decode cX8_clause 2 = .ok (.invokevirtual 190, 3) := by decide +kernel
theorem dX8_clause_5 : decode cX8_clause 5 = .ok (.ifCond .ne 6, 3) := by decide +kernel
theorem dX8_clause_8 : decode cX8_clause 8 = .ok (.ldc 182, 2) := by decide +kernel
theorem dX8_clause_10 : decode cX8_clause 10 = .ok (.ireturn, 1) := by decide +kernel
theorem dX8_clause_11 : decode cX8_clause 11 = .ok (.iconst 0, 1) := by decide +kernel
theorem dX8_clause_12 : decode cX8_clause 12 = .ok (.istore_n 3, 1) := by decide +kernel
theorem dX8_clause_13 : decode cX8_clause 13 = .ok (.iload_n 2, 1) := by decide +kernel
theorem dX8_clause_14 : decode cX8_clause 14 = .ok (.tableswitch 262 0 9 #[54, 61, 67, 109, 116, 123, 130, 169, 187, 204], 54) := by decide +kernel
theorem dX8_clause_68 : decode cX8_clause 68 = .ok (.aload_n 0, 1) := by decide +kernel
theorem dX8_clause_69 : decode cX8_clause 69 = .ok (.getfield 17, 3) := by decide +kernel
theorem dX8_clause_72 : decode cX8_clause 72 = .ok (.iload_n 1, 1) := by decide +kernel
theorem dX8_clause_73 : decode cX8_clause 73 = .ok (.iaload, 1) := by decide +kernel
theorem dX8_clause_74 : decode cX8_clause 74 = .ok (.ireturn, 1) := by decide +kernel
theorem dX8_clause_75 : decode cX8_clause 75 = .ok (.aload_n 0, 1) := by decide +kernel
theorem dX8_clause_76 : decode cX8_clause 76 = .ok (.iload_n 1, 1) := by decide +kernel
theorem dX8_clause_77 : decode cX8_clause 77 = .ok (.invokevirtual 214, 3) := by decide +kernel
theorem dX8_clause_80 : decode cX8_clause 80 = .ok (.ireturn, 1) := by decide +kernel
theorem dX8_clause_81 : decode cX8_clause 81 = .ok (.iconst 0, 1) := by decide +kernel
theorem dX8_clause_82 : decode cX8_clause 82 = .ok (.istore 4, 2) := by decide +kernel
theorem dX8_clause_84 : decode cX8_clause 84 = .ok (.iload 4, 2) := by decide +kernel
theorem dX8_clause_86 : decode cX8_clause 86 = .ok (.aload_n 0, 1) := by decide +kernel
theorem dX8_clause_87 : decode cX8_clause 87 = .ok (.getfield 81, 3) := by decide +kernel
theorem dX8_clause_90 : decode cX8_clause 90 = .ok (.if_icmp .ge 31, 3) := by decide +kernel
theorem dX8_clause_93 : decode cX8_clause 93 = .ok (.iload_n 3, 1) := by decide +kernel
theorem dX8_clause_94 : decode cX8_clause 94 = .ok (.aload_n 0, 1) := by decide +kernel
theorem dX8_clause_95 : decode cX8_clause 95 = .ok (.getfield 17, 3) := by decide +kernel
theorem dX8_clause_98 : decode cX8_clause 98 = .ok (.iload 4, 2) := by decide +kernel
theorem dX8_clause_100 : decode cX8_clause 100 = .ok (.iaload, 1) := by decide +kernel
theorem dX8_clause_101 : decode cX8_clause 101 = .ok (.iload_n 1, 1) := by decide +kernel
theorem dX8_clause_102 : decode cX8_clause 102 = .ok (.if_icmp .ne 10, 3) := by decide +kernel
theorem dX8_clause_105 : decode cX8_clause 105 = .ok (.iconst 1, 1) := by decide +kernel
theorem dX8_clause_106 : decode cX8_clause 106 = .ok (.iload 4, 2) := by decide +kernel
theorem dX8_clause_108 : decode cX8_clause 108 = .ok (.ishl, 1) := by decide +kernel
theorem dX8_clause_109 : decode cX8_clause 109 = .ok (.goto 4, 3) := by decide +kernel
theorem dX8_clause_112 : decode cX8_clause 112 = .ok (.iconst 0, 1) := by decide +kernel
theorem dX8_clause_113 : decode cX8_clause 113 = .ok (.ior, 1) := by decide +kernel
theorem dX8_clause_114 : decode cX8_clause 114 = .ok (.istore_n 3, 1) := by decide +kernel
theorem dX8_clause_115 : decode cX8_clause 115 = .ok (.iinc 4 1, 3) := by decide +kernel
theorem dX8_clause_118 : decode cX8_clause 118 = .ok (.goto (-34), 3) := by decide +kernel
theorem dX8_clause_121 : decode cX8_clause 121 = .ok (.iload_n 3, 1) := by decide +kernel
theorem dX8_clause_122 : decode cX8_clause 122 = .ok (.ireturn, 1) := by decide +kernel
theorem dX8_clause_123 : decode cX8_clause 123 = .ok (.aload_n 0, 1) := by decide +kernel
theorem dX8_clause_124 : decode cX8_clause 124 = .ok (.getfield 20, 3) := by decide +kernel
theorem dX8_clause_127 : decode cX8_clause 127 = .ok (.iload_n 1, 1) := by decide +kernel
theorem dX8_clause_128 : decode cX8_clause 128 = .ok (.iaload, 1) := by decide +kernel
theorem dX8_clause_129 : decode cX8_clause 129 = .ok (.ireturn, 1) := by decide +kernel
theorem dX8_clause_130 : decode cX8_clause 130 = .ok (.aload_n 0, 1) := by decide +kernel
theorem dX8_clause_131 : decode cX8_clause 131 = .ok (.getfield 23, 3) := by decide +kernel
theorem dX8_clause_134 : decode cX8_clause 134 = .ok (.iload_n 1, 1) := by decide +kernel
theorem dX8_clause_135 : decode cX8_clause 135 = .ok (.iaload, 1) := by decide +kernel
theorem dX8_clause_136 : decode cX8_clause 136 = .ok (.ireturn, 1) := by decide +kernel
theorem dX8_clause_137 : decode cX8_clause 137 = .ok (.aload_n 0, 1) := by decide +kernel
theorem dX8_clause_138 : decode cX8_clause 138 = .ok (.getfield 26, 3) := by decide +kernel
theorem dX8_clause_141 : decode cX8_clause 141 = .ok (.iload_n 1, 1) := by decide +kernel
theorem dX8_clause_142 : decode cX8_clause 142 = .ok (.iaload, 1) := by decide +kernel
theorem dX8_clause_143 : decode cX8_clause 143 = .ok (.ireturn, 1) := by decide +kernel
theorem dX8_clause_144 : decode cX8_clause 144 = .ok (.iconst 0, 1) := by decide +kernel
theorem dX8_clause_145 : decode cX8_clause 145 = .ok (.istore 4, 2) := by decide +kernel
theorem dX8_clause_147 : decode cX8_clause 147 = .ok (.iload 4, 2) := by decide +kernel
theorem dX8_clause_149 : decode cX8_clause 149 = .ok (.aload_n 0, 1) := by decide +kernel
theorem dX8_clause_150 : decode cX8_clause 150 = .ok (.getfield 138, 3) := by decide +kernel
theorem dX8_clause_153 : decode cX8_clause 153 = .ok (.if_icmp .ge 28, 3) := by decide +kernel
theorem dX8_clause_156 : decode cX8_clause 156 = .ok (.iload_n 3, 1) := by decide +kernel
theorem dX8_clause_157 : decode cX8_clause 157 = .ok (.aload_n 0, 1) := by decide +kernel
theorem dX8_clause_158 : decode cX8_clause 158 = .ok (.getfield 29, 3) := by decide +kernel
theorem dX8_clause_161 : decode cX8_clause 161 = .ok (.iload 4, 2) := by decide +kernel
theorem dX8_clause_163 : decode cX8_clause 163 = .ok (.iaload, 1) := by decide +kernel
theorem dX8_clause_164 : decode cX8_clause 164 = .ok (.iload_n 1, 1) := by decide +kernel
theorem dX8_clause_165 : decode cX8_clause 165 = .ok (.if_icmp .ne 7, 3) := by decide +kernel
theorem dX8_clause_168 : decode cX8_clause 168 = .ok (.iconst 1, 1) := by decide +kernel
theorem dX8_clause_169 : decode cX8_clause 169 = .ok (.goto 4, 3) := by decide +kernel
theorem dX8_clause_172 : decode cX8_clause 172 = .ok (.iconst 0, 1) := by decide +kernel
theorem dX8_clause_173 : decode cX8_clause 173 = .ok (.iadd, 1) := by decide +kernel
theorem dX8_clause_174 : decode cX8_clause 174 = .ok (.istore_n 3, 1) := by decide +kernel
theorem dX8_clause_175 : decode cX8_clause 175 = .ok (.iinc 4 1, 3) := by decide +kernel
theorem dX8_clause_178 : decode cX8_clause 178 = .ok (.goto (-31), 3) := by decide +kernel
theorem dX8_clause_181 : decode cX8_clause 181 = .ok (.iload_n 3, 1) := by decide +kernel
theorem dX8_clause_182 : decode cX8_clause 182 = .ok (.ireturn, 1) := by decide +kernel
theorem dX8_clause_183 : decode cX8_clause 183 = .ok (.aload_n 0, 1) := by decide +kernel
theorem dX8_clause_184 : decode cX8_clause 184 = .ok (.iload_n 1, 1) := by decide +kernel
theorem dX8_clause_185 : decode cX8_clause 185 = .ok (.aload_n 0, 1) := by decide +kernel
theorem dX8_clause_186 : decode cX8_clause 186 = .ok (.getfield 153, 3) := by decide +kernel
theorem dX8_clause_189 : decode cX8_clause 189 = .ok (.invokevirtual 147, 3) := by decide +kernel
theorem dX8_clause_192 : decode cX8_clause 192 = .ok (.ifCond .eq 7, 3) := by decide +kernel
theorem dX8_clause_195 : decode cX8_clause 195 = .ok (.iconst 1, 1) := by decide +kernel
theorem dX8_clause_196 : decode cX8_clause 196 = .ok (.goto 4, 3) := by decide +kernel
theorem dX8_clause_199 : decode cX8_clause 199 = .ok (.iconst 0, 1) := by decide +kernel
theorem dX8_clause_200 : decode cX8_clause 200 = .ok (.ireturn, 1) := by decide +kernel
theorem dX8_clause_201 : decode cX8_clause 201 = .ok (.aload_n 0, 1) := by decide +kernel
theorem dX8_clause_202 : decode cX8_clause 202 = .ok (.invokevirtual 193, 3) := by decide +kernel
theorem dX8_clause_205 : decode cX8_clause 205 = .ok (.iload_n 1, 1) := by decide +kernel
theorem dX8_clause_206 : decode cX8_clause 206 = .ok (.invokestatic 118, 3) := by decide +kernel
theorem dX8_clause_209 : decode cX8_clause 209 = .ok (.ifCond .eq 7, 3) := by decide +kernel
theorem dX8_clause_212 : decode cX8_clause 212 = .ok (.iconst 1, 1) := by decide +kernel
theorem dX8_clause_213 : decode cX8_clause 213 = .ok (.goto 4, 3) := by decide +kernel
theorem dX8_clause_216 : decode cX8_clause 216 = .ok (.iconst 0, 1) := by decide +kernel
theorem dX8_clause_217 : decode cX8_clause 217 = .ok (.ireturn, 1) := by decide +kernel
theorem dX8_clause_218 : decode cX8_clause 218 = .ok (.iconst 0, 1) := by decide +kernel
theorem dX8_clause_219 : decode cX8_clause 219 = .ok (.istore 4, 2) := by decide +kernel
theorem dX8_clause_221 : decode cX8_clause 221 = .ok (.iload 4, 2) := by decide +kernel
theorem dX8_clause_223 : decode cX8_clause 223 = .ok (.aload_n 0, 1) := by decide +kernel
theorem dX8_clause_224 : decode cX8_clause 224 = .ok (.getfield 138, 3) := by decide +kernel
theorem dX8_clause_227 : decode cX8_clause 227 = .ok (.if_icmp .ge 47, 3) := by decide +kernel
theorem dX8_clause_230 : decode cX8_clause 230 = .ok (.iload_n 3, 1) := by decide +kernel
theorem dX8_clause_231 : decode cX8_clause 231 = .ok (.aload_n 0, 1) := by decide +kernel
theorem dX8_clause_232 : decode cX8_clause 232 = .ok (.getfield 32, 3) := by decide +kernel
theorem dX8_clause_235 : decode cX8_clause 235 = .ok (.iload 4, 2) := by decide +kernel
theorem dX8_clause_237 : decode cX8_clause 237 = .ok (.iaload, 1) := by decide +kernel
theorem dX8_clause_238 : decode cX8_clause 238 = .ok (.iconst 2, 1) := by decide +kernel
theorem dX8_clause_239 : decode cX8_clause 239 = .ok (.if_icmp .ne 26, 3) := by decide +kernel
theorem dX8_clause_242 : decode cX8_clause 242 = .ok (.aload_n 0, 1) := by decide +kernel
theorem dX8_clause_243 : decode cX8_clause 243 = .ok (.getfield 35, 3) := by decide +kernel
theorem dX8_clause_246 : decode cX8_clause 246 = .ok (.iload 4, 2) := by decide +kernel
theorem dX8_clause_248 : decode cX8_clause 248 = .ok (.iaload, 1) := by decide +kernel
theorem dX8_clause_249 : decode cX8_clause 249 = .ok (.iload_n 1, 1) := by decide +kernel
theorem dX8_clause_250 : decode cX8_clause 250 = .ok (.if_icmp .ne 15, 3) := by decide +kernel
theorem dX8_clause_253 : decode cX8_clause 253 = .ok (.iconst 1, 1) := by decide +kernel
theorem dX8_clause_254 : decode cX8_clause 254 = .ok (.aload_n 0, 1) := by decide +kernel
theorem dX8_clause_255 : decode cX8_clause 255 = .ok (.getfield 29, 3) := by decide +kernel
theorem dX8_clause_258 : decode cX8_clause 258 = .ok (.iload 4, 2) := by decide +kernel
theorem dX8_clause_260 : decode cX8_clause 260 = .ok (.iaload, 1) := by decide +kernel
theorem dX8_clause_261 : decode cX8_clause 261 = .ok (.ishl, 1) := by decide +kernel
theorem dX8_clause_262 : decode cX8_clause 262 = .ok (.goto 4, 3) := by decide +kernel
theorem dX8_clause_265 : decode cX8_clause 265 = .ok (.iconst 0, 1) := by decide +kernel
theorem dX8_clause_266 : decode cX8_clause 266 = .ok (.ior, 1) := by decide +kernel
theorem dX8_clause_267 : decode cX8_clause 267 = .ok (.istore_n 3, 1) := by decide +kernel
theorem dX8_clause_268 : decode cX8_clause 268 = .ok (.iinc 4 1, 3) := by decide +kernel
theorem dX8_clause_271 : decode cX8_clause 271 = .ok (.goto (-50), 3) := by decide +kernel
theorem dX8_clause_274 : decode cX8_clause 274 = .ok (.iload_n 3, 1) := by decide +kernel
theorem dX8_clause_275 : decode cX8_clause 275 = .ok (.ireturn, 1) := by decide +kernel
theorem dX8_clause_276 : decode cX8_clause 276 = .ok (.ldc 88, 2) := by decide +kernel
theorem dX8_clause_278 : decode cX8_clause 278 = .ok (.ireturn, 1) := by decide +kernel
def FX8_writesAll_J149 (σ : SS) (rec : Int32 → SS → Option (Int32 × SS)) (v1 : Int32) (v2 : Int32) (v3 : Int32) : Option (Int32 × SS) :=
  ob (FX8_writes σ (93 : Int32)) (fun σ26 => rec (v3 + (1 : Int32)) σ26)
set_option maxRecDepth 100000 in
set_option maxHeartbeats 4000000 in
theorem PX8_writesAll_J149 {X : Bx} {g : Gx} {r : Int32} {σr : SS} {σ : SS} (hX : Okw wsM X g cX8_writesAll 4 RX8 (some .int) ({ frames := 4, cells := 0, slots := 0, locals := 90 } : Room) (fun g => some (.int r)) σr) {rec : Int32 → SS → Option (Int32 × SS)} {v1 : Int32} {v2 : Int32} {v3 : Int32} (hrec : ∀ (w3 : Int32) (σ2 : SS), rec w3 σ2 = some (r, σr) → Vx X g.1 4 (wsM g σ2) 42 [(0, .ref (g.2.1 0)), (1, .int v1), (2, .int v2), (3, .int w3)] []) (hf : FX8_writesAll_J149 σ rec v1 v2 v3 = some (r, σr)) : Vx X g.1 4 (wsM g σ) 149 [(0, .ref (g.2.1 0)), (1, .int v1), (2, .int v2), (3, .int v3)] [] := by
  have h0 := hX.1
  rw [FX8_writesAll_J149] at hf
  refine vx_aload_n h0 dX8_writesAll_149 rfl ?_
  refine vx_bipush (v := (93 : Int32)) h0 dX8_writesAll_150 (by decide) ?_
  obtain ⟨σ26, h25, hf⟩ := ob_some hf
  refine w_callV (st := []) (ci := 8) (q0 := 0) hX (c_X8_writes h25) ce_X8_writes q1061 ⟨rfl, rfl⟩ ⟨by decide, by decide⟩ rfl rfl rfl rfl (mo_0 g _) rfl (Nat.le_of_ble_eq_true rfl) dX8_writesAll_152 ?_
  show Vx X g.1 4 (wsM g σ26) 155 [(0, .ref (g.2.1 0)), (1, .int v1), (2, .int v2), (3, .int v3)] []
  refine vx_iinc (q := 3) (v := (v3 + (1 : Int32))) (ls' := [(3, .int (v3 + (1 : Int32))), (0, .ref (g.2.1 0)), (1, .int v1), (2, .int v2)]) h0 dX8_writesAll_155 rfl rfl (by decide) rfl ?_
  refine vx_goto (tgt := 42) h0 dX8_writesAll_158 (by decide) ?_
  refine vx_sub [1, 2, 3, 0] rfl ?_
  exact hrec _ _ hf
def FX8_writesAll_J100 (σ : SS) (rec : Int32 → SS → Option (Int32 × SS)) (v1 : Int32) (v2 : Int32) (v3 : Int32) : Option (Int32 × SS) :=
  gd (inb v3 30) (if (gA σ 9 (Int32.toNatClampNeg v3)) = v2 then ob (FX8_writes σ (91 : Int32)) (fun σ18 => gd (inb v3 30) (ob (FX8_has σ18 v1 (gA σ18 11 (Int32.toNatClampNeg v3))) (fun r21 => if r21 = 0 then ob (FX8_writes σ18 (63 : Int32)) (fun σ24 => FX8_writesAll_J149 σ24 (fun a27 σ28 => rec a27 σ28) v1 v2 v3)
    else gd (inb v3 30) (ob (FX8_writesNumber σ18 v1 (gA σ18 11 (Int32.toNatClampNeg v3))) (fun σ31 => FX8_writesAll_J149 σ31 (fun a32 σ33 => rec a32 σ33) v1 v2 v3)))))
    else rec (v3 + (1 : Int32)) σ)
set_option maxRecDepth 100000 in
set_option maxHeartbeats 4000000 in
theorem PX8_writesAll_J100 {X : Bx} {g : Gx} {r : Int32} {σr : SS} {σ : SS} (hX : Okw wsM X g cX8_writesAll 4 RX8 (some .int) ({ frames := 4, cells := 0, slots := 0, locals := 90 } : Room) (fun g => some (.int r)) σr) {rec : Int32 → SS → Option (Int32 × SS)} {v1 : Int32} {v2 : Int32} {v3 : Int32} (hrec : ∀ (w3 : Int32) (σ2 : SS), rec w3 σ2 = some (r, σr) → Vx X g.1 4 (wsM g σ2) 42 [(0, .ref (g.2.1 0)), (1, .int v1), (2, .int v2), (3, .int w3)] []) (hf : FX8_writesAll_J100 σ rec v1 v2 v3 = some (r, σr)) : Vx X g.1 4 (wsM g σ) 100 [(0, .ref (g.2.1 0)), (1, .int v1), (2, .int v2), (3, .int v3)] [] := by
  have h0 := hX.1
  rw [FX8_writesAll_J100] at hf
  refine vx_aload_n h0 dX8_writesAll_100 rfl ?_
  refine mg_0_9 hX q793 dX8_writesAll_101 ?_
  refine vx_iload_n h0 dX8_writesAll_104 rfl ?_
  obtain ⟨b15, hf⟩ := gd_some hf
  refine ml_6 hX b15 dX8_writesAll_105 ?_
  refine vx_iload_n h0 dX8_writesAll_106 rfl ?_
  refine vx_icmp_ne (tgt := 155) h0 dX8_writesAll_107 (by decide) (fun c16 => ?_) (fun c16 => ?_)
  · replace hf := (if_neg c16).symm.trans hf
    refine vx_iinc (q := 3) (v := (v3 + (1 : Int32))) (ls' := [(3, .int (v3 + (1 : Int32))), (0, .ref (g.2.1 0)), (1, .int v1), (2, .int v2)]) h0 dX8_writesAll_155 rfl rfl (by decide) rfl ?_
    refine vx_goto (tgt := 42) h0 dX8_writesAll_158 (by decide) ?_
    refine vx_sub [1, 2, 3, 0] rfl ?_
    exact hrec _ _ hf
  · replace hf := (if_pos c16).symm.trans hf
    refine vx_aload_n h0 dX8_writesAll_110 rfl ?_
    refine vx_bipush (v := (91 : Int32)) h0 dX8_writesAll_111 (by decide) ?_
    obtain ⟨σ18, h17, hf⟩ := ob_some hf
    refine w_callV (st := []) (ci := 8) (q0 := 0) hX (c_X8_writes h17) ce_X8_writes q1061 ⟨rfl, rfl⟩ ⟨by decide, by decide⟩ rfl rfl rfl rfl (mo_0 g _) rfl (Nat.le_of_ble_eq_true rfl) dX8_writesAll_113 ?_
    show Vx X g.1 4 (wsM g σ18) 116 [(0, .ref (g.2.1 0)), (1, .int v1), (2, .int v2), (3, .int v3)] []
    refine vx_iload_n h0 dX8_writesAll_116 rfl ?_
    refine vx_aload_n h0 dX8_writesAll_117 rfl ?_
    refine mg_0_11 hX q795 dX8_writesAll_118 ?_
    refine vx_iload_n h0 dX8_writesAll_121 rfl ?_
    obtain ⟨b19, hf⟩ := gd_some hf
    refine ml_8 hX b19 dX8_writesAll_122 ?_
    obtain ⟨r21, h20, hf⟩ := ob_some hf
    refine w_callS (st := []) hX (c_X8_has h20) ce_X8_has q927 ⟨rfl, rfl⟩ ⟨by decide, by decide⟩ rfl rfl rfl (Nat.le_of_ble_eq_true rfl) dX8_writesAll_123 ?_
    show Vx X g.1 4 (wsM g σ18) 126 [(0, .ref (g.2.1 0)), (1, .int v1), (2, .int v2), (3, .int v3)] [.int r21]
    refine vx_if_eq (tgt := 143) h0 dX8_writesAll_126 (by decide) (fun c22 => ?_) (fun c22 => ?_)
    · replace hf := (if_pos c22).symm.trans hf
      refine vx_aload_n h0 dX8_writesAll_143 rfl ?_
      refine vx_bipush (v := (63 : Int32)) h0 dX8_writesAll_144 (by decide) ?_
      obtain ⟨σ24, h23, hf⟩ := ob_some hf
      refine w_callV (st := []) (ci := 8) (q0 := 0) hX (c_X8_writes h23) ce_X8_writes q1061 ⟨rfl, rfl⟩ ⟨by decide, by decide⟩ rfl rfl rfl rfl (mo_0 g _) rfl (Nat.le_of_ble_eq_true rfl) dX8_writesAll_146 ?_
      show Vx X g.1 4 (wsM g σ24) 149 [(0, .ref (g.2.1 0)), (1, .int v1), (2, .int v2), (3, .int v3)] []
      exact PX8_writesAll_J149 hX (fun a27 σ28 hf => hrec a27 σ28 hf) hf
    · replace hf := (if_neg c22).symm.trans hf
      refine vx_aload_n h0 dX8_writesAll_129 rfl ?_
      refine vx_iload_n h0 dX8_writesAll_130 rfl ?_
      refine vx_aload_n h0 dX8_writesAll_131 rfl ?_
      refine mg_0_11 hX q795 dX8_writesAll_132 ?_
      refine vx_iload_n h0 dX8_writesAll_135 rfl ?_
      obtain ⟨b29, hf⟩ := gd_some hf
      refine ml_8 hX b29 dX8_writesAll_136 ?_
      obtain ⟨σ31, h30, hf⟩ := ob_some hf
      refine w_callV (st := []) (ci := 8) (q0 := 0) hX (c_X8_writesNumber h30) ce_X8_writesNumber q1053 ⟨rfl, rfl⟩ ⟨by decide, by decide⟩ rfl rfl rfl rfl (mo_0 g _) rfl (Nat.le_of_ble_eq_true rfl) dX8_writesAll_137 ?_
      show Vx X g.1 4 (wsM g σ31) 140 [(0, .ref (g.2.1 0)), (1, .int v1), (2, .int v2), (3, .int v3)] []
      refine vx_goto (tgt := 149) h0 dX8_writesAll_140 (by decide) ?_
      exact PX8_writesAll_J149 hX (fun a32 σ33 hf => hrec a32 σ33 hf) hf
def FX8_writesAll_J87 (σ : SS) (rec : Int32 → SS → Option (Int32 × SS)) (v1 : Int32) (v2 : Int32) (v3 : Int32) (s0 : Int32) : Option (Int32 × SS) :=
  gd (inb v3 30) (ob (FX8_writes σ (s0 + (gA σ 11 (Int32.toNatClampNeg v3)))) (fun σ44 => rec (v3 + (1 : Int32)) σ44))
set_option maxRecDepth 100000 in
set_option maxHeartbeats 4000000 in
theorem PX8_writesAll_J87 {X : Bx} {g : Gx} {r : Int32} {σr : SS} {σ : SS} (hX : Okw wsM X g cX8_writesAll 4 RX8 (some .int) ({ frames := 4, cells := 0, slots := 0, locals := 90 } : Room) (fun g => some (.int r)) σr) {rec : Int32 → SS → Option (Int32 × SS)} {v1 : Int32} {v2 : Int32} {v3 : Int32} {s0 : Int32} (hrec : ∀ (w3 : Int32) (σ2 : SS), rec w3 σ2 = some (r, σr) → Vx X g.1 4 (wsM g σ2) 42 [(0, .ref (g.2.1 0)), (1, .int v1), (2, .int v2), (3, .int w3)] []) (hf : FX8_writesAll_J87 σ rec v1 v2 v3 s0 = some (r, σr)) : Vx X g.1 4 (wsM g σ) 87 [(0, .ref (g.2.1 0)), (1, .int v1), (2, .int v2), (3, .int v3)] [.int s0, .ref (g.2.1 0)] := by
  have h0 := hX.1
  rw [FX8_writesAll_J87] at hf
  refine vx_aload_n h0 dX8_writesAll_87 rfl ?_
  refine mg_0_11 hX q795 dX8_writesAll_88 ?_
  refine vx_iload_n h0 dX8_writesAll_91 rfl ?_
  obtain ⟨b42, hf⟩ := gd_some hf
  refine ml_8 hX b42 dX8_writesAll_92 ?_
  refine vx_iadd h0 dX8_writesAll_93 ?_
  obtain ⟨σ44, h43, hf⟩ := ob_some hf
  refine w_callV (st := []) (ci := 8) (q0 := 0) hX (c_X8_writes h43) ce_X8_writes q1061 ⟨rfl, rfl⟩ ⟨by decide, by decide⟩ rfl rfl rfl rfl (mo_0 g _) rfl (Nat.le_of_ble_eq_true rfl) dX8_writesAll_94 ?_
  show Vx X g.1 4 (wsM g σ44) 97 [(0, .ref (g.2.1 0)), (1, .int v1), (2, .int v2), (3, .int v3)] []
  refine vx_goto (tgt := 155) h0 dX8_writesAll_97 (by decide) ?_
  refine vx_iinc (q := 3) (v := (v3 + (1 : Int32))) (ls' := [(3, .int (v3 + (1 : Int32))), (0, .ref (g.2.1 0)), (1, .int v1), (2, .int v2)]) h0 dX8_writesAll_155 rfl rfl (by decide) rfl ?_
  refine vx_goto (tgt := 42) h0 dX8_writesAll_158 (by decide) ?_
  refine vx_sub [1, 2, 3, 0] rfl ?_
  exact hrec _ _ hf
def FX8_writesAll_L42 (v1 : Int32) (v2 : Int32) (k : SS → Option (Int32 × SS)) : Nat → Int32 → SS → Option (Int32 × SS)
  | 0, _, _ => none
  | n + 1, v3, σ => if (gI σ 8) ≤ v3 then k σ
    else gd (inb v3 30) (if (gA σ 9 (Int32.toNatClampNeg v3)) = v2 then gd (inb v3 30) (if (gA σ 10 (Int32.toNatClampNeg v3)) = (2 : Int32) then FX8_writesAll_J100 σ (fun a38 σ39 => FX8_writesAll_L42 v1 v2 k n a38 σ39) v1 v2 v3
    else gd (inb v3 30) (if (gA σ 10 (Int32.toNatClampNeg v3)) = 0 then FX8_writesAll_J87 σ (fun a47 σ48 => FX8_writesAll_L42 v1 v2 k n a47 σ48) v1 v2 v3 (65 : Int32)
    else FX8_writesAll_J87 σ (fun a45 σ46 => FX8_writesAll_L42 v1 v2 k n a45 σ46) v1 v2 v3 (97 : Int32)))
    else FX8_writesAll_J100 σ (fun a34 σ35 => FX8_writesAll_L42 v1 v2 k n a34 σ35) v1 v2 v3)
set_option maxRecDepth 100000 in
set_option maxHeartbeats 4000000 in
theorem PX8_writesAll_L42 {X : Bx} {g : Gx} {r : Int32} {σr : SS} (hX : Okw wsM X g cX8_writesAll 4 RX8 (some .int) ({ frames := 4, cells := 0, slots := 0, locals := 90 } : Room) (fun g => some (.int r)) σr) {v1 : Int32} {v2 : Int32} {k : SS → Option (Int32 × SS)} (hk : ∀ (σ : SS), k σ = some (r, σr) → Vx X g.1 4 (wsM g σ) 161 [(0, .ref (g.2.1 0)), (1, .int v1), (2, .int v2)] []) : ∀ (n : Nat) (v3 : Int32) (σ : SS), FX8_writesAll_L42 v1 v2 k n v3 σ = some (r, σr) → Vx X g.1 4 (wsM g σ) 42 [(0, .ref (g.2.1 0)), (1, .int v1), (2, .int v2), (3, .int v3)] [] := by
  have h0 := hX.1
  intro n
  induction n with
  | zero =>
    intro v3 σ hf
    rw [FX8_writesAll_L42] at hf
    cases hf
  | succ n ih =>
    intro v3 σ hf
    rw [FX8_writesAll_L42] at hf
    refine vx_iload_n h0 dX8_writesAll_42 rfl ?_
    refine vx_aload_n h0 dX8_writesAll_43 rfl ?_
    refine mg_0_8 hX q792 dX8_writesAll_44 ?_
    refine vx_icmp_ge (tgt := 161) h0 dX8_writesAll_47 (by decide) (fun c12 => ?_) (fun c12 => ?_)
    · replace hf := (if_pos c12).symm.trans hf
      refine vx_sub [0, 1, 2] rfl ?_
      exact hk _ hf
    · replace hf := (if_neg c12).symm.trans hf
      refine vx_aload_n h0 dX8_writesAll_50 rfl ?_
      refine mg_0_9 hX q793 dX8_writesAll_51 ?_
      refine vx_iload_n h0 dX8_writesAll_54 rfl ?_
      obtain ⟨b13, hf⟩ := gd_some hf
      refine ml_6 hX b13 dX8_writesAll_55 ?_
      refine vx_iload_n h0 dX8_writesAll_56 rfl ?_
      refine vx_icmp_ne (tgt := 100) h0 dX8_writesAll_57 (by decide) (fun c14 => ?_) (fun c14 => ?_)
      · replace hf := (if_neg c14).symm.trans hf
        exact PX8_writesAll_J100 hX (fun a34 σ35 hf => ih a34 σ35 hf) hf
      · replace hf := (if_pos c14).symm.trans hf
        refine vx_aload_n h0 dX8_writesAll_60 rfl ?_
        refine mg_0_10 hX q794 dX8_writesAll_61 ?_
        refine vx_iload_n h0 dX8_writesAll_64 rfl ?_
        obtain ⟨b36, hf⟩ := gd_some hf
        refine ml_7 hX b36 dX8_writesAll_65 ?_
        refine vx_iconst (v := (2 : Int32)) h0 dX8_writesAll_66 (by decide) ?_
        refine vx_icmp_eq (tgt := 100) h0 dX8_writesAll_67 (by decide) (fun c37 => ?_) (fun c37 => ?_)
        · replace hf := (if_pos c37).symm.trans hf
          exact PX8_writesAll_J100 hX (fun a38 σ39 hf => ih a38 σ39 hf) hf
        · replace hf := (if_neg c37).symm.trans hf
          refine vx_aload_n h0 dX8_writesAll_70 rfl ?_
          refine vx_aload_n h0 dX8_writesAll_71 rfl ?_
          refine mg_0_10 hX q794 dX8_writesAll_72 ?_
          refine vx_iload_n h0 dX8_writesAll_75 rfl ?_
          obtain ⟨b40, hf⟩ := gd_some hf
          refine ml_7 hX b40 dX8_writesAll_76 ?_
          refine vx_if_ne (tgt := 85) h0 dX8_writesAll_77 (by decide) (fun c41 => ?_) (fun c41 => ?_)
          · replace hf := (if_neg c41).symm.trans hf
            refine vx_bipush (v := (97 : Int32)) h0 dX8_writesAll_85 (by decide) ?_
            exact PX8_writesAll_J87 hX (fun a45 σ46 hf => ih a45 σ46 hf) hf
          · replace hf := (if_pos c41).symm.trans hf
            refine vx_bipush (v := (65 : Int32)) h0 dX8_writesAll_80 (by decide) ?_
            refine vx_goto (tgt := 87) h0 dX8_writesAll_82 (by decide) ?_
            exact PX8_writesAll_J87 hX (fun a47 σ48 hf => ih a47 σ48 hf) hf
def FX8_writesAll_L12 (v1 : Int32) (k : SS → Option (Int32 × SS)) : Nat → Int32 → SS → Option (Int32 × SS)
  | 0, _, _ => none
  | n + 1, v2, σ => if (gI σ 3) ≤ v2 then k σ
    else ob (FX8_has σ v1 v2) (fun r6 => if r6 = 0 then FX8_writesAll_L12 v1 k n (v2 + (1 : Int32)) σ
    else ob (FX8_writesNumber σ v1 v2) (fun σ9 => ob (FX8_writes σ9 (32 : Int32)) (fun σ11 => FX8_writesAll_L42 v1 v2 (fun σ49 => ob (FX8_writes σ49 (59 : Int32)) (fun σ51 => FX8_writesAll_L12 v1 k n (v2 + (1 : Int32)) σ51)) 5000 (0 : Int32) σ11)))
set_option maxRecDepth 100000 in
set_option maxHeartbeats 4000000 in
theorem PX8_writesAll_L12 {X : Bx} {g : Gx} {r : Int32} {σr : SS} (hX : Okw wsM X g cX8_writesAll 4 RX8 (some .int) ({ frames := 4, cells := 0, slots := 0, locals := 90 } : Room) (fun g => some (.int r)) σr) {v1 : Int32} {k : SS → Option (Int32 × SS)} (hk : ∀ (σ : SS), k σ = some (r, σr) → Vx X g.1 4 (wsM g σ) 173 [(0, .ref (g.2.1 0))] []) : ∀ (n : Nat) (v2 : Int32) (σ : SS), FX8_writesAll_L12 v1 k n v2 σ = some (r, σr) → Vx X g.1 4 (wsM g σ) 12 [(0, .ref (g.2.1 0)), (1, .int v1), (2, .int v2)] [] := by
  have h0 := hX.1
  intro n
  induction n with
  | zero =>
    intro v2 σ hf
    rw [FX8_writesAll_L12] at hf
    cases hf
  | succ n ih =>
    intro v2 σ hf
    rw [FX8_writesAll_L12] at hf
    refine vx_iload_n h0 dX8_writesAll_12 rfl ?_
    refine vx_aload_n h0 dX8_writesAll_13 rfl ?_
    refine mg_0_3 hX q787 dX8_writesAll_14 ?_
    refine vx_icmp_ge (tgt := 173) h0 dX8_writesAll_17 (by decide) (fun c4 => ?_) (fun c4 => ?_)
    · replace hf := (if_pos c4).symm.trans hf
      refine vx_sub [0] rfl ?_
      exact hk _ hf
    · replace hf := (if_neg c4).symm.trans hf
      refine vx_iload_n h0 dX8_writesAll_20 rfl ?_
      refine vx_iload_n h0 dX8_writesAll_21 rfl ?_
      obtain ⟨r6, h5, hf⟩ := ob_some hf
      refine w_callS (st := []) hX (c_X8_has h5) ce_X8_has q927 ⟨rfl, rfl⟩ ⟨by decide, by decide⟩ rfl rfl rfl (Nat.le_of_ble_eq_true rfl) dX8_writesAll_22 ?_
      show Vx X g.1 4 (wsM g σ) 25 [(0, .ref (g.2.1 0)), (1, .int v1), (2, .int v2)] [.int r6]
      refine vx_if_eq (tgt := 167) h0 dX8_writesAll_25 (by decide) (fun c7 => ?_) (fun c7 => ?_)
      · replace hf := (if_pos c7).symm.trans hf
        refine vx_iinc (q := 2) (v := (v2 + (1 : Int32))) (ls' := [(2, .int (v2 + (1 : Int32))), (0, .ref (g.2.1 0)), (1, .int v1)]) h0 dX8_writesAll_167 rfl rfl (by decide) rfl ?_
        refine vx_goto (tgt := 12) h0 dX8_writesAll_170 (by decide) ?_
        refine vx_sub [1, 2, 0] rfl ?_
        exact ih _ _ hf
      · replace hf := (if_neg c7).symm.trans hf
        refine vx_aload_n h0 dX8_writesAll_28 rfl ?_
        refine vx_iload_n h0 dX8_writesAll_29 rfl ?_
        refine vx_iload_n h0 dX8_writesAll_30 rfl ?_
        obtain ⟨σ9, h8, hf⟩ := ob_some hf
        refine w_callV (st := []) (ci := 8) (q0 := 0) hX (c_X8_writesNumber h8) ce_X8_writesNumber q1053 ⟨rfl, rfl⟩ ⟨by decide, by decide⟩ rfl rfl rfl rfl (mo_0 g _) rfl (Nat.le_of_ble_eq_true rfl) dX8_writesAll_31 ?_
        show Vx X g.1 4 (wsM g σ9) 34 [(0, .ref (g.2.1 0)), (1, .int v1), (2, .int v2)] []
        refine vx_aload_n h0 dX8_writesAll_34 rfl ?_
        refine vx_bipush (v := (32 : Int32)) h0 dX8_writesAll_35 (by decide) ?_
        obtain ⟨σ11, h10, hf⟩ := ob_some hf
        refine w_callV (st := []) (ci := 8) (q0 := 0) hX (c_X8_writes h10) ce_X8_writes q1061 ⟨rfl, rfl⟩ ⟨by decide, by decide⟩ rfl rfl rfl rfl (mo_0 g _) rfl (Nat.le_of_ble_eq_true rfl) dX8_writesAll_37 ?_
        show Vx X g.1 4 (wsM g σ11) 40 [(0, .ref (g.2.1 0)), (1, .int v1), (2, .int v2)] []
        refine vx_iconst (v := (0 : Int32)) h0 dX8_writesAll_40 (by decide) ?_
        refine vx_istore_n (ls' := [(3, .int (0 : Int32)), (0, .ref (g.2.1 0)), (1, .int v1), (2, .int v2)]) h0 dX8_writesAll_41 (by decide) rfl ?_
        refine vx_sub [1, 2, 3, 0] rfl ?_
        refine PX8_writesAll_L42 hX (fun σ49 hf => ?_) _ _ _ hf
        refine vx_aload_n h0 dX8_writesAll_161 rfl ?_
        refine vx_bipush (v := (59 : Int32)) h0 dX8_writesAll_162 (by decide) ?_
        obtain ⟨σ51, h50, hf⟩ := ob_some hf
        refine w_callV (st := []) (ci := 8) (q0 := 0) hX (c_X8_writes h50) ce_X8_writes q1061 ⟨rfl, rfl⟩ ⟨by decide, by decide⟩ rfl rfl rfl rfl (mo_0 g _) rfl (Nat.le_of_ble_eq_true rfl) dX8_writesAll_164 ?_
        show Vx X g.1 4 (wsM g σ51) 167 [(0, .ref (g.2.1 0)), (1, .int v1), (2, .int v2)] []
        refine vx_iinc (q := 2) (v := (v2 + (1 : Int32))) (ls' := [(2, .int (v2 + (1 : Int32))), (0, .ref (g.2.1 0)), (1, .int v1)]) h0 dX8_writesAll_167 rfl rfl (by decide) rfl ?_
        refine vx_goto (tgt := 12) h0 dX8_writesAll_170 (by decide) ?_
        refine vx_sub [1, 2, 0] rfl ?_
        exact ih _ _ hf
def FX8_writesAll (σ : SS) : Option (Int32 × SS) :=
  ob (FX8_now σ) (fun r2 => bd (sI σ 34 (0 : Int32)) (fun σ3 => FX8_writesAll_L12 r2 (fun σ52 => some ((gI σ52 34), σ52)) 5000 (0 : Int32) σ3))
set_option maxRecDepth 100000 in
set_option maxHeartbeats 4000000 in
theorem c_X8_writesAll {σ : SS} {r : Int32} {σr : SS} (hf : FX8_writesAll σ = some (r, σr)) : Mcw wsM yX8_writesAll cX8_writesAll 4 (some .int) ({ frames := 4, cells := 0, slots := 0, locals := 90 } : Room) (fun g => [.ref (g.2.1 0)]) σ (fun g => some (.int r)) σr := by
  refine w_enter wsM_fix (by decide) (fun g => Nat.le_of_ble_eq_true rfl) ?_
  intro X g hX
  replace hX : Okw wsM X g cX8_writesAll 4 RX8 (some .int) ({ frames := 4, cells := 0, slots := 0, locals := 90 } : Room) (fun g => some (.int r)) σr := hX
  have h0 := hX.1
  show Vx X g.1 4 (wsM g σ) 0 [(0, .ref (g.2.1 0))] []
  rw [FX8_writesAll] at hf
  refine vx_aload_n h0 dX8_writesAll_0 rfl ?_
  obtain ⟨r2, h1, hf⟩ := ob_some hf
  refine w_callV (st := []) (ci := 8) (q0 := 0) hX (c_X8_now h1) ce_X8_now q969 ⟨rfl, rfl⟩ ⟨by decide, by decide⟩ rfl rfl rfl rfl (mo_0 g _) rfl (Nat.le_of_ble_eq_true rfl) dX8_writesAll_1 ?_
  show Vx X g.1 4 (wsM g σ) 4 [(0, .ref (g.2.1 0))] [.int r2]
  refine vx_istore_n (ls' := [(1, .int r2), (0, .ref (g.2.1 0))]) h0 dX8_writesAll_4 (by decide) rfl ?_
  refine vx_aload_n h0 dX8_writesAll_5 rfl ?_
  refine vx_iconst (v := (0 : Int32)) h0 dX8_writesAll_6 (by decide) ?_
  refine mp_0_34 hX q818 dX8_writesAll_7 ?_
  generalize (sI σ 34 (0 : Int32)) = σ3 at hf ⊢
  replace hf := bd_h hf
  refine vx_iconst (v := (0 : Int32)) h0 dX8_writesAll_10 (by decide) ?_
  refine vx_istore_n (ls' := [(2, .int (0 : Int32)), (1, .int r2), (0, .ref (g.2.1 0))]) h0 dX8_writesAll_11 (by decide) rfl ?_
  refine vx_sub [2, 1, 0] rfl ?_
  refine PX8_writesAll_L12 hX (fun σ52 hf => ?_) _ _ _ hf
  refine vx_aload_n h0 dX8_writesAll_173 rfl ?_
  refine mg_0_34 hX q818 dX8_writesAll_174 ?_
  exact w_iretE hX hf dX8_writesAll_177
def FX8_told (σ : SS) (a0 : Int32) : Option (Int32 × SS) :=
  if a0 = (0 : Int32) then some ((gI σ 3), σ)
    else if a0 = (1 : Int32) then some ((gI σ 8), σ)
    else if a0 = (2 : Int32) then some ((gI σ 1), σ)
    else if a0 = (3 : Int32) then some ((gI σ 24), σ)
    else if a0 = (4 : Int32) then ob (FX8_now σ) (fun r7 => some (r7, σ))
    else if a0 = (5 : Int32) then ob (FX8_surely σ (2 : Int32)) (fun p10 => some (p10.1, p10.2))
    else if a0 = (6 : Int32) then ob (FX8_surely σ (0 : Int32)) (fun p13 => some (p13.1, p13.2))
    else if a0 = (7 : Int32) then ob (FX8_surely σ (1 : Int32)) (fun p16 => some (p16.1, p16.2))
    else if a0 = (8 : Int32) then some ((gI σ 26), σ)
    else if a0 = (9 : Int32) then ob (FX8_now σ) (fun r20 => ob (FX8_wrongBy σ r20) (fun p22 => some (p22.1, p22.2)))
    else if a0 = (10 : Int32) then ob (FX8_matters σ ((jshl (1 : Int32) (gI σ 3)) - (1 : Int32))) (fun p25 => some (p25.1, p25.2))
    else if a0 = (11 : Int32) then ob (FX8_ways σ (0 : Int32)) (fun p28 => some (p28.1, p28.2))
    else if a0 = (12 : Int32) then ob (FX8_ways σ (1 : Int32)) (fun p31 => some (p31.1, p31.2))
    else if a0 = (13 : Int32) then ob (FX8_writesAll σ) (fun p34 => some (p34.1, p34.2))
    else if a0 = (14 : Int32) then some ((gI σ 28), σ)
    else some ((-1000000002 : Int32), σ)
set_option maxRecDepth 100000 in
set_option maxHeartbeats 4000000 in
theorem c_X8_told {σ : SS} {a0 : Int32} {r : Int32} {σr : SS} (hf : FX8_told σ a0 = some (r, σr)) : Mcw wsM yX8_told cX8_told 2 (some .int) ({ frames := 6, cells := 0, slots := 0, locals := 138 } : Room) (fun g => [.ref (g.2.1 0), .int a0]) σ (fun g => some (.int r)) σr := by
  refine w_enter wsM_fix (by decide) (fun g => Nat.le_of_ble_eq_true rfl) ?_
  intro X g hX
  replace hX : Okw wsM X g cX8_told 2 RX8 (some .int) ({ frames := 6, cells := 0, slots := 0, locals := 138 } : Room) (fun g => some (.int r)) σr := hX
  have h0 := hX.1
  show Vx X g.1 2 (wsM g σ) 0 [(0, .ref (g.2.1 0)), (1, .int a0)] []
  rw [FX8_told] at hf
  refine vx_iload_n h0 dX8_told_0 rfl ?_
  by_cases c1 : a0 = (0 : Int32)
  · replace hf := (if_pos c1).symm.trans hf
    refine vx_tabK (off := 75) (tgt := 76) h0 (0 : Int32) c1 dX8_told_1 (by decide) (by decide) (by decide) (by decide) ?_
    refine vx_aload_n h0 dX8_told_76 rfl ?_
    refine mg_0_3 hX q787 dX8_told_77 ?_
    exact w_iretE hX hf dX8_told_80
  · replace hf := (if_neg c1).symm.trans hf
    by_cases c2 : a0 = (1 : Int32)
    · replace hf := (if_pos c2).symm.trans hf
      refine vx_tabK (off := 80) (tgt := 81) h0 (1 : Int32) c2 dX8_told_1 (by decide) (by decide) (by decide) (by decide) ?_
      refine vx_aload_n h0 dX8_told_81 rfl ?_
      refine mg_0_8 hX q792 dX8_told_82 ?_
      exact w_iretE hX hf dX8_told_85
    · replace hf := (if_neg c2).symm.trans hf
      by_cases c3 : a0 = (2 : Int32)
      · replace hf := (if_pos c3).symm.trans hf
        refine vx_tabK (off := 85) (tgt := 86) h0 (2 : Int32) c3 dX8_told_1 (by decide) (by decide) (by decide) (by decide) ?_
        refine vx_aload_n h0 dX8_told_86 rfl ?_
        refine mg_0_1 hX q785 dX8_told_87 ?_
        exact w_iretE hX hf dX8_told_90
      · replace hf := (if_neg c3).symm.trans hf
        by_cases c4 : a0 = (3 : Int32)
        · replace hf := (if_pos c4).symm.trans hf
          refine vx_tabK (off := 90) (tgt := 91) h0 (3 : Int32) c4 dX8_told_1 (by decide) (by decide) (by decide) (by decide) ?_
          refine vx_aload_n h0 dX8_told_91 rfl ?_
          refine mg_0_24 hX q808 dX8_told_92 ?_
          exact w_iretE hX hf dX8_told_95
        · replace hf := (if_neg c4).symm.trans hf
          by_cases c5 : a0 = (4 : Int32)
          · replace hf := (if_pos c5).symm.trans hf
            refine vx_tabK (off := 95) (tgt := 96) h0 (4 : Int32) c5 dX8_told_1 (by decide) (by decide) (by decide) (by decide) ?_
            refine vx_aload_n h0 dX8_told_96 rfl ?_
            obtain ⟨r7, h6, hf⟩ := ob_some hf
            refine w_callV (st := []) (ci := 8) (q0 := 0) hX (c_X8_now h6) ce_X8_now q969 ⟨rfl, rfl⟩ ⟨by decide, by decide⟩ rfl rfl rfl rfl (mo_0 g _) rfl (Nat.le_of_ble_eq_true rfl) dX8_told_97 ?_
            show Vx X g.1 2 (wsM g σ) 100 [(0, .ref (g.2.1 0)), (1, .int a0)] [.int r7]
            exact w_iretE hX hf dX8_told_100
          · replace hf := (if_neg c5).symm.trans hf
            by_cases c8 : a0 = (5 : Int32)
            · replace hf := (if_pos c8).symm.trans hf
              refine vx_tabK (off := 100) (tgt := 101) h0 (5 : Int32) c8 dX8_told_1 (by decide) (by decide) (by decide) (by decide) ?_
              refine vx_aload_n h0 dX8_told_101 rfl ?_
              refine vx_iconst (v := (2 : Int32)) h0 dX8_told_102 (by decide) ?_
              obtain ⟨p10, h9, hf⟩ := ob_some hf
              refine w_callV (st := []) (ci := 8) (q0 := 0) hX (c_X8_surely h9) ce_X8_surely q1005 ⟨rfl, rfl⟩ ⟨by decide, by decide⟩ rfl rfl rfl rfl (mo_0 g _) rfl (Nat.le_of_ble_eq_true rfl) dX8_told_103 ?_
              show Vx X g.1 2 (wsM g p10.2) 106 [(0, .ref (g.2.1 0)), (1, .int a0)] [.int p10.1]
              exact w_iretE hX hf dX8_told_106
            · replace hf := (if_neg c8).symm.trans hf
              by_cases c11 : a0 = (6 : Int32)
              · replace hf := (if_pos c11).symm.trans hf
                refine vx_tabK (off := 106) (tgt := 107) h0 (6 : Int32) c11 dX8_told_1 (by decide) (by decide) (by decide) (by decide) ?_
                refine vx_aload_n h0 dX8_told_107 rfl ?_
                refine vx_iconst (v := (0 : Int32)) h0 dX8_told_108 (by decide) ?_
                obtain ⟨p13, h12, hf⟩ := ob_some hf
                refine w_callV (st := []) (ci := 8) (q0 := 0) hX (c_X8_surely h12) ce_X8_surely q1005 ⟨rfl, rfl⟩ ⟨by decide, by decide⟩ rfl rfl rfl rfl (mo_0 g _) rfl (Nat.le_of_ble_eq_true rfl) dX8_told_109 ?_
                show Vx X g.1 2 (wsM g p13.2) 112 [(0, .ref (g.2.1 0)), (1, .int a0)] [.int p13.1]
                exact w_iretE hX hf dX8_told_112
              · replace hf := (if_neg c11).symm.trans hf
                by_cases c14 : a0 = (7 : Int32)
                · replace hf := (if_pos c14).symm.trans hf
                  refine vx_tabK (off := 112) (tgt := 113) h0 (7 : Int32) c14 dX8_told_1 (by decide) (by decide) (by decide) (by decide) ?_
                  refine vx_aload_n h0 dX8_told_113 rfl ?_
                  refine vx_iconst (v := (1 : Int32)) h0 dX8_told_114 (by decide) ?_
                  obtain ⟨p16, h15, hf⟩ := ob_some hf
                  refine w_callV (st := []) (ci := 8) (q0 := 0) hX (c_X8_surely h15) ce_X8_surely q1005 ⟨rfl, rfl⟩ ⟨by decide, by decide⟩ rfl rfl rfl rfl (mo_0 g _) rfl (Nat.le_of_ble_eq_true rfl) dX8_told_115 ?_
                  show Vx X g.1 2 (wsM g p16.2) 118 [(0, .ref (g.2.1 0)), (1, .int a0)] [.int p16.1]
                  exact w_iretE hX hf dX8_told_118
                · replace hf := (if_neg c14).symm.trans hf
                  by_cases c17 : a0 = (8 : Int32)
                  · replace hf := (if_pos c17).symm.trans hf
                    refine vx_tabK (off := 118) (tgt := 119) h0 (8 : Int32) c17 dX8_told_1 (by decide) (by decide) (by decide) (by decide) ?_
                    refine vx_aload_n h0 dX8_told_119 rfl ?_
                    refine mg_0_26 hX q810 dX8_told_120 ?_
                    exact w_iretE hX hf dX8_told_123
                  · replace hf := (if_neg c17).symm.trans hf
                    by_cases c18 : a0 = (9 : Int32)
                    · replace hf := (if_pos c18).symm.trans hf
                      refine vx_tabK (off := 123) (tgt := 124) h0 (9 : Int32) c18 dX8_told_1 (by decide) (by decide) (by decide) (by decide) ?_
                      refine vx_aload_n h0 dX8_told_124 rfl ?_
                      refine vx_aload_n h0 dX8_told_125 rfl ?_
                      obtain ⟨r20, h19, hf⟩ := ob_some hf
                      refine w_callV (st := [.ref (g.2.1 0)]) (ci := 8) (q0 := 0) hX (c_X8_now h19) ce_X8_now q969 ⟨rfl, rfl⟩ ⟨by decide, by decide⟩ rfl rfl rfl rfl (mo_0 g _) rfl (Nat.le_of_ble_eq_true rfl) dX8_told_126 ?_
                      show Vx X g.1 2 (wsM g σ) 129 [(0, .ref (g.2.1 0)), (1, .int a0)] [.int r20, .ref (g.2.1 0)]
                      obtain ⟨p22, h21, hf⟩ := ob_some hf
                      refine w_callV (st := []) (ci := 8) (q0 := 0) hX (c_X8_wrongBy h21) ce_X8_wrongBy q1017 ⟨rfl, rfl⟩ ⟨by decide, by decide⟩ rfl rfl rfl rfl (mo_0 g _) rfl (Nat.le_of_ble_eq_true rfl) dX8_told_129 ?_
                      show Vx X g.1 2 (wsM g p22.2) 132 [(0, .ref (g.2.1 0)), (1, .int a0)] [.int p22.1]
                      exact w_iretE hX hf dX8_told_132
                    · replace hf := (if_neg c18).symm.trans hf
                      by_cases c23 : a0 = (10 : Int32)
                      · replace hf := (if_pos c23).symm.trans hf
                        refine vx_tabK (off := 132) (tgt := 133) h0 (10 : Int32) c23 dX8_told_1 (by decide) (by decide) (by decide) (by decide) ?_
                        refine vx_aload_n h0 dX8_told_133 rfl ?_
                        refine vx_iconst (v := (1 : Int32)) h0 dX8_told_134 (by decide) ?_
                        refine vx_aload_n h0 dX8_told_135 rfl ?_
                        refine mg_0_3 hX q787 dX8_told_136 ?_
                        refine vx_ishl h0 dX8_told_139 ?_
                        refine vx_iconst (v := (1 : Int32)) h0 dX8_told_140 (by decide) ?_
                        refine vx_isub h0 dX8_told_141 ?_
                        obtain ⟨p25, h24, hf⟩ := ob_some hf
                        refine w_callV (st := []) (ci := 8) (q0 := 0) hX (c_X8_matters h24) ce_X8_matters q1041 ⟨rfl, rfl⟩ ⟨by decide, by decide⟩ rfl rfl rfl rfl (mo_0 g _) rfl (Nat.le_of_ble_eq_true rfl) dX8_told_142 ?_
                        show Vx X g.1 2 (wsM g p25.2) 145 [(0, .ref (g.2.1 0)), (1, .int a0)] [.int p25.1]
                        exact w_iretE hX hf dX8_told_145
                      · replace hf := (if_neg c23).symm.trans hf
                        by_cases c26 : a0 = (11 : Int32)
                        · replace hf := (if_pos c26).symm.trans hf
                          refine vx_tabK (off := 145) (tgt := 146) h0 (11 : Int32) c26 dX8_told_1 (by decide) (by decide) (by decide) (by decide) ?_
                          refine vx_aload_n h0 dX8_told_146 rfl ?_
                          refine vx_iconst (v := (0 : Int32)) h0 dX8_told_147 (by decide) ?_
                          obtain ⟨p28, h27, hf⟩ := ob_some hf
                          refine w_callV (st := []) (ci := 8) (q0 := 0) hX (c_X8_ways h27) ce_X8_ways q1045 ⟨rfl, rfl⟩ ⟨by decide, by decide⟩ rfl rfl rfl rfl (mo_0 g _) rfl (Nat.le_of_ble_eq_true rfl) dX8_told_148 ?_
                          show Vx X g.1 2 (wsM g p28.2) 151 [(0, .ref (g.2.1 0)), (1, .int a0)] [.int p28.1]
                          exact w_iretE hX hf dX8_told_151
                        · replace hf := (if_neg c26).symm.trans hf
                          by_cases c29 : a0 = (12 : Int32)
                          · replace hf := (if_pos c29).symm.trans hf
                            refine vx_tabK (off := 151) (tgt := 152) h0 (12 : Int32) c29 dX8_told_1 (by decide) (by decide) (by decide) (by decide) ?_
                            refine vx_aload_n h0 dX8_told_152 rfl ?_
                            refine vx_iconst (v := (1 : Int32)) h0 dX8_told_153 (by decide) ?_
                            obtain ⟨p31, h30, hf⟩ := ob_some hf
                            refine w_callV (st := []) (ci := 8) (q0 := 0) hX (c_X8_ways h30) ce_X8_ways q1045 ⟨rfl, rfl⟩ ⟨by decide, by decide⟩ rfl rfl rfl rfl (mo_0 g _) rfl (Nat.le_of_ble_eq_true rfl) dX8_told_154 ?_
                            show Vx X g.1 2 (wsM g p31.2) 157 [(0, .ref (g.2.1 0)), (1, .int a0)] [.int p31.1]
                            exact w_iretE hX hf dX8_told_157
                          · replace hf := (if_neg c29).symm.trans hf
                            by_cases c32 : a0 = (13 : Int32)
                            · replace hf := (if_pos c32).symm.trans hf
                              refine vx_tabK (off := 157) (tgt := 158) h0 (13 : Int32) c32 dX8_told_1 (by decide) (by decide) (by decide) (by decide) ?_
                              refine vx_aload_n h0 dX8_told_158 rfl ?_
                              obtain ⟨p34, h33, hf⟩ := ob_some hf
                              refine w_callV (st := []) (ci := 8) (q0 := 0) hX (c_X8_writesAll h33) ce_X8_writesAll q1049 ⟨rfl, rfl⟩ ⟨by decide, by decide⟩ rfl rfl rfl rfl (mo_0 g _) rfl (Nat.le_of_ble_eq_true rfl) dX8_told_159 ?_
                              show Vx X g.1 2 (wsM g p34.2) 162 [(0, .ref (g.2.1 0)), (1, .int a0)] [.int p34.1]
                              exact w_iretE hX hf dX8_told_162
                            · replace hf := (if_neg c32).symm.trans hf
                              by_cases c35 : a0 = (14 : Int32)
                              · replace hf := (if_pos c35).symm.trans hf
                                refine vx_tabK (off := 162) (tgt := 163) h0 (14 : Int32) c35 dX8_told_1 (by decide) (by decide) (by decide) (by decide) ?_
                                refine vx_aload_n h0 dX8_told_163 rfl ?_
                                refine mg_0_28 hX q812 dX8_told_164 ?_
                                exact w_iretE hX hf dX8_told_167
                              · replace hf := (if_neg c35).symm.trans hf
                                have nc1 : ¬ Int32.toInt a0 = 0 := lv_neT c1 rfl
                                have nc2 : ¬ Int32.toInt a0 = 1 := lv_neT c2 rfl
                                have nc3 : ¬ Int32.toInt a0 = 2 := lv_neT c3 rfl
                                have nc4 : ¬ Int32.toInt a0 = 3 := lv_neT c4 rfl
                                have nc5 : ¬ Int32.toInt a0 = 4 := lv_neT c5 rfl
                                have nc8 : ¬ Int32.toInt a0 = 5 := lv_neT c8 rfl
                                have nc11 : ¬ Int32.toInt a0 = 6 := lv_neT c11 rfl
                                have nc14 : ¬ Int32.toInt a0 = 7 := lv_neT c14 rfl
                                have nc17 : ¬ Int32.toInt a0 = 8 := lv_neT c17 rfl
                                have nc18 : ¬ Int32.toInt a0 = 9 := lv_neT c18 rfl
                                have nc23 : ¬ Int32.toInt a0 = 10 := lv_neT c23 rfl
                                have nc26 : ¬ Int32.toInt a0 = 11 := lv_neT c26 rfl
                                have nc29 : ¬ Int32.toInt a0 = 12 := lv_neT c29 rfl
                                have nc32 : ¬ Int32.toInt a0 = 13 := lv_neT c32 rfl
                                have nc35 : ¬ Int32.toInt a0 = 14 := lv_neT c35 rfl
                                refine vx_tabOut (tgt := 168) h0 dX8_told_1 (by omega) (by decide) ?_
                                refine vx_ldc h0 q898 dX8_told_168 ?_
                                exact w_iretE hX hf dX8_told_170
def FX8_idle_L4 (σ : SS) (v1 : Int32) (k : Int32 → Option (Int32)) : Nat → Int32 → Int32 → Option (Int32)
  | 0, _, _ => none
  | n + 1, v2, v3 => if (8 : Int32) ≤ v3 then k v2
    else ob (FX8_often σ v1 v3 (0 : Int32) (gI σ 8)) (fun r3 => if r3 ≤ 0 then FX8_idle_L4 σ v1 k n (v2 + (0 : Int32)) (v3 + (1 : Int32))
    else ob (FX8_often σ v1 v3 (1 : Int32) (gI σ 8)) (fun r6 => if r6 = 0 then FX8_idle_L4 σ v1 k n (v2 + (1 : Int32)) (v3 + (1 : Int32))
    else FX8_idle_L4 σ v1 k n (v2 + (0 : Int32)) (v3 + (1 : Int32))))
set_option maxRecDepth 100000 in
set_option maxHeartbeats 4000000 in
theorem PX8_idle_L4 {X : Bx} {g : Gx} {r : Int32} {σ : SS} (hX : Okw wsM X g cX8_idle 4 RX8 (some .int) ({ frames := 2, cells := 0, slots := 0, locals := 47 } : Room) (fun g => some (.int r)) σ) {v1 : Int32} {k : Int32 → Option (Int32)} (hk : ∀ (v2 : Int32), k v2 = some r → Vx X g.1 4 (wsM g σ) 52 [(2, .int v2)] []) : ∀ (n : Nat) (v2 : Int32) (v3 : Int32), FX8_idle_L4 σ v1 k n v2 v3 = some r → Vx X g.1 4 (wsM g σ) 4 [(0, .ref (g.2.1 0)), (1, .int v1), (2, .int v2), (3, .int v3)] [] := by
  have h0 := hX.1
  intro n
  induction n with
  | zero =>
    intro v2 v3 hf
    rw [FX8_idle_L4] at hf
    cases hf
  | succ n ih =>
    intro v2 v3 hf
    rw [FX8_idle_L4] at hf
    refine vx_iload_n h0 dX8_idle_4 rfl ?_
    refine vx_bipush (v := (8 : Int32)) h0 dX8_idle_5 (by decide) ?_
    refine vx_icmp_ge (tgt := 52) h0 dX8_idle_7 (by decide) (fun c1 => ?_) (fun c1 => ?_)
    · replace hf := (if_pos c1).symm.trans hf
      refine vx_sub [2] rfl ?_
      exact hk _ hf
    · replace hf := (if_neg c1).symm.trans hf
      refine vx_iload_n h0 dX8_idle_10 rfl ?_
      refine vx_aload_n h0 dX8_idle_11 rfl ?_
      refine vx_iload_n h0 dX8_idle_12 rfl ?_
      refine vx_iload_n h0 dX8_idle_13 rfl ?_
      refine vx_iconst (v := (0 : Int32)) h0 dX8_idle_14 (by decide) ?_
      refine vx_aload_n h0 dX8_idle_15 rfl ?_
      refine mg_0_8 hX q792 dX8_idle_16 ?_
      obtain ⟨r3, h2, hf⟩ := ob_some hf
      refine w_callV (st := [.int v2]) (ci := 8) (q0 := 0) hX (c_X8_often h2) ce_X8_often q1029 ⟨rfl, rfl⟩ ⟨by decide, by decide⟩ rfl rfl rfl rfl (mo_0 g _) rfl (Nat.le_of_ble_eq_true rfl) dX8_idle_19 ?_
      show Vx X g.1 4 (wsM g σ) 22 [(0, .ref (g.2.1 0)), (1, .int v1), (2, .int v2), (3, .int v3)] [.int r3, .int v2]
      refine vx_if_le (tgt := 43) h0 dX8_idle_22 (by decide) (fun c4 => ?_) (fun c4 => ?_)
      · replace hf := (if_pos c4).symm.trans hf
        refine vx_iconst (v := (0 : Int32)) h0 dX8_idle_43 (by decide) ?_
        refine vx_iadd h0 dX8_idle_44 ?_
        refine vx_istore_n (ls' := [(2, .int (v2 + (0 : Int32))), (0, .ref (g.2.1 0)), (1, .int v1), (3, .int v3)]) h0 dX8_idle_45 (by decide) rfl ?_
        refine vx_iinc (q := 3) (v := (v3 + (1 : Int32))) (ls' := [(3, .int (v3 + (1 : Int32))), (2, .int (v2 + (0 : Int32))), (0, .ref (g.2.1 0)), (1, .int v1)]) h0 dX8_idle_46 rfl rfl (by decide) rfl ?_
        refine vx_goto (tgt := 4) h0 dX8_idle_49 (by decide) ?_
        refine vx_sub [2, 3, 1, 0] rfl ?_
        exact ih _ _ hf
      · replace hf := (if_neg c4).symm.trans hf
        refine vx_aload_n h0 dX8_idle_25 rfl ?_
        refine vx_iload_n h0 dX8_idle_26 rfl ?_
        refine vx_iload_n h0 dX8_idle_27 rfl ?_
        refine vx_iconst (v := (1 : Int32)) h0 dX8_idle_28 (by decide) ?_
        refine vx_aload_n h0 dX8_idle_29 rfl ?_
        refine mg_0_8 hX q792 dX8_idle_30 ?_
        obtain ⟨r6, h5, hf⟩ := ob_some hf
        refine w_callV (st := [.int v2]) (ci := 8) (q0 := 0) hX (c_X8_often h5) ce_X8_often q1029 ⟨rfl, rfl⟩ ⟨by decide, by decide⟩ rfl rfl rfl rfl (mo_0 g _) rfl (Nat.le_of_ble_eq_true rfl) dX8_idle_33 ?_
        show Vx X g.1 4 (wsM g σ) 36 [(0, .ref (g.2.1 0)), (1, .int v1), (2, .int v2), (3, .int v3)] [.int r6, .int v2]
        refine vx_if_ne (tgt := 43) h0 dX8_idle_36 (by decide) (fun c7 => ?_) (fun c7 => ?_)
        · replace hf := (if_neg c7).symm.trans hf
          refine vx_iconst (v := (0 : Int32)) h0 dX8_idle_43 (by decide) ?_
          refine vx_iadd h0 dX8_idle_44 ?_
          refine vx_istore_n (ls' := [(2, .int (v2 + (0 : Int32))), (0, .ref (g.2.1 0)), (1, .int v1), (3, .int v3)]) h0 dX8_idle_45 (by decide) rfl ?_
          refine vx_iinc (q := 3) (v := (v3 + (1 : Int32))) (ls' := [(3, .int (v3 + (1 : Int32))), (2, .int (v2 + (0 : Int32))), (0, .ref (g.2.1 0)), (1, .int v1)]) h0 dX8_idle_46 rfl rfl (by decide) rfl ?_
          refine vx_goto (tgt := 4) h0 dX8_idle_49 (by decide) ?_
          refine vx_sub [2, 3, 1, 0] rfl ?_
          exact ih _ _ hf
        · replace hf := (if_pos c7).symm.trans hf
          refine vx_iconst (v := (1 : Int32)) h0 dX8_idle_39 (by decide) ?_
          refine vx_goto (tgt := 44) h0 dX8_idle_40 (by decide) ?_
          refine vx_iadd h0 dX8_idle_44 ?_
          refine vx_istore_n (ls' := [(2, .int (v2 + (1 : Int32))), (0, .ref (g.2.1 0)), (1, .int v1), (3, .int v3)]) h0 dX8_idle_45 (by decide) rfl ?_
          refine vx_iinc (q := 3) (v := (v3 + (1 : Int32))) (ls' := [(3, .int (v3 + (1 : Int32))), (2, .int (v2 + (1 : Int32))), (0, .ref (g.2.1 0)), (1, .int v1)]) h0 dX8_idle_46 rfl rfl (by decide) rfl ?_
          refine vx_goto (tgt := 4) h0 dX8_idle_49 (by decide) ?_
          refine vx_sub [2, 3, 1, 0] rfl ?_
          exact ih _ _ hf
def FX8_idle (σ : SS) (a0 : Int32) : Option (Int32) :=
  FX8_idle_L4 σ a0 (fun u8 => some u8) 5000 (0 : Int32) (0 : Int32)
set_option maxRecDepth 100000 in
set_option maxHeartbeats 4000000 in
theorem c_X8_idle {σ : SS} {a0 : Int32} {r : Int32} (hf : FX8_idle σ a0 = some r) : Mcw wsM yX8_idle cX8_idle 4 (some .int) ({ frames := 2, cells := 0, slots := 0, locals := 47 } : Room) (fun g => [.ref (g.2.1 0), .int a0]) σ (fun g => some (.int r)) σ := by
  refine w_enter wsM_fix (by decide) (fun g => Nat.le_of_ble_eq_true rfl) ?_
  intro X g hX
  replace hX : Okw wsM X g cX8_idle 4 RX8 (some .int) ({ frames := 2, cells := 0, slots := 0, locals := 47 } : Room) (fun g => some (.int r)) σ := hX
  have h0 := hX.1
  show Vx X g.1 4 (wsM g σ) 0 [(0, .ref (g.2.1 0)), (1, .int a0)] []
  rw [FX8_idle] at hf
  refine vx_iconst (v := (0 : Int32)) h0 dX8_idle_0 (by decide) ?_
  refine vx_istore_n (ls' := [(2, .int (0 : Int32)), (0, .ref (g.2.1 0)), (1, .int a0)]) h0 dX8_idle_1 (by decide) rfl ?_
  refine vx_iconst (v := (0 : Int32)) h0 dX8_idle_2 (by decide) ?_
  refine vx_istore_n (ls' := [(3, .int (0 : Int32)), (2, .int (0 : Int32)), (0, .ref (g.2.1 0)), (1, .int a0)]) h0 dX8_idle_3 (by decide) rfl ?_
  refine vx_sub [2, 3, 1, 0] rfl ?_
  refine PX8_idle_L4 hX (fun u8 hf => ?_) _ _ _ hf
  refine vx_iload_n h0 dX8_idle_52 rfl ?_
  exact w_iretP hX hf dX8_idle_53
def FX8_firstWrong_L2 (σ : SS) (v1 : Int32) (k : Option (Int32)) : Nat → Int32 → Option (Int32)
  | 0, _ => none
  | n + 1, v2 => if (gI σ 8) ≤ v2 then k
    else ob (FX8_isWrong σ v1 v2 (0 : Int32)) (fun r3 => if r3 = 0 then ob (FX8_isWrong σ v1 v2 (1 : Int32)) (fun r6 => if r6 = 0 then ob (FX8_isWrong σ v1 v2 (3 : Int32)) (fun r9 => if r9 = 0 then FX8_firstWrong_L2 σ v1 k n (v2 + (1 : Int32))
    else some v2)
    else some v2)
    else some v2)
set_option maxRecDepth 100000 in
set_option maxHeartbeats 4000000 in
theorem PX8_firstWrong_L2 {X : Bx} {g : Gx} {r : Int32} {σ : SS} (hX : Okw wsM X g cX8_firstWrong 3 RX8 (some .int) ({ frames := 3, cells := 0, slots := 0, locals := 70 } : Room) (fun g => some (.int r)) σ) {v1 : Int32} {k : Option (Int32)} (hk : k = some r → Vx X g.1 3 (wsM g σ) 48 [] []) : ∀ (n : Nat) (v2 : Int32), FX8_firstWrong_L2 σ v1 k n v2 = some r → Vx X g.1 3 (wsM g σ) 2 [(0, .ref (g.2.1 0)), (1, .int v1), (2, .int v2)] [] := by
  have h0 := hX.1
  intro n
  induction n with
  | zero =>
    intro v2 hf
    rw [FX8_firstWrong_L2] at hf
    cases hf
  | succ n ih =>
    intro v2 hf
    rw [FX8_firstWrong_L2] at hf
    refine vx_iload_n h0 dX8_firstWrong_2 rfl ?_
    refine vx_aload_n h0 dX8_firstWrong_3 rfl ?_
    refine mg_0_8 hX q792 dX8_firstWrong_4 ?_
    refine vx_icmp_ge (tgt := 48) h0 dX8_firstWrong_7 (by decide) (fun c1 => ?_) (fun c1 => ?_)
    · replace hf := (if_pos c1).symm.trans hf
      refine vx_sub [] rfl ?_
      exact hk hf
    · replace hf := (if_neg c1).symm.trans hf
      refine vx_aload_n h0 dX8_firstWrong_10 rfl ?_
      refine vx_iload_n h0 dX8_firstWrong_11 rfl ?_
      refine vx_iload_n h0 dX8_firstWrong_12 rfl ?_
      refine vx_iconst (v := (0 : Int32)) h0 dX8_firstWrong_13 (by decide) ?_
      obtain ⟨r3, h2, hf⟩ := ob_some hf
      refine w_callV (st := []) (ci := 8) (q0 := 0) hX (c_X8_isWrong h2) ce_X8_isWrong q1025 ⟨rfl, rfl⟩ ⟨by decide, by decide⟩ rfl rfl rfl rfl (mo_0 g _) rfl (Nat.le_of_ble_eq_true rfl) dX8_firstWrong_14 ?_
      show Vx X g.1 3 (wsM g σ) 17 [(0, .ref (g.2.1 0)), (1, .int v1), (2, .int v2)] [.int r3]
      refine vx_if_ne (tgt := 40) h0 dX8_firstWrong_17 (by decide) (fun c4 => ?_) (fun c4 => ?_)
      · replace hf := (if_neg c4).symm.trans hf
        refine vx_iload_n h0 dX8_firstWrong_40 rfl ?_
        exact w_iretP hX hf dX8_firstWrong_41
      · replace hf := (if_pos c4).symm.trans hf
        refine vx_aload_n h0 dX8_firstWrong_20 rfl ?_
        refine vx_iload_n h0 dX8_firstWrong_21 rfl ?_
        refine vx_iload_n h0 dX8_firstWrong_22 rfl ?_
        refine vx_iconst (v := (1 : Int32)) h0 dX8_firstWrong_23 (by decide) ?_
        obtain ⟨r6, h5, hf⟩ := ob_some hf
        refine w_callV (st := []) (ci := 8) (q0 := 0) hX (c_X8_isWrong h5) ce_X8_isWrong q1025 ⟨rfl, rfl⟩ ⟨by decide, by decide⟩ rfl rfl rfl rfl (mo_0 g _) rfl (Nat.le_of_ble_eq_true rfl) dX8_firstWrong_24 ?_
        show Vx X g.1 3 (wsM g σ) 27 [(0, .ref (g.2.1 0)), (1, .int v1), (2, .int v2)] [.int r6]
        refine vx_if_ne (tgt := 40) h0 dX8_firstWrong_27 (by decide) (fun c7 => ?_) (fun c7 => ?_)
        · replace hf := (if_neg c7).symm.trans hf
          refine vx_iload_n h0 dX8_firstWrong_40 rfl ?_
          exact w_iretP hX hf dX8_firstWrong_41
        · replace hf := (if_pos c7).symm.trans hf
          refine vx_aload_n h0 dX8_firstWrong_30 rfl ?_
          refine vx_iload_n h0 dX8_firstWrong_31 rfl ?_
          refine vx_iload_n h0 dX8_firstWrong_32 rfl ?_
          refine vx_iconst (v := (3 : Int32)) h0 dX8_firstWrong_33 (by decide) ?_
          obtain ⟨r9, h8, hf⟩ := ob_some hf
          refine w_callV (st := []) (ci := 8) (q0 := 0) hX (c_X8_isWrong h8) ce_X8_isWrong q1025 ⟨rfl, rfl⟩ ⟨by decide, by decide⟩ rfl rfl rfl rfl (mo_0 g _) rfl (Nat.le_of_ble_eq_true rfl) dX8_firstWrong_34 ?_
          show Vx X g.1 3 (wsM g σ) 37 [(0, .ref (g.2.1 0)), (1, .int v1), (2, .int v2)] [.int r9]
          refine vx_if_eq (tgt := 42) h0 dX8_firstWrong_37 (by decide) (fun c10 => ?_) (fun c10 => ?_)
          · replace hf := (if_pos c10).symm.trans hf
            refine vx_iinc (q := 2) (v := (v2 + (1 : Int32))) (ls' := [(2, .int (v2 + (1 : Int32))), (0, .ref (g.2.1 0)), (1, .int v1)]) h0 dX8_firstWrong_42 rfl rfl (by decide) rfl ?_
            refine vx_goto (tgt := 2) h0 dX8_firstWrong_45 (by decide) ?_
            refine vx_sub [1, 2, 0] rfl ?_
            exact ih _ hf
          · replace hf := (if_neg c10).symm.trans hf
            refine vx_iload_n h0 dX8_firstWrong_40 rfl ?_
            exact w_iretP hX hf dX8_firstWrong_41
def FX8_firstWrong (σ : SS) (a0 : Int32) : Option (Int32) :=
  FX8_firstWrong_L2 σ a0 (some (-1 : Int32)) 5000 (0 : Int32)
set_option maxRecDepth 100000 in
set_option maxHeartbeats 4000000 in
theorem c_X8_firstWrong {σ : SS} {a0 : Int32} {r : Int32} (hf : FX8_firstWrong σ a0 = some r) : Mcw wsM yX8_firstWrong cX8_firstWrong 3 (some .int) ({ frames := 3, cells := 0, slots := 0, locals := 70 } : Room) (fun g => [.ref (g.2.1 0), .int a0]) σ (fun g => some (.int r)) σ := by
  refine w_enter wsM_fix (by decide) (fun g => Nat.le_of_ble_eq_true rfl) ?_
  intro X g hX
  replace hX : Okw wsM X g cX8_firstWrong 3 RX8 (some .int) ({ frames := 3, cells := 0, slots := 0, locals := 70 } : Room) (fun g => some (.int r)) σ := hX
  have h0 := hX.1
  show Vx X g.1 3 (wsM g σ) 0 [(0, .ref (g.2.1 0)), (1, .int a0)] []
  rw [FX8_firstWrong] at hf
  refine vx_iconst (v := (0 : Int32)) h0 dX8_firstWrong_0 (by decide) ?_
  refine vx_istore_n (ls' := [(2, .int (0 : Int32)), (0, .ref (g.2.1 0)), (1, .int a0)]) h0 dX8_firstWrong_1 (by decide) rfl ?_
  refine vx_sub [1, 2, 0] rfl ?_
  refine PX8_firstWrong_L2 hX (fun hf => ?_) _ _ hf
  refine vx_iconst (v := (-1 : Int32)) h0 dX8_firstWrong_48 (by decide) ?_
  exact w_iretP hX hf dX8_firstWrong_49
def FX8_wrong (σ : SS) (a0 : Int32) : Option (Int32 × SS) :=
  ob (FX8_now σ) (fun r2 => ob (FX8_firstWrong σ r2) (fun r4 => if a0 = (0 : Int32) then ob (FX8_count σ r2 a0) (fun r7 => some (r7, σ))
    else if a0 = (1 : Int32) then ob (FX8_count σ r2 a0) (fun r10 => some (r10, σ))
    else if a0 = (2 : Int32) then ob (FX8_idle σ r2) (fun r13 => some (r13, σ))
    else if a0 = (3 : Int32) then ob (FX8_count σ r2 a0) (fun r16 => some (r16, σ))
    else if a0 = (4 : Int32) then ob (FX8_roundOf σ r2) (fun p19 => some (p19.1, p19.2))
    else if a0 = (5 : Int32) then if r4 = (-1 : Int32) then some ((-1 : Int32), σ)
    else gd (inb r4 30) (some ((gA σ 9 (Int32.toNatClampNeg r4)), σ))
    else if a0 = (6 : Int32) then some (r4, σ)
    else some ((-1000000002 : Int32), σ)))
set_option maxRecDepth 100000 in
set_option maxHeartbeats 4000000 in
theorem c_X8_wrong {σ : SS} {a0 : Int32} {r : Int32} {σr : SS} (hf : FX8_wrong σ a0 = some (r, σr)) : Mcw wsM yX8_wrong cX8_wrong 4 (some .int) ({ frames := 4, cells := 0, slots := 0, locals := 94 } : Room) (fun g => [.ref (g.2.1 0), .int a0]) σ (fun g => some (.int r)) σr := by
  refine w_enter wsM_fix (by decide) (fun g => Nat.le_of_ble_eq_true rfl) ?_
  intro X g hX
  replace hX : Okw wsM X g cX8_wrong 4 RX8 (some .int) ({ frames := 4, cells := 0, slots := 0, locals := 94 } : Room) (fun g => some (.int r)) σr := hX
  have h0 := hX.1
  show Vx X g.1 4 (wsM g σ) 0 [(0, .ref (g.2.1 0)), (1, .int a0)] []
  rw [FX8_wrong] at hf
  refine vx_aload_n h0 dX8_wrong_0 rfl ?_
  obtain ⟨r2, h1, hf⟩ := ob_some hf
  refine w_callV (st := []) (ci := 8) (q0 := 0) hX (c_X8_now h1) ce_X8_now q969 ⟨rfl, rfl⟩ ⟨by decide, by decide⟩ rfl rfl rfl rfl (mo_0 g _) rfl (Nat.le_of_ble_eq_true rfl) dX8_wrong_1 ?_
  show Vx X g.1 4 (wsM g σ) 4 [(0, .ref (g.2.1 0)), (1, .int a0)] [.int r2]
  refine vx_istore_n (ls' := [(2, .int r2), (0, .ref (g.2.1 0)), (1, .int a0)]) h0 dX8_wrong_4 (by decide) rfl ?_
  refine vx_aload_n h0 dX8_wrong_5 rfl ?_
  refine vx_iload_n h0 dX8_wrong_6 rfl ?_
  obtain ⟨r4, h3, hf⟩ := ob_some hf
  refine w_callV (st := []) (ci := 8) (q0 := 0) hX (c_X8_firstWrong h3) ce_X8_firstWrong q1077 ⟨rfl, rfl⟩ ⟨by decide, by decide⟩ rfl rfl rfl rfl (mo_0 g _) rfl (Nat.le_of_ble_eq_true rfl) dX8_wrong_7 ?_
  show Vx X g.1 4 (wsM g σ) 10 [(2, .int r2), (0, .ref (g.2.1 0)), (1, .int a0)] [.int r4]
  refine vx_istore_n (ls' := [(3, .int r4), (2, .int r2), (0, .ref (g.2.1 0)), (1, .int a0)]) h0 dX8_wrong_10 (by decide) rfl ?_
  refine vx_iload_n h0 dX8_wrong_11 rfl ?_
  by_cases c5 : a0 = (0 : Int32)
  · replace hf := (if_pos c5).symm.trans hf
    refine vx_tabK (off := 44) (tgt := 56) h0 (0 : Int32) c5 dX8_wrong_12 (by decide) (by decide) (by decide) (by decide) ?_
    refine vx_aload_n h0 dX8_wrong_56 rfl ?_
    refine vx_iload_n h0 dX8_wrong_57 rfl ?_
    refine vx_iload_n h0 dX8_wrong_58 rfl ?_
    obtain ⟨r7, h6, hf⟩ := ob_some hf
    refine w_callV (st := []) (ci := 8) (q0 := 0) hX (c_X8_count h6) ce_X8_count q1021 ⟨rfl, rfl⟩ ⟨by decide, by decide⟩ rfl rfl rfl rfl (mo_0 g _) rfl (Nat.le_of_ble_eq_true rfl) dX8_wrong_59 ?_
    show Vx X g.1 4 (wsM g σ) 62 [(3, .int r4), (2, .int r2), (0, .ref (g.2.1 0)), (1, .int a0)] [.int r7]
    exact w_iretE hX hf dX8_wrong_62
  · replace hf := (if_neg c5).symm.trans hf
    by_cases c8 : a0 = (1 : Int32)
    · replace hf := (if_pos c8).symm.trans hf
      refine vx_tabK (off := 44) (tgt := 56) h0 (1 : Int32) c8 dX8_wrong_12 (by decide) (by decide) (by decide) (by decide) ?_
      refine vx_aload_n h0 dX8_wrong_56 rfl ?_
      refine vx_iload_n h0 dX8_wrong_57 rfl ?_
      refine vx_iload_n h0 dX8_wrong_58 rfl ?_
      obtain ⟨r10, h9, hf⟩ := ob_some hf
      refine w_callV (st := []) (ci := 8) (q0 := 0) hX (c_X8_count h9) ce_X8_count q1021 ⟨rfl, rfl⟩ ⟨by decide, by decide⟩ rfl rfl rfl rfl (mo_0 g _) rfl (Nat.le_of_ble_eq_true rfl) dX8_wrong_59 ?_
      show Vx X g.1 4 (wsM g σ) 62 [(3, .int r4), (2, .int r2), (0, .ref (g.2.1 0)), (1, .int a0)] [.int r10]
      exact w_iretE hX hf dX8_wrong_62
    · replace hf := (if_neg c8).symm.trans hf
      by_cases c11 : a0 = (2 : Int32)
      · replace hf := (if_pos c11).symm.trans hf
        refine vx_tabK (off := 51) (tgt := 63) h0 (2 : Int32) c11 dX8_wrong_12 (by decide) (by decide) (by decide) (by decide) ?_
        refine vx_aload_n h0 dX8_wrong_63 rfl ?_
        refine vx_iload_n h0 dX8_wrong_64 rfl ?_
        obtain ⟨r13, h12, hf⟩ := ob_some hf
        refine w_callV (st := []) (ci := 8) (q0 := 0) hX (c_X8_idle h12) ce_X8_idle q1081 ⟨rfl, rfl⟩ ⟨by decide, by decide⟩ rfl rfl rfl rfl (mo_0 g _) rfl (Nat.le_of_ble_eq_true rfl) dX8_wrong_65 ?_
        show Vx X g.1 4 (wsM g σ) 68 [(3, .int r4), (2, .int r2), (0, .ref (g.2.1 0)), (1, .int a0)] [.int r13]
        exact w_iretE hX hf dX8_wrong_68
      · replace hf := (if_neg c11).symm.trans hf
        by_cases c14 : a0 = (3 : Int32)
        · replace hf := (if_pos c14).symm.trans hf
          refine vx_tabK (off := 44) (tgt := 56) h0 (3 : Int32) c14 dX8_wrong_12 (by decide) (by decide) (by decide) (by decide) ?_
          refine vx_aload_n h0 dX8_wrong_56 rfl ?_
          refine vx_iload_n h0 dX8_wrong_57 rfl ?_
          refine vx_iload_n h0 dX8_wrong_58 rfl ?_
          obtain ⟨r16, h15, hf⟩ := ob_some hf
          refine w_callV (st := []) (ci := 8) (q0 := 0) hX (c_X8_count h15) ce_X8_count q1021 ⟨rfl, rfl⟩ ⟨by decide, by decide⟩ rfl rfl rfl rfl (mo_0 g _) rfl (Nat.le_of_ble_eq_true rfl) dX8_wrong_59 ?_
          show Vx X g.1 4 (wsM g σ) 62 [(3, .int r4), (2, .int r2), (0, .ref (g.2.1 0)), (1, .int a0)] [.int r16]
          exact w_iretE hX hf dX8_wrong_62
        · replace hf := (if_neg c14).symm.trans hf
          by_cases c17 : a0 = (4 : Int32)
          · replace hf := (if_pos c17).symm.trans hf
            refine vx_tabK (off := 57) (tgt := 69) h0 (4 : Int32) c17 dX8_wrong_12 (by decide) (by decide) (by decide) (by decide) ?_
            refine vx_aload_n h0 dX8_wrong_69 rfl ?_
            refine vx_iload_n h0 dX8_wrong_70 rfl ?_
            obtain ⟨p19, h18, hf⟩ := ob_some hf
            refine w_callV (st := []) (ci := 8) (q0 := 0) hX (c_X8_roundOf h18) ce_X8_roundOf q1033 ⟨rfl, rfl⟩ ⟨by decide, by decide⟩ rfl rfl rfl rfl (mo_0 g _) rfl (Nat.le_of_ble_eq_true rfl) dX8_wrong_71 ?_
            show Vx X g.1 4 (wsM g p19.2) 74 [(3, .int r4), (2, .int r2), (0, .ref (g.2.1 0)), (1, .int a0)] [.int p19.1]
            exact w_iretE hX hf dX8_wrong_74
          · replace hf := (if_neg c17).symm.trans hf
            by_cases c20 : a0 = (5 : Int32)
            · replace hf := (if_pos c20).symm.trans hf
              refine vx_tabK (off := 63) (tgt := 75) h0 (5 : Int32) c20 dX8_wrong_12 (by decide) (by decide) (by decide) (by decide) ?_
              refine vx_iload_n h0 dX8_wrong_75 rfl ?_
              refine vx_iconst (v := (-1 : Int32)) h0 dX8_wrong_76 (by decide) ?_
              refine vx_icmp_ne (tgt := 84) h0 dX8_wrong_77 (by decide) (fun c21 => ?_) (fun c21 => ?_)
              · replace hf := (if_neg c21).symm.trans hf
                refine vx_aload_n h0 dX8_wrong_84 rfl ?_
                refine mg_0_9 hX q793 dX8_wrong_85 ?_
                refine vx_iload_n h0 dX8_wrong_88 rfl ?_
                obtain ⟨b22, hf⟩ := gd_some hf
                refine ml_6 hX b22 dX8_wrong_89 ?_
                exact w_iretE hX hf dX8_wrong_90
              · replace hf := (if_pos c21).symm.trans hf
                refine vx_iconst (v := (-1 : Int32)) h0 dX8_wrong_80 (by decide) ?_
                refine vx_goto (tgt := 90) h0 dX8_wrong_81 (by decide) ?_
                exact w_iretE hX hf dX8_wrong_90
            · replace hf := (if_neg c20).symm.trans hf
              by_cases c23 : a0 = (6 : Int32)
              · replace hf := (if_pos c23).symm.trans hf
                refine vx_tabK (off := 79) (tgt := 91) h0 (6 : Int32) c23 dX8_wrong_12 (by decide) (by decide) (by decide) (by decide) ?_
                refine vx_iload_n h0 dX8_wrong_91 rfl ?_
                exact w_iretE hX hf dX8_wrong_92
              · replace hf := (if_neg c23).symm.trans hf
                have nc5 : ¬ Int32.toInt a0 = 0 := lv_neT c5 rfl
                have nc8 : ¬ Int32.toInt a0 = 1 := lv_neT c8 rfl
                have nc11 : ¬ Int32.toInt a0 = 2 := lv_neT c11 rfl
                have nc14 : ¬ Int32.toInt a0 = 3 := lv_neT c14 rfl
                have nc17 : ¬ Int32.toInt a0 = 4 := lv_neT c17 rfl
                have nc20 : ¬ Int32.toInt a0 = 5 := lv_neT c20 rfl
                have nc23 : ¬ Int32.toInt a0 = 6 := lv_neT c23 rfl
                refine vx_tabOut (tgt := 93) h0 dX8_wrong_12 (by omega) (by decide) ?_
                refine vx_ldc h0 q898 dX8_wrong_93 ?_
                exact w_iretE hX hf dX8_wrong_95
def FX8_clause_L84 (σ : SS) (v1 : Int32) (k : Int32 → Option (Int32)) : Nat → Int32 → Int32 → Option (Int32)
  | 0, _, _ => none
  | n + 1, v3, v4 => if (gI σ 3) ≤ v4 then k v3
    else gd (inb v4 16) (if (gA σ 4 (Int32.toNatClampNeg v4)) = v1 then FX8_clause_L84 σ v1 k n (v3 ||| (jshl (1 : Int32) v4)) (v4 + (1 : Int32))
    else FX8_clause_L84 σ v1 k n (v3 ||| (0 : Int32)) (v4 + (1 : Int32)))
set_option maxRecDepth 100000 in
set_option maxHeartbeats 4000000 in
theorem PX8_clause_L84 {X : Bx} {g : Gx} {r : Int32} {σ : SS} (hX : Okw wsM X g cX8_clause 5 RX8 (some .int) ({ frames := 4, cells := 0, slots := 0, locals := 90 } : Room) (fun g => some (.int r)) σ) {v1 : Int32} {k : Int32 → Option (Int32)} (hk : ∀ (v3 : Int32), k v3 = some r → Vx X g.1 5 (wsM g σ) 121 [(3, .int v3)] []) : ∀ (n : Nat) (v3 : Int32) (v4 : Int32), FX8_clause_L84 σ v1 k n v3 v4 = some r → Vx X g.1 5 (wsM g σ) 84 [(0, .ref (g.2.1 0)), (1, .int v1), (3, .int v3), (4, .int v4)] [] := by
  have h0 := hX.1
  intro n
  induction n with
  | zero =>
    intro v3 v4 hf
    rw [FX8_clause_L84] at hf
    cases hf
  | succ n ih =>
    intro v3 v4 hf
    rw [FX8_clause_L84] at hf
    refine vx_iload h0 dX8_clause_84 rfl ?_
    refine vx_aload_n h0 dX8_clause_86 rfl ?_
    refine mg_0_3 hX q787 dX8_clause_87 ?_
    refine vx_icmp_ge (tgt := 121) h0 dX8_clause_90 (by decide) (fun c10 => ?_) (fun c10 => ?_)
    · replace hf := (if_pos c10).symm.trans hf
      refine vx_sub [2] rfl ?_
      exact hk _ hf
    · replace hf := (if_neg c10).symm.trans hf
      refine vx_iload_n h0 dX8_clause_93 rfl ?_
      refine vx_aload_n h0 dX8_clause_94 rfl ?_
      refine mg_0_4 hX q788 dX8_clause_95 ?_
      refine vx_iload h0 dX8_clause_98 rfl ?_
      obtain ⟨b11, hf⟩ := gd_some hf
      refine ml_2 hX b11 dX8_clause_100 ?_
      refine vx_iload_n h0 dX8_clause_101 rfl ?_
      refine vx_icmp_ne (tgt := 112) h0 dX8_clause_102 (by decide) (fun c12 => ?_) (fun c12 => ?_)
      · replace hf := (if_neg c12).symm.trans hf
        refine vx_iconst (v := (0 : Int32)) h0 dX8_clause_112 (by decide) ?_
        refine vx_ior h0 dX8_clause_113 ?_
        refine vx_istore_n (ls' := [(3, .int (v3 ||| (0 : Int32))), (0, .ref (g.2.1 0)), (1, .int v1), (4, .int v4)]) h0 dX8_clause_114 (by decide) rfl ?_
        refine vx_iinc (q := 3) (v := (v4 + (1 : Int32))) (ls' := [(4, .int (v4 + (1 : Int32))), (3, .int (v3 ||| (0 : Int32))), (0, .ref (g.2.1 0)), (1, .int v1)]) h0 dX8_clause_115 rfl rfl (by decide) rfl ?_
        refine vx_goto (tgt := 84) h0 dX8_clause_118 (by decide) ?_
        refine vx_sub [2, 3, 1, 0] rfl ?_
        exact ih _ _ hf
      · replace hf := (if_pos c12).symm.trans hf
        refine vx_iconst (v := (1 : Int32)) h0 dX8_clause_105 (by decide) ?_
        refine vx_iload h0 dX8_clause_106 rfl ?_
        refine vx_ishl h0 dX8_clause_108 ?_
        refine vx_goto (tgt := 113) h0 dX8_clause_109 (by decide) ?_
        refine vx_ior h0 dX8_clause_113 ?_
        refine vx_istore_n (ls' := [(3, .int (v3 ||| (jshl (1 : Int32) v4))), (0, .ref (g.2.1 0)), (1, .int v1), (4, .int v4)]) h0 dX8_clause_114 (by decide) rfl ?_
        refine vx_iinc (q := 3) (v := (v4 + (1 : Int32))) (ls' := [(4, .int (v4 + (1 : Int32))), (3, .int (v3 ||| (jshl (1 : Int32) v4))), (0, .ref (g.2.1 0)), (1, .int v1)]) h0 dX8_clause_115 rfl rfl (by decide) rfl ?_
        refine vx_goto (tgt := 84) h0 dX8_clause_118 (by decide) ?_
        refine vx_sub [2, 3, 1, 0] rfl ?_
        exact ih _ _ hf
def FX8_clause_L147 (σ : SS) (v1 : Int32) (k : Int32 → Option (Int32)) : Nat → Int32 → Int32 → Option (Int32)
  | 0, _, _ => none
  | n + 1, v3, v4 => if (gI σ 8) ≤ v4 then k v3
    else gd (inb v4 30) (if (gA σ 9 (Int32.toNatClampNeg v4)) = v1 then FX8_clause_L147 σ v1 k n (v3 + (1 : Int32)) (v4 + (1 : Int32))
    else FX8_clause_L147 σ v1 k n (v3 + (0 : Int32)) (v4 + (1 : Int32)))
set_option maxRecDepth 100000 in
set_option maxHeartbeats 4000000 in
theorem PX8_clause_L147 {X : Bx} {g : Gx} {r : Int32} {σ : SS} (hX : Okw wsM X g cX8_clause 5 RX8 (some .int) ({ frames := 4, cells := 0, slots := 0, locals := 90 } : Room) (fun g => some (.int r)) σ) {v1 : Int32} {k : Int32 → Option (Int32)} (hk : ∀ (v3 : Int32), k v3 = some r → Vx X g.1 5 (wsM g σ) 181 [(3, .int v3)] []) : ∀ (n : Nat) (v3 : Int32) (v4 : Int32), FX8_clause_L147 σ v1 k n v3 v4 = some r → Vx X g.1 5 (wsM g σ) 147 [(0, .ref (g.2.1 0)), (1, .int v1), (3, .int v3), (4, .int v4)] [] := by
  have h0 := hX.1
  intro n
  induction n with
  | zero =>
    intro v3 v4 hf
    rw [FX8_clause_L147] at hf
    cases hf
  | succ n ih =>
    intro v3 v4 hf
    rw [FX8_clause_L147] at hf
    refine vx_iload h0 dX8_clause_147 rfl ?_
    refine vx_aload_n h0 dX8_clause_149 rfl ?_
    refine mg_0_8 hX q792 dX8_clause_150 ?_
    refine vx_icmp_ge (tgt := 181) h0 dX8_clause_153 (by decide) (fun c21 => ?_) (fun c21 => ?_)
    · replace hf := (if_pos c21).symm.trans hf
      refine vx_sub [2] rfl ?_
      exact hk _ hf
    · replace hf := (if_neg c21).symm.trans hf
      refine vx_iload_n h0 dX8_clause_156 rfl ?_
      refine vx_aload_n h0 dX8_clause_157 rfl ?_
      refine mg_0_9 hX q793 dX8_clause_158 ?_
      refine vx_iload h0 dX8_clause_161 rfl ?_
      obtain ⟨b22, hf⟩ := gd_some hf
      refine ml_6 hX b22 dX8_clause_163 ?_
      refine vx_iload_n h0 dX8_clause_164 rfl ?_
      refine vx_icmp_ne (tgt := 172) h0 dX8_clause_165 (by decide) (fun c23 => ?_) (fun c23 => ?_)
      · replace hf := (if_neg c23).symm.trans hf
        refine vx_iconst (v := (0 : Int32)) h0 dX8_clause_172 (by decide) ?_
        refine vx_iadd h0 dX8_clause_173 ?_
        refine vx_istore_n (ls' := [(3, .int (v3 + (0 : Int32))), (0, .ref (g.2.1 0)), (1, .int v1), (4, .int v4)]) h0 dX8_clause_174 (by decide) rfl ?_
        refine vx_iinc (q := 3) (v := (v4 + (1 : Int32))) (ls' := [(4, .int (v4 + (1 : Int32))), (3, .int (v3 + (0 : Int32))), (0, .ref (g.2.1 0)), (1, .int v1)]) h0 dX8_clause_175 rfl rfl (by decide) rfl ?_
        refine vx_goto (tgt := 147) h0 dX8_clause_178 (by decide) ?_
        refine vx_sub [2, 3, 1, 0] rfl ?_
        exact ih _ _ hf
      · replace hf := (if_pos c23).symm.trans hf
        refine vx_iconst (v := (1 : Int32)) h0 dX8_clause_168 (by decide) ?_
        refine vx_goto (tgt := 173) h0 dX8_clause_169 (by decide) ?_
        refine vx_iadd h0 dX8_clause_173 ?_
        refine vx_istore_n (ls' := [(3, .int (v3 + (1 : Int32))), (0, .ref (g.2.1 0)), (1, .int v1), (4, .int v4)]) h0 dX8_clause_174 (by decide) rfl ?_
        refine vx_iinc (q := 3) (v := (v4 + (1 : Int32))) (ls' := [(4, .int (v4 + (1 : Int32))), (3, .int (v3 + (1 : Int32))), (0, .ref (g.2.1 0)), (1, .int v1)]) h0 dX8_clause_175 rfl rfl (by decide) rfl ?_
        refine vx_goto (tgt := 147) h0 dX8_clause_178 (by decide) ?_
        refine vx_sub [2, 3, 1, 0] rfl ?_
        exact ih _ _ hf
def FX8_clause_L221 (σ : SS) (v1 : Int32) (k : Int32 → Option (Int32)) : Nat → Int32 → Int32 → Option (Int32)
  | 0, _, _ => none
  | n + 1, v3, v4 => if (gI σ 8) ≤ v4 then k v3
    else gd (inb v4 30) (if (gA σ 10 (Int32.toNatClampNeg v4)) = (2 : Int32) then gd (inb v4 30) (if (gA σ 11 (Int32.toNatClampNeg v4)) = v1 then gd (inb v4 30) (bd (v3 ||| (jshl (1 : Int32) (gA σ 9 (Int32.toNatClampNeg v4)))) (fun x42 => FX8_clause_L221 σ v1 k n x42 (v4 + (1 : Int32))))
    else FX8_clause_L221 σ v1 k n (v3 ||| (0 : Int32)) (v4 + (1 : Int32)))
    else FX8_clause_L221 σ v1 k n (v3 ||| (0 : Int32)) (v4 + (1 : Int32)))
set_option maxRecDepth 100000 in
set_option maxHeartbeats 4000000 in
theorem PX8_clause_L221 {X : Bx} {g : Gx} {r : Int32} {σ : SS} (hX : Okw wsM X g cX8_clause 5 RX8 (some .int) ({ frames := 4, cells := 0, slots := 0, locals := 90 } : Room) (fun g => some (.int r)) σ) {v1 : Int32} {k : Int32 → Option (Int32)} (hk : ∀ (v3 : Int32), k v3 = some r → Vx X g.1 5 (wsM g σ) 274 [(3, .int v3)] []) : ∀ (n : Nat) (v3 : Int32) (v4 : Int32), FX8_clause_L221 σ v1 k n v3 v4 = some r → Vx X g.1 5 (wsM g σ) 221 [(0, .ref (g.2.1 0)), (1, .int v1), (3, .int v3), (4, .int v4)] [] := by
  have h0 := hX.1
  intro n
  induction n with
  | zero =>
    intro v3 v4 hf
    rw [FX8_clause_L221] at hf
    cases hf
  | succ n ih =>
    intro v3 v4 hf
    rw [FX8_clause_L221] at hf
    refine vx_iload h0 dX8_clause_221 rfl ?_
    refine vx_aload_n h0 dX8_clause_223 rfl ?_
    refine mg_0_8 hX q792 dX8_clause_224 ?_
    refine vx_icmp_ge (tgt := 274) h0 dX8_clause_227 (by decide) (fun c36 => ?_) (fun c36 => ?_)
    · replace hf := (if_pos c36).symm.trans hf
      refine vx_sub [2] rfl ?_
      exact hk _ hf
    · replace hf := (if_neg c36).symm.trans hf
      refine vx_iload_n h0 dX8_clause_230 rfl ?_
      refine vx_aload_n h0 dX8_clause_231 rfl ?_
      refine mg_0_10 hX q794 dX8_clause_232 ?_
      refine vx_iload h0 dX8_clause_235 rfl ?_
      obtain ⟨b37, hf⟩ := gd_some hf
      refine ml_7 hX b37 dX8_clause_237 ?_
      refine vx_iconst (v := (2 : Int32)) h0 dX8_clause_238 (by decide) ?_
      refine vx_icmp_ne (tgt := 265) h0 dX8_clause_239 (by decide) (fun c38 => ?_) (fun c38 => ?_)
      · replace hf := (if_neg c38).symm.trans hf
        refine vx_iconst (v := (0 : Int32)) h0 dX8_clause_265 (by decide) ?_
        refine vx_ior h0 dX8_clause_266 ?_
        refine vx_istore_n (ls' := [(3, .int (v3 ||| (0 : Int32))), (0, .ref (g.2.1 0)), (1, .int v1), (4, .int v4)]) h0 dX8_clause_267 (by decide) rfl ?_
        refine vx_iinc (q := 3) (v := (v4 + (1 : Int32))) (ls' := [(4, .int (v4 + (1 : Int32))), (3, .int (v3 ||| (0 : Int32))), (0, .ref (g.2.1 0)), (1, .int v1)]) h0 dX8_clause_268 rfl rfl (by decide) rfl ?_
        refine vx_goto (tgt := 221) h0 dX8_clause_271 (by decide) ?_
        refine vx_sub [2, 3, 1, 0] rfl ?_
        exact ih _ _ hf
      · replace hf := (if_pos c38).symm.trans hf
        refine vx_aload_n h0 dX8_clause_242 rfl ?_
        refine mg_0_11 hX q795 dX8_clause_243 ?_
        refine vx_iload h0 dX8_clause_246 rfl ?_
        obtain ⟨b39, hf⟩ := gd_some hf
        refine ml_8 hX b39 dX8_clause_248 ?_
        refine vx_iload_n h0 dX8_clause_249 rfl ?_
        refine vx_icmp_ne (tgt := 265) h0 dX8_clause_250 (by decide) (fun c40 => ?_) (fun c40 => ?_)
        · replace hf := (if_neg c40).symm.trans hf
          refine vx_iconst (v := (0 : Int32)) h0 dX8_clause_265 (by decide) ?_
          refine vx_ior h0 dX8_clause_266 ?_
          refine vx_istore_n (ls' := [(3, .int (v3 ||| (0 : Int32))), (0, .ref (g.2.1 0)), (1, .int v1), (4, .int v4)]) h0 dX8_clause_267 (by decide) rfl ?_
          refine vx_iinc (q := 3) (v := (v4 + (1 : Int32))) (ls' := [(4, .int (v4 + (1 : Int32))), (3, .int (v3 ||| (0 : Int32))), (0, .ref (g.2.1 0)), (1, .int v1)]) h0 dX8_clause_268 rfl rfl (by decide) rfl ?_
          refine vx_goto (tgt := 221) h0 dX8_clause_271 (by decide) ?_
          refine vx_sub [2, 3, 1, 0] rfl ?_
          exact ih _ _ hf
        · replace hf := (if_pos c40).symm.trans hf
          refine vx_iconst (v := (1 : Int32)) h0 dX8_clause_253 (by decide) ?_
          refine vx_aload_n h0 dX8_clause_254 rfl ?_
          refine mg_0_9 hX q793 dX8_clause_255 ?_
          refine vx_iload h0 dX8_clause_258 rfl ?_
          obtain ⟨b41, hf⟩ := gd_some hf
          refine ml_6 hX b41 dX8_clause_260 ?_
          refine vx_ishl h0 dX8_clause_261 ?_
          refine vx_goto (tgt := 266) h0 dX8_clause_262 (by decide) ?_
          refine vx_ior h0 dX8_clause_266 ?_
          generalize (v3 ||| (jshl (1 : Int32) (gA σ 9 (Int32.toNatClampNeg v4)))) = x42 at hf ⊢
          replace hf := bd_h hf
          refine vx_istore_n (ls' := [(3, .int x42), (0, .ref (g.2.1 0)), (1, .int v1), (4, .int v4)]) h0 dX8_clause_267 (by decide) rfl ?_
          refine vx_iinc (q := 3) (v := (v4 + (1 : Int32))) (ls' := [(4, .int (v4 + (1 : Int32))), (3, .int x42), (0, .ref (g.2.1 0)), (1, .int v1)]) h0 dX8_clause_268 rfl rfl (by decide) rfl ?_
          refine vx_goto (tgt := 221) h0 dX8_clause_271 (by decide) ?_
          refine vx_sub [2, 3, 1, 0] rfl ?_
          exact ih _ _ hf
def FX8_clause (σ : SS) (a0 : Int32) (a1 : Int32) : Option (Int32) :=
  ob (FX8_isClause σ a0) (fun r2 => if r2 = 0 then some (-1000000001 : Int32)
    else if a1 = (0 : Int32) then gd (inb a0 16) (some (gA σ 4 (Int32.toNatClampNeg a0)))
    else if a1 = (1 : Int32) then ob (FX8_depthOf σ a0) (fun r8 => some r8)
    else if a1 = (2 : Int32) then FX8_clause_L84 σ a0 (fun u13 => some u13) 5000 (0 : Int32) (0 : Int32)
    else if a1 = (3 : Int32) then gd (inb a0 16) (some (gA σ 5 (Int32.toNatClampNeg a0)))
    else if a1 = (4 : Int32) then gd (inb a0 16) (some (gA σ 6 (Int32.toNatClampNeg a0)))
    else if a1 = (5 : Int32) then gd (inb a0 16) (some (gA σ 7 (Int32.toNatClampNeg a0)))
    else if a1 = (6 : Int32) then FX8_clause_L147 σ a0 (fun u24 => some u24) 5000 (0 : Int32) (0 : Int32)
    else if a1 = (7 : Int32) then ob (FX8_holds σ a0 (gI σ 25)) (fun r27 => if r27 = 0 then some (0 : Int32)
    else some (1 : Int32))
    else if a1 = (8 : Int32) then ob (FX8_now σ) (fun r31 => ob (FX8_has σ r31 a0) (fun r33 => if r33 = 0 then some (0 : Int32)
    else some (1 : Int32)))
    else if a1 = (9 : Int32) then FX8_clause_L221 σ a0 (fun u43 => some u43) 5000 (0 : Int32) (0 : Int32)
    else some (-1000000002 : Int32))
set_option maxRecDepth 100000 in
set_option maxHeartbeats 4000000 in
theorem c_X8_clause {σ : SS} {a0 : Int32} {a1 : Int32} {r : Int32} (hf : FX8_clause σ a0 a1 = some r) : Mcw wsM yX8_clause cX8_clause 5 (some .int) ({ frames := 4, cells := 0, slots := 0, locals := 90 } : Room) (fun g => [.ref (g.2.1 0), .int a0, .int a1]) σ (fun g => some (.int r)) σ := by
  refine w_enter wsM_fix (by decide) (fun g => Nat.le_of_ble_eq_true rfl) ?_
  intro X g hX
  replace hX : Okw wsM X g cX8_clause 5 RX8 (some .int) ({ frames := 4, cells := 0, slots := 0, locals := 90 } : Room) (fun g => some (.int r)) σ := hX
  have h0 := hX.1
  show Vx X g.1 5 (wsM g σ) 0 [(0, .ref (g.2.1 0)), (1, .int a0), (2, .int a1)] []
  rw [FX8_clause] at hf
  refine vx_aload_n h0 dX8_clause_0 rfl ?_
  refine vx_iload_n h0 dX8_clause_1 rfl ?_
  obtain ⟨r2, h1, hf⟩ := ob_some hf
  refine w_callV (st := []) (ci := 8) (q0 := 0) hX (c_X8_isClause h1) ce_X8_isClause q965 ⟨rfl, rfl⟩ ⟨by decide, by decide⟩ rfl rfl rfl rfl (mo_0 g _) rfl (Nat.le_of_ble_eq_true rfl) dX8_clause_2 ?_
  show Vx X g.1 5 (wsM g σ) 5 [(0, .ref (g.2.1 0)), (1, .int a0), (2, .int a1)] [.int r2]
  refine vx_if_ne (tgt := 11) h0 dX8_clause_5 (by decide) (fun c3 => ?_) (fun c3 => ?_)
  · replace hf := (if_neg c3).symm.trans hf
    refine vx_iconst (v := (0 : Int32)) h0 dX8_clause_11 (by decide) ?_
    refine vx_istore_n (ls' := [(3, .int (0 : Int32)), (0, .ref (g.2.1 0)), (1, .int a0), (2, .int a1)]) h0 dX8_clause_12 (by decide) rfl ?_
    refine vx_iload_n h0 dX8_clause_13 rfl ?_
    by_cases c4 : a1 = (0 : Int32)
    · replace hf := (if_pos c4).symm.trans hf
      refine vx_tabK (off := 54) (tgt := 68) h0 (0 : Int32) c4 dX8_clause_14 (by decide) (by decide) (by decide) (by decide) ?_
      refine vx_aload_n h0 dX8_clause_68 rfl ?_
      refine mg_0_4 hX q788 dX8_clause_69 ?_
      refine vx_iload_n h0 dX8_clause_72 rfl ?_
      obtain ⟨b5, hf⟩ := gd_some hf
      refine ml_2 hX b5 dX8_clause_73 ?_
      exact w_iretP hX hf dX8_clause_74
    · replace hf := (if_neg c4).symm.trans hf
      by_cases c6 : a1 = (1 : Int32)
      · replace hf := (if_pos c6).symm.trans hf
        refine vx_tabK (off := 61) (tgt := 75) h0 (1 : Int32) c6 dX8_clause_14 (by decide) (by decide) (by decide) (by decide) ?_
        refine vx_aload_n h0 dX8_clause_75 rfl ?_
        refine vx_iload_n h0 dX8_clause_76 rfl ?_
        obtain ⟨r8, h7, hf⟩ := ob_some hf
        refine w_callV (st := []) (ci := 8) (q0 := 0) hX (c_X8_depthOf h7) ce_X8_depthOf q1057 ⟨rfl, rfl⟩ ⟨by decide, by decide⟩ rfl rfl rfl rfl (mo_0 g _) rfl (Nat.le_of_ble_eq_true rfl) dX8_clause_77 ?_
        show Vx X g.1 5 (wsM g σ) 80 [(3, .int (0 : Int32)), (0, .ref (g.2.1 0)), (1, .int a0), (2, .int a1)] [.int r8]
        exact w_iretP hX hf dX8_clause_80
      · replace hf := (if_neg c6).symm.trans hf
        by_cases c9 : a1 = (2 : Int32)
        · replace hf := (if_pos c9).symm.trans hf
          refine vx_tabK (off := 67) (tgt := 81) h0 (2 : Int32) c9 dX8_clause_14 (by decide) (by decide) (by decide) (by decide) ?_
          refine vx_iconst (v := (0 : Int32)) h0 dX8_clause_81 (by decide) ?_
          refine vx_istore (ls' := [(4, .int (0 : Int32)), (3, .int (0 : Int32)), (0, .ref (g.2.1 0)), (1, .int a0), (2, .int a1)]) h0 dX8_clause_82 (by decide) rfl ?_
          refine vx_sub [2, 3, 1, 0] rfl ?_
          refine PX8_clause_L84 hX (fun u13 hf => ?_) _ _ _ hf
          refine vx_iload_n h0 dX8_clause_121 rfl ?_
          exact w_iretP hX hf dX8_clause_122
        · replace hf := (if_neg c9).symm.trans hf
          by_cases c14 : a1 = (3 : Int32)
          · replace hf := (if_pos c14).symm.trans hf
            refine vx_tabK (off := 109) (tgt := 123) h0 (3 : Int32) c14 dX8_clause_14 (by decide) (by decide) (by decide) (by decide) ?_
            refine vx_aload_n h0 dX8_clause_123 rfl ?_
            refine mg_0_5 hX q789 dX8_clause_124 ?_
            refine vx_iload_n h0 dX8_clause_127 rfl ?_
            obtain ⟨b15, hf⟩ := gd_some hf
            refine ml_3 hX b15 dX8_clause_128 ?_
            exact w_iretP hX hf dX8_clause_129
          · replace hf := (if_neg c14).symm.trans hf
            by_cases c16 : a1 = (4 : Int32)
            · replace hf := (if_pos c16).symm.trans hf
              refine vx_tabK (off := 116) (tgt := 130) h0 (4 : Int32) c16 dX8_clause_14 (by decide) (by decide) (by decide) (by decide) ?_
              refine vx_aload_n h0 dX8_clause_130 rfl ?_
              refine mg_0_6 hX q790 dX8_clause_131 ?_
              refine vx_iload_n h0 dX8_clause_134 rfl ?_
              obtain ⟨b17, hf⟩ := gd_some hf
              refine ml_4 hX b17 dX8_clause_135 ?_
              exact w_iretP hX hf dX8_clause_136
            · replace hf := (if_neg c16).symm.trans hf
              by_cases c18 : a1 = (5 : Int32)
              · replace hf := (if_pos c18).symm.trans hf
                refine vx_tabK (off := 123) (tgt := 137) h0 (5 : Int32) c18 dX8_clause_14 (by decide) (by decide) (by decide) (by decide) ?_
                refine vx_aload_n h0 dX8_clause_137 rfl ?_
                refine mg_0_7 hX q791 dX8_clause_138 ?_
                refine vx_iload_n h0 dX8_clause_141 rfl ?_
                obtain ⟨b19, hf⟩ := gd_some hf
                refine ml_5 hX b19 dX8_clause_142 ?_
                exact w_iretP hX hf dX8_clause_143
              · replace hf := (if_neg c18).symm.trans hf
                by_cases c20 : a1 = (6 : Int32)
                · replace hf := (if_pos c20).symm.trans hf
                  refine vx_tabK (off := 130) (tgt := 144) h0 (6 : Int32) c20 dX8_clause_14 (by decide) (by decide) (by decide) (by decide) ?_
                  refine vx_iconst (v := (0 : Int32)) h0 dX8_clause_144 (by decide) ?_
                  refine vx_istore (ls' := [(4, .int (0 : Int32)), (3, .int (0 : Int32)), (0, .ref (g.2.1 0)), (1, .int a0), (2, .int a1)]) h0 dX8_clause_145 (by decide) rfl ?_
                  refine vx_sub [2, 3, 1, 0] rfl ?_
                  refine PX8_clause_L147 hX (fun u24 hf => ?_) _ _ _ hf
                  refine vx_iload_n h0 dX8_clause_181 rfl ?_
                  exact w_iretP hX hf dX8_clause_182
                · replace hf := (if_neg c20).symm.trans hf
                  by_cases c25 : a1 = (7 : Int32)
                  · replace hf := (if_pos c25).symm.trans hf
                    refine vx_tabK (off := 169) (tgt := 183) h0 (7 : Int32) c25 dX8_clause_14 (by decide) (by decide) (by decide) (by decide) ?_
                    refine vx_aload_n h0 dX8_clause_183 rfl ?_
                    refine vx_iload_n h0 dX8_clause_184 rfl ?_
                    refine vx_aload_n h0 dX8_clause_185 rfl ?_
                    refine mg_0_25 hX q809 dX8_clause_186 ?_
                    obtain ⟨r27, h26, hf⟩ := ob_some hf
                    refine w_callV (st := []) (ci := 8) (q0 := 0) hX (c_X8_holds h26) ce_X8_holds q977 ⟨rfl, rfl⟩ ⟨by decide, by decide⟩ rfl rfl rfl rfl (mo_0 g _) rfl (Nat.le_of_ble_eq_true rfl) dX8_clause_189 ?_
                    show Vx X g.1 5 (wsM g σ) 192 [(3, .int (0 : Int32)), (0, .ref (g.2.1 0)), (1, .int a0), (2, .int a1)] [.int r27]
                    refine vx_if_eq (tgt := 199) h0 dX8_clause_192 (by decide) (fun c28 => ?_) (fun c28 => ?_)
                    · replace hf := (if_pos c28).symm.trans hf
                      refine vx_iconst (v := (0 : Int32)) h0 dX8_clause_199 (by decide) ?_
                      exact w_iretP hX hf dX8_clause_200
                    · replace hf := (if_neg c28).symm.trans hf
                      refine vx_iconst (v := (1 : Int32)) h0 dX8_clause_195 (by decide) ?_
                      refine vx_goto (tgt := 200) h0 dX8_clause_196 (by decide) ?_
                      exact w_iretP hX hf dX8_clause_200
                  · replace hf := (if_neg c25).symm.trans hf
                    by_cases c29 : a1 = (8 : Int32)
                    · replace hf := (if_pos c29).symm.trans hf
                      refine vx_tabK (off := 187) (tgt := 201) h0 (8 : Int32) c29 dX8_clause_14 (by decide) (by decide) (by decide) (by decide) ?_
                      refine vx_aload_n h0 dX8_clause_201 rfl ?_
                      obtain ⟨r31, h30, hf⟩ := ob_some hf
                      refine w_callV (st := []) (ci := 8) (q0 := 0) hX (c_X8_now h30) ce_X8_now q969 ⟨rfl, rfl⟩ ⟨by decide, by decide⟩ rfl rfl rfl rfl (mo_0 g _) rfl (Nat.le_of_ble_eq_true rfl) dX8_clause_202 ?_
                      show Vx X g.1 5 (wsM g σ) 205 [(3, .int (0 : Int32)), (0, .ref (g.2.1 0)), (1, .int a0), (2, .int a1)] [.int r31]
                      refine vx_iload_n h0 dX8_clause_205 rfl ?_
                      obtain ⟨r33, h32, hf⟩ := ob_some hf
                      refine w_callS (st := []) hX (c_X8_has h32) ce_X8_has q927 ⟨rfl, rfl⟩ ⟨by decide, by decide⟩ rfl rfl rfl (Nat.le_of_ble_eq_true rfl) dX8_clause_206 ?_
                      show Vx X g.1 5 (wsM g σ) 209 [(3, .int (0 : Int32)), (0, .ref (g.2.1 0)), (1, .int a0), (2, .int a1)] [.int r33]
                      refine vx_if_eq (tgt := 216) h0 dX8_clause_209 (by decide) (fun c34 => ?_) (fun c34 => ?_)
                      · replace hf := (if_pos c34).symm.trans hf
                        refine vx_iconst (v := (0 : Int32)) h0 dX8_clause_216 (by decide) ?_
                        exact w_iretP hX hf dX8_clause_217
                      · replace hf := (if_neg c34).symm.trans hf
                        refine vx_iconst (v := (1 : Int32)) h0 dX8_clause_212 (by decide) ?_
                        refine vx_goto (tgt := 217) h0 dX8_clause_213 (by decide) ?_
                        exact w_iretP hX hf dX8_clause_217
                    · replace hf := (if_neg c29).symm.trans hf
                      by_cases c35 : a1 = (9 : Int32)
                      · replace hf := (if_pos c35).symm.trans hf
                        refine vx_tabK (off := 204) (tgt := 218) h0 (9 : Int32) c35 dX8_clause_14 (by decide) (by decide) (by decide) (by decide) ?_
                        refine vx_iconst (v := (0 : Int32)) h0 dX8_clause_218 (by decide) ?_
                        refine vx_istore (ls' := [(4, .int (0 : Int32)), (3, .int (0 : Int32)), (0, .ref (g.2.1 0)), (1, .int a0), (2, .int a1)]) h0 dX8_clause_219 (by decide) rfl ?_
                        refine vx_sub [2, 3, 1, 0] rfl ?_
                        refine PX8_clause_L221 hX (fun u43 hf => ?_) _ _ _ hf
                        refine vx_iload_n h0 dX8_clause_274 rfl ?_
                        exact w_iretP hX hf dX8_clause_275
                      · replace hf := (if_neg c35).symm.trans hf
                        have nc4 : ¬ Int32.toInt a1 = 0 := lv_neT c4 rfl
                        have nc6 : ¬ Int32.toInt a1 = 1 := lv_neT c6 rfl
                        have nc9 : ¬ Int32.toInt a1 = 2 := lv_neT c9 rfl
                        have nc14 : ¬ Int32.toInt a1 = 3 := lv_neT c14 rfl
                        have nc16 : ¬ Int32.toInt a1 = 4 := lv_neT c16 rfl
                        have nc18 : ¬ Int32.toInt a1 = 5 := lv_neT c18 rfl
                        have nc20 : ¬ Int32.toInt a1 = 6 := lv_neT c20 rfl
                        have nc25 : ¬ Int32.toInt a1 = 7 := lv_neT c25 rfl
                        have nc29 : ¬ Int32.toInt a1 = 8 := lv_neT c29 rfl
                        have nc35 : ¬ Int32.toInt a1 = 9 := lv_neT c35 rfl
                        refine vx_tabOut (tgt := 276) h0 dX8_clause_14 (by omega) (by decide) ?_
                        refine vx_ldc h0 q898 dX8_clause_276 ?_
                        exact w_iretP hX hf dX8_clause_278
  · replace hf := (if_pos c3).symm.trans hf
    refine vx_ldc h0 q946 dX8_clause_8 ?_
    exact w_iretP hX hf dX8_clause_10
