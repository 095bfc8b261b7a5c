/-! printed by wip/whole/gen.py: decode rows, functions, contracts -/
theorem dX7_part_0 : decode cX7_part 0 = .ok (.aload_n 0, 1) := by decide +kernel
theorem dX7_part_1 : decode cX7_part 1 = .ok (.iload_n 1, 1) := by decide +kernel
theorem dX7_part_2 : decode cX7_part 2 = .ok (.invokevirtual 124, 3) := by decide +kernel
theorem dX7_part_5 : decode cX7_part 5 = .ok (.ifCond .ne 6, 3) := by decide +kernel
theorem dX7_part_8 : decode cX7_part 8 = .ok (.ldc 108, 2) := by decide +kernel
theorem dX7_part_10 : decode cX7_part 10 = .ok (.ireturn, 1) := by decide +kernel
theorem dX7_part_11 : decode cX7_part 11 = .ok (.iload_n 2, 1) := by decide +kernel
theorem dX7_part_12 : decode cX7_part 12 = .ok (.ifCond .lt 12, 3) := by decide +kernel
theorem dX7_part_15 : decode cX7_part 15 = .ok (.iload_n 3, 1) := by decide +kernel
theorem dX7_part_16 : decode cX7_part 16 = .ok (.ifCond .lt 8, 3) := by decide +kernel
theorem dX7_part_19 : decode cX7_part 19 = .ok (.iload_n 3, 1) := by decide +kernel
theorem dX7_part_20 : decode cX7_part 20 = .ok (.iconst 1, 1) := by decide +kernel
theorem dX7_part_21 : decode cX7_part 21 = .ok (.if_icmp .le 6, 3) := by decide +kernel
theorem dX7_part_24 : decode cX7_part 24 = .ok (.ldc 69, 2) := by decide +kernel
theorem dX7_part_26 : decode cX7_part 26 = .ok (.ireturn, 1) := by decide +kernel
theorem dX7_part_27 : decode cX7_part 27 = .ok (.aload_n 0, 1) := by decide +kernel
theorem dX7_part_28 : decode cX7_part 28 = .ok (.getfield 19, 3) := by decide +kernel
theorem dX7_part_31 : decode cX7_part 31 = .ok (.iload_n 1, 1) := by decide +kernel
theorem dX7_part_32 : decode cX7_part 32 = .ok (.iload_n 2, 1) := by decide +kernel
theorem dX7_part_33 : decode cX7_part 33 = .ok (.invokevirtual 240, 3) := by decide +kernel
theorem dX7_part_36 : decode cX7_part 36 = .ok (.istore 4, 2) := by decide +kernel
theorem dX7_part_38 : decode cX7_part 38 = .ok (.iload 4, 2) := by decide +kernel
theorem dX7_part_40 : decode cX7_part 40 = .ok (.iconst (-1), 1) := by decide +kernel
theorem dX7_part_41 : decode cX7_part 41 = .ok (.if_icmp .ne 5, 3) := by decide +kernel
theorem dX7_part_44 : decode cX7_part 44 = .ok (.iconst (-1), 1) := by decide +kernel
theorem dX7_part_45 : decode cX7_part 45 = .ok (.ireturn, 1) := by decide +kernel
theorem dX7_part_46 : decode cX7_part 46 = .ok (.iload_n 3, 1) := by decide +kernel
theorem dX7_part_47 : decode cX7_part 47 = .ok (.ifCond .ne 16, 3) := by decide +kernel
theorem dX7_part_50 : decode cX7_part 50 = .ok (.aload_n 0, 1) := by decide +kernel
theorem dX7_part_51 : decode cX7_part 51 = .ok (.getfield 19, 3) := by decide +kernel
theorem dX7_part_54 : decode cX7_part 54 = .ok (.getfield 243, 3) := by decide +kernel
theorem dX7_part_57 : decode cX7_part 57 = .ok (.iload 4, 2) := by decide +kernel
theorem dX7_part_59 : decode cX7_part 59 = .ok (.iaload, 1) := by decide +kernel
theorem dX7_part_60 : decode cX7_part 60 = .ok (.goto 13, 3) := by decide +kernel
theorem dX7_part_63 : decode cX7_part 63 = .ok (.aload_n 0, 1) := by decide +kernel
theorem dX7_part_64 : decode cX7_part 64 = .ok (.getfield 19, 3) := by decide +kernel
theorem dX7_part_67 : decode cX7_part 67 = .ok (.getfield 246, 3) := by decide +kernel
theorem dX7_part_70 : decode cX7_part 70 = .ok (.iload 4, 2) := by decide +kernel
theorem dX7_part_72 : decode cX7_part 72 = .ok (.iaload, 1) := by decide +kernel
theorem dX7_part_73 : decode cX7_part 73 = .ok (.ireturn, 1) := by decide +kernel
theorem dX7_number_0 : decode cX7_number 0 = .ok (.aload_n 0, 1) := by decide +kernel
theorem dX7_number_1 : decode cX7_number 1 = .ok (.iload_n 1, 1) := by decide +kernel
theorem dX7_number_2 : decode cX7_number 2 = .ok (.invokevirtual 124, 3) := by decide +kernel
theorem dX7_number_5 : decode cX7_number 5 = .ok (.ifCond .ne 6, 3) := by decide +kernel
theorem dX7_number_8 : decode cX7_number 8 = .ok (.ldc 108, 2) := by decide +kernel
theorem dX7_number_10 : decode cX7_number 10 = .ok (.ireturn, 1) := by decide +kernel
theorem dX7_number_11 : decode cX7_number 11 = .ok (.iload_n 2, 1) := by decide +kernel
theorem dX7_number_12 : decode cX7_number 12 = .ok (.ifCond .ge 6, 3) := by decide +kernel
theorem dX7_number_15 : decode cX7_number 15 = .ok (.ldc 69, 2) := by decide +kernel
theorem dX7_number_17 : decode cX7_number 17 = .ok (.ireturn, 1) := by decide +kernel
theorem dX7_number_18 : decode cX7_number 18 = .ok (.aload_n 0, 1) := by decide +kernel
theorem dX7_number_19 : decode cX7_number 19 = .ok (.invokevirtual 131, 3) := by decide +kernel
theorem dX7_number_22 : decode cX7_number 22 = .ok (.istore_n 3, 1) := by decide +kernel
theorem dX7_number_23 : decode cX7_number 23 = .ok (.iload_n 3, 1) := by decide +kernel
theorem dX7_number_24 : decode cX7_number 24 = .ok (.iload_n 1, 1) := by decide +kernel
theorem dX7_number_25 : decode cX7_number 25 = .ok (.invokestatic 127, 3) := by decide +kernel
theorem dX7_number_28 : decode cX7_number 28 = .ok (.ifCond .eq 16, 3) := by decide +kernel
theorem dX7_number_31 : decode cX7_number 31 = .ok (.iload_n 2, 1) := by decide +kernel
theorem dX7_number_32 : decode cX7_number 32 = .ok (.aload_n 0, 1) := by decide +kernel
theorem dX7_number_33 : decode cX7_number 33 = .ok (.getfield 19, 3) := by decide +kernel
theorem dX7_number_36 : decode cX7_number 36 = .ok (.getfield 211, 3) := by decide +kernel
theorem dX7_number_39 : decode cX7_number 39 = .ok (.iload_n 1, 1) := by decide +kernel
theorem dX7_number_40 : decode cX7_number 40 = .ok (.iaload, 1) := by decide +kernel
theorem dX7_number_41 : decode cX7_number 41 = .ok (.if_icmp .le 5, 3) := by decide +kernel
theorem dX7_number_44 : decode cX7_number 44 = .ok (.iconst (-1), 1) := by decide +kernel
theorem dX7_number_45 : decode cX7_number 45 = .ok (.ireturn, 1) := by decide +kernel
theorem dX7_number_46 : decode cX7_number 46 = .ok (.aload_n 0, 1) := by decide +kernel
theorem dX7_number_47 : decode cX7_number 47 = .ok (.getfield 19, 3) := by decide +kernel
theorem dX7_number_50 : decode cX7_number 50 = .ok (.aload_n 0, 1) := by decide +kernel
theorem dX7_number_51 : decode cX7_number 51 = .ok (.getfield 19, 3) := by decide +kernel
theorem dX7_number_54 : decode cX7_number 54 = .ok (.iload_n 1, 1) := by decide +kernel
theorem dX7_number_55 : decode cX7_number 55 = .ok (.iload_n 2, 1) := by decide +kernel
theorem dX7_number_56 : decode cX7_number 56 = .ok (.invokevirtual 249, 3) := by decide +kernel
theorem dX7_number_59 : decode cX7_number 59 = .ok (.iload_n 3, 1) := by decide +kernel
theorem dX7_number_60 : decode cX7_number 60 = .ok (.invokevirtual 252, 3) := by decide +kernel
theorem dX7_number_63 : decode cX7_number 63 = .ok (.ireturn, 1) := by decide +kernel
theorem dX7_hangs_0 : decode cX7_hangs 0 = .ok (.aload_n 0, 1) := by decide +kernel
theorem dX7_hangs_1 : decode cX7_hangs 1 = .ok (.iload_n 1, 1) := by decide +kernel
theorem dX7_hangs_2 : decode cX7_hangs 2 = .ok (.invokevirtual 124, 3) := by decide +kernel
theorem dX7_hangs_5 : decode cX7_hangs 5 = .ok (.ifCond .ne 6, 3) := by decide +kernel
theorem dX7_hangs_8 : decode cX7_hangs 8 = .ok (.ldc 108, 2) := by decide +kernel
theorem dX7_hangs_10 : decode cX7_hangs 10 = .ok (.ireturn, 1) := by decide +kernel
theorem dX7_hangs_11 : decode cX7_hangs 11 = .ok (.iload_n 2, 1) := by decide +kernel
theorem dX7_hangs_12 : decode cX7_hangs 12 = .ok (.tableswitch 68 0 3 #[32, 41, 50, 59], 32) := by decide +kernel
theorem dX7_hangs_44 : decode cX7_hangs 44 = .ok (.aload_n 0, 1) := by decide +kernel
theorem dX7_hangs_45 : decode cX7_hangs 45 = .ok (.getfield 58, 3) := by decide +kernel
theorem dX7_hangs_48 : decode cX7_hangs 48 = .ok (.iload_n 1, 1) := by decide +kernel
theorem dX7_hangs_49 : decode cX7_hangs 49 = .ok (.invokevirtual 255, 3) := by decide +kernel
theorem dX7_hangs_52 : decode cX7_hangs 52 = .ok (.ireturn, 1) := by decide +kernel
theorem dX7_hangs_53 : decode cX7_hangs 53 = .ok (.aload_n 0, 1) := by decide +kernel
theorem dX7_hangs_54 : decode cX7_hangs 54 = .ok (.getfield 58, 3) := by decide +kernel
theorem dX7_hangs_57 : decode cX7_hangs 57 = .ok (.iload_n 1, 1) := by decide +kernel
theorem dX7_hangs_58 : decode cX7_hangs 58 = .ok (.invokevirtual 258, 3) := by decide +kernel
theorem dX7_hangs_61 : decode cX7_hangs 61 = .ok (.ireturn, 1) := by decide +kernel
theorem dX7_hangs_62 : decode cX7_hangs 62 = .ok (.aload_n 0, 1) := by decide +kernel
theorem dX7_hangs_63 : decode cX7_hangs 63 = .ok (.getfield 58, 3) := by decide +kernel
theorem dX7_hangs_66 : decode cX7_hangs 66 = .ok (.iload_n 1, 1) := by decide +kernel
theorem dX7_hangs_67 : decode cX7_hangs 67 = .ok (.invokevirtual 261, 3) := by decide +kernel
theorem dX7_hangs_70 : decode cX7_hangs 70 = .ok (.ireturn, 1) := by decide +kernel
theorem dX7_hangs_71 : decode cX7_hangs 71 = .ok (.aload_n 0, 1) := by decide +kernel
theorem dX7_hangs_72 : decode cX7_hangs 72 = .ok (.getfield 58, 3) := by decide +kernel
theorem dX7_hangs_75 : decode cX7_hangs 75 = .ok (.iload_n 1, 1) := by decide +kernel
theorem dX7_hangs_76 : decode cX7_hangs 76 = .ok (.invokevirtual 264, 3) := by decide +kernel
theorem dX7_hangs_79 : decode cX7_hangs 79 = .ok (.ireturn, 1) := by decide +kernel
theorem dX7_hangs_80 : decode cX7_hangs 80 = .ok (.ldc 69, 2) := by decide +kernel
theorem dX7_hangs_82 : decode cX7_hangs 82 = .ok (.ireturn, 1) := by decide +kernel
theorem dX7_term_0 : decode cX7_term 0 = .ok (.iload_n 1, 1) := by decide +kernel
theorem dX7_term_1 : decode cX7_term 1 = .ok (.ifCond .lt 9, 3) := by decide +kernel
theorem dX7_term_4 : decode cX7_term 4 = .ok (.iload_n 1, 1) := by decide +kernel
theorem dX7_term_5 : decode cX7_term 5 = .ok (.bipush 8, 2) := by decide +kernel
theorem dX7_term_7 : decode cX7_term 7 = .ok (.if_icmp .lt 6, 3) := by decide +kernel
theorem dX7_term_10 : decode cX7_term 10 = .ok (.ldc 108, 2) := by decide +kernel
theorem dX7_term_12 : decode cX7_term 12 = .ok (.ireturn, 1) := by decide +kernel
theorem dX7_term_13 : decode cX7_term 13 = .ok (.aload_n 0, 1) := by decide +kernel
theorem dX7_term_14 : decode cX7_term 14 = .ok (.getfield 26, 3) := by decide +kernel
theorem dX7_term_17 : decode cX7_term 17 = .ok (.getfield 170, 3) := by decide +kernel
theorem dX7_term_20 : decode cX7_term 20 = .ok (.istore_n 3, 1) := by decide +kernel
theorem dX7_term_21 : decode cX7_term 21 = .ok (.iload_n 2, 1) := by decide +kernel
theorem dX7_term_22 : decode cX7_term 22 = .ok (.tableswitch 104 0 4 #[34, 45, 56, 73, 94], 34) := by decide +kernel
theorem dX7_term_56 : decode cX7_term 56 = .ok (.aload_n 0, 1) := by decide +kernel
theorem dX7_term_57 : decode cX7_term 57 = .ok (.getfield 49, 3) := by decide +kernel
theorem dX7_term_60 : decode cX7_term 60 = .ok (.iconst 0, 1) := by decide +kernel
theorem dX7_term_61 : decode cX7_term 61 = .ok (.iload_n 1, 1) := by decide +kernel
theorem dX7_term_62 : decode cX7_term 62 = .ok (.iload_n 3, 1) := by decide +kernel
theorem dX7_term_63 : decode cX7_term 63 = .ok (.invokevirtual 267, 3) := by decide +kernel
theorem dX7_term_66 : decode cX7_term 66 = .ok (.ireturn, 1) := by decide +kernel
theorem dX7_term_67 : decode cX7_term 67 = .ok (.aload_n 0, 1) := by decide +kernel
theorem dX7_term_68 : decode cX7_term 68 = .ok (.getfield 49, 3) := by decide +kernel
theorem dX7_term_71 : decode cX7_term 71 = .ok (.iconst 1, 1) := by decide +kernel
theorem dX7_term_72 : decode cX7_term 72 = .ok (.iload_n 1, 1) := by decide +kernel
theorem dX7_term_73 : decode cX7_term 73 = .ok (.iload_n 3, 1) := by decide +kernel
theorem dX7_term_74 : decode cX7_term 74 = .ok (.invokevirtual 267, 3) := by decide +kernel
theorem dX7_term_77 : decode cX7_term 77 = .ok (.ireturn, 1) := by decide +kernel
theorem dX7_term_78 : decode cX7_term 78 = .ok (.aload_n 0, 1) := by decide +kernel
theorem dX7_term_79 : decode cX7_term 79 = .ok (.getfield 19, 3) := by decide +kernel
theorem dX7_term_82 : decode cX7_term 82 = .ok (.aload_n 0, 1) := by decide +kernel
theorem dX7_term_83 : decode cX7_term 83 = .ok (.getfield 49, 3) := by decide +kernel
theorem dX7_term_86 : decode cX7_term 86 = .ok (.iload_n 1, 1) := by decide +kernel
theorem dX7_term_87 : decode cX7_term 87 = .ok (.iload_n 3, 1) := by decide +kernel
theorem dX7_term_88 : decode cX7_term 88 = .ok (.invokevirtual 271, 3) := by decide +kernel
theorem dX7_term_91 : decode cX7_term 91 = .ok (.invokevirtual 205, 3) := by decide +kernel
theorem dX7_term_94 : decode cX7_term 94 = .ok (.ireturn, 1) := by decide +kernel
theorem dX7_term_95 : decode cX7_term 95 = .ok (.aload_n 0, 1) := by decide +kernel
theorem dX7_term_96 : decode cX7_term 96 = .ok (.getfield 49, 3) := by decide +kernel
theorem dX7_term_99 : decode cX7_term 99 = .ok (.iload_n 3, 1) := by decide +kernel
theorem dX7_term_100 : decode cX7_term 100 = .ok (.invokevirtual 199, 3) := by decide +kernel
theorem dX7_term_103 : decode cX7_term 103 = .ok (.iload_n 1, 1) := by decide +kernel
theorem dX7_term_104 : decode cX7_term 104 = .ok (.invokestatic 127, 3) := by decide +kernel
theorem dX7_term_107 : decode cX7_term 107 = .ok (.ifCond .eq 7, 3) := by decide +kernel
theorem dX7_term_110 : decode cX7_term 110 = .ok (.iconst 1, 1) := by decide +kernel
theorem dX7_term_111 : decode cX7_term 111 = .ok (.goto 4, 3) := by decide +kernel
theorem dX7_term_114 : decode cX7_term 114 = .ok (.iconst 0, 1) := by decide +kernel
theorem dX7_term_115 : decode cX7_term 115 = .ok (.ireturn, 1) := by decide +kernel
theorem dX7_term_116 : decode cX7_term 116 = .ok (.aload_n 0, 1) := by decide +kernel
theorem dX7_term_117 : decode cX7_term 117 = .ok (.getfield 49, 3) := by decide +kernel
theorem dX7_term_120 : decode cX7_term 120 = .ok (.iload_n 1, 1) := by decide +kernel
theorem dX7_term_121 : decode cX7_term 121 = .ok (.iload_n 3, 1) := by decide +kernel
theorem dX7_term_122 : decode cX7_term 122 = .ok (.invokevirtual 274, 3) := by decide +kernel
theorem dX7_term_125 : decode cX7_term 125 = .ok (.ireturn, 1) := by decide +kernel
theorem dX7_term_126 : decode cX7_term 126 = .ok (.ldc 69, 2) := by decide +kernel
theorem dX7_term_128 : decode cX7_term 128 = .ok (.ireturn, 1) := by decide +kernel
theorem dX7_by_0 : decode cX7_by 0 = .ok (.iload_n 1, 1) := by decide +kernel
theorem dX7_by_1 : decode cX7_by 1 = .ok (.ifCond .lt 9, 3) := by decide +kernel
theorem dX7_by_4 : decode cX7_by 4 = .ok (.iload_n 1, 1) := by decide +kernel
theorem dX7_by_5 : decode cX7_by 5 = .ok (.bipush 64, 2) := by decide +kernel
theorem dX7_by_7 : decode cX7_by 7 = .ok (.if_icmp .lt 6, 3) := by decide +kernel
theorem dX7_by_10 : decode cX7_by 10 = .ok (.ldc 69, 2) := by decide +kernel
theorem dX7_by_12 : decode cX7_by 12 = .ok (.ireturn, 1) := by decide +kernel
theorem dX7_by_13 : decode cX7_by 13 = .ok (.iload_n 2, 1) := by decide +kernel
theorem dX7_by_14 : decode cX7_by 14 = .ok (.lookupswitch 44 #[(0, 26), (1, 35)], 26) := by decide +kernel
theorem dX7_by_40 : decode cX7_by 40 = .ok (.aload_n 0, 1) := by decide +kernel
theorem dX7_by_41 : decode cX7_by 41 = .ok (.getfield 49, 3) := by decide +kernel
theorem dX7_by_44 : decode cX7_by 44 = .ok (.iload_n 1, 1) := by decide +kernel
theorem dX7_by_45 : decode cX7_by 45 = .ok (.invokevirtual 277, 3) := by decide +kernel
theorem dX7_by_48 : decode cX7_by 48 = .ok (.ireturn, 1) := by decide +kernel
theorem dX7_by_49 : decode cX7_by 49 = .ok (.aload_n 0, 1) := by decide +kernel
theorem dX7_by_50 : decode cX7_by 50 = .ok (.getfield 49, 3) := by decide +kernel
theorem dX7_by_53 : decode cX7_by 53 = .ok (.iload_n 1, 1) := by decide +kernel
theorem dX7_by_54 : decode cX7_by 54 = .ok (.invokevirtual 173, 3) := by decide +kernel
theorem dX7_by_57 : decode cX7_by 57 = .ok (.ireturn, 1) := by decide +kernel
theorem dX7_by_58 : decode cX7_by 58 = .ok (.ldc 69, 2) := by decide +kernel
theorem dX7_by_60 : decode cX7_by 60 = .ok (.ireturn, 1) := by decide +kernel
theorem dX7_sign_0 : decode cX7_sign 0 = .ok (.iload_n 1, 1) := by decide +kernel
theorem dX7_sign_1 : decode cX7_sign 1 = .ok (.ifCond .ge 8, 3) := by decide +kernel
theorem dX7_sign_4 : decode cX7_sign 4 = .ok (.ldc 69, 2) := by decide +kernel
theorem dX7_sign_6 : decode cX7_sign 6 = .ok (.goto 18, 3) := by decide +kernel
theorem dX7_sign_9 : decode cX7_sign 9 = .ok (.aload_n 0, 1) := by decide +kernel
theorem dX7_sign_10 : decode cX7_sign 10 = .ok (.getfield 65, 3) := by decide +kernel
theorem dX7_sign_13 : decode cX7_sign 13 = .ok (.iload_n 1, 1) := by decide +kernel
theorem dX7_sign_14 : decode cX7_sign 14 = .ok (.aload_n 0, 1) := by decide +kernel
theorem dX7_sign_15 : decode cX7_sign 15 = .ok (.invokevirtual 131, 3) := by decide +kernel
theorem dX7_sign_18 : decode cX7_sign 18 = .ok (.invokevirtual 185, 3) := by decide +kernel
theorem dX7_sign_21 : decode cX7_sign 21 = .ok (.getfield 280, 3) := by decide +kernel
theorem dX7_sign_24 : decode cX7_sign 24 = .ok (.ireturn, 1) := by decide +kernel
theorem dX7_isImage_0 : decode cX7_isImage 0 = .ok (.iload_n 0, 1) := by decide +kernel
theorem dX7_isImage_1 : decode cX7_isImage 1 = .ok (.ifCond .lt 12, 3) := by decide +kernel
theorem dX7_isImage_4 : decode cX7_isImage 4 = .ok (.iload_n 0, 1) := by decide +kernel
theorem dX7_isImage_5 : decode cX7_isImage 5 = .ok (.iconst 2, 1) := by decide +kernel
theorem dX7_isImage_6 : decode cX7_isImage 6 = .ok (.if_icmp .ge 7, 3) := by decide +kernel
theorem dX7_isImage_9 : decode cX7_isImage 9 = .ok (.iconst 1, 1) := by decide +kernel
theorem dX7_isImage_10 : decode cX7_isImage 10 = .ok (.goto 4, 3) := by decide +kernel
theorem dX7_isImage_13 : decode cX7_isImage 13 = .ok (.iconst 0, 1) := by decide +kernel
theorem dX7_isImage_14 : decode cX7_isImage 14 = .ok (.ireturn, 1) := by decide +kernel
theorem dX7_keep_0 : decode cX7_keep 0 = .ok (.iload_n 1, 1) := by decide +kernel
theorem dX7_keep_1 : decode cX7_keep 1 = .ok (.invokestatic 283, 3) := by decide +kernel
theorem dX7_keep_4 : decode cX7_keep 4 = .ok (.ifCond .ne 6, 3) := by decide +kernel
theorem dX7_keep_7 : decode cX7_keep 7 = .ok (.ldc 108, 2) := by decide +kernel
theorem dX7_keep_9 : decode cX7_keep 9 = .ok (.ireturn, 1) := by decide +kernel
theorem dX7_keep_10 : decode cX7_keep 10 = .ok (.aload_n 0, 1) := by decide +kernel
theorem dX7_keep_11 : decode cX7_keep 11 = .ok (.getfield 37, 3) := by decide +kernel
theorem dX7_keep_14 : decode cX7_keep 14 = .ok (.iload_n 1, 1) := by decide +kernel
theorem dX7_keep_15 : decode cX7_keep 15 = .ok (.aload_n 0, 1) := by decide +kernel
theorem dX7_keep_16 : decode cX7_keep 16 = .ok (.getfield 26, 3) := by decide +kernel
theorem dX7_keep_19 : decode cX7_keep 19 = .ok (.invokevirtual 114, 3) := by decide +kernel
theorem dX7_keep_22 : decode cX7_keep 22 = .ok (.iastore, 1) := by decide +kernel
theorem dX7_keep_23 : decode cX7_keep 23 = .ok (.aload_n 0, 1) := by decide +kernel
theorem dX7_keep_24 : decode cX7_keep 24 = .ok (.getfield 33, 3) := by decide +kernel
theorem dX7_keep_27 : decode cX7_keep 27 = .ok (.invokevirtual 92, 3) := by decide +kernel
theorem dX7_keep_30 : decode cX7_keep 30 = .ok (.iconst 1, 1) := by decide +kernel
theorem dX7_keep_31 : decode cX7_keep 31 = .ok (.ireturn, 1) := by decide +kernel
theorem dX7_goBack_0 : decode cX7_goBack 0 = .ok (.iload_n 1, 1) := by decide +kernel
theorem dX7_goBack_1 : decode cX7_goBack 1 = .ok (.invokestatic 283, 3) := by decide +kernel
theorem dX7_goBack_4 : decode cX7_goBack 4 = .ok (.ifCond .ne 6, 3) := by decide +kernel
theorem dX7_goBack_7 : decode cX7_goBack 7 = .ok (.ldc 108, 2) := by decide +kernel
theorem dX7_goBack_9 : decode cX7_goBack 9 = .ok (.ireturn, 1) := by decide +kernel
theorem dX7_goBack_10 : decode cX7_goBack 10 = .ok (.aload_n 0, 1) := by decide +kernel
theorem dX7_goBack_11 : decode cX7_goBack 11 = .ok (.getfield 37, 3) := by decide +kernel
theorem dX7_goBack_14 : decode cX7_goBack 14 = .ok (.iload_n 1, 1) := by decide +kernel
theorem dX7_goBack_15 : decode cX7_goBack 15 = .ok (.iaload, 1) := by decide +kernel
theorem dX7_goBack_16 : decode cX7_goBack 16 = .ok (.iconst (-1), 1) := by decide +kernel
theorem dX7_goBack_17 : decode cX7_goBack 17 = .ok (.if_icmp .ne 6, 3) := by decide +kernel
theorem dX7_goBack_20 : decode cX7_goBack 20 = .ok (.ldc 113, 2) := by decide +kernel
theorem dX7_goBack_22 : decode cX7_goBack 22 = .ok (.ireturn, 1) := by decide +kernel
theorem dX7_goBack_23 : decode cX7_goBack 23 = .ok (.aload_n 0, 1) := by decide +kernel
theorem dX7_goBack_24 : decode cX7_goBack 24 = .ok (.aload_n 0, 1) := by decide +kernel
theorem dX7_goBack_25 : decode cX7_goBack 25 = .ok (.getfield 37, 3) := by decide +kernel
theorem dX7_goBack_28 : decode cX7_goBack 28 = .ok (.iload_n 1, 1) := by decide +kernel
theorem dX7_goBack_29 : decode cX7_goBack 29 = .ok (.iaload, 1) := by decide +kernel
theorem dX7_goBack_30 : decode cX7_goBack 30 = .ok (.invokevirtual 152, 3) := by decide +kernel
theorem dX7_goBack_33 : decode cX7_goBack 33 = .ok (.aload_n 0, 1) := by decide +kernel
theorem dX7_goBack_34 : decode cX7_goBack 34 = .ok (.getfield 33, 3) := by decide +kernel
theorem dX7_goBack_37 : decode cX7_goBack 37 = .ok (.invokevirtual 92, 3) := by decide +kernel
theorem dX7_goBack_40 : decode cX7_goBack 40 = .ok (.iconst 1, 1) := by decide +kernel
theorem dX7_goBack_41 : decode cX7_goBack 41 = .ok (.ireturn, 1) := by decide +kernel
def FX7_part (σ : SS) (a0 : Int32) (a1 : Int32) (a2 : Int32) : Option (Int32) :=
  ob (FX7_isClause σ a0) (fun r2 => if r2 = 0 then some (-1000000001 : Int32)
    else if a1 < 0 then some (-1000000002 : Int32)
    else if a2 < 0 then some (-1000000002 : Int32)
    else if a2 ≤ (1 : Int32) then ob (FX0_ownPart σ a0 a1) (fun r8 => if r8 = (-1 : Int32) then some (-1 : Int32)
    else if a2 = 0 then gd (inb r8 30) (some (gA σ 49 (Int32.toNatClampNeg r8)))
    else gd (inb r8 30) (some (gA σ 50 (Int32.toNatClampNeg r8))))
    else some (-1000000002 : Int32))
set_option maxRecDepth 100000 in
set_option maxHeartbeats 4000000 in
theorem c_X7_part {σ : SS} {a0 : Int32} {a1 : Int32} {a2 : Int32} {r : Int32} (hf : FX7_part σ a0 a1 a2 = some r) : Mcw wsX yX7_part cX7_part 5 (some .int) ({ frames := 1, cells := 0, slots := 0, locals := 24 } : Room) (fun g => [.ref (g.2.1 0), .int a0, .int a1, .int a2]) σ (fun g => some (.int r)) σ := by
  refine w_enter wsX_fix (by decide) (fun g => Nat.le_of_ble_eq_true rfl) ?_
  intro X g hX
  replace hX : Okw wsX X g cX7_part 5 RX7 (some .int) ({ frames := 1, cells := 0, slots := 0, locals := 24 } : Room) (fun g => some (.int r)) σ := hX
  have h0 := hX.1
  show Vx X g.1 5 (wsX g σ) 0 [(0, .ref (g.2.1 0)), (1, .int a0), (2, .int a1), (3, .int a2)] []
  rw [FX7_part] at hf
  refine vx_aload_n h0 dX7_part_0 rfl ?_
  refine vx_iload_n h0 dX7_part_1 rfl ?_
  obtain ⟨r2, h1, hf⟩ := ob_some hf
  refine w_callV (st := []) (ci := 7) (q0 := 0) hX (c_X7_isClause h1) ce_X7_isClause q512 ⟨rfl, rfl⟩ ⟨by decide, by decide⟩ rfl rfl rfl rfl (xo_0 g _) rfl (Nat.le_of_ble_eq_true rfl) dX7_part_2 ?_
  show Vx X g.1 5 (wsX g σ) 5 [(0, .ref (g.2.1 0)), (1, .int a0), (2, .int a1), (3, .int a2)] [.int r2]
  refine vx_if_ne (tgt := 11) h0 dX7_part_5 (by decide) (fun c3 => ?_) (fun c3 => ?_)
  · replace hf := (if_neg c3).symm.trans hf
    refine vx_iload_n h0 dX7_part_11 rfl ?_
    refine vx_if_lt (tgt := 24) h0 dX7_part_12 (by decide) (fun c4 => ?_) (fun c4 => ?_)
    · replace hf := (if_pos c4).symm.trans hf
      refine vx_ldc h0 q336 dX7_part_24 ?_
      exact w_iretP hX hf dX7_part_26
    · replace hf := (if_neg c4).symm.trans hf
      refine vx_iload_n h0 dX7_part_15 rfl ?_
      refine vx_if_lt (tgt := 24) h0 dX7_part_16 (by decide) (fun c5 => ?_) (fun c5 => ?_)
      · replace hf := (if_pos c5).symm.trans hf
        refine vx_ldc h0 q336 dX7_part_24 ?_
        exact w_iretP hX hf dX7_part_26
      · replace hf := (if_neg c5).symm.trans hf
        refine vx_iload_n h0 dX7_part_19 rfl ?_
        refine vx_iconst (v := (1 : Int32)) h0 dX7_part_20 (by decide) ?_
        refine vx_icmp_le (tgt := 27) h0 dX7_part_21 (by decide) (fun c6 => ?_) (fun c6 => ?_)
        · replace hf := (if_pos c6).symm.trans hf
          refine vx_aload_n h0 dX7_part_27 rfl ?_
          refine xg_0_1 hX q308 dX7_part_28 ?_
          refine vx_iload_n h0 dX7_part_31 rfl ?_
          refine vx_iload_n h0 dX7_part_32 rfl ?_
          obtain ⟨r8, h7, hf⟩ := ob_some hf
          refine w_callV (st := []) (ci := 0) (q0 := 14) hX (c_X0_ownPart h7) ce_X0_ownPart q717 ⟨rfl, rfl⟩ ⟨by decide, by decide⟩ rfl rfl rfl rfl (xo_14 g _) rfl (Nat.le_of_ble_eq_true rfl) dX7_part_33 ?_
          show Vx X g.1 5 (wsX g σ) 36 [(0, .ref (g.2.1 0)), (1, .int a0), (2, .int a1), (3, .int a2)] [.int r8]
          refine vx_istore (ls' := [(4, .int r8), (0, .ref (g.2.1 0)), (1, .int a0), (2, .int a1), (3, .int a2)]) h0 dX7_part_36 (by decide) rfl ?_
          refine vx_iload h0 dX7_part_38 rfl ?_
          refine vx_iconst (v := (-1 : Int32)) h0 dX7_part_40 (by decide) ?_
          refine vx_icmp_ne (tgt := 46) h0 dX7_part_41 (by decide) (fun c9 => ?_) (fun c9 => ?_)
          · replace hf := (if_neg c9).symm.trans hf
            refine vx_iload_n h0 dX7_part_46 rfl ?_
            refine vx_if_ne (tgt := 63) h0 dX7_part_47 (by decide) (fun c10 => ?_) (fun c10 => ?_)
            · replace hf := (if_neg c10).symm.trans hf
              refine vx_aload_n h0 dX7_part_63 rfl ?_
              refine xg_0_1 hX q308 dX7_part_64 ?_
              refine xg_14_10 hX q141 dX7_part_67 ?_
              refine vx_iload h0 dX7_part_70 rfl ?_
              obtain ⟨b11, hf⟩ := gd_some hf
              refine xl_22 hX b11 dX7_part_72 ?_
              exact w_iretP hX hf dX7_part_73
            · replace hf := (if_pos c10).symm.trans hf
              refine vx_aload_n h0 dX7_part_50 rfl ?_
              refine xg_0_1 hX q308 dX7_part_51 ?_
              refine xg_14_9 hX q136 dX7_part_54 ?_
              refine vx_iload h0 dX7_part_57 rfl ?_
              obtain ⟨b12, hf⟩ := gd_some hf
              refine xl_21 hX b12 dX7_part_59 ?_
              refine vx_goto (tgt := 73) h0 dX7_part_60 (by decide) ?_
              exact w_iretP hX hf dX7_part_73
          · replace hf := (if_pos c9).symm.trans hf
            refine vx_iconst (v := (-1 : Int32)) h0 dX7_part_44 (by decide) ?_
            exact w_iretP hX hf dX7_part_45
        · replace hf := (if_neg c6).symm.trans hf
          refine vx_ldc h0 q336 dX7_part_24 ?_
          exact w_iretP hX hf dX7_part_26
  · replace hf := (if_pos c3).symm.trans hf
    refine vx_ldc h0 q484 dX7_part_8 ?_
    exact w_iretP hX hf dX7_part_10
def FX7_number (σ : SS) (a0 : Int32) (a1 : Int32) : Option (Int32) :=
  ob (FX7_isClause σ a0) (fun r2 => if r2 = 0 then some (-1000000001 : Int32)
    else if 0 ≤ a1 then ob (FX7_inForceNow σ) (fun r6 => ob (FX7_has σ r6 a0) (fun r8 => if r8 = 0 then some (-1 : Int32)
    else gd (inb a0 16) (if a1 ≤ (gA σ 44 (Int32.toNatClampNeg a0)) then ob (FX0_aroundAt σ a0 a1) (fun r13 => ob (FX0_place σ r13 r6) (fun r15 => some r15))
    else some (-1 : Int32))))
    else some (-1000000002 : Int32))
set_option maxRecDepth 100000 in
set_option maxHeartbeats 4000000 in
theorem c_X7_number {σ : SS} {a0 : Int32} {a1 : Int32} {r : Int32} (hf : FX7_number σ a0 a1 = some r) : Mcw wsX yX7_number cX7_number 4 (some .int) ({ frames := 3, cells := 0, slots := 0, locals := 65 } : Room) (fun g => [.ref (g.2.1 0), .int a0, .int a1]) σ (fun g => some (.int r)) σ := by
  refine w_enter wsX_fix (by decide) (fun g => Nat.le_of_ble_eq_true rfl) ?_
  intro X g hX
  replace hX : Okw wsX X g cX7_number 4 RX7 (some .int) ({ frames := 3, cells := 0, slots := 0, locals := 65 } : Room) (fun g => some (.int r)) σ := hX
  have h0 := hX.1
  show Vx X g.1 4 (wsX g σ) 0 [(0, .ref (g.2.1 0)), (1, .int a0), (2, .int a1)] []
  rw [FX7_number] at hf
  refine vx_aload_n h0 dX7_number_0 rfl ?_
  refine vx_iload_n h0 dX7_number_1 rfl ?_
  obtain ⟨r2, h1, hf⟩ := ob_some hf
  refine w_callV (st := []) (ci := 7) (q0 := 0) hX (c_X7_isClause h1) ce_X7_isClause q512 ⟨rfl, rfl⟩ ⟨by decide, by decide⟩ rfl rfl rfl rfl (xo_0 g _) rfl (Nat.le_of_ble_eq_true rfl) dX7_number_2 ?_
  show Vx X g.1 4 (wsX g σ) 5 [(0, .ref (g.2.1 0)), (1, .int a0), (2, .int a1)] [.int r2]
  refine vx_if_ne (tgt := 11) h0 dX7_number_5 (by decide) (fun c3 => ?_) (fun c3 => ?_)
  · replace hf := (if_neg c3).symm.trans hf
    refine vx_iload_n h0 dX7_number_11 rfl ?_
    refine vx_if_ge (tgt := 18) h0 dX7_number_12 (by decide) (fun c4 => ?_) (fun c4 => ?_)
    · replace hf := (if_pos c4).symm.trans hf
      refine vx_aload_n h0 dX7_number_18 rfl ?_
      obtain ⟨r6, h5, hf⟩ := ob_some hf
      refine w_callV (st := []) (ci := 7) (q0 := 0) hX (c_X7_inForceNow h5) ce_X7_inForceNow q517 ⟨rfl, rfl⟩ ⟨by decide, by decide⟩ rfl rfl rfl rfl (xo_0 g _) rfl (Nat.le_of_ble_eq_true rfl) dX7_number_19 ?_
      show Vx X g.1 4 (wsX g σ) 22 [(0, .ref (g.2.1 0)), (1, .int a0), (2, .int a1)] [.int r6]
      refine vx_istore_n (ls' := [(3, .int r6), (0, .ref (g.2.1 0)), (1, .int a0), (2, .int a1)]) h0 dX7_number_22 (by decide) rfl ?_
      refine vx_iload_n h0 dX7_number_23 rfl ?_
      refine vx_iload_n h0 dX7_number_24 rfl ?_
      obtain ⟨r8, h7, hf⟩ := ob_some hf
      refine w_callS (st := []) hX (c_X7_has h7) ce_X7_has q516 ⟨rfl, rfl⟩ ⟨by decide, by decide⟩ rfl rfl rfl (Nat.le_of_ble_eq_true rfl) dX7_number_25 ?_
      show Vx X g.1 4 (wsX g σ) 28 [(3, .int r6), (0, .ref (g.2.1 0)), (1, .int a0), (2, .int a1)] [.int r8]
      refine vx_if_eq (tgt := 44) h0 dX7_number_28 (by decide) (fun c9 => ?_) (fun c9 => ?_)
      · replace hf := (if_pos c9).symm.trans hf
        refine vx_iconst (v := (-1 : Int32)) h0 dX7_number_44 (by decide) ?_
        exact w_iretP hX hf dX7_number_45
      · replace hf := (if_neg c9).symm.trans hf
        refine vx_iload_n h0 dX7_number_31 rfl ?_
        refine vx_aload_n h0 dX7_number_32 rfl ?_
        refine xg_0_1 hX q308 dX7_number_33 ?_
        refine xg_14_4 hX q121 dX7_number_36 ?_
        refine vx_iload_n h0 dX7_number_39 rfl ?_
        obtain ⟨b10, hf⟩ := gd_some hf
        refine xl_16 hX b10 dX7_number_40 ?_
        refine vx_icmp_le (tgt := 46) h0 dX7_number_41 (by decide) (fun c11 => ?_) (fun c11 => ?_)
        · replace hf := (if_pos c11).symm.trans hf
          refine vx_aload_n h0 dX7_number_46 rfl ?_
          refine xg_0_1 hX q308 dX7_number_47 ?_
          refine vx_aload_n h0 dX7_number_50 rfl ?_
          refine xg_0_1 hX q308 dX7_number_51 ?_
          refine vx_iload_n h0 dX7_number_54 rfl ?_
          refine vx_iload_n h0 dX7_number_55 rfl ?_
          obtain ⟨r13, h12, hf⟩ := ob_some hf
          refine w_callV (st := [.ref (g.2.1 14)]) (ci := 0) (q0 := 14) hX (c_X0_aroundAt h12) ce_X0_aroundAt q725 ⟨rfl, rfl⟩ ⟨by decide, by decide⟩ rfl rfl rfl rfl (xo_14 g _) rfl (Nat.le_of_ble_eq_true rfl) dX7_number_56 ?_
          show Vx X g.1 4 (wsX g σ) 59 [(3, .int r6), (0, .ref (g.2.1 0)), (1, .int a0), (2, .int a1)] [.int r13, .ref (g.2.1 14)]
          refine vx_iload_n h0 dX7_number_59 rfl ?_
          obtain ⟨r15, h14, hf⟩ := ob_some hf
          refine w_callV (st := []) (ci := 0) (q0 := 14) hX (c_X0_place h14) ce_X0_place q726 ⟨rfl, rfl⟩ ⟨by decide, by decide⟩ rfl rfl rfl rfl (xo_14 g _) rfl (Nat.le_of_ble_eq_true rfl) dX7_number_60 ?_
          show Vx X g.1 4 (wsX g σ) 63 [(3, .int r6), (0, .ref (g.2.1 0)), (1, .int a0), (2, .int a1)] [.int r15]
          exact w_iretP hX hf dX7_number_63
        · replace hf := (if_neg c11).symm.trans hf
          refine vx_iconst (v := (-1 : Int32)) h0 dX7_number_44 (by decide) ?_
          exact w_iretP hX hf dX7_number_45
    · replace hf := (if_neg c4).symm.trans hf
      refine vx_ldc h0 q336 dX7_number_15 ?_
      exact w_iretP hX hf dX7_number_17
  · replace hf := (if_pos c3).symm.trans hf
    refine vx_ldc h0 q484 dX7_number_8 ?_
    exact w_iretP hX hf dX7_number_10
def FX7_hangs (σ : SS) (a0 : Int32) (a1 : Int32) : Option (Int32) :=
  ob (FX7_isClause σ a0) (fun r2 => if r2 = 0 then some (-1000000001 : Int32)
    else if a1 = (0 : Int32) then ob (FX3_mattersFor σ a0) (fun r6 => some r6)
    else if a1 = (1 : Int32) then ob (FX3_settles σ a0) (fun r9 => some r9)
    else if a1 = (2 : Int32) then ob (FX3_brings σ a0) (fun r12 => some r12)
    else if a1 = (3 : Int32) then ob (FX3_surety σ a0) (fun r15 => some r15)
    else some (-1000000002 : Int32))
set_option maxRecDepth 100000 in
set_option maxHeartbeats 4000000 in
theorem c_X7_hangs {σ : SS} {a0 : Int32} {a1 : Int32} {r : Int32} (hf : FX7_hangs σ a0 a1 = some r) : Mcw wsX yX7_hangs cX7_hangs 3 (some .int) ({ frames := 4, cells := 0, slots := 0, locals := 95 } : Room) (fun g => [.ref (g.2.1 0), .int a0, .int a1]) σ (fun g => some (.int r)) σ := by
  refine w_enter wsX_fix (by decide) (fun g => Nat.le_of_ble_eq_true rfl) ?_
  intro X g hX
  replace hX : Okw wsX X g cX7_hangs 3 RX7 (some .int) ({ frames := 4, cells := 0, slots := 0, locals := 95 } : Room) (fun g => some (.int r)) σ := hX
  have h0 := hX.1
  show Vx X g.1 3 (wsX g σ) 0 [(0, .ref (g.2.1 0)), (1, .int a0), (2, .int a1)] []
  rw [FX7_hangs] at hf
  refine vx_aload_n h0 dX7_hangs_0 rfl ?_
  refine vx_iload_n h0 dX7_hangs_1 rfl ?_
  obtain ⟨r2, h1, hf⟩ := ob_some hf
  refine w_callV (st := []) (ci := 7) (q0 := 0) hX (c_X7_isClause h1) ce_X7_isClause q512 ⟨rfl, rfl⟩ ⟨by decide, by decide⟩ rfl rfl rfl rfl (xo_0 g _) rfl (Nat.le_of_ble_eq_true rfl) dX7_hangs_2 ?_
  show Vx X g.1 3 (wsX g σ) 5 [(0, .ref (g.2.1 0)), (1, .int a0), (2, .int a1)] [.int r2]
  refine vx_if_ne (tgt := 11) h0 dX7_hangs_5 (by decide) (fun c3 => ?_) (fun c3 => ?_)
  · replace hf := (if_neg c3).symm.trans hf
    refine vx_iload_n h0 dX7_hangs_11 rfl ?_
    by_cases c4 : a1 = (0 : Int32)
    · replace hf := (if_pos c4).symm.trans hf
      refine vx_tabK (off := 32) (tgt := 44) h0 (0 : Int32) c4 dX7_hangs_12 (by decide) (by decide) (by decide) (by decide) ?_
      refine vx_aload_n h0 dX7_hangs_44 rfl ?_
      refine xg_0_6 hX q313 dX7_hangs_45 ?_
      refine vx_iload_n h0 dX7_hangs_48 rfl ?_
      obtain ⟨r6, h5, hf⟩ := ob_some hf
      refine w_callV (st := []) (ci := 3) (q0 := 34) hX (c_X3_mattersFor h5) ce_X3_mattersFor q731 ⟨rfl, rfl⟩ ⟨by decide, by decide⟩ rfl rfl rfl rfl (xo_34 g _) rfl (Nat.le_of_ble_eq_true rfl) dX7_hangs_49 ?_
      show Vx X g.1 3 (wsX g σ) 52 [(0, .ref (g.2.1 0)), (1, .int a0), (2, .int a1)] [.int r6]
      exact w_iretP hX hf dX7_hangs_52
    · replace hf := (if_neg c4).symm.trans hf
      by_cases c7 : a1 = (1 : Int32)
      · replace hf := (if_pos c7).symm.trans hf
        refine vx_tabK (off := 41) (tgt := 53) h0 (1 : Int32) c7 dX7_hangs_12 (by decide) (by decide) (by decide) (by decide) ?_
        refine vx_aload_n h0 dX7_hangs_53 rfl ?_
        refine xg_0_6 hX q313 dX7_hangs_54 ?_
        refine vx_iload_n h0 dX7_hangs_57 rfl ?_
        obtain ⟨r9, h8, hf⟩ := ob_some hf
        refine w_callV (st := []) (ci := 3) (q0 := 34) hX (c_X3_settles h8) ce_X3_settles q732 ⟨rfl, rfl⟩ ⟨by decide, by decide⟩ rfl rfl rfl rfl (xo_34 g _) rfl (Nat.le_of_ble_eq_true rfl) dX7_hangs_58 ?_
        show Vx X g.1 3 (wsX g σ) 61 [(0, .ref (g.2.1 0)), (1, .int a0), (2, .int a1)] [.int r9]
        exact w_iretP hX hf dX7_hangs_61
      · replace hf := (if_neg c7).symm.trans hf
        by_cases c10 : a1 = (2 : Int32)
        · replace hf := (if_pos c10).symm.trans hf
          refine vx_tabK (off := 50) (tgt := 62) h0 (2 : Int32) c10 dX7_hangs_12 (by decide) (by decide) (by decide) (by decide) ?_
          refine vx_aload_n h0 dX7_hangs_62 rfl ?_
          refine xg_0_6 hX q313 dX7_hangs_63 ?_
          refine vx_iload_n h0 dX7_hangs_66 rfl ?_
          obtain ⟨r12, h11, hf⟩ := ob_some hf
          refine w_callV (st := []) (ci := 3) (q0 := 34) hX (c_X3_brings h11) ce_X3_brings q741 ⟨rfl, rfl⟩ ⟨by decide, by decide⟩ rfl rfl rfl rfl (xo_34 g _) rfl (Nat.le_of_ble_eq_true rfl) dX7_hangs_67 ?_
          show Vx X g.1 3 (wsX g σ) 70 [(0, .ref (g.2.1 0)), (1, .int a0), (2, .int a1)] [.int r12]
          exact w_iretP hX hf dX7_hangs_70
        · replace hf := (if_neg c10).symm.trans hf
          by_cases c13 : a1 = (3 : Int32)
          · replace hf := (if_pos c13).symm.trans hf
            refine vx_tabK (off := 59) (tgt := 71) h0 (3 : Int32) c13 dX7_hangs_12 (by decide) (by decide) (by decide) (by decide) ?_
            refine vx_aload_n h0 dX7_hangs_71 rfl ?_
            refine xg_0_6 hX q313 dX7_hangs_72 ?_
            refine vx_iload_n h0 dX7_hangs_75 rfl ?_
            obtain ⟨r15, h14, hf⟩ := ob_some hf
            refine w_callV (st := []) (ci := 3) (q0 := 34) hX (c_X3_surety h14) ce_X3_surety q745 ⟨rfl, rfl⟩ ⟨by decide, by decide⟩ rfl rfl rfl rfl (xo_34 g _) rfl (Nat.le_of_ble_eq_true rfl) dX7_hangs_76 ?_
            show Vx X g.1 3 (wsX g σ) 79 [(0, .ref (g.2.1 0)), (1, .int a0), (2, .int a1)] [.int r15]
            exact w_iretP hX hf dX7_hangs_79
          · replace hf := (if_neg c13).symm.trans hf
            have nc4 : ¬ Int32.toInt a1 = 0 := lv_neT c4 rfl
            have nc7 : ¬ Int32.toInt a1 = 1 := lv_neT c7 rfl
            have nc10 : ¬ Int32.toInt a1 = 2 := lv_neT c10 rfl
            have nc13 : ¬ Int32.toInt a1 = 3 := lv_neT c13 rfl
            refine vx_tabOut (tgt := 80) h0 dX7_hangs_12 (by omega) (by decide) ?_
            refine vx_ldc h0 q336 dX7_hangs_80 ?_
            exact w_iretP hX hf dX7_hangs_82
  · replace hf := (if_pos c3).symm.trans hf
    refine vx_ldc h0 q484 dX7_hangs_8 ?_
    exact w_iretP hX hf dX7_hangs_10
def FX7_term (σ : SS) (a0 : Int32) (a1 : Int32) : Option (Int32) :=
  if a0 < 0 then some (-1000000001 : Int32)
    else if a0 < (8 : Int32) then if a1 = (0 : Int32) then ob (FX2_countParts σ (0 : Int32) a0 (gI σ 61)) (fun r5 => some r5)
    else if a1 = (1 : Int32) then ob (FX2_countParts σ (1 : Int32) a0 (gI σ 61)) (fun r8 => some r8)
    else if a1 = (2 : Int32) then ob (FX2_firstDefinition σ a0 (gI σ 61)) (fun r11 => ob (FX0_ownerOf σ r11) (fun r13 => some r13))
    else if a1 = (3 : Int32) then ob (FX2_roundTerms σ (gI σ 61)) (fun r16 => ob (FX7_has σ r16 a0) (fun r18 => if r18 = 0 then some (0 : Int32)
    else some (1 : Int32)))
    else if a1 = (4 : Int32) then ob (FX2_hangsOn σ a0 (gI σ 61)) (fun r22 => some r22)
    else some (-1000000002 : Int32)
    else some (-1000000001 : Int32)
set_option maxRecDepth 100000 in
set_option maxHeartbeats 4000000 in
theorem c_X7_term {σ : SS} {a0 : Int32} {a1 : Int32} {r : Int32} (hf : FX7_term σ a0 a1 = some r) : Mcw wsX yX7_term cX7_term 4 (some .int) ({ frames := 3, cells := 0, slots := 0, locals := 71 } : Room) (fun g => [.ref (g.2.1 0), .int a0, .int a1]) σ (fun g => some (.int r)) σ := by
  refine w_enter wsX_fix (by decide) (fun g => Nat.le_of_ble_eq_true rfl) ?_
  intro X g hX
  replace hX : Okw wsX X g cX7_term 4 RX7 (some .int) ({ frames := 3, cells := 0, slots := 0, locals := 71 } : Room) (fun g => some (.int r)) σ := hX
  have h0 := hX.1
  show Vx X g.1 4 (wsX g σ) 0 [(0, .ref (g.2.1 0)), (1, .int a0), (2, .int a1)] []
  rw [FX7_term] at hf
  refine vx_iload_n h0 dX7_term_0 rfl ?_
  refine vx_if_lt (tgt := 10) h0 dX7_term_1 (by decide) (fun c1 => ?_) (fun c1 => ?_)
  · replace hf := (if_pos c1).symm.trans hf
    refine vx_ldc h0 q484 dX7_term_10 ?_
    exact w_iretP hX hf dX7_term_12
  · replace hf := (if_neg c1).symm.trans hf
    refine vx_iload_n h0 dX7_term_4 rfl ?_
    refine vx_bipush (v := (8 : Int32)) h0 dX7_term_5 (by decide) ?_
    refine vx_icmp_lt (tgt := 13) h0 dX7_term_7 (by decide) (fun c2 => ?_) (fun c2 => ?_)
    · replace hf := (if_pos c2).symm.trans hf
      refine vx_aload_n h0 dX7_term_13 rfl ?_
      refine xg_0_2 hX q309 dX7_term_14 ?_
      refine xg_24_1 hX q213 dX7_term_17 ?_
      refine vx_istore_n (ls' := [(3, .int (gI σ 61)), (0, .ref (g.2.1 0)), (1, .int a0), (2, .int a1)]) h0 dX7_term_20 (by decide) rfl ?_
      refine vx_iload_n h0 dX7_term_21 rfl ?_
      by_cases c3 : a1 = (0 : Int32)
      · replace hf := (if_pos c3).symm.trans hf
        refine vx_tabK (off := 34) (tgt := 56) h0 (0 : Int32) c3 dX7_term_22 (by decide) (by decide) (by decide) (by decide) ?_
        refine vx_aload_n h0 dX7_term_56 rfl ?_
        refine xg_0_5 hX q312 dX7_term_57 ?_
        refine vx_iconst (v := (0 : Int32)) h0 dX7_term_60 (by decide) ?_
        refine vx_iload_n h0 dX7_term_61 rfl ?_
        refine vx_iload_n h0 dX7_term_62 rfl ?_
        obtain ⟨r5, h4, hf⟩ := ob_some hf
        refine w_callV (st := []) (ci := 2) (q0 := 28) hX (c_X2_countParts h4) ce_X2_countParts q750 ⟨rfl, rfl⟩ ⟨by decide, by decide⟩ rfl rfl rfl rfl (xo_28 g _) rfl (Nat.le_of_ble_eq_true rfl) dX7_term_63 ?_
        show Vx X g.1 4 (wsX g σ) 66 [(3, .int (gI σ 61)), (0, .ref (g.2.1 0)), (1, .int a0), (2, .int a1)] [.int r5]
        exact w_iretP hX hf dX7_term_66
      · replace hf := (if_neg c3).symm.trans hf
        by_cases c6 : a1 = (1 : Int32)
        · replace hf := (if_pos c6).symm.trans hf
          refine vx_tabK (off := 45) (tgt := 67) h0 (1 : Int32) c6 dX7_term_22 (by decide) (by decide) (by decide) (by decide) ?_
          refine vx_aload_n h0 dX7_term_67 rfl ?_
          refine xg_0_5 hX q312 dX7_term_68 ?_
          refine vx_iconst (v := (1 : Int32)) h0 dX7_term_71 (by decide) ?_
          refine vx_iload_n h0 dX7_term_72 rfl ?_
          refine vx_iload_n h0 dX7_term_73 rfl ?_
          obtain ⟨r8, h7, hf⟩ := ob_some hf
          refine w_callV (st := []) (ci := 2) (q0 := 28) hX (c_X2_countParts h7) ce_X2_countParts q750 ⟨rfl, rfl⟩ ⟨by decide, by decide⟩ rfl rfl rfl rfl (xo_28 g _) rfl (Nat.le_of_ble_eq_true rfl) dX7_term_74 ?_
          show Vx X g.1 4 (wsX g σ) 77 [(3, .int (gI σ 61)), (0, .ref (g.2.1 0)), (1, .int a0), (2, .int a1)] [.int r8]
          exact w_iretP hX hf dX7_term_77
        · replace hf := (if_neg c6).symm.trans hf
          by_cases c9 : a1 = (2 : Int32)
          · replace hf := (if_pos c9).symm.trans hf
            refine vx_tabK (off := 56) (tgt := 78) h0 (2 : Int32) c9 dX7_term_22 (by decide) (by decide) (by decide) (by decide) ?_
            refine vx_aload_n h0 dX7_term_78 rfl ?_
            refine xg_0_1 hX q308 dX7_term_79 ?_
            refine vx_aload_n h0 dX7_term_82 rfl ?_
            refine xg_0_5 hX q312 dX7_term_83 ?_
            refine vx_iload_n h0 dX7_term_86 rfl ?_
            refine vx_iload_n h0 dX7_term_87 rfl ?_
            obtain ⟨r11, h10, hf⟩ := ob_some hf
            refine w_callV (st := [.ref (g.2.1 14)]) (ci := 2) (q0 := 28) hX (c_X2_firstDefinition h10) ce_X2_firstDefinition q751 ⟨rfl, rfl⟩ ⟨by decide, by decide⟩ rfl rfl rfl rfl (xo_28 g _) rfl (Nat.le_of_ble_eq_true rfl) dX7_term_88 ?_
            show Vx X g.1 4 (wsX g σ) 91 [(3, .int (gI σ 61)), (0, .ref (g.2.1 0)), (1, .int a0), (2, .int a1)] [.int r11, .ref (g.2.1 14)]
            obtain ⟨r13, h12, hf⟩ := ob_some hf
            refine w_callV (st := []) (ci := 0) (q0 := 14) hX (c_X0_ownerOf h12) ce_X0_ownerOf q695 ⟨rfl, rfl⟩ ⟨by decide, by decide⟩ rfl rfl rfl rfl (xo_14 g _) rfl (Nat.le_of_ble_eq_true rfl) dX7_term_91 ?_
            show Vx X g.1 4 (wsX g σ) 94 [(3, .int (gI σ 61)), (0, .ref (g.2.1 0)), (1, .int a0), (2, .int a1)] [.int r13]
            exact w_iretP hX hf dX7_term_94
          · replace hf := (if_neg c9).symm.trans hf
            by_cases c14 : a1 = (3 : Int32)
            · replace hf := (if_pos c14).symm.trans hf
              refine vx_tabK (off := 73) (tgt := 95) h0 (3 : Int32) c14 dX7_term_22 (by decide) (by decide) (by decide) (by decide) ?_
              refine vx_aload_n h0 dX7_term_95 rfl ?_
              refine xg_0_5 hX q312 dX7_term_96 ?_
              refine vx_iload_n h0 dX7_term_99 rfl ?_
              obtain ⟨r16, h15, hf⟩ := ob_some hf
              refine w_callV (st := []) (ci := 2) (q0 := 28) hX (c_X2_roundTerms h15) ce_X2_roundTerms q690 ⟨rfl, rfl⟩ ⟨by decide, by decide⟩ rfl rfl rfl rfl (xo_28 g _) rfl (Nat.le_of_ble_eq_true rfl) dX7_term_100 ?_
              show Vx X g.1 4 (wsX g σ) 103 [(3, .int (gI σ 61)), (0, .ref (g.2.1 0)), (1, .int a0), (2, .int a1)] [.int r16]
              refine vx_iload_n h0 dX7_term_103 rfl ?_
              obtain ⟨r18, h17, hf⟩ := ob_some hf
              refine w_callS (st := []) hX (c_X7_has h17) ce_X7_has q516 ⟨rfl, rfl⟩ ⟨by decide, by decide⟩ rfl rfl rfl (Nat.le_of_ble_eq_true rfl) dX7_term_104 ?_
              show Vx X g.1 4 (wsX g σ) 107 [(3, .int (gI σ 61)), (0, .ref (g.2.1 0)), (1, .int a0), (2, .int a1)] [.int r18]
              refine vx_if_eq (tgt := 114) h0 dX7_term_107 (by decide) (fun c19 => ?_) (fun c19 => ?_)
              · replace hf := (if_pos c19).symm.trans hf
                refine vx_iconst (v := (0 : Int32)) h0 dX7_term_114 (by decide) ?_
                exact w_iretP hX hf dX7_term_115
              · replace hf := (if_neg c19).symm.trans hf
                refine vx_iconst (v := (1 : Int32)) h0 dX7_term_110 (by decide) ?_
                refine vx_goto (tgt := 115) h0 dX7_term_111 (by decide) ?_
                exact w_iretP hX hf dX7_term_115
            · replace hf := (if_neg c14).symm.trans hf
              by_cases c20 : a1 = (4 : Int32)
              · replace hf := (if_pos c20).symm.trans hf
                refine vx_tabK (off := 94) (tgt := 116) h0 (4 : Int32) c20 dX7_term_22 (by decide) (by decide) (by decide) (by decide) ?_
                refine vx_aload_n h0 dX7_term_116 rfl ?_
                refine xg_0_5 hX q312 dX7_term_117 ?_
                refine vx_iload_n h0 dX7_term_120 rfl ?_
                refine vx_iload_n h0 dX7_term_121 rfl ?_
                obtain ⟨r22, h21, hf⟩ := ob_some hf
                refine w_callV (st := []) (ci := 2) (q0 := 28) hX (c_X2_hangsOn h21) ce_X2_hangsOn q755 ⟨rfl, rfl⟩ ⟨by decide, by decide⟩ rfl rfl rfl rfl (xo_28 g _) rfl (Nat.le_of_ble_eq_true rfl) dX7_term_122 ?_
                show Vx X g.1 4 (wsX g σ) 125 [(3, .int (gI σ 61)), (0, .ref (g.2.1 0)), (1, .int a0), (2, .int a1)] [.int r22]
                exact w_iretP hX hf dX7_term_125
              · replace hf := (if_neg c20).symm.trans hf
                have nc3 : ¬ Int32.toInt a1 = 0 := lv_neT c3 rfl
                have nc6 : ¬ Int32.toInt a1 = 1 := lv_neT c6 rfl
                have nc9 : ¬ Int32.toInt a1 = 2 := lv_neT c9 rfl
                have nc14 : ¬ Int32.toInt a1 = 3 := lv_neT c14 rfl
                have nc20 : ¬ Int32.toInt a1 = 4 := lv_neT c20 rfl
                refine vx_tabOut (tgt := 126) h0 dX7_term_22 (by omega) (by decide) ?_
                refine vx_ldc h0 q336 dX7_term_126 ?_
                exact w_iretP hX hf dX7_term_128
    · replace hf := (if_neg c2).symm.trans hf
      refine vx_ldc h0 q484 dX7_term_10 ?_
      exact w_iretP hX hf dX7_term_12
def FX7_by (σ : SS) (a0 : Int32) (a1 : Int32) : Option (Int32) :=
  if a0 < 0 then some (-1000000002 : Int32)
    else if a0 < (64 : Int32) then if a1 = (0 : Int32) then ob (FX2_inForce σ a0) (fun r5 => some r5)
    else if a1 = (1 : Int32) then ob (FX2_countWrong σ a0) (fun r8 => some r8)
    else some (-1000000002 : Int32)
    else some (-1000000002 : Int32)
set_option maxRecDepth 100000 in
set_option maxHeartbeats 4000000 in
theorem c_X7_by {σ : SS} {a0 : Int32} {a1 : Int32} {r : Int32} (hf : FX7_by σ a0 a1 = some r) : Mcw wsX yX7_by cX7_by 3 (some .int) ({ frames := 3, cells := 0, slots := 0, locals := 67 } : Room) (fun g => [.ref (g.2.1 0), .int a0, .int a1]) σ (fun g => some (.int r)) σ := by
  refine w_enter wsX_fix (by decide) (fun g => Nat.le_of_ble_eq_true rfl) ?_
  intro X g hX
  replace hX : Okw wsX X g cX7_by 3 RX7 (some .int) ({ frames := 3, cells := 0, slots := 0, locals := 67 } : Room) (fun g => some (.int r)) σ := hX
  have h0 := hX.1
  show Vx X g.1 3 (wsX g σ) 0 [(0, .ref (g.2.1 0)), (1, .int a0), (2, .int a1)] []
  rw [FX7_by] at hf
  refine vx_iload_n h0 dX7_by_0 rfl ?_
  refine vx_if_lt (tgt := 10) h0 dX7_by_1 (by decide) (fun c1 => ?_) (fun c1 => ?_)
  · replace hf := (if_pos c1).symm.trans hf
    refine vx_ldc h0 q336 dX7_by_10 ?_
    exact w_iretP hX hf dX7_by_12
  · replace hf := (if_neg c1).symm.trans hf
    refine vx_iload_n h0 dX7_by_4 rfl ?_
    refine vx_bipush (v := (64 : Int32)) h0 dX7_by_5 (by decide) ?_
    refine vx_icmp_lt (tgt := 13) h0 dX7_by_7 (by decide) (fun c2 => ?_) (fun c2 => ?_)
    · replace hf := (if_pos c2).symm.trans hf
      refine vx_iload_n h0 dX7_by_13 rfl ?_
      by_cases c3 : a1 = (0 : Int32)
      · replace hf := (if_pos c3).symm.trans hf
        refine vx_lookup (off := 26) (tgt := 40) h0 dX7_by_14 (by decide) (by rw [c3]; rfl) (by decide) ?_
        refine vx_aload_n h0 dX7_by_40 rfl ?_
        refine xg_0_5 hX q312 dX7_by_41 ?_
        refine vx_iload_n h0 dX7_by_44 rfl ?_
        obtain ⟨r5, h4, hf⟩ := ob_some hf
        refine w_callV (st := []) (ci := 2) (q0 := 28) hX (c_X2_inForce h4) ce_X2_inForce q521 ⟨rfl, rfl⟩ ⟨by decide, by decide⟩ rfl rfl rfl rfl (xo_28 g _) rfl (Nat.le_of_ble_eq_true rfl) dX7_by_45 ?_
        show Vx X g.1 3 (wsX g σ) 48 [(0, .ref (g.2.1 0)), (1, .int a0), (2, .int a1)] [.int r5]
        exact w_iretP hX hf dX7_by_48
      · replace hf := (if_neg c3).symm.trans hf
        by_cases c6 : a1 = (1 : Int32)
        · replace hf := (if_pos c6).symm.trans hf
          refine vx_lookup (off := 35) (tgt := 49) h0 dX7_by_14 (by decide) (by rw [c6]; rfl) (by decide) ?_
          refine vx_aload_n h0 dX7_by_49 rfl ?_
          refine xg_0_5 hX q312 dX7_by_50 ?_
          refine vx_iload_n h0 dX7_by_53 rfl ?_
          obtain ⟨r8, h7, hf⟩ := ob_some hf
          refine w_callV (st := []) (ci := 2) (q0 := 28) hX (c_X2_countWrong h7) ce_X2_countWrong q596 ⟨rfl, rfl⟩ ⟨by decide, by decide⟩ rfl rfl rfl rfl (xo_28 g _) rfl (Nat.le_of_ble_eq_true rfl) dX7_by_54 ?_
          show Vx X g.1 3 (wsX g σ) 57 [(0, .ref (g.2.1 0)), (1, .int a0), (2, .int a1)] [.int r8]
          exact w_iretP hX hf dX7_by_57
        · replace hf := (if_neg c6).symm.trans hf
          refine vx_lookup (off := 44) (tgt := 58) h0 dX7_by_14 (by decide) ((lv_osw c3 rfl).trans ((lv_osw c6 rfl).trans rfl)) (by decide) ?_
          refine vx_ldc h0 q336 dX7_by_58 ?_
          exact w_iretP hX hf dX7_by_60
    · replace hf := (if_neg c2).symm.trans hf
      refine vx_ldc h0 q336 dX7_by_10 ?_
      exact w_iretP hX hf dX7_by_12
def FX7_sign (σ : SS) (a0 : Int32) : Option (Int32 × SS) :=
  if 0 ≤ a0 then ob (FX7_inForceNow σ) (fun r3 => ob (FX5_write σ a0 r3) (fun σ5 => some ((gI σ5 92), σ5)))
    else some ((-1000000002 : Int32), σ)
set_option maxRecDepth 100000 in
set_option maxHeartbeats 4000000 in
theorem c_X7_sign {σ : SS} {a0 : Int32} {r : Int32} {σr : SS} (hf : FX7_sign σ a0 = some (r, σr)) : Mcw wsX yX7_sign cX7_sign 2 (some .int) ({ frames := 6, cells := 0, slots := 0, locals := 134 } : Room) (fun g => [.ref (g.2.1 0), .int a0]) σ (fun g => some (.int r)) σr := by
  refine w_enter wsX_fix (by decide) (fun g => Nat.le_of_ble_eq_true rfl) ?_
  intro X g hX
  replace hX : Okw wsX X g cX7_sign 2 RX7 (some .int) ({ frames := 6, cells := 0, slots := 0, locals := 134 } : Room) (fun g => some (.int r)) σr := hX
  have h0 := hX.1
  show Vx X g.1 2 (wsX g σ) 0 [(0, .ref (g.2.1 0)), (1, .int a0)] []
  rw [FX7_sign] at hf
  refine vx_iload_n h0 dX7_sign_0 rfl ?_
  refine vx_if_ge (tgt := 9) h0 dX7_sign_1 (by decide) (fun c1 => ?_) (fun c1 => ?_)
  · replace hf := (if_pos c1).symm.trans hf
    refine vx_aload_n h0 dX7_sign_9 rfl ?_
    refine xg_0_7 hX q314 dX7_sign_10 ?_
    refine vx_iload_n h0 dX7_sign_13 rfl ?_
    refine vx_aload_n h0 dX7_sign_14 rfl ?_
    obtain ⟨r3, h2, hf⟩ := ob_some hf
    refine w_callV (st := [.int a0, .ref (g.2.1 35)]) (ci := 7) (q0 := 0) hX (c_X7_inForceNow h2) ce_X7_inForceNow q517 ⟨rfl, rfl⟩ ⟨by decide, by decide⟩ rfl rfl rfl rfl (xo_0 g _) rfl (Nat.le_of_ble_eq_true rfl) dX7_sign_15 ?_
    show Vx X g.1 2 (wsX g σ) 18 [(0, .ref (g.2.1 0)), (1, .int a0)] [.int r3, .int a0, .ref (g.2.1 35)]
    obtain ⟨σ5, h4, hf⟩ := ob_some hf
    refine w_callV (st := []) (ci := 5) (q0 := 35) hX (c_X5_write h4) ce_X5_write q639 ⟨rfl, rfl⟩ ⟨by decide, by decide⟩ rfl rfl rfl rfl (xo_35 g _) rfl (Nat.le_of_ble_eq_true rfl) dX7_sign_18 ?_
    show Vx X g.1 2 (wsX g σ5) 21 [(0, .ref (g.2.1 0)), (1, .int a0)] [.ref (g.2.1 35)]
    refine xg_35_2 hX q293 dX7_sign_21 ?_
    exact w_iretE hX hf dX7_sign_24
  · replace hf := (if_neg c1).symm.trans hf
    refine vx_ldc h0 q336 dX7_sign_4 ?_
    refine vx_goto (tgt := 24) h0 dX7_sign_6 (by decide) ?_
    exact w_iretE hX hf dX7_sign_24
def FX7_isImage (σ : SS) (a0 : Int32) : Option (Int32) :=
  if a0 < 0 then some (0 : Int32)
    else if (2 : Int32) ≤ a0 then some (0 : Int32)
    else some (1 : Int32)
set_option maxRecDepth 100000 in
set_option maxHeartbeats 4000000 in
theorem c_X7_isImage {σ : SS} {a0 : Int32} {r : Int32} (hf : FX7_isImage σ a0 = some r) : Mcw wsX yX7_isImage cX7_isImage 1 (some .boolean) ({ frames := 0, cells := 0, slots := 0, locals := 0 } : Room) (fun g => [.int a0]) σ (fun g => some (.int r)) σ := by
  refine w_enter wsX_fix (by decide) (fun g => Nat.le_of_ble_eq_true rfl) ?_
  intro X g hX
  replace hX : Okw wsX X g cX7_isImage 1 RX7 (some .boolean) ({ frames := 0, cells := 0, slots := 0, locals := 0 } : Room) (fun g => some (.int r)) σ := hX
  have h0 := hX.1
  show Vx X g.1 1 (wsX g σ) 0 [(0, .int a0)] []
  rw [FX7_isImage] at hf
  refine vx_iload_n h0 dX7_isImage_0 rfl ?_
  refine vx_if_lt (tgt := 13) h0 dX7_isImage_1 (by decide) (fun c1 => ?_) (fun c1 => ?_)
  · replace hf := (if_pos c1).symm.trans hf
    refine vx_iconst (v := (0 : Int32)) h0 dX7_isImage_13 (by decide) ?_
    exact w_zretP hX hf rfl dX7_isImage_14
  · replace hf := (if_neg c1).symm.trans hf
    refine vx_iload_n h0 dX7_isImage_4 rfl ?_
    refine vx_iconst (v := (2 : Int32)) h0 dX7_isImage_5 (by decide) ?_
    refine vx_icmp_ge (tgt := 13) h0 dX7_isImage_6 (by decide) (fun c3 => ?_) (fun c3 => ?_)
    · replace hf := (if_pos c3).symm.trans hf
      refine vx_iconst (v := (0 : Int32)) h0 dX7_isImage_13 (by decide) ?_
      exact w_zretP hX hf rfl dX7_isImage_14
    · replace hf := (if_neg c3).symm.trans hf
      refine vx_iconst (v := (1 : Int32)) h0 dX7_isImage_9 (by decide) ?_
      refine vx_goto (tgt := 14) h0 dX7_isImage_10 (by decide) ?_
      exact w_zretP hX hf rfl dX7_isImage_14
def FX7_keep (σ : SS) (a0 : Int32) : Option (Int32 × SS) :=
  ob (FX7_isImage σ a0) (fun r2 => if r2 = 0 then some ((-1000000001 : Int32), σ)
    else ob (FX6_packed σ) (fun r5 => gd (inb a0 2) (bd (sA σ 74 (upd (gA σ 74) (Int32.toNatClampNeg a0) r5)) (fun σ7 => ob (FX1_clear σ7) (fun σ9 => some ((1 : Int32), σ9))))))
set_option maxRecDepth 100000 in
set_option maxHeartbeats 4000000 in
theorem c_X7_keep {σ : SS} {a0 : Int32} {r : Int32} {σr : SS} (hf : FX7_keep σ a0 = some (r, σr)) : Mcw wsX yX7_keep cX7_keep 2 (some .int) ({ frames := 1, cells := 0, slots := 0, locals := 20 } : Room) (fun g => [.ref (g.2.1 0), .int a0]) σ (fun g => some (.int r)) σr := by
  refine w_enter wsX_fix (by decide) (fun g => Nat.le_of_ble_eq_true rfl) ?_
  intro X g hX
  replace hX : Okw wsX X g cX7_keep 2 RX7 (some .int) ({ frames := 1, cells := 0, slots := 0, locals := 20 } : Room) (fun g => some (.int r)) σr := hX
  have h0 := hX.1
  show Vx X g.1 2 (wsX g σ) 0 [(0, .ref (g.2.1 0)), (1, .int a0)] []
  rw [FX7_keep] at hf
  refine vx_iload_n h0 dX7_keep_0 rfl ?_
  obtain ⟨r2, h1, hf⟩ := ob_some hf
  refine w_callS (st := []) hX (c_X7_isImage h1) ce_X7_isImage q771 ⟨rfl, rfl⟩ ⟨by decide, by decide⟩ rfl rfl rfl (Nat.le_of_ble_eq_true rfl) dX7_keep_1 ?_
  show Vx X g.1 2 (wsX g σ) 4 [(0, .ref (g.2.1 0)), (1, .int a0)] [.int r2]
  refine vx_if_ne (tgt := 10) h0 dX7_keep_4 (by decide) (fun c3 => ?_) (fun c3 => ?_)
  · replace hf := (if_neg c3).symm.trans hf
    refine vx_aload_n h0 dX7_keep_10 rfl ?_
    refine xg_0_4 hX q311 dX7_keep_11 ?_
    refine vx_iload_n h0 dX7_keep_14 rfl ?_
    refine vx_aload_n h0 dX7_keep_15 rfl ?_
    refine xg_0_2 hX q309 dX7_keep_16 ?_
    obtain ⟨r5, h4, hf⟩ := ob_some hf
    refine w_callV (st := [.int a0, .ref (g.2.1 27)]) (ci := 6) (q0 := 24) hX (c_X6_packed h4) ce_X6_packed q491 ⟨rfl, rfl⟩ ⟨by decide, by decide⟩ rfl rfl rfl rfl (xo_24 g _) rfl (Nat.le_of_ble_eq_true rfl) dX7_keep_19 ?_
    show Vx X g.1 2 (wsX g σ) 22 [(0, .ref (g.2.1 0)), (1, .int a0)] [.int r5, .int a0, .ref (g.2.1 27)]
    obtain ⟨b6, hf⟩ := gd_some hf
    refine xs_27 hX b6 dX7_keep_22 ?_
    generalize (sA σ 74 (upd (gA σ 74) (Int32.toNatClampNeg a0) r5)) = σ7 at hf ⊢
    replace hf := bd_h hf
    refine vx_aload_n h0 dX7_keep_23 rfl ?_
    refine xg_0_3 hX q310 dX7_keep_24 ?_
    obtain ⟨σ9, h8, hf⟩ := ob_some hf
    refine w_callV (st := []) (ci := 1) (q0 := 25) hX (c_X1_clear h8) ce_X1_clear q420 ⟨rfl, rfl⟩ ⟨by decide, by decide⟩ rfl rfl rfl rfl (xo_25 g _) rfl (Nat.le_of_ble_eq_true rfl) dX7_keep_27 ?_
    show Vx X g.1 2 (wsX g σ9) 30 [(0, .ref (g.2.1 0)), (1, .int a0)] []
    refine vx_iconst (v := (1 : Int32)) h0 dX7_keep_30 (by decide) ?_
    exact w_iretE hX hf dX7_keep_31
  · replace hf := (if_pos c3).symm.trans hf
    refine vx_ldc h0 q484 dX7_keep_7 ?_
    exact w_iretE hX hf dX7_keep_9
def FX7_goBack (σ : SS) (a0 : Int32) : Option (Int32 × SS) :=
  ob (FX7_isImage σ a0) (fun r2 => if r2 = 0 then some ((-1000000001 : Int32), σ)
    else gd (inb a0 2) (if (gA σ 74 (Int32.toNatClampNeg a0)) = (-1 : Int32) then some ((-1000000003 : Int32), σ)
    else gd (inb a0 2) (ob (FX7_restore σ (gA σ 74 (Int32.toNatClampNeg a0))) (fun σ8 => ob (FX1_clear σ8) (fun σ10 => some ((1 : Int32), σ10))))))
set_option maxRecDepth 100000 in
set_option maxHeartbeats 4000000 in
theorem c_X7_goBack {σ : SS} {a0 : Int32} {r : Int32} {σr : SS} (hf : FX7_goBack σ a0 = some (r, σr)) : Mcw wsX yX7_goBack cX7_goBack 2 (some .int) ({ frames := 6, cells := 0, slots := 0, locals := 138 } : Room) (fun g => [.ref (g.2.1 0), .int a0]) σ (fun g => some (.int r)) σr := by
  refine w_enter wsX_fix (by decide) (fun g => Nat.le_of_ble_eq_true rfl) ?_
  intro X g hX
  replace hX : Okw wsX X g cX7_goBack 2 RX7 (some .int) ({ frames := 6, cells := 0, slots := 0, locals := 138 } : Room) (fun g => some (.int r)) σr := hX
  have h0 := hX.1
  show Vx X g.1 2 (wsX g σ) 0 [(0, .ref (g.2.1 0)), (1, .int a0)] []
  rw [FX7_goBack] at hf
  refine vx_iload_n h0 dX7_goBack_0 rfl ?_
  obtain ⟨r2, h1, hf⟩ := ob_some hf
  refine w_callS (st := []) hX (c_X7_isImage h1) ce_X7_isImage q771 ⟨rfl, rfl⟩ ⟨by decide, by decide⟩ rfl rfl rfl (Nat.le_of_ble_eq_true rfl) dX7_goBack_1 ?_
  show Vx X g.1 2 (wsX g σ) 4 [(0, .ref (g.2.1 0)), (1, .int a0)] [.int r2]
  refine vx_if_ne (tgt := 10) h0 dX7_goBack_4 (by decide) (fun c3 => ?_) (fun c3 => ?_)
  · replace hf := (if_neg c3).symm.trans hf
    refine vx_aload_n h0 dX7_goBack_10 rfl ?_
    refine xg_0_4 hX q311 dX7_goBack_11 ?_
    refine vx_iload_n h0 dX7_goBack_14 rfl ?_
    obtain ⟨b4, hf⟩ := gd_some hf
    refine xl_27 hX b4 dX7_goBack_15 ?_
    refine vx_iconst (v := (-1 : Int32)) h0 dX7_goBack_16 (by decide) ?_
    refine vx_icmp_ne (tgt := 23) h0 dX7_goBack_17 (by decide) (fun c5 => ?_) (fun c5 => ?_)
    · replace hf := (if_neg c5).symm.trans hf
      refine vx_aload_n h0 dX7_goBack_23 rfl ?_
      refine vx_aload_n h0 dX7_goBack_24 rfl ?_
      refine xg_0_4 hX q311 dX7_goBack_25 ?_
      refine vx_iload_n h0 dX7_goBack_28 rfl ?_
      obtain ⟨b6, hf⟩ := gd_some hf
      refine xl_27 hX b6 dX7_goBack_29 ?_
      obtain ⟨σ8, h7, hf⟩ := ob_some hf
      refine w_callV (st := []) (ci := 7) (q0 := 0) hX (c_X7_restore h7) ce_X7_restore q550 ⟨rfl, rfl⟩ ⟨by decide, by decide⟩ rfl rfl rfl rfl (xo_0 g _) rfl (Nat.le_of_ble_eq_true rfl) dX7_goBack_30 ?_
      show Vx X g.1 2 (wsX g σ8) 33 [(0, .ref (g.2.1 0)), (1, .int a0)] []
      refine vx_aload_n h0 dX7_goBack_33 rfl ?_
      refine xg_0_3 hX q310 dX7_goBack_34 ?_
      obtain ⟨σ10, h9, hf⟩ := ob_some hf
      refine w_callV (st := []) (ci := 1) (q0 := 25) hX (c_X1_clear h9) ce_X1_clear q420 ⟨rfl, rfl⟩ ⟨by decide, by decide⟩ rfl rfl rfl rfl (xo_25 g _) rfl (Nat.le_of_ble_eq_true rfl) dX7_goBack_37 ?_
      show Vx X g.1 2 (wsX g σ10) 40 [(0, .ref (g.2.1 0)), (1, .int a0)] []
      refine vx_iconst (v := (1 : Int32)) h0 dX7_goBack_40 (by decide) ?_
      exact w_iretE hX hf dX7_goBack_41
    · replace hf := (if_pos c5).symm.trans hf
      refine vx_ldc h0 q490 dX7_goBack_20 ?_
      exact w_iretE hX hf dX7_goBack_22
  · replace hf := (if_pos c3).symm.trans hf
    refine vx_ldc h0 q484 dX7_goBack_7 ?_
    exact w_iretE hX hf dX7_goBack_9
