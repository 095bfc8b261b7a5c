/-! printed by wip/whole/gen.py: decode rows, functions, contracts -/
theorem dX2_reckonReach_0 : decode cX2_reckonReach 0 = .ok (.aload_n 0, 1) := by decide +kernel
theorem dX2_reckonReach_1 : decode cX2_reckonReach 1 = .ok (.getfield 21, 3) := by decide +kernel
theorem dX2_reckonReach_4 : decode cX2_reckonReach 4 = .ok (.iconst 0, 1) := by decide +kernel
theorem dX2_reckonReach_5 : decode cX2_reckonReach 5 = .ok (.aload_n 0, 1) := by decide +kernel
theorem dX2_reckonReach_6 : decode cX2_reckonReach 6 = .ok (.getfield 24, 3) := by decide +kernel
theorem dX2_reckonReach_9 : decode cX2_reckonReach 9 = .ok (.iconst 0, 1) := by decide +kernel
theorem dX2_reckonReach_10 : decode cX2_reckonReach 10 = .ok (.bipush 64, 2) := by decide +kernel
theorem dX2_reckonReach_12 : decode cX2_reckonReach 12 = .ok (.invokestatic 98, 3) := by decide +kernel
theorem dX2_reckonReach_15 : decode cX2_reckonReach 15 = .ok (.iconst 0, 1) := by decide +kernel
theorem dX2_reckonReach_16 : decode cX2_reckonReach 16 = .ok (.istore_n 1, 1) := by decide +kernel
theorem dX2_reckonReach_17 : decode cX2_reckonReach 17 = .ok (.iload_n 1, 1) := by decide +kernel
theorem dX2_reckonReach_18 : decode cX2_reckonReach 18 = .ok (.bipush 8, 2) := by decide +kernel
theorem dX2_reckonReach_20 : decode cX2_reckonReach 20 = .ok (.if_icmp .ge 86, 3) := by decide +kernel
theorem dX2_reckonReach_23 : decode cX2_reckonReach 23 = .ok (.iconst 0, 1) := by decide +kernel
theorem dX2_reckonReach_24 : decode cX2_reckonReach 24 = .ok (.istore_n 2, 1) := by decide +kernel
theorem dX2_reckonReach_25 : decode cX2_reckonReach 25 = .ok (.iload_n 2, 1) := by decide +kernel
theorem dX2_reckonReach_26 : decode cX2_reckonReach 26 = .ok (.bipush 8, 2) := by decide +kernel
theorem dX2_reckonReach_28 : decode cX2_reckonReach 28 = .ok (.if_icmp .ge 72, 3) := by decide +kernel
theorem dX2_reckonReach_31 : decode cX2_reckonReach 31 = .ok (.aload_n 0, 1) := by decide +kernel
theorem dX2_reckonReach_32 : decode cX2_reckonReach 32 = .ok (.getfield 24, 3) := by decide +kernel
theorem dX2_reckonReach_35 : decode cX2_reckonReach 35 = .ok (.iload_n 2, 1) := by decide +kernel
theorem dX2_reckonReach_36 : decode cX2_reckonReach 36 = .ok (.bipush 8, 2) := by decide +kernel
theorem dX2_reckonReach_38 : decode cX2_reckonReach 38 = .ok (.imul, 1) := by decide +kernel
theorem dX2_reckonReach_39 : decode cX2_reckonReach 39 = .ok (.iload_n 1, 1) := by decide +kernel
theorem dX2_reckonReach_40 : decode cX2_reckonReach 40 = .ok (.iadd, 1) := by decide +kernel
theorem dX2_reckonReach_41 : decode cX2_reckonReach 41 = .ok (.laload, 1) := by decide +kernel
theorem dX2_reckonReach_42 : decode cX2_reckonReach 42 = .ok (.lstore_n 3, 1) := by decide +kernel
theorem dX2_reckonReach_43 : decode cX2_reckonReach 43 = .ok (.iconst 0, 1) := by decide +kernel
theorem dX2_reckonReach_44 : decode cX2_reckonReach 44 = .ok (.istore 5, 2) := by decide +kernel
theorem dX2_reckonReach_46 : decode cX2_reckonReach 46 = .ok (.iload 5, 2) := by decide +kernel
theorem dX2_reckonReach_48 : decode cX2_reckonReach 48 = .ok (.bipush 8, 2) := by decide +kernel
theorem dX2_reckonReach_50 : decode cX2_reckonReach 50 = .ok (.if_icmp .ge 44, 3) := by decide +kernel
theorem dX2_reckonReach_53 : decode cX2_reckonReach 53 = .ok (.lload_n 3, 1) := by decide +kernel
theorem dX2_reckonReach_54 : decode cX2_reckonReach 54 = .ok (.lconst 0, 1) := by decide +kernel
theorem dX2_reckonReach_55 : decode cX2_reckonReach 55 = .ok (.lcmp, 1) := by decide +kernel
theorem dX2_reckonReach_56 : decode cX2_reckonReach 56 = .ok (.ifCond .eq 38, 3) := by decide +kernel
theorem dX2_reckonReach_59 : decode cX2_reckonReach 59 = .ok (.aload_n 0, 1) := by decide +kernel
theorem dX2_reckonReach_60 : decode cX2_reckonReach 60 = .ok (.getfield 24, 3) := by decide +kernel
theorem dX2_reckonReach_63 : decode cX2_reckonReach 63 = .ok (.iload_n 2, 1) := by decide +kernel
theorem dX2_reckonReach_64 : decode cX2_reckonReach 64 = .ok (.bipush 8, 2) := by decide +kernel
theorem dX2_reckonReach_66 : decode cX2_reckonReach 66 = .ok (.imul, 1) := by decide +kernel
theorem dX2_reckonReach_67 : decode cX2_reckonReach 67 = .ok (.iload 5, 2) := by decide +kernel
theorem dX2_reckonReach_69 : decode cX2_reckonReach 69 = .ok (.iadd, 1) := by decide +kernel
theorem dX2_reckonReach_70 : decode cX2_reckonReach 70 = .ok (.dup2, 1) := by decide +kernel
theorem dX2_reckonReach_71 : decode cX2_reckonReach 71 = .ok (.laload, 1) := by decide +kernel
theorem dX2_reckonReach_72 : decode cX2_reckonReach 72 = .ok (.lload_n 3, 1) := by decide +kernel
theorem dX2_reckonReach_73 : decode cX2_reckonReach 73 = .ok (.aload_n 0, 1) := by decide +kernel
theorem dX2_reckonReach_74 : decode cX2_reckonReach 74 = .ok (.getfield 24, 3) := by decide +kernel
theorem dX2_reckonReach_77 : decode cX2_reckonReach 77 = .ok (.iload_n 1, 1) := by decide +kernel
theorem dX2_reckonReach_78 : decode cX2_reckonReach 78 = .ok (.bipush 8, 2) := by decide +kernel
theorem dX2_reckonReach_80 : decode cX2_reckonReach 80 = .ok (.imul, 1) := by decide +kernel
theorem dX2_reckonReach_81 : decode cX2_reckonReach 81 = .ok (.iload 5, 2) := by decide +kernel
theorem dX2_reckonReach_83 : decode cX2_reckonReach 83 = .ok (.iadd, 1) := by decide +kernel
theorem dX2_reckonReach_84 : decode cX2_reckonReach 84 = .ok (.laload, 1) := by decide +kernel
theorem dX2_reckonReach_85 : decode cX2_reckonReach 85 = .ok (.land, 1) := by decide +kernel
theorem dX2_reckonReach_86 : decode cX2_reckonReach 86 = .ok (.lor, 1) := by decide +kernel
theorem dX2_reckonReach_87 : decode cX2_reckonReach 87 = .ok (.lastore, 1) := by decide +kernel
theorem dX2_reckonReach_88 : decode cX2_reckonReach 88 = .ok (.iinc 5 1, 3) := by decide +kernel
theorem dX2_reckonReach_91 : decode cX2_reckonReach 91 = .ok (.goto (-45), 3) := by decide +kernel
theorem dX2_reckonReach_94 : decode cX2_reckonReach 94 = .ok (.iinc 2 1, 3) := by decide +kernel
theorem dX2_reckonReach_97 : decode cX2_reckonReach 97 = .ok (.goto (-72), 3) := by decide +kernel
theorem dX2_reckonReach_100 : decode cX2_reckonReach 100 = .ok (.iinc 1 1, 3) := by decide +kernel
theorem dX2_reckonReach_103 : decode cX2_reckonReach 103 = .ok (.goto (-86), 3) := by decide +kernel
theorem dX2_reckonReach_106 : decode cX2_reckonReach 106 = .ok (.return_, 1) := by decide +kernel
theorem dX2_reckon_0 : decode cX2_reckon 0 = .ok (.aload_n 0, 1) := by decide +kernel
theorem dX2_reckon_1 : decode cX2_reckon 1 = .ok (.iload_n 1, 1) := by decide +kernel
theorem dX2_reckon_2 : decode cX2_reckon 2 = .ok (.invokevirtual 31, 3) := by decide +kernel
theorem dX2_reckon_5 : decode cX2_reckon 5 = .ok (.aload_n 0, 1) := by decide +kernel
theorem dX2_reckon_6 : decode cX2_reckon 6 = .ok (.invokevirtual 35, 3) := by decide +kernel
theorem dX2_reckon_9 : decode cX2_reckon 9 = .ok (.aload_n 0, 1) := by decide +kernel
theorem dX2_reckon_10 : decode cX2_reckon 10 = .ok (.invokevirtual 38, 3) := by decide +kernel
theorem dX2_reckon_13 : decode cX2_reckon 13 = .ok (.aload_n 0, 1) := by decide +kernel
theorem dX2_reckon_14 : decode cX2_reckon 14 = .ok (.invokevirtual 41, 3) := by decide +kernel
theorem dX2_reckon_17 : decode cX2_reckon 17 = .ok (.return_, 1) := by decide +kernel
theorem dX7_isSo_0 : decode cX7_isSo 0 = .ok (.lload_n 0, 1) := by decide +kernel
theorem dX7_isSo_1 : decode cX7_isSo 1 = .ok (.iload_n 2, 1) := by decide +kernel
theorem dX7_isSo_2 : decode cX7_isSo 2 = .ok (.lushr, 1) := by decide +kernel
theorem dX7_isSo_3 : decode cX7_isSo 3 = .ok (.lconst 1, 1) := by decide +kernel
theorem dX7_isSo_4 : decode cX7_isSo 4 = .ok (.land, 1) := by decide +kernel
theorem dX7_isSo_5 : decode cX7_isSo 5 = .ok (.lconst 0, 1) := by decide +kernel
theorem dX7_isSo_6 : decode cX7_isSo 6 = .ok (.lcmp, 1) := by decide +kernel
theorem dX7_isSo_7 : decode cX7_isSo 7 = .ok (.ifCond .eq 7, 3) := by decide +kernel
theorem dX7_isSo_10 : decode cX7_isSo 10 = .ok (.iconst 1, 1) := by decide +kernel
theorem dX7_isSo_11 : decode cX7_isSo 11 = .ok (.goto 4, 3) := by decide +kernel
theorem dX7_isSo_14 : decode cX7_isSo 14 = .ok (.iconst 0, 1) := by decide +kernel
theorem dX7_isSo_15 : decode cX7_isSo 15 = .ok (.ireturn, 1) := by decide +kernel
theorem dX2_inForce_0 : decode cX2_inForce 0 = .ok (.iconst 0, 1) := by decide +kernel
theorem dX2_inForce_1 : decode cX2_inForce 1 = .ok (.istore_n 2, 1) := by decide +kernel
theorem dX2_inForce_2 : decode cX2_inForce 2 = .ok (.iconst 0, 1) := by decide +kernel
theorem dX2_inForce_3 : decode cX2_inForce 3 = .ok (.istore_n 3, 1) := by decide +kernel
theorem dX2_inForce_4 : decode cX2_inForce 4 = .ok (.iload_n 3, 1) := by decide +kernel
theorem dX2_inForce_5 : decode cX2_inForce 5 = .ok (.aload_n 0, 1) := by decide +kernel
theorem dX2_inForce_6 : decode cX2_inForce 6 = .ok (.getfield 27, 3) := by decide +kernel
theorem dX2_inForce_9 : decode cX2_inForce 9 = .ok (.getfield 44, 3) := by decide +kernel
theorem dX2_inForce_12 : decode cX2_inForce 12 = .ok (.if_icmp .ge 28, 3) := by decide +kernel
theorem dX2_inForce_15 : decode cX2_inForce 15 = .ok (.aload_n 0, 1) := by decide +kernel
theorem dX2_inForce_16 : decode cX2_inForce 16 = .ok (.getfield 9, 3) := by decide +kernel
theorem dX2_inForce_19 : decode cX2_inForce 19 = .ok (.iload_n 3, 1) := by decide +kernel
theorem dX2_inForce_20 : decode cX2_inForce 20 = .ok (.laload, 1) := by decide +kernel
theorem dX2_inForce_21 : decode cX2_inForce 21 = .ok (.iload_n 1, 1) := by decide +kernel
theorem dX2_inForce_22 : decode cX2_inForce 22 = .ok (.invokestatic 104, 3) := by decide +kernel
theorem dX2_inForce_25 : decode cX2_inForce 25 = .ok (.ifCond .eq 9, 3) := by decide +kernel
theorem dX2_inForce_28 : decode cX2_inForce 28 = .ok (.iload_n 2, 1) := by decide +kernel
theorem dX2_inForce_29 : decode cX2_inForce 29 = .ok (.iconst 1, 1) := by decide +kernel
theorem dX2_inForce_30 : decode cX2_inForce 30 = .ok (.iload_n 3, 1) := by decide +kernel
theorem dX2_inForce_31 : decode cX2_inForce 31 = .ok (.ishl, 1) := by decide +kernel
theorem dX2_inForce_32 : decode cX2_inForce 32 = .ok (.ior, 1) := by decide +kernel
theorem dX2_inForce_33 : decode cX2_inForce 33 = .ok (.istore_n 2, 1) := by decide +kernel
theorem dX2_inForce_34 : decode cX2_inForce 34 = .ok (.iinc 3 1, 3) := by decide +kernel
theorem dX2_inForce_37 : decode cX2_inForce 37 = .ok (.goto (-33), 3) := by decide +kernel
theorem dX2_inForce_40 : decode cX2_inForce 40 = .ok (.iload_n 2, 1) := by decide +kernel
theorem dX2_inForce_41 : decode cX2_inForce 41 = .ok (.ireturn, 1) := by decide +kernel
theorem dX2_roundTerms_0 : decode cX2_roundTerms 0 = .ok (.iconst 0, 1) := by decide +kernel
theorem dX2_roundTerms_1 : decode cX2_roundTerms 1 = .ok (.istore_n 2, 1) := by decide +kernel
theorem dX2_roundTerms_2 : decode cX2_roundTerms 2 = .ok (.iconst 0, 1) := by decide +kernel
theorem dX2_roundTerms_3 : decode cX2_roundTerms 3 = .ok (.istore_n 3, 1) := by decide +kernel
theorem dX2_roundTerms_4 : decode cX2_roundTerms 4 = .ok (.iload_n 3, 1) := by decide +kernel
theorem dX2_roundTerms_5 : decode cX2_roundTerms 5 = .ok (.bipush 8, 2) := by decide +kernel
theorem dX2_roundTerms_7 : decode cX2_roundTerms 7 = .ok (.if_icmp .ge 33, 3) := by decide +kernel
theorem dX2_roundTerms_10 : decode cX2_roundTerms 10 = .ok (.aload_n 0, 1) := by decide +kernel
theorem dX2_roundTerms_11 : decode cX2_roundTerms 11 = .ok (.getfield 24, 3) := by decide +kernel
theorem dX2_roundTerms_14 : decode cX2_roundTerms 14 = .ok (.iload_n 3, 1) := by decide +kernel
theorem dX2_roundTerms_15 : decode cX2_roundTerms 15 = .ok (.bipush 8, 2) := by decide +kernel
theorem dX2_roundTerms_17 : decode cX2_roundTerms 17 = .ok (.imul, 1) := by decide +kernel
theorem dX2_roundTerms_18 : decode cX2_roundTerms 18 = .ok (.iload_n 3, 1) := by decide +kernel
theorem dX2_roundTerms_19 : decode cX2_roundTerms 19 = .ok (.iadd, 1) := by decide +kernel
theorem dX2_roundTerms_20 : decode cX2_roundTerms 20 = .ok (.laload, 1) := by decide +kernel
theorem dX2_roundTerms_21 : decode cX2_roundTerms 21 = .ok (.iload_n 1, 1) := by decide +kernel
theorem dX2_roundTerms_22 : decode cX2_roundTerms 22 = .ok (.invokestatic 104, 3) := by decide +kernel
theorem dX2_roundTerms_25 : decode cX2_roundTerms 25 = .ok (.ifCond .eq 9, 3) := by decide +kernel
theorem dX2_roundTerms_28 : decode cX2_roundTerms 28 = .ok (.iload_n 2, 1) := by decide +kernel
theorem dX2_roundTerms_29 : decode cX2_roundTerms 29 = .ok (.iconst 1, 1) := by decide +kernel
theorem dX2_roundTerms_30 : decode cX2_roundTerms 30 = .ok (.iload_n 3, 1) := by decide +kernel
theorem dX2_roundTerms_31 : decode cX2_roundTerms 31 = .ok (.ishl, 1) := by decide +kernel
theorem dX2_roundTerms_32 : decode cX2_roundTerms 32 = .ok (.ior, 1) := by decide +kernel
theorem dX2_roundTerms_33 : decode cX2_roundTerms 33 = .ok (.istore_n 2, 1) := by decide +kernel
theorem dX2_roundTerms_34 : decode cX2_roundTerms 34 = .ok (.iinc 3 1, 3) := by decide +kernel
theorem dX2_roundTerms_37 : decode cX2_roundTerms 37 = .ok (.goto (-33), 3) := by decide +kernel
theorem dX2_roundTerms_40 : decode cX2_roundTerms 40 = .ok (.iload_n 2, 1) := by decide +kernel
theorem dX2_roundTerms_41 : decode cX2_roundTerms 41 = .ok (.ireturn, 1) := by decide +kernel
theorem dX2_hangsOn_0 : decode cX2_hangsOn 0 = .ok (.iconst 0, 1) := by decide +kernel
theorem dX2_hangsOn_1 : decode cX2_hangsOn 1 = .ok (.istore_n 3, 1) := by decide +kernel
theorem dX2_hangsOn_2 : decode cX2_hangsOn 2 = .ok (.iconst 0, 1) := by decide +kernel
theorem dX2_hangsOn_3 : decode cX2_hangsOn 3 = .ok (.istore 4, 2) := by decide +kernel
theorem dX2_hangsOn_5 : decode cX2_hangsOn 5 = .ok (.iload 4, 2) := by decide +kernel
theorem dX2_hangsOn_7 : decode cX2_hangsOn 7 = .ok (.bipush 8, 2) := by decide +kernel
theorem dX2_hangsOn_9 : decode cX2_hangsOn 9 = .ok (.if_icmp .ge 35, 3) := by decide +kernel
theorem dX2_hangsOn_12 : decode cX2_hangsOn 12 = .ok (.aload_n 0, 1) := by decide +kernel
theorem dX2_hangsOn_13 : decode cX2_hangsOn 13 = .ok (.getfield 21, 3) := by decide +kernel
theorem dX2_hangsOn_16 : decode cX2_hangsOn 16 = .ok (.iload_n 1, 1) := by decide +kernel
theorem dX2_hangsOn_17 : decode cX2_hangsOn 17 = .ok (.bipush 8, 2) := by decide +kernel
theorem dX2_hangsOn_19 : decode cX2_hangsOn 19 = .ok (.imul, 1) := by decide +kernel
theorem dX2_hangsOn_20 : decode cX2_hangsOn 20 = .ok (.iload 4, 2) := by decide +kernel
theorem dX2_hangsOn_22 : decode cX2_hangsOn 22 = .ok (.iadd, 1) := by decide +kernel
theorem dX2_hangsOn_23 : decode cX2_hangsOn 23 = .ok (.laload, 1) := by decide +kernel
theorem dX2_hangsOn_24 : decode cX2_hangsOn 24 = .ok (.iload_n 2, 1) := by decide +kernel
theorem dX2_hangsOn_25 : decode cX2_hangsOn 25 = .ok (.invokestatic 104, 3) := by decide +kernel
theorem dX2_hangsOn_28 : decode cX2_hangsOn 28 = .ok (.ifCond .eq 10, 3) := by decide +kernel
theorem dX2_hangsOn_31 : decode cX2_hangsOn 31 = .ok (.iload_n 3, 1) := by decide +kernel
theorem dX2_hangsOn_32 : decode cX2_hangsOn 32 = .ok (.iconst 1, 1) := by decide +kernel
theorem dX2_hangsOn_33 : decode cX2_hangsOn 33 = .ok (.iload 4, 2) := by decide +kernel
theorem dX2_hangsOn_35 : decode cX2_hangsOn 35 = .ok (.ishl, 1) := by decide +kernel
theorem dX2_hangsOn_36 : decode cX2_hangsOn 36 = .ok (.ior, 1) := by decide +kernel
theorem dX2_hangsOn_37 : decode cX2_hangsOn 37 = .ok (.istore_n 3, 1) := by decide +kernel
theorem dX2_hangsOn_38 : decode cX2_hangsOn 38 = .ok (.iinc 4 1, 3) := by decide +kernel
theorem dX2_hangsOn_41 : decode cX2_hangsOn 41 = .ok (.goto (-36), 3) := by decide +kernel
theorem dX2_hangsOn_44 : decode cX2_hangsOn 44 = .ok (.iload_n 3, 1) := by decide +kernel
theorem dX2_hangsOn_45 : decode cX2_hangsOn 45 = .ok (.ireturn, 1) := by decide +kernel
theorem dX2_countAmiss_0 : decode cX2_countAmiss 0 = .ok (.iconst 0, 1) := by decide +kernel
theorem dX2_countAmiss_1 : decode cX2_countAmiss 1 = .ok (.istore_n 3, 1) := by decide +kernel
theorem dX2_countAmiss_2 : decode cX2_countAmiss 2 = .ok (.iconst 0, 1) := by decide +kernel
theorem dX2_countAmiss_3 : decode cX2_countAmiss 3 = .ok (.istore 4, 2) := by decide +kernel
theorem dX2_countAmiss_5 : decode cX2_countAmiss 5 = .ok (.iload 4, 2) := by decide +kernel
theorem dX2_countAmiss_7 : decode cX2_countAmiss 7 = .ok (.aload_n 0, 1) := by decide +kernel
theorem dX2_countAmiss_8 : decode cX2_countAmiss 8 = .ok (.getfield 27, 3) := by decide +kernel
theorem dX2_countAmiss_11 : decode cX2_countAmiss 11 = .ok (.getfield 77, 3) := by decide +kernel
theorem dX2_countAmiss_14 : decode cX2_countAmiss 14 = .ok (.if_icmp .ge 40, 3) := by decide +kernel
theorem dX2_countAmiss_17 : decode cX2_countAmiss 17 = .ok (.aload_n 0, 1) := by decide +kernel
theorem dX2_countAmiss_18 : decode cX2_countAmiss 18 = .ok (.getfield 27, 3) := by decide +kernel
theorem dX2_countAmiss_21 : decode cX2_countAmiss 21 = .ok (.getfield 86, 3) := by decide +kernel
theorem dX2_countAmiss_24 : decode cX2_countAmiss 24 = .ok (.iload 4, 2) := by decide +kernel
theorem dX2_countAmiss_26 : decode cX2_countAmiss 26 = .ok (.iaload, 1) := by decide +kernel
theorem dX2_countAmiss_27 : decode cX2_countAmiss 27 = .ok (.iload_n 1, 1) := by decide +kernel
theorem dX2_countAmiss_28 : decode cX2_countAmiss 28 = .ok (.if_icmp .ne 20, 3) := by decide +kernel
theorem dX2_countAmiss_31 : decode cX2_countAmiss 31 = .ok (.aload_n 0, 1) := by decide +kernel
theorem dX2_countAmiss_32 : decode cX2_countAmiss 32 = .ok (.getfield 15, 3) := by decide +kernel
theorem dX2_countAmiss_35 : decode cX2_countAmiss 35 = .ok (.iload 4, 2) := by decide +kernel
theorem dX2_countAmiss_37 : decode cX2_countAmiss 37 = .ok (.laload, 1) := by decide +kernel
theorem dX2_countAmiss_38 : decode cX2_countAmiss 38 = .ok (.iload_n 2, 1) := by decide +kernel
theorem dX2_countAmiss_39 : decode cX2_countAmiss 39 = .ok (.invokestatic 104, 3) := by decide +kernel
theorem dX2_countAmiss_42 : decode cX2_countAmiss 42 = .ok (.ifCond .eq 6, 3) := by decide +kernel
theorem dX2_countAmiss_45 : decode cX2_countAmiss 45 = .ok (.iinc 3 1, 3) := by decide +kernel
theorem dX2_countAmiss_48 : decode cX2_countAmiss 48 = .ok (.iinc 4 1, 3) := by decide +kernel
theorem dX2_countAmiss_51 : decode cX2_countAmiss 51 = .ok (.goto (-46), 3) := by decide +kernel
theorem dX2_countAmiss_54 : decode cX2_countAmiss 54 = .ok (.iload_n 3, 1) := by decide +kernel
theorem dX2_countAmiss_55 : decode cX2_countAmiss 55 = .ok (.ireturn, 1) := by decide +kernel
theorem dX2_firstAmiss_0 : decode cX2_firstAmiss 0 = .ok (.iconst 0, 1) := by decide +kernel
theorem dX2_firstAmiss_1 : decode cX2_firstAmiss 1 = .ok (.istore_n 2, 1) := by decide +kernel
theorem dX2_firstAmiss_2 : decode cX2_firstAmiss 2 = .ok (.iload_n 2, 1) := by decide +kernel
theorem dX2_firstAmiss_3 : decode cX2_firstAmiss 3 = .ok (.aload_n 0, 1) := by decide +kernel
theorem dX2_firstAmiss_4 : decode cX2_firstAmiss 4 = .ok (.getfield 27, 3) := by decide +kernel
theorem dX2_firstAmiss_7 : decode cX2_firstAmiss 7 = .ok (.getfield 77, 3) := by decide +kernel
theorem dX2_firstAmiss_10 : decode cX2_firstAmiss 10 = .ok (.if_icmp .ge 24, 3) := by decide +kernel
theorem dX2_firstAmiss_13 : decode cX2_firstAmiss 13 = .ok (.aload_n 0, 1) := by decide +kernel
theorem dX2_firstAmiss_14 : decode cX2_firstAmiss 14 = .ok (.getfield 15, 3) := by decide +kernel
theorem dX2_firstAmiss_17 : decode cX2_firstAmiss 17 = .ok (.iload_n 2, 1) := by decide +kernel
theorem dX2_firstAmiss_18 : decode cX2_firstAmiss 18 = .ok (.laload, 1) := by decide +kernel
theorem dX2_firstAmiss_19 : decode cX2_firstAmiss 19 = .ok (.iload_n 1, 1) := by decide +kernel
theorem dX2_firstAmiss_20 : decode cX2_firstAmiss 20 = .ok (.invokestatic 104, 3) := by decide +kernel
theorem dX2_firstAmiss_23 : decode cX2_firstAmiss 23 = .ok (.ifCond .eq 5, 3) := by decide +kernel
theorem dX2_firstAmiss_26 : decode cX2_firstAmiss 26 = .ok (.iload_n 2, 1) := by decide +kernel
theorem dX2_firstAmiss_27 : decode cX2_firstAmiss 27 = .ok (.ireturn, 1) := by decide +kernel
theorem dX2_firstAmiss_28 : decode cX2_firstAmiss 28 = .ok (.iinc 2 1, 3) := by decide +kernel
theorem dX2_firstAmiss_31 : decode cX2_firstAmiss 31 = .ok (.goto (-29), 3) := by decide +kernel
theorem dX2_firstAmiss_34 : decode cX2_firstAmiss 34 = .ok (.iconst (-1), 1) := by decide +kernel
theorem dX2_firstAmiss_35 : decode cX2_firstAmiss 35 = .ok (.ireturn, 1) := by decide +kernel
theorem dJ6_bitCount_0f7a4_0 : decode cJ6_bitCount_0f7a4 0 = .ok (.iload_n 0, 1) := by decide +kernel
theorem dJ6_bitCount_0f7a4_1 : decode cJ6_bitCount_0f7a4 1 = .ok (.iload_n 0, 1) := by decide +kernel
theorem dJ6_bitCount_0f7a4_2 : decode cJ6_bitCount_0f7a4 2 = .ok (.iconst 1, 1) := by decide +kernel
theorem dJ6_bitCount_0f7a4_3 : decode cJ6_bitCount_0f7a4 3 = .ok (.iushr, 1) := by decide +kernel
theorem dJ6_bitCount_0f7a4_4 : decode cJ6_bitCount_0f7a4 4 = .ok (.ldc_w 265, 3) := by decide +kernel
theorem dJ6_bitCount_0f7a4_7 : decode cJ6_bitCount_0f7a4 7 = .ok (.iand, 1) := by decide +kernel
theorem dJ6_bitCount_0f7a4_8 : decode cJ6_bitCount_0f7a4 8 = .ok (.isub, 1) := by decide +kernel
theorem dJ6_bitCount_0f7a4_9 : decode cJ6_bitCount_0f7a4 9 = .ok (.istore_n 0, 1) := by decide +kernel
theorem dJ6_bitCount_0f7a4_10 : decode cJ6_bitCount_0f7a4 10 = .ok (.iload_n 0, 1) := by decide +kernel
theorem dJ6_bitCount_0f7a4_11 : decode cJ6_bitCount_0f7a4 11 = .ok (.ldc_w 266, 3) := by decide +kernel
theorem dJ6_bitCount_0f7a4_14 : decode cJ6_bitCount_0f7a4 14 = .ok (.iand, 1) := by decide +kernel
theorem dJ6_bitCount_0f7a4_15 : decode cJ6_bitCount_0f7a4 15 = .ok (.iload_n 0, 1) := by decide +kernel
theorem dJ6_bitCount_0f7a4_16 : decode cJ6_bitCount_0f7a4 16 = .ok (.iconst 2, 1) := by decide +kernel
theorem dJ6_bitCount_0f7a4_17 : decode cJ6_bitCount_0f7a4 17 = .ok (.iushr, 1) := by decide +kernel
theorem dJ6_bitCount_0f7a4_18 : decode cJ6_bitCount_0f7a4 18 = .ok (.ldc_w 266, 3) := by decide +kernel
theorem dJ6_bitCount_0f7a4_21 : decode cJ6_bitCount_0f7a4 21 = .ok (.iand, 1) := by decide +kernel
theorem dJ6_bitCount_0f7a4_22 : decode cJ6_bitCount_0f7a4 22 = .ok (.iadd, 1) := by decide +kernel
theorem dJ6_bitCount_0f7a4_23 : decode cJ6_bitCount_0f7a4 23 = .ok (.istore_n 0, 1) := by decide +kernel
theorem dJ6_bitCount_0f7a4_24 : decode cJ6_bitCount_0f7a4 24 = .ok (.iload_n 0, 1) := by decide +kernel
theorem dJ6_bitCount_0f7a4_25 : decode cJ6_bitCount_0f7a4 25 = .ok (.iload_n 0, 1) := by decide +kernel
theorem dJ6_bitCount_0f7a4_26 : decode cJ6_bitCount_0f7a4 26 = .ok (.iconst 4, 1) := by decide +kernel
theorem dJ6_bitCount_0f7a4_27 : decode cJ6_bitCount_0f7a4 27 = .ok (.iushr, 1) := by decide +kernel
theorem dJ6_bitCount_0f7a4_28 : decode cJ6_bitCount_0f7a4 28 = .ok (.iadd, 1) := by decide +kernel
theorem dJ6_bitCount_0f7a4_29 : decode cJ6_bitCount_0f7a4 29 = .ok (.ldc_w 267, 3) := by decide +kernel
theorem dJ6_bitCount_0f7a4_32 : decode cJ6_bitCount_0f7a4 32 = .ok (.iand, 1) := by decide +kernel
theorem dJ6_bitCount_0f7a4_33 : decode cJ6_bitCount_0f7a4 33 = .ok (.istore_n 0, 1) := by decide +kernel
theorem dJ6_bitCount_0f7a4_34 : decode cJ6_bitCount_0f7a4 34 = .ok (.iload_n 0, 1) := by decide +kernel
theorem dJ6_bitCount_0f7a4_35 : decode cJ6_bitCount_0f7a4 35 = .ok (.iload_n 0, 1) := by decide +kernel
theorem dJ6_bitCount_0f7a4_36 : decode cJ6_bitCount_0f7a4 36 = .ok (.bipush 8, 2) := by decide +kernel
theorem dJ6_bitCount_0f7a4_38 : decode cJ6_bitCount_0f7a4 38 = .ok (.iushr, 1) := by decide +kernel
theorem dJ6_bitCount_0f7a4_39 : decode cJ6_bitCount_0f7a4 39 = .ok (.iadd, 1) := by decide +kernel
theorem dJ6_bitCount_0f7a4_40 : decode cJ6_bitCount_0f7a4 40 = .ok (.istore_n 0, 1) := by decide +kernel
theorem dJ6_bitCount_0f7a4_41 : decode cJ6_bitCount_0f7a4 41 = .ok (.iload_n 0, 1) := by decide +kernel
theorem dJ6_bitCount_0f7a4_42 : decode cJ6_bitCount_0f7a4 42 = .ok (.iload_n 0, 1) := by decide +kernel
theorem dJ6_bitCount_0f7a4_43 : decode cJ6_bitCount_0f7a4 43 = .ok (.bipush 16, 2) := by decide +kernel
theorem dJ6_bitCount_0f7a4_45 : decode cJ6_bitCount_0f7a4 45 = .ok (.iushr, 1) := by decide +kernel
theorem dJ6_bitCount_0f7a4_46 : decode cJ6_bitCount_0f7a4 46 = .ok (.iadd, 1) := by decide +kernel
theorem dJ6_bitCount_0f7a4_47 : decode cJ6_bitCount_0f7a4 47 = .ok (.istore_n 0, 1) := by decide +kernel
theorem dJ6_bitCount_0f7a4_48 : decode cJ6_bitCount_0f7a4 48 = .ok (.iload_n 0, 1) := by decide +kernel
theorem dJ6_bitCount_0f7a4_49 : decode cJ6_bitCount_0f7a4 49 = .ok (.bipush 63, 2) := by decide +kernel
theorem dJ6_bitCount_0f7a4_51 : decode cJ6_bitCount_0f7a4 51 = .ok (.iand, 1) := by decide +kernel
theorem dJ6_bitCount_0f7a4_52 : decode cJ6_bitCount_0f7a4 52 = .ok (.ireturn, 1) := by decide +kernel
theorem dX2_countWrong_0 : decode cX2_countWrong 0 = .ok (.aload_n 0, 1) := by decide +kernel
theorem dX2_countWrong_1 : decode cX2_countWrong 1 = .ok (.iconst 0, 1) := by decide +kernel
theorem dX2_countWrong_2 : decode cX2_countWrong 2 = .ok (.iload_n 1, 1) := by decide +kernel
theorem dX2_countWrong_3 : decode cX2_countWrong 3 = .ok (.invokevirtual 108, 3) := by decide +kernel
theorem dX2_countWrong_6 : decode cX2_countWrong 6 = .ok (.aload_n 0, 1) := by decide +kernel
theorem dX2_countWrong_7 : decode cX2_countWrong 7 = .ok (.iconst 1, 1) := by decide +kernel
theorem dX2_countWrong_8 : decode cX2_countWrong 8 = .ok (.iload_n 1, 1) := by decide +kernel
theorem dX2_countWrong_9 : decode cX2_countWrong 9 = .ok (.invokevirtual 108, 3) := by decide +kernel
theorem dX2_countWrong_12 : decode cX2_countWrong 12 = .ok (.iadd, 1) := by decide +kernel
theorem dX2_countWrong_13 : decode cX2_countWrong 13 = .ok (.aload_n 0, 1) := by decide +kernel
theorem dX2_countWrong_14 : decode cX2_countWrong 14 = .ok (.iconst 2, 1) := by decide +kernel
theorem dX2_countWrong_15 : decode cX2_countWrong 15 = .ok (.iload_n 1, 1) := by decide +kernel
theorem dX2_countWrong_16 : decode cX2_countWrong 16 = .ok (.invokevirtual 108, 3) := by decide +kernel
theorem dX2_countWrong_19 : decode cX2_countWrong 19 = .ok (.iadd, 1) := by decide +kernel
theorem dX2_countWrong_20 : decode cX2_countWrong 20 = .ok (.aload_n 0, 1) := by decide +kernel
theorem dX2_countWrong_21 : decode cX2_countWrong 21 = .ok (.iload_n 1, 1) := by decide +kernel
theorem dX2_countWrong_22 : decode cX2_countWrong 22 = .ok (.invokevirtual 112, 3) := by decide +kernel
theorem dX2_countWrong_25 : decode cX2_countWrong 25 = .ok (.invokestatic 116, 3) := by decide +kernel
theorem dX2_countWrong_28 : decode cX2_countWrong 28 = .ok (.iadd, 1) := by decide +kernel
theorem dX2_countWrong_29 : decode cX2_countWrong 29 = .ok (.ireturn, 1) := by decide +kernel
theorem dX2_faultless_0 : decode cX2_faultless 0 = .ok (.ldc2_w 89, 3) := by decide +kernel
theorem dX2_faultless_3 : decode cX2_faultless 3 = .ok (.lstore_n 1, 1) := by decide +kernel
theorem dX2_faultless_4 : decode cX2_faultless 4 = .ok (.iconst 0, 1) := by decide +kernel
theorem dX2_faultless_5 : decode cX2_faultless 5 = .ok (.istore_n 3, 1) := by decide +kernel
theorem dX2_faultless_6 : decode cX2_faultless 6 = .ok (.iload_n 3, 1) := by decide +kernel
theorem dX2_faultless_7 : decode cX2_faultless 7 = .ok (.aload_n 0, 1) := by decide +kernel
theorem dX2_faultless_8 : decode cX2_faultless 8 = .ok (.getfield 27, 3) := by decide +kernel
theorem dX2_faultless_11 : decode cX2_faultless 11 = .ok (.getfield 77, 3) := by decide +kernel
theorem dX2_faultless_14 : decode cX2_faultless 14 = .ok (.if_icmp .ge 22, 3) := by decide +kernel
theorem dX2_faultless_17 : decode cX2_faultless 17 = .ok (.lload_n 1, 1) := by decide +kernel
theorem dX2_faultless_18 : decode cX2_faultless 18 = .ok (.aload_n 0, 1) := by decide +kernel
theorem dX2_faultless_19 : decode cX2_faultless 19 = .ok (.getfield 15, 3) := by decide +kernel
theorem dX2_faultless_22 : decode cX2_faultless 22 = .ok (.iload_n 3, 1) := by decide +kernel
theorem dX2_faultless_23 : decode cX2_faultless 23 = .ok (.laload, 1) := by decide +kernel
theorem dX2_faultless_24 : decode cX2_faultless 24 = .ok (.ldc2_w 89, 3) := by decide +kernel
theorem dX2_faultless_27 : decode cX2_faultless 27 = .ok (.lxor, 1) := by decide +kernel
theorem dX2_faultless_28 : decode cX2_faultless 28 = .ok (.land, 1) := by decide +kernel
theorem dX2_faultless_29 : decode cX2_faultless 29 = .ok (.lstore_n 1, 1) := by decide +kernel
theorem dX2_faultless_30 : decode cX2_faultless 30 = .ok (.iinc 3 1, 3) := by decide +kernel
theorem dX2_faultless_33 : decode cX2_faultless 33 = .ok (.goto (-27), 3) := by decide +kernel
theorem dX2_faultless_36 : decode cX2_faultless 36 = .ok (.iconst 0, 1) := by decide +kernel
theorem dX2_faultless_37 : decode cX2_faultless 37 = .ok (.istore_n 3, 1) := by decide +kernel
theorem dX2_faultless_38 : decode cX2_faultless 38 = .ok (.iload_n 3, 1) := by decide +kernel
theorem dX2_faultless_39 : decode cX2_faultless 39 = .ok (.bipush 8, 2) := by decide +kernel
theorem dX2_faultless_41 : decode cX2_faultless 41 = .ok (.if_icmp .ge 27, 3) := by decide +kernel
theorem dX2_faultless_44 : decode cX2_faultless 44 = .ok (.lload_n 1, 1) := by decide +kernel
theorem dX2_faultless_45 : decode cX2_faultless 45 = .ok (.aload_n 0, 1) := by decide +kernel
theorem dX2_faultless_46 : decode cX2_faultless 46 = .ok (.getfield 24, 3) := by decide +kernel
theorem dX2_faultless_49 : decode cX2_faultless 49 = .ok (.iload_n 3, 1) := by decide +kernel
theorem dX2_faultless_50 : decode cX2_faultless 50 = .ok (.bipush 8, 2) := by decide +kernel
theorem dX2_faultless_52 : decode cX2_faultless 52 = .ok (.imul, 1) := by decide +kernel
theorem dX2_faultless_53 : decode cX2_faultless 53 = .ok (.iload_n 3, 1) := by decide +kernel
theorem dX2_faultless_54 : decode cX2_faultless 54 = .ok (.iadd, 1) := by decide +kernel
theorem dX2_faultless_55 : decode cX2_faultless 55 = .ok (.laload, 1) := by decide +kernel
theorem dX2_faultless_56 : decode cX2_faultless 56 = .ok (.ldc2_w 89, 3) := by decide +kernel
theorem dX2_faultless_59 : decode cX2_faultless 59 = .ok (.lxor, 1) := by decide +kernel
theorem dX2_faultless_60 : decode cX2_faultless 60 = .ok (.land, 1) := by decide +kernel
theorem dX2_faultless_61 : decode cX2_faultless 61 = .ok (.lstore_n 1, 1) := by decide +kernel
theorem dX2_faultless_62 : decode cX2_faultless 62 = .ok (.iinc 3 1, 3) := by decide +kernel
theorem dX2_faultless_65 : decode cX2_faultless 65 = .ok (.goto (-27), 3) := by decide +kernel
theorem dX2_faultless_68 : decode cX2_faultless 68 = .ok (.lload_n 1, 1) := by decide +kernel
theorem dX2_faultless_69 : decode cX2_faultless 69 = .ok (.lreturn, 1) := by decide +kernel
theorem dX2_isInForce_0 : decode cX2_isInForce 0 = .ok (.aload_n 0, 1) := by decide +kernel
theorem dX2_isInForce_1 : decode cX2_isInForce 1 = .ok (.getfield 27, 3) := by decide +kernel
theorem dX2_isInForce_4 : decode cX2_isInForce 4 = .ok (.getfield 86, 3) := by decide +kernel
theorem dX2_isInForce_7 : decode cX2_isInForce 7 = .ok (.iload_n 1, 1) := by decide +kernel
theorem dX2_isInForce_8 : decode cX2_isInForce 8 = .ok (.iaload, 1) := by decide +kernel
theorem dX2_isInForce_9 : decode cX2_isInForce 9 = .ok (.iload_n 2, 1) := by decide +kernel
theorem dX2_isInForce_10 : decode cX2_isInForce 10 = .ok (.if_icmp .ne 41, 3) := by decide +kernel
theorem dX2_isInForce_13 : decode cX2_isInForce 13 = .ok (.aload_n 0, 1) := by decide +kernel
theorem dX2_isInForce_14 : decode cX2_isInForce 14 = .ok (.getfield 27, 3) := by decide +kernel
theorem dX2_isInForce_17 : decode cX2_isInForce 17 = .ok (.getfield 83, 3) := by decide +kernel
theorem dX2_isInForce_20 : decode cX2_isInForce 20 = .ok (.iload_n 1, 1) := by decide +kernel
theorem dX2_isInForce_21 : decode cX2_isInForce 21 = .ok (.iaload, 1) := by decide +kernel
theorem dX2_isInForce_22 : decode cX2_isInForce 22 = .ok (.iload_n 3, 1) := by decide +kernel
theorem dX2_isInForce_23 : decode cX2_isInForce 23 = .ok (.if_icmp .ne 28, 3) := by decide +kernel
theorem dX2_isInForce_26 : decode cX2_isInForce 26 = .ok (.aload_n 0, 1) := by decide +kernel
theorem dX2_isInForce_27 : decode cX2_isInForce 27 = .ok (.aload_n 0, 1) := by decide +kernel
theorem dX2_isInForce_28 : decode cX2_isInForce 28 = .ok (.getfield 27, 3) := by decide +kernel
theorem dX2_isInForce_31 : decode cX2_isInForce 31 = .ok (.getfield 80, 3) := by decide +kernel
theorem dX2_isInForce_34 : decode cX2_isInForce 34 = .ok (.iload_n 1, 1) := by decide +kernel
theorem dX2_isInForce_35 : decode cX2_isInForce 35 = .ok (.iaload, 1) := by decide +kernel
theorem dX2_isInForce_36 : decode cX2_isInForce 36 = .ok (.invokevirtual 65, 3) := by decide +kernel
theorem dX2_isInForce_39 : decode cX2_isInForce 39 = .ok (.iload 4, 2) := by decide +kernel
theorem dX2_isInForce_41 : decode cX2_isInForce 41 = .ok (.invokestatic 104, 3) := by decide +kernel
theorem dX2_isInForce_44 : decode cX2_isInForce 44 = .ok (.ifCond .eq 7, 3) := by decide +kernel
theorem dX2_isInForce_47 : decode cX2_isInForce 47 = .ok (.iconst 1, 1) := by decide +kernel
theorem dX2_isInForce_48 : decode cX2_isInForce 48 = .ok (.goto 4, 3) := by decide +kernel
theorem dX2_isInForce_51 : decode cX2_isInForce 51 = .ok (.iconst 0, 1) := by decide +kernel
theorem dX2_isInForce_52 : decode cX2_isInForce 52 = .ok (.ireturn, 1) := by decide +kernel
theorem dX2_countParts_0 : decode cX2_countParts 0 = .ok (.iconst 0, 1) := by decide +kernel
theorem dX2_countParts_1 : decode cX2_countParts 1 = .ok (.istore 4, 2) := by decide +kernel
theorem dX2_countParts_3 : decode cX2_countParts 3 = .ok (.iconst 0, 1) := by decide +kernel
theorem dX2_countParts_4 : decode cX2_countParts 4 = .ok (.istore 5, 2) := by decide +kernel
theorem dX2_countParts_6 : decode cX2_countParts 6 = .ok (.iload 5, 2) := by decide +kernel
theorem dX2_countParts_8 : decode cX2_countParts 8 = .ok (.aload_n 0, 1) := by decide +kernel
theorem dX2_countParts_9 : decode cX2_countParts 9 = .ok (.getfield 27, 3) := by decide +kernel
theorem dX2_countParts_12 : decode cX2_countParts 12 = .ok (.getfield 77, 3) := by decide +kernel
theorem dX2_countParts_15 : decode cX2_countParts 15 = .ok (.if_icmp .ge 24, 3) := by decide +kernel
theorem dX2_countParts_18 : decode cX2_countParts 18 = .ok (.aload_n 0, 1) := by decide +kernel
theorem dX2_countParts_19 : decode cX2_countParts 19 = .ok (.iload 5, 2) := by decide +kernel
theorem dX2_countParts_21 : decode cX2_countParts 21 = .ok (.iload_n 1, 1) := by decide +kernel
theorem dX2_countParts_22 : decode cX2_countParts 22 = .ok (.iload_n 2, 1) := by decide +kernel
theorem dX2_countParts_23 : decode cX2_countParts 23 = .ok (.iload_n 3, 1) := by decide +kernel
theorem dX2_countParts_24 : decode cX2_countParts 24 = .ok (.invokevirtual 121, 3) := by decide +kernel
theorem dX2_countParts_27 : decode cX2_countParts 27 = .ok (.ifCond .eq 6, 3) := by decide +kernel
theorem dX2_countParts_30 : decode cX2_countParts 30 = .ok (.iinc 4 1, 3) := by decide +kernel
theorem dX2_countParts_33 : decode cX2_countParts 33 = .ok (.iinc 5 1, 3) := by decide +kernel
theorem dX2_countParts_36 : decode cX2_countParts 36 = .ok (.goto (-30), 3) := by decide +kernel
theorem dX2_countParts_39 : decode cX2_countParts 39 = .ok (.iload 4, 2) := by decide +kernel
theorem dX2_countParts_41 : decode cX2_countParts 41 = .ok (.ireturn, 1) := by decide +kernel
theorem dX2_firstDefinition_0 : decode cX2_firstDefinition 0 = .ok (.iconst 0, 1) := by decide +kernel
theorem dX2_firstDefinition_1 : decode cX2_firstDefinition 1 = .ok (.istore_n 3, 1) := by decide +kernel
theorem dX2_firstDefinition_2 : decode cX2_firstDefinition 2 = .ok (.iload_n 3, 1) := by decide +kernel
theorem dX2_firstDefinition_3 : decode cX2_firstDefinition 3 = .ok (.aload_n 0, 1) := by decide +kernel
theorem dX2_firstDefinition_4 : decode cX2_firstDefinition 4 = .ok (.getfield 27, 3) := by decide +kernel
theorem dX2_firstDefinition_7 : decode cX2_firstDefinition 7 = .ok (.getfield 77, 3) := by decide +kernel
theorem dX2_firstDefinition_10 : decode cX2_firstDefinition 10 = .ok (.if_icmp .ge 22, 3) := by decide +kernel
theorem dX2_firstDefinition_13 : decode cX2_firstDefinition 13 = .ok (.aload_n 0, 1) := by decide +kernel
theorem dX2_firstDefinition_14 : decode cX2_firstDefinition 14 = .ok (.iload_n 3, 1) := by decide +kernel
theorem dX2_firstDefinition_15 : decode cX2_firstDefinition 15 = .ok (.iconst 0, 1) := by decide +kernel
theorem dX2_firstDefinition_16 : decode cX2_firstDefinition 16 = .ok (.iload_n 1, 1) := by decide +kernel
theorem dX2_firstDefinition_17 : decode cX2_firstDefinition 17 = .ok (.iload_n 2, 1) := by decide +kernel
theorem dX2_firstDefinition_18 : decode cX2_firstDefinition 18 = .ok (.invokevirtual 121, 3) := by decide +kernel
theorem dX2_firstDefinition_21 : decode cX2_firstDefinition 21 = .ok (.ifCond .eq 5, 3) := by decide +kernel
theorem dX2_firstDefinition_24 : decode cX2_firstDefinition 24 = .ok (.iload_n 3, 1) := by decide +kernel
theorem dX2_firstDefinition_25 : decode cX2_firstDefinition 25 = .ok (.ireturn, 1) := by decide +kernel
theorem dX2_firstDefinition_26 : decode cX2_firstDefinition 26 = .ok (.iinc 3 1, 3) := by decide +kernel
theorem dX2_firstDefinition_29 : decode cX2_firstDefinition 29 = .ok (.goto (-27), 3) := by decide +kernel
theorem dX2_firstDefinition_32 : decode cX2_firstDefinition 32 = .ok (.iconst (-1), 1) := by decide +kernel
theorem dX2_firstDefinition_33 : decode cX2_firstDefinition 33 = .ok (.ireturn, 1) := by decide +kernel
theorem dX2_countIdle_0 : decode cX2_countIdle 0 = .ok (.iconst 0, 1) := by decide +kernel
theorem dX2_countIdle_1 : decode cX2_countIdle 1 = .ok (.istore_n 2, 1) := by decide +kernel
theorem dX2_countIdle_2 : decode cX2_countIdle 2 = .ok (.iconst 0, 1) := by decide +kernel
theorem dX2_countIdle_3 : decode cX2_countIdle 3 = .ok (.istore_n 3, 1) := by decide +kernel
theorem dX2_countIdle_4 : decode cX2_countIdle 4 = .ok (.iload_n 3, 1) := by decide +kernel
theorem dX2_countIdle_5 : decode cX2_countIdle 5 = .ok (.bipush 8, 2) := by decide +kernel
theorem dX2_countIdle_7 : decode cX2_countIdle 7 = .ok (.if_icmp .ge 32, 3) := by decide +kernel
theorem dX2_countIdle_10 : decode cX2_countIdle 10 = .ok (.aload_n 0, 1) := by decide +kernel
theorem dX2_countIdle_11 : decode cX2_countIdle 11 = .ok (.iconst 0, 1) := by decide +kernel
theorem dX2_countIdle_12 : decode cX2_countIdle 12 = .ok (.iload_n 3, 1) := by decide +kernel
theorem dX2_countIdle_13 : decode cX2_countIdle 13 = .ok (.iload_n 1, 1) := by decide +kernel
theorem dX2_countIdle_14 : decode cX2_countIdle 14 = .ok (.invokevirtual 125, 3) := by decide +kernel
theorem dX2_countIdle_17 : decode cX2_countIdle 17 = .ok (.ifCond .le 16, 3) := by decide +kernel
theorem dX2_countIdle_20 : decode cX2_countIdle 20 = .ok (.aload_n 0, 1) := by decide +kernel
theorem dX2_countIdle_21 : decode cX2_countIdle 21 = .ok (.iconst 1, 1) := by decide +kernel
theorem dX2_countIdle_22 : decode cX2_countIdle 22 = .ok (.iload_n 3, 1) := by decide +kernel
theorem dX2_countIdle_23 : decode cX2_countIdle 23 = .ok (.iload_n 1, 1) := by decide +kernel
theorem dX2_countIdle_24 : decode cX2_countIdle 24 = .ok (.invokevirtual 125, 3) := by decide +kernel
theorem dX2_countIdle_27 : decode cX2_countIdle 27 = .ok (.ifCond .ne 6, 3) := by decide +kernel
theorem dX2_countIdle_30 : decode cX2_countIdle 30 = .ok (.iinc 2 1, 3) := by decide +kernel
theorem dX2_countIdle_33 : decode cX2_countIdle 33 = .ok (.iinc 3 1, 3) := by decide +kernel
theorem dX2_countIdle_36 : decode cX2_countIdle 36 = .ok (.goto (-32), 3) := by decide +kernel
theorem dX2_countIdle_39 : decode cX2_countIdle 39 = .ok (.iload_n 2, 1) := by decide +kernel
theorem dX2_countIdle_40 : decode cX2_countIdle 40 = .ok (.ireturn, 1) := by decide +kernel
def FX2_reckonReach_L46 (v1 : Int32) (v2 : Int32) (v3 : Int64) (k : SS → Option (SS)) : Nat → Int32 → SS → Option (SS)
  | 0, _, _ => none
  | n + 1, v5, σ => if (8 : Int32) ≤ v5 then k σ
    else if (lg_cmp v3 (0 : Int64)) = 0 then k σ
    else gd (inb ((v2 * (8 : Int32)) + v5) 64) (gd (inb ((v1 * (8 : Int32)) + v5) 64) (gd (inb ((v2 * (8 : Int32)) + v5) 64) (bd (sL σ 85 (vp_updL (gL σ 85) (Int32.toNatClampNeg ((v2 * (8 : Int32)) + v5)) ((gL σ 85 (Int32.toNatClampNeg ((v2 * (8 : Int32)) + v5))) ||| (v3 &&& (gL σ 85 (Int32.toNatClampNeg ((v1 * (8 : Int32)) + v5))))))) (fun σ11 => FX2_reckonReach_L46 v1 v2 v3 k n (v5 + (1 : Int32)) σ11))))
set_option maxRecDepth 100000 in
set_option maxHeartbeats 4000000 in
theorem PX2_reckonReach_L46 {X : Bx} {g : Gx} {σr : SS} (hX : Okw wsX X g cX2_reckonReach 6 RX2 none ({ frames := 1, cells := 0, slots := 0, locals := 22 } : Room) (fun g => none) σr) {v1 : Int32} {v2 : Int32} {v3 : Int64} {k : SS → Option (SS)} (hk : ∀ (σ : SS), k σ = some σr → Vx X g.1 6 (wsX g σ) 94 [(0, .ref (g.2.1 28)), (1, .int v1), (2, .int v2)] []) : ∀ (n : Nat) (v5 : Int32) (σ : SS), FX2_reckonReach_L46 v1 v2 v3 k n v5 σ = some σr → Vx X g.1 6 (wsX g σ) 46 [(0, .ref (g.2.1 28)), (1, .int v1), (2, .int v2), (3, .long v3), (5, .int v5)] [] := by
  have h0 := hX.1
  intro n
  induction n with
  | zero =>
    intro v5 σ hf
    rw [FX2_reckonReach_L46] at hf
    cases hf
  | succ n ih =>
    intro v5 σ hf
    rw [FX2_reckonReach_L46] at hf
    refine vx_iload h0 dX2_reckonReach_46 rfl ?_
    refine vx_bipush (v := (8 : Int32)) h0 dX2_reckonReach_48 (by decide) ?_
    refine vx_icmp_ge (tgt := 94) h0 dX2_reckonReach_50 (by decide) (fun c6 => ?_) (fun c6 => ?_)
    · replace hf := (if_pos c6).symm.trans hf
      refine vx_sub [0, 1, 2] rfl ?_
      exact hk _ hf
    · replace hf := (if_neg c6).symm.trans hf
      refine vx_lload_n h0 dX2_reckonReach_53 rfl ?_
      refine vx_lconst (v := (0 : Int64)) h0 dX2_reckonReach_54 (by decide) ?_
      refine vx_lcmp h0 dX2_reckonReach_55 ?_
      refine vx_if_eq (tgt := 94) h0 dX2_reckonReach_56 (by decide) (fun c7 => ?_) (fun c7 => ?_)
      · replace hf := (if_pos c7).symm.trans hf
        refine vx_sub [0, 1, 2] rfl ?_
        exact hk _ hf
      · replace hf := (if_neg c7).symm.trans hf
        refine vx_aload_n h0 dX2_reckonReach_59 rfl ?_
        refine xg_28_5 hX q252 dX2_reckonReach_60 ?_
        refine vx_iload_n h0 dX2_reckonReach_63 rfl ?_
        refine vx_bipush (v := (8 : Int32)) h0 dX2_reckonReach_64 (by decide) ?_
        refine vx_imul h0 dX2_reckonReach_66 ?_
        refine vx_iload h0 dX2_reckonReach_67 rfl ?_
        refine vx_iadd h0 dX2_reckonReach_69 ?_
        refine vx_dup2 h0 dX2_reckonReach_70 rfl rfl ?_
        obtain ⟨b8, hf⟩ := gd_some hf
        refine xl_33 hX b8 dX2_reckonReach_71 ?_
        refine vx_lload_n h0 dX2_reckonReach_72 rfl ?_
        refine vx_aload_n h0 dX2_reckonReach_73 rfl ?_
        refine xg_28_5 hX q252 dX2_reckonReach_74 ?_
        refine vx_iload_n h0 dX2_reckonReach_77 rfl ?_
        refine vx_bipush (v := (8 : Int32)) h0 dX2_reckonReach_78 (by decide) ?_
        refine vx_imul h0 dX2_reckonReach_80 ?_
        refine vx_iload h0 dX2_reckonReach_81 rfl ?_
        refine vx_iadd h0 dX2_reckonReach_83 ?_
        obtain ⟨b9, hf⟩ := gd_some hf
        refine xl_33 hX b9 dX2_reckonReach_84 ?_
        refine vx_land h0 dX2_reckonReach_85 ?_
        refine vx_lor h0 dX2_reckonReach_86 ?_
        obtain ⟨b10, hf⟩ := gd_some hf
        refine xs_33 hX b10 dX2_reckonReach_87 ?_
        generalize (sL σ 85 (vp_updL (gL σ 85) (Int32.toNatClampNeg ((v2 * (8 : Int32)) + v5)) ((gL σ 85 (Int32.toNatClampNeg ((v2 * (8 : Int32)) + v5))) ||| (v3 &&& (gL σ 85 (Int32.toNatClampNeg ((v1 * (8 : Int32)) + v5))))))) = σ11 at hf ⊢
        replace hf := bd_h hf
        refine vx_iinc (q := 4) (v := (v5 + (1 : Int32))) (ls' := [(5, .int (v5 + (1 : Int32))), (0, .ref (g.2.1 28)), (1, .int v1), (2, .int v2), (3, .long v3)]) h0 dX2_reckonReach_88 rfl rfl (by decide) rfl ?_
        refine vx_goto (tgt := 46) h0 dX2_reckonReach_91 (by decide) ?_
        refine vx_sub [1, 2, 3, 4, 0] rfl ?_
        exact ih _ _ hf
def FX2_reckonReach_L25 (v1 : Int32) (k : SS → Option (SS)) : Nat → Int32 → SS → Option (SS)
  | 0, _, _ => none
  | n + 1, v2, σ => if (8 : Int32) ≤ v2 then k σ
    else gd (inb ((v2 * (8 : Int32)) + v1) 64) (bd (gL σ 85 (Int32.toNatClampNeg ((v2 * (8 : Int32)) + v1))) (fun x5 => FX2_reckonReach_L46 v1 v2 x5 (fun σ12 => FX2_reckonReach_L25 v1 k n (v2 + (1 : Int32)) σ12) 5000 (0 : Int32) σ))
set_option maxRecDepth 100000 in
set_option maxHeartbeats 4000000 in
theorem PX2_reckonReach_L25 {X : Bx} {g : Gx} {σr : SS} (hX : Okw wsX X g cX2_reckonReach 6 RX2 none ({ frames := 1, cells := 0, slots := 0, locals := 22 } : Room) (fun g => none) σr) {v1 : Int32} {k : SS → Option (SS)} (hk : ∀ (σ : SS), k σ = some σr → Vx X g.1 6 (wsX g σ) 100 [(0, .ref (g.2.1 28)), (1, .int v1)] []) : ∀ (n : Nat) (v2 : Int32) (σ : SS), FX2_reckonReach_L25 v1 k n v2 σ = some σr → Vx X g.1 6 (wsX g σ) 25 [(0, .ref (g.2.1 28)), (1, .int v1), (2, .int v2)] [] := by
  have h0 := hX.1
  intro n
  induction n with
  | zero =>
    intro v2 σ hf
    rw [FX2_reckonReach_L25] at hf
    cases hf
  | succ n ih =>
    intro v2 σ hf
    rw [FX2_reckonReach_L25] at hf
    refine vx_iload_n h0 dX2_reckonReach_25 rfl ?_
    refine vx_bipush (v := (8 : Int32)) h0 dX2_reckonReach_26 (by decide) ?_
    refine vx_icmp_ge (tgt := 100) h0 dX2_reckonReach_28 (by decide) (fun c3 => ?_) (fun c3 => ?_)
    · replace hf := (if_pos c3).symm.trans hf
      refine vx_sub [0, 1] rfl ?_
      exact hk _ hf
    · replace hf := (if_neg c3).symm.trans hf
      refine vx_aload_n h0 dX2_reckonReach_31 rfl ?_
      refine xg_28_5 hX q252 dX2_reckonReach_32 ?_
      refine vx_iload_n h0 dX2_reckonReach_35 rfl ?_
      refine vx_bipush (v := (8 : Int32)) h0 dX2_reckonReach_36 (by decide) ?_
      refine vx_imul h0 dX2_reckonReach_38 ?_
      refine vx_iload_n h0 dX2_reckonReach_39 rfl ?_
      refine vx_iadd h0 dX2_reckonReach_40 ?_
      obtain ⟨b4, hf⟩ := gd_some hf
      refine xl_33 hX b4 dX2_reckonReach_41 ?_
      generalize (gL σ 85 (Int32.toNatClampNeg ((v2 * (8 : Int32)) + v1))) = x5 at hf ⊢
      replace hf := bd_h hf
      refine vx_lstore_n (ls' := [(3, .long x5), (0, .ref (g.2.1 28)), (1, .int v1), (2, .int v2)]) h0 dX2_reckonReach_42 (by decide) rfl ?_
      refine vx_iconst (v := (0 : Int32)) h0 dX2_reckonReach_43 (by decide) ?_
      refine vx_istore (ls' := [(5, .int (0 : Int32)), (3, .long x5), (0, .ref (g.2.1 28)), (1, .int v1), (2, .int v2)]) h0 dX2_reckonReach_44 (by decide) rfl ?_
      refine vx_sub [2, 3, 4, 1, 0] rfl ?_
      refine PX2_reckonReach_L46 hX (fun σ12 hf => ?_) _ _ _ hf
      refine vx_iinc (q := 2) (v := (v2 + (1 : Int32))) (ls' := [(2, .int (v2 + (1 : Int32))), (0, .ref (g.2.1 28)), (1, .int v1)]) h0 dX2_reckonReach_94 rfl rfl (by decide) rfl ?_
      refine vx_goto (tgt := 25) h0 dX2_reckonReach_97 (by decide) ?_
      refine vx_sub [1, 2, 0] rfl ?_
      exact ih _ _ hf
def FX2_reckonReach_L17 (k : SS → Option (SS)) : Nat → Int32 → SS → Option (SS)
  | 0, _, _ => none
  | n + 1, v1, σ => if (8 : Int32) ≤ v1 then k σ
    else FX2_reckonReach_L25 v1 (fun σ13 => FX2_reckonReach_L17 k n (v1 + (1 : Int32)) σ13) 5000 (0 : Int32) σ
set_option maxRecDepth 100000 in
set_option maxHeartbeats 4000000 in
theorem PX2_reckonReach_L17 {X : Bx} {g : Gx} {σr : SS} (hX : Okw wsX X g cX2_reckonReach 6 RX2 none ({ frames := 1, cells := 0, slots := 0, locals := 22 } : Room) (fun g => none) σr) {k : SS → Option (SS)} (hk : ∀ (σ : SS), k σ = some σr → Vx X g.1 6 (wsX g σ) 106 [] []) : ∀ (n : Nat) (v1 : Int32) (σ : SS), FX2_reckonReach_L17 k n v1 σ = some σr → Vx X g.1 6 (wsX g σ) 17 [(0, .ref (g.2.1 28)), (1, .int v1)] [] := by
  have h0 := hX.1
  intro n
  induction n with
  | zero =>
    intro v1 σ hf
    rw [FX2_reckonReach_L17] at hf
    cases hf
  | succ n ih =>
    intro v1 σ hf
    rw [FX2_reckonReach_L17] at hf
    refine vx_iload_n h0 dX2_reckonReach_17 rfl ?_
    refine vx_bipush (v := (8 : Int32)) h0 dX2_reckonReach_18 (by decide) ?_
    refine vx_icmp_ge (tgt := 106) h0 dX2_reckonReach_20 (by decide) (fun c2 => ?_) (fun c2 => ?_)
    · replace hf := (if_pos c2).symm.trans hf
      refine vx_sub [] rfl ?_
      exact hk _ hf
    · replace hf := (if_neg c2).symm.trans hf
      refine vx_iconst (v := (0 : Int32)) h0 dX2_reckonReach_23 (by decide) ?_
      refine vx_istore_n (ls' := [(2, .int (0 : Int32)), (0, .ref (g.2.1 28)), (1, .int v1)]) h0 dX2_reckonReach_24 (by decide) rfl ?_
      refine vx_sub [1, 2, 0] rfl ?_
      refine PX2_reckonReach_L25 hX (fun σ13 hf => ?_) _ _ _ hf
      refine vx_iinc (q := 1) (v := (v1 + (1 : Int32))) (ls' := [(1, .int (v1 + (1 : Int32))), (0, .ref (g.2.1 28))]) h0 dX2_reckonReach_100 rfl rfl (by decide) rfl ?_
      refine vx_goto (tgt := 17) h0 dX2_reckonReach_103 (by decide) ?_
      refine vx_sub [1, 0] rfl ?_
      exact ih _ _ hf
def FX2_reckonReach (σ : SS) : Option (SS) :=
  bd (sL σ 85 (va_cpy (gL σ 84) (gL σ 85) (Int32.toNatClampNeg (0 : Int32)) (Int32.toNatClampNeg (0 : Int32)) (Int32.toNatClampNeg (64 : Int32)))) (fun σ1 => FX2_reckonReach_L17 (fun σ14 => some σ14) 5000 (0 : Int32) σ1)
set_option maxRecDepth 100000 in
set_option maxHeartbeats 4000000 in
theorem c_X2_reckonReach {σ : SS} {σr : SS} (hf : FX2_reckonReach σ = some σr) : Mcw wsX yX2_reckonReach cX2_reckonReach 6 none ({ frames := 1, cells := 0, slots := 0, locals := 22 } : Room) (fun g => [.ref (g.2.1 28)]) σ (fun g => none) σr := by
  refine w_enter wsX_fix (by decide) (fun g => Nat.le_of_ble_eq_true rfl) ?_
  intro X g hX
  replace hX : Okw wsX X g cX2_reckonReach 6 RX2 none ({ frames := 1, cells := 0, slots := 0, locals := 22 } : Room) (fun g => none) σr := hX
  have h0 := hX.1
  show Vx X g.1 6 (wsX g σ) 0 [(0, .ref (g.2.1 28))] []
  rw [FX2_reckonReach] at hf
  refine vx_aload_n h0 dX2_reckonReach_0 rfl ?_
  refine xg_28_4 hX q251 dX2_reckonReach_1 ?_
  refine vx_iconst (v := (0 : Int32)) h0 dX2_reckonReach_4 (by decide) ?_
  refine vx_aload_n h0 dX2_reckonReach_5 rfl ?_
  refine xg_28_5 hX q252 dX2_reckonReach_6 ?_
  refine vx_iconst (v := (0 : Int32)) h0 dX2_reckonReach_9 (by decide) ?_
  refine vx_bipush (v := (64 : Int32)) h0 dX2_reckonReach_10 (by decide) ?_
  refine vx_copyl h0 (hX.2.1 _) 32 33 1 (xa_32 g _) (xa_33 g _) rfl (by decide) q472 q419 q418 q77 ⟨by rw [hX.2.2.2.2.2.1]; exact Nat.le_of_ble_eq_true rfl, by rw [hX.2.2.2.2.2.1]; exact Nat.le_of_ble_eq_true rfl⟩ dX2_reckonReach_12 (xu_33 g _ _) ?_
  generalize (sL σ 85 (va_cpy (gL σ 84) (gL σ 85) (Int32.toNatClampNeg (0 : Int32)) (Int32.toNatClampNeg (0 : Int32)) (Int32.toNatClampNeg (64 : Int32)))) = σ1 at hf ⊢
  replace hf := bd_h hf
  refine vx_iconst (v := (0 : Int32)) h0 dX2_reckonReach_15 (by decide) ?_
  refine vx_istore_n (ls' := [(1, .int (0 : Int32)), (0, .ref (g.2.1 28))]) h0 dX2_reckonReach_16 (by decide) rfl ?_
  refine vx_sub [1, 0] rfl ?_
  refine PX2_reckonReach_L17 hX (fun σ14 hf => ?_) _ _ _ hf
  exact w_vretE hX hf dX2_reckonReach_106
def FX2_reckon (σ : SS) (a0 : Int32) : Option (SS) :=
  ob (FX2_reckonForce σ a0) (fun σ2 => ob (FX2_reckonAmiss σ2) (fun σ4 => ob (FX2_reckonHang σ4) (fun σ6 => ob (FX2_reckonReach σ6) (fun σ8 => some σ8))))
set_option maxRecDepth 100000 in
set_option maxHeartbeats 4000000 in
theorem c_X2_reckon {σ : SS} {a0 : Int32} {σr : SS} (hf : FX2_reckon σ a0 = some σr) : Mcw wsX yX2_reckon cX2_reckon 2 none ({ frames := 4, cells := 0, slots := 0, locals := 95 } : Room) (fun g => [.ref (g.2.1 28), .int a0]) σ (fun g => none) σr := by
  refine w_enter wsX_fix (by decide) (fun g => Nat.le_of_ble_eq_true rfl) ?_
  intro X g hX
  replace hX : Okw wsX X g cX2_reckon 2 RX2 none ({ frames := 4, cells := 0, slots := 0, locals := 95 } : Room) (fun g => none) σr := hX
  have h0 := hX.1
  show Vx X g.1 2 (wsX g σ) 0 [(0, .ref (g.2.1 28)), (1, .int a0)] []
  rw [FX2_reckon] at hf
  refine vx_aload_n h0 dX2_reckon_0 rfl ?_
  refine vx_iload_n h0 dX2_reckon_1 rfl ?_
  obtain ⟨σ2, h1, hf⟩ := ob_some hf
  refine w_callV (st := []) (ci := 2) (q0 := 28) hX (c_X2_reckonForce h1) ce_X2_reckonForce q428 ⟨rfl, rfl⟩ ⟨by decide, by decide⟩ rfl rfl rfl rfl (xo_28 g _) rfl (Nat.le_of_ble_eq_true rfl) dX2_reckon_2 ?_
  show Vx X g.1 2 (wsX g σ2) 5 [(0, .ref (g.2.1 28)), (1, .int a0)] []
  refine vx_aload_n h0 dX2_reckon_5 rfl ?_
  obtain ⟨σ4, h3, hf⟩ := ob_some hf
  refine w_callV (st := []) (ci := 2) (q0 := 28) hX (c_X2_reckonAmiss h3) ce_X2_reckonAmiss q455 ⟨rfl, rfl⟩ ⟨by decide, by decide⟩ rfl rfl rfl rfl (xo_28 g _) rfl (Nat.le_of_ble_eq_true rfl) dX2_reckon_6 ?_
  show Vx X g.1 2 (wsX g σ4) 9 [(0, .ref (g.2.1 28)), (1, .int a0)] []
  refine vx_aload_n h0 dX2_reckon_9 rfl ?_
  obtain ⟨σ6, h5, hf⟩ := ob_some hf
  refine w_callV (st := []) (ci := 2) (q0 := 28) hX (c_X2_reckonHang h5) ce_X2_reckonHang q460 ⟨rfl, rfl⟩ ⟨by decide, by decide⟩ rfl rfl rfl rfl (xo_28 g _) rfl (Nat.le_of_ble_eq_true rfl) dX2_reckon_10 ?_
  show Vx X g.1 2 (wsX g σ6) 13 [(0, .ref (g.2.1 28)), (1, .int a0)] []
  refine vx_aload_n h0 dX2_reckon_13 rfl ?_
  obtain ⟨σ8, h7, hf⟩ := ob_some hf
  refine w_callV (st := []) (ci := 2) (q0 := 28) hX (c_X2_reckonReach h7) ce_X2_reckonReach q468 ⟨rfl, rfl⟩ ⟨by decide, by decide⟩ rfl rfl rfl rfl (xo_28 g _) rfl (Nat.le_of_ble_eq_true rfl) dX2_reckon_14 ?_
  show Vx X g.1 2 (wsX g σ8) 17 [(0, .ref (g.2.1 28)), (1, .int a0)] []
  exact w_vretE hX hf dX2_reckon_17
def FX7_isSo (σ : SS) (a0 : Int64) (a1 : Int32) : Option (Int32) :=
  if (lg_cmp ((jlushr a0 a1) &&& (1 : Int64)) (0 : Int64)) = 0 then some (0 : Int32)
    else some (1 : Int32)
set_option maxRecDepth 100000 in
set_option maxHeartbeats 4000000 in
theorem c_X7_isSo {σ : SS} {a0 : Int64} {a1 : Int32} {r : Int32} (hf : FX7_isSo σ a0 a1 = some r) : Mcw wsX yX7_isSo cX7_isSo 3 (some .boolean) ({ frames := 0, cells := 0, slots := 0, locals := 0 } : Room) (fun g => [.long a0, .int a1]) σ (fun g => some (.int r)) σ := by
  refine w_enter wsX_fix (by decide) (fun g => Nat.le_of_ble_eq_true rfl) ?_
  intro X g hX
  replace hX : Okw wsX X g cX7_isSo 3 RX7 (some .boolean) ({ frames := 0, cells := 0, slots := 0, locals := 0 } : Room) (fun g => some (.int r)) σ := hX
  have h0 := hX.1
  show Vx X g.1 3 (wsX g σ) 0 [(0, .long a0), (2, .int a1)] []
  rw [FX7_isSo] at hf
  refine vx_lload_n h0 dX7_isSo_0 rfl ?_
  refine vx_iload_n h0 dX7_isSo_1 rfl ?_
  refine vx_lushr h0 dX7_isSo_2 ?_
  refine vx_lconst (v := (1 : Int64)) h0 dX7_isSo_3 (by decide) ?_
  refine vx_land h0 dX7_isSo_4 ?_
  refine vx_lconst (v := (0 : Int64)) h0 dX7_isSo_5 (by decide) ?_
  refine vx_lcmp h0 dX7_isSo_6 ?_
  refine vx_if_eq (tgt := 14) h0 dX7_isSo_7 (by decide) (fun c1 => ?_) (fun c1 => ?_)
  · replace hf := (if_pos c1).symm.trans hf
    refine vx_iconst (v := (0 : Int32)) h0 dX7_isSo_14 (by decide) ?_
    exact w_zretP hX hf rfl dX7_isSo_15
  · replace hf := (if_neg c1).symm.trans hf
    refine vx_iconst (v := (1 : Int32)) h0 dX7_isSo_10 (by decide) ?_
    refine vx_goto (tgt := 15) h0 dX7_isSo_11 (by decide) ?_
    exact w_zretP hX hf rfl dX7_isSo_15
def FX2_inForce_L4 (σ : SS) (v1 : Int32) (k : Int32 → Option (Int32)) : Nat → Int32 → Int32 → Option (Int32)
  | 0, _, _ => none
  | n + 1, v2, v3 => if (gI σ 40) ≤ v3 then k v2
    else gd (inb v3 16) (ob (FX7_isSo σ (gL σ 81 (Int32.toNatClampNeg v3)) v1) (fun r4 => if r4 = 0 then FX2_inForce_L4 σ v1 k n v2 (v3 + (1 : Int32))
    else FX2_inForce_L4 σ v1 k n (v2 ||| (jshl (1 : Int32) v3)) (v3 + (1 : Int32))))
set_option maxRecDepth 100000 in
set_option maxHeartbeats 4000000 in
theorem PX2_inForce_L4 {X : Bx} {g : Gx} {r : Int32} {σ : SS} (hX : Okw wsX X g cX2_inForce 4 RX2 (some .int) ({ frames := 1, cells := 0, slots := 0, locals := 22 } : Room) (fun g => some (.int r)) σ) {v1 : Int32} {k : Int32 → Option (Int32)} (hk : ∀ (v2 : Int32), k v2 = some r → Vx X g.1 4 (wsX g σ) 40 [(2, .int v2)] []) : ∀ (n : Nat) (v2 : Int32) (v3 : Int32), FX2_inForce_L4 σ v1 k n v2 v3 = some r → Vx X g.1 4 (wsX g σ) 4 [(0, .ref (g.2.1 28)), (1, .int v1), (2, .int v2), (3, .int v3)] [] := by
  have h0 := hX.1
  intro n
  induction n with
  | zero =>
    intro v2 v3 hf
    rw [FX2_inForce_L4] at hf
    cases hf
  | succ n ih =>
    intro v2 v3 hf
    rw [FX2_inForce_L4] at hf
    refine vx_iload_n h0 dX2_inForce_4 rfl ?_
    refine vx_aload_n h0 dX2_inForce_5 rfl ?_
    refine xg_28_0 hX q247 dX2_inForce_6 ?_
    refine xg_14_0 hX q102 dX2_inForce_9 ?_
    refine vx_icmp_ge (tgt := 40) h0 dX2_inForce_12 (by decide) (fun c1 => ?_) (fun c1 => ?_)
    · replace hf := (if_pos c1).symm.trans hf
      refine vx_sub [2] rfl ?_
      exact hk _ hf
    · replace hf := (if_neg c1).symm.trans hf
      refine vx_aload_n h0 dX2_inForce_15 rfl ?_
      refine xg_28_1 hX q248 dX2_inForce_16 ?_
      refine vx_iload_n h0 dX2_inForce_19 rfl ?_
      obtain ⟨b2, hf⟩ := gd_some hf
      refine xl_29 hX b2 dX2_inForce_20 ?_
      refine vx_iload_n h0 dX2_inForce_21 rfl ?_
      obtain ⟨r4, h3, hf⟩ := ob_some hf
      refine w_callSN (st := []) hX (c_X7_isSo h3) ce_X7_isSo q525 ⟨rfl, rfl⟩ ⟨by decide, by decide⟩ rfl rfl rfl (Nat.le_of_ble_eq_true rfl) dX2_inForce_22 ?_
      show Vx X g.1 4 (wsX g σ) 25 [(0, .ref (g.2.1 28)), (1, .int v1), (2, .int v2), (3, .int v3)] [.int r4]
      refine vx_if_eq (tgt := 34) h0 dX2_inForce_25 (by decide) (fun c5 => ?_) (fun c5 => ?_)
      · replace hf := (if_pos c5).symm.trans hf
        refine vx_iinc (q := 3) (v := (v3 + (1 : Int32))) (ls' := [(3, .int (v3 + (1 : Int32))), (0, .ref (g.2.1 28)), (1, .int v1), (2, .int v2)]) h0 dX2_inForce_34 rfl rfl (by decide) rfl ?_
        refine vx_goto (tgt := 4) h0 dX2_inForce_37 (by decide) ?_
        refine vx_sub [1, 2, 3, 0] rfl ?_
        exact ih _ _ hf
      · replace hf := (if_neg c5).symm.trans hf
        refine vx_iload_n h0 dX2_inForce_28 rfl ?_
        refine vx_iconst (v := (1 : Int32)) h0 dX2_inForce_29 (by decide) ?_
        refine vx_iload_n h0 dX2_inForce_30 rfl ?_
        refine vx_ishl h0 dX2_inForce_31 ?_
        refine vx_ior h0 dX2_inForce_32 ?_
        refine vx_istore_n (ls' := [(2, .int (v2 ||| (jshl (1 : Int32) v3))), (0, .ref (g.2.1 28)), (1, .int v1), (3, .int v3)]) h0 dX2_inForce_33 (by decide) rfl ?_
        refine vx_iinc (q := 3) (v := (v3 + (1 : Int32))) (ls' := [(3, .int (v3 + (1 : Int32))), (2, .int (v2 ||| (jshl (1 : Int32) v3))), (0, .ref (g.2.1 28)), (1, .int v1)]) h0 dX2_inForce_34 rfl rfl (by decide) rfl ?_
        refine vx_goto (tgt := 4) h0 dX2_inForce_37 (by decide) ?_
        refine vx_sub [2, 3, 1, 0] rfl ?_
        exact ih _ _ hf
def FX2_inForce (σ : SS) (a0 : Int32) : Option (Int32) :=
  FX2_inForce_L4 σ a0 (fun u6 => some u6) 5000 (0 : Int32) (0 : Int32)
set_option maxRecDepth 100000 in
set_option maxHeartbeats 4000000 in
theorem c_X2_inForce {σ : SS} {a0 : Int32} {r : Int32} (hf : FX2_inForce σ a0 = some r) : Mcw wsX yX2_inForce cX2_inForce 4 (some .int) ({ frames := 1, cells := 0, slots := 0, locals := 22 } : Room) (fun g => [.ref (g.2.1 28), .int a0]) σ (fun g => some (.int r)) σ := by
  refine w_enter wsX_fix (by decide) (fun g => Nat.le_of_ble_eq_true rfl) ?_
  intro X g hX
  replace hX : Okw wsX X g cX2_inForce 4 RX2 (some .int) ({ frames := 1, cells := 0, slots := 0, locals := 22 } : Room) (fun g => some (.int r)) σ := hX
  have h0 := hX.1
  show Vx X g.1 4 (wsX g σ) 0 [(0, .ref (g.2.1 28)), (1, .int a0)] []
  rw [FX2_inForce] at hf
  refine vx_iconst (v := (0 : Int32)) h0 dX2_inForce_0 (by decide) ?_
  refine vx_istore_n (ls' := [(2, .int (0 : Int32)), (0, .ref (g.2.1 28)), (1, .int a0)]) h0 dX2_inForce_1 (by decide) rfl ?_
  refine vx_iconst (v := (0 : Int32)) h0 dX2_inForce_2 (by decide) ?_
  refine vx_istore_n (ls' := [(3, .int (0 : Int32)), (2, .int (0 : Int32)), (0, .ref (g.2.1 28)), (1, .int a0)]) h0 dX2_inForce_3 (by decide) rfl ?_
  refine vx_sub [2, 3, 1, 0] rfl ?_
  refine PX2_inForce_L4 hX (fun u6 hf => ?_) _ _ _ hf
  refine vx_iload_n h0 dX2_inForce_40 rfl ?_
  exact w_iretP hX hf dX2_inForce_41
def FX2_roundTerms_L4 (σ : SS) (v1 : Int32) (k : Int32 → Option (Int32)) : Nat → Int32 → Int32 → Option (Int32)
  | 0, _, _ => none
  | n + 1, v2, v3 => if (8 : Int32) ≤ v3 then k v2
    else gd (inb ((v3 * (8 : Int32)) + v3) 64) (ob (FX7_isSo σ (gL σ 85 (Int32.toNatClampNeg ((v3 * (8 : Int32)) + v3))) v1) (fun r4 => if r4 = 0 then FX2_roundTerms_L4 σ v1 k n v2 (v3 + (1 : Int32))
    else FX2_roundTerms_L4 σ v1 k n (v2 ||| (jshl (1 : Int32) v3)) (v3 + (1 : Int32))))
set_option maxRecDepth 100000 in
set_option maxHeartbeats 4000000 in
theorem PX2_roundTerms_L4 {X : Bx} {g : Gx} {r : Int32} {σ : SS} (hX : Okw wsX X g cX2_roundTerms 4 RX2 (some .int) ({ frames := 1, cells := 0, slots := 0, locals := 22 } : Room) (fun g => some (.int r)) σ) {v1 : Int32} {k : Int32 → Option (Int32)} (hk : ∀ (v2 : Int32), k v2 = some r → Vx X g.1 4 (wsX g σ) 40 [(2, .int v2)] []) : ∀ (n : Nat) (v2 : Int32) (v3 : Int32), FX2_roundTerms_L4 σ v1 k n v2 v3 = some r → Vx X g.1 4 (wsX g σ) 4 [(0, .ref (g.2.1 28)), (1, .int v1), (2, .int v2), (3, .int v3)] [] := by
  have h0 := hX.1
  intro n
  induction n with
  | zero =>
    intro v2 v3 hf
    rw [FX2_roundTerms_L4] at hf
    cases hf
  | succ n ih =>
    intro v2 v3 hf
    rw [FX2_roundTerms_L4] at hf
    refine vx_iload_n h0 dX2_roundTerms_4 rfl ?_
    refine vx_bipush (v := (8 : Int32)) h0 dX2_roundTerms_5 (by decide) ?_
    refine vx_icmp_ge (tgt := 40) h0 dX2_roundTerms_7 (by decide) (fun c1 => ?_) (fun c1 => ?_)
    · replace hf := (if_pos c1).symm.trans hf
      refine vx_sub [2] rfl ?_
      exact hk _ hf
    · replace hf := (if_neg c1).symm.trans hf
      refine vx_aload_n h0 dX2_roundTerms_10 rfl ?_
      refine xg_28_5 hX q252 dX2_roundTerms_11 ?_
      refine vx_iload_n h0 dX2_roundTerms_14 rfl ?_
      refine vx_bipush (v := (8 : Int32)) h0 dX2_roundTerms_15 (by decide) ?_
      refine vx_imul h0 dX2_roundTerms_17 ?_
      refine vx_iload_n h0 dX2_roundTerms_18 rfl ?_
      refine vx_iadd h0 dX2_roundTerms_19 ?_
      obtain ⟨b2, hf⟩ := gd_some hf
      refine xl_33 hX b2 dX2_roundTerms_20 ?_
      refine vx_iload_n h0 dX2_roundTerms_21 rfl ?_
      obtain ⟨r4, h3, hf⟩ := ob_some hf
      refine w_callSN (st := []) hX (c_X7_isSo h3) ce_X7_isSo q525 ⟨rfl, rfl⟩ ⟨by decide, by decide⟩ rfl rfl rfl (Nat.le_of_ble_eq_true rfl) dX2_roundTerms_22 ?_
      show Vx X g.1 4 (wsX g σ) 25 [(0, .ref (g.2.1 28)), (1, .int v1), (2, .int v2), (3, .int v3)] [.int r4]
      refine vx_if_eq (tgt := 34) h0 dX2_roundTerms_25 (by decide) (fun c5 => ?_) (fun c5 => ?_)
      · replace hf := (if_pos c5).symm.trans hf
        refine vx_iinc (q := 3) (v := (v3 + (1 : Int32))) (ls' := [(3, .int (v3 + (1 : Int32))), (0, .ref (g.2.1 28)), (1, .int v1), (2, .int v2)]) h0 dX2_roundTerms_34 rfl rfl (by decide) rfl ?_
        refine vx_goto (tgt := 4) h0 dX2_roundTerms_37 (by decide) ?_
        refine vx_sub [1, 2, 3, 0] rfl ?_
        exact ih _ _ hf
      · replace hf := (if_neg c5).symm.trans hf
        refine vx_iload_n h0 dX2_roundTerms_28 rfl ?_
        refine vx_iconst (v := (1 : Int32)) h0 dX2_roundTerms_29 (by decide) ?_
        refine vx_iload_n h0 dX2_roundTerms_30 rfl ?_
        refine vx_ishl h0 dX2_roundTerms_31 ?_
        refine vx_ior h0 dX2_roundTerms_32 ?_
        refine vx_istore_n (ls' := [(2, .int (v2 ||| (jshl (1 : Int32) v3))), (0, .ref (g.2.1 28)), (1, .int v1), (3, .int v3)]) h0 dX2_roundTerms_33 (by decide) rfl ?_
        refine vx_iinc (q := 3) (v := (v3 + (1 : Int32))) (ls' := [(3, .int (v3 + (1 : Int32))), (2, .int (v2 ||| (jshl (1 : Int32) v3))), (0, .ref (g.2.1 28)), (1, .int v1)]) h0 dX2_roundTerms_34 rfl rfl (by decide) rfl ?_
        refine vx_goto (tgt := 4) h0 dX2_roundTerms_37 (by decide) ?_
        refine vx_sub [2, 3, 1, 0] rfl ?_
        exact ih _ _ hf
def FX2_roundTerms (σ : SS) (a0 : Int32) : Option (Int32) :=
  FX2_roundTerms_L4 σ a0 (fun u6 => some u6) 5000 (0 : Int32) (0 : Int32)
set_option maxRecDepth 100000 in
set_option maxHeartbeats 4000000 in
theorem c_X2_roundTerms {σ : SS} {a0 : Int32} {r : Int32} (hf : FX2_roundTerms σ a0 = some r) : Mcw wsX yX2_roundTerms cX2_roundTerms 4 (some .int) ({ frames := 1, cells := 0, slots := 0, locals := 22 } : Room) (fun g => [.ref (g.2.1 28), .int a0]) σ (fun g => some (.int r)) σ := by
  refine w_enter wsX_fix (by decide) (fun g => Nat.le_of_ble_eq_true rfl) ?_
  intro X g hX
  replace hX : Okw wsX X g cX2_roundTerms 4 RX2 (some .int) ({ frames := 1, cells := 0, slots := 0, locals := 22 } : Room) (fun g => some (.int r)) σ := hX
  have h0 := hX.1
  show Vx X g.1 4 (wsX g σ) 0 [(0, .ref (g.2.1 28)), (1, .int a0)] []
  rw [FX2_roundTerms] at hf
  refine vx_iconst (v := (0 : Int32)) h0 dX2_roundTerms_0 (by decide) ?_
  refine vx_istore_n (ls' := [(2, .int (0 : Int32)), (0, .ref (g.2.1 28)), (1, .int a0)]) h0 dX2_roundTerms_1 (by decide) rfl ?_
  refine vx_iconst (v := (0 : Int32)) h0 dX2_roundTerms_2 (by decide) ?_
  refine vx_istore_n (ls' := [(3, .int (0 : Int32)), (2, .int (0 : Int32)), (0, .ref (g.2.1 28)), (1, .int a0)]) h0 dX2_roundTerms_3 (by decide) rfl ?_
  refine vx_sub [2, 3, 1, 0] rfl ?_
  refine PX2_roundTerms_L4 hX (fun u6 hf => ?_) _ _ _ hf
  refine vx_iload_n h0 dX2_roundTerms_40 rfl ?_
  exact w_iretP hX hf dX2_roundTerms_41
def FX2_hangsOn_L5 (σ : SS) (v1 : Int32) (v2 : Int32) (k : Int32 → Option (Int32)) : Nat → Int32 → Int32 → Option (Int32)
  | 0, _, _ => none
  | n + 1, v3, v4 => if (8 : Int32) ≤ v4 then k v3
    else gd (inb ((v1 * (8 : Int32)) + v4) 64) (ob (FX7_isSo σ (gL σ 84 (Int32.toNatClampNeg ((v1 * (8 : Int32)) + v4))) v2) (fun r4 => if r4 = 0 then FX2_hangsOn_L5 σ v1 v2 k n v3 (v4 + (1 : Int32))
    else FX2_hangsOn_L5 σ v1 v2 k n (v3 ||| (jshl (1 : Int32) v4)) (v4 + (1 : Int32))))
set_option maxRecDepth 100000 in
set_option maxHeartbeats 4000000 in
theorem PX2_hangsOn_L5 {X : Bx} {g : Gx} {r : Int32} {σ : SS} (hX : Okw wsX X g cX2_hangsOn 5 RX2 (some .int) ({ frames := 1, cells := 0, slots := 0, locals := 22 } : Room) (fun g => some (.int r)) σ) {v1 : Int32} {v2 : Int32} {k : Int32 → Option (Int32)} (hk : ∀ (v3 : Int32), k v3 = some r → Vx X g.1 5 (wsX g σ) 44 [(3, .int v3)] []) : ∀ (n : Nat) (v3 : Int32) (v4 : Int32), FX2_hangsOn_L5 σ v1 v2 k n v3 v4 = some r → Vx X g.1 5 (wsX g σ) 5 [(0, .ref (g.2.1 28)), (1, .int v1), (2, .int v2), (3, .int v3), (4, .int v4)] [] := by
  have h0 := hX.1
  intro n
  induction n with
  | zero =>
    intro v3 v4 hf
    rw [FX2_hangsOn_L5] at hf
    cases hf
  | succ n ih =>
    intro v3 v4 hf
    rw [FX2_hangsOn_L5] at hf
    refine vx_iload h0 dX2_hangsOn_5 rfl ?_
    refine vx_bipush (v := (8 : Int32)) h0 dX2_hangsOn_7 (by decide) ?_
    refine vx_icmp_ge (tgt := 44) h0 dX2_hangsOn_9 (by decide) (fun c1 => ?_) (fun c1 => ?_)
    · replace hf := (if_pos c1).symm.trans hf
      refine vx_sub [3] rfl ?_
      exact hk _ hf
    · replace hf := (if_neg c1).symm.trans hf
      refine vx_aload_n h0 dX2_hangsOn_12 rfl ?_
      refine xg_28_4 hX q251 dX2_hangsOn_13 ?_
      refine vx_iload_n h0 dX2_hangsOn_16 rfl ?_
      refine vx_bipush (v := (8 : Int32)) h0 dX2_hangsOn_17 (by decide) ?_
      refine vx_imul h0 dX2_hangsOn_19 ?_
      refine vx_iload h0 dX2_hangsOn_20 rfl ?_
      refine vx_iadd h0 dX2_hangsOn_22 ?_
      obtain ⟨b2, hf⟩ := gd_some hf
      refine xl_32 hX b2 dX2_hangsOn_23 ?_
      refine vx_iload_n h0 dX2_hangsOn_24 rfl ?_
      obtain ⟨r4, h3, hf⟩ := ob_some hf
      refine w_callSN (st := []) hX (c_X7_isSo h3) ce_X7_isSo q525 ⟨rfl, rfl⟩ ⟨by decide, by decide⟩ rfl rfl rfl (Nat.le_of_ble_eq_true rfl) dX2_hangsOn_25 ?_
      show Vx X g.1 5 (wsX g σ) 28 [(0, .ref (g.2.1 28)), (1, .int v1), (2, .int v2), (3, .int v3), (4, .int v4)] [.int r4]
      refine vx_if_eq (tgt := 38) h0 dX2_hangsOn_28 (by decide) (fun c5 => ?_) (fun c5 => ?_)
      · replace hf := (if_pos c5).symm.trans hf
        refine vx_iinc (q := 4) (v := (v4 + (1 : Int32))) (ls' := [(4, .int (v4 + (1 : Int32))), (0, .ref (g.2.1 28)), (1, .int v1), (2, .int v2), (3, .int v3)]) h0 dX2_hangsOn_38 rfl rfl (by decide) rfl ?_
        refine vx_goto (tgt := 5) h0 dX2_hangsOn_41 (by decide) ?_
        refine vx_sub [1, 2, 3, 4, 0] rfl ?_
        exact ih _ _ hf
      · replace hf := (if_neg c5).symm.trans hf
        refine vx_iload_n h0 dX2_hangsOn_31 rfl ?_
        refine vx_iconst (v := (1 : Int32)) h0 dX2_hangsOn_32 (by decide) ?_
        refine vx_iload h0 dX2_hangsOn_33 rfl ?_
        refine vx_ishl h0 dX2_hangsOn_35 ?_
        refine vx_ior h0 dX2_hangsOn_36 ?_
        refine vx_istore_n (ls' := [(3, .int (v3 ||| (jshl (1 : Int32) v4))), (0, .ref (g.2.1 28)), (1, .int v1), (2, .int v2), (4, .int v4)]) h0 dX2_hangsOn_37 (by decide) rfl ?_
        refine vx_iinc (q := 4) (v := (v4 + (1 : Int32))) (ls' := [(4, .int (v4 + (1 : Int32))), (3, .int (v3 ||| (jshl (1 : Int32) v4))), (0, .ref (g.2.1 28)), (1, .int v1), (2, .int v2)]) h0 dX2_hangsOn_38 rfl rfl (by decide) rfl ?_
        refine vx_goto (tgt := 5) h0 dX2_hangsOn_41 (by decide) ?_
        refine vx_sub [2, 3, 4, 1, 0] rfl ?_
        exact ih _ _ hf
def FX2_hangsOn (σ : SS) (a0 : Int32) (a1 : Int32) : Option (Int32) :=
  FX2_hangsOn_L5 σ a0 a1 (fun u6 => some u6) 5000 (0 : Int32) (0 : Int32)
set_option maxRecDepth 100000 in
set_option maxHeartbeats 4000000 in
theorem c_X2_hangsOn {σ : SS} {a0 : Int32} {a1 : Int32} {r : Int32} (hf : FX2_hangsOn σ a0 a1 = some r) : Mcw wsX yX2_hangsOn cX2_hangsOn 5 (some .int) ({ frames := 1, cells := 0, slots := 0, locals := 22 } : Room) (fun g => [.ref (g.2.1 28), .int a0, .int a1]) σ (fun g => some (.int r)) σ := by
  refine w_enter wsX_fix (by decide) (fun g => Nat.le_of_ble_eq_true rfl) ?_
  intro X g hX
  replace hX : Okw wsX X g cX2_hangsOn 5 RX2 (some .int) ({ frames := 1, cells := 0, slots := 0, locals := 22 } : Room) (fun g => some (.int r)) σ := hX
  have h0 := hX.1
  show Vx X g.1 5 (wsX g σ) 0 [(0, .ref (g.2.1 28)), (1, .int a0), (2, .int a1)] []
  rw [FX2_hangsOn] at hf
  refine vx_iconst (v := (0 : Int32)) h0 dX2_hangsOn_0 (by decide) ?_
  refine vx_istore_n (ls' := [(3, .int (0 : Int32)), (0, .ref (g.2.1 28)), (1, .int a0), (2, .int a1)]) h0 dX2_hangsOn_1 (by decide) rfl ?_
  refine vx_iconst (v := (0 : Int32)) h0 dX2_hangsOn_2 (by decide) ?_
  refine vx_istore (ls' := [(4, .int (0 : Int32)), (3, .int (0 : Int32)), (0, .ref (g.2.1 28)), (1, .int a0), (2, .int a1)]) h0 dX2_hangsOn_3 (by decide) rfl ?_
  refine vx_sub [2, 3, 4, 1, 0] rfl ?_
  refine PX2_hangsOn_L5 hX (fun u6 hf => ?_) _ _ _ hf
  refine vx_iload_n h0 dX2_hangsOn_44 rfl ?_
  exact w_iretP hX hf dX2_hangsOn_45
def FX2_countAmiss_L5 (σ : SS) (v1 : Int32) (v2 : Int32) (k : Int32 → Option (Int32)) : Nat → Int32 → Int32 → Option (Int32)
  | 0, _, _ => none
  | n + 1, v3, v4 => if (gI σ 41) ≤ v4 then k v3
    else gd (inb v4 30) (if (gA σ 49 (Int32.toNatClampNeg v4)) = v1 then gd (inb v4 30) (ob (FX7_isSo σ (gL σ 82 (Int32.toNatClampNeg v4)) v2) (fun r6 => if r6 = 0 then FX2_countAmiss_L5 σ v1 v2 k n v3 (v4 + (1 : Int32))
    else FX2_countAmiss_L5 σ v1 v2 k n (v3 + (1 : Int32)) (v4 + (1 : Int32))))
    else FX2_countAmiss_L5 σ v1 v2 k n v3 (v4 + (1 : Int32)))
set_option maxRecDepth 100000 in
set_option maxHeartbeats 4000000 in
theorem PX2_countAmiss_L5 {X : Bx} {g : Gx} {r : Int32} {σ : SS} (hX : Okw wsX X g cX2_countAmiss 5 RX2 (some .int) ({ frames := 1, cells := 0, slots := 0, locals := 22 } : Room) (fun g => some (.int r)) σ) {v1 : Int32} {v2 : Int32} {k : Int32 → Option (Int32)} (hk : ∀ (v3 : Int32), k v3 = some r → Vx X g.1 5 (wsX g σ) 54 [(3, .int v3)] []) : ∀ (n : Nat) (v3 : Int32) (v4 : Int32), FX2_countAmiss_L5 σ v1 v2 k n v3 v4 = some r → Vx X g.1 5 (wsX g σ) 5 [(0, .ref (g.2.1 28)), (1, .int v1), (2, .int v2), (3, .int v3), (4, .int v4)] [] := by
  have h0 := hX.1
  intro n
  induction n with
  | zero =>
    intro v3 v4 hf
    rw [FX2_countAmiss_L5] at hf
    cases hf
  | succ n ih =>
    intro v3 v4 hf
    rw [FX2_countAmiss_L5] at hf
    refine vx_iload h0 dX2_countAmiss_5 rfl ?_
    refine vx_aload_n h0 dX2_countAmiss_7 rfl ?_
    refine xg_28_0 hX q247 dX2_countAmiss_8 ?_
    refine xg_14_1 hX q108 dX2_countAmiss_11 ?_
    refine vx_icmp_ge (tgt := 54) h0 dX2_countAmiss_14 (by decide) (fun c1 => ?_) (fun c1 => ?_)
    · replace hf := (if_pos c1).symm.trans hf
      refine vx_sub [3] rfl ?_
      exact hk _ hf
    · replace hf := (if_neg c1).symm.trans hf
      refine vx_aload_n h0 dX2_countAmiss_17 rfl ?_
      refine xg_28_0 hX q247 dX2_countAmiss_18 ?_
      refine xg_14_9 hX q135 dX2_countAmiss_21 ?_
      refine vx_iload h0 dX2_countAmiss_24 rfl ?_
      obtain ⟨b2, hf⟩ := gd_some hf
      refine xl_21 hX b2 dX2_countAmiss_26 ?_
      refine vx_iload_n h0 dX2_countAmiss_27 rfl ?_
      refine vx_icmp_ne (tgt := 48) h0 dX2_countAmiss_28 (by decide) (fun c3 => ?_) (fun c3 => ?_)
      · replace hf := (if_neg c3).symm.trans hf
        refine vx_iinc (q := 4) (v := (v4 + (1 : Int32))) (ls' := [(4, .int (v4 + (1 : Int32))), (0, .ref (g.2.1 28)), (1, .int v1), (2, .int v2), (3, .int v3)]) h0 dX2_countAmiss_48 rfl rfl (by decide) rfl ?_
        refine vx_goto (tgt := 5) h0 dX2_countAmiss_51 (by decide) ?_
        refine vx_sub [1, 2, 3, 4, 0] rfl ?_
        exact ih _ _ hf
      · replace hf := (if_pos c3).symm.trans hf
        refine vx_aload_n h0 dX2_countAmiss_31 rfl ?_
        refine xg_28_2 hX q249 dX2_countAmiss_32 ?_
        refine vx_iload h0 dX2_countAmiss_35 rfl ?_
        obtain ⟨b4, hf⟩ := gd_some hf
        refine xl_30 hX b4 dX2_countAmiss_37 ?_
        refine vx_iload_n h0 dX2_countAmiss_38 rfl ?_
        obtain ⟨r6, h5, hf⟩ := ob_some hf
        refine w_callSN (st := []) hX (c_X7_isSo h5) ce_X7_isSo q525 ⟨rfl, rfl⟩ ⟨by decide, by decide⟩ rfl rfl rfl (Nat.le_of_ble_eq_true rfl) dX2_countAmiss_39 ?_
        show Vx X g.1 5 (wsX g σ) 42 [(0, .ref (g.2.1 28)), (1, .int v1), (2, .int v2), (3, .int v3), (4, .int v4)] [.int r6]
        refine vx_if_eq (tgt := 48) h0 dX2_countAmiss_42 (by decide) (fun c7 => ?_) (fun c7 => ?_)
        · replace hf := (if_pos c7).symm.trans hf
          refine vx_iinc (q := 4) (v := (v4 + (1 : Int32))) (ls' := [(4, .int (v4 + (1 : Int32))), (0, .ref (g.2.1 28)), (1, .int v1), (2, .int v2), (3, .int v3)]) h0 dX2_countAmiss_48 rfl rfl (by decide) rfl ?_
          refine vx_goto (tgt := 5) h0 dX2_countAmiss_51 (by decide) ?_
          refine vx_sub [1, 2, 3, 4, 0] rfl ?_
          exact ih _ _ hf
        · replace hf := (if_neg c7).symm.trans hf
          refine vx_iinc (q := 3) (v := (v3 + (1 : Int32))) (ls' := [(3, .int (v3 + (1 : Int32))), (0, .ref (g.2.1 28)), (1, .int v1), (2, .int v2), (4, .int v4)]) h0 dX2_countAmiss_45 rfl rfl (by decide) rfl ?_
          refine vx_iinc (q := 4) (v := (v4 + (1 : Int32))) (ls' := [(4, .int (v4 + (1 : Int32))), (3, .int (v3 + (1 : Int32))), (0, .ref (g.2.1 28)), (1, .int v1), (2, .int v2)]) h0 dX2_countAmiss_48 rfl rfl (by decide) rfl ?_
          refine vx_goto (tgt := 5) h0 dX2_countAmiss_51 (by decide) ?_
          refine vx_sub [2, 3, 4, 1, 0] rfl ?_
          exact ih _ _ hf
def FX2_countAmiss (σ : SS) (a0 : Int32) (a1 : Int32) : Option (Int32) :=
  FX2_countAmiss_L5 σ a0 a1 (fun u8 => some u8) 5000 (0 : Int32) (0 : Int32)
set_option maxRecDepth 100000 in
set_option maxHeartbeats 4000000 in
theorem c_X2_countAmiss {σ : SS} {a0 : Int32} {a1 : Int32} {r : Int32} (hf : FX2_countAmiss σ a0 a1 = some r) : Mcw wsX yX2_countAmiss cX2_countAmiss 5 (some .int) ({ frames := 1, cells := 0, slots := 0, locals := 22 } : Room) (fun g => [.ref (g.2.1 28), .int a0, .int a1]) σ (fun g => some (.int r)) σ := by
  refine w_enter wsX_fix (by decide) (fun g => Nat.le_of_ble_eq_true rfl) ?_
  intro X g hX
  replace hX : Okw wsX X g cX2_countAmiss 5 RX2 (some .int) ({ frames := 1, cells := 0, slots := 0, locals := 22 } : Room) (fun g => some (.int r)) σ := hX
  have h0 := hX.1
  show Vx X g.1 5 (wsX g σ) 0 [(0, .ref (g.2.1 28)), (1, .int a0), (2, .int a1)] []
  rw [FX2_countAmiss] at hf
  refine vx_iconst (v := (0 : Int32)) h0 dX2_countAmiss_0 (by decide) ?_
  refine vx_istore_n (ls' := [(3, .int (0 : Int32)), (0, .ref (g.2.1 28)), (1, .int a0), (2, .int a1)]) h0 dX2_countAmiss_1 (by decide) rfl ?_
  refine vx_iconst (v := (0 : Int32)) h0 dX2_countAmiss_2 (by decide) ?_
  refine vx_istore (ls' := [(4, .int (0 : Int32)), (3, .int (0 : Int32)), (0, .ref (g.2.1 28)), (1, .int a0), (2, .int a1)]) h0 dX2_countAmiss_3 (by decide) rfl ?_
  refine vx_sub [2, 3, 4, 1, 0] rfl ?_
  refine PX2_countAmiss_L5 hX (fun u8 hf => ?_) _ _ _ hf
  refine vx_iload_n h0 dX2_countAmiss_54 rfl ?_
  exact w_iretP hX hf dX2_countAmiss_55
def FX2_firstAmiss_L2 (σ : SS) (v1 : Int32) (k : Option (Int32)) : Nat → Int32 → Option (Int32)
  | 0, _ => none
  | n + 1, v2 => if (gI σ 41) ≤ v2 then k
    else gd (inb v2 30) (ob (FX7_isSo σ (gL σ 82 (Int32.toNatClampNeg v2)) v1) (fun r4 => if r4 = 0 then FX2_firstAmiss_L2 σ v1 k n (v2 + (1 : Int32))
    else some v2))
set_option maxRecDepth 100000 in
set_option maxHeartbeats 4000000 in
theorem PX2_firstAmiss_L2 {X : Bx} {g : Gx} {r : Int32} {σ : SS} (hX : Okw wsX X g cX2_firstAmiss 3 RX2 (some .int) ({ frames := 1, cells := 0, slots := 0, locals := 22 } : Room) (fun g => some (.int r)) σ) {v1 : Int32} {k : Option (Int32)} (hk : k = some r → Vx X g.1 3 (wsX g σ) 34 [] []) : ∀ (n : Nat) (v2 : Int32), FX2_firstAmiss_L2 σ v1 k n v2 = some r → Vx X g.1 3 (wsX g σ) 2 [(0, .ref (g.2.1 28)), (1, .int v1), (2, .int v2)] [] := by
  have h0 := hX.1
  intro n
  induction n with
  | zero =>
    intro v2 hf
    rw [FX2_firstAmiss_L2] at hf
    cases hf
  | succ n ih =>
    intro v2 hf
    rw [FX2_firstAmiss_L2] at hf
    refine vx_iload_n h0 dX2_firstAmiss_2 rfl ?_
    refine vx_aload_n h0 dX2_firstAmiss_3 rfl ?_
    refine xg_28_0 hX q247 dX2_firstAmiss_4 ?_
    refine xg_14_1 hX q108 dX2_firstAmiss_7 ?_
    refine vx_icmp_ge (tgt := 34) h0 dX2_firstAmiss_10 (by decide) (fun c1 => ?_) (fun c1 => ?_)
    · replace hf := (if_pos c1).symm.trans hf
      refine vx_sub [] rfl ?_
      exact hk hf
    · replace hf := (if_neg c1).symm.trans hf
      refine vx_aload_n h0 dX2_firstAmiss_13 rfl ?_
      refine xg_28_2 hX q249 dX2_firstAmiss_14 ?_
      refine vx_iload_n h0 dX2_firstAmiss_17 rfl ?_
      obtain ⟨b2, hf⟩ := gd_some hf
      refine xl_30 hX b2 dX2_firstAmiss_18 ?_
      refine vx_iload_n h0 dX2_firstAmiss_19 rfl ?_
      obtain ⟨r4, h3, hf⟩ := ob_some hf
      refine w_callSN (st := []) hX (c_X7_isSo h3) ce_X7_isSo q525 ⟨rfl, rfl⟩ ⟨by decide, by decide⟩ rfl rfl rfl (Nat.le_of_ble_eq_true rfl) dX2_firstAmiss_20 ?_
      show Vx X g.1 3 (wsX g σ) 23 [(0, .ref (g.2.1 28)), (1, .int v1), (2, .int v2)] [.int r4]
      refine vx_if_eq (tgt := 28) h0 dX2_firstAmiss_23 (by decide) (fun c5 => ?_) (fun c5 => ?_)
      · replace hf := (if_pos c5).symm.trans hf
        refine vx_iinc (q := 2) (v := (v2 + (1 : Int32))) (ls' := [(2, .int (v2 + (1 : Int32))), (0, .ref (g.2.1 28)), (1, .int v1)]) h0 dX2_firstAmiss_28 rfl rfl (by decide) rfl ?_
        refine vx_goto (tgt := 2) h0 dX2_firstAmiss_31 (by decide) ?_
        refine vx_sub [1, 2, 0] rfl ?_
        exact ih _ hf
      · replace hf := (if_neg c5).symm.trans hf
        refine vx_iload_n h0 dX2_firstAmiss_26 rfl ?_
        exact w_iretP hX hf dX2_firstAmiss_27
def FX2_firstAmiss (σ : SS) (a0 : Int32) : Option (Int32) :=
  FX2_firstAmiss_L2 σ a0 (some (-1 : Int32)) 5000 (0 : Int32)
set_option maxRecDepth 100000 in
set_option maxHeartbeats 4000000 in
theorem c_X2_firstAmiss {σ : SS} {a0 : Int32} {r : Int32} (hf : FX2_firstAmiss σ a0 = some r) : Mcw wsX yX2_firstAmiss cX2_firstAmiss 3 (some .int) ({ frames := 1, cells := 0, slots := 0, locals := 22 } : Room) (fun g => [.ref (g.2.1 28), .int a0]) σ (fun g => some (.int r)) σ := by
  refine w_enter wsX_fix (by decide) (fun g => Nat.le_of_ble_eq_true rfl) ?_
  intro X g hX
  replace hX : Okw wsX X g cX2_firstAmiss 3 RX2 (some .int) ({ frames := 1, cells := 0, slots := 0, locals := 22 } : Room) (fun g => some (.int r)) σ := hX
  have h0 := hX.1
  show Vx X g.1 3 (wsX g σ) 0 [(0, .ref (g.2.1 28)), (1, .int a0)] []
  rw [FX2_firstAmiss] at hf
  refine vx_iconst (v := (0 : Int32)) h0 dX2_firstAmiss_0 (by decide) ?_
  refine vx_istore_n (ls' := [(2, .int (0 : Int32)), (0, .ref (g.2.1 28)), (1, .int a0)]) h0 dX2_firstAmiss_1 (by decide) rfl ?_
  refine vx_sub [1, 2, 0] rfl ?_
  refine PX2_firstAmiss_L2 hX (fun hf => ?_) _ _ hf
  refine vx_iconst (v := (-1 : Int32)) h0 dX2_firstAmiss_34 (by decide) ?_
  exact w_iretP hX hf dX2_firstAmiss_35
def FJ6_bitCount_0f7a4 (σ : SS) (a0 : Int32) : Option (Int32) :=
  bd (a0 - ((jushr a0 (1 : Int32)) &&& (1431655765 : Int32))) (fun x1 => bd ((x1 &&& (858993459 : Int32)) + ((jushr x1 (2 : Int32)) &&& (858993459 : Int32))) (fun x2 => bd ((x2 + (jushr x2 (4 : Int32))) &&& (252645135 : Int32)) (fun x3 => bd ((x3 + (jushr x3 (8 : Int32))) + (jushr (x3 + (jushr x3 (8 : Int32))) (16 : Int32))) (fun x4 => some (x4 &&& (63 : Int32))))))
set_option maxRecDepth 100000 in
set_option maxHeartbeats 4000000 in
theorem c_J6_bitCount_0f7a4 {σ : SS} {a0 : Int32} {r : Int32} (hf : FJ6_bitCount_0f7a4 σ a0 = some r) : Mcw wsX yJ6_bitCount_0f7a4 cJ6_bitCount_0f7a4 1 (some .int) ({ frames := 0, cells := 0, slots := 0, locals := 0 } : Room) (fun g => [.int a0]) σ (fun g => some (.int r)) σ := by
  refine w_enter wsX_fix (by decide) (fun g => Nat.le_of_ble_eq_true rfl) ?_
  intro X g hX
  replace hX : Okw wsX X g cJ6_bitCount_0f7a4 1 RJ6 (some .int) ({ frames := 0, cells := 0, slots := 0, locals := 0 } : Room) (fun g => some (.int r)) σ := hX
  have h0 := hX.1
  show Vx X g.1 1 (wsX g σ) 0 [(0, .int a0)] []
  rw [FJ6_bitCount_0f7a4] at hf
  refine vx_iload_n h0 dJ6_bitCount_0f7a4_0 rfl ?_
  refine vx_iload_n h0 dJ6_bitCount_0f7a4_1 rfl ?_
  refine vx_iconst (v := (1 : Int32)) h0 dJ6_bitCount_0f7a4_2 (by decide) ?_
  refine vx_iushr h0 dJ6_bitCount_0f7a4_3 ?_
  refine vx_ldcw h0 q531 dJ6_bitCount_0f7a4_4 ?_
  refine vx_iand h0 dJ6_bitCount_0f7a4_7 ?_
  refine vx_isub h0 dJ6_bitCount_0f7a4_8 ?_
  generalize (a0 - ((jushr a0 (1 : Int32)) &&& (1431655765 : Int32))) = x1 at hf ⊢
  replace hf := bd_h hf
  refine vx_istore_n (ls' := [(0, .int x1)]) h0 dJ6_bitCount_0f7a4_9 (by decide) rfl ?_
  refine vx_iload_n h0 dJ6_bitCount_0f7a4_10 rfl ?_
  refine vx_ldcw h0 q532 dJ6_bitCount_0f7a4_11 ?_
  refine vx_iand h0 dJ6_bitCount_0f7a4_14 ?_
  refine vx_iload_n h0 dJ6_bitCount_0f7a4_15 rfl ?_
  refine vx_iconst (v := (2 : Int32)) h0 dJ6_bitCount_0f7a4_16 (by decide) ?_
  refine vx_iushr h0 dJ6_bitCount_0f7a4_17 ?_
  refine vx_ldcw h0 q532 dJ6_bitCount_0f7a4_18 ?_
  refine vx_iand h0 dJ6_bitCount_0f7a4_21 ?_
  refine vx_iadd h0 dJ6_bitCount_0f7a4_22 ?_
  generalize ((x1 &&& (858993459 : Int32)) + ((jushr x1 (2 : Int32)) &&& (858993459 : Int32))) = x2 at hf ⊢
  replace hf := bd_h hf
  refine vx_istore_n (ls' := [(0, .int x2)]) h0 dJ6_bitCount_0f7a4_23 (by decide) rfl ?_
  refine vx_iload_n h0 dJ6_bitCount_0f7a4_24 rfl ?_
  refine vx_iload_n h0 dJ6_bitCount_0f7a4_25 rfl ?_
  refine vx_iconst (v := (4 : Int32)) h0 dJ6_bitCount_0f7a4_26 (by decide) ?_
  refine vx_iushr h0 dJ6_bitCount_0f7a4_27 ?_
  refine vx_iadd h0 dJ6_bitCount_0f7a4_28 ?_
  refine vx_ldcw h0 q533 dJ6_bitCount_0f7a4_29 ?_
  refine vx_iand h0 dJ6_bitCount_0f7a4_32 ?_
  generalize ((x2 + (jushr x2 (4 : Int32))) &&& (252645135 : Int32)) = x3 at hf ⊢
  replace hf := bd_h hf
  refine vx_istore_n (ls' := [(0, .int x3)]) h0 dJ6_bitCount_0f7a4_33 (by decide) rfl ?_
  refine vx_iload_n h0 dJ6_bitCount_0f7a4_34 rfl ?_
  refine vx_iload_n h0 dJ6_bitCount_0f7a4_35 rfl ?_
  refine vx_bipush (v := (8 : Int32)) h0 dJ6_bitCount_0f7a4_36 (by decide) ?_
  refine vx_iushr h0 dJ6_bitCount_0f7a4_38 ?_
  refine vx_iadd h0 dJ6_bitCount_0f7a4_39 ?_
  refine vx_istore_n (ls' := [(0, .int (x3 + (jushr x3 (8 : Int32))))]) h0 dJ6_bitCount_0f7a4_40 (by decide) rfl ?_
  refine vx_iload_n h0 dJ6_bitCount_0f7a4_41 rfl ?_
  refine vx_iload_n h0 dJ6_bitCount_0f7a4_42 rfl ?_
  refine vx_bipush (v := (16 : Int32)) h0 dJ6_bitCount_0f7a4_43 (by decide) ?_
  refine vx_iushr h0 dJ6_bitCount_0f7a4_45 ?_
  refine vx_iadd h0 dJ6_bitCount_0f7a4_46 ?_
  generalize ((x3 + (jushr x3 (8 : Int32))) + (jushr (x3 + (jushr x3 (8 : Int32))) (16 : Int32))) = x4 at hf ⊢
  replace hf := bd_h hf
  refine vx_istore_n (ls' := [(0, .int x4)]) h0 dJ6_bitCount_0f7a4_47 (by decide) rfl ?_
  refine vx_iload_n h0 dJ6_bitCount_0f7a4_48 rfl ?_
  refine vx_bipush (v := (63 : Int32)) h0 dJ6_bitCount_0f7a4_49 (by decide) ?_
  refine vx_iand h0 dJ6_bitCount_0f7a4_51 ?_
  exact w_iretP hX hf dJ6_bitCount_0f7a4_52
def FX2_countWrong (σ : SS) (a0 : Int32) : Option (Int32) :=
  ob (FX2_countAmiss σ (0 : Int32) a0) (fun r2 => ob (FX2_countAmiss σ (1 : Int32) a0) (fun r4 => ob (FX2_countAmiss σ (2 : Int32) a0) (fun r6 => ob (FX2_roundTerms σ a0) (fun r8 => ob (FJ6_bitCount_0f7a4 σ r8) (fun r10 => some (((r2 + r4) + r6) + r10))))))
set_option maxRecDepth 100000 in
set_option maxHeartbeats 4000000 in
theorem c_X2_countWrong {σ : SS} {a0 : Int32} {r : Int32} (hf : FX2_countWrong σ a0 = some r) : Mcw wsX yX2_countWrong cX2_countWrong 2 (some .int) ({ frames := 2, cells := 0, slots := 0, locals := 46 } : Room) (fun g => [.ref (g.2.1 28), .int a0]) σ (fun g => some (.int r)) σ := by
  refine w_enter wsX_fix (by decide) (fun g => Nat.le_of_ble_eq_true rfl) ?_
  intro X g hX
  replace hX : Okw wsX X g cX2_countWrong 2 RX2 (some .int) ({ frames := 2, cells := 0, slots := 0, locals := 46 } : Room) (fun g => some (.int r)) σ := hX
  have h0 := hX.1
  show Vx X g.1 2 (wsX g σ) 0 [(0, .ref (g.2.1 28)), (1, .int a0)] []
  rw [FX2_countWrong] at hf
  refine vx_aload_n h0 dX2_countWrong_0 rfl ?_
  refine vx_iconst (v := (0 : Int32)) h0 dX2_countWrong_1 (by decide) ?_
  refine vx_iload_n h0 dX2_countWrong_2 rfl ?_
  obtain ⟨r2, h1, hf⟩ := ob_some hf
  refine w_callV (st := []) (ci := 2) (q0 := 28) hX (c_X2_countAmiss h1) ce_X2_countAmiss q600 ⟨rfl, rfl⟩ ⟨by decide, by decide⟩ rfl rfl rfl rfl (xo_28 g _) rfl (Nat.le_of_ble_eq_true rfl) dX2_countWrong_3 ?_
  show Vx X g.1 2 (wsX g σ) 6 [(0, .ref (g.2.1 28)), (1, .int a0)] [.int r2]
  refine vx_aload_n h0 dX2_countWrong_6 rfl ?_
  refine vx_iconst (v := (1 : Int32)) h0 dX2_countWrong_7 (by decide) ?_
  refine vx_iload_n h0 dX2_countWrong_8 rfl ?_
  obtain ⟨r4, h3, hf⟩ := ob_some hf
  refine w_callV (st := [.int r2]) (ci := 2) (q0 := 28) hX (c_X2_countAmiss h3) ce_X2_countAmiss q600 ⟨rfl, rfl⟩ ⟨by decide, by decide⟩ rfl rfl rfl rfl (xo_28 g _) rfl (Nat.le_of_ble_eq_true rfl) dX2_countWrong_9 ?_
  show Vx X g.1 2 (wsX g σ) 12 [(0, .ref (g.2.1 28)), (1, .int a0)] [.int r4, .int r2]
  refine vx_iadd h0 dX2_countWrong_12 ?_
  refine vx_aload_n h0 dX2_countWrong_13 rfl ?_
  refine vx_iconst (v := (2 : Int32)) h0 dX2_countWrong_14 (by decide) ?_
  refine vx_iload_n h0 dX2_countWrong_15 rfl ?_
  obtain ⟨r6, h5, hf⟩ := ob_some hf
  refine w_callV (st := [.int (r2 + r4)]) (ci := 2) (q0 := 28) hX (c_X2_countAmiss h5) ce_X2_countAmiss q600 ⟨rfl, rfl⟩ ⟨by decide, by decide⟩ rfl rfl rfl rfl (xo_28 g _) rfl (Nat.le_of_ble_eq_true rfl) dX2_countWrong_16 ?_
  show Vx X g.1 2 (wsX g σ) 19 [(0, .ref (g.2.1 28)), (1, .int a0)] [.int r6, .int (r2 + r4)]
  refine vx_iadd h0 dX2_countWrong_19 ?_
  refine vx_aload_n h0 dX2_countWrong_20 rfl ?_
  refine vx_iload_n h0 dX2_countWrong_21 rfl ?_
  obtain ⟨r8, h7, hf⟩ := ob_some hf
  refine w_callV (st := [.int ((r2 + r4) + r6)]) (ci := 2) (q0 := 28) hX (c_X2_roundTerms h7) ce_X2_roundTerms q604 ⟨rfl, rfl⟩ ⟨by decide, by decide⟩ rfl rfl rfl rfl (xo_28 g _) rfl (Nat.le_of_ble_eq_true rfl) dX2_countWrong_22 ?_
  show Vx X g.1 2 (wsX g σ) 25 [(0, .ref (g.2.1 28)), (1, .int a0)] [.int r8, .int ((r2 + r4) + r6)]
  obtain ⟨r10, h9, hf⟩ := ob_some hf
  refine w_callS (st := [.int ((r2 + r4) + r6)]) hX (c_J6_bitCount_0f7a4 h9) ce_J6_bitCount_0f7a4 q608 ⟨rfl, rfl⟩ ⟨by decide, by decide⟩ rfl rfl rfl (Nat.le_of_ble_eq_true rfl) dX2_countWrong_25 ?_
  show Vx X g.1 2 (wsX g σ) 28 [(0, .ref (g.2.1 28)), (1, .int a0)] [.int r10, .int ((r2 + r4) + r6)]
  refine vx_iadd h0 dX2_countWrong_28 ?_
  exact w_iretP hX hf dX2_countWrong_29
def FX2_faultless_L6 (σ : SS) (k : Int64 → Option (Int64)) : Nat → Int64 → Int32 → Option (Int64)
  | 0, _, _ => none
  | n + 1, v1, v3 => if (gI σ 41) ≤ v3 then k v1
    else gd (inb v3 30) (bd (v1 &&& ((gL σ 82 (Int32.toNatClampNeg v3)) ^^^ (-1 : Int64))) (fun x3 => FX2_faultless_L6 σ k n x3 (v3 + (1 : Int32))))
set_option maxRecDepth 100000 in
set_option maxHeartbeats 4000000 in
theorem PX2_faultless_L6 {X : Bx} {g : Gx} {r : Int64} {σ : SS} (hX : Okw wsX X g cX2_faultless 4 RX2 (some .long) ({ frames := 0, cells := 0, slots := 0, locals := 0 } : Room) (fun g => some (.long r)) σ) {k : Int64 → Option (Int64)} (hk : ∀ (v1 : Int64), k v1 = some r → Vx X g.1 4 (wsX g σ) 36 [(0, .ref (g.2.1 28)), (1, .long v1)] []) : ∀ (n : Nat) (v1 : Int64) (v3 : Int32), FX2_faultless_L6 σ k n v1 v3 = some r → Vx X g.1 4 (wsX g σ) 6 [(0, .ref (g.2.1 28)), (1, .long v1), (3, .int v3)] [] := by
  have h0 := hX.1
  intro n
  induction n with
  | zero =>
    intro v1 v3 hf
    rw [FX2_faultless_L6] at hf
    cases hf
  | succ n ih =>
    intro v1 v3 hf
    rw [FX2_faultless_L6] at hf
    refine vx_iload_n h0 dX2_faultless_6 rfl ?_
    refine vx_aload_n h0 dX2_faultless_7 rfl ?_
    refine xg_28_0 hX q247 dX2_faultless_8 ?_
    refine xg_14_1 hX q108 dX2_faultless_11 ?_
    refine vx_icmp_ge (tgt := 36) h0 dX2_faultless_14 (by decide) (fun c1 => ?_) (fun c1 => ?_)
    · replace hf := (if_pos c1).symm.trans hf
      refine vx_sub [0, 1] rfl ?_
      exact hk _ hf
    · replace hf := (if_neg c1).symm.trans hf
      refine vx_lload_n h0 dX2_faultless_17 rfl ?_
      refine vx_aload_n h0 dX2_faultless_18 rfl ?_
      refine xg_28_2 hX q249 dX2_faultless_19 ?_
      refine vx_iload_n h0 dX2_faultless_22 rfl ?_
      obtain ⟨b2, hf⟩ := gd_some hf
      refine xl_30 hX b2 dX2_faultless_23 ?_
      refine vx_ldc2 h0 q459 dX2_faultless_24 ?_
      refine vx_lxor h0 dX2_faultless_27 ?_
      refine vx_land h0 dX2_faultless_28 ?_
      generalize (v1 &&& ((gL σ 82 (Int32.toNatClampNeg v3)) ^^^ (-1 : Int64))) = x3 at hf ⊢
      replace hf := bd_h hf
      refine vx_lstore_n (ls' := [(1, .long x3), (0, .ref (g.2.1 28)), (3, .int v3)]) h0 dX2_faultless_29 (by decide) rfl ?_
      refine vx_iinc (q := 2) (v := (v3 + (1 : Int32))) (ls' := [(3, .int (v3 + (1 : Int32))), (1, .long x3), (0, .ref (g.2.1 28))]) h0 dX2_faultless_30 rfl rfl (by decide) rfl ?_
      refine vx_goto (tgt := 6) h0 dX2_faultless_33 (by decide) ?_
      refine vx_sub [2, 1, 0] rfl ?_
      exact ih _ _ hf
def FX2_faultless_L38 (σ : SS) (k : Int64 → Option (Int64)) : Nat → Int64 → Int32 → Option (Int64)
  | 0, _, _ => none
  | n + 1, v1, v3 => if (8 : Int32) ≤ v3 then k v1
    else gd (inb ((v3 * (8 : Int32)) + v3) 64) (bd (v1 &&& ((gL σ 85 (Int32.toNatClampNeg ((v3 * (8 : Int32)) + v3))) ^^^ (-1 : Int64))) (fun x7 => FX2_faultless_L38 σ k n x7 (v3 + (1 : Int32))))
set_option maxRecDepth 100000 in
set_option maxHeartbeats 4000000 in
theorem PX2_faultless_L38 {X : Bx} {g : Gx} {r : Int64} {σ : SS} (hX : Okw wsX X g cX2_faultless 4 RX2 (some .long) ({ frames := 0, cells := 0, slots := 0, locals := 0 } : Room) (fun g => some (.long r)) σ) {k : Int64 → Option (Int64)} (hk : ∀ (v1 : Int64), k v1 = some r → Vx X g.1 4 (wsX g σ) 68 [(1, .long v1)] []) : ∀ (n : Nat) (v1 : Int64) (v3 : Int32), FX2_faultless_L38 σ k n v1 v3 = some r → Vx X g.1 4 (wsX g σ) 38 [(0, .ref (g.2.1 28)), (1, .long v1), (3, .int v3)] [] := by
  have h0 := hX.1
  intro n
  induction n with
  | zero =>
    intro v1 v3 hf
    rw [FX2_faultless_L38] at hf
    cases hf
  | succ n ih =>
    intro v1 v3 hf
    rw [FX2_faultless_L38] at hf
    refine vx_iload_n h0 dX2_faultless_38 rfl ?_
    refine vx_bipush (v := (8 : Int32)) h0 dX2_faultless_39 (by decide) ?_
    refine vx_icmp_ge (tgt := 68) h0 dX2_faultless_41 (by decide) (fun c5 => ?_) (fun c5 => ?_)
    · replace hf := (if_pos c5).symm.trans hf
      refine vx_sub [1] rfl ?_
      exact hk _ hf
    · replace hf := (if_neg c5).symm.trans hf
      refine vx_lload_n h0 dX2_faultless_44 rfl ?_
      refine vx_aload_n h0 dX2_faultless_45 rfl ?_
      refine xg_28_5 hX q252 dX2_faultless_46 ?_
      refine vx_iload_n h0 dX2_faultless_49 rfl ?_
      refine vx_bipush (v := (8 : Int32)) h0 dX2_faultless_50 (by decide) ?_
      refine vx_imul h0 dX2_faultless_52 ?_
      refine vx_iload_n h0 dX2_faultless_53 rfl ?_
      refine vx_iadd h0 dX2_faultless_54 ?_
      obtain ⟨b6, hf⟩ := gd_some hf
      refine xl_33 hX b6 dX2_faultless_55 ?_
      refine vx_ldc2 h0 q459 dX2_faultless_56 ?_
      refine vx_lxor h0 dX2_faultless_59 ?_
      refine vx_land h0 dX2_faultless_60 ?_
      generalize (v1 &&& ((gL σ 85 (Int32.toNatClampNeg ((v3 * (8 : Int32)) + v3))) ^^^ (-1 : Int64))) = x7 at hf ⊢
      replace hf := bd_h hf
      refine vx_lstore_n (ls' := [(1, .long x7), (0, .ref (g.2.1 28)), (3, .int v3)]) h0 dX2_faultless_61 (by decide) rfl ?_
      refine vx_iinc (q := 2) (v := (v3 + (1 : Int32))) (ls' := [(3, .int (v3 + (1 : Int32))), (1, .long x7), (0, .ref (g.2.1 28))]) h0 dX2_faultless_62 rfl rfl (by decide) rfl ?_
      refine vx_goto (tgt := 38) h0 dX2_faultless_65 (by decide) ?_
      refine vx_sub [2, 1, 0] rfl ?_
      exact ih _ _ hf
def FX2_faultless (σ : SS) : Option (Int64) :=
  FX2_faultless_L6 σ (fun u4 => FX2_faultless_L38 σ (fun u8 => some u8) 5000 u4 (0 : Int32)) 5000 (-1 : Int64) (0 : Int32)
set_option maxRecDepth 100000 in
set_option maxHeartbeats 4000000 in
theorem c_X2_faultless {σ : SS} {r : Int64} (hf : FX2_faultless σ = some r) : Mcw wsX yX2_faultless cX2_faultless 4 (some .long) ({ frames := 0, cells := 0, slots := 0, locals := 0 } : Room) (fun g => [.ref (g.2.1 28)]) σ (fun g => some (.long r)) σ := by
  refine w_enter wsX_fix (by decide) (fun g => Nat.le_of_ble_eq_true rfl) ?_
  intro X g hX
  replace hX : Okw wsX X g cX2_faultless 4 RX2 (some .long) ({ frames := 0, cells := 0, slots := 0, locals := 0 } : Room) (fun g => some (.long r)) σ := hX
  have h0 := hX.1
  show Vx X g.1 4 (wsX g σ) 0 [(0, .ref (g.2.1 28))] []
  rw [FX2_faultless] at hf
  refine vx_ldc2 h0 q459 dX2_faultless_0 ?_
  refine vx_lstore_n (ls' := [(1, .long (-1 : Int64)), (0, .ref (g.2.1 28))]) h0 dX2_faultless_3 (by decide) rfl ?_
  refine vx_iconst (v := (0 : Int32)) h0 dX2_faultless_4 (by decide) ?_
  refine vx_istore_n (ls' := [(3, .int (0 : Int32)), (1, .long (-1 : Int64)), (0, .ref (g.2.1 28))]) h0 dX2_faultless_5 (by decide) rfl ?_
  refine vx_sub [2, 1, 0] rfl ?_
  refine PX2_faultless_L6 hX (fun u4 hf => ?_) _ _ _ hf
  refine vx_iconst (v := (0 : Int32)) h0 dX2_faultless_36 (by decide) ?_
  refine vx_istore_n (ls' := [(3, .int (0 : Int32)), (0, .ref (g.2.1 28)), (1, .long u4)]) h0 dX2_faultless_37 (by decide) rfl ?_
  refine vx_sub [1, 2, 0] rfl ?_
  refine PX2_faultless_L38 hX (fun u8 hf => ?_) _ _ _ hf
  refine vx_lload_n h0 dX2_faultless_68 rfl ?_
  exact w_lretP hX hf dX2_faultless_69
def FX2_isInForce (σ : SS) (a0 : Int32) (a1 : Int32) (a2 : Int32) (a3 : Int32) : Option (Int32) :=
  gd (inb a0 30) (if (gA σ 49 (Int32.toNatClampNeg a0)) = a1 then gd (inb a0 30) (if (gA σ 50 (Int32.toNatClampNeg a0)) = a2 then gd (inb a0 30) (ob (FX2_forceOf σ (gA σ 51 (Int32.toNatClampNeg a0))) (fun r9 => ob (FX7_isSo σ r9 a3) (fun r11 => if r11 = 0 then some (0 : Int32)
    else some (1 : Int32))))
    else some (0 : Int32))
    else some (0 : Int32))
set_option maxRecDepth 100000 in
set_option maxHeartbeats 4000000 in
theorem c_X2_isInForce {σ : SS} {a0 : Int32} {a1 : Int32} {a2 : Int32} {a3 : Int32} {r : Int32} (hf : FX2_isInForce σ a0 a1 a2 a3 = some r) : Mcw wsX yX2_isInForce cX2_isInForce 5 (some .boolean) ({ frames := 1, cells := 0, slots := 0, locals := 22 } : Room) (fun g => [.ref (g.2.1 28), .int a0, .int a1, .int a2, .int a3]) σ (fun g => some (.int r)) σ := by
  refine w_enter wsX_fix (by decide) (fun g => Nat.le_of_ble_eq_true rfl) ?_
  intro X g hX
  replace hX : Okw wsX X g cX2_isInForce 5 RX2 (some .boolean) ({ frames := 1, cells := 0, slots := 0, locals := 22 } : Room) (fun g => some (.int r)) σ := hX
  have h0 := hX.1
  show Vx X g.1 5 (wsX g σ) 0 [(0, .ref (g.2.1 28)), (1, .int a0), (2, .int a1), (3, .int a2), (4, .int a3)] []
  rw [FX2_isInForce] at hf
  refine vx_aload_n h0 dX2_isInForce_0 rfl ?_
  refine xg_28_0 hX q247 dX2_isInForce_1 ?_
  refine xg_14_9 hX q135 dX2_isInForce_4 ?_
  refine vx_iload_n h0 dX2_isInForce_7 rfl ?_
  obtain ⟨b1, hf⟩ := gd_some hf
  refine xl_21 hX b1 dX2_isInForce_8 ?_
  refine vx_iload_n h0 dX2_isInForce_9 rfl ?_
  refine vx_icmp_ne (tgt := 51) h0 dX2_isInForce_10 (by decide) (fun c2 => ?_) (fun c2 => ?_)
  · replace hf := (if_neg c2).symm.trans hf
    refine vx_iconst (v := (0 : Int32)) h0 dX2_isInForce_51 (by decide) ?_
    exact w_zretP hX hf rfl dX2_isInForce_52
  · replace hf := (if_pos c2).symm.trans hf
    refine vx_aload_n h0 dX2_isInForce_13 rfl ?_
    refine xg_28_0 hX q247 dX2_isInForce_14 ?_
    refine xg_14_10 hX q140 dX2_isInForce_17 ?_
    refine vx_iload_n h0 dX2_isInForce_20 rfl ?_
    obtain ⟨b4, hf⟩ := gd_some hf
    refine xl_22 hX b4 dX2_isInForce_21 ?_
    refine vx_iload_n h0 dX2_isInForce_22 rfl ?_
    refine vx_icmp_ne (tgt := 51) h0 dX2_isInForce_23 (by decide) (fun c5 => ?_) (fun c5 => ?_)
    · replace hf := (if_neg c5).symm.trans hf
      refine vx_iconst (v := (0 : Int32)) h0 dX2_isInForce_51 (by decide) ?_
      exact w_zretP hX hf rfl dX2_isInForce_52
    · replace hf := (if_pos c5).symm.trans hf
      refine vx_aload_n h0 dX2_isInForce_26 rfl ?_
      refine vx_aload_n h0 dX2_isInForce_27 rfl ?_
      refine xg_28_0 hX q247 dX2_isInForce_28 ?_
      refine xg_14_11 hX q145 dX2_isInForce_31 ?_
      refine vx_iload_n h0 dX2_isInForce_34 rfl ?_
      obtain ⟨b7, hf⟩ := gd_some hf
      refine xl_23 hX b7 dX2_isInForce_35 ?_
      obtain ⟨r9, h8, hf⟩ := ob_some hf
      refine w_callV (st := []) (ci := 2) (q0 := 28) hX (c_X2_forceOf h8) ce_X2_forceOf q447 ⟨rfl, rfl⟩ ⟨by decide, by decide⟩ rfl rfl rfl rfl (xo_28 g _) rfl (Nat.le_of_ble_eq_true rfl) dX2_isInForce_36 ?_
      show Vx X g.1 5 (wsX g σ) 39 [(0, .ref (g.2.1 28)), (1, .int a0), (2, .int a1), (3, .int a2), (4, .int a3)] [.long r9]
      refine vx_iload h0 dX2_isInForce_39 rfl ?_
      obtain ⟨r11, h10, hf⟩ := ob_some hf
      refine w_callSN (st := []) hX (c_X7_isSo h10) ce_X7_isSo q525 ⟨rfl, rfl⟩ ⟨by decide, by decide⟩ rfl rfl rfl (Nat.le_of_ble_eq_true rfl) dX2_isInForce_41 ?_
      show Vx X g.1 5 (wsX g σ) 44 [(0, .ref (g.2.1 28)), (1, .int a0), (2, .int a1), (3, .int a2), (4, .int a3)] [.int r11]
      refine vx_if_eq (tgt := 51) h0 dX2_isInForce_44 (by decide) (fun c12 => ?_) (fun c12 => ?_)
      · replace hf := (if_pos c12).symm.trans hf
        refine vx_iconst (v := (0 : Int32)) h0 dX2_isInForce_51 (by decide) ?_
        exact w_zretP hX hf rfl dX2_isInForce_52
      · replace hf := (if_neg c12).symm.trans hf
        refine vx_iconst (v := (1 : Int32)) h0 dX2_isInForce_47 (by decide) ?_
        refine vx_goto (tgt := 52) h0 dX2_isInForce_48 (by decide) ?_
        exact w_zretP hX hf rfl dX2_isInForce_52
def FX2_countParts_L6 (σ : SS) (v1 : Int32) (v2 : Int32) (v3 : Int32) (k : Int32 → Option (Int32)) : Nat → Int32 → Int32 → Option (Int32)
  | 0, _, _ => none
  | n + 1, v4, v5 => if (gI σ 41) ≤ v5 then k v4
    else ob (FX2_isInForce σ v5 v1 v2 v3) (fun r3 => if r3 = 0 then FX2_countParts_L6 σ v1 v2 v3 k n v4 (v5 + (1 : Int32))
    else FX2_countParts_L6 σ v1 v2 v3 k n (v4 + (1 : Int32)) (v5 + (1 : Int32)))
set_option maxRecDepth 100000 in
set_option maxHeartbeats 4000000 in
theorem PX2_countParts_L6 {X : Bx} {g : Gx} {r : Int32} {σ : SS} (hX : Okw wsX X g cX2_countParts 6 RX2 (some .int) ({ frames := 2, cells := 0, slots := 0, locals := 46 } : Room) (fun g => some (.int r)) σ) {v1 : Int32} {v2 : Int32} {v3 : Int32} {k : Int32 → Option (Int32)} (hk : ∀ (v4 : Int32), k v4 = some r → Vx X g.1 6 (wsX g σ) 39 [(4, .int v4)] []) : ∀ (n : Nat) (v4 : Int32) (v5 : Int32), FX2_countParts_L6 σ v1 v2 v3 k n v4 v5 = some r → Vx X g.1 6 (wsX g σ) 6 [(0, .ref (g.2.1 28)), (1, .int v1), (2, .int v2), (3, .int v3), (4, .int v4), (5, .int v5)] [] := by
  have h0 := hX.1
  intro n
  induction n with
  | zero =>
    intro v4 v5 hf
    rw [FX2_countParts_L6] at hf
    cases hf
  | succ n ih =>
    intro v4 v5 hf
    rw [FX2_countParts_L6] at hf
    refine vx_iload h0 dX2_countParts_6 rfl ?_
    refine vx_aload_n h0 dX2_countParts_8 rfl ?_
    refine xg_28_0 hX q247 dX2_countParts_9 ?_
    refine xg_14_1 hX q108 dX2_countParts_12 ?_
    refine vx_icmp_ge (tgt := 39) h0 dX2_countParts_15 (by decide) (fun c1 => ?_) (fun c1 => ?_)
    · replace hf := (if_pos c1).symm.trans hf
      refine vx_sub [4] rfl ?_
      exact hk _ hf
    · replace hf := (if_neg c1).symm.trans hf
      refine vx_aload_n h0 dX2_countParts_18 rfl ?_
      refine vx_iload h0 dX2_countParts_19 rfl ?_
      refine vx_iload_n h0 dX2_countParts_21 rfl ?_
      refine vx_iload_n h0 dX2_countParts_22 rfl ?_
      refine vx_iload_n h0 dX2_countParts_23 rfl ?_
      obtain ⟨r3, h2, hf⟩ := ob_some hf
      refine w_callV (st := []) (ci := 2) (q0 := 28) hX (c_X2_isInForce h2) ce_X2_isInForce q686 ⟨rfl, rfl⟩ ⟨by decide, by decide⟩ rfl rfl rfl rfl (xo_28 g _) rfl (Nat.le_of_ble_eq_true rfl) dX2_countParts_24 ?_
      show Vx X g.1 6 (wsX g σ) 27 [(0, .ref (g.2.1 28)), (1, .int v1), (2, .int v2), (3, .int v3), (4, .int v4), (5, .int v5)] [.int r3]
      refine vx_if_eq (tgt := 33) h0 dX2_countParts_27 (by decide) (fun c4 => ?_) (fun c4 => ?_)
      · replace hf := (if_pos c4).symm.trans hf
        refine vx_iinc (q := 5) (v := (v5 + (1 : Int32))) (ls' := [(5, .int (v5 + (1 : Int32))), (0, .ref (g.2.1 28)), (1, .int v1), (2, .int v2), (3, .int v3), (4, .int v4)]) h0 dX2_countParts_33 rfl rfl (by decide) rfl ?_
        refine vx_goto (tgt := 6) h0 dX2_countParts_36 (by decide) ?_
        refine vx_sub [1, 2, 3, 4, 5, 0] rfl ?_
        exact ih _ _ hf
      · replace hf := (if_neg c4).symm.trans hf
        refine vx_iinc (q := 4) (v := (v4 + (1 : Int32))) (ls' := [(4, .int (v4 + (1 : Int32))), (0, .ref (g.2.1 28)), (1, .int v1), (2, .int v2), (3, .int v3), (5, .int v5)]) h0 dX2_countParts_30 rfl rfl (by decide) rfl ?_
        refine vx_iinc (q := 5) (v := (v5 + (1 : Int32))) (ls' := [(5, .int (v5 + (1 : Int32))), (4, .int (v4 + (1 : Int32))), (0, .ref (g.2.1 28)), (1, .int v1), (2, .int v2), (3, .int v3)]) h0 dX2_countParts_33 rfl rfl (by decide) rfl ?_
        refine vx_goto (tgt := 6) h0 dX2_countParts_36 (by decide) ?_
        refine vx_sub [2, 3, 4, 5, 1, 0] rfl ?_
        exact ih _ _ hf
def FX2_countParts (σ : SS) (a0 : Int32) (a1 : Int32) (a2 : Int32) : Option (Int32) :=
  FX2_countParts_L6 σ a0 a1 a2 (fun u5 => some u5) 5000 (0 : Int32) (0 : Int32)
set_option maxRecDepth 100000 in
set_option maxHeartbeats 4000000 in
theorem c_X2_countParts {σ : SS} {a0 : Int32} {a1 : Int32} {a2 : Int32} {r : Int32} (hf : FX2_countParts σ a0 a1 a2 = some r) : Mcw wsX yX2_countParts cX2_countParts 6 (some .int) ({ frames := 2, cells := 0, slots := 0, locals := 46 } : Room) (fun g => [.ref (g.2.1 28), .int a0, .int a1, .int a2]) σ (fun g => some (.int r)) σ := by
  refine w_enter wsX_fix (by decide) (fun g => Nat.le_of_ble_eq_true rfl) ?_
  intro X g hX
  replace hX : Okw wsX X g cX2_countParts 6 RX2 (some .int) ({ frames := 2, cells := 0, slots := 0, locals := 46 } : Room) (fun g => some (.int r)) σ := hX
  have h0 := hX.1
  show Vx X g.1 6 (wsX g σ) 0 [(0, .ref (g.2.1 28)), (1, .int a0), (2, .int a1), (3, .int a2)] []
  rw [FX2_countParts] at hf
  refine vx_iconst (v := (0 : Int32)) h0 dX2_countParts_0 (by decide) ?_
  refine vx_istore (ls' := [(4, .int (0 : Int32)), (0, .ref (g.2.1 28)), (1, .int a0), (2, .int a1), (3, .int a2)]) h0 dX2_countParts_1 (by decide) rfl ?_
  refine vx_iconst (v := (0 : Int32)) h0 dX2_countParts_3 (by decide) ?_
  refine vx_istore (ls' := [(5, .int (0 : Int32)), (4, .int (0 : Int32)), (0, .ref (g.2.1 28)), (1, .int a0), (2, .int a1), (3, .int a2)]) h0 dX2_countParts_4 (by decide) rfl ?_
  refine vx_sub [2, 3, 4, 5, 1, 0] rfl ?_
  refine PX2_countParts_L6 hX (fun u5 hf => ?_) _ _ _ hf
  refine vx_iload h0 dX2_countParts_39 rfl ?_
  exact w_iretP hX hf dX2_countParts_41
def FX2_firstDefinition_L2 (σ : SS) (v1 : Int32) (v2 : Int32) (k : Option (Int32)) : Nat → Int32 → Option (Int32)
  | 0, _ => none
  | n + 1, v3 => if (gI σ 41) ≤ v3 then k
    else ob (FX2_isInForce σ v3 (0 : Int32) v1 v2) (fun r3 => if r3 = 0 then FX2_firstDefinition_L2 σ v1 v2 k n (v3 + (1 : Int32))
    else some v3)
set_option maxRecDepth 100000 in
set_option maxHeartbeats 4000000 in
theorem PX2_firstDefinition_L2 {X : Bx} {g : Gx} {r : Int32} {σ : SS} (hX : Okw wsX X g cX2_firstDefinition 4 RX2 (some .int) ({ frames := 2, cells := 0, slots := 0, locals := 46 } : Room) (fun g => some (.int r)) σ) {v1 : Int32} {v2 : Int32} {k : Option (Int32)} (hk : k = some r → Vx X g.1 4 (wsX g σ) 32 [] []) : ∀ (n : Nat) (v3 : Int32), FX2_firstDefinition_L2 σ v1 v2 k n v3 = some r → Vx X g.1 4 (wsX g σ) 2 [(0, .ref (g.2.1 28)), (1, .int v1), (2, .int v2), (3, .int v3)] [] := by
  have h0 := hX.1
  intro n
  induction n with
  | zero =>
    intro v3 hf
    rw [FX2_firstDefinition_L2] at hf
    cases hf
  | succ n ih =>
    intro v3 hf
    rw [FX2_firstDefinition_L2] at hf
    refine vx_iload_n h0 dX2_firstDefinition_2 rfl ?_
    refine vx_aload_n h0 dX2_firstDefinition_3 rfl ?_
    refine xg_28_0 hX q247 dX2_firstDefinition_4 ?_
    refine xg_14_1 hX q108 dX2_firstDefinition_7 ?_
    refine vx_icmp_ge (tgt := 32) h0 dX2_firstDefinition_10 (by decide) (fun c1 => ?_) (fun c1 => ?_)
    · replace hf := (if_pos c1).symm.trans hf
      refine vx_sub [] rfl ?_
      exact hk hf
    · replace hf := (if_neg c1).symm.trans hf
      refine vx_aload_n h0 dX2_firstDefinition_13 rfl ?_
      refine vx_iload_n h0 dX2_firstDefinition_14 rfl ?_
      refine vx_iconst (v := (0 : Int32)) h0 dX2_firstDefinition_15 (by decide) ?_
      refine vx_iload_n h0 dX2_firstDefinition_16 rfl ?_
      refine vx_iload_n h0 dX2_firstDefinition_17 rfl ?_
      obtain ⟨r3, h2, hf⟩ := ob_some hf
      refine w_callV (st := []) (ci := 2) (q0 := 28) hX (c_X2_isInForce h2) ce_X2_isInForce q686 ⟨rfl, rfl⟩ ⟨by decide, by decide⟩ rfl rfl rfl rfl (xo_28 g _) rfl (Nat.le_of_ble_eq_true rfl) dX2_firstDefinition_18 ?_
      show Vx X g.1 4 (wsX g σ) 21 [(0, .ref (g.2.1 28)), (1, .int v1), (2, .int v2), (3, .int v3)] [.int r3]
      refine vx_if_eq (tgt := 26) h0 dX2_firstDefinition_21 (by decide) (fun c4 => ?_) (fun c4 => ?_)
      · replace hf := (if_pos c4).symm.trans hf
        refine vx_iinc (q := 3) (v := (v3 + (1 : Int32))) (ls' := [(3, .int (v3 + (1 : Int32))), (0, .ref (g.2.1 28)), (1, .int v1), (2, .int v2)]) h0 dX2_firstDefinition_26 rfl rfl (by decide) rfl ?_
        refine vx_goto (tgt := 2) h0 dX2_firstDefinition_29 (by decide) ?_
        refine vx_sub [1, 2, 3, 0] rfl ?_
        exact ih _ hf
      · replace hf := (if_neg c4).symm.trans hf
        refine vx_iload_n h0 dX2_firstDefinition_24 rfl ?_
        exact w_iretP hX hf dX2_firstDefinition_25
def FX2_firstDefinition (σ : SS) (a0 : Int32) (a1 : Int32) : Option (Int32) :=
  FX2_firstDefinition_L2 σ a0 a1 (some (-1 : Int32)) 5000 (0 : Int32)
set_option maxRecDepth 100000 in
set_option maxHeartbeats 4000000 in
theorem c_X2_firstDefinition {σ : SS} {a0 : Int32} {a1 : Int32} {r : Int32} (hf : FX2_firstDefinition σ a0 a1 = some r) : Mcw wsX yX2_firstDefinition cX2_firstDefinition 4 (some .int) ({ frames := 2, cells := 0, slots := 0, locals := 46 } : Room) (fun g => [.ref (g.2.1 28), .int a0, .int a1]) σ (fun g => some (.int r)) σ := by
  refine w_enter wsX_fix (by decide) (fun g => Nat.le_of_ble_eq_true rfl) ?_
  intro X g hX
  replace hX : Okw wsX X g cX2_firstDefinition 4 RX2 (some .int) ({ frames := 2, cells := 0, slots := 0, locals := 46 } : Room) (fun g => some (.int r)) σ := hX
  have h0 := hX.1
  show Vx X g.1 4 (wsX g σ) 0 [(0, .ref (g.2.1 28)), (1, .int a0), (2, .int a1)] []
  rw [FX2_firstDefinition] at hf
  refine vx_iconst (v := (0 : Int32)) h0 dX2_firstDefinition_0 (by decide) ?_
  refine vx_istore_n (ls' := [(3, .int (0 : Int32)), (0, .ref (g.2.1 28)), (1, .int a0), (2, .int a1)]) h0 dX2_firstDefinition_1 (by decide) rfl ?_
  refine vx_sub [1, 2, 3, 0] rfl ?_
  refine PX2_firstDefinition_L2 hX (fun hf => ?_) _ _ hf
  refine vx_iconst (v := (-1 : Int32)) h0 dX2_firstDefinition_32 (by decide) ?_
  exact w_iretP hX hf dX2_firstDefinition_33
def FX2_countIdle_L4 (σ : SS) (v1 : Int32) (k : Int32 → Option (Int32)) : Nat → Int32 → Int32 → Option (Int32)
  | 0, _, _ => none
  | n + 1, v2, v3 => if (8 : Int32) ≤ v3 then k v2
    else ob (FX2_countParts σ (0 : Int32) v3 v1) (fun r3 => if r3 ≤ 0 then FX2_countIdle_L4 σ v1 k n v2 (v3 + (1 : Int32))
    else ob (FX2_countParts σ (1 : Int32) v3 v1) (fun r6 => if r6 = 0 then FX2_countIdle_L4 σ v1 k n (v2 + (1 : Int32)) (v3 + (1 : Int32))
    else FX2_countIdle_L4 σ v1 k n v2 (v3 + (1 : Int32))))
set_option maxRecDepth 100000 in
set_option maxHeartbeats 4000000 in
theorem PX2_countIdle_L4 {X : Bx} {g : Gx} {r : Int32} {σ : SS} (hX : Okw wsX X g cX2_countIdle 4 RX2 (some .int) ({ frames := 3, cells := 0, slots := 0, locals := 71 } : Room) (fun g => some (.int r)) σ) {v1 : Int32} {k : Int32 → Option (Int32)} (hk : ∀ (v2 : Int32), k v2 = some r → Vx X g.1 4 (wsX g σ) 39 [(2, .int v2)] []) : ∀ (n : Nat) (v2 : Int32) (v3 : Int32), FX2_countIdle_L4 σ v1 k n v2 v3 = some r → Vx X g.1 4 (wsX g σ) 4 [(0, .ref (g.2.1 28)), (1, .int v1), (2, .int v2), (3, .int v3)] [] := by
  have h0 := hX.1
  intro n
  induction n with
  | zero =>
    intro v2 v3 hf
    rw [FX2_countIdle_L4] at hf
    cases hf
  | succ n ih =>
    intro v2 v3 hf
    rw [FX2_countIdle_L4] at hf
    refine vx_iload_n h0 dX2_countIdle_4 rfl ?_
    refine vx_bipush (v := (8 : Int32)) h0 dX2_countIdle_5 (by decide) ?_
    refine vx_icmp_ge (tgt := 39) h0 dX2_countIdle_7 (by decide) (fun c1 => ?_) (fun c1 => ?_)
    · replace hf := (if_pos c1).symm.trans hf
      refine vx_sub [2] rfl ?_
      exact hk _ hf
    · replace hf := (if_neg c1).symm.trans hf
      refine vx_aload_n h0 dX2_countIdle_10 rfl ?_
      refine vx_iconst (v := (0 : Int32)) h0 dX2_countIdle_11 (by decide) ?_
      refine vx_iload_n h0 dX2_countIdle_12 rfl ?_
      refine vx_iload_n h0 dX2_countIdle_13 rfl ?_
      obtain ⟨r3, h2, hf⟩ := ob_some hf
      refine w_callV (st := []) (ci := 2) (q0 := 28) hX (c_X2_countParts h2) ce_X2_countParts q682 ⟨rfl, rfl⟩ ⟨by decide, by decide⟩ rfl rfl rfl rfl (xo_28 g _) rfl (Nat.le_of_ble_eq_true rfl) dX2_countIdle_14 ?_
      show Vx X g.1 4 (wsX g σ) 17 [(0, .ref (g.2.1 28)), (1, .int v1), (2, .int v2), (3, .int v3)] [.int r3]
      refine vx_if_le (tgt := 33) h0 dX2_countIdle_17 (by decide) (fun c4 => ?_) (fun c4 => ?_)
      · replace hf := (if_pos c4).symm.trans hf
        refine vx_iinc (q := 3) (v := (v3 + (1 : Int32))) (ls' := [(3, .int (v3 + (1 : Int32))), (0, .ref (g.2.1 28)), (1, .int v1), (2, .int v2)]) h0 dX2_countIdle_33 rfl rfl (by decide) rfl ?_
        refine vx_goto (tgt := 4) h0 dX2_countIdle_36 (by decide) ?_
        refine vx_sub [1, 2, 3, 0] rfl ?_
        exact ih _ _ hf
      · replace hf := (if_neg c4).symm.trans hf
        refine vx_aload_n h0 dX2_countIdle_20 rfl ?_
        refine vx_iconst (v := (1 : Int32)) h0 dX2_countIdle_21 (by decide) ?_
        refine vx_iload_n h0 dX2_countIdle_22 rfl ?_
        refine vx_iload_n h0 dX2_countIdle_23 rfl ?_
        obtain ⟨r6, h5, hf⟩ := ob_some hf
        refine w_callV (st := []) (ci := 2) (q0 := 28) hX (c_X2_countParts h5) ce_X2_countParts q682 ⟨rfl, rfl⟩ ⟨by decide, by decide⟩ rfl rfl rfl rfl (xo_28 g _) rfl (Nat.le_of_ble_eq_true rfl) dX2_countIdle_24 ?_
        show Vx X g.1 4 (wsX g σ) 27 [(0, .ref (g.2.1 28)), (1, .int v1), (2, .int v2), (3, .int v3)] [.int r6]
        refine vx_if_ne (tgt := 33) h0 dX2_countIdle_27 (by decide) (fun c7 => ?_) (fun c7 => ?_)
        · replace hf := (if_neg c7).symm.trans hf
          refine vx_iinc (q := 3) (v := (v3 + (1 : Int32))) (ls' := [(3, .int (v3 + (1 : Int32))), (0, .ref (g.2.1 28)), (1, .int v1), (2, .int v2)]) h0 dX2_countIdle_33 rfl rfl (by decide) rfl ?_
          refine vx_goto (tgt := 4) h0 dX2_countIdle_36 (by decide) ?_
          refine vx_sub [1, 2, 3, 0] rfl ?_
          exact ih _ _ hf
        · replace hf := (if_pos c7).symm.trans hf
          refine vx_iinc (q := 2) (v := (v2 + (1 : Int32))) (ls' := [(2, .int (v2 + (1 : Int32))), (0, .ref (g.2.1 28)), (1, .int v1), (3, .int v3)]) h0 dX2_countIdle_30 rfl rfl (by decide) rfl ?_
          refine vx_iinc (q := 3) (v := (v3 + (1 : Int32))) (ls' := [(3, .int (v3 + (1 : Int32))), (2, .int (v2 + (1 : Int32))), (0, .ref (g.2.1 28)), (1, .int v1)]) h0 dX2_countIdle_33 rfl rfl (by decide) rfl ?_
          refine vx_goto (tgt := 4) h0 dX2_countIdle_36 (by decide) ?_
          refine vx_sub [2, 3, 1, 0] rfl ?_
          exact ih _ _ hf
def FX2_countIdle (σ : SS) (a0 : Int32) : Option (Int32) :=
  FX2_countIdle_L4 σ a0 (fun u8 => some u8) 5000 (0 : Int32) (0 : Int32)
set_option maxRecDepth 100000 in
set_option maxHeartbeats 4000000 in
theorem c_X2_countIdle {σ : SS} {a0 : Int32} {r : Int32} (hf : FX2_countIdle σ a0 = some r) : Mcw wsX yX2_countIdle cX2_countIdle 4 (some .int) ({ frames := 3, cells := 0, slots := 0, locals := 71 } : Room) (fun g => [.ref (g.2.1 28), .int a0]) σ (fun g => some (.int r)) σ := by
  refine w_enter wsX_fix (by decide) (fun g => Nat.le_of_ble_eq_true rfl) ?_
  intro X g hX
  replace hX : Okw wsX X g cX2_countIdle 4 RX2 (some .int) ({ frames := 3, cells := 0, slots := 0, locals := 71 } : Room) (fun g => some (.int r)) σ := hX
  have h0 := hX.1
  show Vx X g.1 4 (wsX g σ) 0 [(0, .ref (g.2.1 28)), (1, .int a0)] []
  rw [FX2_countIdle] at hf
  refine vx_iconst (v := (0 : Int32)) h0 dX2_countIdle_0 (by decide) ?_
  refine vx_istore_n (ls' := [(2, .int (0 : Int32)), (0, .ref (g.2.1 28)), (1, .int a0)]) h0 dX2_countIdle_1 (by decide) rfl ?_
  refine vx_iconst (v := (0 : Int32)) h0 dX2_countIdle_2 (by decide) ?_
  refine vx_istore_n (ls' := [(3, .int (0 : Int32)), (2, .int (0 : Int32)), (0, .ref (g.2.1 28)), (1, .int a0)]) h0 dX2_countIdle_3 (by decide) rfl ?_
  refine vx_sub [2, 3, 1, 0] rfl ?_
  refine PX2_countIdle_L4 hX (fun u8 hf => ?_) _ _ _ hf
  refine vx_iload_n h0 dX2_countIdle_39 rfl ?_
  exact w_iretP hX hf dX2_countIdle_40
