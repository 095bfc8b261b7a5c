/-! printed by wip/whole/gen.py: decode rows, functions, contracts -/
theorem dX3_possible_0 : decode cX3_possible 0 = .ok (.aload_n 0, 1) := by decide +kernel
theorem dX3_possible_1 : decode cX3_possible 1 = .ok (.getfield 19, 3) := by decide +kernel
theorem dX3_possible_4 : decode cX3_possible 4 = .ok (.getfield 23, 3) := by decide +kernel
theorem dX3_possible_7 : decode cX3_possible 7 = .ok (.aload_n 0, 1) := by decide +kernel
theorem dX3_possible_8 : decode cX3_possible 8 = .ok (.getfield 19, 3) := by decide +kernel
theorem dX3_possible_11 : decode cX3_possible 11 = .ok (.getfield 29, 3) := by decide +kernel
theorem dX3_possible_14 : decode cX3_possible 14 = .ok (.invokestatic 32, 3) := by decide +kernel
theorem dX3_possible_17 : decode cX3_possible 17 = .ok (.lreturn, 1) := by decide +kernel
theorem dX3_suretyAmong_0 : decode cX3_suretyAmong 0 = .ok (.aload_n 0, 1) := by decide +kernel
theorem dX3_suretyAmong_1 : decode cX3_suretyAmong 1 = .ok (.getfield 15, 3) := by decide +kernel
theorem dX3_suretyAmong_4 : decode cX3_suretyAmong 4 = .ok (.iload_n 1, 1) := by decide +kernel
theorem dX3_suretyAmong_5 : decode cX3_suretyAmong 5 = .ok (.invokevirtual 56, 3) := by decide +kernel
theorem dX3_suretyAmong_8 : decode cX3_suretyAmong 8 = .ok (.lload_n 2, 1) := by decide +kernel
theorem dX3_suretyAmong_9 : decode cX3_suretyAmong 9 = .ok (.land, 1) := by decide +kernel
theorem dX3_suretyAmong_10 : decode cX3_suretyAmong 10 = .ok (.lstore 4, 2) := by decide +kernel
theorem dX3_suretyAmong_12 : decode cX3_suretyAmong 12 = .ok (.lload 4, 2) := by decide +kernel
theorem dX3_suretyAmong_14 : decode cX3_suretyAmong 14 = .ok (.lconst 0, 1) := by decide +kernel
theorem dX3_suretyAmong_15 : decode cX3_suretyAmong 15 = .ok (.lcmp, 1) := by decide +kernel
theorem dX3_suretyAmong_16 : decode cX3_suretyAmong 16 = .ok (.ifCond .ne 5, 3) := by decide +kernel
theorem dX3_suretyAmong_19 : decode cX3_suretyAmong 19 = .ok (.iconst 0, 1) := by decide +kernel
theorem dX3_suretyAmong_20 : decode cX3_suretyAmong 20 = .ok (.ireturn, 1) := by decide +kernel
theorem dX3_suretyAmong_21 : decode cX3_suretyAmong 21 = .ok (.lload 4, 2) := by decide +kernel
theorem dX3_suretyAmong_23 : decode cX3_suretyAmong 23 = .ok (.lload_n 2, 1) := by decide +kernel
theorem dX3_suretyAmong_24 : decode cX3_suretyAmong 24 = .ok (.lcmp, 1) := by decide +kernel
theorem dX3_suretyAmong_25 : decode cX3_suretyAmong 25 = .ok (.ifCond .ne 7, 3) := by decide +kernel
theorem dX3_suretyAmong_28 : decode cX3_suretyAmong 28 = .ok (.iconst 2, 1) := by decide +kernel
theorem dX3_suretyAmong_29 : decode cX3_suretyAmong 29 = .ok (.goto 4, 3) := by decide +kernel
theorem dX3_suretyAmong_32 : decode cX3_suretyAmong 32 = .ok (.iconst 1, 1) := by decide +kernel
theorem dX3_suretyAmong_33 : decode cX3_suretyAmong 33 = .ok (.ireturn, 1) := by decide +kernel
theorem dX3_surety_0 : decode cX3_surety 0 = .ok (.aload_n 0, 1) := by decide +kernel
theorem dX3_surety_1 : decode cX3_surety 1 = .ok (.iload_n 1, 1) := by decide +kernel
theorem dX3_surety_2 : decode cX3_surety 2 = .ok (.aload_n 0, 1) := by decide +kernel
theorem dX3_surety_3 : decode cX3_surety 3 = .ok (.invokevirtual 48, 3) := by decide +kernel
theorem dX3_surety_6 : decode cX3_surety 6 = .ok (.invokevirtual 52, 3) := by decide +kernel
theorem dX3_surety_9 : decode cX3_surety 9 = .ok (.ireturn, 1) := by decide +kernel
theorem dX3_clausesOf_0 : decode cX3_clausesOf 0 = .ok (.iconst 0, 1) := by decide +kernel
theorem dX3_clausesOf_1 : decode cX3_clausesOf 1 = .ok (.istore_n 2, 1) := by decide +kernel
theorem dX3_clausesOf_2 : decode cX3_clausesOf 2 = .ok (.iconst 0, 1) := by decide +kernel
theorem dX3_clausesOf_3 : decode cX3_clausesOf 3 = .ok (.istore_n 3, 1) := by decide +kernel
theorem dX3_clausesOf_4 : decode cX3_clausesOf 4 = .ok (.iload_n 3, 1) := by decide +kernel
theorem dX3_clausesOf_5 : decode cX3_clausesOf 5 = .ok (.aload_n 0, 1) := by decide +kernel
theorem dX3_clausesOf_6 : decode cX3_clausesOf 6 = .ok (.getfield 9, 3) := by decide +kernel
theorem dX3_clausesOf_9 : decode cX3_clausesOf 9 = .ok (.getfield 40, 3) := by decide +kernel
theorem dX3_clausesOf_12 : decode cX3_clausesOf 12 = .ok (.if_icmp .ge 24, 3) := by decide +kernel
theorem dX3_clausesOf_15 : decode cX3_clausesOf 15 = .ok (.aload_n 0, 1) := by decide +kernel
theorem dX3_clausesOf_16 : decode cX3_clausesOf 16 = .ok (.iload_n 3, 1) := by decide +kernel
theorem dX3_clausesOf_17 : decode cX3_clausesOf 17 = .ok (.invokevirtual 45, 3) := by decide +kernel
theorem dX3_clausesOf_20 : decode cX3_clausesOf 20 = .ok (.iload_n 1, 1) := by decide +kernel
theorem dX3_clausesOf_21 : decode cX3_clausesOf 21 = .ok (.if_icmp .ne 9, 3) := by decide +kernel
theorem dX3_clausesOf_24 : decode cX3_clausesOf 24 = .ok (.iload_n 2, 1) := by decide +kernel
theorem dX3_clausesOf_25 : decode cX3_clausesOf 25 = .ok (.iconst 1, 1) := by decide +kernel
theorem dX3_clausesOf_26 : decode cX3_clausesOf 26 = .ok (.iload_n 3, 1) := by decide +kernel
theorem dX3_clausesOf_27 : decode cX3_clausesOf 27 = .ok (.ishl, 1) := by decide +kernel
theorem dX3_clausesOf_28 : decode cX3_clausesOf 28 = .ok (.ior, 1) := by decide +kernel
theorem dX3_clausesOf_29 : decode cX3_clausesOf 29 = .ok (.istore_n 2, 1) := by decide +kernel
theorem dX3_clausesOf_30 : decode cX3_clausesOf 30 = .ok (.iinc 3 1, 3) := by decide +kernel
theorem dX3_clausesOf_33 : decode cX3_clausesOf 33 = .ok (.goto (-29), 3) := by decide +kernel
theorem dX3_clausesOf_36 : decode cX3_clausesOf 36 = .ok (.iload_n 2, 1) := by decide +kernel
theorem dX3_clausesOf_37 : decode cX3_clausesOf 37 = .ok (.ireturn, 1) := by decide +kernel
theorem dX3_sure_0 : decode cX3_sure 0 = .ok (.aload_n 0, 1) := by decide +kernel
theorem dX3_sure_1 : decode cX3_sure 1 = .ok (.iconst 2, 1) := by decide +kernel
theorem dX3_sure_2 : decode cX3_sure 2 = .ok (.invokevirtual 36, 3) := by decide +kernel
theorem dX3_sure_5 : decode cX3_sure 5 = .ok (.ireturn, 1) := by decide +kernel
theorem dX3_open_0 : decode cX3_open 0 = .ok (.aload_n 0, 1) := by decide +kernel
theorem dX3_open_1 : decode cX3_open 1 = .ok (.iconst 1, 1) := by decide +kernel
theorem dX3_open_2 : decode cX3_open 2 = .ok (.invokevirtual 36, 3) := by decide +kernel
theorem dX3_open_5 : decode cX3_open 5 = .ok (.ireturn, 1) := by decide +kernel
theorem dX3_never_0 : decode cX3_never 0 = .ok (.aload_n 0, 1) := by decide +kernel
theorem dX3_never_1 : decode cX3_never 1 = .ok (.iconst 0, 1) := by decide +kernel
theorem dX3_never_2 : decode cX3_never 2 = .ok (.invokevirtual 36, 3) := by decide +kernel
theorem dX3_never_5 : decode cX3_never 5 = .ok (.ireturn, 1) := by decide +kernel
theorem dJ13_bitCount_95d88_0 : decode cJ13_bitCount_95d88 0 = .ok (.lload_n 0, 1) := by decide +kernel
theorem dJ13_bitCount_95d88_1 : decode cJ13_bitCount_95d88 1 = .ok (.lload_n 0, 1) := by decide +kernel
theorem dJ13_bitCount_95d88_2 : decode cJ13_bitCount_95d88 2 = .ok (.iconst 1, 1) := by decide +kernel
theorem dJ13_bitCount_95d88_3 : decode cJ13_bitCount_95d88 3 = .ok (.lushr, 1) := by decide +kernel
theorem dJ13_bitCount_95d88_4 : decode cJ13_bitCount_95d88 4 = .ok (.ldc2_w 314, 3) := by decide +kernel
theorem dJ13_bitCount_95d88_7 : decode cJ13_bitCount_95d88 7 = .ok (.land, 1) := by decide +kernel
theorem dJ13_bitCount_95d88_8 : decode cJ13_bitCount_95d88 8 = .ok (.lsub, 1) := by decide +kernel
theorem dJ13_bitCount_95d88_9 : decode cJ13_bitCount_95d88 9 = .ok (.lstore_n 0, 1) := by decide +kernel
theorem dJ13_bitCount_95d88_10 : decode cJ13_bitCount_95d88 10 = .ok (.lload_n 0, 1) := by decide +kernel
theorem dJ13_bitCount_95d88_11 : decode cJ13_bitCount_95d88 11 = .ok (.ldc2_w 316, 3) := by decide +kernel
theorem dJ13_bitCount_95d88_14 : decode cJ13_bitCount_95d88 14 = .ok (.land, 1) := by decide +kernel
theorem dJ13_bitCount_95d88_15 : decode cJ13_bitCount_95d88 15 = .ok (.lload_n 0, 1) := by decide +kernel
theorem dJ13_bitCount_95d88_16 : decode cJ13_bitCount_95d88 16 = .ok (.iconst 2, 1) := by decide +kernel
theorem dJ13_bitCount_95d88_17 : decode cJ13_bitCount_95d88 17 = .ok (.lushr, 1) := by decide +kernel
theorem dJ13_bitCount_95d88_18 : decode cJ13_bitCount_95d88 18 = .ok (.ldc2_w 316, 3) := by decide +kernel
theorem dJ13_bitCount_95d88_21 : decode cJ13_bitCount_95d88 21 = .ok (.land, 1) := by decide +kernel
theorem dJ13_bitCount_95d88_22 : decode cJ13_bitCount_95d88 22 = .ok (.ladd, 1) := by decide +kernel
theorem dJ13_bitCount_95d88_23 : decode cJ13_bitCount_95d88 23 = .ok (.lstore_n 0, 1) := by decide +kernel
theorem dJ13_bitCount_95d88_24 : decode cJ13_bitCount_95d88 24 = .ok (.lload_n 0, 1) := by decide +kernel
theorem dJ13_bitCount_95d88_25 : decode cJ13_bitCount_95d88 25 = .ok (.lload_n 0, 1) := by decide +kernel
theorem dJ13_bitCount_95d88_26 : decode cJ13_bitCount_95d88 26 = .ok (.iconst 4, 1) := by decide +kernel
theorem dJ13_bitCount_95d88_27 : decode cJ13_bitCount_95d88 27 = .ok (.lushr, 1) := by decide +kernel
theorem dJ13_bitCount_95d88_28 : decode cJ13_bitCount_95d88 28 = .ok (.ladd, 1) := by decide +kernel
theorem dJ13_bitCount_95d88_29 : decode cJ13_bitCount_95d88 29 = .ok (.ldc2_w 318, 3) := by decide +kernel
theorem dJ13_bitCount_95d88_32 : decode cJ13_bitCount_95d88 32 = .ok (.land, 1) := by decide +kernel
theorem dJ13_bitCount_95d88_33 : decode cJ13_bitCount_95d88 33 = .ok (.lstore_n 0, 1) := by decide +kernel
theorem dJ13_bitCount_95d88_34 : decode cJ13_bitCount_95d88 34 = .ok (.lload_n 0, 1) := by decide +kernel
theorem dJ13_bitCount_95d88_35 : decode cJ13_bitCount_95d88 35 = .ok (.lload_n 0, 1) := by decide +kernel
theorem dJ13_bitCount_95d88_36 : decode cJ13_bitCount_95d88 36 = .ok (.bipush 8, 2) := by decide +kernel
theorem dJ13_bitCount_95d88_38 : decode cJ13_bitCount_95d88 38 = .ok (.lushr, 1) := by decide +kernel
theorem dJ13_bitCount_95d88_39 : decode cJ13_bitCount_95d88 39 = .ok (.ladd, 1) := by decide +kernel
theorem dJ13_bitCount_95d88_40 : decode cJ13_bitCount_95d88 40 = .ok (.lstore_n 0, 1) := by decide +kernel
theorem dJ13_bitCount_95d88_41 : decode cJ13_bitCount_95d88 41 = .ok (.lload_n 0, 1) := by decide +kernel
theorem dJ13_bitCount_95d88_42 : decode cJ13_bitCount_95d88 42 = .ok (.lload_n 0, 1) := by decide +kernel
theorem dJ13_bitCount_95d88_43 : decode cJ13_bitCount_95d88 43 = .ok (.bipush 16, 2) := by decide +kernel
theorem dJ13_bitCount_95d88_45 : decode cJ13_bitCount_95d88 45 = .ok (.lushr, 1) := by decide +kernel
theorem dJ13_bitCount_95d88_46 : decode cJ13_bitCount_95d88 46 = .ok (.ladd, 1) := by decide +kernel
theorem dJ13_bitCount_95d88_47 : decode cJ13_bitCount_95d88 47 = .ok (.lstore_n 0, 1) := by decide +kernel
theorem dJ13_bitCount_95d88_48 : decode cJ13_bitCount_95d88 48 = .ok (.lload_n 0, 1) := by decide +kernel
theorem dJ13_bitCount_95d88_49 : decode cJ13_bitCount_95d88 49 = .ok (.lload_n 0, 1) := by decide +kernel
theorem dJ13_bitCount_95d88_50 : decode cJ13_bitCount_95d88 50 = .ok (.bipush 32, 2) := by decide +kernel
theorem dJ13_bitCount_95d88_52 : decode cJ13_bitCount_95d88 52 = .ok (.lushr, 1) := by decide +kernel
theorem dJ13_bitCount_95d88_53 : decode cJ13_bitCount_95d88 53 = .ok (.ladd, 1) := by decide +kernel
theorem dJ13_bitCount_95d88_54 : decode cJ13_bitCount_95d88 54 = .ok (.lstore_n 0, 1) := by decide +kernel
theorem dJ13_bitCount_95d88_55 : decode cJ13_bitCount_95d88 55 = .ok (.lload_n 0, 1) := by decide +kernel
theorem dJ13_bitCount_95d88_56 : decode cJ13_bitCount_95d88 56 = .ok (.l2i, 1) := by decide +kernel
theorem dJ13_bitCount_95d88_57 : decode cJ13_bitCount_95d88 57 = .ok (.bipush 127, 2) := by decide +kernel
theorem dJ13_bitCount_95d88_59 : decode cJ13_bitCount_95d88 59 = .ok (.iand, 1) := by decide +kernel
theorem dJ13_bitCount_95d88_60 : decode cJ13_bitCount_95d88 60 = .ok (.ireturn, 1) := by decide +kernel
theorem dX3_brings_0 : decode cX3_brings 0 = .ok (.aload_n 0, 1) := by decide +kernel
theorem dX3_brings_1 : decode cX3_brings 1 = .ok (.getfield 15, 3) := by decide +kernel
theorem dX3_brings_4 : decode cX3_brings 4 = .ok (.iload_n 1, 1) := by decide +kernel
theorem dX3_brings_5 : decode cX3_brings 5 = .ok (.invokevirtual 56, 3) := by decide +kernel
theorem dX3_brings_8 : decode cX3_brings 8 = .ok (.aload_n 0, 1) := by decide +kernel
theorem dX3_brings_9 : decode cX3_brings 9 = .ok (.invokevirtual 48, 3) := by decide +kernel
theorem dX3_brings_12 : decode cX3_brings 12 = .ok (.land, 1) := by decide +kernel
theorem dX3_brings_13 : decode cX3_brings 13 = .ok (.invokestatic 62, 3) := by decide +kernel
theorem dX3_brings_16 : decode cX3_brings 16 = .ok (.ireturn, 1) := by decide +kernel
theorem dX3_ways_0 : decode cX3_ways 0 = .ok (.aload_n 0, 1) := by decide +kernel
theorem dX3_ways_1 : decode cX3_ways 1 = .ok (.getfield 15, 3) := by decide +kernel
theorem dX3_ways_4 : decode cX3_ways 4 = .ok (.invokevirtual 68, 3) := by decide +kernel
theorem dX3_ways_7 : decode cX3_ways 7 = .ok (.aload_n 0, 1) := by decide +kernel
theorem dX3_ways_8 : decode cX3_ways 8 = .ok (.invokevirtual 48, 3) := by decide +kernel
theorem dX3_ways_11 : decode cX3_ways 11 = .ok (.land, 1) := by decide +kernel
theorem dX3_ways_12 : decode cX3_ways 12 = .ok (.invokestatic 62, 3) := by decide +kernel
theorem dX3_ways_15 : decode cX3_ways 15 = .ok (.ireturn, 1) := by decide +kernel
theorem dX3_firstWay_0 : decode cX3_firstWay 0 = .ok (.aload_n 0, 1) := by decide +kernel
theorem dX3_firstWay_1 : decode cX3_firstWay 1 = .ok (.getfield 15, 3) := by decide +kernel
theorem dX3_firstWay_4 : decode cX3_firstWay 4 = .ok (.invokevirtual 68, 3) := by decide +kernel
theorem dX3_firstWay_7 : decode cX3_firstWay 7 = .ok (.aload_n 0, 1) := by decide +kernel
theorem dX3_firstWay_8 : decode cX3_firstWay 8 = .ok (.invokevirtual 48, 3) := by decide +kernel
theorem dX3_firstWay_11 : decode cX3_firstWay 11 = .ok (.land, 1) := by decide +kernel
theorem dX3_firstWay_12 : decode cX3_firstWay 12 = .ok (.lstore_n 1, 1) := by decide +kernel
theorem dX3_firstWay_13 : decode cX3_firstWay 13 = .ok (.iconst 0, 1) := by decide +kernel
theorem dX3_firstWay_14 : decode cX3_firstWay 14 = .ok (.istore_n 3, 1) := by decide +kernel
theorem dX3_firstWay_15 : decode cX3_firstWay 15 = .ok (.iload_n 3, 1) := by decide +kernel
theorem dX3_firstWay_16 : decode cX3_firstWay 16 = .ok (.bipush 64, 2) := by decide +kernel
theorem dX3_firstWay_18 : decode cX3_firstWay 18 = .ok (.if_icmp .ge 19, 3) := by decide +kernel
theorem dX3_firstWay_21 : decode cX3_firstWay 21 = .ok (.lload_n 1, 1) := by decide +kernel
theorem dX3_firstWay_22 : decode cX3_firstWay 22 = .ok (.iload_n 3, 1) := by decide +kernel
theorem dX3_firstWay_23 : decode cX3_firstWay 23 = .ok (.invokestatic 71, 3) := by decide +kernel
theorem dX3_firstWay_26 : decode cX3_firstWay 26 = .ok (.ifCond .eq 5, 3) := by decide +kernel
theorem dX3_firstWay_29 : decode cX3_firstWay 29 = .ok (.iload_n 3, 1) := by decide +kernel
theorem dX3_firstWay_30 : decode cX3_firstWay 30 = .ok (.ireturn, 1) := by decide +kernel
theorem dX3_firstWay_31 : decode cX3_firstWay 31 = .ok (.iinc 3 1, 3) := by decide +kernel
theorem dX3_firstWay_34 : decode cX3_firstWay 34 = .ok (.goto (-19), 3) := by decide +kernel
theorem dX3_firstWay_37 : decode cX3_firstWay 37 = .ok (.iconst (-1), 1) := by decide +kernel
theorem dX3_firstWay_38 : decode cX3_firstWay 38 = .ok (.ireturn, 1) := by decide +kernel
theorem dX3_mattersFor_0 : decode cX3_mattersFor 0 = .ok (.aload_n 0, 1) := by decide +kernel
theorem dX3_mattersFor_1 : decode cX3_mattersFor 1 = .ok (.getfield 15, 3) := by decide +kernel
theorem dX3_mattersFor_4 : decode cX3_mattersFor 4 = .ok (.iload_n 1, 1) := by decide +kernel
theorem dX3_mattersFor_5 : decode cX3_mattersFor 5 = .ok (.invokevirtual 56, 3) := by decide +kernel
theorem dX3_mattersFor_8 : decode cX3_mattersFor 8 = .ok (.lstore_n 2, 1) := by decide +kernel
theorem dX3_mattersFor_9 : decode cX3_mattersFor 9 = .ok (.aload_n 0, 1) := by decide +kernel
theorem dX3_mattersFor_10 : decode cX3_mattersFor 10 = .ok (.invokevirtual 48, 3) := by decide +kernel
theorem dX3_mattersFor_13 : decode cX3_mattersFor 13 = .ok (.lstore 4, 2) := by decide +kernel
theorem dX3_mattersFor_15 : decode cX3_mattersFor 15 = .ok (.iconst 0, 1) := by decide +kernel
theorem dX3_mattersFor_16 : decode cX3_mattersFor 16 = .ok (.istore 6, 2) := by decide +kernel
theorem dX3_mattersFor_18 : decode cX3_mattersFor 18 = .ok (.iconst 0, 1) := by decide +kernel
theorem dX3_mattersFor_19 : decode cX3_mattersFor 19 = .ok (.istore 7, 2) := by decide +kernel
theorem dX3_mattersFor_21 : decode cX3_mattersFor 21 = .ok (.iload 7, 2) := by decide +kernel
theorem dX3_mattersFor_23 : decode cX3_mattersFor 23 = .ok (.bipush 6, 2) := by decide +kernel
theorem dX3_mattersFor_25 : decode cX3_mattersFor 25 = .ok (.if_icmp .ge 64, 3) := by decide +kernel
theorem dX3_mattersFor_28 : decode cX3_mattersFor 28 = .ok (.lload_n 2, 1) := by decide +kernel
theorem dX3_mattersFor_29 : decode cX3_mattersFor 29 = .ok (.iconst 1, 1) := by decide +kernel
theorem dX3_mattersFor_30 : decode cX3_mattersFor 30 = .ok (.iload 7, 2) := by decide +kernel
theorem dX3_mattersFor_32 : decode cX3_mattersFor 32 = .ok (.ishl, 1) := by decide +kernel
theorem dX3_mattersFor_33 : decode cX3_mattersFor 33 = .ok (.lushr, 1) := by decide +kernel
theorem dX3_mattersFor_34 : decode cX3_mattersFor 34 = .ok (.lload_n 2, 1) := by decide +kernel
theorem dX3_mattersFor_35 : decode cX3_mattersFor 35 = .ok (.lxor, 1) := by decide +kernel
theorem dX3_mattersFor_36 : decode cX3_mattersFor 36 = .ok (.getstatic 78, 3) := by decide +kernel
theorem dX3_mattersFor_39 : decode cX3_mattersFor 39 = .ok (.iload 7, 2) := by decide +kernel
theorem dX3_mattersFor_41 : decode cX3_mattersFor 41 = .ok (.laload, 1) := by decide +kernel
theorem dX3_mattersFor_42 : decode cX3_mattersFor 42 = .ok (.ldc2_w 82, 3) := by decide +kernel
theorem dX3_mattersFor_45 : decode cX3_mattersFor 45 = .ok (.lxor, 1) := by decide +kernel
theorem dX3_mattersFor_46 : decode cX3_mattersFor 46 = .ok (.land, 1) := by decide +kernel
theorem dX3_mattersFor_47 : decode cX3_mattersFor 47 = .ok (.lload 4, 2) := by decide +kernel
theorem dX3_mattersFor_49 : decode cX3_mattersFor 49 = .ok (.land, 1) := by decide +kernel
theorem dX3_mattersFor_50 : decode cX3_mattersFor 50 = .ok (.lstore 8, 2) := by decide +kernel
theorem dX3_mattersFor_52 : decode cX3_mattersFor 52 = .ok (.aload_n 0, 1) := by decide +kernel
theorem dX3_mattersFor_53 : decode cX3_mattersFor 53 = .ok (.getfield 19, 3) := by decide +kernel
theorem dX3_mattersFor_56 : decode cX3_mattersFor 56 = .ok (.getfield 23, 3) := by decide +kernel
theorem dX3_mattersFor_59 : decode cX3_mattersFor 59 = .ok (.iload 7, 2) := by decide +kernel
theorem dX3_mattersFor_61 : decode cX3_mattersFor 61 = .ok (.invokestatic 84, 3) := by decide +kernel
theorem dX3_mattersFor_64 : decode cX3_mattersFor 64 = .ok (.ifCond .ne 19, 3) := by decide +kernel
theorem dX3_mattersFor_67 : decode cX3_mattersFor 67 = .ok (.lload 8, 2) := by decide +kernel
theorem dX3_mattersFor_69 : decode cX3_mattersFor 69 = .ok (.lconst 0, 1) := by decide +kernel
theorem dX3_mattersFor_70 : decode cX3_mattersFor 70 = .ok (.lcmp, 1) := by decide +kernel
theorem dX3_mattersFor_71 : decode cX3_mattersFor 71 = .ok (.ifCond .eq 12, 3) := by decide +kernel
theorem dX3_mattersFor_74 : decode cX3_mattersFor 74 = .ok (.iload 6, 2) := by decide +kernel
theorem dX3_mattersFor_76 : decode cX3_mattersFor 76 = .ok (.iconst 1, 1) := by decide +kernel
theorem dX3_mattersFor_77 : decode cX3_mattersFor 77 = .ok (.iload 7, 2) := by decide +kernel
theorem dX3_mattersFor_79 : decode cX3_mattersFor 79 = .ok (.ishl, 1) := by decide +kernel
theorem dX3_mattersFor_80 : decode cX3_mattersFor 80 = .ok (.ior, 1) := by decide +kernel
theorem dX3_mattersFor_81 : decode cX3_mattersFor 81 = .ok (.istore 6, 2) := by decide +kernel
theorem dX3_mattersFor_83 : decode cX3_mattersFor 83 = .ok (.iinc 7 1, 3) := by decide +kernel
theorem dX3_mattersFor_86 : decode cX3_mattersFor 86 = .ok (.goto (-65), 3) := by decide +kernel
theorem dX3_mattersFor_89 : decode cX3_mattersFor 89 = .ok (.iload 6, 2) := by decide +kernel
theorem dX3_mattersFor_91 : decode cX3_mattersFor 91 = .ok (.ireturn, 1) := by decide +kernel
theorem dX3_matters_0 : decode cX3_matters 0 = .ok (.iconst 0, 1) := by decide +kernel
theorem dX3_matters_1 : decode cX3_matters 1 = .ok (.istore_n 1, 1) := by decide +kernel
theorem dX3_matters_2 : decode cX3_matters 2 = .ok (.iconst 0, 1) := by decide +kernel
theorem dX3_matters_3 : decode cX3_matters 3 = .ok (.istore_n 2, 1) := by decide +kernel
theorem dX3_matters_4 : decode cX3_matters 4 = .ok (.iload_n 2, 1) := by decide +kernel
theorem dX3_matters_5 : decode cX3_matters 5 = .ok (.aload_n 0, 1) := by decide +kernel
theorem dX3_matters_6 : decode cX3_matters 6 = .ok (.getfield 9, 3) := by decide +kernel
theorem dX3_matters_9 : decode cX3_matters 9 = .ok (.getfield 40, 3) := by decide +kernel
theorem dX3_matters_12 : decode cX3_matters 12 = .ok (.if_icmp .ge 17, 3) := by decide +kernel
theorem dX3_matters_15 : decode cX3_matters 15 = .ok (.iload_n 1, 1) := by decide +kernel
theorem dX3_matters_16 : decode cX3_matters 16 = .ok (.aload_n 0, 1) := by decide +kernel
theorem dX3_matters_17 : decode cX3_matters 17 = .ok (.iload_n 2, 1) := by decide +kernel
theorem dX3_matters_18 : decode cX3_matters 18 = .ok (.invokevirtual 75, 3) := by decide +kernel
theorem dX3_matters_21 : decode cX3_matters 21 = .ok (.ior, 1) := by decide +kernel
theorem dX3_matters_22 : decode cX3_matters 22 = .ok (.istore_n 1, 1) := by decide +kernel
theorem dX3_matters_23 : decode cX3_matters 23 = .ok (.iinc 2 1, 3) := by decide +kernel
theorem dX3_matters_26 : decode cX3_matters 26 = .ok (.goto (-22), 3) := by decide +kernel
theorem dX3_matters_29 : decode cX3_matters 29 = .ok (.iload_n 1, 1) := by decide +kernel
theorem dX3_matters_30 : decode cX3_matters 30 = .ok (.ireturn, 1) := by decide +kernel
theorem dX3_couldSettle_0 : decode cX3_couldSettle 0 = .ok (.iconst 0, 1) := by decide +kernel
theorem dX3_couldSettle_1 : decode cX3_couldSettle 1 = .ok (.istore_n 3, 1) := by decide +kernel
theorem dX3_couldSettle_2 : decode cX3_couldSettle 2 = .ok (.iload_n 3, 1) := by decide +kernel
theorem dX3_couldSettle_3 : decode cX3_couldSettle 3 = .ok (.bipush 64, 2) := by decide +kernel
theorem dX3_couldSettle_5 : decode cX3_couldSettle 5 = .ok (.if_icmp .ge 53, 3) := by decide +kernel
theorem dX3_couldSettle_8 : decode cX3_couldSettle 8 = .ok (.iload_n 3, 1) := by decide +kernel
theorem dX3_couldSettle_9 : decode cX3_couldSettle 9 = .ok (.iload_n 2, 1) := by decide +kernel
theorem dX3_couldSettle_10 : decode cX3_couldSettle 10 = .ok (.iconst (-1), 1) := by decide +kernel
theorem dX3_couldSettle_11 : decode cX3_couldSettle 11 = .ok (.ixor, 1) := by decide +kernel
theorem dX3_couldSettle_12 : decode cX3_couldSettle 12 = .ok (.iand, 1) := by decide +kernel
theorem dX3_couldSettle_13 : decode cX3_couldSettle 13 = .ok (.ifCond .ne 39, 3) := by decide +kernel
theorem dX3_couldSettle_16 : decode cX3_couldSettle 16 = .ok (.aload_n 0, 1) := by decide +kernel
theorem dX3_couldSettle_17 : decode cX3_couldSettle 17 = .ok (.getfield 19, 3) := by decide +kernel
theorem dX3_couldSettle_20 : decode cX3_couldSettle 20 = .ok (.getfield 23, 3) := by decide +kernel
theorem dX3_couldSettle_23 : decode cX3_couldSettle 23 = .ok (.iload_n 2, 1) := by decide +kernel
theorem dX3_couldSettle_24 : decode cX3_couldSettle 24 = .ok (.ior, 1) := by decide +kernel
theorem dX3_couldSettle_25 : decode cX3_couldSettle 25 = .ok (.aload_n 0, 1) := by decide +kernel
theorem dX3_couldSettle_26 : decode cX3_couldSettle 26 = .ok (.getfield 19, 3) := by decide +kernel
theorem dX3_couldSettle_29 : decode cX3_couldSettle 29 = .ok (.getfield 29, 3) := by decide +kernel
theorem dX3_couldSettle_32 : decode cX3_couldSettle 32 = .ok (.iload_n 3, 1) := by decide +kernel
theorem dX3_couldSettle_33 : decode cX3_couldSettle 33 = .ok (.ior, 1) := by decide +kernel
theorem dX3_couldSettle_34 : decode cX3_couldSettle 34 = .ok (.invokestatic 32, 3) := by decide +kernel
theorem dX3_couldSettle_37 : decode cX3_couldSettle 37 = .ok (.lstore 4, 2) := by decide +kernel
theorem dX3_couldSettle_39 : decode cX3_couldSettle 39 = .ok (.aload_n 0, 1) := by decide +kernel
theorem dX3_couldSettle_40 : decode cX3_couldSettle 40 = .ok (.iload_n 1, 1) := by decide +kernel
theorem dX3_couldSettle_41 : decode cX3_couldSettle 41 = .ok (.lload 4, 2) := by decide +kernel
theorem dX3_couldSettle_43 : decode cX3_couldSettle 43 = .ok (.invokevirtual 52, 3) := by decide +kernel
theorem dX3_couldSettle_46 : decode cX3_couldSettle 46 = .ok (.iconst 1, 1) := by decide +kernel
theorem dX3_couldSettle_47 : decode cX3_couldSettle 47 = .ok (.if_icmp .eq 5, 3) := by decide +kernel
theorem dX3_couldSettle_50 : decode cX3_couldSettle 50 = .ok (.iconst 1, 1) := by decide +kernel
theorem dX3_couldSettle_51 : decode cX3_couldSettle 51 = .ok (.ireturn, 1) := by decide +kernel
theorem dX3_couldSettle_52 : decode cX3_couldSettle 52 = .ok (.iinc 3 1, 3) := by decide +kernel
theorem dX3_couldSettle_55 : decode cX3_couldSettle 55 = .ok (.goto (-53), 3) := by decide +kernel
theorem dX3_couldSettle_58 : decode cX3_couldSettle 58 = .ok (.iconst 0, 1) := by decide +kernel
theorem dX3_couldSettle_59 : decode cX3_couldSettle 59 = .ok (.ireturn, 1) := by decide +kernel
theorem dX3_settles_0 : decode cX3_settles 0 = .ok (.bipush 6, 2) := by decide +kernel
theorem dX3_settles_2 : decode cX3_settles 2 = .ok (.aload_n 0, 1) := by decide +kernel
theorem dX3_settles_3 : decode cX3_settles 3 = .ok (.getfield 19, 3) := by decide +kernel
theorem dX3_settles_6 : decode cX3_settles 6 = .ok (.getfield 23, 3) := by decide +kernel
theorem dX3_settles_9 : decode cX3_settles 9 = .ok (.invokestatic 88, 3) := by decide +kernel
theorem dX3_settles_12 : decode cX3_settles 12 = .ok (.isub, 1) := by decide +kernel
theorem dX3_settles_13 : decode cX3_settles 13 = .ok (.istore_n 2, 1) := by decide +kernel
theorem dX3_settles_14 : decode cX3_settles 14 = .ok (.iconst 0, 1) := by decide +kernel
theorem dX3_settles_15 : decode cX3_settles 15 = .ok (.istore_n 3, 1) := by decide +kernel
theorem dX3_settles_16 : decode cX3_settles 16 = .ok (.iload_n 3, 1) := by decide +kernel
theorem dX3_settles_17 : decode cX3_settles 17 = .ok (.bipush 64, 2) := by decide +kernel
theorem dX3_settles_19 : decode cX3_settles 19 = .ok (.if_icmp .ge 55, 3) := by decide +kernel
theorem dX3_settles_22 : decode cX3_settles 22 = .ok (.iload_n 3, 1) := by decide +kernel
theorem dX3_settles_23 : decode cX3_settles 23 = .ok (.aload_n 0, 1) := by decide +kernel
theorem dX3_settles_24 : decode cX3_settles 24 = .ok (.getfield 19, 3) := by decide +kernel
theorem dX3_settles_27 : decode cX3_settles 27 = .ok (.getfield 23, 3) := by decide +kernel
theorem dX3_settles_30 : decode cX3_settles 30 = .ok (.iand, 1) := by decide +kernel
theorem dX3_settles_31 : decode cX3_settles 31 = .ok (.ifCond .ne 7, 3) := by decide +kernel
theorem dX3_settles_34 : decode cX3_settles 34 = .ok (.iconst 1, 1) := by decide +kernel
theorem dX3_settles_35 : decode cX3_settles 35 = .ok (.goto 4, 3) := by decide +kernel
theorem dX3_settles_38 : decode cX3_settles 38 = .ok (.iconst 0, 1) := by decide +kernel
theorem dX3_settles_39 : decode cX3_settles 39 = .ok (.istore 4, 2) := by decide +kernel
theorem dX3_settles_41 : decode cX3_settles 41 = .ok (.iload 4, 2) := by decide +kernel
theorem dX3_settles_43 : decode cX3_settles 43 = .ok (.ifCond .eq 25, 3) := by decide +kernel
theorem dX3_settles_46 : decode cX3_settles 46 = .ok (.iload_n 3, 1) := by decide +kernel
theorem dX3_settles_47 : decode cX3_settles 47 = .ok (.invokestatic 88, 3) := by decide +kernel
theorem dX3_settles_50 : decode cX3_settles 50 = .ok (.iload_n 2, 1) := by decide +kernel
theorem dX3_settles_51 : decode cX3_settles 51 = .ok (.if_icmp .ge 17, 3) := by decide +kernel
theorem dX3_settles_54 : decode cX3_settles 54 = .ok (.aload_n 0, 1) := by decide +kernel
theorem dX3_settles_55 : decode cX3_settles 55 = .ok (.iload_n 1, 1) := by decide +kernel
theorem dX3_settles_56 : decode cX3_settles 56 = .ok (.iload_n 3, 1) := by decide +kernel
theorem dX3_settles_57 : decode cX3_settles 57 = .ok (.invokevirtual 92, 3) := by decide +kernel
theorem dX3_settles_60 : decode cX3_settles 60 = .ok (.ifCond .eq 8, 3) := by decide +kernel
theorem dX3_settles_63 : decode cX3_settles 63 = .ok (.iload_n 3, 1) := by decide +kernel
theorem dX3_settles_64 : decode cX3_settles 64 = .ok (.invokestatic 88, 3) := by decide +kernel
theorem dX3_settles_67 : decode cX3_settles 67 = .ok (.istore_n 2, 1) := by decide +kernel
theorem dX3_settles_68 : decode cX3_settles 68 = .ok (.iinc 3 1, 3) := by decide +kernel
theorem dX3_settles_71 : decode cX3_settles 71 = .ok (.goto (-55), 3) := by decide +kernel
theorem dX3_settles_74 : decode cX3_settles 74 = .ok (.iload_n 2, 1) := by decide +kernel
theorem dX3_settles_75 : decode cX3_settles 75 = .ok (.ireturn, 1) := by decide +kernel
theorem dX4_takeLetter_0 : decode cX4_takeLetter 0 = .ok (.aload_n 0, 1) := by decide +kernel
theorem dX4_takeLetter_1 : decode cX4_takeLetter 1 = .ok (.getfield 29, 3) := by decide +kernel
theorem dX4_takeLetter_4 : decode cX4_takeLetter 4 = .ok (.sipush 240, 3) := by decide +kernel
theorem dX4_takeLetter_7 : decode cX4_takeLetter 7 = .ok (.if_icmp .lt 5, 3) := by decide +kernel
theorem dX4_takeLetter_10 : decode cX4_takeLetter 10 = .ok (.iconst 0, 1) := by decide +kernel
theorem dX4_takeLetter_11 : decode cX4_takeLetter 11 = .ok (.ireturn, 1) := by decide +kernel
theorem dX4_takeLetter_12 : decode cX4_takeLetter 12 = .ok (.aload_n 0, 1) := by decide +kernel
theorem dX4_takeLetter_13 : decode cX4_takeLetter 13 = .ok (.getfield 22, 3) := by decide +kernel
theorem dX4_takeLetter_16 : decode cX4_takeLetter 16 = .ok (.aload_n 0, 1) := by decide +kernel
theorem dX4_takeLetter_17 : decode cX4_takeLetter 17 = .ok (.getfield 29, 3) := by decide +kernel
theorem dX4_takeLetter_20 : decode cX4_takeLetter 20 = .ok (.iload_n 1, 1) := by decide +kernel
theorem dX4_takeLetter_21 : decode cX4_takeLetter 21 = .ok (.iastore, 1) := by decide +kernel
theorem dX4_takeLetter_22 : decode cX4_takeLetter 22 = .ok (.aload_n 0, 1) := by decide +kernel
theorem dX4_takeLetter_23 : decode cX4_takeLetter 23 = .ok (.dup, 1) := by decide +kernel
theorem dX4_takeLetter_24 : decode cX4_takeLetter 24 = .ok (.getfield 29, 3) := by decide +kernel
theorem dX4_takeLetter_27 : decode cX4_takeLetter 27 = .ok (.iconst 1, 1) := by decide +kernel
theorem dX4_takeLetter_28 : decode cX4_takeLetter 28 = .ok (.iadd, 1) := by decide +kernel
theorem dX4_takeLetter_29 : decode cX4_takeLetter 29 = .ok (.putfield 29, 3) := by decide +kernel
theorem dX4_takeLetter_32 : decode cX4_takeLetter 32 = .ok (.iconst 1, 1) := by decide +kernel
theorem dX4_takeLetter_33 : decode cX4_takeLetter 33 = .ok (.ireturn, 1) := by decide +kernel
theorem dX4_skipBlanks_0 : decode cX4_skipBlanks 0 = .ok (.aload_n 0, 1) := by decide +kernel
theorem dX4_skipBlanks_1 : decode cX4_skipBlanks 1 = .ok (.getfield 38, 3) := by decide +kernel
theorem dX4_skipBlanks_4 : decode cX4_skipBlanks 4 = .ok (.ifCond .lt 41, 3) := by decide +kernel
theorem dX4_skipBlanks_7 : decode cX4_skipBlanks 7 = .ok (.aload_n 0, 1) := by decide +kernel
theorem dX4_skipBlanks_8 : decode cX4_skipBlanks 8 = .ok (.getfield 38, 3) := by decide +kernel
theorem dX4_skipBlanks_11 : decode cX4_skipBlanks 11 = .ok (.aload_n 0, 1) := by decide +kernel
theorem dX4_skipBlanks_12 : decode cX4_skipBlanks 12 = .ok (.getfield 29, 3) := by decide +kernel
theorem dX4_skipBlanks_15 : decode cX4_skipBlanks 15 = .ok (.if_icmp .ge 30, 3) := by decide +kernel
theorem dX4_skipBlanks_18 : decode cX4_skipBlanks 18 = .ok (.aload_n 0, 1) := by decide +kernel
theorem dX4_skipBlanks_19 : decode cX4_skipBlanks 19 = .ok (.getfield 22, 3) := by decide +kernel
theorem dX4_skipBlanks_22 : decode cX4_skipBlanks 22 = .ok (.aload_n 0, 1) := by decide +kernel
theorem dX4_skipBlanks_23 : decode cX4_skipBlanks 23 = .ok (.getfield 38, 3) := by decide +kernel
theorem dX4_skipBlanks_26 : decode cX4_skipBlanks 26 = .ok (.iaload, 1) := by decide +kernel
theorem dX4_skipBlanks_27 : decode cX4_skipBlanks 27 = .ok (.bipush 32, 2) := by decide +kernel
theorem dX4_skipBlanks_29 : decode cX4_skipBlanks 29 = .ok (.if_icmp .ne 16, 3) := by decide +kernel
theorem dX4_skipBlanks_32 : decode cX4_skipBlanks 32 = .ok (.aload_n 0, 1) := by decide +kernel
theorem dX4_skipBlanks_33 : decode cX4_skipBlanks 33 = .ok (.dup, 1) := by decide +kernel
theorem dX4_skipBlanks_34 : decode cX4_skipBlanks 34 = .ok (.getfield 38, 3) := by decide +kernel
theorem dX4_skipBlanks_37 : decode cX4_skipBlanks 37 = .ok (.iconst 1, 1) := by decide +kernel
theorem dX4_skipBlanks_38 : decode cX4_skipBlanks 38 = .ok (.iadd, 1) := by decide +kernel
theorem dX4_skipBlanks_39 : decode cX4_skipBlanks 39 = .ok (.putfield 38, 3) := by decide +kernel
theorem dX4_skipBlanks_42 : decode cX4_skipBlanks 42 = .ok (.goto (-42), 3) := by decide +kernel
theorem dX4_skipBlanks_45 : decode cX4_skipBlanks 45 = .ok (.return_, 1) := by decide +kernel
theorem dX4_letterHere_0 : decode cX4_letterHere 0 = .ok (.aload_n 0, 1) := by decide +kernel
theorem dX4_letterHere_1 : decode cX4_letterHere 1 = .ok (.getfield 38, 3) := by decide +kernel
theorem dX4_letterHere_4 : decode cX4_letterHere 4 = .ok (.ifCond .lt 26, 3) := by decide +kernel
theorem dX4_letterHere_7 : decode cX4_letterHere 7 = .ok (.aload_n 0, 1) := by decide +kernel
theorem dX4_letterHere_8 : decode cX4_letterHere 8 = .ok (.getfield 38, 3) := by decide +kernel
theorem dX4_letterHere_11 : decode cX4_letterHere 11 = .ok (.aload_n 0, 1) := by decide +kernel
theorem dX4_letterHere_12 : decode cX4_letterHere 12 = .ok (.getfield 29, 3) := by decide +kernel
theorem dX4_letterHere_15 : decode cX4_letterHere 15 = .ok (.if_icmp .ge 15, 3) := by decide +kernel
theorem dX4_letterHere_18 : decode cX4_letterHere 18 = .ok (.aload_n 0, 1) := by decide +kernel
theorem dX4_letterHere_19 : decode cX4_letterHere 19 = .ok (.getfield 22, 3) := by decide +kernel
theorem dX4_letterHere_22 : decode cX4_letterHere 22 = .ok (.aload_n 0, 1) := by decide +kernel
theorem dX4_letterHere_23 : decode cX4_letterHere 23 = .ok (.getfield 38, 3) := by decide +kernel
theorem dX4_letterHere_26 : decode cX4_letterHere 26 = .ok (.iaload, 1) := by decide +kernel
theorem dX4_letterHere_27 : decode cX4_letterHere 27 = .ok (.goto 4, 3) := by decide +kernel
theorem dX4_letterHere_30 : decode cX4_letterHere 30 = .ok (.iconst (-1), 1) := by decide +kernel
theorem dX4_letterHere_31 : decode cX4_letterHere 31 = .ok (.ireturn, 1) := by decide +kernel
theorem dX4_fail_0 : decode cX4_fail 0 = .ok (.aload_n 0, 1) := by decide +kernel
theorem dX4_fail_1 : decode cX4_fail 1 = .ok (.iload_n 1, 1) := by decide +kernel
theorem dX4_fail_2 : decode cX4_fail 2 = .ok (.putfield 35, 3) := by decide +kernel
theorem dX4_fail_5 : decode cX4_fail 5 = .ok (.aload_n 0, 1) := by decide +kernel
theorem dX4_fail_6 : decode cX4_fail 6 = .ok (.iload_n 2, 1) := by decide +kernel
theorem dX4_fail_7 : decode cX4_fail 7 = .ok (.putfield 9, 3) := by decide +kernel
theorem dX4_fail_10 : decode cX4_fail 10 = .ok (.return_, 1) := by decide +kernel
theorem dX4_isWantHere_0 : decode cX4_isWantHere 0 = .ok (.aload_n 0, 1) := by decide +kernel
theorem dX4_isWantHere_1 : decode cX4_isWantHere 1 = .ok (.invokevirtual 57, 3) := by decide +kernel
theorem dX4_isWantHere_4 : decode cX4_isWantHere 4 = .ok (.istore_n 1, 1) := by decide +kernel
theorem dX4_isWantHere_5 : decode cX4_isWantHere 5 = .ok (.iload_n 1, 1) := by decide +kernel
theorem dX4_isWantHere_6 : decode cX4_isWantHere 6 = .ok (.bipush 43, 2) := by decide +kernel
theorem dX4_isWantHere_8 : decode cX4_isWantHere 8 = .ok (.if_icmp .eq 9, 3) := by decide +kernel
theorem dX4_isWantHere_11 : decode cX4_isWantHere 11 = .ok (.iload_n 1, 1) := by decide +kernel
theorem dX4_isWantHere_12 : decode cX4_isWantHere 12 = .ok (.bipush 45, 2) := by decide +kernel
theorem dX4_isWantHere_14 : decode cX4_isWantHere 14 = .ok (.if_icmp .ne 7, 3) := by decide +kernel
theorem dX4_isWantHere_17 : decode cX4_isWantHere 17 = .ok (.iconst 1, 1) := by decide +kernel
theorem dX4_isWantHere_18 : decode cX4_isWantHere 18 = .ok (.goto 4, 3) := by decide +kernel
theorem dX4_isWantHere_21 : decode cX4_isWantHere 21 = .ok (.iconst 0, 1) := by decide +kernel
theorem dX4_isWantHere_22 : decode cX4_isWantHere 22 = .ok (.ireturn, 1) := by decide +kernel
theorem dX4_figureHere_0 : decode cX4_figureHere 0 = .ok (.aload_n 0, 1) := by decide +kernel
theorem dX4_figureHere_1 : decode cX4_figureHere 1 = .ok (.getfield 38, 3) := by decide +kernel
theorem dX4_figureHere_4 : decode cX4_figureHere 4 = .ok (.ifCond .lt 14, 3) := by decide +kernel
theorem dX4_figureHere_7 : decode cX4_figureHere 7 = .ok (.aload_n 0, 1) := by decide +kernel
theorem dX4_figureHere_8 : decode cX4_figureHere 8 = .ok (.getfield 38, 3) := by decide +kernel
theorem dX4_figureHere_11 : decode cX4_figureHere 11 = .ok (.aload_n 0, 1) := by decide +kernel
theorem dX4_figureHere_12 : decode cX4_figureHere 12 = .ok (.getfield 29, 3) := by decide +kernel
theorem dX4_figureHere_15 : decode cX4_figureHere 15 = .ok (.if_icmp .lt 5, 3) := by decide +kernel
theorem dX4_figureHere_18 : decode cX4_figureHere 18 = .ok (.iconst (-1), 1) := by decide +kernel
theorem dX4_figureHere_19 : decode cX4_figureHere 19 = .ok (.ireturn, 1) := by decide +kernel
theorem dX4_figureHere_20 : decode cX4_figureHere 20 = .ok (.aload_n 0, 1) := by decide +kernel
theorem dX4_figureHere_21 : decode cX4_figureHere 21 = .ok (.getfield 22, 3) := by decide +kernel
theorem dX4_figureHere_24 : decode cX4_figureHere 24 = .ok (.aload_n 0, 1) := by decide +kernel
theorem dX4_figureHere_25 : decode cX4_figureHere 25 = .ok (.getfield 38, 3) := by decide +kernel
theorem dX4_figureHere_28 : decode cX4_figureHere 28 = .ok (.iaload, 1) := by decide +kernel
theorem dX4_figureHere_29 : decode cX4_figureHere 29 = .ok (.bipush 48, 2) := by decide +kernel
theorem dX4_figureHere_31 : decode cX4_figureHere 31 = .ok (.isub, 1) := by decide +kernel
theorem dX4_figureHere_32 : decode cX4_figureHere 32 = .ok (.istore_n 1, 1) := by decide +kernel
theorem dX4_figureHere_33 : decode cX4_figureHere 33 = .ok (.iload_n 1, 1) := by decide +kernel
theorem dX4_figureHere_34 : decode cX4_figureHere 34 = .ok (.ifCond .lt 13, 3) := by decide +kernel
theorem dX4_figureHere_37 : decode cX4_figureHere 37 = .ok (.iload_n 1, 1) := by decide +kernel
theorem dX4_figureHere_38 : decode cX4_figureHere 38 = .ok (.bipush 9, 2) := by decide +kernel
theorem dX4_figureHere_40 : decode cX4_figureHere 40 = .ok (.if_icmp .gt 7, 3) := by decide +kernel
theorem dX4_figureHere_43 : decode cX4_figureHere 43 = .ok (.iload_n 1, 1) := by decide +kernel
theorem dX4_figureHere_44 : decode cX4_figureHere 44 = .ok (.goto 4, 3) := by decide +kernel
theorem dX4_figureHere_47 : decode cX4_figureHere 47 = .ok (.iconst (-1), 1) := by decide +kernel
theorem dX4_figureHere_48 : decode cX4_figureHere 48 = .ok (.ireturn, 1) := by decide +kernel
def FX3_possible (σ : SS) : Option (Int64) :=
  ob (FX7_agreeing σ (gI σ 60) (gI σ 61)) (fun r2 => some r2)
set_option maxRecDepth 100000 in
set_option maxHeartbeats 4000000 in
theorem c_X3_possible {σ : SS} {r : Int64} (hf : FX3_possible σ = some r) : Mcw wsX yX3_possible cX3_possible 1 (some .long) ({ frames := 1, cells := 0, slots := 0, locals := 25 } : Room) (fun g => [.ref (g.2.1 34)]) σ (fun g => some (.long r)) σ := by
  refine w_enter wsX_fix (by decide) (fun g => Nat.le_of_ble_eq_true rfl) ?_
  intro X g hX
  replace hX : Okw wsX X g cX3_possible 1 RX3 (some .long) ({ frames := 1, cells := 0, slots := 0, locals := 25 } : Room) (fun g => some (.long r)) σ := hX
  have h0 := hX.1
  show Vx X g.1 1 (wsX g σ) 0 [(0, .ref (g.2.1 34))] []
  rw [FX3_possible] at hf
  refine vx_aload_n h0 dX3_possible_0 rfl ?_
  refine xg_34_2 hX q275 dX3_possible_1 ?_
  refine xg_24_0 hX q209 dX3_possible_4 ?_
  refine vx_aload_n h0 dX3_possible_7 rfl ?_
  refine xg_34_2 hX q275 dX3_possible_8 ?_
  refine xg_24_1 hX q211 dX3_possible_11 ?_
  obtain ⟨r2, h1, hf⟩ := ob_some hf
  refine w_callSN (st := []) hX (c_X7_agreeing h1) ce_X7_agreeing q582 ⟨rfl, rfl⟩ ⟨by decide, by decide⟩ rfl rfl rfl (Nat.le_of_ble_eq_true rfl) dX3_possible_14 ?_
  show Vx X g.1 1 (wsX g σ) 17 [(0, .ref (g.2.1 34))] [.long r2]
  exact w_lretP hX hf dX3_possible_17
def FX3_suretyAmong (σ : SS) (a0 : Int32) (a1 : Int64) : Option (Int32) :=
  ob (FX2_forceOf σ a0) (fun r2 => if (lg_cmp (r2 &&& a1) (0 : Int64)) = 0 then some (0 : Int32)
    else if (lg_cmp (r2 &&& a1) a1) = 0 then some (2 : Int32)
    else some (1 : Int32))
set_option maxRecDepth 100000 in
set_option maxHeartbeats 4000000 in
theorem c_X3_suretyAmong {σ : SS} {a0 : Int32} {a1 : Int64} {r : Int32} (hf : FX3_suretyAmong σ a0 a1 = some r) : Mcw wsX yX3_suretyAmong cX3_suretyAmong 6 (some .int) ({ frames := 1, cells := 0, slots := 0, locals := 21 } : Room) (fun g => [.ref (g.2.1 34), .int a0, .long a1]) σ (fun g => some (.int r)) σ := by
  refine w_enter wsX_fix (by decide) (fun g => Nat.le_of_ble_eq_true rfl) ?_
  intro X g hX
  replace hX : Okw wsX X g cX3_suretyAmong 6 RX3 (some .int) ({ frames := 1, cells := 0, slots := 0, locals := 21 } : Room) (fun g => some (.int r)) σ := hX
  have h0 := hX.1
  show Vx X g.1 6 (wsX g σ) 0 [(0, .ref (g.2.1 34)), (1, .int a0), (2, .long a1)] []
  rw [FX3_suretyAmong] at hf
  refine vx_aload_n h0 dX3_suretyAmong_0 rfl ?_
  refine xg_34_1 hX q274 dX3_suretyAmong_1 ?_
  refine vx_iload_n h0 dX3_suretyAmong_4 rfl ?_
  obtain ⟨r2, h1, hf⟩ := ob_some hf
  refine w_callV (st := []) (ci := 2) (q0 := 28) hX (c_X2_forceOf h1) ce_X2_forceOf q587 ⟨rfl, rfl⟩ ⟨by decide, by decide⟩ rfl rfl rfl rfl (xo_28 g _) rfl (Nat.le_of_ble_eq_true rfl) dX3_suretyAmong_5 ?_
  show Vx X g.1 6 (wsX g σ) 8 [(0, .ref (g.2.1 34)), (1, .int a0), (2, .long a1)] [.long r2]
  refine vx_lload_n h0 dX3_suretyAmong_8 rfl ?_
  refine vx_land h0 dX3_suretyAmong_9 ?_
  refine vx_lstore (ls' := [(4, .long (r2 &&& a1)), (0, .ref (g.2.1 34)), (1, .int a0), (2, .long a1)]) h0 dX3_suretyAmong_10 (by decide) rfl ?_
  refine vx_lload h0 dX3_suretyAmong_12 rfl ?_
  refine vx_lconst (v := (0 : Int64)) h0 dX3_suretyAmong_14 (by decide) ?_
  refine vx_lcmp h0 dX3_suretyAmong_15 ?_
  refine vx_if_ne (tgt := 21) h0 dX3_suretyAmong_16 (by decide) (fun c3 => ?_) (fun c3 => ?_)
  · replace hf := (if_neg c3).symm.trans hf
    refine vx_lload h0 dX3_suretyAmong_21 rfl ?_
    refine vx_lload_n h0 dX3_suretyAmong_23 rfl ?_
    refine vx_lcmp h0 dX3_suretyAmong_24 ?_
    refine vx_if_ne (tgt := 32) h0 dX3_suretyAmong_25 (by decide) (fun c4 => ?_) (fun c4 => ?_)
    · replace hf := (if_neg c4).symm.trans hf
      refine vx_iconst (v := (1 : Int32)) h0 dX3_suretyAmong_32 (by decide) ?_
      exact w_iretP hX hf dX3_suretyAmong_33
    · replace hf := (if_pos c4).symm.trans hf
      refine vx_iconst (v := (2 : Int32)) h0 dX3_suretyAmong_28 (by decide) ?_
      refine vx_goto (tgt := 33) h0 dX3_suretyAmong_29 (by decide) ?_
      exact w_iretP hX hf dX3_suretyAmong_33
  · replace hf := (if_pos c3).symm.trans hf
    refine vx_iconst (v := (0 : Int32)) h0 dX3_suretyAmong_19 (by decide) ?_
    exact w_iretP hX hf dX3_suretyAmong_20
def FX3_surety (σ : SS) (a0 : Int32) : Option (Int32) :=
  ob (FX3_possible σ) (fun r2 => ob (FX3_suretyAmong σ a0 r2) (fun r4 => some r4))
set_option maxRecDepth 100000 in
set_option maxHeartbeats 4000000 in
theorem c_X3_surety {σ : SS} {a0 : Int32} {r : Int32} (hf : FX3_surety σ a0 = some r) : Mcw wsX yX3_surety cX3_surety 2 (some .int) ({ frames := 2, cells := 0, slots := 0, locals := 46 } : Room) (fun g => [.ref (g.2.1 34), .int a0]) σ (fun g => some (.int r)) σ := by
  refine w_enter wsX_fix (by decide) (fun g => Nat.le_of_ble_eq_true rfl) ?_
  intro X g hX
  replace hX : Okw wsX X g cX3_surety 2 RX3 (some .int) ({ frames := 2, cells := 0, slots := 0, locals := 46 } : Room) (fun g => some (.int r)) σ := hX
  have h0 := hX.1
  show Vx X g.1 2 (wsX g σ) 0 [(0, .ref (g.2.1 34)), (1, .int a0)] []
  rw [FX3_surety] at hf
  refine vx_aload_n h0 dX3_surety_0 rfl ?_
  refine vx_iload_n h0 dX3_surety_1 rfl ?_
  refine vx_aload_n h0 dX3_surety_2 rfl ?_
  obtain ⟨r2, h1, hf⟩ := ob_some hf
  refine w_callV (st := [.int a0, .ref (g.2.1 34)]) (ci := 3) (q0 := 34) hX (c_X3_possible h1) ce_X3_possible q578 ⟨rfl, rfl⟩ ⟨by decide, by decide⟩ rfl rfl rfl rfl (xo_34 g _) rfl (Nat.le_of_ble_eq_true rfl) dX3_surety_3 ?_
  show Vx X g.1 2 (wsX g σ) 6 [(0, .ref (g.2.1 34)), (1, .int a0)] [.long r2, .int a0, .ref (g.2.1 34)]
  obtain ⟨r4, h3, hf⟩ := ob_some hf
  refine w_callV (st := []) (ci := 3) (q0 := 34) hX (c_X3_suretyAmong h3) ce_X3_suretyAmong q583 ⟨rfl, rfl⟩ ⟨by decide, by decide⟩ rfl rfl rfl rfl (xo_34 g _) rfl (Nat.le_of_ble_eq_true rfl) dX3_surety_6 ?_
  show Vx X g.1 2 (wsX g σ) 9 [(0, .ref (g.2.1 34)), (1, .int a0)] [.int r4]
  exact w_iretP hX hf dX3_surety_9
def FX3_clausesOf_L4 (σ : SS) (v1 : Int32) (k : Int32 → Option (Int32)) : Nat → Int32 → Int32 → Option (Int32)
  | 0, _, _ => none
  | n + 1, v2, v3 => if (gI σ 40) ≤ v3 then k v2
    else ob (FX3_surety σ v3) (fun r3 => if r3 = v1 then FX3_clausesOf_L4 σ v1 k n (v2 ||| (jshl (1 : Int32) v3)) (v3 + (1 : Int32))
    else FX3_clausesOf_L4 σ v1 k n v2 (v3 + (1 : Int32)))
set_option maxRecDepth 100000 in
set_option maxHeartbeats 4000000 in
theorem PX3_clausesOf_L4 {X : Bx} {g : Gx} {r : Int32} {σ : SS} (hX : Okw wsX X g cX3_clausesOf 4 RX3 (some .int) ({ frames := 3, cells := 0, slots := 0, locals := 67 } : Room) (fun g => some (.int r)) σ) {v1 : Int32} {k : Int32 → Option (Int32)} (hk : ∀ (v2 : Int32), k v2 = some r → Vx X g.1 4 (wsX g σ) 36 [(2, .int v2)] []) : ∀ (n : Nat) (v2 : Int32) (v3 : Int32), FX3_clausesOf_L4 σ v1 k n v2 v3 = some r → Vx X g.1 4 (wsX g σ) 4 [(0, .ref (g.2.1 34)), (1, .int v1), (2, .int v2), (3, .int v3)] [] := by
  have h0 := hX.1
  intro n
  induction n with
  | zero =>
    intro v2 v3 hf
    rw [FX3_clausesOf_L4] at hf
    cases hf
  | succ n ih =>
    intro v2 v3 hf
    rw [FX3_clausesOf_L4] at hf
    refine vx_iload_n h0 dX3_clausesOf_4 rfl ?_
    refine vx_aload_n h0 dX3_clausesOf_5 rfl ?_
    refine xg_34_0 hX q273 dX3_clausesOf_6 ?_
    refine xg_14_0 hX q104 dX3_clausesOf_9 ?_
    refine vx_icmp_ge (tgt := 36) h0 dX3_clausesOf_12 (by decide) (fun c1 => ?_) (fun c1 => ?_)
    · replace hf := (if_pos c1).symm.trans hf
      refine vx_sub [2] rfl ?_
      exact hk _ hf
    · replace hf := (if_neg c1).symm.trans hf
      refine vx_aload_n h0 dX3_clausesOf_15 rfl ?_
      refine vx_iload_n h0 dX3_clausesOf_16 rfl ?_
      obtain ⟨r3, h2, hf⟩ := ob_some hf
      refine w_callV (st := []) (ci := 3) (q0 := 34) hX (c_X3_surety h2) ce_X3_surety q574 ⟨rfl, rfl⟩ ⟨by decide, by decide⟩ rfl rfl rfl rfl (xo_34 g _) rfl (Nat.le_of_ble_eq_true rfl) dX3_clausesOf_17 ?_
      show Vx X g.1 4 (wsX g σ) 20 [(0, .ref (g.2.1 34)), (1, .int v1), (2, .int v2), (3, .int v3)] [.int r3]
      refine vx_iload_n h0 dX3_clausesOf_20 rfl ?_
      refine vx_icmp_ne (tgt := 30) h0 dX3_clausesOf_21 (by decide) (fun c4 => ?_) (fun c4 => ?_)
      · replace hf := (if_neg c4).symm.trans hf
        refine vx_iinc (q := 3) (v := (v3 + (1 : Int32))) (ls' := [(3, .int (v3 + (1 : Int32))), (0, .ref (g.2.1 34)), (1, .int v1), (2, .int v2)]) h0 dX3_clausesOf_30 rfl rfl (by decide) rfl ?_
        refine vx_goto (tgt := 4) h0 dX3_clausesOf_33 (by decide) ?_
        refine vx_sub [1, 2, 3, 0] rfl ?_
        exact ih _ _ hf
      · replace hf := (if_pos c4).symm.trans hf
        refine vx_iload_n h0 dX3_clausesOf_24 rfl ?_
        refine vx_iconst (v := (1 : Int32)) h0 dX3_clausesOf_25 (by decide) ?_
        refine vx_iload_n h0 dX3_clausesOf_26 rfl ?_
        refine vx_ishl h0 dX3_clausesOf_27 ?_
        refine vx_ior h0 dX3_clausesOf_28 ?_
        refine vx_istore_n (ls' := [(2, .int (v2 ||| (jshl (1 : Int32) v3))), (0, .ref (g.2.1 34)), (1, .int v1), (3, .int v3)]) h0 dX3_clausesOf_29 (by decide) rfl ?_
        refine vx_iinc (q := 3) (v := (v3 + (1 : Int32))) (ls' := [(3, .int (v3 + (1 : Int32))), (2, .int (v2 ||| (jshl (1 : Int32) v3))), (0, .ref (g.2.1 34)), (1, .int v1)]) h0 dX3_clausesOf_30 rfl rfl (by decide) rfl ?_
        refine vx_goto (tgt := 4) h0 dX3_clausesOf_33 (by decide) ?_
        refine vx_sub [2, 3, 1, 0] rfl ?_
        exact ih _ _ hf
def FX3_clausesOf (σ : SS) (a0 : Int32) : Option (Int32) :=
  FX3_clausesOf_L4 σ a0 (fun u5 => some u5) 5000 (0 : Int32) (0 : Int32)
set_option maxRecDepth 100000 in
set_option maxHeartbeats 4000000 in
theorem c_X3_clausesOf {σ : SS} {a0 : Int32} {r : Int32} (hf : FX3_clausesOf σ a0 = some r) : Mcw wsX yX3_clausesOf cX3_clausesOf 4 (some .int) ({ frames := 3, cells := 0, slots := 0, locals := 67 } : Room) (fun g => [.ref (g.2.1 34), .int a0]) σ (fun g => some (.int r)) σ := by
  refine w_enter wsX_fix (by decide) (fun g => Nat.le_of_ble_eq_true rfl) ?_
  intro X g hX
  replace hX : Okw wsX X g cX3_clausesOf 4 RX3 (some .int) ({ frames := 3, cells := 0, slots := 0, locals := 67 } : Room) (fun g => some (.int r)) σ := hX
  have h0 := hX.1
  show Vx X g.1 4 (wsX g σ) 0 [(0, .ref (g.2.1 34)), (1, .int a0)] []
  rw [FX3_clausesOf] at hf
  refine vx_iconst (v := (0 : Int32)) h0 dX3_clausesOf_0 (by decide) ?_
  refine vx_istore_n (ls' := [(2, .int (0 : Int32)), (0, .ref (g.2.1 34)), (1, .int a0)]) h0 dX3_clausesOf_1 (by decide) rfl ?_
  refine vx_iconst (v := (0 : Int32)) h0 dX3_clausesOf_2 (by decide) ?_
  refine vx_istore_n (ls' := [(3, .int (0 : Int32)), (2, .int (0 : Int32)), (0, .ref (g.2.1 34)), (1, .int a0)]) h0 dX3_clausesOf_3 (by decide) rfl ?_
  refine vx_sub [2, 3, 1, 0] rfl ?_
  refine PX3_clausesOf_L4 hX (fun u5 hf => ?_) _ _ _ hf
  refine vx_iload_n h0 dX3_clausesOf_36 rfl ?_
  exact w_iretP hX hf dX3_clausesOf_37
def FX3_sure (σ : SS) : Option (Int32) :=
  ob (FX3_clausesOf σ (2 : Int32)) (fun r2 => some r2)
set_option maxRecDepth 100000 in
set_option maxHeartbeats 4000000 in
theorem c_X3_sure {σ : SS} {r : Int32} (hf : FX3_sure σ = some r) : Mcw wsX yX3_sure cX3_sure 1 (some .int) ({ frames := 4, cells := 0, slots := 0, locals := 90 } : Room) (fun g => [.ref (g.2.1 34)]) σ (fun g => some (.int r)) σ := by
  refine w_enter wsX_fix (by decide) (fun g => Nat.le_of_ble_eq_true rfl) ?_
  intro X g hX
  replace hX : Okw wsX X g cX3_sure 1 RX3 (some .int) ({ frames := 4, cells := 0, slots := 0, locals := 90 } : Room) (fun g => some (.int r)) σ := hX
  have h0 := hX.1
  show Vx X g.1 1 (wsX g σ) 0 [(0, .ref (g.2.1 34))] []
  rw [FX3_sure] at hf
  refine vx_aload_n h0 dX3_sure_0 rfl ?_
  refine vx_iconst (v := (2 : Int32)) h0 dX3_sure_1 (by decide) ?_
  obtain ⟨r2, h1, hf⟩ := ob_some hf
  refine w_callV (st := []) (ci := 3) (q0 := 34) hX (c_X3_clausesOf h1) ce_X3_clausesOf q570 ⟨rfl, rfl⟩ ⟨by decide, by decide⟩ rfl rfl rfl rfl (xo_34 g _) rfl (Nat.le_of_ble_eq_true rfl) dX3_sure_2 ?_
  show Vx X g.1 1 (wsX g σ) 5 [(0, .ref (g.2.1 34))] [.int r2]
  exact w_iretP hX hf dX3_sure_5
def FX3_open (σ : SS) : Option (Int32) :=
  ob (FX3_clausesOf σ (1 : Int32)) (fun r2 => some r2)
set_option maxRecDepth 100000 in
set_option maxHeartbeats 4000000 in
theorem c_X3_open {σ : SS} {r : Int32} (hf : FX3_open σ = some r) : Mcw wsX yX3_open cX3_open 1 (some .int) ({ frames := 4, cells := 0, slots := 0, locals := 90 } : Room) (fun g => [.ref (g.2.1 34)]) σ (fun g => some (.int r)) σ := by
  refine w_enter wsX_fix (by decide) (fun g => Nat.le_of_ble_eq_true rfl) ?_
  intro X g hX
  replace hX : Okw wsX X g cX3_open 1 RX3 (some .int) ({ frames := 4, cells := 0, slots := 0, locals := 90 } : Room) (fun g => some (.int r)) σ := hX
  have h0 := hX.1
  show Vx X g.1 1 (wsX g σ) 0 [(0, .ref (g.2.1 34))] []
  rw [FX3_open] at hf
  refine vx_aload_n h0 dX3_open_0 rfl ?_
  refine vx_iconst (v := (1 : Int32)) h0 dX3_open_1 (by decide) ?_
  obtain ⟨r2, h1, hf⟩ := ob_some hf
  refine w_callV (st := []) (ci := 3) (q0 := 34) hX (c_X3_clausesOf h1) ce_X3_clausesOf q570 ⟨rfl, rfl⟩ ⟨by decide, by decide⟩ rfl rfl rfl rfl (xo_34 g _) rfl (Nat.le_of_ble_eq_true rfl) dX3_open_2 ?_
  show Vx X g.1 1 (wsX g σ) 5 [(0, .ref (g.2.1 34))] [.int r2]
  exact w_iretP hX hf dX3_open_5
def FX3_never (σ : SS) : Option (Int32) :=
  ob (FX3_clausesOf σ (0 : Int32)) (fun r2 => some r2)
set_option maxRecDepth 100000 in
set_option maxHeartbeats 4000000 in
theorem c_X3_never {σ : SS} {r : Int32} (hf : FX3_never σ = some r) : Mcw wsX yX3_never cX3_never 1 (some .int) ({ frames := 4, cells := 0, slots := 0, locals := 90 } : Room) (fun g => [.ref (g.2.1 34)]) σ (fun g => some (.int r)) σ := by
  refine w_enter wsX_fix (by decide) (fun g => Nat.le_of_ble_eq_true rfl) ?_
  intro X g hX
  replace hX : Okw wsX X g cX3_never 1 RX3 (some .int) ({ frames := 4, cells := 0, slots := 0, locals := 90 } : Room) (fun g => some (.int r)) σ := hX
  have h0 := hX.1
  show Vx X g.1 1 (wsX g σ) 0 [(0, .ref (g.2.1 34))] []
  rw [FX3_never] at hf
  refine vx_aload_n h0 dX3_never_0 rfl ?_
  refine vx_iconst (v := (0 : Int32)) h0 dX3_never_1 (by decide) ?_
  obtain ⟨r2, h1, hf⟩ := ob_some hf
  refine w_callV (st := []) (ci := 3) (q0 := 34) hX (c_X3_clausesOf h1) ce_X3_clausesOf q570 ⟨rfl, rfl⟩ ⟨by decide, by decide⟩ rfl rfl rfl rfl (xo_34 g _) rfl (Nat.le_of_ble_eq_true rfl) dX3_never_2 ?_
  show Vx X g.1 1 (wsX g σ) 5 [(0, .ref (g.2.1 34))] [.int r2]
  exact w_iretP hX hf dX3_never_5
def FJ13_bitCount_95d88 (σ : SS) (a0 : Int64) : Option (Int32) :=
  bd (a0 - ((jlushr a0 (1 : Int32)) &&& (6148914691236517205 : Int64))) (fun x1 => bd ((x1 &&& (3689348814741910323 : Int64)) + ((jlushr x1 (2 : Int32)) &&& (3689348814741910323 : Int64))) (fun x2 => bd ((x2 + (jlushr x2 (4 : Int32))) &&& (1085102592571150095 : Int64)) (fun x3 => bd ((x3 + (jlushr x3 (8 : Int32))) + (jlushr (x3 + (jlushr x3 (8 : Int32))) (16 : Int32))) (fun x4 => some ((Int64.toInt32 (x4 + (jlushr x4 (32 : Int32)))) &&& (127 : Int32))))))
set_option maxRecDepth 100000 in
set_option maxHeartbeats 4000000 in
theorem c_J13_bitCount_95d88 {σ : SS} {a0 : Int64} {r : Int32} (hf : FJ13_bitCount_95d88 σ a0 = some r) : Mcw wsX yJ13_bitCount_95d88 cJ13_bitCount_95d88 2 (some .int) ({ frames := 0, cells := 0, slots := 0, locals := 0 } : Room) (fun g => [.long a0]) σ (fun g => some (.int r)) σ := by
  refine w_enter wsX_fix (by decide) (fun g => Nat.le_of_ble_eq_true rfl) ?_
  intro X g hX
  replace hX : Okw wsX X g cJ13_bitCount_95d88 2 RJ13 (some .int) ({ frames := 0, cells := 0, slots := 0, locals := 0 } : Room) (fun g => some (.int r)) σ := hX
  have h0 := hX.1
  show Vx X g.1 2 (wsX g σ) 0 [(0, .long a0)] []
  rw [FJ13_bitCount_95d88] at hf
  refine vx_lload_n h0 dJ13_bitCount_95d88_0 rfl ?_
  refine vx_lload_n h0 dJ13_bitCount_95d88_1 rfl ?_
  refine vx_iconst (v := (1 : Int32)) h0 dJ13_bitCount_95d88_2 (by decide) ?_
  refine vx_lushr h0 dJ13_bitCount_95d88_3 ?_
  refine vx_ldc2 h0 q631 dJ13_bitCount_95d88_4 ?_
  refine vx_land h0 dJ13_bitCount_95d88_7 ?_
  refine vx_lsub h0 dJ13_bitCount_95d88_8 ?_
  generalize (a0 - ((jlushr a0 (1 : Int32)) &&& (6148914691236517205 : Int64))) = x1 at hf ⊢
  replace hf := bd_h hf
  refine vx_lstore_n (ls' := [(0, .long x1)]) h0 dJ13_bitCount_95d88_9 (by decide) rfl ?_
  refine vx_lload_n h0 dJ13_bitCount_95d88_10 rfl ?_
  refine vx_ldc2 h0 q632 dJ13_bitCount_95d88_11 ?_
  refine vx_land h0 dJ13_bitCount_95d88_14 ?_
  refine vx_lload_n h0 dJ13_bitCount_95d88_15 rfl ?_
  refine vx_iconst (v := (2 : Int32)) h0 dJ13_bitCount_95d88_16 (by decide) ?_
  refine vx_lushr h0 dJ13_bitCount_95d88_17 ?_
  refine vx_ldc2 h0 q632 dJ13_bitCount_95d88_18 ?_
  refine vx_land h0 dJ13_bitCount_95d88_21 ?_
  refine vx_ladd h0 dJ13_bitCount_95d88_22 ?_
  generalize ((x1 &&& (3689348814741910323 : Int64)) + ((jlushr x1 (2 : Int32)) &&& (3689348814741910323 : Int64))) = x2 at hf ⊢
  replace hf := bd_h hf
  refine vx_lstore_n (ls' := [(0, .long x2)]) h0 dJ13_bitCount_95d88_23 (by decide) rfl ?_
  refine vx_lload_n h0 dJ13_bitCount_95d88_24 rfl ?_
  refine vx_lload_n h0 dJ13_bitCount_95d88_25 rfl ?_
  refine vx_iconst (v := (4 : Int32)) h0 dJ13_bitCount_95d88_26 (by decide) ?_
  refine vx_lushr h0 dJ13_bitCount_95d88_27 ?_
  refine vx_ladd h0 dJ13_bitCount_95d88_28 ?_
  refine vx_ldc2 h0 q633 dJ13_bitCount_95d88_29 ?_
  refine vx_land h0 dJ13_bitCount_95d88_32 ?_
  generalize ((x2 + (jlushr x2 (4 : Int32))) &&& (1085102592571150095 : Int64)) = x3 at hf ⊢
  replace hf := bd_h hf
  refine vx_lstore_n (ls' := [(0, .long x3)]) h0 dJ13_bitCount_95d88_33 (by decide) rfl ?_
  refine vx_lload_n h0 dJ13_bitCount_95d88_34 rfl ?_
  refine vx_lload_n h0 dJ13_bitCount_95d88_35 rfl ?_
  refine vx_bipush (v := (8 : Int32)) h0 dJ13_bitCount_95d88_36 (by decide) ?_
  refine vx_lushr h0 dJ13_bitCount_95d88_38 ?_
  refine vx_ladd h0 dJ13_bitCount_95d88_39 ?_
  refine vx_lstore_n (ls' := [(0, .long (x3 + (jlushr x3 (8 : Int32))))]) h0 dJ13_bitCount_95d88_40 (by decide) rfl ?_
  refine vx_lload_n h0 dJ13_bitCount_95d88_41 rfl ?_
  refine vx_lload_n h0 dJ13_bitCount_95d88_42 rfl ?_
  refine vx_bipush (v := (16 : Int32)) h0 dJ13_bitCount_95d88_43 (by decide) ?_
  refine vx_lushr h0 dJ13_bitCount_95d88_45 ?_
  refine vx_ladd h0 dJ13_bitCount_95d88_46 ?_
  generalize ((x3 + (jlushr x3 (8 : Int32))) + (jlushr (x3 + (jlushr x3 (8 : Int32))) (16 : Int32))) = x4 at hf ⊢
  replace hf := bd_h hf
  refine vx_lstore_n (ls' := [(0, .long x4)]) h0 dJ13_bitCount_95d88_47 (by decide) rfl ?_
  refine vx_lload_n h0 dJ13_bitCount_95d88_48 rfl ?_
  refine vx_lload_n h0 dJ13_bitCount_95d88_49 rfl ?_
  refine vx_bipush (v := (32 : Int32)) h0 dJ13_bitCount_95d88_50 (by decide) ?_
  refine vx_lushr h0 dJ13_bitCount_95d88_52 ?_
  refine vx_ladd h0 dJ13_bitCount_95d88_53 ?_
  refine vx_lstore_n (ls' := [(0, .long (x4 + (jlushr x4 (32 : Int32))))]) h0 dJ13_bitCount_95d88_54 (by decide) rfl ?_
  refine vx_lload_n h0 dJ13_bitCount_95d88_55 rfl ?_
  refine vx_l2i h0 dJ13_bitCount_95d88_56 ?_
  refine vx_bipush (v := (127 : Int32)) h0 dJ13_bitCount_95d88_57 (by decide) ?_
  refine vx_iand h0 dJ13_bitCount_95d88_59 ?_
  exact w_iretP hX hf dJ13_bitCount_95d88_60
def FX3_brings (σ : SS) (a0 : Int32) : Option (Int32) :=
  ob (FX2_forceOf σ a0) (fun r2 => ob (FX3_possible σ) (fun r4 => ob (FJ13_bitCount_95d88 σ (r2 &&& r4)) (fun r6 => some r6)))
set_option maxRecDepth 100000 in
set_option maxHeartbeats 4000000 in
theorem c_X3_brings {σ : SS} {a0 : Int32} {r : Int32} (hf : FX3_brings σ a0 = some r) : Mcw wsX yX3_brings cX3_brings 2 (some .int) ({ frames := 2, cells := 0, slots := 0, locals := 45 } : Room) (fun g => [.ref (g.2.1 34), .int a0]) σ (fun g => some (.int r)) σ := by
  refine w_enter wsX_fix (by decide) (fun g => Nat.le_of_ble_eq_true rfl) ?_
  intro X g hX
  replace hX : Okw wsX X g cX3_brings 2 RX3 (some .int) ({ frames := 2, cells := 0, slots := 0, locals := 45 } : Room) (fun g => some (.int r)) σ := hX
  have h0 := hX.1
  show Vx X g.1 2 (wsX g σ) 0 [(0, .ref (g.2.1 34)), (1, .int a0)] []
  rw [FX3_brings] at hf
  refine vx_aload_n h0 dX3_brings_0 rfl ?_
  refine xg_34_1 hX q274 dX3_brings_1 ?_
  refine vx_iload_n h0 dX3_brings_4 rfl ?_
  obtain ⟨r2, h1, hf⟩ := ob_some hf
  refine w_callV (st := []) (ci := 2) (q0 := 28) hX (c_X2_forceOf h1) ce_X2_forceOf q587 ⟨rfl, rfl⟩ ⟨by decide, by decide⟩ rfl rfl rfl rfl (xo_28 g _) rfl (Nat.le_of_ble_eq_true rfl) dX3_brings_5 ?_
  show Vx X g.1 2 (wsX g σ) 8 [(0, .ref (g.2.1 34)), (1, .int a0)] [.long r2]
  refine vx_aload_n h0 dX3_brings_8 rfl ?_
  obtain ⟨r4, h3, hf⟩ := ob_some hf
  refine w_callV (st := [.long r2]) (ci := 3) (q0 := 34) hX (c_X3_possible h3) ce_X3_possible q578 ⟨rfl, rfl⟩ ⟨by decide, by decide⟩ rfl rfl rfl rfl (xo_34 g _) rfl (Nat.le_of_ble_eq_true rfl) dX3_brings_9 ?_
  show Vx X g.1 2 (wsX g σ) 12 [(0, .ref (g.2.1 34)), (1, .int a0)] [.long r4, .long r2]
  refine vx_land h0 dX3_brings_12 ?_
  obtain ⟨r6, h5, hf⟩ := ob_some hf
  refine w_callS (st := []) hX (c_J13_bitCount_95d88 h5) ce_J13_bitCount_95d88 q628 ⟨rfl, rfl⟩ ⟨by decide, by decide⟩ rfl rfl rfl (Nat.le_of_ble_eq_true rfl) dX3_brings_13 ?_
  show Vx X g.1 2 (wsX g σ) 16 [(0, .ref (g.2.1 34)), (1, .int a0)] [.int r6]
  exact w_iretP hX hf dX3_brings_16
def FX3_ways (σ : SS) : Option (Int32) :=
  ob (FX2_faultless σ) (fun r2 => ob (FX3_possible σ) (fun r4 => ob (FJ13_bitCount_95d88 σ (r2 &&& r4)) (fun r6 => some r6)))
set_option maxRecDepth 100000 in
set_option maxHeartbeats 4000000 in
theorem c_X3_ways {σ : SS} {r : Int32} (hf : FX3_ways σ = some r) : Mcw wsX yX3_ways cX3_ways 1 (some .int) ({ frames := 2, cells := 0, slots := 0, locals := 45 } : Room) (fun g => [.ref (g.2.1 34)]) σ (fun g => some (.int r)) σ := by
  refine w_enter wsX_fix (by decide) (fun g => Nat.le_of_ble_eq_true rfl) ?_
  intro X g hX
  replace hX : Okw wsX X g cX3_ways 1 RX3 (some .int) ({ frames := 2, cells := 0, slots := 0, locals := 45 } : Room) (fun g => some (.int r)) σ := hX
  have h0 := hX.1
  show Vx X g.1 1 (wsX g σ) 0 [(0, .ref (g.2.1 34))] []
  rw [FX3_ways] at hf
  refine vx_aload_n h0 dX3_ways_0 rfl ?_
  refine xg_34_1 hX q274 dX3_ways_1 ?_
  obtain ⟨r2, h1, hf⟩ := ob_some hf
  refine w_callV (st := []) (ci := 2) (q0 := 28) hX (c_X2_faultless h1) ce_X2_faultless q624 ⟨rfl, rfl⟩ ⟨by decide, by decide⟩ rfl rfl rfl rfl (xo_28 g _) rfl (Nat.le_of_ble_eq_true rfl) dX3_ways_4 ?_
  show Vx X g.1 1 (wsX g σ) 7 [(0, .ref (g.2.1 34))] [.long r2]
  refine vx_aload_n h0 dX3_ways_7 rfl ?_
  obtain ⟨r4, h3, hf⟩ := ob_some hf
  refine w_callV (st := [.long r2]) (ci := 3) (q0 := 34) hX (c_X3_possible h3) ce_X3_possible q578 ⟨rfl, rfl⟩ ⟨by decide, by decide⟩ rfl rfl rfl rfl (xo_34 g _) rfl (Nat.le_of_ble_eq_true rfl) dX3_ways_8 ?_
  show Vx X g.1 1 (wsX g σ) 11 [(0, .ref (g.2.1 34))] [.long r4, .long r2]
  refine vx_land h0 dX3_ways_11 ?_
  obtain ⟨r6, h5, hf⟩ := ob_some hf
  refine w_callS (st := []) hX (c_J13_bitCount_95d88 h5) ce_J13_bitCount_95d88 q628 ⟨rfl, rfl⟩ ⟨by decide, by decide⟩ rfl rfl rfl (Nat.le_of_ble_eq_true rfl) dX3_ways_12 ?_
  show Vx X g.1 1 (wsX g σ) 15 [(0, .ref (g.2.1 34))] [.int r6]
  exact w_iretP hX hf dX3_ways_15
def FX3_firstWay_L15 (σ : SS) (v1 : Int64) (k : Option (Int32)) : Nat → Int32 → Option (Int32)
  | 0, _ => none
  | n + 1, v3 => if (64 : Int32) ≤ v3 then k
    else ob (FX7_isSo σ v1 v3) (fun r7 => if r7 = 0 then FX3_firstWay_L15 σ v1 k n (v3 + (1 : Int32))
    else some v3)
set_option maxRecDepth 100000 in
set_option maxHeartbeats 4000000 in
theorem PX3_firstWay_L15 {X : Bx} {g : Gx} {r : Int32} {σ : SS} (hX : Okw wsX X g cX3_firstWay 4 RX3 (some .int) ({ frames := 2, cells := 0, slots := 0, locals := 45 } : Room) (fun g => some (.int r)) σ) {v1 : Int64} {k : Option (Int32)} (hk : k = some r → Vx X g.1 4 (wsX g σ) 37 [] []) : ∀ (n : Nat) (v3 : Int32), FX3_firstWay_L15 σ v1 k n v3 = some r → Vx X g.1 4 (wsX g σ) 15 [(1, .long v1), (3, .int v3)] [] := by
  have h0 := hX.1
  intro n
  induction n with
  | zero =>
    intro v3 hf
    rw [FX3_firstWay_L15] at hf
    cases hf
  | succ n ih =>
    intro v3 hf
    rw [FX3_firstWay_L15] at hf
    refine vx_iload_n h0 dX3_firstWay_15 rfl ?_
    refine vx_bipush (v := (64 : Int32)) h0 dX3_firstWay_16 (by decide) ?_
    refine vx_icmp_ge (tgt := 37) h0 dX3_firstWay_18 (by decide) (fun c5 => ?_) (fun c5 => ?_)
    · replace hf := (if_pos c5).symm.trans hf
      refine vx_sub [] rfl ?_
      exact hk hf
    · replace hf := (if_neg c5).symm.trans hf
      refine vx_lload_n h0 dX3_firstWay_21 rfl ?_
      refine vx_iload_n h0 dX3_firstWay_22 rfl ?_
      obtain ⟨r7, h6, hf⟩ := ob_some hf
      refine w_callSN (st := []) hX (c_X7_isSo h6) ce_X7_isSo q638 ⟨rfl, rfl⟩ ⟨by decide, by decide⟩ rfl rfl rfl (Nat.le_of_ble_eq_true rfl) dX3_firstWay_23 ?_
      show Vx X g.1 4 (wsX g σ) 26 [(1, .long v1), (3, .int v3)] [.int r7]
      refine vx_if_eq (tgt := 31) h0 dX3_firstWay_26 (by decide) (fun c8 => ?_) (fun c8 => ?_)
      · replace hf := (if_pos c8).symm.trans hf
        refine vx_iinc (q := 1) (v := (v3 + (1 : Int32))) (ls' := [(3, .int (v3 + (1 : Int32))), (1, .long v1)]) h0 dX3_firstWay_31 rfl rfl (by decide) rfl ?_
        refine vx_goto (tgt := 15) h0 dX3_firstWay_34 (by decide) ?_
        refine vx_sub [1, 0] rfl ?_
        exact ih _ hf
      · replace hf := (if_neg c8).symm.trans hf
        refine vx_iload_n h0 dX3_firstWay_29 rfl ?_
        exact w_iretP hX hf dX3_firstWay_30
def FX3_firstWay (σ : SS) : Option (Int32) :=
  ob (FX2_faultless σ) (fun r2 => ob (FX3_possible σ) (fun r4 => FX3_firstWay_L15 σ (r2 &&& r4) (some (-1 : Int32)) 5000 (0 : Int32)))
set_option maxRecDepth 100000 in
set_option maxHeartbeats 4000000 in
theorem c_X3_firstWay {σ : SS} {r : Int32} (hf : FX3_firstWay σ = some r) : Mcw wsX yX3_firstWay cX3_firstWay 4 (some .int) ({ frames := 2, cells := 0, slots := 0, locals := 45 } : Room) (fun g => [.ref (g.2.1 34)]) σ (fun g => some (.int r)) σ := by
  refine w_enter wsX_fix (by decide) (fun g => Nat.le_of_ble_eq_true rfl) ?_
  intro X g hX
  replace hX : Okw wsX X g cX3_firstWay 4 RX3 (some .int) ({ frames := 2, cells := 0, slots := 0, locals := 45 } : Room) (fun g => some (.int r)) σ := hX
  have h0 := hX.1
  show Vx X g.1 4 (wsX g σ) 0 [(0, .ref (g.2.1 34))] []
  rw [FX3_firstWay] at hf
  refine vx_aload_n h0 dX3_firstWay_0 rfl ?_
  refine xg_34_1 hX q274 dX3_firstWay_1 ?_
  obtain ⟨r2, h1, hf⟩ := ob_some hf
  refine w_callV (st := []) (ci := 2) (q0 := 28) hX (c_X2_faultless h1) ce_X2_faultless q624 ⟨rfl, rfl⟩ ⟨by decide, by decide⟩ rfl rfl rfl rfl (xo_28 g _) rfl (Nat.le_of_ble_eq_true rfl) dX3_firstWay_4 ?_
  show Vx X g.1 4 (wsX g σ) 7 [(0, .ref (g.2.1 34))] [.long r2]
  refine vx_aload_n h0 dX3_firstWay_7 rfl ?_
  obtain ⟨r4, h3, hf⟩ := ob_some hf
  refine w_callV (st := [.long r2]) (ci := 3) (q0 := 34) hX (c_X3_possible h3) ce_X3_possible q578 ⟨rfl, rfl⟩ ⟨by decide, by decide⟩ rfl rfl rfl rfl (xo_34 g _) rfl (Nat.le_of_ble_eq_true rfl) dX3_firstWay_8 ?_
  show Vx X g.1 4 (wsX g σ) 11 [(0, .ref (g.2.1 34))] [.long r4, .long r2]
  refine vx_land h0 dX3_firstWay_11 ?_
  refine vx_lstore_n (ls' := [(1, .long (r2 &&& r4)), (0, .ref (g.2.1 34))]) h0 dX3_firstWay_12 (by decide) rfl ?_
  refine vx_iconst (v := (0 : Int32)) h0 dX3_firstWay_13 (by decide) ?_
  refine vx_istore_n (ls' := [(3, .int (0 : Int32)), (1, .long (r2 &&& r4)), (0, .ref (g.2.1 34))]) h0 dX3_firstWay_14 (by decide) rfl ?_
  refine vx_sub [1, 0] rfl ?_
  refine PX3_firstWay_L15 hX (fun hf => ?_) _ _ hf
  refine vx_iconst (v := (-1 : Int32)) h0 dX3_firstWay_37 (by decide) ?_
  exact w_iretP hX hf dX3_firstWay_38
def FX3_mattersFor_L21 (σ : SS) (v2 : Int64) (v4 : Int64) (k : Int32 → Option (Int32)) : Nat → Int32 → Int32 → Option (Int32)
  | 0, _, _ => none
  | n + 1, v6, v7 => if (6 : Int32) ≤ v7 then k v6
    else gd (inb v7 6) (bd ((((jlushr v2 (jshl (1 : Int32) v7)) ^^^ v2) &&& ((yesT (Int32.toNatClampNeg v7)) ^^^ (-1 : Int64))) &&& v4) (fun x7 => ob (FX7_has σ (gI σ 60) v7) (fun r9 => if r9 = 0 then if (lg_cmp x7 (0 : Int64)) = 0 then FX3_mattersFor_L21 σ v2 v4 k n v6 (v7 + (1 : Int32))
    else FX3_mattersFor_L21 σ v2 v4 k n (v6 ||| (jshl (1 : Int32) v7)) (v7 + (1 : Int32))
    else FX3_mattersFor_L21 σ v2 v4 k n v6 (v7 + (1 : Int32)))))
set_option maxRecDepth 100000 in
set_option maxHeartbeats 4000000 in
theorem PX3_mattersFor_L21 {X : Bx} {g : Gx} {r : Int32} {σ : SS} (hX : Okw wsX X g cX3_mattersFor 10 RX3 (some .int) ({ frames := 2, cells := 0, slots := 0, locals := 45 } : Room) (fun g => some (.int r)) σ) {v2 : Int64} {v4 : Int64} {k : Int32 → Option (Int32)} (hk : ∀ (v6 : Int32), k v6 = some r → Vx X g.1 10 (wsX g σ) 89 [(6, .int v6)] []) : ∀ (n : Nat) (v6 : Int32) (v7 : Int32), FX3_mattersFor_L21 σ v2 v4 k n v6 v7 = some r → Vx X g.1 10 (wsX g σ) 21 [(0, .ref (g.2.1 34)), (2, .long v2), (4, .long v4), (6, .int v6), (7, .int v7)] [] := by
  have h0 := hX.1
  intro n
  induction n with
  | zero =>
    intro v6 v7 hf
    rw [FX3_mattersFor_L21] at hf
    cases hf
  | succ n ih =>
    intro v6 v7 hf
    rw [FX3_mattersFor_L21] at hf
    refine vx_iload h0 dX3_mattersFor_21 rfl ?_
    refine vx_bipush (v := (6 : Int32)) h0 dX3_mattersFor_23 (by decide) ?_
    refine vx_icmp_ge (tgt := 89) h0 dX3_mattersFor_25 (by decide) (fun c5 => ?_) (fun c5 => ?_)
    · replace hf := (if_pos c5).symm.trans hf
      refine vx_sub [3] rfl ?_
      exact hk _ hf
    · replace hf := (if_neg c5).symm.trans hf
      refine vx_lload_n h0 dX3_mattersFor_28 rfl ?_
      refine vx_iconst (v := (1 : Int32)) h0 dX3_mattersFor_29 (by decide) ?_
      refine vx_iload h0 dX3_mattersFor_30 rfl ?_
      refine vx_ishl h0 dX3_mattersFor_32 ?_
      refine vx_lushr h0 dX3_mattersFor_33 ?_
      refine vx_lload_n h0 dX3_mattersFor_34 rfl ?_
      refine vx_lxor h0 dX3_mattersFor_35 ?_
      refine w_getsN hX q617 dX3_mattersFor_36 ?_
      refine vx_iload h0 dX3_mattersFor_39 rfl ?_
      obtain ⟨b6, hf⟩ := gd_some hf
      refine w_tl hX b6 dX3_mattersFor_41 ?_
      refine vx_ldc2 h0 q618 dX3_mattersFor_42 ?_
      refine vx_lxor h0 dX3_mattersFor_45 ?_
      refine vx_land h0 dX3_mattersFor_46 ?_
      refine vx_lload h0 dX3_mattersFor_47 rfl ?_
      refine vx_land h0 dX3_mattersFor_49 ?_
      generalize ((((jlushr v2 (jshl (1 : Int32) v7)) ^^^ v2) &&& ((yesT (Int32.toNatClampNeg v7)) ^^^ (-1 : Int64))) &&& v4) = x7 at hf ⊢
      replace hf := bd_h hf
      refine vx_lstore (ls' := [(8, .long x7), (0, .ref (g.2.1 34)), (2, .long v2), (4, .long v4), (6, .int v6), (7, .int v7)]) h0 dX3_mattersFor_50 (by decide) rfl ?_
      refine vx_aload_n h0 dX3_mattersFor_52 rfl ?_
      refine xg_34_2 hX q275 dX3_mattersFor_53 ?_
      refine xg_24_0 hX q209 dX3_mattersFor_56 ?_
      refine vx_iload h0 dX3_mattersFor_59 rfl ?_
      obtain ⟨r9, h8, hf⟩ := ob_some hf
      refine w_callSN (st := []) hX (c_X7_has h8) ce_X7_has q619 ⟨rfl, rfl⟩ ⟨by decide, by decide⟩ rfl rfl rfl (Nat.le_of_ble_eq_true rfl) dX3_mattersFor_61 ?_
      show Vx X g.1 10 (wsX g σ) 64 [(8, .long x7), (0, .ref (g.2.1 34)), (2, .long v2), (4, .long v4), (6, .int v6), (7, .int v7)] [.int r9]
      refine vx_if_ne (tgt := 83) h0 dX3_mattersFor_64 (by decide) (fun c10 => ?_) (fun c10 => ?_)
      · replace hf := (if_neg c10).symm.trans hf
        refine vx_iinc (q := 5) (v := (v7 + (1 : Int32))) (ls' := [(7, .int (v7 + (1 : Int32))), (8, .long x7), (0, .ref (g.2.1 34)), (2, .long v2), (4, .long v4), (6, .int v6)]) h0 dX3_mattersFor_83 rfl rfl (by decide) rfl ?_
        refine vx_goto (tgt := 21) h0 dX3_mattersFor_86 (by decide) ?_
        refine vx_sub [2, 3, 4, 5, 0] rfl ?_
        exact ih _ _ hf
      · replace hf := (if_pos c10).symm.trans hf
        refine vx_lload h0 dX3_mattersFor_67 rfl ?_
        refine vx_lconst (v := (0 : Int64)) h0 dX3_mattersFor_69 (by decide) ?_
        refine vx_lcmp h0 dX3_mattersFor_70 ?_
        refine vx_if_eq (tgt := 83) h0 dX3_mattersFor_71 (by decide) (fun c11 => ?_) (fun c11 => ?_)
        · replace hf := (if_pos c11).symm.trans hf
          refine vx_iinc (q := 5) (v := (v7 + (1 : Int32))) (ls' := [(7, .int (v7 + (1 : Int32))), (8, .long x7), (0, .ref (g.2.1 34)), (2, .long v2), (4, .long v4), (6, .int v6)]) h0 dX3_mattersFor_83 rfl rfl (by decide) rfl ?_
          refine vx_goto (tgt := 21) h0 dX3_mattersFor_86 (by decide) ?_
          refine vx_sub [2, 3, 4, 5, 0] rfl ?_
          exact ih _ _ hf
        · replace hf := (if_neg c11).symm.trans hf
          refine vx_iload h0 dX3_mattersFor_74 rfl ?_
          refine vx_iconst (v := (1 : Int32)) h0 dX3_mattersFor_76 (by decide) ?_
          refine vx_iload h0 dX3_mattersFor_77 rfl ?_
          refine vx_ishl h0 dX3_mattersFor_79 ?_
          refine vx_ior h0 dX3_mattersFor_80 ?_
          refine vx_istore (ls' := [(6, .int (v6 ||| (jshl (1 : Int32) v7))), (8, .long x7), (0, .ref (g.2.1 34)), (2, .long v2), (4, .long v4), (7, .int v7)]) h0 dX3_mattersFor_81 (by decide) rfl ?_
          refine vx_iinc (q := 5) (v := (v7 + (1 : Int32))) (ls' := [(7, .int (v7 + (1 : Int32))), (6, .int (v6 ||| (jshl (1 : Int32) v7))), (8, .long x7), (0, .ref (g.2.1 34)), (2, .long v2), (4, .long v4)]) h0 dX3_mattersFor_83 rfl rfl (by decide) rfl ?_
          refine vx_goto (tgt := 21) h0 dX3_mattersFor_86 (by decide) ?_
          refine vx_sub [3, 4, 5, 1, 0] rfl ?_
          exact ih _ _ hf
def FX3_mattersFor (σ : SS) (a0 : Int32) : Option (Int32) :=
  ob (FX2_forceOf σ a0) (fun r2 => ob (FX3_possible σ) (fun r4 => FX3_mattersFor_L21 σ r2 r4 (fun u12 => some u12) 5000 (0 : Int32) (0 : Int32)))
set_option maxRecDepth 100000 in
set_option maxHeartbeats 4000000 in
theorem c_X3_mattersFor {σ : SS} {a0 : Int32} {r : Int32} (hf : FX3_mattersFor σ a0 = some r) : Mcw wsX yX3_mattersFor cX3_mattersFor 10 (some .int) ({ frames := 2, cells := 0, slots := 0, locals := 45 } : Room) (fun g => [.ref (g.2.1 34), .int a0]) σ (fun g => some (.int r)) σ := by
  refine w_enter wsX_fix (by decide) (fun g => Nat.le_of_ble_eq_true rfl) ?_
  intro X g hX
  replace hX : Okw wsX X g cX3_mattersFor 10 RX3 (some .int) ({ frames := 2, cells := 0, slots := 0, locals := 45 } : Room) (fun g => some (.int r)) σ := hX
  have h0 := hX.1
  show Vx X g.1 10 (wsX g σ) 0 [(0, .ref (g.2.1 34)), (1, .int a0)] []
  rw [FX3_mattersFor] at hf
  refine vx_aload_n h0 dX3_mattersFor_0 rfl ?_
  refine xg_34_1 hX q274 dX3_mattersFor_1 ?_
  refine vx_iload_n h0 dX3_mattersFor_4 rfl ?_
  obtain ⟨r2, h1, hf⟩ := ob_some hf
  refine w_callV (st := []) (ci := 2) (q0 := 28) hX (c_X2_forceOf h1) ce_X2_forceOf q587 ⟨rfl, rfl⟩ ⟨by decide, by decide⟩ rfl rfl rfl rfl (xo_28 g _) rfl (Nat.le_of_ble_eq_true rfl) dX3_mattersFor_5 ?_
  show Vx X g.1 10 (wsX g σ) 8 [(0, .ref (g.2.1 34)), (1, .int a0)] [.long r2]
  refine vx_lstore_n (ls' := [(2, .long r2), (0, .ref (g.2.1 34)), (1, .int a0)]) h0 dX3_mattersFor_8 (by decide) rfl ?_
  refine vx_aload_n h0 dX3_mattersFor_9 rfl ?_
  obtain ⟨r4, h3, hf⟩ := ob_some hf
  refine w_callV (st := []) (ci := 3) (q0 := 34) hX (c_X3_possible h3) ce_X3_possible q578 ⟨rfl, rfl⟩ ⟨by decide, by decide⟩ rfl rfl rfl rfl (xo_34 g _) rfl (Nat.le_of_ble_eq_true rfl) dX3_mattersFor_10 ?_
  show Vx X g.1 10 (wsX g σ) 13 [(2, .long r2), (0, .ref (g.2.1 34)), (1, .int a0)] [.long r4]
  refine vx_lstore (ls' := [(4, .long r4), (2, .long r2), (0, .ref (g.2.1 34)), (1, .int a0)]) h0 dX3_mattersFor_13 (by decide) rfl ?_
  refine vx_iconst (v := (0 : Int32)) h0 dX3_mattersFor_15 (by decide) ?_
  refine vx_istore (ls' := [(6, .int (0 : Int32)), (4, .long r4), (2, .long r2), (0, .ref (g.2.1 34)), (1, .int a0)]) h0 dX3_mattersFor_16 (by decide) rfl ?_
  refine vx_iconst (v := (0 : Int32)) h0 dX3_mattersFor_18 (by decide) ?_
  refine vx_istore (ls' := [(7, .int (0 : Int32)), (6, .int (0 : Int32)), (4, .long r4), (2, .long r2), (0, .ref (g.2.1 34)), (1, .int a0)]) h0 dX3_mattersFor_19 (by decide) rfl ?_
  refine vx_sub [4, 3, 2, 1, 0] rfl ?_
  refine PX3_mattersFor_L21 hX (fun u12 hf => ?_) _ _ _ hf
  refine vx_iload h0 dX3_mattersFor_89 rfl ?_
  exact w_iretP hX hf dX3_mattersFor_91
def FX3_matters_L4 (σ : SS) (k : Int32 → Option (Int32)) : Nat → Int32 → Int32 → Option (Int32)
  | 0, _, _ => none
  | n + 1, v1, v2 => if (gI σ 40) ≤ v2 then k v1
    else ob (FX3_mattersFor σ v2) (fun r3 => FX3_matters_L4 σ k n (v1 ||| r3) (v2 + (1 : Int32)))
set_option maxRecDepth 100000 in
set_option maxHeartbeats 4000000 in
theorem PX3_matters_L4 {X : Bx} {g : Gx} {r : Int32} {σ : SS} (hX : Okw wsX X g cX3_matters 3 RX3 (some .int) ({ frames := 3, cells := 0, slots := 0, locals := 74 } : Room) (fun g => some (.int r)) σ) {k : Int32 → Option (Int32)} (hk : ∀ (v1 : Int32), k v1 = some r → Vx X g.1 3 (wsX g σ) 29 [(1, .int v1)] []) : ∀ (n : Nat) (v1 : Int32) (v2 : Int32), FX3_matters_L4 σ k n v1 v2 = some r → Vx X g.1 3 (wsX g σ) 4 [(0, .ref (g.2.1 34)), (1, .int v1), (2, .int v2)] [] := by
  have h0 := hX.1
  intro n
  induction n with
  | zero =>
    intro v1 v2 hf
    rw [FX3_matters_L4] at hf
    cases hf
  | succ n ih =>
    intro v1 v2 hf
    rw [FX3_matters_L4] at hf
    refine vx_iload_n h0 dX3_matters_4 rfl ?_
    refine vx_aload_n h0 dX3_matters_5 rfl ?_
    refine xg_34_0 hX q273 dX3_matters_6 ?_
    refine xg_14_0 hX q104 dX3_matters_9 ?_
    refine vx_icmp_ge (tgt := 29) h0 dX3_matters_12 (by decide) (fun c1 => ?_) (fun c1 => ?_)
    · replace hf := (if_pos c1).symm.trans hf
      refine vx_sub [1] rfl ?_
      exact hk _ hf
    · replace hf := (if_neg c1).symm.trans hf
      refine vx_iload_n h0 dX3_matters_15 rfl ?_
      refine vx_aload_n h0 dX3_matters_16 rfl ?_
      refine vx_iload_n h0 dX3_matters_17 rfl ?_
      obtain ⟨r3, h2, hf⟩ := ob_some hf
      refine w_callV (st := [.int v1]) (ci := 3) (q0 := 34) hX (c_X3_mattersFor h2) ce_X3_mattersFor q613 ⟨rfl, rfl⟩ ⟨by decide, by decide⟩ rfl rfl rfl rfl (xo_34 g _) rfl (Nat.le_of_ble_eq_true rfl) dX3_matters_18 ?_
      show Vx X g.1 3 (wsX g σ) 21 [(0, .ref (g.2.1 34)), (1, .int v1), (2, .int v2)] [.int r3, .int v1]
      refine vx_ior h0 dX3_matters_21 ?_
      refine vx_istore_n (ls' := [(1, .int (v1 ||| r3)), (0, .ref (g.2.1 34)), (2, .int v2)]) h0 dX3_matters_22 (by decide) rfl ?_
      refine vx_iinc (q := 2) (v := (v2 + (1 : Int32))) (ls' := [(2, .int (v2 + (1 : Int32))), (1, .int (v1 ||| r3)), (0, .ref (g.2.1 34))]) h0 dX3_matters_23 rfl rfl (by decide) rfl ?_
      refine vx_goto (tgt := 4) h0 dX3_matters_26 (by decide) ?_
      refine vx_sub [2, 1, 0] rfl ?_
      exact ih _ _ hf
def FX3_matters (σ : SS) : Option (Int32) :=
  FX3_matters_L4 σ (fun u4 => some u4) 5000 (0 : Int32) (0 : Int32)
set_option maxRecDepth 100000 in
set_option maxHeartbeats 4000000 in
theorem c_X3_matters {σ : SS} {r : Int32} (hf : FX3_matters σ = some r) : Mcw wsX yX3_matters cX3_matters 3 (some .int) ({ frames := 3, cells := 0, slots := 0, locals := 74 } : Room) (fun g => [.ref (g.2.1 34)]) σ (fun g => some (.int r)) σ := by
  refine w_enter wsX_fix (by decide) (fun g => Nat.le_of_ble_eq_true rfl) ?_
  intro X g hX
  replace hX : Okw wsX X g cX3_matters 3 RX3 (some .int) ({ frames := 3, cells := 0, slots := 0, locals := 74 } : Room) (fun g => some (.int r)) σ := hX
  have h0 := hX.1
  show Vx X g.1 3 (wsX g σ) 0 [(0, .ref (g.2.1 34))] []
  rw [FX3_matters] at hf
  refine vx_iconst (v := (0 : Int32)) h0 dX3_matters_0 (by decide) ?_
  refine vx_istore_n (ls' := [(1, .int (0 : Int32)), (0, .ref (g.2.1 34))]) h0 dX3_matters_1 (by decide) rfl ?_
  refine vx_iconst (v := (0 : Int32)) h0 dX3_matters_2 (by decide) ?_
  refine vx_istore_n (ls' := [(2, .int (0 : Int32)), (1, .int (0 : Int32)), (0, .ref (g.2.1 34))]) h0 dX3_matters_3 (by decide) rfl ?_
  refine vx_sub [2, 1, 0] rfl ?_
  refine PX3_matters_L4 hX (fun u4 hf => ?_) _ _ _ hf
  refine vx_iload_n h0 dX3_matters_29 rfl ?_
  exact w_iretP hX hf dX3_matters_30
def FX3_couldSettle_L2 (σ : SS) (v1 : Int32) (v2 : Int32) (k : Option (Int32)) : Nat → Int32 → Option (Int32)
  | 0, _ => none
  | n + 1, v3 => if (64 : Int32) ≤ v3 then k
    else if (v3 &&& (v2 ^^^ (-1 : Int32))) = 0 then ob (FX7_agreeing σ ((gI σ 60) ||| v2) ((gI σ 61) ||| v3)) (fun r4 => ob (FX3_suretyAmong σ v1 r4) (fun r6 => if r6 = (1 : Int32) then FX3_couldSettle_L2 σ v1 v2 k n (v3 + (1 : Int32))
    else some (1 : Int32)))
    else FX3_couldSettle_L2 σ v1 v2 k n (v3 + (1 : Int32))
set_option maxRecDepth 100000 in
set_option maxHeartbeats 4000000 in
theorem PX3_couldSettle_L2 {X : Bx} {g : Gx} {r : Int32} {σ : SS} (hX : Okw wsX X g cX3_couldSettle 6 RX3 (some .boolean) ({ frames := 2, cells := 0, slots := 0, locals := 46 } : Room) (fun g => some (.int r)) σ) {v1 : Int32} {v2 : Int32} {k : Option (Int32)} (hk : k = some r → Vx X g.1 6 (wsX g σ) 58 [] []) : ∀ (n : Nat) (v3 : Int32), FX3_couldSettle_L2 σ v1 v2 k n v3 = some r → Vx X g.1 6 (wsX g σ) 2 [(0, .ref (g.2.1 34)), (1, .int v1), (2, .int v2), (3, .int v3)] [] := by
  have h0 := hX.1
  intro n
  induction n with
  | zero =>
    intro v3 hf
    rw [FX3_couldSettle_L2] at hf
    cases hf
  | succ n ih =>
    intro v3 hf
    rw [FX3_couldSettle_L2] at hf
    refine vx_iload_n h0 dX3_couldSettle_2 rfl ?_
    refine vx_bipush (v := (64 : Int32)) h0 dX3_couldSettle_3 (by decide) ?_
    refine vx_icmp_ge (tgt := 58) h0 dX3_couldSettle_5 (by decide) (fun c1 => ?_) (fun c1 => ?_)
    · replace hf := (if_pos c1).symm.trans hf
      refine vx_sub [] rfl ?_
      exact hk hf
    · replace hf := (if_neg c1).symm.trans hf
      refine vx_iload_n h0 dX3_couldSettle_8 rfl ?_
      refine vx_iload_n h0 dX3_couldSettle_9 rfl ?_
      refine vx_iconst (v := (-1 : Int32)) h0 dX3_couldSettle_10 (by decide) ?_
      refine vx_ixor h0 dX3_couldSettle_11 ?_
      refine vx_iand h0 dX3_couldSettle_12 ?_
      refine vx_if_ne (tgt := 52) h0 dX3_couldSettle_13 (by decide) (fun c2 => ?_) (fun c2 => ?_)
      · replace hf := (if_neg c2).symm.trans hf
        refine vx_iinc (q := 3) (v := (v3 + (1 : Int32))) (ls' := [(3, .int (v3 + (1 : Int32))), (0, .ref (g.2.1 34)), (1, .int v1), (2, .int v2)]) h0 dX3_couldSettle_52 rfl rfl (by decide) rfl ?_
        refine vx_goto (tgt := 2) h0 dX3_couldSettle_55 (by decide) ?_
        refine vx_sub [1, 2, 3, 0] rfl ?_
        exact ih _ hf
      · replace hf := (if_pos c2).symm.trans hf
        refine vx_aload_n h0 dX3_couldSettle_16 rfl ?_
        refine xg_34_2 hX q275 dX3_couldSettle_17 ?_
        refine xg_24_0 hX q209 dX3_couldSettle_20 ?_
        refine vx_iload_n h0 dX3_couldSettle_23 rfl ?_
        refine vx_ior h0 dX3_couldSettle_24 ?_
        refine vx_aload_n h0 dX3_couldSettle_25 rfl ?_
        refine xg_34_2 hX q275 dX3_couldSettle_26 ?_
        refine xg_24_1 hX q211 dX3_couldSettle_29 ?_
        refine vx_iload_n h0 dX3_couldSettle_32 rfl ?_
        refine vx_ior h0 dX3_couldSettle_33 ?_
        obtain ⟨r4, h3, hf⟩ := ob_some hf
        refine w_callSN (st := []) hX (c_X7_agreeing h3) ce_X7_agreeing q582 ⟨rfl, rfl⟩ ⟨by decide, by decide⟩ rfl rfl rfl (Nat.le_of_ble_eq_true rfl) dX3_couldSettle_34 ?_
        show Vx X g.1 6 (wsX g σ) 37 [(0, .ref (g.2.1 34)), (1, .int v1), (2, .int v2), (3, .int v3)] [.long r4]
        refine vx_lstore (ls' := [(4, .long r4), (0, .ref (g.2.1 34)), (1, .int v1), (2, .int v2), (3, .int v3)]) h0 dX3_couldSettle_37 (by decide) rfl ?_
        refine vx_aload_n h0 dX3_couldSettle_39 rfl ?_
        refine vx_iload_n h0 dX3_couldSettle_40 rfl ?_
        refine vx_lload h0 dX3_couldSettle_41 rfl ?_
        obtain ⟨r6, h5, hf⟩ := ob_some hf
        refine w_callV (st := []) (ci := 3) (q0 := 34) hX (c_X3_suretyAmong h5) ce_X3_suretyAmong q583 ⟨rfl, rfl⟩ ⟨by decide, by decide⟩ rfl rfl rfl rfl (xo_34 g _) rfl (Nat.le_of_ble_eq_true rfl) dX3_couldSettle_43 ?_
        show Vx X g.1 6 (wsX g σ) 46 [(4, .long r4), (0, .ref (g.2.1 34)), (1, .int v1), (2, .int v2), (3, .int v3)] [.int r6]
        refine vx_iconst (v := (1 : Int32)) h0 dX3_couldSettle_46 (by decide) ?_
        refine vx_icmp_eq (tgt := 52) h0 dX3_couldSettle_47 (by decide) (fun c7 => ?_) (fun c7 => ?_)
        · replace hf := (if_pos c7).symm.trans hf
          refine vx_iinc (q := 4) (v := (v3 + (1 : Int32))) (ls' := [(3, .int (v3 + (1 : Int32))), (4, .long r4), (0, .ref (g.2.1 34)), (1, .int v1), (2, .int v2)]) h0 dX3_couldSettle_52 rfl rfl (by decide) rfl ?_
          refine vx_goto (tgt := 2) h0 dX3_couldSettle_55 (by decide) ?_
          refine vx_sub [2, 3, 4, 0] rfl ?_
          exact ih _ hf
        · replace hf := (if_neg c7).symm.trans hf
          refine vx_iconst (v := (1 : Int32)) h0 dX3_couldSettle_50 (by decide) ?_
          exact w_zretP hX hf rfl dX3_couldSettle_51
def FX3_couldSettle (σ : SS) (a0 : Int32) (a1 : Int32) : Option (Int32) :=
  FX3_couldSettle_L2 σ a0 a1 (some (0 : Int32)) 5000 (0 : Int32)
set_option maxRecDepth 100000 in
set_option maxHeartbeats 4000000 in
theorem c_X3_couldSettle {σ : SS} {a0 : Int32} {a1 : Int32} {r : Int32} (hf : FX3_couldSettle σ a0 a1 = some r) : Mcw wsX yX3_couldSettle cX3_couldSettle 6 (some .boolean) ({ frames := 2, cells := 0, slots := 0, locals := 46 } : Room) (fun g => [.ref (g.2.1 34), .int a0, .int a1]) σ (fun g => some (.int r)) σ := by
  refine w_enter wsX_fix (by decide) (fun g => Nat.le_of_ble_eq_true rfl) ?_
  intro X g hX
  replace hX : Okw wsX X g cX3_couldSettle 6 RX3 (some .boolean) ({ frames := 2, cells := 0, slots := 0, locals := 46 } : Room) (fun g => some (.int r)) σ := hX
  have h0 := hX.1
  show Vx X g.1 6 (wsX g σ) 0 [(0, .ref (g.2.1 34)), (1, .int a0), (2, .int a1)] []
  rw [FX3_couldSettle] at hf
  refine vx_iconst (v := (0 : Int32)) h0 dX3_couldSettle_0 (by decide) ?_
  refine vx_istore_n (ls' := [(3, .int (0 : Int32)), (0, .ref (g.2.1 34)), (1, .int a0), (2, .int a1)]) h0 dX3_couldSettle_1 (by decide) rfl ?_
  refine vx_sub [1, 2, 3, 0] rfl ?_
  refine PX3_couldSettle_L2 hX (fun hf => ?_) _ _ hf
  refine vx_iconst (v := (0 : Int32)) h0 dX3_couldSettle_58 (by decide) ?_
  exact w_zretP hX hf rfl dX3_couldSettle_59
def FX3_settles_J39 (σ : SS) (rec : Int32 → Int32 → Option (Int32)) (v1 : Int32) (v2 : Int32) (v3 : Int32) (s0 : Int32) : Option (Int32) :=
  if s0 = 0 then rec v2 (v3 + (1 : Int32))
    else ob (FJ6_bitCount_0f7a4 σ v3) (fun r7 => if v2 ≤ r7 then rec v2 (v3 + (1 : Int32))
    else ob (FX3_couldSettle σ v1 v3) (fun r10 => if r10 = 0 then rec v2 (v3 + (1 : Int32))
    else ob (FJ6_bitCount_0f7a4 σ v3) (fun r13 => rec r13 (v3 + (1 : Int32)))))
set_option maxRecDepth 100000 in
set_option maxHeartbeats 4000000 in
theorem PX3_settles_J39 {X : Bx} {g : Gx} {r : Int32} {σ : SS} (hX : Okw wsX X g cX3_settles 5 RX3 (some .int) ({ frames := 3, cells := 0, slots := 0, locals := 71 } : Room) (fun g => some (.int r)) σ) {rec : Int32 → Int32 → Option (Int32)} {v1 : Int32} {v2 : Int32} {v3 : Int32} {s0 : Int32} (hrec : ∀ (w2 : Int32) (w3 : Int32), rec w2 w3 = some r → Vx X g.1 5 (wsX g σ) 16 [(0, .ref (g.2.1 34)), (1, .int v1), (2, .int w2), (3, .int w3)] []) (hf : FX3_settles_J39 σ rec v1 v2 v3 s0 = some r) : Vx X g.1 5 (wsX g σ) 39 [(0, .ref (g.2.1 34)), (1, .int v1), (2, .int v2), (3, .int v3)] [.int s0] := by
  have h0 := hX.1
  rw [FX3_settles_J39] at hf
  refine vx_istore (ls' := [(4, .int s0), (0, .ref (g.2.1 34)), (1, .int v1), (2, .int v2), (3, .int v3)]) h0 dX3_settles_39 (by decide) rfl ?_
  refine vx_iload h0 dX3_settles_41 rfl ?_
  refine vx_if_eq (tgt := 68) h0 dX3_settles_43 (by decide) (fun c5 => ?_) (fun c5 => ?_)
  · replace hf := (if_pos c5).symm.trans hf
    refine vx_iinc (q := 4) (v := (v3 + (1 : Int32))) (ls' := [(3, .int (v3 + (1 : Int32))), (4, .int s0), (0, .ref (g.2.1 34)), (1, .int v1), (2, .int v2)]) h0 dX3_settles_68 rfl rfl (by decide) rfl ?_
    refine vx_goto (tgt := 16) h0 dX3_settles_71 (by decide) ?_
    refine vx_sub [2, 3, 4, 0] rfl ?_
    exact hrec _ _ hf
  · replace hf := (if_neg c5).symm.trans hf
    refine vx_iload_n h0 dX3_settles_46 rfl ?_
    obtain ⟨r7, h6, hf⟩ := ob_some hf
    refine w_callS (st := []) hX (c_J6_bitCount_0f7a4 h6) ce_J6_bitCount_0f7a4 q736 ⟨rfl, rfl⟩ ⟨by decide, by decide⟩ rfl rfl rfl (Nat.le_of_ble_eq_true rfl) dX3_settles_47 ?_
    show Vx X g.1 5 (wsX g σ) 50 [(4, .int s0), (0, .ref (g.2.1 34)), (1, .int v1), (2, .int v2), (3, .int v3)] [.int r7]
    refine vx_iload_n h0 dX3_settles_50 rfl ?_
    refine vx_icmp_ge (tgt := 68) h0 dX3_settles_51 (by decide) (fun c8 => ?_) (fun c8 => ?_)
    · replace hf := (if_pos c8).symm.trans hf
      refine vx_iinc (q := 4) (v := (v3 + (1 : Int32))) (ls' := [(3, .int (v3 + (1 : Int32))), (4, .int s0), (0, .ref (g.2.1 34)), (1, .int v1), (2, .int v2)]) h0 dX3_settles_68 rfl rfl (by decide) rfl ?_
      refine vx_goto (tgt := 16) h0 dX3_settles_71 (by decide) ?_
      refine vx_sub [2, 3, 4, 0] rfl ?_
      exact hrec _ _ hf
    · replace hf := (if_neg c8).symm.trans hf
      refine vx_aload_n h0 dX3_settles_54 rfl ?_
      refine vx_iload_n h0 dX3_settles_55 rfl ?_
      refine vx_iload_n h0 dX3_settles_56 rfl ?_
      obtain ⟨r10, h9, hf⟩ := ob_some hf
      refine w_callV (st := []) (ci := 3) (q0 := 34) hX (c_X3_couldSettle h9) ce_X3_couldSettle q737 ⟨rfl, rfl⟩ ⟨by decide, by decide⟩ rfl rfl rfl rfl (xo_34 g _) rfl (Nat.le_of_ble_eq_true rfl) dX3_settles_57 ?_
      show Vx X g.1 5 (wsX g σ) 60 [(4, .int s0), (0, .ref (g.2.1 34)), (1, .int v1), (2, .int v2), (3, .int v3)] [.int r10]
      refine vx_if_eq (tgt := 68) h0 dX3_settles_60 (by decide) (fun c11 => ?_) (fun c11 => ?_)
      · replace hf := (if_pos c11).symm.trans hf
        refine vx_iinc (q := 4) (v := (v3 + (1 : Int32))) (ls' := [(3, .int (v3 + (1 : Int32))), (4, .int s0), (0, .ref (g.2.1 34)), (1, .int v1), (2, .int v2)]) h0 dX3_settles_68 rfl rfl (by decide) rfl ?_
        refine vx_goto (tgt := 16) h0 dX3_settles_71 (by decide) ?_
        refine vx_sub [2, 3, 4, 0] rfl ?_
        exact hrec _ _ hf
      · replace hf := (if_neg c11).symm.trans hf
        refine vx_iload_n h0 dX3_settles_63 rfl ?_
        obtain ⟨r13, h12, hf⟩ := ob_some hf
        refine w_callS (st := []) hX (c_J6_bitCount_0f7a4 h12) ce_J6_bitCount_0f7a4 q736 ⟨rfl, rfl⟩ ⟨by decide, by decide⟩ rfl rfl rfl (Nat.le_of_ble_eq_true rfl) dX3_settles_64 ?_
        show Vx X g.1 5 (wsX g σ) 67 [(4, .int s0), (0, .ref (g.2.1 34)), (1, .int v1), (2, .int v2), (3, .int v3)] [.int r13]
        refine vx_istore_n (ls' := [(2, .int r13), (4, .int s0), (0, .ref (g.2.1 34)), (1, .int v1), (3, .int v3)]) h0 dX3_settles_67 (by decide) rfl ?_
        refine vx_iinc (q := 4) (v := (v3 + (1 : Int32))) (ls' := [(3, .int (v3 + (1 : Int32))), (2, .int r13), (4, .int s0), (0, .ref (g.2.1 34)), (1, .int v1)]) h0 dX3_settles_68 rfl rfl (by decide) rfl ?_
        refine vx_goto (tgt := 16) h0 dX3_settles_71 (by decide) ?_
        refine vx_sub [3, 4, 1, 0] rfl ?_
        exact hrec _ _ hf
def FX3_settles_L16 (σ : SS) (v1 : Int32) (k : Int32 → Option (Int32)) : Nat → Int32 → Int32 → Option (Int32)
  | 0, _, _ => none
  | n + 1, v2, v3 => if (64 : Int32) ≤ v3 then k v2
    else if (v3 &&& (gI σ 60)) = 0 then FX3_settles_J39 σ (fun a16 a17 => FX3_settles_L16 σ v1 k n a16 a17) v1 v2 v3 (1 : Int32)
    else FX3_settles_J39 σ (fun a14 a15 => FX3_settles_L16 σ v1 k n a14 a15) v1 v2 v3 (0 : Int32)
set_option maxRecDepth 100000 in
set_option maxHeartbeats 4000000 in
theorem PX3_settles_L16 {X : Bx} {g : Gx} {r : Int32} {σ : SS} (hX : Okw wsX X g cX3_settles 5 RX3 (some .int) ({ frames := 3, cells := 0, slots := 0, locals := 71 } : Room) (fun g => some (.int r)) σ) {v1 : Int32} {k : Int32 → Option (Int32)} (hk : ∀ (v2 : Int32), k v2 = some r → Vx X g.1 5 (wsX g σ) 74 [(2, .int v2)] []) : ∀ (n : Nat) (v2 : Int32) (v3 : Int32), FX3_settles_L16 σ v1 k n v2 v3 = some r → Vx X g.1 5 (wsX g σ) 16 [(0, .ref (g.2.1 34)), (1, .int v1), (2, .int v2), (3, .int v3)] [] := by
  have h0 := hX.1
  intro n
  induction n with
  | zero =>
    intro v2 v3 hf
    rw [FX3_settles_L16] at hf
    cases hf
  | succ n ih =>
    intro v2 v3 hf
    rw [FX3_settles_L16] at hf
    refine vx_iload_n h0 dX3_settles_16 rfl ?_
    refine vx_bipush (v := (64 : Int32)) h0 dX3_settles_17 (by decide) ?_
    refine vx_icmp_ge (tgt := 74) h0 dX3_settles_19 (by decide) (fun c3 => ?_) (fun c3 => ?_)
    · replace hf := (if_pos c3).symm.trans hf
      refine vx_sub [2] rfl ?_
      exact hk _ hf
    · replace hf := (if_neg c3).symm.trans hf
      refine vx_iload_n h0 dX3_settles_22 rfl ?_
      refine vx_aload_n h0 dX3_settles_23 rfl ?_
      refine xg_34_2 hX q275 dX3_settles_24 ?_
      refine xg_24_0 hX q209 dX3_settles_27 ?_
      refine vx_iand h0 dX3_settles_30 ?_
      refine vx_if_ne (tgt := 38) h0 dX3_settles_31 (by decide) (fun c4 => ?_) (fun c4 => ?_)
      · replace hf := (if_neg c4).symm.trans hf
        refine vx_iconst (v := (0 : Int32)) h0 dX3_settles_38 (by decide) ?_
        exact PX3_settles_J39 hX (fun a14 a15 hf => ih a14 a15 hf) hf
      · replace hf := (if_pos c4).symm.trans hf
        refine vx_iconst (v := (1 : Int32)) h0 dX3_settles_34 (by decide) ?_
        refine vx_goto (tgt := 39) h0 dX3_settles_35 (by decide) ?_
        exact PX3_settles_J39 hX (fun a16 a17 hf => ih a16 a17 hf) hf
def FX3_settles (σ : SS) (a0 : Int32) : Option (Int32) :=
  ob (FJ6_bitCount_0f7a4 σ (gI σ 60)) (fun r2 => FX3_settles_L16 σ a0 (fun u18 => some u18) 5000 ((6 : Int32) - r2) (0 : Int32))
set_option maxRecDepth 100000 in
set_option maxHeartbeats 4000000 in
theorem c_X3_settles {σ : SS} {a0 : Int32} {r : Int32} (hf : FX3_settles σ a0 = some r) : Mcw wsX yX3_settles cX3_settles 5 (some .int) ({ frames := 3, cells := 0, slots := 0, locals := 71 } : Room) (fun g => [.ref (g.2.1 34), .int a0]) σ (fun g => some (.int r)) σ := by
  refine w_enter wsX_fix (by decide) (fun g => Nat.le_of_ble_eq_true rfl) ?_
  intro X g hX
  replace hX : Okw wsX X g cX3_settles 5 RX3 (some .int) ({ frames := 3, cells := 0, slots := 0, locals := 71 } : Room) (fun g => some (.int r)) σ := hX
  have h0 := hX.1
  show Vx X g.1 5 (wsX g σ) 0 [(0, .ref (g.2.1 34)), (1, .int a0)] []
  rw [FX3_settles] at hf
  refine vx_bipush (v := (6 : Int32)) h0 dX3_settles_0 (by decide) ?_
  refine vx_aload_n h0 dX3_settles_2 rfl ?_
  refine xg_34_2 hX q275 dX3_settles_3 ?_
  refine xg_24_0 hX q209 dX3_settles_6 ?_
  obtain ⟨r2, h1, hf⟩ := ob_some hf
  refine w_callS (st := [.int (6 : Int32)]) hX (c_J6_bitCount_0f7a4 h1) ce_J6_bitCount_0f7a4 q736 ⟨rfl, rfl⟩ ⟨by decide, by decide⟩ rfl rfl rfl (Nat.le_of_ble_eq_true rfl) dX3_settles_9 ?_
  show Vx X g.1 5 (wsX g σ) 12 [(0, .ref (g.2.1 34)), (1, .int a0)] [.int r2, .int (6 : Int32)]
  refine vx_isub h0 dX3_settles_12 ?_
  refine vx_istore_n (ls' := [(2, .int ((6 : Int32) - r2)), (0, .ref (g.2.1 34)), (1, .int a0)]) h0 dX3_settles_13 (by decide) rfl ?_
  refine vx_iconst (v := (0 : Int32)) h0 dX3_settles_14 (by decide) ?_
  refine vx_istore_n (ls' := [(3, .int (0 : Int32)), (2, .int ((6 : Int32) - r2)), (0, .ref (g.2.1 34)), (1, .int a0)]) h0 dX3_settles_15 (by decide) rfl ?_
  refine vx_sub [2, 3, 1, 0] rfl ?_
  refine PX3_settles_L16 hX (fun u18 hf => ?_) _ _ _ hf
  refine vx_iload_n h0 dX3_settles_74 rfl ?_
  exact w_iretP hX hf dX3_settles_75
def FX4_takeLetter (σ : SS) (a0 : Int32) : Option (Int32 × SS) :=
  if (gI σ 10) < (240 : Int32) then gd (inb (gI σ 10) 240) (bd (sA σ 13 (upd (gA σ 13) (Int32.toNatClampNeg (gI σ 10)) a0)) (fun σ3 => bd (sI σ3 10 ((gI σ3 10) + (1 : Int32))) (fun σ4 => some ((1 : Int32), σ4))))
    else some ((0 : Int32), σ)
set_option maxRecDepth 100000 in
set_option maxHeartbeats 4000000 in
theorem c_X4_takeLetter {σ : SS} {a0 : Int32} {r : Int32} {σr : SS} (hf : FX4_takeLetter σ a0 = some (r, σr)) : Mcw wsX yX4_takeLetter cX4_takeLetter 2 (some .boolean) ({ frames := 0, cells := 0, slots := 0, locals := 0 } : Room) (fun g => [.ref (g.2.1 1), .int a0]) σ (fun g => some (.int r)) σr := by
  refine w_enter wsX_fix (by decide) (fun g => Nat.le_of_ble_eq_true rfl) ?_
  intro X g hX
  replace hX : Okw wsX X g cX4_takeLetter 2 RX4 (some .boolean) ({ frames := 0, cells := 0, slots := 0, locals := 0 } : Room) (fun g => some (.int r)) σr := hX
  have h0 := hX.1
  show Vx X g.1 2 (wsX g σ) 0 [(0, .ref (g.2.1 1)), (1, .int a0)] []
  rw [FX4_takeLetter] at hf
  refine vx_aload_n h0 dX4_takeLetter_0 rfl ?_
  refine xg_1_0 hX q172 dX4_takeLetter_1 ?_
  refine vx_sipush (v := (240 : Int32)) h0 dX4_takeLetter_4 (by decide) ?_
  refine vx_icmp_lt (tgt := 12) h0 dX4_takeLetter_7 (by decide) (fun c1 => ?_) (fun c1 => ?_)
  · replace hf := (if_pos c1).symm.trans hf
    refine vx_aload_n h0 dX4_takeLetter_12 rfl ?_
    refine xg_1_3 hX q178 dX4_takeLetter_13 ?_
    refine vx_aload_n h0 dX4_takeLetter_16 rfl ?_
    refine xg_1_0 hX q172 dX4_takeLetter_17 ?_
    refine vx_iload_n h0 dX4_takeLetter_20 rfl ?_
    obtain ⟨b2, hf⟩ := gd_some hf
    refine xs_12 hX b2 dX4_takeLetter_21 ?_
    generalize (sA σ 13 (upd (gA σ 13) (Int32.toNatClampNeg (gI σ 10)) a0)) = σ3 at hf ⊢
    replace hf := bd_h hf
    refine vx_aload_n h0 dX4_takeLetter_22 rfl ?_
    refine vx_dup h0 dX4_takeLetter_23 rfl ?_
    refine xg_1_0 hX q172 dX4_takeLetter_24 ?_
    refine vx_iconst (v := (1 : Int32)) h0 dX4_takeLetter_27 (by decide) ?_
    refine vx_iadd h0 dX4_takeLetter_28 ?_
    refine xp_1_0 hX q172 dX4_takeLetter_29 ?_
    generalize (sI σ3 10 ((gI σ3 10) + (1 : Int32))) = σ4 at hf ⊢
    replace hf := bd_h hf
    refine vx_iconst (v := (1 : Int32)) h0 dX4_takeLetter_32 (by decide) ?_
    exact w_zretE hX hf rfl dX4_takeLetter_33
  · replace hf := (if_neg c1).symm.trans hf
    refine vx_iconst (v := (0 : Int32)) h0 dX4_takeLetter_10 (by decide) ?_
    exact w_zretE hX hf rfl dX4_takeLetter_11
def FX4_skipBlanks_L0 (k : SS → Option (SS)) : Nat → SS → Option (SS)
  | 0, _ => none
  | n + 1, σ => if (gI σ 16) < 0 then k σ
    else if (gI σ 10) ≤ (gI σ 16) then k σ
    else gd (inb (gI σ 16) 240) (if (gA σ 13 (Int32.toNatClampNeg (gI σ 16))) = (32 : Int32) then bd (sI σ 16 ((gI σ 16) + (1 : Int32))) (fun σ5 => FX4_skipBlanks_L0 k n σ5)
    else k σ)
set_option maxRecDepth 100000 in
set_option maxHeartbeats 4000000 in
theorem PX4_skipBlanks_L0 {X : Bx} {g : Gx} {σr : SS} (hX : Okw wsX X g cX4_skipBlanks 1 RX4 none ({ frames := 0, cells := 0, slots := 0, locals := 0 } : Room) (fun g => none) σr) {k : SS → Option (SS)} (hk : ∀ (σ : SS), k σ = some σr → Vx X g.1 1 (wsX g σ) 45 [] []) : ∀ (n : Nat)  (σ : SS), FX4_skipBlanks_L0 k n σ = some σr → Vx X g.1 1 (wsX g σ) 0 [(0, .ref (g.2.1 1))] [] := by
  have h0 := hX.1
  intro n
  induction n with
  | zero =>
    intro σ hf
    rw [FX4_skipBlanks_L0] at hf
    cases hf
  | succ n ih =>
    intro σ hf
    rw [FX4_skipBlanks_L0] at hf
    refine vx_aload_n h0 dX4_skipBlanks_0 rfl ?_
    refine xg_1_6 hX q181 dX4_skipBlanks_1 ?_
    refine vx_if_lt (tgt := 45) h0 dX4_skipBlanks_4 (by decide) (fun c1 => ?_) (fun c1 => ?_)
    · replace hf := (if_pos c1).symm.trans hf
      refine vx_sub [] rfl ?_
      exact hk _ hf
    · replace hf := (if_neg c1).symm.trans hf
      refine vx_aload_n h0 dX4_skipBlanks_7 rfl ?_
      refine xg_1_6 hX q181 dX4_skipBlanks_8 ?_
      refine vx_aload_n h0 dX4_skipBlanks_11 rfl ?_
      refine xg_1_0 hX q172 dX4_skipBlanks_12 ?_
      refine vx_icmp_ge (tgt := 45) h0 dX4_skipBlanks_15 (by decide) (fun c2 => ?_) (fun c2 => ?_)
      · replace hf := (if_pos c2).symm.trans hf
        refine vx_sub [] rfl ?_
        exact hk _ hf
      · replace hf := (if_neg c2).symm.trans hf
        refine vx_aload_n h0 dX4_skipBlanks_18 rfl ?_
        refine xg_1_3 hX q178 dX4_skipBlanks_19 ?_
        refine vx_aload_n h0 dX4_skipBlanks_22 rfl ?_
        refine xg_1_6 hX q181 dX4_skipBlanks_23 ?_
        obtain ⟨b3, hf⟩ := gd_some hf
        refine xl_12 hX b3 dX4_skipBlanks_26 ?_
        refine vx_bipush (v := (32 : Int32)) h0 dX4_skipBlanks_27 (by decide) ?_
        refine vx_icmp_ne (tgt := 45) h0 dX4_skipBlanks_29 (by decide) (fun c4 => ?_) (fun c4 => ?_)
        · replace hf := (if_neg c4).symm.trans hf
          refine vx_sub [] rfl ?_
          exact hk _ hf
        · replace hf := (if_pos c4).symm.trans hf
          refine vx_aload_n h0 dX4_skipBlanks_32 rfl ?_
          refine vx_dup h0 dX4_skipBlanks_33 rfl ?_
          refine xg_1_6 hX q181 dX4_skipBlanks_34 ?_
          refine vx_iconst (v := (1 : Int32)) h0 dX4_skipBlanks_37 (by decide) ?_
          refine vx_iadd h0 dX4_skipBlanks_38 ?_
          refine xp_1_6 hX q181 dX4_skipBlanks_39 ?_
          generalize (sI σ 16 ((gI σ 16) + (1 : Int32))) = σ5 at hf ⊢
          replace hf := bd_h hf
          refine vx_goto (tgt := 0) h0 dX4_skipBlanks_42 (by decide) ?_
          exact ih _ hf
def FX4_skipBlanks (σ : SS) : Option (SS) :=
  FX4_skipBlanks_L0 (fun σ6 => some σ6) 5000 σ
set_option maxRecDepth 100000 in
set_option maxHeartbeats 4000000 in
theorem c_X4_skipBlanks {σ : SS} {σr : SS} (hf : FX4_skipBlanks σ = some σr) : Mcw wsX yX4_skipBlanks cX4_skipBlanks 1 none ({ frames := 0, cells := 0, slots := 0, locals := 0 } : Room) (fun g => [.ref (g.2.1 1)]) σ (fun g => none) σr := by
  refine w_enter wsX_fix (by decide) (fun g => Nat.le_of_ble_eq_true rfl) ?_
  intro X g hX
  replace hX : Okw wsX X g cX4_skipBlanks 1 RX4 none ({ frames := 0, cells := 0, slots := 0, locals := 0 } : Room) (fun g => none) σr := hX
  have h0 := hX.1
  show Vx X g.1 1 (wsX g σ) 0 [(0, .ref (g.2.1 1))] []
  rw [FX4_skipBlanks] at hf
  refine PX4_skipBlanks_L0 hX (fun σ6 hf => ?_) _ _ hf
  exact w_vretE hX hf dX4_skipBlanks_45
def FX4_letterHere (σ : SS) : Option (Int32) :=
  if (gI σ 16) < 0 then some (-1 : Int32)
    else if (gI σ 10) ≤ (gI σ 16) then some (-1 : Int32)
    else gd (inb (gI σ 16) 240) (some (gA σ 13 (Int32.toNatClampNeg (gI σ 16))))
set_option maxRecDepth 100000 in
set_option maxHeartbeats 4000000 in
theorem c_X4_letterHere {σ : SS} {r : Int32} (hf : FX4_letterHere σ = some r) : Mcw wsX yX4_letterHere cX4_letterHere 1 (some .int) ({ frames := 0, cells := 0, slots := 0, locals := 0 } : Room) (fun g => [.ref (g.2.1 1)]) σ (fun g => some (.int r)) σ := by
  refine w_enter wsX_fix (by decide) (fun g => Nat.le_of_ble_eq_true rfl) ?_
  intro X g hX
  replace hX : Okw wsX X g cX4_letterHere 1 RX4 (some .int) ({ frames := 0, cells := 0, slots := 0, locals := 0 } : Room) (fun g => some (.int r)) σ := hX
  have h0 := hX.1
  show Vx X g.1 1 (wsX g σ) 0 [(0, .ref (g.2.1 1))] []
  rw [FX4_letterHere] at hf
  refine vx_aload_n h0 dX4_letterHere_0 rfl ?_
  refine xg_1_6 hX q181 dX4_letterHere_1 ?_
  refine vx_if_lt (tgt := 30) h0 dX4_letterHere_4 (by decide) (fun c1 => ?_) (fun c1 => ?_)
  · replace hf := (if_pos c1).symm.trans hf
    refine vx_iconst (v := (-1 : Int32)) h0 dX4_letterHere_30 (by decide) ?_
    exact w_iretP hX hf dX4_letterHere_31
  · replace hf := (if_neg c1).symm.trans hf
    refine vx_aload_n h0 dX4_letterHere_7 rfl ?_
    refine xg_1_6 hX q181 dX4_letterHere_8 ?_
    refine vx_aload_n h0 dX4_letterHere_11 rfl ?_
    refine xg_1_0 hX q172 dX4_letterHere_12 ?_
    refine vx_icmp_ge (tgt := 30) h0 dX4_letterHere_15 (by decide) (fun c2 => ?_) (fun c2 => ?_)
    · replace hf := (if_pos c2).symm.trans hf
      refine vx_iconst (v := (-1 : Int32)) h0 dX4_letterHere_30 (by decide) ?_
      exact w_iretP hX hf dX4_letterHere_31
    · replace hf := (if_neg c2).symm.trans hf
      refine vx_aload_n h0 dX4_letterHere_18 rfl ?_
      refine xg_1_3 hX q178 dX4_letterHere_19 ?_
      refine vx_aload_n h0 dX4_letterHere_22 rfl ?_
      refine xg_1_6 hX q181 dX4_letterHere_23 ?_
      obtain ⟨b3, hf⟩ := gd_some hf
      refine xl_12 hX b3 dX4_letterHere_26 ?_
      refine vx_goto (tgt := 31) h0 dX4_letterHere_27 (by decide) ?_
      exact w_iretP hX hf dX4_letterHere_31
def FX4_fail (σ : SS) (a0 : Int32) (a1 : Int32) : Option (SS) :=
  bd (sI σ 15 a0) (fun σ1 => bd (sI σ1 11 a1) (fun σ2 => some σ2))
set_option maxRecDepth 100000 in
set_option maxHeartbeats 4000000 in
theorem c_X4_fail {σ : SS} {a0 : Int32} {a1 : Int32} {σr : SS} (hf : FX4_fail σ a0 a1 = some σr) : Mcw wsX yX4_fail cX4_fail 3 none ({ frames := 0, cells := 0, slots := 0, locals := 0 } : Room) (fun g => [.ref (g.2.1 1), .int a0, .int a1]) σ (fun g => none) σr := by
  refine w_enter wsX_fix (by decide) (fun g => Nat.le_of_ble_eq_true rfl) ?_
  intro X g hX
  replace hX : Okw wsX X g cX4_fail 3 RX4 none ({ frames := 0, cells := 0, slots := 0, locals := 0 } : Room) (fun g => none) σr := hX
  have h0 := hX.1
  show Vx X g.1 3 (wsX g σ) 0 [(0, .ref (g.2.1 1)), (1, .int a0), (2, .int a1)] []
  rw [FX4_fail] at hf
  refine vx_aload_n h0 dX4_fail_0 rfl ?_
  refine vx_iload_n h0 dX4_fail_1 rfl ?_
  refine xp_1_5 hX q180 dX4_fail_2 ?_
  generalize (sI σ 15 a0) = σ1 at hf ⊢
  replace hf := bd_h hf
  refine vx_aload_n h0 dX4_fail_5 rfl ?_
  refine vx_iload_n h0 dX4_fail_6 rfl ?_
  refine xp_1_1 hX q174 dX4_fail_7 ?_
  generalize (sI σ1 11 a1) = σ2 at hf ⊢
  replace hf := bd_h hf
  exact w_vretE hX hf dX4_fail_10
def FX4_isWantHere (σ : SS) : Option (Int32) :=
  ob (FX4_letterHere σ) (fun r2 => if r2 = (43 : Int32) then some (1 : Int32)
    else if r2 = (45 : Int32) then some (1 : Int32)
    else some (0 : Int32))
set_option maxRecDepth 100000 in
set_option maxHeartbeats 4000000 in
theorem c_X4_isWantHere {σ : SS} {r : Int32} (hf : FX4_isWantHere σ = some r) : Mcw wsX yX4_isWantHere cX4_isWantHere 2 (some .boolean) ({ frames := 1, cells := 0, slots := 0, locals := 20 } : Room) (fun g => [.ref (g.2.1 1)]) σ (fun g => some (.int r)) σ := by
  refine w_enter wsX_fix (by decide) (fun g => Nat.le_of_ble_eq_true rfl) ?_
  intro X g hX
  replace hX : Okw wsX X g cX4_isWantHere 2 RX4 (some .boolean) ({ frames := 1, cells := 0, slots := 0, locals := 20 } : Room) (fun g => some (.int r)) σ := hX
  have h0 := hX.1
  show Vx X g.1 2 (wsX g σ) 0 [(0, .ref (g.2.1 1))] []
  rw [FX4_isWantHere] at hf
  refine vx_aload_n h0 dX4_isWantHere_0 rfl ?_
  obtain ⟨r2, h1, hf⟩ := ob_some hf
  refine w_callV (st := []) (ci := 4) (q0 := 1) hX (c_X4_letterHere h1) ce_X4_letterHere q362 ⟨rfl, rfl⟩ ⟨by decide, by decide⟩ rfl rfl rfl rfl (xo_1 g _) rfl (Nat.le_of_ble_eq_true rfl) dX4_isWantHere_1 ?_
  show Vx X g.1 2 (wsX g σ) 4 [(0, .ref (g.2.1 1))] [.int r2]
  refine vx_istore_n (ls' := [(1, .int r2), (0, .ref (g.2.1 1))]) h0 dX4_isWantHere_4 (by decide) rfl ?_
  refine vx_iload_n h0 dX4_isWantHere_5 rfl ?_
  refine vx_bipush (v := (43 : Int32)) h0 dX4_isWantHere_6 (by decide) ?_
  refine vx_icmp_eq (tgt := 17) h0 dX4_isWantHere_8 (by decide) (fun c3 => ?_) (fun c3 => ?_)
  · replace hf := (if_pos c3).symm.trans hf
    refine vx_iconst (v := (1 : Int32)) h0 dX4_isWantHere_17 (by decide) ?_
    refine vx_goto (tgt := 22) h0 dX4_isWantHere_18 (by decide) ?_
    exact w_zretP hX hf rfl dX4_isWantHere_22
  · replace hf := (if_neg c3).symm.trans hf
    refine vx_iload_n h0 dX4_isWantHere_11 rfl ?_
    refine vx_bipush (v := (45 : Int32)) h0 dX4_isWantHere_12 (by decide) ?_
    refine vx_icmp_ne (tgt := 21) h0 dX4_isWantHere_14 (by decide) (fun c5 => ?_) (fun c5 => ?_)
    · replace hf := (if_neg c5).symm.trans hf
      refine vx_iconst (v := (0 : Int32)) h0 dX4_isWantHere_21 (by decide) ?_
      exact w_zretP hX hf rfl dX4_isWantHere_22
    · replace hf := (if_pos c5).symm.trans hf
      refine vx_iconst (v := (1 : Int32)) h0 dX4_isWantHere_17 (by decide) ?_
      refine vx_goto (tgt := 22) h0 dX4_isWantHere_18 (by decide) ?_
      exact w_zretP hX hf rfl dX4_isWantHere_22
def FX4_figureHere (σ : SS) : Option (Int32) :=
  if (gI σ 16) < 0 then some (-1 : Int32)
    else if (gI σ 16) < (gI σ 10) then gd (inb (gI σ 16) 240) (bd ((gA σ 13 (Int32.toNatClampNeg (gI σ 16))) - (48 : Int32)) (fun x4 => if x4 < 0 then some (-1 : Int32)
    else if (9 : Int32) < x4 then some (-1 : Int32)
    else some x4))
    else some (-1 : Int32)
set_option maxRecDepth 100000 in
set_option maxHeartbeats 4000000 in
theorem c_X4_figureHere {σ : SS} {r : Int32} (hf : FX4_figureHere σ = some r) : Mcw wsX yX4_figureHere cX4_figureHere 2 (some .int) ({ frames := 0, cells := 0, slots := 0, locals := 0 } : Room) (fun g => [.ref (g.2.1 1)]) σ (fun g => some (.int r)) σ := by
  refine w_enter wsX_fix (by decide) (fun g => Nat.le_of_ble_eq_true rfl) ?_
  intro X g hX
  replace hX : Okw wsX X g cX4_figureHere 2 RX4 (some .int) ({ frames := 0, cells := 0, slots := 0, locals := 0 } : Room) (fun g => some (.int r)) σ := hX
  have h0 := hX.1
  show Vx X g.1 2 (wsX g σ) 0 [(0, .ref (g.2.1 1))] []
  rw [FX4_figureHere] at hf
  refine vx_aload_n h0 dX4_figureHere_0 rfl ?_
  refine xg_1_6 hX q181 dX4_figureHere_1 ?_
  refine vx_if_lt (tgt := 18) h0 dX4_figureHere_4 (by decide) (fun c1 => ?_) (fun c1 => ?_)
  · replace hf := (if_pos c1).symm.trans hf
    refine vx_iconst (v := (-1 : Int32)) h0 dX4_figureHere_18 (by decide) ?_
    exact w_iretP hX hf dX4_figureHere_19
  · replace hf := (if_neg c1).symm.trans hf
    refine vx_aload_n h0 dX4_figureHere_7 rfl ?_
    refine xg_1_6 hX q181 dX4_figureHere_8 ?_
    refine vx_aload_n h0 dX4_figureHere_11 rfl ?_
    refine xg_1_0 hX q172 dX4_figureHere_12 ?_
    refine vx_icmp_lt (tgt := 20) h0 dX4_figureHere_15 (by decide) (fun c2 => ?_) (fun c2 => ?_)
    · replace hf := (if_pos c2).symm.trans hf
      refine vx_aload_n h0 dX4_figureHere_20 rfl ?_
      refine xg_1_3 hX q178 dX4_figureHere_21 ?_
      refine vx_aload_n h0 dX4_figureHere_24 rfl ?_
      refine xg_1_6 hX q181 dX4_figureHere_25 ?_
      obtain ⟨b3, hf⟩ := gd_some hf
      refine xl_12 hX b3 dX4_figureHere_28 ?_
      refine vx_bipush (v := (48 : Int32)) h0 dX4_figureHere_29 (by decide) ?_
      refine vx_isub h0 dX4_figureHere_31 ?_
      generalize ((gA σ 13 (Int32.toNatClampNeg (gI σ 16))) - (48 : Int32)) = x4 at hf ⊢
      replace hf := bd_h hf
      refine vx_istore_n (ls' := [(1, .int x4), (0, .ref (g.2.1 1))]) h0 dX4_figureHere_32 (by decide) rfl ?_
      refine vx_iload_n h0 dX4_figureHere_33 rfl ?_
      refine vx_if_lt (tgt := 47) h0 dX4_figureHere_34 (by decide) (fun c5 => ?_) (fun c5 => ?_)
      · replace hf := (if_pos c5).symm.trans hf
        refine vx_iconst (v := (-1 : Int32)) h0 dX4_figureHere_47 (by decide) ?_
        exact w_iretP hX hf dX4_figureHere_48
      · replace hf := (if_neg c5).symm.trans hf
        refine vx_iload_n h0 dX4_figureHere_37 rfl ?_
        refine vx_bipush (v := (9 : Int32)) h0 dX4_figureHere_38 (by decide) ?_
        refine vx_icmp_gt (tgt := 47) h0 dX4_figureHere_40 (by decide) (fun c6 => ?_) (fun c6 => ?_)
        · replace hf := (if_pos c6).symm.trans hf
          refine vx_iconst (v := (-1 : Int32)) h0 dX4_figureHere_47 (by decide) ?_
          exact w_iretP hX hf dX4_figureHere_48
        · replace hf := (if_neg c6).symm.trans hf
          refine vx_iload_n h0 dX4_figureHere_43 rfl ?_
          refine vx_goto (tgt := 48) h0 dX4_figureHere_44 (by decide) ?_
          exact w_iretP hX hf dX4_figureHere_48
    · replace hf := (if_neg c2).symm.trans hf
      refine vx_iconst (v := (-1 : Int32)) h0 dX4_figureHere_18 (by decide) ?_
      exact w_iretP hX hf dX4_figureHere_19
