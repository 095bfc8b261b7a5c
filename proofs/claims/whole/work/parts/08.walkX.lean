/-! printed by wip/whole/gen.py: decode rows, functions, contracts -/
theorem dX0_place_0 : decode cX0_place 0 = .ok (.iload_n 1, 1) := by decide +kernel
theorem dX0_place_1 : decode cX0_place 1 = .ok (.ifCond .lt 11, 3) := by decide +kernel
theorem dX0_place_4 : decode cX0_place 4 = .ok (.iload_n 1, 1) := by decide +kernel
theorem dX0_place_5 : decode cX0_place 5 = .ok (.aload_n 0, 1) := by decide +kernel
theorem dX0_place_6 : decode cX0_place 6 = .ok (.getfield 39, 3) := by decide +kernel
theorem dX0_place_9 : decode cX0_place 9 = .ok (.if_icmp .lt 5, 3) := by decide +kernel
theorem dX0_place_12 : decode cX0_place 12 = .ok (.iconst 0, 1) := by decide +kernel
theorem dX0_place_13 : decode cX0_place 13 = .ok (.ireturn, 1) := by decide +kernel
theorem dX0_place_14 : decode cX0_place 14 = .ok (.iconst 0, 1) := by decide +kernel
theorem dX0_place_15 : decode cX0_place 15 = .ok (.istore_n 3, 1) := by decide +kernel
theorem dX0_place_16 : decode cX0_place 16 = .ok (.iconst 0, 1) := by decide +kernel
theorem dX0_place_17 : decode cX0_place 17 = .ok (.istore 4, 2) := by decide +kernel
theorem dX0_place_19 : decode cX0_place 19 = .ok (.iload 4, 2) := by decide +kernel
theorem dX0_place_21 : decode cX0_place 21 = .ok (.iload_n 1, 1) := by decide +kernel
theorem dX0_place_22 : decode cX0_place 22 = .ok (.if_icmp .gt 37, 3) := by decide +kernel
theorem dX0_place_25 : decode cX0_place 25 = .ok (.aload_n 0, 1) := by decide +kernel
theorem dX0_place_26 : decode cX0_place 26 = .ok (.getfield 9, 3) := by decide +kernel
theorem dX0_place_29 : decode cX0_place 29 = .ok (.iload 4, 2) := by decide +kernel
theorem dX0_place_31 : decode cX0_place 31 = .ok (.iaload, 1) := by decide +kernel
theorem dX0_place_32 : decode cX0_place 32 = .ok (.aload_n 0, 1) := by decide +kernel
theorem dX0_place_33 : decode cX0_place 33 = .ok (.getfield 9, 3) := by decide +kernel
theorem dX0_place_36 : decode cX0_place 36 = .ok (.iload_n 1, 1) := by decide +kernel
theorem dX0_place_37 : decode cX0_place 37 = .ok (.iaload, 1) := by decide +kernel
theorem dX0_place_38 : decode cX0_place 38 = .ok (.if_icmp .ne 15, 3) := by decide +kernel
theorem dX0_place_41 : decode cX0_place 41 = .ok (.iload_n 2, 1) := by decide +kernel
theorem dX0_place_42 : decode cX0_place 42 = .ok (.iload 4, 2) := by decide +kernel
theorem dX0_place_44 : decode cX0_place 44 = .ok (.invokestatic 59, 3) := by decide +kernel
theorem dX0_place_47 : decode cX0_place 47 = .ok (.ifCond .eq 6, 3) := by decide +kernel
theorem dX0_place_50 : decode cX0_place 50 = .ok (.iinc 3 1, 3) := by decide +kernel
theorem dX0_place_53 : decode cX0_place 53 = .ok (.iinc 4 1, 3) := by decide +kernel
theorem dX0_place_56 : decode cX0_place 56 = .ok (.goto (-37), 3) := by decide +kernel
theorem dX0_place_59 : decode cX0_place 59 = .ok (.iload_n 3, 1) := by decide +kernel
theorem dX0_place_60 : decode cX0_place 60 = .ok (.ireturn, 1) := by decide +kernel
theorem dX1_clear_0 : decode cX1_clear 0 = .ok (.aload_n 0, 1) := by decide +kernel
theorem dX1_clear_1 : decode cX1_clear 1 = .ok (.iconst 0, 1) := by decide +kernel
theorem dX1_clear_2 : decode cX1_clear 2 = .ok (.putfield 15, 3) := by decide +kernel
theorem dX1_clear_5 : decode cX1_clear 5 = .ok (.return_, 1) := by decide +kernel
theorem dX1_push_0 : decode cX1_push 0 = .ok (.aload_n 0, 1) := by decide +kernel
theorem dX1_push_1 : decode cX1_push 1 = .ok (.getfield 15, 3) := by decide +kernel
theorem dX1_push_4 : decode cX1_push 4 = .ok (.bipush 8, 2) := by decide +kernel
theorem dX1_push_6 : decode cX1_push 6 = .ok (.if_icmp .lt 24, 3) := by decide +kernel
theorem dX1_push_9 : decode cX1_push 9 = .ok (.aload_n 0, 1) := by decide +kernel
theorem dX1_push_10 : decode cX1_push 10 = .ok (.getfield 9, 3) := by decide +kernel
theorem dX1_push_13 : decode cX1_push 13 = .ok (.iconst 1, 1) := by decide +kernel
theorem dX1_push_14 : decode cX1_push 14 = .ok (.aload_n 0, 1) := by decide +kernel
theorem dX1_push_15 : decode cX1_push 15 = .ok (.getfield 9, 3) := by decide +kernel
theorem dX1_push_18 : decode cX1_push 18 = .ok (.iconst 0, 1) := by decide +kernel
theorem dX1_push_19 : decode cX1_push 19 = .ok (.bipush 7, 2) := by decide +kernel
theorem dX1_push_21 : decode cX1_push 21 = .ok (.invokestatic 19, 3) := by decide +kernel
theorem dX1_push_24 : decode cX1_push 24 = .ok (.aload_n 0, 1) := by decide +kernel
theorem dX1_push_25 : decode cX1_push 25 = .ok (.bipush 7, 2) := by decide +kernel
theorem dX1_push_27 : decode cX1_push 27 = .ok (.putfield 15, 3) := by decide +kernel
theorem dX1_push_30 : decode cX1_push 30 = .ok (.aload_n 0, 1) := by decide +kernel
theorem dX1_push_31 : decode cX1_push 31 = .ok (.getfield 9, 3) := by decide +kernel
theorem dX1_push_34 : decode cX1_push 34 = .ok (.aload_n 0, 1) := by decide +kernel
theorem dX1_push_35 : decode cX1_push 35 = .ok (.getfield 15, 3) := by decide +kernel
theorem dX1_push_38 : decode cX1_push 38 = .ok (.iload_n 1, 1) := by decide +kernel
theorem dX1_push_39 : decode cX1_push 39 = .ok (.iastore, 1) := by decide +kernel
theorem dX1_push_40 : decode cX1_push 40 = .ok (.aload_n 0, 1) := by decide +kernel
theorem dX1_push_41 : decode cX1_push 41 = .ok (.dup, 1) := by decide +kernel
theorem dX1_push_42 : decode cX1_push 42 = .ok (.getfield 15, 3) := by decide +kernel
theorem dX1_push_45 : decode cX1_push 45 = .ok (.iconst 1, 1) := by decide +kernel
theorem dX1_push_46 : decode cX1_push 46 = .ok (.iadd, 1) := by decide +kernel
theorem dX1_push_47 : decode cX1_push 47 = .ok (.putfield 15, 3) := by decide +kernel
theorem dX1_push_50 : decode cX1_push 50 = .ok (.return_, 1) := by decide +kernel
theorem dX1_pop_0 : decode cX1_pop 0 = .ok (.aload_n 0, 1) := by decide +kernel
theorem dX1_pop_1 : decode cX1_pop 1 = .ok (.getfield 15, 3) := by decide +kernel
theorem dX1_pop_4 : decode cX1_pop 4 = .ok (.ifCond .gt 5, 3) := by decide +kernel
theorem dX1_pop_7 : decode cX1_pop 7 = .ok (.iconst 0, 1) := by decide +kernel
theorem dX1_pop_8 : decode cX1_pop 8 = .ok (.ireturn, 1) := by decide +kernel
theorem dX1_pop_9 : decode cX1_pop 9 = .ok (.aload_n 0, 1) := by decide +kernel
theorem dX1_pop_10 : decode cX1_pop 10 = .ok (.dup, 1) := by decide +kernel
theorem dX1_pop_11 : decode cX1_pop 11 = .ok (.getfield 15, 3) := by decide +kernel
theorem dX1_pop_14 : decode cX1_pop 14 = .ok (.iconst 1, 1) := by decide +kernel
theorem dX1_pop_15 : decode cX1_pop 15 = .ok (.isub, 1) := by decide +kernel
theorem dX1_pop_16 : decode cX1_pop 16 = .ok (.putfield 15, 3) := by decide +kernel
theorem dX1_pop_19 : decode cX1_pop 19 = .ok (.aload_n 0, 1) := by decide +kernel
theorem dX1_pop_20 : decode cX1_pop 20 = .ok (.getfield 9, 3) := by decide +kernel
theorem dX1_pop_23 : decode cX1_pop 23 = .ok (.aload_n 0, 1) := by decide +kernel
theorem dX1_pop_24 : decode cX1_pop 24 = .ok (.getfield 15, 3) := by decide +kernel
theorem dX1_pop_27 : decode cX1_pop 27 = .ok (.iaload, 1) := by decide +kernel
theorem dX1_pop_28 : decode cX1_pop 28 = .ok (.ireturn, 1) := by decide +kernel
theorem dX2_forceOf_0 : decode cX2_forceOf 0 = .ok (.iload_n 1, 1) := by decide +kernel
theorem dX2_forceOf_1 : decode cX2_forceOf 1 = .ok (.ifCond .lt 23, 3) := by decide +kernel
theorem dX2_forceOf_4 : decode cX2_forceOf 4 = .ok (.iload_n 1, 1) := by decide +kernel
theorem dX2_forceOf_5 : decode cX2_forceOf 5 = .ok (.aload_n 0, 1) := by decide +kernel
theorem dX2_forceOf_6 : decode cX2_forceOf 6 = .ok (.getfield 27, 3) := by decide +kernel
theorem dX2_forceOf_9 : decode cX2_forceOf 9 = .ok (.getfield 44, 3) := by decide +kernel
theorem dX2_forceOf_12 : decode cX2_forceOf 12 = .ok (.if_icmp .ge 12, 3) := by decide +kernel
theorem dX2_forceOf_15 : decode cX2_forceOf 15 = .ok (.aload_n 0, 1) := by decide +kernel
theorem dX2_forceOf_16 : decode cX2_forceOf 16 = .ok (.getfield 9, 3) := by decide +kernel
theorem dX2_forceOf_19 : decode cX2_forceOf 19 = .ok (.iload_n 1, 1) := by decide +kernel
theorem dX2_forceOf_20 : decode cX2_forceOf 20 = .ok (.laload, 1) := by decide +kernel
theorem dX2_forceOf_21 : decode cX2_forceOf 21 = .ok (.goto 4, 3) := by decide +kernel
theorem dX2_forceOf_24 : decode cX2_forceOf 24 = .ok (.lconst 0, 1) := by decide +kernel
theorem dX2_forceOf_25 : decode cX2_forceOf 25 = .ok (.lreturn, 1) := by decide +kernel
theorem dX2_anyForce_0 : decode cX2_anyForce 0 = .ok (.lconst 0, 1) := by decide +kernel
theorem dX2_anyForce_1 : decode cX2_anyForce 1 = .ok (.lstore_n 2, 1) := by decide +kernel
theorem dX2_anyForce_2 : decode cX2_anyForce 2 = .ok (.iconst 0, 1) := by decide +kernel
theorem dX2_anyForce_3 : decode cX2_anyForce 3 = .ok (.istore 4, 2) := by decide +kernel
theorem dX2_anyForce_5 : decode cX2_anyForce 5 = .ok (.iload 4, 2) := by decide +kernel
theorem dX2_anyForce_7 : decode cX2_anyForce 7 = .ok (.aload_n 0, 1) := by decide +kernel
theorem dX2_anyForce_8 : decode cX2_anyForce 8 = .ok (.getfield 27, 3) := by decide +kernel
theorem dX2_anyForce_11 : decode cX2_anyForce 11 = .ok (.getfield 44, 3) := by decide +kernel
theorem dX2_anyForce_14 : decode cX2_anyForce 14 = .ok (.if_icmp .ge 28, 3) := by decide +kernel
theorem dX2_anyForce_17 : decode cX2_anyForce 17 = .ok (.iload_n 1, 1) := by decide +kernel
theorem dX2_anyForce_18 : decode cX2_anyForce 18 = .ok (.iload 4, 2) := by decide +kernel
theorem dX2_anyForce_20 : decode cX2_anyForce 20 = .ok (.invokestatic 50, 3) := by decide +kernel
theorem dX2_anyForce_23 : decode cX2_anyForce 23 = .ok (.ifCond .eq 13, 3) := by decide +kernel
theorem dX2_anyForce_26 : decode cX2_anyForce 26 = .ok (.lload_n 2, 1) := by decide +kernel
theorem dX2_anyForce_27 : decode cX2_anyForce 27 = .ok (.aload_n 0, 1) := by decide +kernel
theorem dX2_anyForce_28 : decode cX2_anyForce 28 = .ok (.getfield 9, 3) := by decide +kernel
theorem dX2_anyForce_31 : decode cX2_anyForce 31 = .ok (.iload 4, 2) := by decide +kernel
theorem dX2_anyForce_33 : decode cX2_anyForce 33 = .ok (.laload, 1) := by decide +kernel
theorem dX2_anyForce_34 : decode cX2_anyForce 34 = .ok (.lor, 1) := by decide +kernel
theorem dX2_anyForce_35 : decode cX2_anyForce 35 = .ok (.lstore_n 2, 1) := by decide +kernel
theorem dX2_anyForce_36 : decode cX2_anyForce 36 = .ok (.iinc 4 1, 3) := by decide +kernel
theorem dX2_anyForce_39 : decode cX2_anyForce 39 = .ok (.goto (-34), 3) := by decide +kernel
theorem dX2_anyForce_42 : decode cX2_anyForce 42 = .ok (.lload_n 2, 1) := by decide +kernel
theorem dX2_anyForce_43 : decode cX2_anyForce 43 = .ok (.lreturn, 1) := by decide +kernel
theorem dX2_forceSoFar_0 : decode cX2_forceSoFar 0 = .ok (.aload_n 0, 1) := by decide +kernel
theorem dX2_forceSoFar_1 : decode cX2_forceSoFar 1 = .ok (.getfield 27, 3) := by decide +kernel
theorem dX2_forceSoFar_4 : decode cX2_forceSoFar 4 = .ok (.iload_n 1, 1) := by decide +kernel
theorem dX2_forceSoFar_5 : decode cX2_forceSoFar 5 = .ok (.invokevirtual 58, 3) := by decide +kernel
theorem dX2_forceSoFar_8 : decode cX2_forceSoFar 8 = .ok (.lstore_n 2, 1) := by decide +kernel
theorem dX2_forceSoFar_9 : decode cX2_forceSoFar 9 = .ok (.aload_n 0, 1) := by decide +kernel
theorem dX2_forceSoFar_10 : decode cX2_forceSoFar 10 = .ok (.getfield 27, 3) := by decide +kernel
theorem dX2_forceSoFar_13 : decode cX2_forceSoFar 13 = .ok (.getfield 61, 3) := by decide +kernel
theorem dX2_forceSoFar_16 : decode cX2_forceSoFar 16 = .ok (.iload_n 1, 1) := by decide +kernel
theorem dX2_forceSoFar_17 : decode cX2_forceSoFar 17 = .ok (.iaload, 1) := by decide +kernel
theorem dX2_forceSoFar_18 : decode cX2_forceSoFar 18 = .ok (.iconst (-1), 1) := by decide +kernel
theorem dX2_forceSoFar_19 : decode cX2_forceSoFar 19 = .ok (.if_icmp .eq 19, 3) := by decide +kernel
theorem dX2_forceSoFar_22 : decode cX2_forceSoFar 22 = .ok (.lload_n 2, 1) := by decide +kernel
theorem dX2_forceSoFar_23 : decode cX2_forceSoFar 23 = .ok (.aload_n 0, 1) := by decide +kernel
theorem dX2_forceSoFar_24 : decode cX2_forceSoFar 24 = .ok (.aload_n 0, 1) := by decide +kernel
theorem dX2_forceSoFar_25 : decode cX2_forceSoFar 25 = .ok (.getfield 27, 3) := by decide +kernel
theorem dX2_forceSoFar_28 : decode cX2_forceSoFar 28 = .ok (.getfield 61, 3) := by decide +kernel
theorem dX2_forceSoFar_31 : decode cX2_forceSoFar 31 = .ok (.iload_n 1, 1) := by decide +kernel
theorem dX2_forceSoFar_32 : decode cX2_forceSoFar 32 = .ok (.iaload, 1) := by decide +kernel
theorem dX2_forceSoFar_33 : decode cX2_forceSoFar 33 = .ok (.invokevirtual 65, 3) := by decide +kernel
theorem dX2_forceSoFar_36 : decode cX2_forceSoFar 36 = .ok (.land, 1) := by decide +kernel
theorem dX2_forceSoFar_37 : decode cX2_forceSoFar 37 = .ok (.lstore_n 2, 1) := by decide +kernel
theorem dX2_forceSoFar_38 : decode cX2_forceSoFar 38 = .ok (.aload_n 0, 1) := by decide +kernel
theorem dX2_forceSoFar_39 : decode cX2_forceSoFar 39 = .ok (.getfield 27, 3) := by decide +kernel
theorem dX2_forceSoFar_42 : decode cX2_forceSoFar 42 = .ok (.getfield 68, 3) := by decide +kernel
theorem dX2_forceSoFar_45 : decode cX2_forceSoFar 45 = .ok (.iload_n 1, 1) := by decide +kernel
theorem dX2_forceSoFar_46 : decode cX2_forceSoFar 46 = .ok (.invokestatic 50, 3) := by decide +kernel
theorem dX2_forceSoFar_49 : decode cX2_forceSoFar 49 = .ok (.ifCond .eq 25, 3) := by decide +kernel
theorem dX2_forceSoFar_52 : decode cX2_forceSoFar 52 = .ok (.lload_n 2, 1) := by decide +kernel
theorem dX2_forceSoFar_53 : decode cX2_forceSoFar 53 = .ok (.aload_n 0, 1) := by decide +kernel
theorem dX2_forceSoFar_54 : decode cX2_forceSoFar 54 = .ok (.aload_n 0, 1) := by decide +kernel
theorem dX2_forceSoFar_55 : decode cX2_forceSoFar 55 = .ok (.getfield 27, 3) := by decide +kernel
theorem dX2_forceSoFar_58 : decode cX2_forceSoFar 58 = .ok (.getfield 71, 3) := by decide +kernel
theorem dX2_forceSoFar_61 : decode cX2_forceSoFar 61 = .ok (.iload_n 1, 1) := by decide +kernel
theorem dX2_forceSoFar_62 : decode cX2_forceSoFar 62 = .ok (.iaload, 1) := by decide +kernel
theorem dX2_forceSoFar_63 : decode cX2_forceSoFar 63 = .ok (.iconst 1, 1) := by decide +kernel
theorem dX2_forceSoFar_64 : decode cX2_forceSoFar 64 = .ok (.iload_n 1, 1) := by decide +kernel
theorem dX2_forceSoFar_65 : decode cX2_forceSoFar 65 = .ok (.ishl, 1) := by decide +kernel
theorem dX2_forceSoFar_66 : decode cX2_forceSoFar 66 = .ok (.iconst (-1), 1) := by decide +kernel
theorem dX2_forceSoFar_67 : decode cX2_forceSoFar 67 = .ok (.ixor, 1) := by decide +kernel
theorem dX2_forceSoFar_68 : decode cX2_forceSoFar 68 = .ok (.iand, 1) := by decide +kernel
theorem dX2_forceSoFar_69 : decode cX2_forceSoFar 69 = .ok (.invokevirtual 74, 3) := by decide +kernel
theorem dX2_forceSoFar_72 : decode cX2_forceSoFar 72 = .ok (.land, 1) := by decide +kernel
theorem dX2_forceSoFar_73 : decode cX2_forceSoFar 73 = .ok (.lstore_n 2, 1) := by decide +kernel
theorem dX2_forceSoFar_74 : decode cX2_forceSoFar 74 = .ok (.lload_n 2, 1) := by decide +kernel
theorem dX2_forceSoFar_75 : decode cX2_forceSoFar 75 = .ok (.lreturn, 1) := by decide +kernel
theorem dX2_reckonForce_0 : decode cX2_reckonForce 0 = .ok (.iconst 0, 1) := by decide +kernel
theorem dX2_reckonForce_1 : decode cX2_reckonForce 1 = .ok (.istore_n 2, 1) := by decide +kernel
theorem dX2_reckonForce_2 : decode cX2_reckonForce 2 = .ok (.iload_n 2, 1) := by decide +kernel
theorem dX2_reckonForce_3 : decode cX2_reckonForce 3 = .ok (.bipush 16, 2) := by decide +kernel
theorem dX2_reckonForce_5 : decode cX2_reckonForce 5 = .ok (.if_icmp .ge 16, 3) := by decide +kernel
theorem dX2_reckonForce_8 : decode cX2_reckonForce 8 = .ok (.aload_n 0, 1) := by decide +kernel
theorem dX2_reckonForce_9 : decode cX2_reckonForce 9 = .ok (.getfield 9, 3) := by decide +kernel
theorem dX2_reckonForce_12 : decode cX2_reckonForce 12 = .ok (.iload_n 2, 1) := by decide +kernel
theorem dX2_reckonForce_13 : decode cX2_reckonForce 13 = .ok (.lconst 0, 1) := by decide +kernel
theorem dX2_reckonForce_14 : decode cX2_reckonForce 14 = .ok (.lastore, 1) := by decide +kernel
theorem dX2_reckonForce_15 : decode cX2_reckonForce 15 = .ok (.iinc 2 1, 3) := by decide +kernel
theorem dX2_reckonForce_18 : decode cX2_reckonForce 18 = .ok (.goto (-16), 3) := by decide +kernel
theorem dX2_reckonForce_21 : decode cX2_reckonForce 21 = .ok (.iconst 1, 1) := by decide +kernel
theorem dX2_reckonForce_22 : decode cX2_reckonForce 22 = .ok (.istore_n 2, 1) := by decide +kernel
theorem dX2_reckonForce_23 : decode cX2_reckonForce 23 = .ok (.iconst 0, 1) := by decide +kernel
theorem dX2_reckonForce_24 : decode cX2_reckonForce 24 = .ok (.istore_n 3, 1) := by decide +kernel
theorem dX2_reckonForce_25 : decode cX2_reckonForce 25 = .ok (.iload_n 3, 1) := by decide +kernel
theorem dX2_reckonForce_26 : decode cX2_reckonForce 26 = .ok (.bipush 16, 2) := by decide +kernel
theorem dX2_reckonForce_28 : decode cX2_reckonForce 28 = .ok (.if_icmp .gt 89, 3) := by decide +kernel
theorem dX2_reckonForce_31 : decode cX2_reckonForce 31 = .ok (.iload_n 2, 1) := by decide +kernel
theorem dX2_reckonForce_32 : decode cX2_reckonForce 32 = .ok (.ifCond .eq 85, 3) := by decide +kernel
theorem dX2_reckonForce_35 : decode cX2_reckonForce 35 = .ok (.iconst 0, 1) := by decide +kernel
theorem dX2_reckonForce_36 : decode cX2_reckonForce 36 = .ok (.istore_n 2, 1) := by decide +kernel
theorem dX2_reckonForce_37 : decode cX2_reckonForce 37 = .ok (.iconst 0, 1) := by decide +kernel
theorem dX2_reckonForce_38 : decode cX2_reckonForce 38 = .ok (.istore 4, 2) := by decide +kernel
theorem dX2_reckonForce_40 : decode cX2_reckonForce 40 = .ok (.iload 4, 2) := by decide +kernel
theorem dX2_reckonForce_42 : decode cX2_reckonForce 42 = .ok (.aload_n 0, 1) := by decide +kernel
theorem dX2_reckonForce_43 : decode cX2_reckonForce 43 = .ok (.getfield 27, 3) := by decide +kernel
theorem dX2_reckonForce_46 : decode cX2_reckonForce 46 = .ok (.getfield 44, 3) := by decide +kernel
theorem dX2_reckonForce_49 : decode cX2_reckonForce 49 = .ok (.if_icmp .ge 62, 3) := by decide +kernel
theorem dX2_reckonForce_52 : decode cX2_reckonForce 52 = .ok (.iload_n 1, 1) := by decide +kernel
theorem dX2_reckonForce_53 : decode cX2_reckonForce 53 = .ok (.iload 4, 2) := by decide +kernel
theorem dX2_reckonForce_55 : decode cX2_reckonForce 55 = .ok (.invokestatic 50, 3) := by decide +kernel
theorem dX2_reckonForce_58 : decode cX2_reckonForce 58 = .ok (.ifCond .eq 7, 3) := by decide +kernel
theorem dX2_reckonForce_61 : decode cX2_reckonForce 61 = .ok (.lconst 0, 1) := by decide +kernel
theorem dX2_reckonForce_62 : decode cX2_reckonForce 62 = .ok (.goto 9, 3) := by decide +kernel
theorem dX2_reckonForce_65 : decode cX2_reckonForce 65 = .ok (.aload_n 0, 1) := by decide +kernel
theorem dX2_reckonForce_66 : decode cX2_reckonForce 66 = .ok (.iload 4, 2) := by decide +kernel
theorem dX2_reckonForce_68 : decode cX2_reckonForce 68 = .ok (.invokevirtual 54, 3) := by decide +kernel
theorem dX2_reckonForce_71 : decode cX2_reckonForce 71 = .ok (.lstore 5, 2) := by decide +kernel
theorem dX2_reckonForce_73 : decode cX2_reckonForce 73 = .ok (.iload_n 2, 1) := by decide +kernel
theorem dX2_reckonForce_74 : decode cX2_reckonForce 74 = .ok (.ifCond .ne 16, 3) := by decide +kernel
theorem dX2_reckonForce_77 : decode cX2_reckonForce 77 = .ok (.lload 5, 2) := by decide +kernel
theorem dX2_reckonForce_79 : decode cX2_reckonForce 79 = .ok (.aload_n 0, 1) := by decide +kernel
theorem dX2_reckonForce_80 : decode cX2_reckonForce 80 = .ok (.getfield 9, 3) := by decide +kernel
theorem dX2_reckonForce_83 : decode cX2_reckonForce 83 = .ok (.iload 4, 2) := by decide +kernel
theorem dX2_reckonForce_85 : decode cX2_reckonForce 85 = .ok (.laload, 1) := by decide +kernel
theorem dX2_reckonForce_86 : decode cX2_reckonForce 86 = .ok (.lcmp, 1) := by decide +kernel
theorem dX2_reckonForce_87 : decode cX2_reckonForce 87 = .ok (.ifCond .eq 7, 3) := by decide +kernel
theorem dX2_reckonForce_90 : decode cX2_reckonForce 90 = .ok (.iconst 1, 1) := by decide +kernel
theorem dX2_reckonForce_91 : decode cX2_reckonForce 91 = .ok (.goto 4, 3) := by decide +kernel
theorem dX2_reckonForce_94 : decode cX2_reckonForce 94 = .ok (.iconst 0, 1) := by decide +kernel
theorem dX2_reckonForce_95 : decode cX2_reckonForce 95 = .ok (.istore_n 2, 1) := by decide +kernel
theorem dX2_reckonForce_96 : decode cX2_reckonForce 96 = .ok (.aload_n 0, 1) := by decide +kernel
theorem dX2_reckonForce_97 : decode cX2_reckonForce 97 = .ok (.getfield 9, 3) := by decide +kernel
theorem dX2_reckonForce_100 : decode cX2_reckonForce 100 = .ok (.iload 4, 2) := by decide +kernel
theorem dX2_reckonForce_102 : decode cX2_reckonForce 102 = .ok (.lload 5, 2) := by decide +kernel
theorem dX2_reckonForce_104 : decode cX2_reckonForce 104 = .ok (.lastore, 1) := by decide +kernel
theorem dX2_reckonForce_105 : decode cX2_reckonForce 105 = .ok (.iinc 4 1, 3) := by decide +kernel
theorem dX2_reckonForce_108 : decode cX2_reckonForce 108 = .ok (.goto (-68), 3) := by decide +kernel
theorem dX2_reckonForce_111 : decode cX2_reckonForce 111 = .ok (.iinc 3 1, 3) := by decide +kernel
theorem dX2_reckonForce_114 : decode cX2_reckonForce 114 = .ok (.goto (-89), 3) := by decide +kernel
theorem dX2_reckonForce_117 : decode cX2_reckonForce 117 = .ok (.return_, 1) := by decide +kernel
theorem dX2_reckonAmiss_0 : decode cX2_reckonAmiss 0 = .ok (.iconst 0, 1) := by decide +kernel
theorem dX2_reckonAmiss_1 : decode cX2_reckonAmiss 1 = .ok (.istore_n 1, 1) := by decide +kernel
theorem dX2_reckonAmiss_2 : decode cX2_reckonAmiss 2 = .ok (.iload_n 1, 1) := by decide +kernel
theorem dX2_reckonAmiss_3 : decode cX2_reckonAmiss 3 = .ok (.bipush 8, 2) := by decide +kernel
theorem dX2_reckonAmiss_5 : decode cX2_reckonAmiss 5 = .ok (.if_icmp .ge 16, 3) := by decide +kernel
theorem dX2_reckonAmiss_8 : decode cX2_reckonAmiss 8 = .ok (.aload_n 0, 1) := by decide +kernel
theorem dX2_reckonAmiss_9 : decode cX2_reckonAmiss 9 = .ok (.getfield 18, 3) := by decide +kernel
theorem dX2_reckonAmiss_12 : decode cX2_reckonAmiss 12 = .ok (.iload_n 1, 1) := by decide +kernel
theorem dX2_reckonAmiss_13 : decode cX2_reckonAmiss 13 = .ok (.lconst 0, 1) := by decide +kernel
theorem dX2_reckonAmiss_14 : decode cX2_reckonAmiss 14 = .ok (.lastore, 1) := by decide +kernel
theorem dX2_reckonAmiss_15 : decode cX2_reckonAmiss 15 = .ok (.iinc 1 1, 3) := by decide +kernel
theorem dX2_reckonAmiss_18 : decode cX2_reckonAmiss 18 = .ok (.goto (-16), 3) := by decide +kernel
theorem dX2_reckonAmiss_21 : decode cX2_reckonAmiss 21 = .ok (.iconst 0, 1) := by decide +kernel
theorem dX2_reckonAmiss_22 : decode cX2_reckonAmiss 22 = .ok (.istore_n 1, 1) := by decide +kernel
theorem dX2_reckonAmiss_23 : decode cX2_reckonAmiss 23 = .ok (.iload_n 1, 1) := by decide +kernel
theorem dX2_reckonAmiss_24 : decode cX2_reckonAmiss 24 = .ok (.aload_n 0, 1) := by decide +kernel
theorem dX2_reckonAmiss_25 : decode cX2_reckonAmiss 25 = .ok (.getfield 27, 3) := by decide +kernel
theorem dX2_reckonAmiss_28 : decode cX2_reckonAmiss 28 = .ok (.getfield 77, 3) := by decide +kernel
theorem dX2_reckonAmiss_31 : decode cX2_reckonAmiss 31 = .ok (.if_icmp .ge 153, 3) := by decide +kernel
theorem dX2_reckonAmiss_34 : decode cX2_reckonAmiss 34 = .ok (.aload_n 0, 1) := by decide +kernel
theorem dX2_reckonAmiss_35 : decode cX2_reckonAmiss 35 = .ok (.aload_n 0, 1) := by decide +kernel
theorem dX2_reckonAmiss_36 : decode cX2_reckonAmiss 36 = .ok (.getfield 27, 3) := by decide +kernel
theorem dX2_reckonAmiss_39 : decode cX2_reckonAmiss 39 = .ok (.getfield 80, 3) := by decide +kernel
theorem dX2_reckonAmiss_42 : decode cX2_reckonAmiss 42 = .ok (.iload_n 1, 1) := by decide +kernel
theorem dX2_reckonAmiss_43 : decode cX2_reckonAmiss 43 = .ok (.iaload, 1) := by decide +kernel
theorem dX2_reckonAmiss_44 : decode cX2_reckonAmiss 44 = .ok (.invokevirtual 65, 3) := by decide +kernel
theorem dX2_reckonAmiss_47 : decode cX2_reckonAmiss 47 = .ok (.lstore_n 2, 1) := by decide +kernel
theorem dX2_reckonAmiss_48 : decode cX2_reckonAmiss 48 = .ok (.aload_n 0, 1) := by decide +kernel
theorem dX2_reckonAmiss_49 : decode cX2_reckonAmiss 49 = .ok (.getfield 27, 3) := by decide +kernel
theorem dX2_reckonAmiss_52 : decode cX2_reckonAmiss 52 = .ok (.getfield 83, 3) := by decide +kernel
theorem dX2_reckonAmiss_55 : decode cX2_reckonAmiss 55 = .ok (.iload_n 1, 1) := by decide +kernel
theorem dX2_reckonAmiss_56 : decode cX2_reckonAmiss 56 = .ok (.iaload, 1) := by decide +kernel
theorem dX2_reckonAmiss_57 : decode cX2_reckonAmiss 57 = .ok (.istore 4, 2) := by decide +kernel
theorem dX2_reckonAmiss_59 : decode cX2_reckonAmiss 59 = .ok (.aload_n 0, 1) := by decide +kernel
theorem dX2_reckonAmiss_60 : decode cX2_reckonAmiss 60 = .ok (.getfield 27, 3) := by decide +kernel
theorem dX2_reckonAmiss_63 : decode cX2_reckonAmiss 63 = .ok (.getfield 86, 3) := by decide +kernel
theorem dX2_reckonAmiss_66 : decode cX2_reckonAmiss 66 = .ok (.iload_n 1, 1) := by decide +kernel
theorem dX2_reckonAmiss_67 : decode cX2_reckonAmiss 67 = .ok (.iaload, 1) := by decide +kernel
theorem dX2_reckonAmiss_68 : decode cX2_reckonAmiss 68 = .ok (.iconst 2, 1) := by decide +kernel
theorem dX2_reckonAmiss_69 : decode cX2_reckonAmiss 69 = .ok (.if_icmp .ne 24, 3) := by decide +kernel
theorem dX2_reckonAmiss_72 : decode cX2_reckonAmiss 72 = .ok (.aload_n 0, 1) := by decide +kernel
theorem dX2_reckonAmiss_73 : decode cX2_reckonAmiss 73 = .ok (.getfield 15, 3) := by decide +kernel
theorem dX2_reckonAmiss_76 : decode cX2_reckonAmiss 76 = .ok (.iload_n 1, 1) := by decide +kernel
theorem dX2_reckonAmiss_77 : decode cX2_reckonAmiss 77 = .ok (.lload_n 2, 1) := by decide +kernel
theorem dX2_reckonAmiss_78 : decode cX2_reckonAmiss 78 = .ok (.aload_n 0, 1) := by decide +kernel
theorem dX2_reckonAmiss_79 : decode cX2_reckonAmiss 79 = .ok (.iload 4, 2) := by decide +kernel
theorem dX2_reckonAmiss_81 : decode cX2_reckonAmiss 81 = .ok (.invokevirtual 65, 3) := by decide +kernel
theorem dX2_reckonAmiss_84 : decode cX2_reckonAmiss 84 = .ok (.ldc2_w 89, 3) := by decide +kernel
theorem dX2_reckonAmiss_87 : decode cX2_reckonAmiss 87 = .ok (.lxor, 1) := by decide +kernel
theorem dX2_reckonAmiss_88 : decode cX2_reckonAmiss 88 = .ok (.land, 1) := by decide +kernel
theorem dX2_reckonAmiss_89 : decode cX2_reckonAmiss 89 = .ok (.lastore, 1) := by decide +kernel
theorem dX2_reckonAmiss_90 : decode cX2_reckonAmiss 90 = .ok (.goto 88, 3) := by decide +kernel
theorem dX2_reckonAmiss_93 : decode cX2_reckonAmiss 93 = .ok (.iload 4, 2) := by decide +kernel
theorem dX2_reckonAmiss_95 : decode cX2_reckonAmiss 95 = .ok (.ifCond .lt 83, 3) := by decide +kernel
theorem dX2_reckonAmiss_98 : decode cX2_reckonAmiss 98 = .ok (.iload 4, 2) := by decide +kernel
theorem dX2_reckonAmiss_100 : decode cX2_reckonAmiss 100 = .ok (.bipush 8, 2) := by decide +kernel
theorem dX2_reckonAmiss_102 : decode cX2_reckonAmiss 102 = .ok (.if_icmp .ge 76, 3) := by decide +kernel
theorem dX2_reckonAmiss_105 : decode cX2_reckonAmiss 105 = .ok (.aload_n 0, 1) := by decide +kernel
theorem dX2_reckonAmiss_106 : decode cX2_reckonAmiss 106 = .ok (.getfield 27, 3) := by decide +kernel
theorem dX2_reckonAmiss_109 : decode cX2_reckonAmiss 109 = .ok (.getfield 86, 3) := by decide +kernel
theorem dX2_reckonAmiss_112 : decode cX2_reckonAmiss 112 = .ok (.iload_n 1, 1) := by decide +kernel
theorem dX2_reckonAmiss_113 : decode cX2_reckonAmiss 113 = .ok (.iaload, 1) := by decide +kernel
theorem dX2_reckonAmiss_114 : decode cX2_reckonAmiss 114 = .ok (.ifCond .ne 7, 3) := by decide +kernel
theorem dX2_reckonAmiss_117 : decode cX2_reckonAmiss 117 = .ok (.iconst 1, 1) := by decide +kernel
theorem dX2_reckonAmiss_118 : decode cX2_reckonAmiss 118 = .ok (.goto 4, 3) := by decide +kernel
theorem dX2_reckonAmiss_121 : decode cX2_reckonAmiss 121 = .ok (.iconst 0, 1) := by decide +kernel
theorem dX2_reckonAmiss_122 : decode cX2_reckonAmiss 122 = .ok (.istore 5, 2) := by decide +kernel
theorem dX2_reckonAmiss_124 : decode cX2_reckonAmiss 124 = .ok (.aload_n 0, 1) := by decide +kernel
theorem dX2_reckonAmiss_125 : decode cX2_reckonAmiss 125 = .ok (.getfield 15, 3) := by decide +kernel
theorem dX2_reckonAmiss_128 : decode cX2_reckonAmiss 128 = .ok (.iload_n 1, 1) := by decide +kernel
theorem dX2_reckonAmiss_129 : decode cX2_reckonAmiss 129 = .ok (.lload_n 2, 1) := by decide +kernel
theorem dX2_reckonAmiss_130 : decode cX2_reckonAmiss 130 = .ok (.iload 5, 2) := by decide +kernel
theorem dX2_reckonAmiss_132 : decode cX2_reckonAmiss 132 = .ok (.ifCond .eq 13, 3) := by decide +kernel
theorem dX2_reckonAmiss_135 : decode cX2_reckonAmiss 135 = .ok (.aload_n 0, 1) := by decide +kernel
theorem dX2_reckonAmiss_136 : decode cX2_reckonAmiss 136 = .ok (.getfield 18, 3) := by decide +kernel
theorem dX2_reckonAmiss_139 : decode cX2_reckonAmiss 139 = .ok (.iload 4, 2) := by decide +kernel
theorem dX2_reckonAmiss_141 : decode cX2_reckonAmiss 141 = .ok (.laload, 1) := by decide +kernel
theorem dX2_reckonAmiss_142 : decode cX2_reckonAmiss 142 = .ok (.goto 14, 3) := by decide +kernel
theorem dX2_reckonAmiss_145 : decode cX2_reckonAmiss 145 = .ok (.aload_n 0, 1) := by decide +kernel
theorem dX2_reckonAmiss_146 : decode cX2_reckonAmiss 146 = .ok (.getfield 18, 3) := by decide +kernel
theorem dX2_reckonAmiss_149 : decode cX2_reckonAmiss 149 = .ok (.iload 4, 2) := by decide +kernel
theorem dX2_reckonAmiss_151 : decode cX2_reckonAmiss 151 = .ok (.laload, 1) := by decide +kernel
theorem dX2_reckonAmiss_152 : decode cX2_reckonAmiss 152 = .ok (.ldc2_w 89, 3) := by decide +kernel
theorem dX2_reckonAmiss_155 : decode cX2_reckonAmiss 155 = .ok (.lxor, 1) := by decide +kernel
theorem dX2_reckonAmiss_156 : decode cX2_reckonAmiss 156 = .ok (.land, 1) := by decide +kernel
theorem dX2_reckonAmiss_157 : decode cX2_reckonAmiss 157 = .ok (.lastore, 1) := by decide +kernel
theorem dX2_reckonAmiss_158 : decode cX2_reckonAmiss 158 = .ok (.aload_n 0, 1) := by decide +kernel
theorem dX2_reckonAmiss_159 : decode cX2_reckonAmiss 159 = .ok (.getfield 18, 3) := by decide +kernel
theorem dX2_reckonAmiss_162 : decode cX2_reckonAmiss 162 = .ok (.iload 4, 2) := by decide +kernel
theorem dX2_reckonAmiss_164 : decode cX2_reckonAmiss 164 = .ok (.dup2, 1) := by decide +kernel
theorem dX2_reckonAmiss_165 : decode cX2_reckonAmiss 165 = .ok (.laload, 1) := by decide +kernel
theorem dX2_reckonAmiss_166 : decode cX2_reckonAmiss 166 = .ok (.iload 5, 2) := by decide +kernel
theorem dX2_reckonAmiss_168 : decode cX2_reckonAmiss 168 = .ok (.ifCond .eq 7, 3) := by decide +kernel
theorem dX2_reckonAmiss_171 : decode cX2_reckonAmiss 171 = .ok (.lload_n 2, 1) := by decide +kernel
theorem dX2_reckonAmiss_172 : decode cX2_reckonAmiss 172 = .ok (.goto 4, 3) := by decide +kernel
theorem dX2_reckonAmiss_175 : decode cX2_reckonAmiss 175 = .ok (.lconst 0, 1) := by decide +kernel
theorem dX2_reckonAmiss_176 : decode cX2_reckonAmiss 176 = .ok (.lor, 1) := by decide +kernel
theorem dX2_reckonAmiss_177 : decode cX2_reckonAmiss 177 = .ok (.lastore, 1) := by decide +kernel
theorem dX2_reckonAmiss_178 : decode cX2_reckonAmiss 178 = .ok (.iinc 1 1, 3) := by decide +kernel
theorem dX2_reckonAmiss_181 : decode cX2_reckonAmiss 181 = .ok (.goto (-158), 3) := by decide +kernel
theorem dX2_reckonAmiss_184 : decode cX2_reckonAmiss 184 = .ok (.return_, 1) := by decide +kernel
theorem dX2_hangOnAll_0 : decode cX2_hangOnAll 0 = .ok (.iconst 0, 1) := by decide +kernel
theorem dX2_hangOnAll_1 : decode cX2_hangOnAll 1 = .ok (.istore 5, 2) := by decide +kernel
theorem dX2_hangOnAll_3 : decode cX2_hangOnAll 3 = .ok (.iload 5, 2) := by decide +kernel
theorem dX2_hangOnAll_5 : decode cX2_hangOnAll 5 = .ok (.bipush 8, 2) := by decide +kernel
theorem dX2_hangOnAll_7 : decode cX2_hangOnAll 7 = .ok (.if_icmp .ge 34, 3) := by decide +kernel
theorem dX2_hangOnAll_10 : decode cX2_hangOnAll 10 = .ok (.iload_n 2, 1) := by decide +kernel
theorem dX2_hangOnAll_11 : decode cX2_hangOnAll 11 = .ok (.iload 5, 2) := by decide +kernel
theorem dX2_hangOnAll_13 : decode cX2_hangOnAll 13 = .ok (.invokestatic 50, 3) := by decide +kernel
theorem dX2_hangOnAll_16 : decode cX2_hangOnAll 16 = .ok (.ifCond .eq 19, 3) := by decide +kernel
theorem dX2_hangOnAll_19 : decode cX2_hangOnAll 19 = .ok (.aload_n 0, 1) := by decide +kernel
theorem dX2_hangOnAll_20 : decode cX2_hangOnAll 20 = .ok (.getfield 21, 3) := by decide +kernel
theorem dX2_hangOnAll_23 : decode cX2_hangOnAll 23 = .ok (.iload_n 1, 1) := by decide +kernel
theorem dX2_hangOnAll_24 : decode cX2_hangOnAll 24 = .ok (.bipush 8, 2) := by decide +kernel
theorem dX2_hangOnAll_26 : decode cX2_hangOnAll 26 = .ok (.imul, 1) := by decide +kernel
theorem dX2_hangOnAll_27 : decode cX2_hangOnAll 27 = .ok (.iload 5, 2) := by decide +kernel
theorem dX2_hangOnAll_29 : decode cX2_hangOnAll 29 = .ok (.iadd, 1) := by decide +kernel
theorem dX2_hangOnAll_30 : decode cX2_hangOnAll 30 = .ok (.dup2, 1) := by decide +kernel
theorem dX2_hangOnAll_31 : decode cX2_hangOnAll 31 = .ok (.laload, 1) := by decide +kernel
theorem dX2_hangOnAll_32 : decode cX2_hangOnAll 32 = .ok (.lload_n 3, 1) := by decide +kernel
theorem dX2_hangOnAll_33 : decode cX2_hangOnAll 33 = .ok (.lor, 1) := by decide +kernel
theorem dX2_hangOnAll_34 : decode cX2_hangOnAll 34 = .ok (.lastore, 1) := by decide +kernel
theorem dX2_hangOnAll_35 : decode cX2_hangOnAll 35 = .ok (.iinc 5 1, 3) := by decide +kernel
theorem dX2_hangOnAll_38 : decode cX2_hangOnAll 38 = .ok (.goto (-35), 3) := by decide +kernel
theorem dX2_hangOnAll_41 : decode cX2_hangOnAll 41 = .ok (.return_, 1) := by decide +kernel
theorem dX2_reckonHang_0 : decode cX2_reckonHang 0 = .ok (.iconst 0, 1) := by decide +kernel
theorem dX2_reckonHang_1 : decode cX2_reckonHang 1 = .ok (.istore_n 1, 1) := by decide +kernel
theorem dX2_reckonHang_2 : decode cX2_reckonHang 2 = .ok (.iload_n 1, 1) := by decide +kernel
theorem dX2_reckonHang_3 : decode cX2_reckonHang 3 = .ok (.bipush 64, 2) := by decide +kernel
theorem dX2_reckonHang_5 : decode cX2_reckonHang 5 = .ok (.if_icmp .ge 16, 3) := by decide +kernel
theorem dX2_reckonHang_8 : decode cX2_reckonHang 8 = .ok (.aload_n 0, 1) := by decide +kernel
theorem dX2_reckonHang_9 : decode cX2_reckonHang 9 = .ok (.getfield 21, 3) := by decide +kernel
theorem dX2_reckonHang_12 : decode cX2_reckonHang 12 = .ok (.iload_n 1, 1) := by decide +kernel
theorem dX2_reckonHang_13 : decode cX2_reckonHang 13 = .ok (.lconst 0, 1) := by decide +kernel
theorem dX2_reckonHang_14 : decode cX2_reckonHang 14 = .ok (.lastore, 1) := by decide +kernel
theorem dX2_reckonHang_15 : decode cX2_reckonHang 15 = .ok (.iinc 1 1, 3) := by decide +kernel
theorem dX2_reckonHang_18 : decode cX2_reckonHang 18 = .ok (.goto (-16), 3) := by decide +kernel
theorem dX2_reckonHang_21 : decode cX2_reckonHang 21 = .ok (.iconst 0, 1) := by decide +kernel
theorem dX2_reckonHang_22 : decode cX2_reckonHang 22 = .ok (.istore_n 1, 1) := by decide +kernel
theorem dX2_reckonHang_23 : decode cX2_reckonHang 23 = .ok (.iload_n 1, 1) := by decide +kernel
theorem dX2_reckonHang_24 : decode cX2_reckonHang 24 = .ok (.aload_n 0, 1) := by decide +kernel
theorem dX2_reckonHang_25 : decode cX2_reckonHang 25 = .ok (.getfield 27, 3) := by decide +kernel
theorem dX2_reckonHang_28 : decode cX2_reckonHang 28 = .ok (.getfield 77, 3) := by decide +kernel
theorem dX2_reckonHang_31 : decode cX2_reckonHang 31 = .ok (.if_icmp .ge 80, 3) := by decide +kernel
theorem dX2_reckonHang_34 : decode cX2_reckonHang 34 = .ok (.aload_n 0, 1) := by decide +kernel
theorem dX2_reckonHang_35 : decode cX2_reckonHang 35 = .ok (.getfield 27, 3) := by decide +kernel
theorem dX2_reckonHang_38 : decode cX2_reckonHang 38 = .ok (.getfield 80, 3) := by decide +kernel
theorem dX2_reckonHang_41 : decode cX2_reckonHang 41 = .ok (.iload_n 1, 1) := by decide +kernel
theorem dX2_reckonHang_42 : decode cX2_reckonHang 42 = .ok (.iaload, 1) := by decide +kernel
theorem dX2_reckonHang_43 : decode cX2_reckonHang 43 = .ok (.istore_n 2, 1) := by decide +kernel
theorem dX2_reckonHang_44 : decode cX2_reckonHang 44 = .ok (.aload_n 0, 1) := by decide +kernel
theorem dX2_reckonHang_45 : decode cX2_reckonHang 45 = .ok (.getfield 27, 3) := by decide +kernel
theorem dX2_reckonHang_48 : decode cX2_reckonHang 48 = .ok (.getfield 83, 3) := by decide +kernel
theorem dX2_reckonHang_51 : decode cX2_reckonHang 51 = .ok (.iload_n 1, 1) := by decide +kernel
theorem dX2_reckonHang_52 : decode cX2_reckonHang 52 = .ok (.iaload, 1) := by decide +kernel
theorem dX2_reckonHang_53 : decode cX2_reckonHang 53 = .ok (.istore_n 3, 1) := by decide +kernel
theorem dX2_reckonHang_54 : decode cX2_reckonHang 54 = .ok (.aload_n 0, 1) := by decide +kernel
theorem dX2_reckonHang_55 : decode cX2_reckonHang 55 = .ok (.getfield 27, 3) := by decide +kernel
theorem dX2_reckonHang_58 : decode cX2_reckonHang 58 = .ok (.getfield 86, 3) := by decide +kernel
theorem dX2_reckonHang_61 : decode cX2_reckonHang 61 = .ok (.iload_n 1, 1) := by decide +kernel
theorem dX2_reckonHang_62 : decode cX2_reckonHang 62 = .ok (.iaload, 1) := by decide +kernel
theorem dX2_reckonHang_63 : decode cX2_reckonHang 63 = .ok (.ifCond .ne 42, 3) := by decide +kernel
theorem dX2_reckonHang_66 : decode cX2_reckonHang 66 = .ok (.iload_n 3, 1) := by decide +kernel
theorem dX2_reckonHang_67 : decode cX2_reckonHang 67 = .ok (.ifCond .lt 38, 3) := by decide +kernel
theorem dX2_reckonHang_70 : decode cX2_reckonHang 70 = .ok (.iload_n 3, 1) := by decide +kernel
theorem dX2_reckonHang_71 : decode cX2_reckonHang 71 = .ok (.bipush 8, 2) := by decide +kernel
theorem dX2_reckonHang_73 : decode cX2_reckonHang 73 = .ok (.if_icmp .ge 32, 3) := by decide +kernel
theorem dX2_reckonHang_76 : decode cX2_reckonHang 76 = .ok (.iload_n 2, 1) := by decide +kernel
theorem dX2_reckonHang_77 : decode cX2_reckonHang 77 = .ok (.ifCond .lt 28, 3) := by decide +kernel
theorem dX2_reckonHang_80 : decode cX2_reckonHang 80 = .ok (.iload_n 2, 1) := by decide +kernel
theorem dX2_reckonHang_81 : decode cX2_reckonHang 81 = .ok (.bipush 16, 2) := by decide +kernel
theorem dX2_reckonHang_83 : decode cX2_reckonHang 83 = .ok (.if_icmp .ge 22, 3) := by decide +kernel
theorem dX2_reckonHang_86 : decode cX2_reckonHang 86 = .ok (.aload_n 0, 1) := by decide +kernel
theorem dX2_reckonHang_87 : decode cX2_reckonHang 87 = .ok (.iload_n 3, 1) := by decide +kernel
theorem dX2_reckonHang_88 : decode cX2_reckonHang 88 = .ok (.aload_n 0, 1) := by decide +kernel
theorem dX2_reckonHang_89 : decode cX2_reckonHang 89 = .ok (.getfield 27, 3) := by decide +kernel
theorem dX2_reckonHang_92 : decode cX2_reckonHang 92 = .ok (.getfield 91, 3) := by decide +kernel
theorem dX2_reckonHang_95 : decode cX2_reckonHang 95 = .ok (.iload_n 2, 1) := by decide +kernel
theorem dX2_reckonHang_96 : decode cX2_reckonHang 96 = .ok (.iaload, 1) := by decide +kernel
theorem dX2_reckonHang_97 : decode cX2_reckonHang 97 = .ok (.aload_n 0, 1) := by decide +kernel
theorem dX2_reckonHang_98 : decode cX2_reckonHang 98 = .ok (.iload_n 2, 1) := by decide +kernel
theorem dX2_reckonHang_99 : decode cX2_reckonHang 99 = .ok (.invokevirtual 65, 3) := by decide +kernel
theorem dX2_reckonHang_102 : decode cX2_reckonHang 102 = .ok (.invokevirtual 94, 3) := by decide +kernel
theorem dX2_reckonHang_105 : decode cX2_reckonHang 105 = .ok (.iinc 1 1, 3) := by decide +kernel
theorem dX2_reckonHang_108 : decode cX2_reckonHang 108 = .ok (.goto (-85), 3) := by decide +kernel
theorem dX2_reckonHang_111 : decode cX2_reckonHang 111 = .ok (.return_, 1) := by decide +kernel
def FX0_place_L19 (σ : SS) (v1 : Int32) (v2 : Int32) (k : Int32 → Option (Int32)) : Nat → Int32 → Int32 → Option (Int32)
  | 0, _, _ => none
  | n + 1, v3, v4 => if v1 < v4 then k v3
    else gd (inb v4 16) (gd (inb v1 16) (if (gA σ 43 (Int32.toNatClampNeg v4)) = (gA σ 43 (Int32.toNatClampNeg v1)) then ob (FX7_has σ v2 v4) (fun r8 => if r8 = 0 then FX0_place_L19 σ v1 v2 k n v3 (v4 + (1 : Int32))
    else FX0_place_L19 σ v1 v2 k n (v3 + (1 : Int32)) (v4 + (1 : Int32)))
    else FX0_place_L19 σ v1 v2 k n v3 (v4 + (1 : Int32))))
set_option maxRecDepth 100000 in
set_option maxHeartbeats 4000000 in
theorem PX0_place_L19 {X : Bx} {g : Gx} {r : Int32} {σ : SS} (hX : Okw wsX X g cX0_place 5 RX0 (some .int) ({ frames := 1, cells := 0, slots := 0, locals := 21 } : Room) (fun g => some (.int r)) σ) {v1 : Int32} {v2 : Int32} {k : Int32 → Option (Int32)} (hk : ∀ (v3 : Int32), k v3 = some r → Vx X g.1 5 (wsX g σ) 59 [(3, .int v3)] []) : ∀ (n : Nat) (v3 : Int32) (v4 : Int32), FX0_place_L19 σ v1 v2 k n v3 v4 = some r → Vx X g.1 5 (wsX g σ) 19 [(0, .ref (g.2.1 14)), (1, .int v1), (2, .int v2), (3, .int v3), (4, .int v4)] [] := by
  have h0 := hX.1
  intro n
  induction n with
  | zero =>
    intro v3 v4 hf
    rw [FX0_place_L19] at hf
    cases hf
  | succ n ih =>
    intro v3 v4 hf
    rw [FX0_place_L19] at hf
    refine vx_iload h0 dX0_place_19 rfl ?_
    refine vx_iload_n h0 dX0_place_21 rfl ?_
    refine vx_icmp_gt (tgt := 59) h0 dX0_place_22 (by decide) (fun c3 => ?_) (fun c3 => ?_)
    · replace hf := (if_pos c3).symm.trans hf
      refine vx_sub [3] rfl ?_
      exact hk _ hf
    · replace hf := (if_neg c3).symm.trans hf
      refine vx_aload_n h0 dX0_place_25 rfl ?_
      refine xg_14_3 hX q115 dX0_place_26 ?_
      refine vx_iload h0 dX0_place_29 rfl ?_
      obtain ⟨b4, hf⟩ := gd_some hf
      refine xl_15 hX b4 dX0_place_31 ?_
      refine vx_aload_n h0 dX0_place_32 rfl ?_
      refine xg_14_3 hX q115 dX0_place_33 ?_
      refine vx_iload_n h0 dX0_place_36 rfl ?_
      obtain ⟨b5, hf⟩ := gd_some hf
      refine xl_15 hX b5 dX0_place_37 ?_
      refine vx_icmp_ne (tgt := 53) h0 dX0_place_38 (by decide) (fun c6 => ?_) (fun c6 => ?_)
      · replace hf := (if_neg c6).symm.trans hf
        refine vx_iinc (q := 4) (v := (v4 + (1 : Int32))) (ls' := [(4, .int (v4 + (1 : Int32))), (0, .ref (g.2.1 14)), (1, .int v1), (2, .int v2), (3, .int v3)]) h0 dX0_place_53 rfl rfl (by decide) rfl ?_
        refine vx_goto (tgt := 19) h0 dX0_place_56 (by decide) ?_
        refine vx_sub [1, 2, 3, 4, 0] rfl ?_
        exact ih _ _ hf
      · replace hf := (if_pos c6).symm.trans hf
        refine vx_iload_n h0 dX0_place_41 rfl ?_
        refine vx_iload h0 dX0_place_42 rfl ?_
        obtain ⟨r8, h7, hf⟩ := ob_some hf
        refine w_callSN (st := []) hX (c_X7_has h7) ce_X7_has q664 ⟨rfl, rfl⟩ ⟨by decide, by decide⟩ rfl rfl rfl (Nat.le_of_ble_eq_true rfl) dX0_place_44 ?_
        show Vx X g.1 5 (wsX g σ) 47 [(0, .ref (g.2.1 14)), (1, .int v1), (2, .int v2), (3, .int v3), (4, .int v4)] [.int r8]
        refine vx_if_eq (tgt := 53) h0 dX0_place_47 (by decide) (fun c9 => ?_) (fun c9 => ?_)
        · replace hf := (if_pos c9).symm.trans hf
          refine vx_iinc (q := 4) (v := (v4 + (1 : Int32))) (ls' := [(4, .int (v4 + (1 : Int32))), (0, .ref (g.2.1 14)), (1, .int v1), (2, .int v2), (3, .int v3)]) h0 dX0_place_53 rfl rfl (by decide) rfl ?_
          refine vx_goto (tgt := 19) h0 dX0_place_56 (by decide) ?_
          refine vx_sub [1, 2, 3, 4, 0] rfl ?_
          exact ih _ _ hf
        · replace hf := (if_neg c9).symm.trans hf
          refine vx_iinc (q := 3) (v := (v3 + (1 : Int32))) (ls' := [(3, .int (v3 + (1 : Int32))), (0, .ref (g.2.1 14)), (1, .int v1), (2, .int v2), (4, .int v4)]) h0 dX0_place_50 rfl rfl (by decide) rfl ?_
          refine vx_iinc (q := 4) (v := (v4 + (1 : Int32))) (ls' := [(4, .int (v4 + (1 : Int32))), (3, .int (v3 + (1 : Int32))), (0, .ref (g.2.1 14)), (1, .int v1), (2, .int v2)]) h0 dX0_place_53 rfl rfl (by decide) rfl ?_
          refine vx_goto (tgt := 19) h0 dX0_place_56 (by decide) ?_
          refine vx_sub [2, 3, 4, 1, 0] rfl ?_
          exact ih _ _ hf
def FX0_place (σ : SS) (a0 : Int32) (a1 : Int32) : Option (Int32) :=
  if a0 < 0 then some (0 : Int32)
    else if a0 < (gI σ 40) then FX0_place_L19 σ a0 a1 (fun u10 => some u10) 5000 (0 : Int32) (0 : Int32)
    else some (0 : Int32)
set_option maxRecDepth 100000 in
set_option maxHeartbeats 4000000 in
theorem c_X0_place {σ : SS} {a0 : Int32} {a1 : Int32} {r : Int32} (hf : FX0_place σ a0 a1 = some r) : Mcw wsX yX0_place cX0_place 5 (some .int) ({ frames := 1, cells := 0, slots := 0, locals := 21 } : Room) (fun g => [.ref (g.2.1 14), .int a0, .int a1]) σ (fun g => some (.int r)) σ := by
  refine w_enter wsX_fix (by decide) (fun g => Nat.le_of_ble_eq_true rfl) ?_
  intro X g hX
  replace hX : Okw wsX X g cX0_place 5 RX0 (some .int) ({ frames := 1, cells := 0, slots := 0, locals := 21 } : Room) (fun g => some (.int r)) σ := hX
  have h0 := hX.1
  show Vx X g.1 5 (wsX g σ) 0 [(0, .ref (g.2.1 14)), (1, .int a0), (2, .int a1)] []
  rw [FX0_place] at hf
  refine vx_iload_n h0 dX0_place_0 rfl ?_
  refine vx_if_lt (tgt := 12) h0 dX0_place_1 (by decide) (fun c1 => ?_) (fun c1 => ?_)
  · replace hf := (if_pos c1).symm.trans hf
    refine vx_iconst (v := (0 : Int32)) h0 dX0_place_12 (by decide) ?_
    exact w_iretP hX hf dX0_place_13
  · replace hf := (if_neg c1).symm.trans hf
    refine vx_iload_n h0 dX0_place_4 rfl ?_
    refine vx_aload_n h0 dX0_place_5 rfl ?_
    refine xg_14_0 hX q100 dX0_place_6 ?_
    refine vx_icmp_lt (tgt := 14) h0 dX0_place_9 (by decide) (fun c2 => ?_) (fun c2 => ?_)
    · replace hf := (if_pos c2).symm.trans hf
      refine vx_iconst (v := (0 : Int32)) h0 dX0_place_14 (by decide) ?_
      refine vx_istore_n (ls' := [(3, .int (0 : Int32)), (0, .ref (g.2.1 14)), (1, .int a0), (2, .int a1)]) h0 dX0_place_15 (by decide) rfl ?_
      refine vx_iconst (v := (0 : Int32)) h0 dX0_place_16 (by decide) ?_
      refine vx_istore (ls' := [(4, .int (0 : Int32)), (3, .int (0 : Int32)), (0, .ref (g.2.1 14)), (1, .int a0), (2, .int a1)]) h0 dX0_place_17 (by decide) rfl ?_
      refine vx_sub [2, 3, 4, 1, 0] rfl ?_
      refine PX0_place_L19 hX (fun u10 hf => ?_) _ _ _ hf
      refine vx_iload_n h0 dX0_place_59 rfl ?_
      exact w_iretP hX hf dX0_place_60
    · replace hf := (if_neg c2).symm.trans hf
      refine vx_iconst (v := (0 : Int32)) h0 dX0_place_12 (by decide) ?_
      exact w_iretP hX hf dX0_place_13
def FX1_clear (σ : SS) : Option (SS) :=
  bd (sI σ 70 (0 : Int32)) (fun σ1 => some σ1)
set_option maxRecDepth 100000 in
set_option maxHeartbeats 4000000 in
theorem c_X1_clear {σ : SS} {σr : SS} (hf : FX1_clear σ = some σr) : Mcw wsX yX1_clear cX1_clear 1 none ({ frames := 0, cells := 0, slots := 0, locals := 0 } : Room) (fun g => [.ref (g.2.1 25)]) σ (fun g => none) σr := by
  refine w_enter wsX_fix (by decide) (fun g => Nat.le_of_ble_eq_true rfl) ?_
  intro X g hX
  replace hX : Okw wsX X g cX1_clear 1 RX1 none ({ frames := 0, cells := 0, slots := 0, locals := 0 } : Room) (fun g => none) σr := hX
  have h0 := hX.1
  show Vx X g.1 1 (wsX g σ) 0 [(0, .ref (g.2.1 25))] []
  rw [FX1_clear] at hf
  refine vx_aload_n h0 dX1_clear_0 rfl ?_
  refine vx_iconst (v := (0 : Int32)) h0 dX1_clear_1 (by decide) ?_
  refine xp_25_0 hX q229 dX1_clear_2 ?_
  generalize (sI σ 70 (0 : Int32)) = σ1 at hf ⊢
  replace hf := bd_h hf
  exact w_vretE hX hf dX1_clear_5
def FX1_push_J30 (σ : SS) (v1 : Int32) : Option (SS) :=
  gd (inb (gI σ 70) 8) (bd (sA σ 71 (upd (gA σ 71) (Int32.toNatClampNeg (gI σ 70)) v1)) (fun σ3 => bd (sI σ3 70 ((gI σ3 70) + (1 : Int32))) (fun σ4 => some σ4)))
set_option maxRecDepth 100000 in
set_option maxHeartbeats 4000000 in
theorem PX1_push_J30 {X : Bx} {g : Gx} {σr : SS} {σ : SS} (hX : Okw wsX X g cX1_push 2 RX1 none ({ frames := 1, cells := 0, slots := 0, locals := 22 } : Room) (fun g => none) σr) {v1 : Int32} (hf : FX1_push_J30 σ v1 = some σr) : Vx X g.1 2 (wsX g σ) 30 [(0, .ref (g.2.1 25)), (1, .int v1)] [] := by
  have h0 := hX.1
  rw [FX1_push_J30] at hf
  refine vx_aload_n h0 dX1_push_30 rfl ?_
  refine xg_25_1 hX q231 dX1_push_31 ?_
  refine vx_aload_n h0 dX1_push_34 rfl ?_
  refine xg_25_0 hX q229 dX1_push_35 ?_
  refine vx_iload_n h0 dX1_push_38 rfl ?_
  obtain ⟨b2, hf⟩ := gd_some hf
  refine xs_26 hX b2 dX1_push_39 ?_
  generalize (sA σ 71 (upd (gA σ 71) (Int32.toNatClampNeg (gI σ 70)) v1)) = σ3 at hf ⊢
  replace hf := bd_h hf
  refine vx_aload_n h0 dX1_push_40 rfl ?_
  refine vx_dup h0 dX1_push_41 rfl ?_
  refine xg_25_0 hX q229 dX1_push_42 ?_
  refine vx_iconst (v := (1 : Int32)) h0 dX1_push_45 (by decide) ?_
  refine vx_iadd h0 dX1_push_46 ?_
  refine xp_25_0 hX q229 dX1_push_47 ?_
  generalize (sI σ3 70 ((gI σ3 70) + (1 : Int32))) = σ4 at hf ⊢
  replace hf := bd_h hf
  exact w_vretE hX hf dX1_push_50
def FX1_push (σ : SS) (a0 : Int32) : Option (SS) :=
  if (gI σ 70) < (8 : Int32) then FX1_push_J30 σ a0
    else bd (sA σ 71 (va_cpy (gA σ 71) (gA σ 71) (Int32.toNatClampNeg (1 : Int32)) (Int32.toNatClampNeg (0 : Int32)) (Int32.toNatClampNeg (7 : Int32)))) (fun σ5 => bd (sI σ5 70 (7 : Int32)) (fun σ6 => FX1_push_J30 σ6 a0))
set_option maxRecDepth 100000 in
set_option maxHeartbeats 4000000 in
theorem c_X1_push {σ : SS} {a0 : Int32} {σr : SS} (hf : FX1_push σ a0 = some σr) : Mcw wsX yX1_push cX1_push 2 none ({ frames := 1, cells := 0, slots := 0, locals := 22 } : Room) (fun g => [.ref (g.2.1 25), .int a0]) σ (fun g => none) σr := by
  refine w_enter wsX_fix (by decide) (fun g => Nat.le_of_ble_eq_true rfl) ?_
  intro X g hX
  replace hX : Okw wsX X g cX1_push 2 RX1 none ({ frames := 1, cells := 0, slots := 0, locals := 22 } : Room) (fun g => none) σr := hX
  have h0 := hX.1
  show Vx X g.1 2 (wsX g σ) 0 [(0, .ref (g.2.1 25)), (1, .int a0)] []
  rw [FX1_push] at hf
  refine vx_aload_n h0 dX1_push_0 rfl ?_
  refine xg_25_0 hX q229 dX1_push_1 ?_
  refine vx_bipush (v := (8 : Int32)) h0 dX1_push_4 (by decide) ?_
  refine vx_icmp_lt (tgt := 30) h0 dX1_push_6 (by decide) (fun c1 => ?_) (fun c1 => ?_)
  · replace hf := (if_pos c1).symm.trans hf
    exact PX1_push_J30 hX  hf
  · replace hf := (if_neg c1).symm.trans hf
    refine vx_aload_n h0 dX1_push_9 rfl ?_
    refine xg_25_1 hX q231 dX1_push_10 ?_
    refine vx_iconst (v := (1 : Int32)) h0 dX1_push_13 (by decide) ?_
    refine vx_aload_n h0 dX1_push_14 rfl ?_
    refine xg_25_1 hX q231 dX1_push_15 ?_
    refine vx_iconst (v := (0 : Int32)) h0 dX1_push_18 (by decide) ?_
    refine vx_bipush (v := (7 : Int32)) h0 dX1_push_19 (by decide) ?_
    refine vx_copyi h0 (hX.2.1 _) 26 26 0 (xa_26 g _) (xa_26 g _) rfl (by decide) q499 q419 q418 q77 ⟨by rw [hX.2.2.2.2.2.1]; exact Nat.le_of_ble_eq_true rfl, by rw [hX.2.2.2.2.2.1]; exact Nat.le_of_ble_eq_true rfl⟩ dX1_push_21 (xu_26 g _ _) ?_
    generalize (sA σ 71 (va_cpy (gA σ 71) (gA σ 71) (Int32.toNatClampNeg (1 : Int32)) (Int32.toNatClampNeg (0 : Int32)) (Int32.toNatClampNeg (7 : Int32)))) = σ5 at hf ⊢
    replace hf := bd_h hf
    refine vx_aload_n h0 dX1_push_24 rfl ?_
    refine vx_bipush (v := (7 : Int32)) h0 dX1_push_25 (by decide) ?_
    refine xp_25_0 hX q229 dX1_push_27 ?_
    generalize (sI σ5 70 (7 : Int32)) = σ6 at hf ⊢
    replace hf := bd_h hf
    exact PX1_push_J30 hX  hf
def FX1_pop (σ : SS) : Option (Int32 × SS) :=
  if 0 < (gI σ 70) then bd (sI σ 70 ((gI σ 70) - (1 : Int32))) (fun σ2 => gd (inb (gI σ2 70) 8) (some ((gA σ2 71 (Int32.toNatClampNeg (gI σ2 70))), σ2)))
    else some ((0 : Int32), σ)
set_option maxRecDepth 100000 in
set_option maxHeartbeats 4000000 in
theorem c_X1_pop {σ : SS} {r : Int32} {σr : SS} (hf : FX1_pop σ = some (r, σr)) : Mcw wsX yX1_pop cX1_pop 1 (some .int) ({ frames := 0, cells := 0, slots := 0, locals := 0 } : Room) (fun g => [.ref (g.2.1 25)]) σ (fun g => some (.int r)) σr := by
  refine w_enter wsX_fix (by decide) (fun g => Nat.le_of_ble_eq_true rfl) ?_
  intro X g hX
  replace hX : Okw wsX X g cX1_pop 1 RX1 (some .int) ({ frames := 0, cells := 0, slots := 0, locals := 0 } : Room) (fun g => some (.int r)) σr := hX
  have h0 := hX.1
  show Vx X g.1 1 (wsX g σ) 0 [(0, .ref (g.2.1 25))] []
  rw [FX1_pop] at hf
  refine vx_aload_n h0 dX1_pop_0 rfl ?_
  refine xg_25_0 hX q229 dX1_pop_1 ?_
  refine vx_if_gt (tgt := 9) h0 dX1_pop_4 (by decide) (fun c1 => ?_) (fun c1 => ?_)
  · replace hf := (if_pos c1).symm.trans hf
    refine vx_aload_n h0 dX1_pop_9 rfl ?_
    refine vx_dup h0 dX1_pop_10 rfl ?_
    refine xg_25_0 hX q229 dX1_pop_11 ?_
    refine vx_iconst (v := (1 : Int32)) h0 dX1_pop_14 (by decide) ?_
    refine vx_isub h0 dX1_pop_15 ?_
    refine xp_25_0 hX q229 dX1_pop_16 ?_
    generalize (sI σ 70 ((gI σ 70) - (1 : Int32))) = σ2 at hf ⊢
    replace hf := bd_h hf
    refine vx_aload_n h0 dX1_pop_19 rfl ?_
    refine xg_25_1 hX q231 dX1_pop_20 ?_
    refine vx_aload_n h0 dX1_pop_23 rfl ?_
    refine xg_25_0 hX q229 dX1_pop_24 ?_
    obtain ⟨b3, hf⟩ := gd_some hf
    refine xl_26 hX b3 dX1_pop_27 ?_
    exact w_iretE hX hf dX1_pop_28
  · replace hf := (if_neg c1).symm.trans hf
    refine vx_iconst (v := (0 : Int32)) h0 dX1_pop_7 (by decide) ?_
    exact w_iretE hX hf dX1_pop_8
def FX2_forceOf (σ : SS) (a0 : Int32) : Option (Int64) :=
  if a0 < 0 then some (0 : Int64)
    else if (gI σ 40) ≤ a0 then some (0 : Int64)
    else gd (inb a0 16) (some (gL σ 81 (Int32.toNatClampNeg a0)))
set_option maxRecDepth 100000 in
set_option maxHeartbeats 4000000 in
theorem c_X2_forceOf {σ : SS} {a0 : Int32} {r : Int64} (hf : FX2_forceOf σ a0 = some r) : Mcw wsX yX2_forceOf cX2_forceOf 2 (some .long) ({ frames := 0, cells := 0, slots := 0, locals := 0 } : Room) (fun g => [.ref (g.2.1 28), .int a0]) σ (fun g => some (.long r)) σ := by
  refine w_enter wsX_fix (by decide) (fun g => Nat.le_of_ble_eq_true rfl) ?_
  intro X g hX
  replace hX : Okw wsX X g cX2_forceOf 2 RX2 (some .long) ({ frames := 0, cells := 0, slots := 0, locals := 0 } : Room) (fun g => some (.long r)) σ := hX
  have h0 := hX.1
  show Vx X g.1 2 (wsX g σ) 0 [(0, .ref (g.2.1 28)), (1, .int a0)] []
  rw [FX2_forceOf] at hf
  refine vx_iload_n h0 dX2_forceOf_0 rfl ?_
  refine vx_if_lt (tgt := 24) h0 dX2_forceOf_1 (by decide) (fun c1 => ?_) (fun c1 => ?_)
  · replace hf := (if_pos c1).symm.trans hf
    refine vx_lconst (v := (0 : Int64)) h0 dX2_forceOf_24 (by decide) ?_
    exact w_lretP hX hf dX2_forceOf_25
  · replace hf := (if_neg c1).symm.trans hf
    refine vx_iload_n h0 dX2_forceOf_4 rfl ?_
    refine vx_aload_n h0 dX2_forceOf_5 rfl ?_
    refine xg_28_0 hX q247 dX2_forceOf_6 ?_
    refine xg_14_0 hX q102 dX2_forceOf_9 ?_
    refine vx_icmp_ge (tgt := 24) h0 dX2_forceOf_12 (by decide) (fun c2 => ?_) (fun c2 => ?_)
    · replace hf := (if_pos c2).symm.trans hf
      refine vx_lconst (v := (0 : Int64)) h0 dX2_forceOf_24 (by decide) ?_
      exact w_lretP hX hf dX2_forceOf_25
    · replace hf := (if_neg c2).symm.trans hf
      refine vx_aload_n h0 dX2_forceOf_15 rfl ?_
      refine xg_28_1 hX q248 dX2_forceOf_16 ?_
      refine vx_iload_n h0 dX2_forceOf_19 rfl ?_
      obtain ⟨b3, hf⟩ := gd_some hf
      refine xl_29 hX b3 dX2_forceOf_20 ?_
      refine vx_goto (tgt := 25) h0 dX2_forceOf_21 (by decide) ?_
      exact w_lretP hX hf dX2_forceOf_25
def FX2_anyForce_L5 (σ : SS) (v1 : Int32) (k : Int64 → Option (Int64)) : Nat → Int64 → Int32 → Option (Int64)
  | 0, _, _ => none
  | n + 1, v2, v4 => if (gI σ 40) ≤ v4 then k v2
    else ob (FX7_has σ v1 v4) (fun r3 => if r3 = 0 then FX2_anyForce_L5 σ v1 k n v2 (v4 + (1 : Int32))
    else gd (inb v4 16) (FX2_anyForce_L5 σ v1 k n (v2 ||| (gL σ 81 (Int32.toNatClampNeg v4))) (v4 + (1 : Int32))))
set_option maxRecDepth 100000 in
set_option maxHeartbeats 4000000 in
theorem PX2_anyForce_L5 {X : Bx} {g : Gx} {r : Int64} {σ : SS} (hX : Okw wsX X g cX2_anyForce 5 RX2 (some .long) ({ frames := 1, cells := 0, slots := 0, locals := 21 } : Room) (fun g => some (.long r)) σ) {v1 : Int32} {k : Int64 → Option (Int64)} (hk : ∀ (v2 : Int64), k v2 = some r → Vx X g.1 5 (wsX g σ) 42 [(2, .long v2)] []) : ∀ (n : Nat) (v2 : Int64) (v4 : Int32), FX2_anyForce_L5 σ v1 k n v2 v4 = some r → Vx X g.1 5 (wsX g σ) 5 [(0, .ref (g.2.1 28)), (1, .int v1), (2, .long v2), (4, .int v4)] [] := by
  have h0 := hX.1
  intro n
  induction n with
  | zero =>
    intro v2 v4 hf
    rw [FX2_anyForce_L5] at hf
    cases hf
  | succ n ih =>
    intro v2 v4 hf
    rw [FX2_anyForce_L5] at hf
    refine vx_iload h0 dX2_anyForce_5 rfl ?_
    refine vx_aload_n h0 dX2_anyForce_7 rfl ?_
    refine xg_28_0 hX q247 dX2_anyForce_8 ?_
    refine xg_14_0 hX q102 dX2_anyForce_11 ?_
    refine vx_icmp_ge (tgt := 42) h0 dX2_anyForce_14 (by decide) (fun c1 => ?_) (fun c1 => ?_)
    · replace hf := (if_pos c1).symm.trans hf
      refine vx_sub [2] rfl ?_
      exact hk _ hf
    · replace hf := (if_neg c1).symm.trans hf
      refine vx_iload_n h0 dX2_anyForce_17 rfl ?_
      refine vx_iload h0 dX2_anyForce_18 rfl ?_
      obtain ⟨r3, h2, hf⟩ := ob_some hf
      refine w_callSN (st := []) hX (c_X7_has h2) ce_X7_has q432 ⟨rfl, rfl⟩ ⟨by decide, by decide⟩ rfl rfl rfl (Nat.le_of_ble_eq_true rfl) dX2_anyForce_20 ?_
      show Vx X g.1 5 (wsX g σ) 23 [(0, .ref (g.2.1 28)), (1, .int v1), (2, .long v2), (4, .int v4)] [.int r3]
      refine vx_if_eq (tgt := 36) h0 dX2_anyForce_23 (by decide) (fun c4 => ?_) (fun c4 => ?_)
      · replace hf := (if_pos c4).symm.trans hf
        refine vx_iinc (q := 3) (v := (v4 + (1 : Int32))) (ls' := [(4, .int (v4 + (1 : Int32))), (0, .ref (g.2.1 28)), (1, .int v1), (2, .long v2)]) h0 dX2_anyForce_36 rfl rfl (by decide) rfl ?_
        refine vx_goto (tgt := 5) h0 dX2_anyForce_39 (by decide) ?_
        refine vx_sub [1, 2, 3, 0] rfl ?_
        exact ih _ _ hf
      · replace hf := (if_neg c4).symm.trans hf
        refine vx_lload_n h0 dX2_anyForce_26 rfl ?_
        refine vx_aload_n h0 dX2_anyForce_27 rfl ?_
        refine xg_28_1 hX q248 dX2_anyForce_28 ?_
        refine vx_iload h0 dX2_anyForce_31 rfl ?_
        obtain ⟨b5, hf⟩ := gd_some hf
        refine xl_29 hX b5 dX2_anyForce_33 ?_
        refine vx_lor h0 dX2_anyForce_34 ?_
        refine vx_lstore_n (ls' := [(2, .long (v2 ||| (gL σ 81 (Int32.toNatClampNeg v4)))), (0, .ref (g.2.1 28)), (1, .int v1), (4, .int v4)]) h0 dX2_anyForce_35 (by decide) rfl ?_
        refine vx_iinc (q := 3) (v := (v4 + (1 : Int32))) (ls' := [(4, .int (v4 + (1 : Int32))), (2, .long (v2 ||| (gL σ 81 (Int32.toNatClampNeg v4)))), (0, .ref (g.2.1 28)), (1, .int v1)]) h0 dX2_anyForce_36 rfl rfl (by decide) rfl ?_
        refine vx_goto (tgt := 5) h0 dX2_anyForce_39 (by decide) ?_
        refine vx_sub [2, 3, 1, 0] rfl ?_
        exact ih _ _ hf
def FX2_anyForce (σ : SS) (a0 : Int32) : Option (Int64) :=
  FX2_anyForce_L5 σ a0 (fun u6 => some u6) 5000 (0 : Int64) (0 : Int32)
set_option maxRecDepth 100000 in
set_option maxHeartbeats 4000000 in
theorem c_X2_anyForce {σ : SS} {a0 : Int32} {r : Int64} (hf : FX2_anyForce σ a0 = some r) : Mcw wsX yX2_anyForce cX2_anyForce 5 (some .long) ({ frames := 1, cells := 0, slots := 0, locals := 21 } : Room) (fun g => [.ref (g.2.1 28), .int a0]) σ (fun g => some (.long r)) σ := by
  refine w_enter wsX_fix (by decide) (fun g => Nat.le_of_ble_eq_true rfl) ?_
  intro X g hX
  replace hX : Okw wsX X g cX2_anyForce 5 RX2 (some .long) ({ frames := 1, cells := 0, slots := 0, locals := 21 } : Room) (fun g => some (.long r)) σ := hX
  have h0 := hX.1
  show Vx X g.1 5 (wsX g σ) 0 [(0, .ref (g.2.1 28)), (1, .int a0)] []
  rw [FX2_anyForce] at hf
  refine vx_lconst (v := (0 : Int64)) h0 dX2_anyForce_0 (by decide) ?_
  refine vx_lstore_n (ls' := [(2, .long (0 : Int64)), (0, .ref (g.2.1 28)), (1, .int a0)]) h0 dX2_anyForce_1 (by decide) rfl ?_
  refine vx_iconst (v := (0 : Int32)) h0 dX2_anyForce_2 (by decide) ?_
  refine vx_istore (ls' := [(4, .int (0 : Int32)), (2, .long (0 : Int64)), (0, .ref (g.2.1 28)), (1, .int a0)]) h0 dX2_anyForce_3 (by decide) rfl ?_
  refine vx_sub [2, 3, 1, 0] rfl ?_
  refine PX2_anyForce_L5 hX (fun u6 hf => ?_) _ _ _ hf
  refine vx_lload_n h0 dX2_anyForce_42 rfl ?_
  exact w_lretP hX hf dX2_anyForce_43
def FX2_forceSoFar_J38 (σ : SS) (v1 : Int32) (v2 : Int64) : Option (Int64) :=
  ob (FX7_has σ (gI σ 42) v1) (fun r6 => if r6 = 0 then some v2
    else gd (inb v1 16) (ob (FX2_anyForce σ ((gA σ 47 (Int32.toNatClampNeg v1)) &&& ((jshl (1 : Int32) v1) ^^^ (-1 : Int32)))) (fun r10 => some (v2 &&& r10))))
set_option maxRecDepth 100000 in
set_option maxHeartbeats 4000000 in
theorem PX2_forceSoFar_J38 {X : Bx} {g : Gx} {r : Int64} {σ : SS} (hX : Okw wsX X g cX2_forceSoFar 4 RX2 (some .long) ({ frames := 2, cells := 0, slots := 0, locals := 46 } : Room) (fun g => some (.long r)) σ) {v1 : Int32} {v2 : Int64} (hf : FX2_forceSoFar_J38 σ v1 v2 = some r) : Vx X g.1 4 (wsX g σ) 38 [(0, .ref (g.2.1 28)), (1, .int v1), (2, .long v2)] [] := by
  have h0 := hX.1
  rw [FX2_forceSoFar_J38] at hf
  refine vx_aload_n h0 dX2_forceSoFar_38 rfl ?_
  refine xg_28_0 hX q247 dX2_forceSoFar_39 ?_
  refine xg_14_2 hX q112 dX2_forceSoFar_42 ?_
  refine vx_iload_n h0 dX2_forceSoFar_45 rfl ?_
  obtain ⟨r6, h5, hf⟩ := ob_some hf
  refine w_callSN (st := []) hX (c_X7_has h5) ce_X7_has q432 ⟨rfl, rfl⟩ ⟨by decide, by decide⟩ rfl rfl rfl (Nat.le_of_ble_eq_true rfl) dX2_forceSoFar_46 ?_
  show Vx X g.1 4 (wsX g σ) 49 [(0, .ref (g.2.1 28)), (1, .int v1), (2, .long v2)] [.int r6]
  refine vx_if_eq (tgt := 74) h0 dX2_forceSoFar_49 (by decide) (fun c7 => ?_) (fun c7 => ?_)
  · replace hf := (if_pos c7).symm.trans hf
    refine vx_lload_n h0 dX2_forceSoFar_74 rfl ?_
    exact w_lretP hX hf dX2_forceSoFar_75
  · replace hf := (if_neg c7).symm.trans hf
    refine vx_lload_n h0 dX2_forceSoFar_52 rfl ?_
    refine vx_aload_n h0 dX2_forceSoFar_53 rfl ?_
    refine vx_aload_n h0 dX2_forceSoFar_54 rfl ?_
    refine xg_28_0 hX q247 dX2_forceSoFar_55 ?_
    refine xg_14_7 hX q129 dX2_forceSoFar_58 ?_
    refine vx_iload_n h0 dX2_forceSoFar_61 rfl ?_
    obtain ⟨b8, hf⟩ := gd_some hf
    refine xl_19 hX b8 dX2_forceSoFar_62 ?_
    refine vx_iconst (v := (1 : Int32)) h0 dX2_forceSoFar_63 (by decide) ?_
    refine vx_iload_n h0 dX2_forceSoFar_64 rfl ?_
    refine vx_ishl h0 dX2_forceSoFar_65 ?_
    refine vx_iconst (v := (-1 : Int32)) h0 dX2_forceSoFar_66 (by decide) ?_
    refine vx_ixor h0 dX2_forceSoFar_67 ?_
    refine vx_iand h0 dX2_forceSoFar_68 ?_
    obtain ⟨r10, h9, hf⟩ := ob_some hf
    refine w_callV (st := [.long v2]) (ci := 2) (q0 := 28) hX (c_X2_anyForce h9) ce_X2_anyForce q451 ⟨rfl, rfl⟩ ⟨by decide, by decide⟩ rfl rfl rfl rfl (xo_28 g _) rfl (Nat.le_of_ble_eq_true rfl) dX2_forceSoFar_69 ?_
    show Vx X g.1 4 (wsX g σ) 72 [(0, .ref (g.2.1 28)), (1, .int v1), (2, .long v2)] [.long r10, .long v2]
    refine vx_land h0 dX2_forceSoFar_72 ?_
    refine vx_lstore_n (ls' := [(2, .long (v2 &&& r10)), (0, .ref (g.2.1 28)), (1, .int v1)]) h0 dX2_forceSoFar_73 (by decide) rfl ?_
    refine vx_lload_n h0 dX2_forceSoFar_74 rfl ?_
    exact w_lretP hX hf dX2_forceSoFar_75
def FX2_forceSoFar (σ : SS) (a0 : Int32) : Option (Int64) :=
  ob (FX0_holds σ a0) (fun r2 => gd (inb a0 16) (if (gA σ 43 (Int32.toNatClampNeg a0)) = (-1 : Int32) then FX2_forceSoFar_J38 σ a0 r2
    else gd (inb a0 16) (ob (FX2_forceOf σ (gA σ 43 (Int32.toNatClampNeg a0))) (fun r13 => FX2_forceSoFar_J38 σ a0 (r2 &&& r13)))))
set_option maxRecDepth 100000 in
set_option maxHeartbeats 4000000 in
theorem c_X2_forceSoFar {σ : SS} {a0 : Int32} {r : Int64} (hf : FX2_forceSoFar σ a0 = some r) : Mcw wsX yX2_forceSoFar cX2_forceSoFar 4 (some .long) ({ frames := 2, cells := 0, slots := 0, locals := 46 } : Room) (fun g => [.ref (g.2.1 28), .int a0]) σ (fun g => some (.long r)) σ := by
  refine w_enter wsX_fix (by decide) (fun g => Nat.le_of_ble_eq_true rfl) ?_
  intro X g hX
  replace hX : Okw wsX X g cX2_forceSoFar 4 RX2 (some .long) ({ frames := 2, cells := 0, slots := 0, locals := 46 } : Room) (fun g => some (.long r)) σ := hX
  have h0 := hX.1
  show Vx X g.1 4 (wsX g σ) 0 [(0, .ref (g.2.1 28)), (1, .int a0)] []
  rw [FX2_forceSoFar] at hf
  refine vx_aload_n h0 dX2_forceSoFar_0 rfl ?_
  refine xg_28_0 hX q247 dX2_forceSoFar_1 ?_
  refine vx_iload_n h0 dX2_forceSoFar_4 rfl ?_
  obtain ⟨r2, h1, hf⟩ := ob_some hf
  refine w_callV (st := []) (ci := 0) (q0 := 14) hX (c_X0_holds h1) ce_X0_holds q437 ⟨rfl, rfl⟩ ⟨by decide, by decide⟩ rfl rfl rfl rfl (xo_14 g _) rfl (Nat.le_of_ble_eq_true rfl) dX2_forceSoFar_5 ?_
  show Vx X g.1 4 (wsX g σ) 8 [(0, .ref (g.2.1 28)), (1, .int a0)] [.long r2]
  refine vx_lstore_n (ls' := [(2, .long r2), (0, .ref (g.2.1 28)), (1, .int a0)]) h0 dX2_forceSoFar_8 (by decide) rfl ?_
  refine vx_aload_n h0 dX2_forceSoFar_9 rfl ?_
  refine xg_28_0 hX q247 dX2_forceSoFar_10 ?_
  refine xg_14_3 hX q116 dX2_forceSoFar_13 ?_
  refine vx_iload_n h0 dX2_forceSoFar_16 rfl ?_
  obtain ⟨b3, hf⟩ := gd_some hf
  refine xl_15 hX b3 dX2_forceSoFar_17 ?_
  refine vx_iconst (v := (-1 : Int32)) h0 dX2_forceSoFar_18 (by decide) ?_
  refine vx_icmp_eq (tgt := 38) h0 dX2_forceSoFar_19 (by decide) (fun c4 => ?_) (fun c4 => ?_)
  · replace hf := (if_pos c4).symm.trans hf
    refine vx_sub [1, 2, 0] rfl ?_
    exact PX2_forceSoFar_J38 hX  hf
  · replace hf := (if_neg c4).symm.trans hf
    refine vx_lload_n h0 dX2_forceSoFar_22 rfl ?_
    refine vx_aload_n h0 dX2_forceSoFar_23 rfl ?_
    refine vx_aload_n h0 dX2_forceSoFar_24 rfl ?_
    refine xg_28_0 hX q247 dX2_forceSoFar_25 ?_
    refine xg_14_3 hX q116 dX2_forceSoFar_28 ?_
    refine vx_iload_n h0 dX2_forceSoFar_31 rfl ?_
    obtain ⟨b11, hf⟩ := gd_some hf
    refine xl_15 hX b11 dX2_forceSoFar_32 ?_
    obtain ⟨r13, h12, hf⟩ := ob_some hf
    refine w_callV (st := [.long r2]) (ci := 2) (q0 := 28) hX (c_X2_forceOf h12) ce_X2_forceOf q447 ⟨rfl, rfl⟩ ⟨by decide, by decide⟩ rfl rfl rfl rfl (xo_28 g _) rfl (Nat.le_of_ble_eq_true rfl) dX2_forceSoFar_33 ?_
    show Vx X g.1 4 (wsX g σ) 36 [(2, .long r2), (0, .ref (g.2.1 28)), (1, .int a0)] [.long r13, .long r2]
    refine vx_land h0 dX2_forceSoFar_36 ?_
    refine vx_lstore_n (ls' := [(2, .long (r2 &&& r13)), (0, .ref (g.2.1 28)), (1, .int a0)]) h0 dX2_forceSoFar_37 (by decide) rfl ?_
    refine vx_sub [1, 2, 0] rfl ?_
    exact PX2_forceSoFar_J38 hX  hf
def FX2_reckonForce_L2 (v1 : Int32) (k : SS → Option (SS)) : Nat → Int32 → SS → Option (SS)
  | 0, _, _ => none
  | n + 1, v2, σ => if (16 : Int32) ≤ v2 then k σ
    else gd (inb v2 16) (bd (sL σ 81 (vp_updL (gL σ 81) (Int32.toNatClampNeg v2) (0 : Int64))) (fun σ3 => FX2_reckonForce_L2 v1 k n (v2 + (1 : Int32)) σ3))
set_option maxRecDepth 100000 in
set_option maxHeartbeats 4000000 in
theorem PX2_reckonForce_L2 {X : Bx} {g : Gx} {σr : SS} (hX : Okw wsX X g cX2_reckonForce 7 RX2 none ({ frames := 3, cells := 0, slots := 0, locals := 69 } : Room) (fun g => none) σr) {v1 : Int32} {k : SS → Option (SS)} (hk : ∀ (σ : SS), k σ = some σr → Vx X g.1 7 (wsX g σ) 21 [(0, .ref (g.2.1 28)), (1, .int v1)] []) : ∀ (n : Nat) (v2 : Int32) (σ : SS), FX2_reckonForce_L2 v1 k n v2 σ = some σr → Vx X g.1 7 (wsX g σ) 2 [(0, .ref (g.2.1 28)), (1, .int v1), (2, .int v2)] [] := by
  have h0 := hX.1
  intro n
  induction n with
  | zero =>
    intro v2 σ hf
    rw [FX2_reckonForce_L2] at hf
    cases hf
  | succ n ih =>
    intro v2 σ hf
    rw [FX2_reckonForce_L2] at hf
    refine vx_iload_n h0 dX2_reckonForce_2 rfl ?_
    refine vx_bipush (v := (16 : Int32)) h0 dX2_reckonForce_3 (by decide) ?_
    refine vx_icmp_ge (tgt := 21) h0 dX2_reckonForce_5 (by decide) (fun c1 => ?_) (fun c1 => ?_)
    · replace hf := (if_pos c1).symm.trans hf
      refine vx_sub [0, 1] rfl ?_
      exact hk _ hf
    · replace hf := (if_neg c1).symm.trans hf
      refine vx_aload_n h0 dX2_reckonForce_8 rfl ?_
      refine xg_28_1 hX q248 dX2_reckonForce_9 ?_
      refine vx_iload_n h0 dX2_reckonForce_12 rfl ?_
      refine vx_lconst (v := (0 : Int64)) h0 dX2_reckonForce_13 (by decide) ?_
      obtain ⟨b2, hf⟩ := gd_some hf
      refine xs_29 hX b2 dX2_reckonForce_14 ?_
      generalize (sL σ 81 (vp_updL (gL σ 81) (Int32.toNatClampNeg v2) (0 : Int64))) = σ3 at hf ⊢
      replace hf := bd_h hf
      refine vx_iinc (q := 2) (v := (v2 + (1 : Int32))) (ls' := [(2, .int (v2 + (1 : Int32))), (0, .ref (g.2.1 28)), (1, .int v1)]) h0 dX2_reckonForce_15 rfl rfl (by decide) rfl ?_
      refine vx_goto (tgt := 2) h0 dX2_reckonForce_18 (by decide) ?_
      refine vx_sub [1, 2, 0] rfl ?_
      exact ih _ _ hf
def FX2_reckonForce_J90 (σ : SS) (rec : Int32 → Int32 → SS → Option (SS)) (v1 : Int32) (v3 : Int32) (v4 : Int32) (v5 : Int64) : Option (SS) :=
  gd (inb v4 16) (bd (sL σ 81 (vp_updL (gL σ 81) (Int32.toNatClampNeg v4) v5)) (fun σ15 => rec (1 : Int32) (v4 + (1 : Int32)) σ15))
set_option maxRecDepth 100000 in
set_option maxHeartbeats 4000000 in
theorem PX2_reckonForce_J90 {X : Bx} {g : Gx} {σr : SS} {σ : SS} (hX : Okw wsX X g cX2_reckonForce 7 RX2 none ({ frames := 3, cells := 0, slots := 0, locals := 69 } : Room) (fun g => none) σr) {rec : Int32 → Int32 → SS → Option (SS)} {v1 : Int32} {v3 : Int32} {v4 : Int32} {v5 : Int64} (hrec : ∀ (w2 : Int32) (w4 : Int32) (σ2 : SS), rec w2 w4 σ2 = some σr → Vx X g.1 7 (wsX g σ2) 40 [(0, .ref (g.2.1 28)), (1, .int v1), (2, .int w2), (3, .int v3), (4, .int w4)] []) (hf : FX2_reckonForce_J90 σ rec v1 v3 v4 v5 = some σr) : Vx X g.1 7 (wsX g σ) 90 [(0, .ref (g.2.1 28)), (1, .int v1), (3, .int v3), (4, .int v4), (5, .long v5)] [] := by
  have h0 := hX.1
  rw [FX2_reckonForce_J90] at hf
  refine vx_iconst (v := (1 : Int32)) h0 dX2_reckonForce_90 (by decide) ?_
  refine vx_goto (tgt := 95) h0 dX2_reckonForce_91 (by decide) ?_
  refine vx_istore_n (ls' := [(2, .int (1 : Int32)), (0, .ref (g.2.1 28)), (1, .int v1), (3, .int v3), (4, .int v4), (5, .long v5)]) h0 dX2_reckonForce_95 (by decide) rfl ?_
  refine vx_aload_n h0 dX2_reckonForce_96 rfl ?_
  refine xg_28_1 hX q248 dX2_reckonForce_97 ?_
  refine vx_iload h0 dX2_reckonForce_100 rfl ?_
  refine vx_lload h0 dX2_reckonForce_102 rfl ?_
  obtain ⟨b14, hf⟩ := gd_some hf
  refine xs_29 hX b14 dX2_reckonForce_104 ?_
  generalize (sL σ 81 (vp_updL (gL σ 81) (Int32.toNatClampNeg v4) v5)) = σ15 at hf ⊢
  replace hf := bd_h hf
  refine vx_iinc (q := 4) (v := (v4 + (1 : Int32))) (ls' := [(4, .int (v4 + (1 : Int32))), (2, .int (1 : Int32)), (0, .ref (g.2.1 28)), (1, .int v1), (3, .int v3), (5, .long v5)]) h0 dX2_reckonForce_105 rfl rfl (by decide) rfl ?_
  refine vx_goto (tgt := 40) h0 dX2_reckonForce_108 (by decide) ?_
  refine vx_sub [2, 3, 1, 4, 0] rfl ?_
  exact hrec _ _ _ hf
def FX2_reckonForce_J71 (σ : SS) (rec : Int32 → Int32 → SS → Option (SS)) (v1 : Int32) (v2 : Int32) (v3 : Int32) (v4 : Int32) (s0 : Int64) : Option (SS) :=
  if v2 = 0 then gd (inb v4 16) (if (lg_cmp s0 (gL σ 81 (Int32.toNatClampNeg v4))) = 0 then gd (inb v4 16) (bd (sL σ 81 (vp_updL (gL σ 81) (Int32.toNatClampNeg v4) s0)) (fun σ22 => rec (0 : Int32) (v4 + (1 : Int32)) σ22))
    else FX2_reckonForce_J90 σ (fun a23 a24 σ25 => rec a23 a24 σ25) v1 v3 v4 s0)
    else FX2_reckonForce_J90 σ (fun a16 a17 σ18 => rec a16 a17 σ18) v1 v3 v4 s0
set_option maxRecDepth 100000 in
set_option maxHeartbeats 4000000 in
theorem PX2_reckonForce_J71 {X : Bx} {g : Gx} {σr : SS} {σ : SS} (hX : Okw wsX X g cX2_reckonForce 7 RX2 none ({ frames := 3, cells := 0, slots := 0, locals := 69 } : Room) (fun g => none) σr) {rec : Int32 → Int32 → SS → Option (SS)} {v1 : Int32} {v2 : Int32} {v3 : Int32} {v4 : Int32} {s0 : Int64} (hrec : ∀ (w2 : Int32) (w4 : Int32) (σ2 : SS), rec w2 w4 σ2 = some σr → Vx X g.1 7 (wsX g σ2) 40 [(0, .ref (g.2.1 28)), (1, .int v1), (2, .int w2), (3, .int v3), (4, .int w4)] []) (hf : FX2_reckonForce_J71 σ rec v1 v2 v3 v4 s0 = some σr) : Vx X g.1 7 (wsX g σ) 71 [(0, .ref (g.2.1 28)), (1, .int v1), (2, .int v2), (3, .int v3), (4, .int v4)] [.long s0] := by
  have h0 := hX.1
  rw [FX2_reckonForce_J71] at hf
  refine vx_lstore (ls' := [(5, .long s0), (0, .ref (g.2.1 28)), (1, .int v1), (2, .int v2), (3, .int v3), (4, .int v4)]) h0 dX2_reckonForce_71 (by decide) rfl ?_
  refine vx_iload_n h0 dX2_reckonForce_73 rfl ?_
  refine vx_if_ne (tgt := 90) h0 dX2_reckonForce_74 (by decide) (fun c13 => ?_) (fun c13 => ?_)
  · replace hf := (if_neg c13).symm.trans hf
    refine vx_sub [1, 2, 4, 5, 0] rfl ?_
    exact PX2_reckonForce_J90 hX (fun a16 a17 σ18 hf => hrec a16 a17 σ18 hf) hf
  · replace hf := (if_pos c13).symm.trans hf
    refine vx_lload h0 dX2_reckonForce_77 rfl ?_
    refine vx_aload_n h0 dX2_reckonForce_79 rfl ?_
    refine xg_28_1 hX q248 dX2_reckonForce_80 ?_
    refine vx_iload h0 dX2_reckonForce_83 rfl ?_
    obtain ⟨b19, hf⟩ := gd_some hf
    refine xl_29 hX b19 dX2_reckonForce_85 ?_
    refine vx_lcmp h0 dX2_reckonForce_86 ?_
    refine vx_if_eq (tgt := 94) h0 dX2_reckonForce_87 (by decide) (fun c20 => ?_) (fun c20 => ?_)
    · replace hf := (if_pos c20).symm.trans hf
      refine vx_iconst (v := (0 : Int32)) h0 dX2_reckonForce_94 (by decide) ?_
      refine vx_istore_n (ls' := [(2, .int (0 : Int32)), (5, .long s0), (0, .ref (g.2.1 28)), (1, .int v1), (3, .int v3), (4, .int v4)]) h0 dX2_reckonForce_95 (by decide) rfl ?_
      refine vx_aload_n h0 dX2_reckonForce_96 rfl ?_
      refine xg_28_1 hX q248 dX2_reckonForce_97 ?_
      refine vx_iload h0 dX2_reckonForce_100 rfl ?_
      refine vx_lload h0 dX2_reckonForce_102 rfl ?_
      obtain ⟨b21, hf⟩ := gd_some hf
      refine xs_29 hX b21 dX2_reckonForce_104 ?_
      generalize (sL σ 81 (vp_updL (gL σ 81) (Int32.toNatClampNeg v4) s0)) = σ22 at hf ⊢
      replace hf := bd_h hf
      refine vx_iinc (q := 5) (v := (v4 + (1 : Int32))) (ls' := [(4, .int (v4 + (1 : Int32))), (2, .int (0 : Int32)), (5, .long s0), (0, .ref (g.2.1 28)), (1, .int v1), (3, .int v3)]) h0 dX2_reckonForce_105 rfl rfl (by decide) rfl ?_
      refine vx_goto (tgt := 40) h0 dX2_reckonForce_108 (by decide) ?_
      refine vx_sub [3, 4, 1, 5, 0] rfl ?_
      exact hrec _ _ _ hf
    · replace hf := (if_neg c20).symm.trans hf
      refine vx_sub [1, 2, 4, 5, 0] rfl ?_
      exact PX2_reckonForce_J90 hX (fun a23 a24 σ25 hf => hrec a23 a24 σ25 hf) hf
def FX2_reckonForce_L40 (v1 : Int32) (v3 : Int32) (k : Int32 → SS → Option (SS)) : Nat → Int32 → Int32 → SS → Option (SS)
  | 0, _, _, _ => none
  | n + 1, v2, v4, σ => if (gI σ 40) ≤ v4 then k v2 σ
    else ob (FX7_has σ v1 v4) (fun r9 => if r9 = 0 then ob (FX2_forceSoFar σ v4) (fun r12 => FX2_reckonForce_J71 σ (fun a26 a27 σ28 => FX2_reckonForce_L40 v1 v3 k n a26 a27 σ28) v1 v2 v3 v4 r12)
    else FX2_reckonForce_J71 σ (fun a29 a30 σ31 => FX2_reckonForce_L40 v1 v3 k n a29 a30 σ31) v1 v2 v3 v4 (0 : Int64))
set_option maxRecDepth 100000 in
set_option maxHeartbeats 4000000 in
theorem PX2_reckonForce_L40 {X : Bx} {g : Gx} {σr : SS} (hX : Okw wsX X g cX2_reckonForce 7 RX2 none ({ frames := 3, cells := 0, slots := 0, locals := 69 } : Room) (fun g => none) σr) {v1 : Int32} {v3 : Int32} {k : Int32 → SS → Option (SS)} (hk : ∀ (v2 : Int32) (σ : SS), k v2 σ = some σr → Vx X g.1 7 (wsX g σ) 111 [(0, .ref (g.2.1 28)), (1, .int v1), (2, .int v2), (3, .int v3)] []) : ∀ (n : Nat) (v2 : Int32) (v4 : Int32) (σ : SS), FX2_reckonForce_L40 v1 v3 k n v2 v4 σ = some σr → Vx X g.1 7 (wsX g σ) 40 [(0, .ref (g.2.1 28)), (1, .int v1), (2, .int v2), (3, .int v3), (4, .int v4)] [] := by
  have h0 := hX.1
  intro n
  induction n with
  | zero =>
    intro v2 v4 σ hf
    rw [FX2_reckonForce_L40] at hf
    cases hf
  | succ n ih =>
    intro v2 v4 σ hf
    rw [FX2_reckonForce_L40] at hf
    refine vx_iload h0 dX2_reckonForce_40 rfl ?_
    refine vx_aload_n h0 dX2_reckonForce_42 rfl ?_
    refine xg_28_0 hX q247 dX2_reckonForce_43 ?_
    refine xg_14_0 hX q102 dX2_reckonForce_46 ?_
    refine vx_icmp_ge (tgt := 111) h0 dX2_reckonForce_49 (by decide) (fun c7 => ?_) (fun c7 => ?_)
    · replace hf := (if_pos c7).symm.trans hf
      refine vx_sub [0, 1, 2, 3] rfl ?_
      exact hk _ _ hf
    · replace hf := (if_neg c7).symm.trans hf
      refine vx_iload_n h0 dX2_reckonForce_52 rfl ?_
      refine vx_iload h0 dX2_reckonForce_53 rfl ?_
      obtain ⟨r9, h8, hf⟩ := ob_some hf
      refine w_callSN (st := []) hX (c_X7_has h8) ce_X7_has q432 ⟨rfl, rfl⟩ ⟨by decide, by decide⟩ rfl rfl rfl (Nat.le_of_ble_eq_true rfl) dX2_reckonForce_55 ?_
      show Vx X g.1 7 (wsX g σ) 58 [(0, .ref (g.2.1 28)), (1, .int v1), (2, .int v2), (3, .int v3), (4, .int v4)] [.int r9]
      refine vx_if_eq (tgt := 65) h0 dX2_reckonForce_58 (by decide) (fun c10 => ?_) (fun c10 => ?_)
      · replace hf := (if_pos c10).symm.trans hf
        refine vx_aload_n h0 dX2_reckonForce_65 rfl ?_
        refine vx_iload h0 dX2_reckonForce_66 rfl ?_
        obtain ⟨r12, h11, hf⟩ := ob_some hf
        refine w_callV (st := []) (ci := 2) (q0 := 28) hX (c_X2_forceSoFar h11) ce_X2_forceSoFar q433 ⟨rfl, rfl⟩ ⟨by decide, by decide⟩ rfl rfl rfl rfl (xo_28 g _) rfl (Nat.le_of_ble_eq_true rfl) dX2_reckonForce_68 ?_
        show Vx X g.1 7 (wsX g σ) 71 [(0, .ref (g.2.1 28)), (1, .int v1), (2, .int v2), (3, .int v3), (4, .int v4)] [.long r12]
        exact PX2_reckonForce_J71 hX (fun a26 a27 σ28 hf => ih a26 a27 σ28 hf) hf
      · replace hf := (if_neg c10).symm.trans hf
        refine vx_lconst (v := (0 : Int64)) h0 dX2_reckonForce_61 (by decide) ?_
        refine vx_goto (tgt := 71) h0 dX2_reckonForce_62 (by decide) ?_
        exact PX2_reckonForce_J71 hX (fun a29 a30 σ31 hf => ih a29 a30 σ31 hf) hf
def FX2_reckonForce_L25 (v1 : Int32) (k : SS → Option (SS)) : Nat → Int32 → Int32 → SS → Option (SS)
  | 0, _, _, _ => none
  | n + 1, v2, v3, σ => if (16 : Int32) < v3 then k σ
    else if v2 = 0 then k σ
    else FX2_reckonForce_L40 v1 v3 (fun u32 σ33 => FX2_reckonForce_L25 v1 k n u32 (v3 + (1 : Int32)) σ33) 5000 (0 : Int32) (0 : Int32) σ
set_option maxRecDepth 100000 in
set_option maxHeartbeats 4000000 in
theorem PX2_reckonForce_L25 {X : Bx} {g : Gx} {σr : SS} (hX : Okw wsX X g cX2_reckonForce 7 RX2 none ({ frames := 3, cells := 0, slots := 0, locals := 69 } : Room) (fun g => none) σr) {v1 : Int32} {k : SS → Option (SS)} (hk : ∀ (σ : SS), k σ = some σr → Vx X g.1 7 (wsX g σ) 117 [] []) : ∀ (n : Nat) (v2 : Int32) (v3 : Int32) (σ : SS), FX2_reckonForce_L25 v1 k n v2 v3 σ = some σr → Vx X g.1 7 (wsX g σ) 25 [(0, .ref (g.2.1 28)), (1, .int v1), (2, .int v2), (3, .int v3)] [] := by
  have h0 := hX.1
  intro n
  induction n with
  | zero =>
    intro v2 v3 σ hf
    rw [FX2_reckonForce_L25] at hf
    cases hf
  | succ n ih =>
    intro v2 v3 σ hf
    rw [FX2_reckonForce_L25] at hf
    refine vx_iload_n h0 dX2_reckonForce_25 rfl ?_
    refine vx_bipush (v := (16 : Int32)) h0 dX2_reckonForce_26 (by decide) ?_
    refine vx_icmp_gt (tgt := 117) h0 dX2_reckonForce_28 (by decide) (fun c5 => ?_) (fun c5 => ?_)
    · replace hf := (if_pos c5).symm.trans hf
      refine vx_sub [] rfl ?_
      exact hk _ hf
    · replace hf := (if_neg c5).symm.trans hf
      refine vx_iload_n h0 dX2_reckonForce_31 rfl ?_
      refine vx_if_eq (tgt := 117) h0 dX2_reckonForce_32 (by decide) (fun c6 => ?_) (fun c6 => ?_)
      · replace hf := (if_pos c6).symm.trans hf
        refine vx_sub [] rfl ?_
        exact hk _ hf
      · replace hf := (if_neg c6).symm.trans hf
        refine vx_iconst (v := (0 : Int32)) h0 dX2_reckonForce_35 (by decide) ?_
        refine vx_istore_n (ls' := [(2, .int (0 : Int32)), (0, .ref (g.2.1 28)), (1, .int v1), (3, .int v3)]) h0 dX2_reckonForce_36 (by decide) rfl ?_
        refine vx_iconst (v := (0 : Int32)) h0 dX2_reckonForce_37 (by decide) ?_
        refine vx_istore (ls' := [(4, .int (0 : Int32)), (2, .int (0 : Int32)), (0, .ref (g.2.1 28)), (1, .int v1), (3, .int v3)]) h0 dX2_reckonForce_38 (by decide) rfl ?_
        refine vx_sub [2, 3, 1, 4, 0] rfl ?_
        refine PX2_reckonForce_L40 hX (fun u32 σ33 hf => ?_) _ _ _ _ hf
        refine vx_iinc (q := 3) (v := (v3 + (1 : Int32))) (ls' := [(3, .int (v3 + (1 : Int32))), (0, .ref (g.2.1 28)), (1, .int v1), (2, .int u32)]) h0 dX2_reckonForce_111 rfl rfl (by decide) rfl ?_
        refine vx_goto (tgt := 25) h0 dX2_reckonForce_114 (by decide) ?_
        refine vx_sub [1, 2, 3, 0] rfl ?_
        exact ih _ _ _ hf
def FX2_reckonForce (σ : SS) (a0 : Int32) : Option (SS) :=
  FX2_reckonForce_L2 a0 (fun σ4 => FX2_reckonForce_L25 a0 (fun σ34 => some σ34) 5000 (1 : Int32) (0 : Int32) σ4) 5000 (0 : Int32) σ
set_option maxRecDepth 100000 in
set_option maxHeartbeats 4000000 in
theorem c_X2_reckonForce {σ : SS} {a0 : Int32} {σr : SS} (hf : FX2_reckonForce σ a0 = some σr) : Mcw wsX yX2_reckonForce cX2_reckonForce 7 none ({ frames := 3, cells := 0, slots := 0, locals := 69 } : Room) (fun g => [.ref (g.2.1 28), .int a0]) σ (fun g => none) σr := by
  refine w_enter wsX_fix (by decide) (fun g => Nat.le_of_ble_eq_true rfl) ?_
  intro X g hX
  replace hX : Okw wsX X g cX2_reckonForce 7 RX2 none ({ frames := 3, cells := 0, slots := 0, locals := 69 } : Room) (fun g => none) σr := hX
  have h0 := hX.1
  show Vx X g.1 7 (wsX g σ) 0 [(0, .ref (g.2.1 28)), (1, .int a0)] []
  rw [FX2_reckonForce] at hf
  refine vx_iconst (v := (0 : Int32)) h0 dX2_reckonForce_0 (by decide) ?_
  refine vx_istore_n (ls' := [(2, .int (0 : Int32)), (0, .ref (g.2.1 28)), (1, .int a0)]) h0 dX2_reckonForce_1 (by decide) rfl ?_
  refine vx_sub [1, 2, 0] rfl ?_
  refine PX2_reckonForce_L2 hX (fun σ4 hf => ?_) _ _ _ hf
  refine vx_iconst (v := (1 : Int32)) h0 dX2_reckonForce_21 (by decide) ?_
  refine vx_istore_n (ls' := [(2, .int (1 : Int32)), (0, .ref (g.2.1 28)), (1, .int a0)]) h0 dX2_reckonForce_22 (by decide) rfl ?_
  refine vx_iconst (v := (0 : Int32)) h0 dX2_reckonForce_23 (by decide) ?_
  refine vx_istore_n (ls' := [(3, .int (0 : Int32)), (2, .int (1 : Int32)), (0, .ref (g.2.1 28)), (1, .int a0)]) h0 dX2_reckonForce_24 (by decide) rfl ?_
  refine vx_sub [2, 3, 1, 0] rfl ?_
  refine PX2_reckonForce_L25 hX (fun σ34 hf => ?_) _ _ _ _ hf
  exact w_vretE hX hf dX2_reckonForce_117
def FX2_reckonAmiss_L2 (k : SS → Option (SS)) : Nat → Int32 → SS → Option (SS)
  | 0, _, _ => none
  | n + 1, v1, σ => if (8 : Int32) ≤ v1 then k σ
    else gd (inb v1 8) (bd (sL σ 83 (vp_updL (gL σ 83) (Int32.toNatClampNeg v1) (0 : Int64))) (fun σ3 => FX2_reckonAmiss_L2 k n (v1 + (1 : Int32)) σ3))
set_option maxRecDepth 100000 in
set_option maxHeartbeats 4000000 in
theorem PX2_reckonAmiss_L2 {X : Bx} {g : Gx} {σr : SS} (hX : Okw wsX X g cX2_reckonAmiss 6 RX2 none ({ frames := 1, cells := 0, slots := 0, locals := 21 } : Room) (fun g => none) σr) {k : SS → Option (SS)} (hk : ∀ (σ : SS), k σ = some σr → Vx X g.1 6 (wsX g σ) 21 [(0, .ref (g.2.1 28))] []) : ∀ (n : Nat) (v1 : Int32) (σ : SS), FX2_reckonAmiss_L2 k n v1 σ = some σr → Vx X g.1 6 (wsX g σ) 2 [(0, .ref (g.2.1 28)), (1, .int v1)] [] := by
  have h0 := hX.1
  intro n
  induction n with
  | zero =>
    intro v1 σ hf
    rw [FX2_reckonAmiss_L2] at hf
    cases hf
  | succ n ih =>
    intro v1 σ hf
    rw [FX2_reckonAmiss_L2] at hf
    refine vx_iload_n h0 dX2_reckonAmiss_2 rfl ?_
    refine vx_bipush (v := (8 : Int32)) h0 dX2_reckonAmiss_3 (by decide) ?_
    refine vx_icmp_ge (tgt := 21) h0 dX2_reckonAmiss_5 (by decide) (fun c1 => ?_) (fun c1 => ?_)
    · replace hf := (if_pos c1).symm.trans hf
      refine vx_sub [0] rfl ?_
      exact hk _ hf
    · replace hf := (if_neg c1).symm.trans hf
      refine vx_aload_n h0 dX2_reckonAmiss_8 rfl ?_
      refine xg_28_3 hX q250 dX2_reckonAmiss_9 ?_
      refine vx_iload_n h0 dX2_reckonAmiss_12 rfl ?_
      refine vx_lconst (v := (0 : Int64)) h0 dX2_reckonAmiss_13 (by decide) ?_
      obtain ⟨b2, hf⟩ := gd_some hf
      refine xs_31 hX b2 dX2_reckonAmiss_14 ?_
      generalize (sL σ 83 (vp_updL (gL σ 83) (Int32.toNatClampNeg v1) (0 : Int64))) = σ3 at hf ⊢
      replace hf := bd_h hf
      refine vx_iinc (q := 1) (v := (v1 + (1 : Int32))) (ls' := [(1, .int (v1 + (1 : Int32))), (0, .ref (g.2.1 28))]) h0 dX2_reckonAmiss_15 rfl rfl (by decide) rfl ?_
      refine vx_goto (tgt := 2) h0 dX2_reckonAmiss_18 (by decide) ?_
      refine vx_sub [1, 0] rfl ?_
      exact ih _ _ hf
def FX2_reckonAmiss_J156 (σ : SS) (rec : Int32 → SS → Option (SS)) (v1 : Int32) (v2 : Int64) (v4 : Int32) (v5 : Int32) (s0 : Int64) (s1 : Int64) (s2 : Int32) : Option (SS) :=
  gd (inb s2 30) (bd (sL σ 82 (vp_updL (gL σ 82) (Int32.toNatClampNeg s2) (s1 &&& s0))) (fun σ19 => gd (inb v4 8) (if v5 = 0 then gd (inb v4 8) (bd (sL σ19 83 (vp_updL (gL σ19 83) (Int32.toNatClampNeg v4) ((gL σ19 83 (Int32.toNatClampNeg v4)) ||| (0 : Int64)))) (fun σ23 => rec (v1 + (1 : Int32)) σ23))
    else gd (inb v4 8) (bd (sL σ19 83 (vp_updL (gL σ19 83) (Int32.toNatClampNeg v4) ((gL σ19 83 (Int32.toNatClampNeg v4)) ||| v2))) (fun σ25 => rec (v1 + (1 : Int32)) σ25)))))
set_option maxRecDepth 100000 in
set_option maxHeartbeats 4000000 in
theorem PX2_reckonAmiss_J156 {X : Bx} {g : Gx} {σr : SS} {σ : SS} (hX : Okw wsX X g cX2_reckonAmiss 6 RX2 none ({ frames := 1, cells := 0, slots := 0, locals := 21 } : Room) (fun g => none) σr) {rec : Int32 → SS → Option (SS)} {v1 : Int32} {v2 : Int64} {v4 : Int32} {v5 : Int32} {s0 : Int64} {s1 : Int64} {s2 : Int32} (hrec : ∀ (w1 : Int32) (σ2 : SS), rec w1 σ2 = some σr → Vx X g.1 6 (wsX g σ2) 23 [(0, .ref (g.2.1 28)), (1, .int w1)] []) (hf : FX2_reckonAmiss_J156 σ rec v1 v2 v4 v5 s0 s1 s2 = some σr) : Vx X g.1 6 (wsX g σ) 156 [(0, .ref (g.2.1 28)), (1, .int v1), (2, .long v2), (4, .int v4), (5, .int v5)] [.long s0, .long s1, .int s2, .ref (g.2.1 30)] := by
  have h0 := hX.1
  rw [FX2_reckonAmiss_J156] at hf
  refine vx_land h0 dX2_reckonAmiss_156 ?_
  obtain ⟨b18, hf⟩ := gd_some hf
  refine xs_30 hX b18 dX2_reckonAmiss_157 ?_
  generalize (sL σ 82 (vp_updL (gL σ 82) (Int32.toNatClampNeg s2) (s1 &&& s0))) = σ19 at hf ⊢
  replace hf := bd_h hf
  refine vx_aload_n h0 dX2_reckonAmiss_158 rfl ?_
  refine xg_28_3 hX q250 dX2_reckonAmiss_159 ?_
  refine vx_iload h0 dX2_reckonAmiss_162 rfl ?_
  refine vx_dup2 h0 dX2_reckonAmiss_164 rfl rfl ?_
  obtain ⟨b20, hf⟩ := gd_some hf
  refine xl_31 hX b20 dX2_reckonAmiss_165 ?_
  refine vx_iload h0 dX2_reckonAmiss_166 rfl ?_
  refine vx_if_eq (tgt := 175) h0 dX2_reckonAmiss_168 (by decide) (fun c21 => ?_) (fun c21 => ?_)
  · replace hf := (if_pos c21).symm.trans hf
    refine vx_lconst (v := (0 : Int64)) h0 dX2_reckonAmiss_175 (by decide) ?_
    refine vx_lor h0 dX2_reckonAmiss_176 ?_
    obtain ⟨b22, hf⟩ := gd_some hf
    refine xs_31 hX b22 dX2_reckonAmiss_177 ?_
    generalize (sL σ19 83 (vp_updL (gL σ19 83) (Int32.toNatClampNeg v4) ((gL σ19 83 (Int32.toNatClampNeg v4)) ||| (0 : Int64)))) = σ23 at hf ⊢
    replace hf := bd_h hf
    refine vx_iinc (q := 1) (v := (v1 + (1 : Int32))) (ls' := [(1, .int (v1 + (1 : Int32))), (0, .ref (g.2.1 28)), (2, .long v2), (4, .int v4), (5, .int v5)]) h0 dX2_reckonAmiss_178 rfl rfl (by decide) rfl ?_
    refine vx_goto (tgt := 23) h0 dX2_reckonAmiss_181 (by decide) ?_
    refine vx_sub [1, 0] rfl ?_
    exact hrec _ _ hf
  · replace hf := (if_neg c21).symm.trans hf
    refine vx_lload_n h0 dX2_reckonAmiss_171 rfl ?_
    refine vx_goto (tgt := 176) h0 dX2_reckonAmiss_172 (by decide) ?_
    refine vx_lor h0 dX2_reckonAmiss_176 ?_
    obtain ⟨b24, hf⟩ := gd_some hf
    refine xs_31 hX b24 dX2_reckonAmiss_177 ?_
    generalize (sL σ19 83 (vp_updL (gL σ19 83) (Int32.toNatClampNeg v4) ((gL σ19 83 (Int32.toNatClampNeg v4)) ||| v2))) = σ25 at hf ⊢
    replace hf := bd_h hf
    refine vx_iinc (q := 1) (v := (v1 + (1 : Int32))) (ls' := [(1, .int (v1 + (1 : Int32))), (0, .ref (g.2.1 28)), (2, .long v2), (4, .int v4), (5, .int v5)]) h0 dX2_reckonAmiss_178 rfl rfl (by decide) rfl ?_
    refine vx_goto (tgt := 23) h0 dX2_reckonAmiss_181 (by decide) ?_
    refine vx_sub [1, 0] rfl ?_
    exact hrec _ _ hf
def FX2_reckonAmiss_J122 (σ : SS) (rec : Int32 → SS → Option (SS)) (v1 : Int32) (v2 : Int64) (v4 : Int32) (s0 : Int32) : Option (SS) :=
  if s0 = 0 then gd (inb v4 8) (FX2_reckonAmiss_J156 σ (fun a26 σ27 => rec a26 σ27) v1 v2 v4 s0 ((gL σ 83 (Int32.toNatClampNeg v4)) ^^^ (-1 : Int64)) v2 v1)
    else gd (inb v4 8) (FX2_reckonAmiss_J156 σ (fun a29 σ30 => rec a29 σ30) v1 v2 v4 s0 (gL σ 83 (Int32.toNatClampNeg v4)) v2 v1)
set_option maxRecDepth 100000 in
set_option maxHeartbeats 4000000 in
theorem PX2_reckonAmiss_J122 {X : Bx} {g : Gx} {σr : SS} {σ : SS} (hX : Okw wsX X g cX2_reckonAmiss 6 RX2 none ({ frames := 1, cells := 0, slots := 0, locals := 21 } : Room) (fun g => none) σr) {rec : Int32 → SS → Option (SS)} {v1 : Int32} {v2 : Int64} {v4 : Int32} {s0 : Int32} (hrec : ∀ (w1 : Int32) (σ2 : SS), rec w1 σ2 = some σr → Vx X g.1 6 (wsX g σ2) 23 [(0, .ref (g.2.1 28)), (1, .int w1)] []) (hf : FX2_reckonAmiss_J122 σ rec v1 v2 v4 s0 = some σr) : Vx X g.1 6 (wsX g σ) 122 [(0, .ref (g.2.1 28)), (1, .int v1), (2, .long v2), (4, .int v4)] [.int s0] := by
  have h0 := hX.1
  rw [FX2_reckonAmiss_J122] at hf
  refine vx_istore (ls' := [(5, .int s0), (0, .ref (g.2.1 28)), (1, .int v1), (2, .long v2), (4, .int v4)]) h0 dX2_reckonAmiss_122 (by decide) rfl ?_
  refine vx_aload_n h0 dX2_reckonAmiss_124 rfl ?_
  refine xg_28_2 hX q249 dX2_reckonAmiss_125 ?_
  refine vx_iload_n h0 dX2_reckonAmiss_128 rfl ?_
  refine vx_lload_n h0 dX2_reckonAmiss_129 rfl ?_
  refine vx_iload h0 dX2_reckonAmiss_130 rfl ?_
  refine vx_if_eq (tgt := 145) h0 dX2_reckonAmiss_132 (by decide) (fun c16 => ?_) (fun c16 => ?_)
  · replace hf := (if_pos c16).symm.trans hf
    refine vx_aload_n h0 dX2_reckonAmiss_145 rfl ?_
    refine xg_28_3 hX q250 dX2_reckonAmiss_146 ?_
    refine vx_iload h0 dX2_reckonAmiss_149 rfl ?_
    obtain ⟨b17, hf⟩ := gd_some hf
    refine xl_31 hX b17 dX2_reckonAmiss_151 ?_
    refine vx_ldc2 h0 q459 dX2_reckonAmiss_152 ?_
    refine vx_lxor h0 dX2_reckonAmiss_155 ?_
    refine vx_sub [1, 2, 3, 4, 0] rfl ?_
    exact PX2_reckonAmiss_J156 hX (fun a26 σ27 hf => hrec a26 σ27 hf) hf
  · replace hf := (if_neg c16).symm.trans hf
    refine vx_aload_n h0 dX2_reckonAmiss_135 rfl ?_
    refine xg_28_3 hX q250 dX2_reckonAmiss_136 ?_
    refine vx_iload h0 dX2_reckonAmiss_139 rfl ?_
    obtain ⟨b28, hf⟩ := gd_some hf
    refine xl_31 hX b28 dX2_reckonAmiss_141 ?_
    refine vx_goto (tgt := 156) h0 dX2_reckonAmiss_142 (by decide) ?_
    refine vx_sub [1, 2, 3, 4, 0] rfl ?_
    exact PX2_reckonAmiss_J156 hX (fun a29 σ30 hf => hrec a29 σ30 hf) hf
def FX2_reckonAmiss_L23 (k : SS → Option (SS)) : Nat → Int32 → SS → Option (SS)
  | 0, _, _ => none
  | n + 1, v1, σ => if (gI σ 41) ≤ v1 then k σ
    else gd (inb v1 30) (ob (FX2_forceOf σ (gA σ 51 (Int32.toNatClampNeg v1))) (fun r8 => gd (inb v1 30) (gd (inb v1 30) (if (gA σ 49 (Int32.toNatClampNeg v1)) = (2 : Int32) then ob (FX2_forceOf σ (gA σ 50 (Int32.toNatClampNeg v1))) (fun r36 => gd (inb v1 30) (bd (sL σ 82 (vp_updL (gL σ 82) (Int32.toNatClampNeg v1) (r8 &&& (r36 ^^^ (-1 : Int64))))) (fun σ38 => FX2_reckonAmiss_L23 k n (v1 + (1 : Int32)) σ38)))
    else if (gA σ 50 (Int32.toNatClampNeg v1)) < 0 then FX2_reckonAmiss_L23 k n (v1 + (1 : Int32)) σ
    else if (8 : Int32) ≤ (gA σ 50 (Int32.toNatClampNeg v1)) then FX2_reckonAmiss_L23 k n (v1 + (1 : Int32)) σ
    else gd (inb v1 30) (if (gA σ 49 (Int32.toNatClampNeg v1)) = 0 then FX2_reckonAmiss_J122 σ (fun a33 σ34 => FX2_reckonAmiss_L23 k n a33 σ34) v1 r8 (gA σ 50 (Int32.toNatClampNeg v1)) (1 : Int32)
    else FX2_reckonAmiss_J122 σ (fun a31 σ32 => FX2_reckonAmiss_L23 k n a31 σ32) v1 r8 (gA σ 50 (Int32.toNatClampNeg v1)) (0 : Int32))))))
set_option maxRecDepth 100000 in
set_option maxHeartbeats 4000000 in
theorem PX2_reckonAmiss_L23 {X : Bx} {g : Gx} {σr : SS} (hX : Okw wsX X g cX2_reckonAmiss 6 RX2 none ({ frames := 1, cells := 0, slots := 0, locals := 21 } : Room) (fun g => none) σr) {k : SS → Option (SS)} (hk : ∀ (σ : SS), k σ = some σr → Vx X g.1 6 (wsX g σ) 184 [] []) : ∀ (n : Nat) (v1 : Int32) (σ : SS), FX2_reckonAmiss_L23 k n v1 σ = some σr → Vx X g.1 6 (wsX g σ) 23 [(0, .ref (g.2.1 28)), (1, .int v1)] [] := by
  have h0 := hX.1
  intro n
  induction n with
  | zero =>
    intro v1 σ hf
    rw [FX2_reckonAmiss_L23] at hf
    cases hf
  | succ n ih =>
    intro v1 σ hf
    rw [FX2_reckonAmiss_L23] at hf
    refine vx_iload_n h0 dX2_reckonAmiss_23 rfl ?_
    refine vx_aload_n h0 dX2_reckonAmiss_24 rfl ?_
    refine xg_28_0 hX q247 dX2_reckonAmiss_25 ?_
    refine xg_14_1 hX q108 dX2_reckonAmiss_28 ?_
    refine vx_icmp_ge (tgt := 184) h0 dX2_reckonAmiss_31 (by decide) (fun c5 => ?_) (fun c5 => ?_)
    · replace hf := (if_pos c5).symm.trans hf
      refine vx_sub [] rfl ?_
      exact hk _ hf
    · replace hf := (if_neg c5).symm.trans hf
      refine vx_aload_n h0 dX2_reckonAmiss_34 rfl ?_
      refine vx_aload_n h0 dX2_reckonAmiss_35 rfl ?_
      refine xg_28_0 hX q247 dX2_reckonAmiss_36 ?_
      refine xg_14_11 hX q145 dX2_reckonAmiss_39 ?_
      refine vx_iload_n h0 dX2_reckonAmiss_42 rfl ?_
      obtain ⟨b6, hf⟩ := gd_some hf
      refine xl_23 hX b6 dX2_reckonAmiss_43 ?_
      obtain ⟨r8, h7, hf⟩ := ob_some hf
      refine w_callV (st := []) (ci := 2) (q0 := 28) hX (c_X2_forceOf h7) ce_X2_forceOf q447 ⟨rfl, rfl⟩ ⟨by decide, by decide⟩ rfl rfl rfl rfl (xo_28 g _) rfl (Nat.le_of_ble_eq_true rfl) dX2_reckonAmiss_44 ?_
      show Vx X g.1 6 (wsX g σ) 47 [(0, .ref (g.2.1 28)), (1, .int v1)] [.long r8]
      refine vx_lstore_n (ls' := [(2, .long r8), (0, .ref (g.2.1 28)), (1, .int v1)]) h0 dX2_reckonAmiss_47 (by decide) rfl ?_
      refine vx_aload_n h0 dX2_reckonAmiss_48 rfl ?_
      refine xg_28_0 hX q247 dX2_reckonAmiss_49 ?_
      refine xg_14_10 hX q140 dX2_reckonAmiss_52 ?_
      refine vx_iload_n h0 dX2_reckonAmiss_55 rfl ?_
      obtain ⟨b9, hf⟩ := gd_some hf
      refine xl_22 hX b9 dX2_reckonAmiss_56 ?_
      refine vx_istore (ls' := [(4, .int (gA σ 50 (Int32.toNatClampNeg v1))), (2, .long r8), (0, .ref (g.2.1 28)), (1, .int v1)]) h0 dX2_reckonAmiss_57 (by decide) rfl ?_
      refine vx_aload_n h0 dX2_reckonAmiss_59 rfl ?_
      refine xg_28_0 hX q247 dX2_reckonAmiss_60 ?_
      refine xg_14_9 hX q135 dX2_reckonAmiss_63 ?_
      refine vx_iload_n h0 dX2_reckonAmiss_66 rfl ?_
      obtain ⟨b10, hf⟩ := gd_some hf
      refine xl_21 hX b10 dX2_reckonAmiss_67 ?_
      refine vx_iconst (v := (2 : Int32)) h0 dX2_reckonAmiss_68 (by decide) ?_
      refine vx_icmp_ne (tgt := 93) h0 dX2_reckonAmiss_69 (by decide) (fun c11 => ?_) (fun c11 => ?_)
      · replace hf := (if_neg c11).symm.trans hf
        refine vx_iload h0 dX2_reckonAmiss_93 rfl ?_
        refine vx_if_lt (tgt := 178) h0 dX2_reckonAmiss_95 (by decide) (fun c12 => ?_) (fun c12 => ?_)
        · replace hf := (if_pos c12).symm.trans hf
          refine vx_iinc (q := 3) (v := (v1 + (1 : Int32))) (ls' := [(1, .int (v1 + (1 : Int32))), (4, .int (gA σ 50 (Int32.toNatClampNeg v1))), (2, .long r8), (0, .ref (g.2.1 28))]) h0 dX2_reckonAmiss_178 rfl rfl (by decide) rfl ?_
          refine vx_goto (tgt := 23) h0 dX2_reckonAmiss_181 (by decide) ?_
          refine vx_sub [3, 0] rfl ?_
          exact ih _ _ hf
        · replace hf := (if_neg c12).symm.trans hf
          refine vx_iload h0 dX2_reckonAmiss_98 rfl ?_
          refine vx_bipush (v := (8 : Int32)) h0 dX2_reckonAmiss_100 (by decide) ?_
          refine vx_icmp_ge (tgt := 178) h0 dX2_reckonAmiss_102 (by decide) (fun c13 => ?_) (fun c13 => ?_)
          · replace hf := (if_pos c13).symm.trans hf
            refine vx_iinc (q := 3) (v := (v1 + (1 : Int32))) (ls' := [(1, .int (v1 + (1 : Int32))), (4, .int (gA σ 50 (Int32.toNatClampNeg v1))), (2, .long r8), (0, .ref (g.2.1 28))]) h0 dX2_reckonAmiss_178 rfl rfl (by decide) rfl ?_
            refine vx_goto (tgt := 23) h0 dX2_reckonAmiss_181 (by decide) ?_
            refine vx_sub [3, 0] rfl ?_
            exact ih _ _ hf
          · replace hf := (if_neg c13).symm.trans hf
            refine vx_aload_n h0 dX2_reckonAmiss_105 rfl ?_
            refine xg_28_0 hX q247 dX2_reckonAmiss_106 ?_
            refine xg_14_9 hX q135 dX2_reckonAmiss_109 ?_
            refine vx_iload_n h0 dX2_reckonAmiss_112 rfl ?_
            obtain ⟨b14, hf⟩ := gd_some hf
            refine xl_21 hX b14 dX2_reckonAmiss_113 ?_
            refine vx_if_ne (tgt := 121) h0 dX2_reckonAmiss_114 (by decide) (fun c15 => ?_) (fun c15 => ?_)
            · replace hf := (if_neg c15).symm.trans hf
              refine vx_iconst (v := (0 : Int32)) h0 dX2_reckonAmiss_121 (by decide) ?_
              refine vx_sub [2, 3, 1, 0] rfl ?_
              exact PX2_reckonAmiss_J122 hX (fun a31 σ32 hf => ih a31 σ32 hf) hf
            · replace hf := (if_pos c15).symm.trans hf
              refine vx_iconst (v := (1 : Int32)) h0 dX2_reckonAmiss_117 (by decide) ?_
              refine vx_goto (tgt := 122) h0 dX2_reckonAmiss_118 (by decide) ?_
              refine vx_sub [2, 3, 1, 0] rfl ?_
              exact PX2_reckonAmiss_J122 hX (fun a33 σ34 hf => ih a33 σ34 hf) hf
      · replace hf := (if_pos c11).symm.trans hf
        refine vx_aload_n h0 dX2_reckonAmiss_72 rfl ?_
        refine xg_28_2 hX q249 dX2_reckonAmiss_73 ?_
        refine vx_iload_n h0 dX2_reckonAmiss_76 rfl ?_
        refine vx_lload_n h0 dX2_reckonAmiss_77 rfl ?_
        refine vx_aload_n h0 dX2_reckonAmiss_78 rfl ?_
        refine vx_iload h0 dX2_reckonAmiss_79 rfl ?_
        obtain ⟨r36, h35, hf⟩ := ob_some hf
        refine w_callV (st := [.long r8, .int v1, .ref (g.2.1 30)]) (ci := 2) (q0 := 28) hX (c_X2_forceOf h35) ce_X2_forceOf q447 ⟨rfl, rfl⟩ ⟨by decide, by decide⟩ rfl rfl rfl rfl (xo_28 g _) rfl (Nat.le_of_ble_eq_true rfl) dX2_reckonAmiss_81 ?_
        show Vx X g.1 6 (wsX g σ) 84 [(4, .int (gA σ 50 (Int32.toNatClampNeg v1))), (2, .long r8), (0, .ref (g.2.1 28)), (1, .int v1)] [.long r36, .long r8, .int v1, .ref (g.2.1 30)]
        refine vx_ldc2 h0 q459 dX2_reckonAmiss_84 ?_
        refine vx_lxor h0 dX2_reckonAmiss_87 ?_
        refine vx_land h0 dX2_reckonAmiss_88 ?_
        obtain ⟨b37, hf⟩ := gd_some hf
        refine xs_30 hX b37 dX2_reckonAmiss_89 ?_
        generalize (sL σ 82 (vp_updL (gL σ 82) (Int32.toNatClampNeg v1) (r8 &&& (r36 ^^^ (-1 : Int64))))) = σ38 at hf ⊢
        replace hf := bd_h hf
        refine vx_goto (tgt := 178) h0 dX2_reckonAmiss_90 (by decide) ?_
        refine vx_iinc (q := 3) (v := (v1 + (1 : Int32))) (ls' := [(1, .int (v1 + (1 : Int32))), (4, .int (gA σ 50 (Int32.toNatClampNeg v1))), (2, .long r8), (0, .ref (g.2.1 28))]) h0 dX2_reckonAmiss_178 rfl rfl (by decide) rfl ?_
        refine vx_goto (tgt := 23) h0 dX2_reckonAmiss_181 (by decide) ?_
        refine vx_sub [3, 0] rfl ?_
        exact ih _ _ hf
def FX2_reckonAmiss (σ : SS) : Option (SS) :=
  FX2_reckonAmiss_L2 (fun σ4 => FX2_reckonAmiss_L23 (fun σ39 => some σ39) 5000 (0 : Int32) σ4) 5000 (0 : Int32) σ
set_option maxRecDepth 100000 in
set_option maxHeartbeats 4000000 in
theorem c_X2_reckonAmiss {σ : SS} {σr : SS} (hf : FX2_reckonAmiss σ = some σr) : Mcw wsX yX2_reckonAmiss cX2_reckonAmiss 6 none ({ frames := 1, cells := 0, slots := 0, locals := 21 } : Room) (fun g => [.ref (g.2.1 28)]) σ (fun g => none) σr := by
  refine w_enter wsX_fix (by decide) (fun g => Nat.le_of_ble_eq_true rfl) ?_
  intro X g hX
  replace hX : Okw wsX X g cX2_reckonAmiss 6 RX2 none ({ frames := 1, cells := 0, slots := 0, locals := 21 } : Room) (fun g => none) σr := hX
  have h0 := hX.1
  show Vx X g.1 6 (wsX g σ) 0 [(0, .ref (g.2.1 28))] []
  rw [FX2_reckonAmiss] at hf
  refine vx_iconst (v := (0 : Int32)) h0 dX2_reckonAmiss_0 (by decide) ?_
  refine vx_istore_n (ls' := [(1, .int (0 : Int32)), (0, .ref (g.2.1 28))]) h0 dX2_reckonAmiss_1 (by decide) rfl ?_
  refine vx_sub [1, 0] rfl ?_
  refine PX2_reckonAmiss_L2 hX (fun σ4 hf => ?_) _ _ _ hf
  refine vx_iconst (v := (0 : Int32)) h0 dX2_reckonAmiss_21 (by decide) ?_
  refine vx_istore_n (ls' := [(1, .int (0 : Int32)), (0, .ref (g.2.1 28))]) h0 dX2_reckonAmiss_22 (by decide) rfl ?_
  refine vx_sub [1, 0] rfl ?_
  refine PX2_reckonAmiss_L23 hX (fun σ39 hf => ?_) _ _ _ hf
  exact w_vretE hX hf dX2_reckonAmiss_184
def FX2_hangOnAll_L3 (v1 : Int32) (v2 : Int32) (v3 : Int64) (k : SS → Option (SS)) : Nat → Int32 → SS → Option (SS)
  | 0, _, _ => none
  | n + 1, v5, σ => if (8 : Int32) ≤ v5 then k σ
    else ob (FX7_has σ v2 v5) (fun r3 => if r3 = 0 then FX2_hangOnAll_L3 v1 v2 v3 k n (v5 + (1 : Int32)) σ
    else gd (inb ((v1 * (8 : Int32)) + v5) 64) (gd (inb ((v1 * (8 : Int32)) + v5) 64) (bd (sL σ 84 (vp_updL (gL σ 84) (Int32.toNatClampNeg ((v1 * (8 : Int32)) + v5)) ((gL σ 84 (Int32.toNatClampNeg ((v1 * (8 : Int32)) + v5))) ||| v3))) (fun σ7 => FX2_hangOnAll_L3 v1 v2 v3 k n (v5 + (1 : Int32)) σ7))))
set_option maxRecDepth 100000 in
set_option maxHeartbeats 4000000 in
theorem PX2_hangOnAll_L3 {X : Bx} {g : Gx} {σr : SS} (hX : Okw wsX X g cX2_hangOnAll 6 RX2 none ({ frames := 1, cells := 0, slots := 0, locals := 21 } : Room) (fun g => none) σr) {v1 : Int32} {v2 : Int32} {v3 : Int64} {k : SS → Option (SS)} (hk : ∀ (σ : SS), k σ = some σr → Vx X g.1 6 (wsX g σ) 41 [] []) : ∀ (n : Nat) (v5 : Int32) (σ : SS), FX2_hangOnAll_L3 v1 v2 v3 k n v5 σ = some σr → Vx X g.1 6 (wsX g σ) 3 [(0, .ref (g.2.1 28)), (1, .int v1), (2, .int v2), (3, .long v3), (5, .int v5)] [] := by
  have h0 := hX.1
  intro n
  induction n with
  | zero =>
    intro v5 σ hf
    rw [FX2_hangOnAll_L3] at hf
    cases hf
  | succ n ih =>
    intro v5 σ hf
    rw [FX2_hangOnAll_L3] at hf
    refine vx_iload h0 dX2_hangOnAll_3 rfl ?_
    refine vx_bipush (v := (8 : Int32)) h0 dX2_hangOnAll_5 (by decide) ?_
    refine vx_icmp_ge (tgt := 41) h0 dX2_hangOnAll_7 (by decide) (fun c1 => ?_) (fun c1 => ?_)
    · replace hf := (if_pos c1).symm.trans hf
      refine vx_sub [] rfl ?_
      exact hk _ hf
    · replace hf := (if_neg c1).symm.trans hf
      refine vx_iload_n h0 dX2_hangOnAll_10 rfl ?_
      refine vx_iload h0 dX2_hangOnAll_11 rfl ?_
      obtain ⟨r3, h2, hf⟩ := ob_some hf
      refine w_callSN (st := []) hX (c_X7_has h2) ce_X7_has q432 ⟨rfl, rfl⟩ ⟨by decide, by decide⟩ rfl rfl rfl (Nat.le_of_ble_eq_true rfl) dX2_hangOnAll_13 ?_
      show Vx X g.1 6 (wsX g σ) 16 [(0, .ref (g.2.1 28)), (1, .int v1), (2, .int v2), (3, .long v3), (5, .int v5)] [.int r3]
      refine vx_if_eq (tgt := 35) h0 dX2_hangOnAll_16 (by decide) (fun c4 => ?_) (fun c4 => ?_)
      · replace hf := (if_pos c4).symm.trans hf
        refine vx_iinc (q := 4) (v := (v5 + (1 : Int32))) (ls' := [(5, .int (v5 + (1 : Int32))), (0, .ref (g.2.1 28)), (1, .int v1), (2, .int v2), (3, .long v3)]) h0 dX2_hangOnAll_35 rfl rfl (by decide) rfl ?_
        refine vx_goto (tgt := 3) h0 dX2_hangOnAll_38 (by decide) ?_
        refine vx_sub [1, 2, 3, 4, 0] rfl ?_
        exact ih _ _ hf
      · replace hf := (if_neg c4).symm.trans hf
        refine vx_aload_n h0 dX2_hangOnAll_19 rfl ?_
        refine xg_28_4 hX q251 dX2_hangOnAll_20 ?_
        refine vx_iload_n h0 dX2_hangOnAll_23 rfl ?_
        refine vx_bipush (v := (8 : Int32)) h0 dX2_hangOnAll_24 (by decide) ?_
        refine vx_imul h0 dX2_hangOnAll_26 ?_
        refine vx_iload h0 dX2_hangOnAll_27 rfl ?_
        refine vx_iadd h0 dX2_hangOnAll_29 ?_
        refine vx_dup2 h0 dX2_hangOnAll_30 rfl rfl ?_
        obtain ⟨b5, hf⟩ := gd_some hf
        refine xl_32 hX b5 dX2_hangOnAll_31 ?_
        refine vx_lload_n h0 dX2_hangOnAll_32 rfl ?_
        refine vx_lor h0 dX2_hangOnAll_33 ?_
        obtain ⟨b6, hf⟩ := gd_some hf
        refine xs_32 hX b6 dX2_hangOnAll_34 ?_
        generalize (sL σ 84 (vp_updL (gL σ 84) (Int32.toNatClampNeg ((v1 * (8 : Int32)) + v5)) ((gL σ 84 (Int32.toNatClampNeg ((v1 * (8 : Int32)) + v5))) ||| v3))) = σ7 at hf ⊢
        replace hf := bd_h hf
        refine vx_iinc (q := 4) (v := (v5 + (1 : Int32))) (ls' := [(5, .int (v5 + (1 : Int32))), (0, .ref (g.2.1 28)), (1, .int v1), (2, .int v2), (3, .long v3)]) h0 dX2_hangOnAll_35 rfl rfl (by decide) rfl ?_
        refine vx_goto (tgt := 3) h0 dX2_hangOnAll_38 (by decide) ?_
        refine vx_sub [1, 2, 3, 4, 0] rfl ?_
        exact ih _ _ hf
def FX2_hangOnAll (σ : SS) (a0 : Int32) (a1 : Int32) (a2 : Int64) : Option (SS) :=
  FX2_hangOnAll_L3 a0 a1 a2 (fun σ8 => some σ8) 5000 (0 : Int32) σ
set_option maxRecDepth 100000 in
set_option maxHeartbeats 4000000 in
theorem c_X2_hangOnAll {σ : SS} {a0 : Int32} {a1 : Int32} {a2 : Int64} {σr : SS} (hf : FX2_hangOnAll σ a0 a1 a2 = some σr) : Mcw wsX yX2_hangOnAll cX2_hangOnAll 6 none ({ frames := 1, cells := 0, slots := 0, locals := 21 } : Room) (fun g => [.ref (g.2.1 28), .int a0, .int a1, .long a2]) σ (fun g => none) σr := by
  refine w_enter wsX_fix (by decide) (fun g => Nat.le_of_ble_eq_true rfl) ?_
  intro X g hX
  replace hX : Okw wsX X g cX2_hangOnAll 6 RX2 none ({ frames := 1, cells := 0, slots := 0, locals := 21 } : Room) (fun g => none) σr := hX
  have h0 := hX.1
  show Vx X g.1 6 (wsX g σ) 0 [(0, .ref (g.2.1 28)), (1, .int a0), (2, .int a1), (3, .long a2)] []
  rw [FX2_hangOnAll] at hf
  refine vx_iconst (v := (0 : Int32)) h0 dX2_hangOnAll_0 (by decide) ?_
  refine vx_istore (ls' := [(5, .int (0 : Int32)), (0, .ref (g.2.1 28)), (1, .int a0), (2, .int a1), (3, .long a2)]) h0 dX2_hangOnAll_1 (by decide) rfl ?_
  refine vx_sub [1, 2, 3, 4, 0] rfl ?_
  refine PX2_hangOnAll_L3 hX (fun σ8 hf => ?_) _ _ _ hf
  exact w_vretE hX hf dX2_hangOnAll_41
def FX2_reckonHang_L2 (k : SS → Option (SS)) : Nat → Int32 → SS → Option (SS)
  | 0, _, _ => none
  | n + 1, v1, σ => if (64 : Int32) ≤ v1 then k σ
    else gd (inb v1 64) (bd (sL σ 84 (vp_updL (gL σ 84) (Int32.toNatClampNeg v1) (0 : Int64))) (fun σ3 => FX2_reckonHang_L2 k n (v1 + (1 : Int32)) σ3))
set_option maxRecDepth 100000 in
set_option maxHeartbeats 4000000 in
theorem PX2_reckonHang_L2 {X : Bx} {g : Gx} {σr : SS} (hX : Okw wsX X g cX2_reckonHang 4 RX2 none ({ frames := 2, cells := 0, slots := 0, locals := 46 } : Room) (fun g => none) σr) {k : SS → Option (SS)} (hk : ∀ (σ : SS), k σ = some σr → Vx X g.1 4 (wsX g σ) 21 [(0, .ref (g.2.1 28))] []) : ∀ (n : Nat) (v1 : Int32) (σ : SS), FX2_reckonHang_L2 k n v1 σ = some σr → Vx X g.1 4 (wsX g σ) 2 [(0, .ref (g.2.1 28)), (1, .int v1)] [] := by
  have h0 := hX.1
  intro n
  induction n with
  | zero =>
    intro v1 σ hf
    rw [FX2_reckonHang_L2] at hf
    cases hf
  | succ n ih =>
    intro v1 σ hf
    rw [FX2_reckonHang_L2] at hf
    refine vx_iload_n h0 dX2_reckonHang_2 rfl ?_
    refine vx_bipush (v := (64 : Int32)) h0 dX2_reckonHang_3 (by decide) ?_
    refine vx_icmp_ge (tgt := 21) h0 dX2_reckonHang_5 (by decide) (fun c1 => ?_) (fun c1 => ?_)
    · replace hf := (if_pos c1).symm.trans hf
      refine vx_sub [0] rfl ?_
      exact hk _ hf
    · replace hf := (if_neg c1).symm.trans hf
      refine vx_aload_n h0 dX2_reckonHang_8 rfl ?_
      refine xg_28_4 hX q251 dX2_reckonHang_9 ?_
      refine vx_iload_n h0 dX2_reckonHang_12 rfl ?_
      refine vx_lconst (v := (0 : Int64)) h0 dX2_reckonHang_13 (by decide) ?_
      obtain ⟨b2, hf⟩ := gd_some hf
      refine xs_32 hX b2 dX2_reckonHang_14 ?_
      generalize (sL σ 84 (vp_updL (gL σ 84) (Int32.toNatClampNeg v1) (0 : Int64))) = σ3 at hf ⊢
      replace hf := bd_h hf
      refine vx_iinc (q := 1) (v := (v1 + (1 : Int32))) (ls' := [(1, .int (v1 + (1 : Int32))), (0, .ref (g.2.1 28))]) h0 dX2_reckonHang_15 rfl rfl (by decide) rfl ?_
      refine vx_goto (tgt := 2) h0 dX2_reckonHang_18 (by decide) ?_
      refine vx_sub [1, 0] rfl ?_
      exact ih _ _ hf
def FX2_reckonHang_L23 (k : SS → Option (SS)) : Nat → Int32 → SS → Option (SS)
  | 0, _, _ => none
  | n + 1, v1, σ => if (gI σ 41) ≤ v1 then k σ
    else gd (inb v1 30) (gd (inb v1 30) (gd (inb v1 30) (if (gA σ 49 (Int32.toNatClampNeg v1)) = 0 then if (gA σ 50 (Int32.toNatClampNeg v1)) < 0 then FX2_reckonHang_L23 k n (v1 + (1 : Int32)) σ
    else if (8 : Int32) ≤ (gA σ 50 (Int32.toNatClampNeg v1)) then FX2_reckonHang_L23 k n (v1 + (1 : Int32)) σ
    else if (gA σ 51 (Int32.toNatClampNeg v1)) < 0 then FX2_reckonHang_L23 k n (v1 + (1 : Int32)) σ
    else if (16 : Int32) ≤ (gA σ 51 (Int32.toNatClampNeg v1)) then FX2_reckonHang_L23 k n (v1 + (1 : Int32)) σ
    else gd (inb (gA σ 51 (Int32.toNatClampNeg v1)) 16) (ob (FX2_forceOf σ (gA σ 51 (Int32.toNatClampNeg v1))) (fun r16 => ob (FX2_hangOnAll σ (gA σ 50 (Int32.toNatClampNeg v1)) (gA σ 48 (Int32.toNatClampNeg (gA σ 51 (Int32.toNatClampNeg v1)))) r16) (fun σ18 => FX2_reckonHang_L23 k n (v1 + (1 : Int32)) σ18)))
    else FX2_reckonHang_L23 k n (v1 + (1 : Int32)) σ)))
set_option maxRecDepth 100000 in
set_option maxHeartbeats 4000000 in
theorem PX2_reckonHang_L23 {X : Bx} {g : Gx} {σr : SS} (hX : Okw wsX X g cX2_reckonHang 4 RX2 none ({ frames := 2, cells := 0, slots := 0, locals := 46 } : Room) (fun g => none) σr) {k : SS → Option (SS)} (hk : ∀ (σ : SS), k σ = some σr → Vx X g.1 4 (wsX g σ) 111 [] []) : ∀ (n : Nat) (v1 : Int32) (σ : SS), FX2_reckonHang_L23 k n v1 σ = some σr → Vx X g.1 4 (wsX g σ) 23 [(0, .ref (g.2.1 28)), (1, .int v1)] [] := by
  have h0 := hX.1
  intro n
  induction n with
  | zero =>
    intro v1 σ hf
    rw [FX2_reckonHang_L23] at hf
    cases hf
  | succ n ih =>
    intro v1 σ hf
    rw [FX2_reckonHang_L23] at hf
    refine vx_iload_n h0 dX2_reckonHang_23 rfl ?_
    refine vx_aload_n h0 dX2_reckonHang_24 rfl ?_
    refine xg_28_0 hX q247 dX2_reckonHang_25 ?_
    refine xg_14_1 hX q108 dX2_reckonHang_28 ?_
    refine vx_icmp_ge (tgt := 111) h0 dX2_reckonHang_31 (by decide) (fun c5 => ?_) (fun c5 => ?_)
    · replace hf := (if_pos c5).symm.trans hf
      refine vx_sub [] rfl ?_
      exact hk _ hf
    · replace hf := (if_neg c5).symm.trans hf
      refine vx_aload_n h0 dX2_reckonHang_34 rfl ?_
      refine xg_28_0 hX q247 dX2_reckonHang_35 ?_
      refine xg_14_11 hX q145 dX2_reckonHang_38 ?_
      refine vx_iload_n h0 dX2_reckonHang_41 rfl ?_
      obtain ⟨b6, hf⟩ := gd_some hf
      refine xl_23 hX b6 dX2_reckonHang_42 ?_
      refine vx_istore_n (ls' := [(2, .int (gA σ 51 (Int32.toNatClampNeg v1))), (0, .ref (g.2.1 28)), (1, .int v1)]) h0 dX2_reckonHang_43 (by decide) rfl ?_
      refine vx_aload_n h0 dX2_reckonHang_44 rfl ?_
      refine xg_28_0 hX q247 dX2_reckonHang_45 ?_
      refine xg_14_10 hX q140 dX2_reckonHang_48 ?_
      refine vx_iload_n h0 dX2_reckonHang_51 rfl ?_
      obtain ⟨b7, hf⟩ := gd_some hf
      refine xl_22 hX b7 dX2_reckonHang_52 ?_
      refine vx_istore_n (ls' := [(3, .int (gA σ 50 (Int32.toNatClampNeg v1))), (2, .int (gA σ 51 (Int32.toNatClampNeg v1))), (0, .ref (g.2.1 28)), (1, .int v1)]) h0 dX2_reckonHang_53 (by decide) rfl ?_
      refine vx_aload_n h0 dX2_reckonHang_54 rfl ?_
      refine xg_28_0 hX q247 dX2_reckonHang_55 ?_
      refine xg_14_9 hX q135 dX2_reckonHang_58 ?_
      refine vx_iload_n h0 dX2_reckonHang_61 rfl ?_
      obtain ⟨b8, hf⟩ := gd_some hf
      refine xl_21 hX b8 dX2_reckonHang_62 ?_
      refine vx_if_ne (tgt := 105) h0 dX2_reckonHang_63 (by decide) (fun c9 => ?_) (fun c9 => ?_)
      · replace hf := (if_neg c9).symm.trans hf
        refine vx_iinc (q := 3) (v := (v1 + (1 : Int32))) (ls' := [(1, .int (v1 + (1 : Int32))), (3, .int (gA σ 50 (Int32.toNatClampNeg v1))), (2, .int (gA σ 51 (Int32.toNatClampNeg v1))), (0, .ref (g.2.1 28))]) h0 dX2_reckonHang_105 rfl rfl (by decide) rfl ?_
        refine vx_goto (tgt := 23) h0 dX2_reckonHang_108 (by decide) ?_
        refine vx_sub [3, 0] rfl ?_
        exact ih _ _ hf
      · replace hf := (if_pos c9).symm.trans hf
        refine vx_iload_n h0 dX2_reckonHang_66 rfl ?_
        refine vx_if_lt (tgt := 105) h0 dX2_reckonHang_67 (by decide) (fun c10 => ?_) (fun c10 => ?_)
        · replace hf := (if_pos c10).symm.trans hf
          refine vx_iinc (q := 3) (v := (v1 + (1 : Int32))) (ls' := [(1, .int (v1 + (1 : Int32))), (3, .int (gA σ 50 (Int32.toNatClampNeg v1))), (2, .int (gA σ 51 (Int32.toNatClampNeg v1))), (0, .ref (g.2.1 28))]) h0 dX2_reckonHang_105 rfl rfl (by decide) rfl ?_
          refine vx_goto (tgt := 23) h0 dX2_reckonHang_108 (by decide) ?_
          refine vx_sub [3, 0] rfl ?_
          exact ih _ _ hf
        · replace hf := (if_neg c10).symm.trans hf
          refine vx_iload_n h0 dX2_reckonHang_70 rfl ?_
          refine vx_bipush (v := (8 : Int32)) h0 dX2_reckonHang_71 (by decide) ?_
          refine vx_icmp_ge (tgt := 105) h0 dX2_reckonHang_73 (by decide) (fun c11 => ?_) (fun c11 => ?_)
          · replace hf := (if_pos c11).symm.trans hf
            refine vx_iinc (q := 3) (v := (v1 + (1 : Int32))) (ls' := [(1, .int (v1 + (1 : Int32))), (3, .int (gA σ 50 (Int32.toNatClampNeg v1))), (2, .int (gA σ 51 (Int32.toNatClampNeg v1))), (0, .ref (g.2.1 28))]) h0 dX2_reckonHang_105 rfl rfl (by decide) rfl ?_
            refine vx_goto (tgt := 23) h0 dX2_reckonHang_108 (by decide) ?_
            refine vx_sub [3, 0] rfl ?_
            exact ih _ _ hf
          · replace hf := (if_neg c11).symm.trans hf
            refine vx_iload_n h0 dX2_reckonHang_76 rfl ?_
            refine vx_if_lt (tgt := 105) h0 dX2_reckonHang_77 (by decide) (fun c12 => ?_) (fun c12 => ?_)
            · replace hf := (if_pos c12).symm.trans hf
              refine vx_iinc (q := 3) (v := (v1 + (1 : Int32))) (ls' := [(1, .int (v1 + (1 : Int32))), (3, .int (gA σ 50 (Int32.toNatClampNeg v1))), (2, .int (gA σ 51 (Int32.toNatClampNeg v1))), (0, .ref (g.2.1 28))]) h0 dX2_reckonHang_105 rfl rfl (by decide) rfl ?_
              refine vx_goto (tgt := 23) h0 dX2_reckonHang_108 (by decide) ?_
              refine vx_sub [3, 0] rfl ?_
              exact ih _ _ hf
            · replace hf := (if_neg c12).symm.trans hf
              refine vx_iload_n h0 dX2_reckonHang_80 rfl ?_
              refine vx_bipush (v := (16 : Int32)) h0 dX2_reckonHang_81 (by decide) ?_
              refine vx_icmp_ge (tgt := 105) h0 dX2_reckonHang_83 (by decide) (fun c13 => ?_) (fun c13 => ?_)
              · replace hf := (if_pos c13).symm.trans hf
                refine vx_iinc (q := 3) (v := (v1 + (1 : Int32))) (ls' := [(1, .int (v1 + (1 : Int32))), (3, .int (gA σ 50 (Int32.toNatClampNeg v1))), (2, .int (gA σ 51 (Int32.toNatClampNeg v1))), (0, .ref (g.2.1 28))]) h0 dX2_reckonHang_105 rfl rfl (by decide) rfl ?_
                refine vx_goto (tgt := 23) h0 dX2_reckonHang_108 (by decide) ?_
                refine vx_sub [3, 0] rfl ?_
                exact ih _ _ hf
              · replace hf := (if_neg c13).symm.trans hf
                refine vx_aload_n h0 dX2_reckonHang_86 rfl ?_
                refine vx_iload_n h0 dX2_reckonHang_87 rfl ?_
                refine vx_aload_n h0 dX2_reckonHang_88 rfl ?_
                refine xg_28_0 hX q247 dX2_reckonHang_89 ?_
                refine xg_14_8 hX q132 dX2_reckonHang_92 ?_
                refine vx_iload_n h0 dX2_reckonHang_95 rfl ?_
                obtain ⟨b14, hf⟩ := gd_some hf
                refine xl_20 hX b14 dX2_reckonHang_96 ?_
                refine vx_aload_n h0 dX2_reckonHang_97 rfl ?_
                refine vx_iload_n h0 dX2_reckonHang_98 rfl ?_
                obtain ⟨r16, h15, hf⟩ := ob_some hf
                refine w_callV (st := [.int (gA σ 48 (Int32.toNatClampNeg (gA σ 51 (Int32.toNatClampNeg v1)))), .int (gA σ 50 (Int32.toNatClampNeg v1)), .ref (g.2.1 28)]) (ci := 2) (q0 := 28) hX (c_X2_forceOf h15) ce_X2_forceOf q447 ⟨rfl, rfl⟩ ⟨by decide, by decide⟩ rfl rfl rfl rfl (xo_28 g _) rfl (Nat.le_of_ble_eq_true rfl) dX2_reckonHang_99 ?_
                show Vx X g.1 4 (wsX g σ) 102 [(3, .int (gA σ 50 (Int32.toNatClampNeg v1))), (2, .int (gA σ 51 (Int32.toNatClampNeg v1))), (0, .ref (g.2.1 28)), (1, .int v1)] [.long r16, .int (gA σ 48 (Int32.toNatClampNeg (gA σ 51 (Int32.toNatClampNeg v1)))), .int (gA σ 50 (Int32.toNatClampNeg v1)), .ref (g.2.1 28)]
                obtain ⟨σ18, h17, hf⟩ := ob_some hf
                refine w_callV (st := []) (ci := 2) (q0 := 28) hX (c_X2_hangOnAll h17) ce_X2_hangOnAll q464 ⟨rfl, rfl⟩ ⟨by decide, by decide⟩ rfl rfl rfl rfl (xo_28 g _) rfl (Nat.le_of_ble_eq_true rfl) dX2_reckonHang_102 ?_
                show Vx X g.1 4 (wsX g σ18) 105 [(3, .int (gA σ 50 (Int32.toNatClampNeg v1))), (2, .int (gA σ 51 (Int32.toNatClampNeg v1))), (0, .ref (g.2.1 28)), (1, .int v1)] []
                refine vx_iinc (q := 3) (v := (v1 + (1 : Int32))) (ls' := [(1, .int (v1 + (1 : Int32))), (3, .int (gA σ 50 (Int32.toNatClampNeg v1))), (2, .int (gA σ 51 (Int32.toNatClampNeg v1))), (0, .ref (g.2.1 28))]) h0 dX2_reckonHang_105 rfl rfl (by decide) rfl ?_
                refine vx_goto (tgt := 23) h0 dX2_reckonHang_108 (by decide) ?_
                refine vx_sub [3, 0] rfl ?_
                exact ih _ _ hf
def FX2_reckonHang (σ : SS) : Option (SS) :=
  FX2_reckonHang_L2 (fun σ4 => FX2_reckonHang_L23 (fun σ19 => some σ19) 5000 (0 : Int32) σ4) 5000 (0 : Int32) σ
set_option maxRecDepth 100000 in
set_option maxHeartbeats 4000000 in
theorem c_X2_reckonHang {σ : SS} {σr : SS} (hf : FX2_reckonHang σ = some σr) : Mcw wsX yX2_reckonHang cX2_reckonHang 4 none ({ frames := 2, cells := 0, slots := 0, locals := 46 } : Room) (fun g => [.ref (g.2.1 28)]) σ (fun g => none) σr := by
  refine w_enter wsX_fix (by decide) (fun g => Nat.le_of_ble_eq_true rfl) ?_
  intro X g hX
  replace hX : Okw wsX X g cX2_reckonHang 4 RX2 none ({ frames := 2, cells := 0, slots := 0, locals := 46 } : Room) (fun g => none) σr := hX
  have h0 := hX.1
  show Vx X g.1 4 (wsX g σ) 0 [(0, .ref (g.2.1 28))] []
  rw [FX2_reckonHang] at hf
  refine vx_iconst (v := (0 : Int32)) h0 dX2_reckonHang_0 (by decide) ?_
  refine vx_istore_n (ls' := [(1, .int (0 : Int32)), (0, .ref (g.2.1 28))]) h0 dX2_reckonHang_1 (by decide) rfl ?_
  refine vx_sub [1, 0] rfl ?_
  refine PX2_reckonHang_L2 hX (fun σ4 hf => ?_) _ _ _ hf
  refine vx_iconst (v := (0 : Int32)) h0 dX2_reckonHang_21 (by decide) ?_
  refine vx_istore_n (ls' := [(1, .int (0 : Int32)), (0, .ref (g.2.1 28))]) h0 dX2_reckonHang_22 (by decide) rfl ?_
  refine vx_sub [1, 0] rfl ?_
  refine PX2_reckonHang_L23 hX (fun σ19 hf => ?_) _ _ _ hf
  exact w_vretE hX hf dX2_reckonHang_111
