theorem dX0_init_0 : decode cX0_init 0 = .ok (.aload_n 0, 1) := by decide +kernel
theorem dX0_init_1 : decode cX0_init 1 = .ok (.invokespecial 3, 3) := by decide +kernel
theorem dX0_init_4 : decode cX0_init 4 = .ok (.aload_n 0, 1) := by decide +kernel
theorem dX0_init_5 : decode cX0_init 5 = .ok (.new 9, 3) := by decide +kernel
theorem dX0_init_8 : decode cX0_init 8 = .ok (.dup, 1) := by decide +kernel
theorem dX0_init_9 : decode cX0_init 9 = .ok (.bipush 16, 2) := by decide +kernel
theorem dX0_init_11 : decode cX0_init 11 = .ok (.invokespecial 11, 3) := by decide +kernel
theorem dX0_init_14 : decode cX0_init 14 = .ok (.putfield 14, 3) := by decide +kernel
theorem dX0_init_17 : decode cX0_init 17 = .ok (.aload_n 0, 1) := by decide +kernel
theorem dX0_init_18 : decode cX0_init 18 = .ok (.new 9, 3) := by decide +kernel
theorem dX0_init_21 : decode cX0_init 21 = .ok (.dup, 1) := by decide +kernel
theorem dX0_init_22 : decode cX0_init 22 = .ok (.sipush 450, 3) := by decide +kernel
theorem dX0_init_25 : decode cX0_init 25 = .ok (.invokespecial 11, 3) := by decide +kernel
theorem dX0_init_28 : decode cX0_init 28 = .ok (.putfield 20, 3) := by decide +kernel
theorem dX0_init_31 : decode cX0_init 31 = .ok (.return_, 1) := by decide +kernel
theorem dX0_changeTold_0 : decode cX0_changeTold 0 = .ok (.aload_n 0, 1) := by decide +kernel
theorem dX0_changeTold_1 : decode cX0_changeTold 1 = .ok (.getfield 14, 3) := by decide +kernel
theorem dX0_changeTold_4 : decode cX0_changeTold 4 = .ok (.iload_n 1, 1) := by decide +kernel
theorem dX0_changeTold_5 : decode cX0_changeTold 5 = .ok (.iconst 4, 1) := by decide +kernel
theorem dX0_changeTold_6 : decode cX0_changeTold 6 = .ok (.imul, 1) := by decide +kernel
theorem dX0_changeTold_7 : decode cX0_changeTold 7 = .ok (.iload_n 2, 1) := by decide +kernel
theorem dX0_changeTold_8 : decode cX0_changeTold 8 = .ok (.iadd, 1) := by decide +kernel
theorem dX0_changeTold_9 : decode cX0_changeTold 9 = .ok (.invokevirtual 23, 3) := by decide +kernel
theorem dX0_changeTold_12 : decode cX0_changeTold 12 = .ok (.istore 4, 2) := by decide +kernel
theorem dX0_changeTold_14 : decode cX0_changeTold 14 = .ok (.aload_n 0, 1) := by decide +kernel
theorem dX0_changeTold_15 : decode cX0_changeTold 15 = .ok (.getfield 14, 3) := by decide +kernel
theorem dX0_changeTold_18 : decode cX0_changeTold 18 = .ok (.iload_n 1, 1) := by decide +kernel
theorem dX0_changeTold_19 : decode cX0_changeTold 19 = .ok (.iconst 4, 1) := by decide +kernel
theorem dX0_changeTold_20 : decode cX0_changeTold 20 = .ok (.imul, 1) := by decide +kernel
theorem dX0_changeTold_21 : decode cX0_changeTold 21 = .ok (.iload_n 2, 1) := by decide +kernel
theorem dX0_changeTold_22 : decode cX0_changeTold 22 = .ok (.iadd, 1) := by decide +kernel
theorem dX0_changeTold_23 : decode cX0_changeTold 23 = .ok (.iload_n 3, 1) := by decide +kernel
theorem dX0_changeTold_24 : decode cX0_changeTold 24 = .ok (.invokevirtual 27, 3) := by decide +kernel
theorem dX0_changeTold_27 : decode cX0_changeTold 27 = .ok (.iload 4, 2) := by decide +kernel
theorem dX0_changeTold_29 : decode cX0_changeTold 29 = .ok (.ireturn, 1) := by decide +kernel
theorem dX0_choose_0 : decode cX0_choose 0 = .ok (.iload 4, 2) := by decide +kernel
theorem dX0_choose_2 : decode cX0_choose 2 = .ok (.iconst 1, 1) := by decide +kernel
theorem dX0_choose_3 : decode cX0_choose 3 = .ok (.isub, 1) := by decide +kernel
theorem dX0_choose_4 : decode cX0_choose 4 = .ok (.istore 5, 2) := by decide +kernel
theorem dX0_choose_6 : decode cX0_choose 6 = .ok (.iload 5, 2) := by decide +kernel
theorem dX0_choose_8 : decode cX0_choose 8 = .ok (.iload_n 3, 1) := by decide +kernel
theorem dX0_choose_9 : decode cX0_choose 9 = .ok (.if_icmp .lt 81, 3) := by decide +kernel
theorem dX0_choose_12 : decode cX0_choose 12 = .ok (.iconst (-1), 1) := by decide +kernel
theorem dX0_choose_13 : decode cX0_choose 13 = .ok (.istore 6, 2) := by decide +kernel
theorem dX0_choose_15 : decode cX0_choose 15 = .ok (.iload 6, 2) := by decide +kernel
theorem dX0_choose_17 : decode cX0_choose 17 = .ok (.bipush 8, 2) := by decide +kernel
theorem dX0_choose_19 : decode cX0_choose 19 = .ok (.if_icmp .ge 65, 3) := by decide +kernel
theorem dX0_choose_22 : decode cX0_choose 22 = .ok (.iconst 0, 1) := by decide +kernel
theorem dX0_choose_23 : decode cX0_choose 23 = .ok (.istore 7, 2) := by decide +kernel
theorem dX0_choose_25 : decode cX0_choose 25 = .ok (.iload 5, 2) := by decide +kernel
theorem dX0_choose_27 : decode cX0_choose 27 = .ok (.iconst 1, 1) := by decide +kernel
theorem dX0_choose_28 : decode cX0_choose 28 = .ok (.iadd, 1) := by decide +kernel
theorem dX0_choose_29 : decode cX0_choose 29 = .ok (.iload 4, 2) := by decide +kernel
theorem dX0_choose_31 : decode cX0_choose 31 = .ok (.if_icmp .ge 37, 3) := by decide +kernel
theorem dX0_choose_34 : decode cX0_choose 34 = .ok (.aload_n 0, 1) := by decide +kernel
theorem dX0_choose_35 : decode cX0_choose 35 = .ok (.aload_n 1, 1) := by decide +kernel
theorem dX0_choose_36 : decode cX0_choose 36 = .ok (.iload 5, 2) := by decide +kernel
theorem dX0_choose_38 : decode cX0_choose 38 = .ok (.iconst 1, 1) := by decide +kernel
theorem dX0_choose_39 : decode cX0_choose 39 = .ok (.iadd, 1) := by decide +kernel
theorem dX0_choose_40 : decode cX0_choose 40 = .ok (.invokevirtual 23, 3) := by decide +kernel
theorem dX0_choose_43 : decode cX0_choose 43 = .ok (.iload 5, 2) := by decide +kernel
theorem dX0_choose_45 : decode cX0_choose 45 = .ok (.iconst 1, 1) := by decide +kernel
theorem dX0_choose_46 : decode cX0_choose 46 = .ok (.iadd, 1) := by decide +kernel
theorem dX0_choose_47 : decode cX0_choose 47 = .ok (.iload 6, 2) := by decide +kernel
theorem dX0_choose_49 : decode cX0_choose 49 = .ok (.invokevirtual 31, 3) := by decide +kernel
theorem dX0_choose_52 : decode cX0_choose 52 = .ok (.istore 8, 2) := by decide +kernel
theorem dX0_choose_54 : decode cX0_choose 54 = .ok (.aload_n 0, 1) := by decide +kernel
theorem dX0_choose_55 : decode cX0_choose 55 = .ok (.iload 5, 2) := by decide +kernel
theorem dX0_choose_57 : decode cX0_choose 57 = .ok (.iconst 1, 1) := by decide +kernel
theorem dX0_choose_58 : decode cX0_choose 58 = .ok (.iadd, 1) := by decide +kernel
theorem dX0_choose_59 : decode cX0_choose 59 = .ok (.iload 8, 2) := by decide +kernel
theorem dX0_choose_61 : decode cX0_choose 61 = .ok (.iload 6, 2) := by decide +kernel
theorem dX0_choose_63 : decode cX0_choose 63 = .ok (.invokevirtual 35, 3) := by decide +kernel
theorem dX0_choose_66 : decode cX0_choose 66 = .ok (.istore 7, 2) := by decide +kernel
theorem dX0_choose_68 : decode cX0_choose 68 = .ok (.aload_n 0, 1) := by decide +kernel
theorem dX0_choose_69 : decode cX0_choose 69 = .ok (.iload 5, 2) := by decide +kernel
theorem dX0_choose_71 : decode cX0_choose 71 = .ok (.iload 6, 2) := by decide +kernel
theorem dX0_choose_73 : decode cX0_choose 73 = .ok (.iload 7, 2) := by decide +kernel
theorem dX0_choose_75 : decode cX0_choose 75 = .ok (.invokevirtual 38, 3) := by decide +kernel
theorem dX0_choose_78 : decode cX0_choose 78 = .ok (.iinc 6 1, 3) := by decide +kernel
theorem dX0_choose_81 : decode cX0_choose 81 = .ok (.goto (-66), 3) := by decide +kernel
theorem dX0_choose_84 : decode cX0_choose 84 = .ok (.iinc 5 (-1), 3) := by decide +kernel
theorem dX0_choose_87 : decode cX0_choose 87 = .ok (.goto (-81), 3) := by decide +kernel
theorem dX0_choose_90 : decode cX0_choose 90 = .ok (.iconst (-1), 1) := by decide +kernel
theorem dX0_choose_91 : decode cX0_choose 91 = .ok (.istore 5, 2) := by decide +kernel
theorem dX0_choose_93 : decode cX0_choose 93 = .ok (.iload_n 3, 1) := by decide +kernel
theorem dX0_choose_94 : decode cX0_choose 94 = .ok (.istore 6, 2) := by decide +kernel
theorem dX0_choose_96 : decode cX0_choose 96 = .ok (.iload 6, 2) := by decide +kernel
theorem dX0_choose_98 : decode cX0_choose 98 = .ok (.iload 4, 2) := by decide +kernel
theorem dX0_choose_100 : decode cX0_choose 100 = .ok (.if_icmp .ge 33, 3) := by decide +kernel
theorem dX0_choose_103 : decode cX0_choose 103 = .ok (.aload_n 0, 1) := by decide +kernel
theorem dX0_choose_104 : decode cX0_choose 104 = .ok (.aload_n 1, 1) := by decide +kernel
theorem dX0_choose_105 : decode cX0_choose 105 = .ok (.iload 6, 2) := by decide +kernel
theorem dX0_choose_107 : decode cX0_choose 107 = .ok (.invokevirtual 23, 3) := by decide +kernel
theorem dX0_choose_110 : decode cX0_choose 110 = .ok (.iload 6, 2) := by decide +kernel
theorem dX0_choose_112 : decode cX0_choose 112 = .ok (.iload 5, 2) := by decide +kernel
theorem dX0_choose_114 : decode cX0_choose 114 = .ok (.invokevirtual 31, 3) := by decide +kernel
theorem dX0_choose_117 : decode cX0_choose 117 = .ok (.istore 5, 2) := by decide +kernel
theorem dX0_choose_119 : decode cX0_choose 119 = .ok (.aload_n 2, 1) := by decide +kernel
theorem dX0_choose_120 : decode cX0_choose 120 = .ok (.iload 6, 2) := by decide +kernel
theorem dX0_choose_122 : decode cX0_choose 122 = .ok (.iload 5, 2) := by decide +kernel
theorem dX0_choose_124 : decode cX0_choose 124 = .ok (.invokevirtual 27, 3) := by decide +kernel
theorem dX0_choose_127 : decode cX0_choose 127 = .ok (.iinc 6 1, 3) := by decide +kernel
theorem dX0_choose_130 : decode cX0_choose 130 = .ok (.goto (-34), 3) := by decide +kernel
theorem dX0_choose_133 : decode cX0_choose 133 = .ok (.return_, 1) := by decide +kernel
theorem dX0_isBroken_0 : decode cX0_isBroken 0 = .ok (.iload_n 1, 1) := by decide +kernel
theorem dX0_isBroken_1 : decode cX0_isBroken 1 = .ok (.iconst (-1), 1) := by decide +kernel
theorem dX0_isBroken_2 : decode cX0_isBroken 2 = .ok (.if_icmp .eq 8, 3) := by decide +kernel
theorem dX0_isBroken_5 : decode cX0_isBroken 5 = .ok (.iload_n 2, 1) := by decide +kernel
theorem dX0_isBroken_6 : decode cX0_isBroken 6 = .ok (.iconst (-1), 1) := by decide +kernel
theorem dX0_isBroken_7 : decode cX0_isBroken 7 = .ok (.if_icmp .ne 5, 3) := by decide +kernel
theorem dX0_isBroken_10 : decode cX0_isBroken 10 = .ok (.iconst 0, 1) := by decide +kernel
theorem dX0_isBroken_11 : decode cX0_isBroken 11 = .ok (.ireturn, 1) := by decide +kernel
theorem dX0_isBroken_12 : decode cX0_isBroken 12 = .ok (.aload_n 0, 1) := by decide +kernel
theorem dX0_isBroken_13 : decode cX0_isBroken 13 = .ok (.getfield 14, 3) := by decide +kernel
theorem dX0_isBroken_16 : decode cX0_isBroken 16 = .ok (.iload_n 1, 1) := by decide +kernel
theorem dX0_isBroken_17 : decode cX0_isBroken 17 = .ok (.iconst 2, 1) := by decide +kernel
theorem dX0_isBroken_18 : decode cX0_isBroken 18 = .ok (.idiv, 1) := by decide +kernel
theorem dX0_isBroken_19 : decode cX0_isBroken 19 = .ok (.iconst 4, 1) := by decide +kernel
theorem dX0_isBroken_20 : decode cX0_isBroken 20 = .ok (.imul, 1) := by decide +kernel
theorem dX0_isBroken_21 : decode cX0_isBroken 21 = .ok (.iload_n 2, 1) := by decide +kernel
theorem dX0_isBroken_22 : decode cX0_isBroken 22 = .ok (.iconst 2, 1) := by decide +kernel
theorem dX0_isBroken_23 : decode cX0_isBroken 23 = .ok (.idiv, 1) := by decide +kernel
theorem dX0_isBroken_24 : decode cX0_isBroken 24 = .ok (.iadd, 1) := by decide +kernel
theorem dX0_isBroken_25 : decode cX0_isBroken 25 = .ok (.invokevirtual 23, 3) := by decide +kernel
theorem dX0_isBroken_28 : decode cX0_isBroken 28 = .ok (.istore_n 3, 1) := by decide +kernel
theorem dX0_isBroken_29 : decode cX0_isBroken 29 = .ok (.iload_n 3, 1) := by decide +kernel
theorem dX0_isBroken_30 : decode cX0_isBroken 30 = .ok (.iconst 2, 1) := by decide +kernel
theorem dX0_isBroken_31 : decode cX0_isBroken 31 = .ok (.if_icmp .eq 17, 3) := by decide +kernel
theorem dX0_isBroken_34 : decode cX0_isBroken 34 = .ok (.iload_n 3, 1) := by decide +kernel
theorem dX0_isBroken_35 : decode cX0_isBroken 35 = .ok (.iconst 1, 1) := by decide +kernel
theorem dX0_isBroken_36 : decode cX0_isBroken 36 = .ok (.if_icmp .ne 16, 3) := by decide +kernel
theorem dX0_isBroken_39 : decode cX0_isBroken 39 = .ok (.iload_n 1, 1) := by decide +kernel
theorem dX0_isBroken_40 : decode cX0_isBroken 40 = .ok (.iconst 2, 1) := by decide +kernel
theorem dX0_isBroken_41 : decode cX0_isBroken 41 = .ok (.irem, 1) := by decide +kernel
theorem dX0_isBroken_42 : decode cX0_isBroken 42 = .ok (.iload_n 2, 1) := by decide +kernel
theorem dX0_isBroken_43 : decode cX0_isBroken 43 = .ok (.iconst 2, 1) := by decide +kernel
theorem dX0_isBroken_44 : decode cX0_isBroken 44 = .ok (.irem, 1) := by decide +kernel
theorem dX0_isBroken_45 : decode cX0_isBroken 45 = .ok (.if_icmp .eq 7, 3) := by decide +kernel
theorem dX0_isBroken_48 : decode cX0_isBroken 48 = .ok (.iconst 1, 1) := by decide +kernel
theorem dX0_isBroken_49 : decode cX0_isBroken 49 = .ok (.goto 4, 3) := by decide +kernel
theorem dX0_isBroken_52 : decode cX0_isBroken 52 = .ok (.iconst 0, 1) := by decide +kernel
theorem dX0_isBroken_53 : decode cX0_isBroken 53 = .ok (.ireturn, 1) := by decide +kernel
theorem dX0_bestReading_0 : decode cX0_bestReading 0 = .ok (.iconst (-1), 1) := by decide +kernel
theorem dX0_bestReading_1 : decode cX0_bestReading 1 = .ok (.istore 4, 2) := by decide +kernel
theorem dX0_bestReading_3 : decode cX0_bestReading 3 = .ok (.ldc 42, 2) := by decide +kernel
theorem dX0_bestReading_5 : decode cX0_bestReading 5 = .ok (.istore 5, 2) := by decide +kernel
theorem dX0_bestReading_7 : decode cX0_bestReading 7 = .ok (.iconst 0, 1) := by decide +kernel
theorem dX0_bestReading_8 : decode cX0_bestReading 8 = .ok (.istore 6, 2) := by decide +kernel
theorem dX0_bestReading_10 : decode cX0_bestReading 10 = .ok (.iload 6, 2) := by decide +kernel
theorem dX0_bestReading_12 : decode cX0_bestReading 12 = .ok (.bipush 8, 2) := by decide +kernel
theorem dX0_bestReading_14 : decode cX0_bestReading 14 = .ok (.if_icmp .ge 43, 3) := by decide +kernel
theorem dX0_bestReading_17 : decode cX0_bestReading 17 = .ok (.iload_n 1, 1) := by decide +kernel
theorem dX0_bestReading_18 : decode cX0_bestReading 18 = .ok (.iload 6, 2) := by decide +kernel
theorem dX0_bestReading_20 : decode cX0_bestReading 20 = .ok (.ishr, 1) := by decide +kernel
theorem dX0_bestReading_21 : decode cX0_bestReading 21 = .ok (.iconst 1, 1) := by decide +kernel
theorem dX0_bestReading_22 : decode cX0_bestReading 22 = .ok (.iand, 1) := by decide +kernel
theorem dX0_bestReading_23 : decode cX0_bestReading 23 = .ok (.ifCond .eq 28, 3) := by decide +kernel
theorem dX0_bestReading_26 : decode cX0_bestReading 26 = .ok (.aload_n 0, 1) := by decide +kernel
theorem dX0_bestReading_27 : decode cX0_bestReading 27 = .ok (.iload_n 2, 1) := by decide +kernel
theorem dX0_bestReading_28 : decode cX0_bestReading 28 = .ok (.iload 6, 2) := by decide +kernel
theorem dX0_bestReading_30 : decode cX0_bestReading 30 = .ok (.iload_n 3, 1) := by decide +kernel
theorem dX0_bestReading_31 : decode cX0_bestReading 31 = .ok (.invokevirtual 35, 3) := by decide +kernel
theorem dX0_bestReading_34 : decode cX0_bestReading 34 = .ok (.istore 7, 2) := by decide +kernel
theorem dX0_bestReading_36 : decode cX0_bestReading 36 = .ok (.iload 7, 2) := by decide +kernel
theorem dX0_bestReading_38 : decode cX0_bestReading 38 = .ok (.iload 5, 2) := by decide +kernel
theorem dX0_bestReading_40 : decode cX0_bestReading 40 = .ok (.if_icmp .ge 11, 3) := by decide +kernel
theorem dX0_bestReading_43 : decode cX0_bestReading 43 = .ok (.iload 7, 2) := by decide +kernel
theorem dX0_bestReading_45 : decode cX0_bestReading 45 = .ok (.istore 5, 2) := by decide +kernel
theorem dX0_bestReading_47 : decode cX0_bestReading 47 = .ok (.iload 6, 2) := by decide +kernel
theorem dX0_bestReading_49 : decode cX0_bestReading 49 = .ok (.istore 4, 2) := by decide +kernel
theorem dX0_bestReading_51 : decode cX0_bestReading 51 = .ok (.iinc 6 1, 3) := by decide +kernel
theorem dX0_bestReading_54 : decode cX0_bestReading 54 = .ok (.goto (-44), 3) := by decide +kernel
theorem dX0_bestReading_57 : decode cX0_bestReading 57 = .ok (.iload 4, 2) := by decide +kernel
theorem dX0_bestReading_59 : decode cX0_bestReading 59 = .ok (.ireturn, 1) := by decide +kernel
theorem dX0_countBroken_0 : decode cX0_countBroken 0 = .ok (.aload_n 0, 1) := by decide +kernel
theorem dX0_countBroken_1 : decode cX0_countBroken 1 = .ok (.getfield 20, 3) := by decide +kernel
theorem dX0_countBroken_4 : decode cX0_countBroken 4 = .ok (.iload_n 1, 1) := by decide +kernel
theorem dX0_countBroken_5 : decode cX0_countBroken 5 = .ok (.bipush 9, 2) := by decide +kernel
theorem dX0_countBroken_7 : decode cX0_countBroken 7 = .ok (.imul, 1) := by decide +kernel
theorem dX0_countBroken_8 : decode cX0_countBroken 8 = .ok (.iload_n 2, 1) := by decide +kernel
theorem dX0_countBroken_9 : decode cX0_countBroken 9 = .ok (.iadd, 1) := by decide +kernel
theorem dX0_countBroken_10 : decode cX0_countBroken 10 = .ok (.iconst 1, 1) := by decide +kernel
theorem dX0_countBroken_11 : decode cX0_countBroken 11 = .ok (.iadd, 1) := by decide +kernel
theorem dX0_countBroken_12 : decode cX0_countBroken 12 = .ok (.invokevirtual 23, 3) := by decide +kernel
theorem dX0_countBroken_15 : decode cX0_countBroken 15 = .ok (.istore 4, 2) := by decide +kernel
theorem dX0_countBroken_17 : decode cX0_countBroken 17 = .ok (.aload_n 0, 1) := by decide +kernel
theorem dX0_countBroken_18 : decode cX0_countBroken 18 = .ok (.iload_n 3, 1) := by decide +kernel
theorem dX0_countBroken_19 : decode cX0_countBroken 19 = .ok (.iload_n 2, 1) := by decide +kernel
theorem dX0_countBroken_20 : decode cX0_countBroken 20 = .ok (.invokevirtual 43, 3) := by decide +kernel
theorem dX0_countBroken_23 : decode cX0_countBroken 23 = .ok (.ifCond .eq 10, 3) := by decide +kernel
theorem dX0_countBroken_26 : decode cX0_countBroken 26 = .ok (.iload 4, 2) := by decide +kernel
theorem dX0_countBroken_28 : decode cX0_countBroken 28 = .ok (.iconst 1, 1) := by decide +kernel
theorem dX0_countBroken_29 : decode cX0_countBroken 29 = .ok (.iadd, 1) := by decide +kernel
theorem dX0_countBroken_30 : decode cX0_countBroken 30 = .ok (.goto 5, 3) := by decide +kernel
theorem dX0_countBroken_33 : decode cX0_countBroken 33 = .ok (.iload 4, 2) := by decide +kernel
theorem dX0_countBroken_35 : decode cX0_countBroken 35 = .ok (.ireturn, 1) := by decide +kernel
theorem dX0_setFewest_0 : decode cX0_setFewest 0 = .ok (.aload_n 0, 1) := by decide +kernel
theorem dX0_setFewest_1 : decode cX0_setFewest 1 = .ok (.getfield 20, 3) := by decide +kernel
theorem dX0_setFewest_4 : decode cX0_setFewest 4 = .ok (.iload_n 1, 1) := by decide +kernel
theorem dX0_setFewest_5 : decode cX0_setFewest 5 = .ok (.bipush 9, 2) := by decide +kernel
theorem dX0_setFewest_7 : decode cX0_setFewest 7 = .ok (.imul, 1) := by decide +kernel
theorem dX0_setFewest_8 : decode cX0_setFewest 8 = .ok (.iload_n 2, 1) := by decide +kernel
theorem dX0_setFewest_9 : decode cX0_setFewest 9 = .ok (.iadd, 1) := by decide +kernel
theorem dX0_setFewest_10 : decode cX0_setFewest 10 = .ok (.iconst 1, 1) := by decide +kernel
theorem dX0_setFewest_11 : decode cX0_setFewest 11 = .ok (.iadd, 1) := by decide +kernel
theorem dX0_setFewest_12 : decode cX0_setFewest 12 = .ok (.iload_n 3, 1) := by decide +kernel
theorem dX0_setFewest_13 : decode cX0_setFewest 13 = .ok (.invokevirtual 27, 3) := by decide +kernel
theorem dX0_setFewest_16 : decode cX0_setFewest 16 = .ok (.return_, 1) := by decide +kernel
theorem dX1_init_0 : decode cX1_init 0 = .ok (.aload_n 0, 1) := by decide +kernel
theorem dX1_init_1 : decode cX1_init 1 = .ok (.invokespecial 3, 3) := by decide +kernel
theorem dX1_init_4 : decode cX1_init 4 = .ok (.aload_n 0, 1) := by decide +kernel
theorem dX1_init_5 : decode cX1_init 5 = .ok (.new 9, 3) := by decide +kernel
theorem dX1_init_8 : decode cX1_init 8 = .ok (.dup, 1) := by decide +kernel
theorem dX1_init_9 : decode cX1_init 9 = .ok (.sipush 2100, 3) := by decide +kernel
theorem dX1_init_12 : decode cX1_init 12 = .ok (.invokespecial 11, 3) := by decide +kernel
theorem dX1_init_15 : decode cX1_init 15 = .ok (.putfield 14, 3) := by decide +kernel
theorem dX1_init_18 : decode cX1_init 18 = .ok (.aload_n 0, 1) := by decide +kernel
theorem dX1_init_19 : decode cX1_init 19 = .ok (.new 9, 3) := by decide +kernel
theorem dX1_init_22 : decode cX1_init 22 = .ok (.dup, 1) := by decide +kernel
theorem dX1_init_23 : decode cX1_init 23 = .ok (.bipush 21, 2) := by decide +kernel
theorem dX1_init_25 : decode cX1_init 25 = .ok (.invokespecial 11, 3) := by decide +kernel
theorem dX1_init_28 : decode cX1_init 28 = .ok (.putfield 20, 3) := by decide +kernel
theorem dX1_init_31 : decode cX1_init 31 = .ok (.return_, 1) := by decide +kernel
theorem dX1_begin_0 : decode cX1_begin 0 = .ok (.aload_n 0, 1) := by decide +kernel
theorem dX1_begin_1 : decode cX1_begin 1 = .ok (.iconst 0, 1) := by decide +kernel
theorem dX1_begin_2 : decode cX1_begin 2 = .ok (.putfield 23, 3) := by decide +kernel
theorem dX1_begin_5 : decode cX1_begin 5 = .ok (.aload_n 0, 1) := by decide +kernel
theorem dX1_begin_6 : decode cX1_begin 6 = .ok (.aload_n 1, 1) := by decide +kernel
theorem dX1_begin_7 : decode cX1_begin 7 = .ok (.invokevirtual 27, 3) := by decide +kernel
theorem dX1_begin_10 : decode cX1_begin 10 = .ok (.return_, 1) := by decide +kernel
theorem dX1_keep_0 : decode cX1_keep 0 = .ok (.aload_n 0, 1) := by decide +kernel
theorem dX1_keep_1 : decode cX1_keep 1 = .ok (.getfield 23, 3) := by decide +kernel
theorem dX1_keep_4 : decode cX1_keep 4 = .ok (.bipush 20, 2) := by decide +kernel
theorem dX1_keep_6 : decode cX1_keep 6 = .ok (.if_icmp .gt 65, 3) := by decide +kernel
theorem dX1_keep_9 : decode cX1_keep 9 = .ok (.aload_n 0, 1) := by decide +kernel
theorem dX1_keep_10 : decode cX1_keep 10 = .ok (.getfield 20, 3) := by decide +kernel
theorem dX1_keep_13 : decode cX1_keep 13 = .ok (.aload_n 0, 1) := by decide +kernel
theorem dX1_keep_14 : decode cX1_keep 14 = .ok (.getfield 23, 3) := by decide +kernel
theorem dX1_keep_17 : decode cX1_keep 17 = .ok (.aload_n 1, 1) := by decide +kernel
theorem dX1_keep_18 : decode cX1_keep 18 = .ok (.invokevirtual 31, 3) := by decide +kernel
theorem dX1_keep_21 : decode cX1_keep 21 = .ok (.invokevirtual 37, 3) := by decide +kernel
theorem dX1_keep_24 : decode cX1_keep 24 = .ok (.iconst 0, 1) := by decide +kernel
theorem dX1_keep_25 : decode cX1_keep 25 = .ok (.istore_n 2, 1) := by decide +kernel
theorem dX1_keep_26 : decode cX1_keep 26 = .ok (.iload_n 2, 1) := by decide +kernel
theorem dX1_keep_27 : decode cX1_keep 27 = .ok (.aload_n 1, 1) := by decide +kernel
theorem dX1_keep_28 : decode cX1_keep 28 = .ok (.invokevirtual 31, 3) := by decide +kernel
theorem dX1_keep_31 : decode cX1_keep 31 = .ok (.if_icmp .ge 30, 3) := by decide +kernel
theorem dX1_keep_34 : decode cX1_keep 34 = .ok (.aload_n 0, 1) := by decide +kernel
theorem dX1_keep_35 : decode cX1_keep 35 = .ok (.getfield 14, 3) := by decide +kernel
theorem dX1_keep_38 : decode cX1_keep 38 = .ok (.aload_n 0, 1) := by decide +kernel
theorem dX1_keep_39 : decode cX1_keep 39 = .ok (.getfield 23, 3) := by decide +kernel
theorem dX1_keep_42 : decode cX1_keep 42 = .ok (.bipush 100, 2) := by decide +kernel
theorem dX1_keep_44 : decode cX1_keep 44 = .ok (.imul, 1) := by decide +kernel
theorem dX1_keep_45 : decode cX1_keep 45 = .ok (.iload_n 2, 1) := by decide +kernel
theorem dX1_keep_46 : decode cX1_keep 46 = .ok (.iadd, 1) := by decide +kernel
theorem dX1_keep_47 : decode cX1_keep 47 = .ok (.aload_n 1, 1) := by decide +kernel
theorem dX1_keep_48 : decode cX1_keep 48 = .ok (.iload_n 2, 1) := by decide +kernel
theorem dX1_keep_49 : decode cX1_keep 49 = .ok (.invokevirtual 41, 3) := by decide +kernel
theorem dX1_keep_52 : decode cX1_keep 52 = .ok (.invokevirtual 37, 3) := by decide +kernel
theorem dX1_keep_55 : decode cX1_keep 55 = .ok (.iinc 2 1, 3) := by decide +kernel
theorem dX1_keep_58 : decode cX1_keep 58 = .ok (.goto (-32), 3) := by decide +kernel
theorem dX1_keep_61 : decode cX1_keep 61 = .ok (.aload_n 0, 1) := by decide +kernel
theorem dX1_keep_62 : decode cX1_keep 62 = .ok (.dup, 1) := by decide +kernel
theorem dX1_keep_63 : decode cX1_keep 63 = .ok (.getfield 23, 3) := by decide +kernel
theorem dX1_keep_66 : decode cX1_keep 66 = .ok (.iconst 1, 1) := by decide +kernel
theorem dX1_keep_67 : decode cX1_keep 67 = .ok (.iadd, 1) := by decide +kernel
theorem dX1_keep_68 : decode cX1_keep 68 = .ok (.putfield 23, 3) := by decide +kernel
theorem dX1_keep_71 : decode cX1_keep 71 = .ok (.return_, 1) := by decide +kernel
theorem dX1_holds_0 : decode cX1_holds 0 = .ok (.iconst 0, 1) := by decide +kernel
theorem dX1_holds_1 : decode cX1_holds 1 = .ok (.istore_n 2, 1) := by decide +kernel
theorem dX1_holds_2 : decode cX1_holds 2 = .ok (.iload_n 2, 1) := by decide +kernel
theorem dX1_holds_3 : decode cX1_holds 3 = .ok (.aload_n 0, 1) := by decide +kernel
theorem dX1_holds_4 : decode cX1_holds 4 = .ok (.getfield 23, 3) := by decide +kernel
theorem dX1_holds_7 : decode cX1_holds 7 = .ok (.if_icmp .ge 35, 3) := by decide +kernel
theorem dX1_holds_10 : decode cX1_holds 10 = .ok (.aload_n 0, 1) := by decide +kernel
theorem dX1_holds_11 : decode cX1_holds 11 = .ok (.getfield 20, 3) := by decide +kernel
theorem dX1_holds_14 : decode cX1_holds 14 = .ok (.iload_n 2, 1) := by decide +kernel
theorem dX1_holds_15 : decode cX1_holds 15 = .ok (.invokevirtual 45, 3) := by decide +kernel
theorem dX1_holds_18 : decode cX1_holds 18 = .ok (.aload_n 1, 1) := by decide +kernel
theorem dX1_holds_19 : decode cX1_holds 19 = .ok (.invokevirtual 31, 3) := by decide +kernel
theorem dX1_holds_22 : decode cX1_holds 22 = .ok (.if_icmp .ne 14, 3) := by decide +kernel
theorem dX1_holds_25 : decode cX1_holds 25 = .ok (.aload_n 0, 1) := by decide +kernel
theorem dX1_holds_26 : decode cX1_holds 26 = .ok (.iload_n 2, 1) := by decide +kernel
theorem dX1_holds_27 : decode cX1_holds 27 = .ok (.aload_n 1, 1) := by decide +kernel
theorem dX1_holds_28 : decode cX1_holds 28 = .ok (.invokevirtual 49, 3) := by decide +kernel
theorem dX1_holds_31 : decode cX1_holds 31 = .ok (.ifCond .eq 5, 3) := by decide +kernel
theorem dX1_holds_34 : decode cX1_holds 34 = .ok (.iconst 1, 1) := by decide +kernel
theorem dX1_holds_35 : decode cX1_holds 35 = .ok (.ireturn, 1) := by decide +kernel
theorem dX1_holds_36 : decode cX1_holds 36 = .ok (.iinc 2 1, 3) := by decide +kernel
theorem dX1_holds_39 : decode cX1_holds 39 = .ok (.goto (-37), 3) := by decide +kernel
theorem dX1_holds_42 : decode cX1_holds 42 = .ok (.iconst 0, 1) := by decide +kernel
theorem dX1_holds_43 : decode cX1_holds 43 = .ok (.ireturn, 1) := by decide +kernel
theorem dX1_isLike_0 : decode cX1_isLike 0 = .ok (.iconst 0, 1) := by decide +kernel
theorem dX1_isLike_1 : decode cX1_isLike 1 = .ok (.istore_n 3, 1) := by decide +kernel
theorem dX1_isLike_2 : decode cX1_isLike 2 = .ok (.iload_n 3, 1) := by decide +kernel
theorem dX1_isLike_3 : decode cX1_isLike 3 = .ok (.aload_n 2, 1) := by decide +kernel
theorem dX1_isLike_4 : decode cX1_isLike 4 = .ok (.invokevirtual 31, 3) := by decide +kernel
theorem dX1_isLike_7 : decode cX1_isLike 7 = .ok (.if_icmp .ge 32, 3) := by decide +kernel
theorem dX1_isLike_10 : decode cX1_isLike 10 = .ok (.aload_n 0, 1) := by decide +kernel
theorem dX1_isLike_11 : decode cX1_isLike 11 = .ok (.getfield 14, 3) := by decide +kernel
theorem dX1_isLike_14 : decode cX1_isLike 14 = .ok (.iload_n 1, 1) := by decide +kernel
theorem dX1_isLike_15 : decode cX1_isLike 15 = .ok (.bipush 100, 2) := by decide +kernel
theorem dX1_isLike_17 : decode cX1_isLike 17 = .ok (.imul, 1) := by decide +kernel
theorem dX1_isLike_18 : decode cX1_isLike 18 = .ok (.iload_n 3, 1) := by decide +kernel
theorem dX1_isLike_19 : decode cX1_isLike 19 = .ok (.iadd, 1) := by decide +kernel
theorem dX1_isLike_20 : decode cX1_isLike 20 = .ok (.invokevirtual 45, 3) := by decide +kernel
theorem dX1_isLike_23 : decode cX1_isLike 23 = .ok (.aload_n 2, 1) := by decide +kernel
theorem dX1_isLike_24 : decode cX1_isLike 24 = .ok (.iload_n 3, 1) := by decide +kernel
theorem dX1_isLike_25 : decode cX1_isLike 25 = .ok (.invokevirtual 41, 3) := by decide +kernel
theorem dX1_isLike_28 : decode cX1_isLike 28 = .ok (.if_icmp .eq 5, 3) := by decide +kernel
theorem dX1_isLike_31 : decode cX1_isLike 31 = .ok (.iconst 0, 1) := by decide +kernel
theorem dX1_isLike_32 : decode cX1_isLike 32 = .ok (.ireturn, 1) := by decide +kernel
theorem dX1_isLike_33 : decode cX1_isLike 33 = .ok (.iinc 3 1, 3) := by decide +kernel
theorem dX1_isLike_36 : decode cX1_isLike 36 = .ok (.goto (-34), 3) := by decide +kernel
theorem dX1_isLike_39 : decode cX1_isLike 39 = .ok (.iconst 1, 1) := by decide +kernel
theorem dX1_isLike_40 : decode cX1_isLike 40 = .ok (.ireturn, 1) := by decide +kernel
theorem dX2_init_0 : decode cX2_init 0 = .ok (.aload_n 0, 1) := by decide +kernel
theorem dX2_init_1 : decode cX2_init 1 = .ok (.invokespecial 3, 3) := by decide +kernel
theorem dX2_init_4 : decode cX2_init 4 = .ok (.aload_n 0, 1) := by decide +kernel
theorem dX2_init_5 : decode cX2_init 5 = .ok (.new 9, 3) := by decide +kernel
theorem dX2_init_8 : decode cX2_init 8 = .ok (.dup, 1) := by decide +kernel
theorem dX2_init_9 : decode cX2_init 9 = .ok (.invokespecial 11, 3) := by decide +kernel
theorem dX2_init_12 : decode cX2_init 12 = .ok (.putfield 12, 3) := by decide +kernel
theorem dX2_init_15 : decode cX2_init 15 = .ok (.aload_n 0, 1) := by decide +kernel
theorem dX2_init_16 : decode cX2_init 16 = .ok (.new 9, 3) := by decide +kernel
theorem dX2_init_19 : decode cX2_init 19 = .ok (.dup, 1) := by decide +kernel
theorem dX2_init_20 : decode cX2_init 20 = .ok (.invokespecial 11, 3) := by decide +kernel
theorem dX2_init_23 : decode cX2_init 23 = .ok (.putfield 18, 3) := by decide +kernel
theorem dX2_init_26 : decode cX2_init 26 = .ok (.aload_n 0, 1) := by decide +kernel
theorem dX2_init_27 : decode cX2_init 27 = .ok (.new 21, 3) := by decide +kernel
theorem dX2_init_30 : decode cX2_init 30 = .ok (.dup, 1) := by decide +kernel
theorem dX2_init_31 : decode cX2_init 31 = .ok (.sipush 1548, 3) := by decide +kernel
theorem dX2_init_34 : decode cX2_init 34 = .ok (.invokespecial 23, 3) := by decide +kernel
theorem dX2_init_37 : decode cX2_init 37 = .ok (.putfield 26, 3) := by decide +kernel
theorem dX2_init_40 : decode cX2_init 40 = .ok (.aload_n 0, 1) := by decide +kernel
theorem dX2_init_41 : decode cX2_init 41 = .ok (.new 21, 3) := by decide +kernel
theorem dX2_init_44 : decode cX2_init 44 = .ok (.dup, 1) := by decide +kernel
theorem dX2_init_45 : decode cX2_init 45 = .ok (.bipush 10, 2) := by decide +kernel
theorem dX2_init_47 : decode cX2_init 47 = .ok (.invokespecial 23, 3) := by decide +kernel
theorem dX2_init_50 : decode cX2_init 50 = .ok (.putfield 30, 3) := by decide +kernel
theorem dX2_init_53 : decode cX2_init 53 = .ok (.aload_n 0, 1) := by decide +kernel
theorem dX2_init_54 : decode cX2_init 54 = .ok (.new 21, 3) := by decide +kernel
theorem dX2_init_57 : decode cX2_init 57 = .ok (.dup, 1) := by decide +kernel
theorem dX2_init_58 : decode cX2_init 58 = .ok (.bipush 10, 2) := by decide +kernel
theorem dX2_init_60 : decode cX2_init 60 = .ok (.invokespecial 23, 3) := by decide +kernel
theorem dX2_init_63 : decode cX2_init 63 = .ok (.putfield 33, 3) := by decide +kernel
theorem dX2_init_66 : decode cX2_init 66 = .ok (.aload_n 0, 1) := by decide +kernel
theorem dX2_init_67 : decode cX2_init 67 = .ok (.new 21, 3) := by decide +kernel
theorem dX2_init_70 : decode cX2_init 70 = .ok (.dup, 1) := by decide +kernel
theorem dX2_init_71 : decode cX2_init 71 = .ok (.sipush 1558, 3) := by decide +kernel
theorem dX2_init_74 : decode cX2_init 74 = .ok (.invokespecial 23, 3) := by decide +kernel
theorem dX2_init_77 : decode cX2_init 77 = .ok (.putfield 36, 3) := by decide +kernel
theorem dX2_init_80 : decode cX2_init 80 = .ok (.return_, 1) := by decide +kernel
theorem dX2_stemCount_0 : decode cX2_stemCount 0 = .ok (.aload_n 0, 1) := by decide +kernel
theorem dX2_stemCount_1 : decode cX2_stemCount 1 = .ok (.getfield 12, 3) := by decide +kernel
theorem dX2_stemCount_4 : decode cX2_stemCount 4 = .ok (.invokeinterface 39 1, 5) := by decide +kernel
theorem dX2_stemCount_9 : decode cX2_stemCount 9 = .ok (.ireturn, 1) := by decide +kernel
theorem dX2_addStem_0 : decode cX2_addStem 0 = .ok (.aload_n 0, 1) := by decide +kernel
theorem dX2_addStem_1 : decode cX2_addStem 1 = .ok (.getfield 12, 3) := by decide +kernel
theorem dX2_addStem_4 : decode cX2_addStem 4 = .ok (.aload_n 1, 1) := by decide +kernel
theorem dX2_addStem_5 : decode cX2_addStem 5 = .ok (.invokeinterface 45 2, 5) := by decide +kernel
theorem dX2_addStem_10 : decode cX2_addStem 10 = .ok (.pop, 1) := by decide +kernel
theorem dX2_addStem_11 : decode cX2_addStem 11 = .ok (.aload_n 0, 1) := by decide +kernel
theorem dX2_addStem_12 : decode cX2_addStem 12 = .ok (.getfield 12, 3) := by decide +kernel
theorem dX2_addStem_15 : decode cX2_addStem 15 = .ok (.invokeinterface 39 1, 5) := by decide +kernel
theorem dX2_addStem_20 : decode cX2_addStem 20 = .ok (.iconst 1, 1) := by decide +kernel
theorem dX2_addStem_21 : decode cX2_addStem 21 = .ok (.isub, 1) := by decide +kernel
theorem dX2_addStem_22 : decode cX2_addStem 22 = .ok (.ireturn, 1) := by decide +kernel
theorem dX2_ruleCount_0 : decode cX2_ruleCount 0 = .ok (.aload_n 0, 1) := by decide +kernel
theorem dX2_ruleCount_1 : decode cX2_ruleCount 1 = .ok (.getfield 18, 3) := by decide +kernel
theorem dX2_ruleCount_4 : decode cX2_ruleCount 4 = .ok (.invokeinterface 39 1, 5) := by decide +kernel
theorem dX2_ruleCount_9 : decode cX2_ruleCount 9 = .ok (.ireturn, 1) := by decide +kernel
theorem dX2_addRule_0 : decode cX2_addRule 0 = .ok (.aload_n 0, 1) := by decide +kernel
theorem dX2_addRule_1 : decode cX2_addRule 1 = .ok (.getfield 18, 3) := by decide +kernel
theorem dX2_addRule_4 : decode cX2_addRule 4 = .ok (.aload_n 1, 1) := by decide +kernel
theorem dX2_addRule_5 : decode cX2_addRule 5 = .ok (.invokeinterface 45 2, 5) := by decide +kernel
theorem dX2_addRule_10 : decode cX2_addRule 10 = .ok (.pop, 1) := by decide +kernel
theorem dX2_addRule_11 : decode cX2_addRule 11 = .ok (.aload_n 0, 1) := by decide +kernel
theorem dX2_addRule_12 : decode cX2_addRule 12 = .ok (.getfield 18, 3) := by decide +kernel
theorem dX2_addRule_15 : decode cX2_addRule 15 = .ok (.invokeinterface 39 1, 5) := by decide +kernel
theorem dX2_addRule_20 : decode cX2_addRule 20 = .ok (.iconst 1, 1) := by decide +kernel
theorem dX2_addRule_21 : decode cX2_addRule 21 = .ok (.isub, 1) := by decide +kernel
theorem dX2_addRule_22 : decode cX2_addRule 22 = .ok (.ireturn, 1) := by decide +kernel
theorem dX2_ruleAt_0 : decode cX2_ruleAt 0 = .ok (.iload_n 1, 1) := by decide +kernel
theorem dX2_ruleAt_1 : decode cX2_ruleAt 1 = .ok (.iconst 0, 1) := by decide +kernel
theorem dX2_ruleAt_2 : decode cX2_ruleAt 2 = .ok (.aload_n 0, 1) := by decide +kernel
theorem dX2_ruleAt_3 : decode cX2_ruleAt 3 = .ok (.getfield 18, 3) := by decide +kernel
theorem dX2_ruleAt_6 : decode cX2_ruleAt 6 = .ok (.invokeinterface 39 1, 5) := by decide +kernel
theorem dX2_ruleAt_11 : decode cX2_ruleAt 11 = .ok (.iconst 1, 1) := by decide +kernel
theorem dX2_ruleAt_12 : decode cX2_ruleAt 12 = .ok (.isub, 1) := by decide +kernel
theorem dX2_ruleAt_13 : decode cX2_ruleAt 13 = .ok (.invokestatic 49, 3) := by decide +kernel
theorem dX2_ruleAt_16 : decode cX2_ruleAt 16 = .ok (.ifCond .eq 19, 3) := by decide +kernel
theorem dX2_ruleAt_19 : decode cX2_ruleAt 19 = .ok (.aload_n 0, 1) := by decide +kernel
theorem dX2_ruleAt_20 : decode cX2_ruleAt 20 = .ok (.getfield 18, 3) := by decide +kernel
theorem dX2_ruleAt_23 : decode cX2_ruleAt 23 = .ok (.iload_n 1, 1) := by decide +kernel
theorem dX2_ruleAt_24 : decode cX2_ruleAt 24 = .ok (.invokeinterface 53 2, 5) := by decide +kernel
theorem dX2_ruleAt_29 : decode cX2_ruleAt 29 = .ok (.checkcast 57, 3) := by decide +kernel
theorem dX2_ruleAt_32 : decode cX2_ruleAt 32 = .ok (.goto 4, 3) := by decide +kernel
theorem dX2_ruleAt_35 : decode cX2_ruleAt 35 = .ok (.aconst_null, 1) := by decide +kernel
theorem dX2_ruleAt_36 : decode cX2_ruleAt 36 = .ok (.areturn, 1) := by decide +kernel
theorem dX2_madeCount_0 : decode cX2_madeCount 0 = .ok (.aload_n 0, 1) := by decide +kernel
theorem dX2_madeCount_1 : decode cX2_madeCount 1 = .ok (.getfield 26, 3) := by decide +kernel
theorem dX2_madeCount_4 : decode cX2_madeCount 4 = .ok (.invokevirtual 59, 3) := by decide +kernel
theorem dX2_madeCount_7 : decode cX2_madeCount 7 = .ok (.ireturn, 1) := by decide +kernel
theorem dX2_ownCount_0 : decode cX2_ownCount 0 = .ok (.aload_n 0, 1) := by decide +kernel
theorem dX2_ownCount_1 : decode cX2_ownCount 1 = .ok (.getfield 30, 3) := by decide +kernel
theorem dX2_ownCount_4 : decode cX2_ownCount 4 = .ok (.invokevirtual 59, 3) := by decide +kernel
theorem dX2_ownCount_7 : decode cX2_ownCount 7 = .ok (.ireturn, 1) := by decide +kernel
theorem dX2_barredCount_0 : decode cX2_barredCount 0 = .ok (.aload_n 0, 1) := by decide +kernel
theorem dX2_barredCount_1 : decode cX2_barredCount 1 = .ok (.getfield 33, 3) := by decide +kernel
theorem dX2_barredCount_4 : decode cX2_barredCount 4 = .ok (.invokevirtual 59, 3) := by decide +kernel
theorem dX2_barredCount_7 : decode cX2_barredCount 7 = .ok (.ireturn, 1) := by decide +kernel
theorem dX2_isBarred_0 : decode cX2_isBarred 0 = .ok (.aload_n 0, 1) := by decide +kernel
theorem dX2_isBarred_1 : decode cX2_isBarred 1 = .ok (.getfield 33, 3) := by decide +kernel
theorem dX2_isBarred_4 : decode cX2_isBarred 4 = .ok (.iload_n 1, 1) := by decide +kernel
theorem dX2_isBarred_5 : decode cX2_isBarred 5 = .ok (.invokevirtual 62, 3) := by decide +kernel
theorem dX2_isBarred_8 : decode cX2_isBarred 8 = .ok (.ifCond .eq 7, 3) := by decide +kernel
theorem dX2_isBarred_11 : decode cX2_isBarred 11 = .ok (.iconst 1, 1) := by decide +kernel
theorem dX2_isBarred_12 : decode cX2_isBarred 12 = .ok (.goto 4, 3) := by decide +kernel
theorem dX2_isBarred_15 : decode cX2_isBarred 15 = .ok (.iconst 0, 1) := by decide +kernel
theorem dX2_isBarred_16 : decode cX2_isBarred 16 = .ok (.ireturn, 1) := by decide +kernel
theorem dX2_hasRoomForOwn_0 : decode cX2_hasRoomForOwn 0 = .ok (.aload_n 0, 1) := by decide +kernel
theorem dX2_hasRoomForOwn_1 : decode cX2_hasRoomForOwn 1 = .ok (.getfield 30, 3) := by decide +kernel
theorem dX2_hasRoomForOwn_4 : decode cX2_hasRoomForOwn 4 = .ok (.iload_n 1, 1) := by decide +kernel
theorem dX2_hasRoomForOwn_5 : decode cX2_hasRoomForOwn 5 = .ok (.invokevirtual 62, 3) := by decide +kernel
theorem dX2_hasRoomForOwn_8 : decode cX2_hasRoomForOwn 8 = .ok (.ifCond .ne 15, 3) := by decide +kernel
theorem dX2_hasRoomForOwn_11 : decode cX2_hasRoomForOwn 11 = .ok (.aload_n 0, 1) := by decide +kernel
theorem dX2_hasRoomForOwn_12 : decode cX2_hasRoomForOwn 12 = .ok (.getfield 30, 3) := by decide +kernel
theorem dX2_hasRoomForOwn_15 : decode cX2_hasRoomForOwn 15 = .ok (.invokevirtual 59, 3) := by decide +kernel
theorem dX2_hasRoomForOwn_18 : decode cX2_hasRoomForOwn 18 = .ok (.bipush 10, 2) := by decide +kernel
theorem dX2_hasRoomForOwn_20 : decode cX2_hasRoomForOwn 20 = .ok (.if_icmp .ge 7, 3) := by decide +kernel
theorem dX2_hasRoomForOwn_23 : decode cX2_hasRoomForOwn 23 = .ok (.iconst 1, 1) := by decide +kernel
theorem dX2_hasRoomForOwn_24 : decode cX2_hasRoomForOwn 24 = .ok (.goto 4, 3) := by decide +kernel
theorem dX2_hasRoomForOwn_27 : decode cX2_hasRoomForOwn 27 = .ok (.iconst 0, 1) := by decide +kernel
theorem dX2_hasRoomForOwn_28 : decode cX2_hasRoomForOwn 28 = .ok (.ireturn, 1) := by decide +kernel
theorem dX2_hasRoomForBarred_0 : decode cX2_hasRoomForBarred 0 = .ok (.aload_n 0, 1) := by decide +kernel
theorem dX2_hasRoomForBarred_1 : decode cX2_hasRoomForBarred 1 = .ok (.getfield 33, 3) := by decide +kernel
theorem dX2_hasRoomForBarred_4 : decode cX2_hasRoomForBarred 4 = .ok (.iload_n 1, 1) := by decide +kernel
theorem dX2_hasRoomForBarred_5 : decode cX2_hasRoomForBarred 5 = .ok (.invokevirtual 62, 3) := by decide +kernel
theorem dX2_hasRoomForBarred_8 : decode cX2_hasRoomForBarred 8 = .ok (.ifCond .ne 15, 3) := by decide +kernel
theorem dX2_hasRoomForBarred_11 : decode cX2_hasRoomForBarred 11 = .ok (.aload_n 0, 1) := by decide +kernel
theorem dX2_hasRoomForBarred_12 : decode cX2_hasRoomForBarred 12 = .ok (.getfield 33, 3) := by decide +kernel
theorem dX2_hasRoomForBarred_15 : decode cX2_hasRoomForBarred 15 = .ok (.invokevirtual 59, 3) := by decide +kernel
theorem dX2_hasRoomForBarred_18 : decode cX2_hasRoomForBarred 18 = .ok (.bipush 10, 2) := by decide +kernel
theorem dX2_hasRoomForBarred_20 : decode cX2_hasRoomForBarred 20 = .ok (.if_icmp .ge 7, 3) := by decide +kernel
theorem dX2_hasRoomForBarred_23 : decode cX2_hasRoomForBarred 23 = .ok (.iconst 1, 1) := by decide +kernel
theorem dX2_hasRoomForBarred_24 : decode cX2_hasRoomForBarred 24 = .ok (.goto 4, 3) := by decide +kernel
theorem dX2_hasRoomForBarred_27 : decode cX2_hasRoomForBarred 27 = .ok (.iconst 0, 1) := by decide +kernel
theorem dX2_hasRoomForBarred_28 : decode cX2_hasRoomForBarred 28 = .ok (.ireturn, 1) := by decide +kernel
theorem dX2_addOwn_0 : decode cX2_addOwn 0 = .ok (.aload_n 0, 1) := by decide +kernel
theorem dX2_addOwn_1 : decode cX2_addOwn 1 = .ok (.getfield 33, 3) := by decide +kernel
theorem dX2_addOwn_4 : decode cX2_addOwn 4 = .ok (.iload_n 1, 1) := by decide +kernel
theorem dX2_addOwn_5 : decode cX2_addOwn 5 = .ok (.invokevirtual 66, 3) := by decide +kernel
theorem dX2_addOwn_8 : decode cX2_addOwn 8 = .ok (.aload_n 0, 1) := by decide +kernel
theorem dX2_addOwn_9 : decode cX2_addOwn 9 = .ok (.getfield 30, 3) := by decide +kernel
theorem dX2_addOwn_12 : decode cX2_addOwn 12 = .ok (.iload_n 1, 1) := by decide +kernel
theorem dX2_addOwn_13 : decode cX2_addOwn 13 = .ok (.iconst 1, 1) := by decide +kernel
theorem dX2_addOwn_14 : decode cX2_addOwn 14 = .ok (.iload_n 2, 1) := by decide +kernel
theorem dX2_addOwn_15 : decode cX2_addOwn 15 = .ok (.ishl, 1) := by decide +kernel
theorem dX2_addOwn_16 : decode cX2_addOwn 16 = .ok (.invokevirtual 69, 3) := by decide +kernel
theorem dX2_addOwn_19 : decode cX2_addOwn 19 = .ok (.aload_n 0, 1) := by decide +kernel
theorem dX2_addOwn_20 : decode cX2_addOwn 20 = .ok (.invokevirtual 73, 3) := by decide +kernel
theorem dX2_addOwn_23 : decode cX2_addOwn 23 = .ok (.return_, 1) := by decide +kernel
theorem dX2_addBarred_0 : decode cX2_addBarred 0 = .ok (.aload_n 0, 1) := by decide +kernel
theorem dX2_addBarred_1 : decode cX2_addBarred 1 = .ok (.getfield 30, 3) := by decide +kernel
theorem dX2_addBarred_4 : decode cX2_addBarred 4 = .ok (.iload_n 1, 1) := by decide +kernel
theorem dX2_addBarred_5 : decode cX2_addBarred 5 = .ok (.invokevirtual 66, 3) := by decide +kernel
theorem dX2_addBarred_8 : decode cX2_addBarred 8 = .ok (.aload_n 0, 1) := by decide +kernel
theorem dX2_addBarred_9 : decode cX2_addBarred 9 = .ok (.getfield 33, 3) := by decide +kernel
theorem dX2_addBarred_12 : decode cX2_addBarred 12 = .ok (.iload_n 1, 1) := by decide +kernel
theorem dX2_addBarred_13 : decode cX2_addBarred 13 = .ok (.iconst 1, 1) := by decide +kernel
theorem dX2_addBarred_14 : decode cX2_addBarred 14 = .ok (.invokevirtual 69, 3) := by decide +kernel
theorem dX2_addBarred_17 : decode cX2_addBarred 17 = .ok (.aload_n 0, 1) := by decide +kernel
theorem dX2_addBarred_18 : decode cX2_addBarred 18 = .ok (.invokevirtual 73, 3) := by decide +kernel
theorem dX2_addBarred_21 : decode cX2_addBarred 21 = .ok (.return_, 1) := by decide +kernel
theorem dX2_suggestable_0 : decode cX2_suggestable 0 = .ok (.aload_n 0, 1) := by decide +kernel
theorem dX2_suggestable_1 : decode cX2_suggestable 1 = .ok (.getfield 36, 3) := by decide +kernel
theorem dX2_suggestable_4 : decode cX2_suggestable 4 = .ok (.areturn, 1) := by decide +kernel
theorem dX2_remake_0 : decode cX2_remake 0 = .ok (.aload_n 0, 1) := by decide +kernel
theorem dX2_remake_1 : decode cX2_remake 1 = .ok (.getfield 26, 3) := by decide +kernel
theorem dX2_remake_4 : decode cX2_remake 4 = .ok (.invokevirtual 76, 3) := by decide +kernel
theorem dX2_remake_7 : decode cX2_remake 7 = .ok (.iconst 0, 1) := by decide +kernel
theorem dX2_remake_8 : decode cX2_remake 8 = .ok (.istore_n 1, 1) := by decide +kernel
theorem dX2_remake_9 : decode cX2_remake 9 = .ok (.iload_n 1, 1) := by decide +kernel
theorem dX2_remake_10 : decode cX2_remake 10 = .ok (.aload_n 0, 1) := by decide +kernel
theorem dX2_remake_11 : decode cX2_remake 11 = .ok (.getfield 12, 3) := by decide +kernel
theorem dX2_remake_14 : decode cX2_remake 14 = .ok (.invokeinterface 39 1, 5) := by decide +kernel
theorem dX2_remake_19 : decode cX2_remake 19 = .ok (.if_icmp .ge 26, 3) := by decide +kernel
theorem dX2_remake_22 : decode cX2_remake 22 = .ok (.aload_n 0, 1) := by decide +kernel
theorem dX2_remake_23 : decode cX2_remake 23 = .ok (.aload_n 0, 1) := by decide +kernel
theorem dX2_remake_24 : decode cX2_remake 24 = .ok (.getfield 12, 3) := by decide +kernel
theorem dX2_remake_27 : decode cX2_remake 27 = .ok (.iload_n 1, 1) := by decide +kernel
theorem dX2_remake_28 : decode cX2_remake 28 = .ok (.invokeinterface 53 2, 5) := by decide +kernel
theorem dX2_remake_33 : decode cX2_remake 33 = .ok (.checkcast 79, 3) := by decide +kernel
theorem dX2_remake_36 : decode cX2_remake 36 = .ok (.invokevirtual 81, 3) := by decide +kernel
theorem dX2_remake_39 : decode cX2_remake 39 = .ok (.iinc 1 1, 3) := by decide +kernel
theorem dX2_remake_42 : decode cX2_remake 42 = .ok (.goto (-33), 3) := by decide +kernel
theorem dX2_remake_45 : decode cX2_remake 45 = .ok (.aload_n 0, 1) := by decide +kernel
theorem dX2_remake_46 : decode cX2_remake 46 = .ok (.invokevirtual 73, 3) := by decide +kernel
theorem dX2_remake_49 : decode cX2_remake 49 = .ok (.return_, 1) := by decide +kernel
theorem dX2_makeOf_0 : decode cX2_makeOf 0 = .ok (.aload_n 0, 1) := by decide +kernel
theorem dX2_makeOf_1 : decode cX2_makeOf 1 = .ok (.aload_n 1, 1) := by decide +kernel
theorem dX2_makeOf_2 : decode cX2_makeOf 2 = .ok (.aload_n 1, 1) := by decide +kernel
theorem dX2_makeOf_3 : decode cX2_makeOf 3 = .ok (.getfield 85, 3) := by decide +kernel
theorem dX2_makeOf_6 : decode cX2_makeOf 6 = .ok (.aload_n 1, 1) := by decide +kernel
theorem dX2_makeOf_7 : decode cX2_makeOf 7 = .ok (.getfield 89, 3) := by decide +kernel
theorem dX2_makeOf_10 : decode cX2_makeOf 10 = .ok (.aload_n 1, 1) := by decide +kernel
theorem dX2_makeOf_11 : decode cX2_makeOf 11 = .ok (.getfield 92, 3) := by decide +kernel
theorem dX2_makeOf_14 : decode cX2_makeOf 14 = .ok (.invokevirtual 95, 3) := by decide +kernel
theorem dX2_makeOf_17 : decode cX2_makeOf 17 = .ok (.iconst 0, 1) := by decide +kernel
theorem dX2_makeOf_18 : decode cX2_makeOf 18 = .ok (.istore_n 2, 1) := by decide +kernel
theorem dX2_makeOf_19 : decode cX2_makeOf 19 = .ok (.iload_n 2, 1) := by decide +kernel
theorem dX2_makeOf_20 : decode cX2_makeOf 20 = .ok (.aload_n 0, 1) := by decide +kernel
theorem dX2_makeOf_21 : decode cX2_makeOf 21 = .ok (.getfield 18, 3) := by decide +kernel
theorem dX2_makeOf_24 : decode cX2_makeOf 24 = .ok (.invokeinterface 39 1, 5) := by decide +kernel
theorem dX2_makeOf_29 : decode cX2_makeOf 29 = .ok (.if_icmp .ge 100, 3) := by decide +kernel
theorem dX2_makeOf_32 : decode cX2_makeOf 32 = .ok (.aload_n 0, 1) := by decide +kernel
theorem dX2_makeOf_33 : decode cX2_makeOf 33 = .ok (.getfield 18, 3) := by decide +kernel
theorem dX2_makeOf_36 : decode cX2_makeOf 36 = .ok (.iload_n 2, 1) := by decide +kernel
theorem dX2_makeOf_37 : decode cX2_makeOf 37 = .ok (.invokeinterface 53 2, 5) := by decide +kernel
theorem dX2_makeOf_42 : decode cX2_makeOf 42 = .ok (.checkcast 57, 3) := by decide +kernel
theorem dX2_makeOf_45 : decode cX2_makeOf 45 = .ok (.astore_n 3, 1) := by decide +kernel
theorem dX2_makeOf_46 : decode cX2_makeOf 46 = .ok (.aload_n 3, 1) := by decide +kernel
theorem dX2_makeOf_47 : decode cX2_makeOf 47 = .ok (.aload_n 1, 1) := by decide +kernel
theorem dX2_makeOf_48 : decode cX2_makeOf 48 = .ok (.getfield 99, 3) := by decide +kernel
theorem dX2_makeOf_51 : decode cX2_makeOf 51 = .ok (.iconst 1, 1) := by decide +kernel
theorem dX2_makeOf_52 : decode cX2_makeOf 52 = .ok (.invokevirtual 102, 3) := by decide +kernel
theorem dX2_makeOf_55 : decode cX2_makeOf 55 = .ok (.ifCond .eq 14, 3) := by decide +kernel
theorem dX2_makeOf_58 : decode cX2_makeOf 58 = .ok (.aload_n 3, 1) := by decide +kernel
theorem dX2_makeOf_59 : decode cX2_makeOf 59 = .ok (.aload_n 1, 1) := by decide +kernel
theorem dX2_makeOf_60 : decode cX2_makeOf 60 = .ok (.getfield 85, 3) := by decide +kernel
theorem dX2_makeOf_63 : decode cX2_makeOf 63 = .ok (.invokevirtual 106, 3) := by decide +kernel
theorem dX2_makeOf_66 : decode cX2_makeOf 66 = .ok (.goto 4, 3) := by decide +kernel
theorem dX2_makeOf_69 : decode cX2_makeOf 69 = .ok (.iconst 0, 1) := by decide +kernel
theorem dX2_makeOf_70 : decode cX2_makeOf 70 = .ok (.istore 4, 2) := by decide +kernel
theorem dX2_makeOf_72 : decode cX2_makeOf 72 = .ok (.iload 4, 2) := by decide +kernel
theorem dX2_makeOf_74 : decode cX2_makeOf 74 = .ok (.ifCond .eq 49, 3) := by decide +kernel
theorem dX2_makeOf_77 : decode cX2_makeOf 77 = .ok (.aload_n 3, 1) := by decide +kernel
theorem dX2_makeOf_78 : decode cX2_makeOf 78 = .ok (.aload_n 1, 1) := by decide +kernel
theorem dX2_makeOf_79 : decode cX2_makeOf 79 = .ok (.getfield 89, 3) := by decide +kernel
theorem dX2_makeOf_82 : decode cX2_makeOf 82 = .ok (.invokevirtual 109, 3) := by decide +kernel
theorem dX2_makeOf_85 : decode cX2_makeOf 85 = .ok (.istore 5, 2) := by decide +kernel
theorem dX2_makeOf_87 : decode cX2_makeOf 87 = .ok (.aload_n 3, 1) := by decide +kernel
theorem dX2_makeOf_88 : decode cX2_makeOf 88 = .ok (.aload_n 1, 1) := by decide +kernel
theorem dX2_makeOf_89 : decode cX2_makeOf 89 = .ok (.getfield 92, 3) := by decide +kernel
theorem dX2_makeOf_92 : decode cX2_makeOf 92 = .ok (.invokevirtual 112, 3) := by decide +kernel
theorem dX2_makeOf_95 : decode cX2_makeOf 95 = .ok (.istore 6, 2) := by decide +kernel
theorem dX2_makeOf_97 : decode cX2_makeOf 97 = .ok (.aload_n 0, 1) := by decide +kernel
theorem dX2_makeOf_98 : decode cX2_makeOf 98 = .ok (.aload_n 1, 1) := by decide +kernel
theorem dX2_makeOf_99 : decode cX2_makeOf 99 = .ok (.iload 4, 2) := by decide +kernel
theorem dX2_makeOf_101 : decode cX2_makeOf 101 = .ok (.iload 5, 2) := by decide +kernel
theorem dX2_makeOf_103 : decode cX2_makeOf 103 = .ok (.iload 6, 2) := by decide +kernel
theorem dX2_makeOf_105 : decode cX2_makeOf 105 = .ok (.invokevirtual 95, 3) := by decide +kernel
theorem dX2_makeOf_108 : decode cX2_makeOf 108 = .ok (.aload_n 0, 1) := by decide +kernel
theorem dX2_makeOf_109 : decode cX2_makeOf 109 = .ok (.aload_n 1, 1) := by decide +kernel
theorem dX2_makeOf_110 : decode cX2_makeOf 110 = .ok (.aload_n 3, 1) := by decide +kernel
theorem dX2_makeOf_111 : decode cX2_makeOf 111 = .ok (.getfield 115, 3) := by decide +kernel
theorem dX2_makeOf_114 : decode cX2_makeOf 114 = .ok (.iload 4, 2) := by decide +kernel
theorem dX2_makeOf_116 : decode cX2_makeOf 116 = .ok (.iload 5, 2) := by decide +kernel
theorem dX2_makeOf_118 : decode cX2_makeOf 118 = .ok (.iload 6, 2) := by decide +kernel
theorem dX2_makeOf_120 : decode cX2_makeOf 120 = .ok (.invokevirtual 118, 3) := by decide +kernel
theorem dX2_makeOf_123 : decode cX2_makeOf 123 = .ok (.iinc 2 1, 3) := by decide +kernel
theorem dX2_makeOf_126 : decode cX2_makeOf 126 = .ok (.goto (-107), 3) := by decide +kernel
theorem dX2_makeOf_129 : decode cX2_makeOf 129 = .ok (.return_, 1) := by decide +kernel
theorem dX2_makeSecondEndings_0 : decode cX2_makeSecondEndings 0 = .ok (.iconst 0, 1) := by decide +kernel
theorem dX2_makeSecondEndings_1 : decode cX2_makeSecondEndings 1 = .ok (.istore 6, 2) := by decide +kernel
theorem dX2_makeSecondEndings_3 : decode cX2_makeSecondEndings 3 = .ok (.iload 6, 2) := by decide +kernel
theorem dX2_makeSecondEndings_5 : decode cX2_makeSecondEndings 5 = .ok (.aload_n 0, 1) := by decide +kernel
theorem dX2_makeSecondEndings_6 : decode cX2_makeSecondEndings 6 = .ok (.getfield 18, 3) := by decide +kernel
theorem dX2_makeSecondEndings_9 : decode cX2_makeSecondEndings 9 = .ok (.invokeinterface 39 1, 5) := by decide +kernel
theorem dX2_makeSecondEndings_14 : decode cX2_makeSecondEndings 14 = .ok (.if_icmp .ge 73, 3) := by decide +kernel
theorem dX2_makeSecondEndings_17 : decode cX2_makeSecondEndings 17 = .ok (.aload_n 0, 1) := by decide +kernel
theorem dX2_makeSecondEndings_18 : decode cX2_makeSecondEndings 18 = .ok (.getfield 18, 3) := by decide +kernel
theorem dX2_makeSecondEndings_21 : decode cX2_makeSecondEndings 21 = .ok (.iload 6, 2) := by decide +kernel
theorem dX2_makeSecondEndings_23 : decode cX2_makeSecondEndings 23 = .ok (.invokeinterface 53 2, 5) := by decide +kernel
theorem dX2_makeSecondEndings_28 : decode cX2_makeSecondEndings 28 = .ok (.checkcast 57, 3) := by decide +kernel
theorem dX2_makeSecondEndings_31 : decode cX2_makeSecondEndings 31 = .ok (.astore 7, 2) := by decide +kernel
theorem dX2_makeSecondEndings_33 : decode cX2_makeSecondEndings 33 = .ok (.aload 7, 2) := by decide +kernel
theorem dX2_makeSecondEndings_35 : decode cX2_makeSecondEndings 35 = .ok (.iload_n 2, 1) := by decide +kernel
theorem dX2_makeSecondEndings_36 : decode cX2_makeSecondEndings 36 = .ok (.iconst 1, 1) := by decide +kernel
theorem dX2_makeSecondEndings_37 : decode cX2_makeSecondEndings 37 = .ok (.invokevirtual 102, 3) := by decide +kernel
theorem dX2_makeSecondEndings_40 : decode cX2_makeSecondEndings 40 = .ok (.ifCond .eq 12, 3) := by decide +kernel
theorem dX2_makeSecondEndings_43 : decode cX2_makeSecondEndings 43 = .ok (.aload 7, 2) := by decide +kernel
theorem dX2_makeSecondEndings_45 : decode cX2_makeSecondEndings 45 = .ok (.iload_n 3, 1) := by decide +kernel
theorem dX2_makeSecondEndings_46 : decode cX2_makeSecondEndings 46 = .ok (.invokevirtual 106, 3) := by decide +kernel
theorem dX2_makeSecondEndings_49 : decode cX2_makeSecondEndings 49 = .ok (.goto 4, 3) := by decide +kernel
theorem dX2_makeSecondEndings_52 : decode cX2_makeSecondEndings 52 = .ok (.iconst 0, 1) := by decide +kernel
theorem dX2_makeSecondEndings_53 : decode cX2_makeSecondEndings 53 = .ok (.istore 8, 2) := by decide +kernel
theorem dX2_makeSecondEndings_55 : decode cX2_makeSecondEndings 55 = .ok (.iload 8, 2) := by decide +kernel
theorem dX2_makeSecondEndings_57 : decode cX2_makeSecondEndings 57 = .ok (.ifCond .eq 24, 3) := by decide +kernel
theorem dX2_makeSecondEndings_60 : decode cX2_makeSecondEndings 60 = .ok (.aload_n 0, 1) := by decide +kernel
theorem dX2_makeSecondEndings_61 : decode cX2_makeSecondEndings 61 = .ok (.aload_n 1, 1) := by decide +kernel
theorem dX2_makeSecondEndings_62 : decode cX2_makeSecondEndings 62 = .ok (.iload 8, 2) := by decide +kernel
theorem dX2_makeSecondEndings_64 : decode cX2_makeSecondEndings 64 = .ok (.aload 7, 2) := by decide +kernel
theorem dX2_makeSecondEndings_66 : decode cX2_makeSecondEndings 66 = .ok (.iload 4, 2) := by decide +kernel
theorem dX2_makeSecondEndings_68 : decode cX2_makeSecondEndings 68 = .ok (.invokevirtual 109, 3) := by decide +kernel
theorem dX2_makeSecondEndings_71 : decode cX2_makeSecondEndings 71 = .ok (.aload 7, 2) := by decide +kernel
theorem dX2_makeSecondEndings_73 : decode cX2_makeSecondEndings 73 = .ok (.iload 5, 2) := by decide +kernel
theorem dX2_makeSecondEndings_75 : decode cX2_makeSecondEndings 75 = .ok (.invokevirtual 112, 3) := by decide +kernel
theorem dX2_makeSecondEndings_78 : decode cX2_makeSecondEndings 78 = .ok (.invokevirtual 95, 3) := by decide +kernel
theorem dX2_makeSecondEndings_81 : decode cX2_makeSecondEndings 81 = .ok (.iinc 6 1, 3) := by decide +kernel
theorem dX2_makeSecondEndings_84 : decode cX2_makeSecondEndings 84 = .ok (.goto (-81), 3) := by decide +kernel
theorem dX2_makeSecondEndings_87 : decode cX2_makeSecondEndings 87 = .ok (.return_, 1) := by decide +kernel
theorem dX2_makeWithBeginnings_0 : decode cX2_makeWithBeginnings 0 = .ok (.aload_n 0, 1) := by decide +kernel
theorem dX2_makeWithBeginnings_1 : decode cX2_makeWithBeginnings 1 = .ok (.getfield 26, 3) := by decide +kernel
theorem dX2_makeWithBeginnings_4 : decode cX2_makeWithBeginnings 4 = .ok (.iload_n 2, 1) := by decide +kernel
theorem dX2_makeWithBeginnings_5 : decode cX2_makeWithBeginnings 5 = .ok (.aload_n 0, 1) := by decide +kernel
theorem dX2_makeWithBeginnings_6 : decode cX2_makeWithBeginnings 6 = .ok (.getfield 26, 3) := by decide +kernel
theorem dX2_makeWithBeginnings_9 : decode cX2_makeWithBeginnings 9 = .ok (.iload_n 2, 1) := by decide +kernel
theorem dX2_makeWithBeginnings_10 : decode cX2_makeWithBeginnings 10 = .ok (.invokevirtual 62, 3) := by decide +kernel
theorem dX2_makeWithBeginnings_13 : decode cX2_makeWithBeginnings 13 = .ok (.aload_n 1, 1) := by decide +kernel
theorem dX2_makeWithBeginnings_14 : decode cX2_makeWithBeginnings 14 = .ok (.iload_n 3, 1) := by decide +kernel
theorem dX2_makeWithBeginnings_15 : decode cX2_makeWithBeginnings 15 = .ok (.iload 4, 2) := by decide +kernel
theorem dX2_makeWithBeginnings_17 : decode cX2_makeWithBeginnings 17 = .ok (.invokevirtual 122, 3) := by decide +kernel
theorem dX2_makeWithBeginnings_20 : decode cX2_makeWithBeginnings 20 = .ok (.ior, 1) := by decide +kernel
theorem dX2_makeWithBeginnings_21 : decode cX2_makeWithBeginnings 21 = .ok (.invokevirtual 69, 3) := by decide +kernel
theorem dX2_makeWithBeginnings_24 : decode cX2_makeWithBeginnings 24 = .ok (.iconst 0, 1) := by decide +kernel
theorem dX2_makeWithBeginnings_25 : decode cX2_makeWithBeginnings 25 = .ok (.istore 5, 2) := by decide +kernel
theorem dX2_makeWithBeginnings_27 : decode cX2_makeWithBeginnings 27 = .ok (.iload 5, 2) := by decide +kernel
theorem dX2_makeWithBeginnings_29 : decode cX2_makeWithBeginnings 29 = .ok (.aload_n 0, 1) := by decide +kernel
theorem dX2_makeWithBeginnings_30 : decode cX2_makeWithBeginnings 30 = .ok (.getfield 18, 3) := by decide +kernel
theorem dX2_makeWithBeginnings_33 : decode cX2_makeWithBeginnings 33 = .ok (.invokeinterface 39 1, 5) := by decide +kernel
theorem dX2_makeWithBeginnings_38 : decode cX2_makeWithBeginnings 38 = .ok (.if_icmp .ge 95, 3) := by decide +kernel
theorem dX2_makeWithBeginnings_41 : decode cX2_makeWithBeginnings 41 = .ok (.aload_n 0, 1) := by decide +kernel
theorem dX2_makeWithBeginnings_42 : decode cX2_makeWithBeginnings 42 = .ok (.getfield 18, 3) := by decide +kernel
theorem dX2_makeWithBeginnings_45 : decode cX2_makeWithBeginnings 45 = .ok (.iload 5, 2) := by decide +kernel
theorem dX2_makeWithBeginnings_47 : decode cX2_makeWithBeginnings 47 = .ok (.invokeinterface 53 2, 5) := by decide +kernel
theorem dX2_makeWithBeginnings_52 : decode cX2_makeWithBeginnings 52 = .ok (.checkcast 57, 3) := by decide +kernel
theorem dX2_makeWithBeginnings_55 : decode cX2_makeWithBeginnings 55 = .ok (.astore 6, 2) := by decide +kernel
theorem dX2_makeWithBeginnings_57 : decode cX2_makeWithBeginnings 57 = .ok (.aload 6, 2) := by decide +kernel
theorem dX2_makeWithBeginnings_59 : decode cX2_makeWithBeginnings 59 = .ok (.aload_n 1, 1) := by decide +kernel
theorem dX2_makeWithBeginnings_60 : decode cX2_makeWithBeginnings 60 = .ok (.getfield 99, 3) := by decide +kernel
theorem dX2_makeWithBeginnings_63 : decode cX2_makeWithBeginnings 63 = .ok (.iconst 0, 1) := by decide +kernel
theorem dX2_makeWithBeginnings_64 : decode cX2_makeWithBeginnings 64 = .ok (.invokevirtual 102, 3) := by decide +kernel
theorem dX2_makeWithBeginnings_67 : decode cX2_makeWithBeginnings 67 = .ok (.ifCond .eq 12, 3) := by decide +kernel
theorem dX2_makeWithBeginnings_70 : decode cX2_makeWithBeginnings 70 = .ok (.aload 6, 2) := by decide +kernel
theorem dX2_makeWithBeginnings_72 : decode cX2_makeWithBeginnings 72 = .ok (.iload_n 2, 1) := by decide +kernel
theorem dX2_makeWithBeginnings_73 : decode cX2_makeWithBeginnings 73 = .ok (.invokevirtual 106, 3) := by decide +kernel
theorem dX2_makeWithBeginnings_76 : decode cX2_makeWithBeginnings 76 = .ok (.goto 4, 3) := by decide +kernel
theorem dX2_makeWithBeginnings_79 : decode cX2_makeWithBeginnings 79 = .ok (.iconst 0, 1) := by decide +kernel
theorem dX2_makeWithBeginnings_80 : decode cX2_makeWithBeginnings 80 = .ok (.istore 7, 2) := by decide +kernel
theorem dX2_makeWithBeginnings_82 : decode cX2_makeWithBeginnings 82 = .ok (.iload 7, 2) := by decide +kernel
theorem dX2_makeWithBeginnings_84 : decode cX2_makeWithBeginnings 84 = .ok (.ifCond .eq 43, 3) := by decide +kernel
theorem dX2_makeWithBeginnings_87 : decode cX2_makeWithBeginnings 87 = .ok (.aload_n 1, 1) := by decide +kernel
theorem dX2_makeWithBeginnings_88 : decode cX2_makeWithBeginnings 88 = .ok (.aload 6, 2) := by decide +kernel
theorem dX2_makeWithBeginnings_90 : decode cX2_makeWithBeginnings 90 = .ok (.iload_n 3, 1) := by decide +kernel
theorem dX2_makeWithBeginnings_91 : decode cX2_makeWithBeginnings 91 = .ok (.invokevirtual 109, 3) := by decide +kernel
theorem dX2_makeWithBeginnings_94 : decode cX2_makeWithBeginnings 94 = .ok (.aload 6, 2) := by decide +kernel
theorem dX2_makeWithBeginnings_96 : decode cX2_makeWithBeginnings 96 = .ok (.iload 4, 2) := by decide +kernel
theorem dX2_makeWithBeginnings_98 : decode cX2_makeWithBeginnings 98 = .ok (.invokevirtual 112, 3) := by decide +kernel
theorem dX2_makeWithBeginnings_101 : decode cX2_makeWithBeginnings 101 = .ok (.invokevirtual 122, 3) := by decide +kernel
theorem dX2_makeWithBeginnings_104 : decode cX2_makeWithBeginnings 104 = .ok (.istore 8, 2) := by decide +kernel
theorem dX2_makeWithBeginnings_106 : decode cX2_makeWithBeginnings 106 = .ok (.aload_n 0, 1) := by decide +kernel
theorem dX2_makeWithBeginnings_107 : decode cX2_makeWithBeginnings 107 = .ok (.getfield 26, 3) := by decide +kernel
theorem dX2_makeWithBeginnings_110 : decode cX2_makeWithBeginnings 110 = .ok (.iload 7, 2) := by decide +kernel
theorem dX2_makeWithBeginnings_112 : decode cX2_makeWithBeginnings 112 = .ok (.aload_n 0, 1) := by decide +kernel
theorem dX2_makeWithBeginnings_113 : decode cX2_makeWithBeginnings 113 = .ok (.getfield 26, 3) := by decide +kernel
theorem dX2_makeWithBeginnings_116 : decode cX2_makeWithBeginnings 116 = .ok (.iload 7, 2) := by decide +kernel
theorem dX2_makeWithBeginnings_118 : decode cX2_makeWithBeginnings 118 = .ok (.invokevirtual 62, 3) := by decide +kernel
theorem dX2_makeWithBeginnings_121 : decode cX2_makeWithBeginnings 121 = .ok (.iload 8, 2) := by decide +kernel
theorem dX2_makeWithBeginnings_123 : decode cX2_makeWithBeginnings 123 = .ok (.ior, 1) := by decide +kernel
theorem dX2_makeWithBeginnings_124 : decode cX2_makeWithBeginnings 124 = .ok (.invokevirtual 69, 3) := by decide +kernel
theorem dX2_makeWithBeginnings_127 : decode cX2_makeWithBeginnings 127 = .ok (.iinc 5 1, 3) := by decide +kernel
theorem dX2_makeWithBeginnings_130 : decode cX2_makeWithBeginnings 130 = .ok (.goto (-103), 3) := by decide +kernel
theorem dX2_makeWithBeginnings_133 : decode cX2_makeWithBeginnings 133 = .ok (.return_, 1) := by decide +kernel
theorem dX2_listSuggestable_0 : decode cX2_listSuggestable 0 = .ok (.aload_n 0, 1) := by decide +kernel
theorem dX2_listSuggestable_1 : decode cX2_listSuggestable 1 = .ok (.getfield 36, 3) := by decide +kernel
theorem dX2_listSuggestable_4 : decode cX2_listSuggestable 4 = .ok (.invokevirtual 76, 3) := by decide +kernel
theorem dX2_listSuggestable_7 : decode cX2_listSuggestable 7 = .ok (.iconst 0, 1) := by decide +kernel
theorem dX2_listSuggestable_8 : decode cX2_listSuggestable 8 = .ok (.istore_n 1, 1) := by decide +kernel
theorem dX2_listSuggestable_9 : decode cX2_listSuggestable 9 = .ok (.iload_n 1, 1) := by decide +kernel
theorem dX2_listSuggestable_10 : decode cX2_listSuggestable 10 = .ok (.aload_n 0, 1) := by decide +kernel
theorem dX2_listSuggestable_11 : decode cX2_listSuggestable 11 = .ok (.getfield 26, 3) := by decide +kernel
theorem dX2_listSuggestable_14 : decode cX2_listSuggestable 14 = .ok (.invokevirtual 59, 3) := by decide +kernel
theorem dX2_listSuggestable_17 : decode cX2_listSuggestable 17 = .ok (.if_icmp .ge 49, 3) := by decide +kernel
theorem dX2_listSuggestable_20 : decode cX2_listSuggestable 20 = .ok (.aload_n 0, 1) := by decide +kernel
theorem dX2_listSuggestable_21 : decode cX2_listSuggestable 21 = .ok (.getfield 26, 3) := by decide +kernel
theorem dX2_listSuggestable_24 : decode cX2_listSuggestable 24 = .ok (.iload_n 1, 1) := by decide +kernel
theorem dX2_listSuggestable_25 : decode cX2_listSuggestable 25 = .ok (.invokevirtual 126, 3) := by decide +kernel
theorem dX2_listSuggestable_28 : decode cX2_listSuggestable 28 = .ok (.istore_n 2, 1) := by decide +kernel
theorem dX2_listSuggestable_29 : decode cX2_listSuggestable 29 = .ok (.aload_n 0, 1) := by decide +kernel
theorem dX2_listSuggestable_30 : decode cX2_listSuggestable 30 = .ok (.getfield 26, 3) := by decide +kernel
theorem dX2_listSuggestable_33 : decode cX2_listSuggestable 33 = .ok (.iload_n 1, 1) := by decide +kernel
theorem dX2_listSuggestable_34 : decode cX2_listSuggestable 34 = .ok (.invokevirtual 129, 3) := by decide +kernel
theorem dX2_listSuggestable_37 : decode cX2_listSuggestable 37 = .ok (.ldc 132, 2) := by decide +kernel
theorem dX2_listSuggestable_39 : decode cX2_listSuggestable 39 = .ok (.iand, 1) := by decide +kernel
theorem dX2_listSuggestable_40 : decode cX2_listSuggestable 40 = .ok (.ifCond .eq 20, 3) := by decide +kernel
theorem dX2_listSuggestable_43 : decode cX2_listSuggestable 43 = .ok (.aload_n 0, 1) := by decide +kernel
theorem dX2_listSuggestable_44 : decode cX2_listSuggestable 44 = .ok (.iload_n 2, 1) := by decide +kernel
theorem dX2_listSuggestable_45 : decode cX2_listSuggestable 45 = .ok (.invokevirtual 133, 3) := by decide +kernel
theorem dX2_listSuggestable_48 : decode cX2_listSuggestable 48 = .ok (.ifCond .ne 12, 3) := by decide +kernel
theorem dX2_listSuggestable_51 : decode cX2_listSuggestable 51 = .ok (.aload_n 0, 1) := by decide +kernel
theorem dX2_listSuggestable_52 : decode cX2_listSuggestable 52 = .ok (.getfield 36, 3) := by decide +kernel
theorem dX2_listSuggestable_55 : decode cX2_listSuggestable 55 = .ok (.iload_n 2, 1) := by decide +kernel
theorem dX2_listSuggestable_56 : decode cX2_listSuggestable 56 = .ok (.iconst 1, 1) := by decide +kernel
theorem dX2_listSuggestable_57 : decode cX2_listSuggestable 57 = .ok (.invokevirtual 69, 3) := by decide +kernel
theorem dX2_listSuggestable_60 : decode cX2_listSuggestable 60 = .ok (.iinc 1 1, 3) := by decide +kernel
theorem dX2_listSuggestable_63 : decode cX2_listSuggestable 63 = .ok (.goto (-54), 3) := by decide +kernel
theorem dX2_listSuggestable_66 : decode cX2_listSuggestable 66 = .ok (.iconst 0, 1) := by decide +kernel
theorem dX2_listSuggestable_67 : decode cX2_listSuggestable 67 = .ok (.istore_n 1, 1) := by decide +kernel
theorem dX2_listSuggestable_68 : decode cX2_listSuggestable 68 = .ok (.iload_n 1, 1) := by decide +kernel
theorem dX2_listSuggestable_69 : decode cX2_listSuggestable 69 = .ok (.aload_n 0, 1) := by decide +kernel
theorem dX2_listSuggestable_70 : decode cX2_listSuggestable 70 = .ok (.getfield 30, 3) := by decide +kernel
theorem dX2_listSuggestable_73 : decode cX2_listSuggestable 73 = .ok (.invokevirtual 59, 3) := by decide +kernel
theorem dX2_listSuggestable_76 : decode cX2_listSuggestable 76 = .ok (.if_icmp .ge 25, 3) := by decide +kernel
theorem dX2_listSuggestable_79 : decode cX2_listSuggestable 79 = .ok (.aload_n 0, 1) := by decide +kernel
theorem dX2_listSuggestable_80 : decode cX2_listSuggestable 80 = .ok (.getfield 36, 3) := by decide +kernel
theorem dX2_listSuggestable_83 : decode cX2_listSuggestable 83 = .ok (.aload_n 0, 1) := by decide +kernel
theorem dX2_listSuggestable_84 : decode cX2_listSuggestable 84 = .ok (.getfield 30, 3) := by decide +kernel
theorem dX2_listSuggestable_87 : decode cX2_listSuggestable 87 = .ok (.iload_n 1, 1) := by decide +kernel
theorem dX2_listSuggestable_88 : decode cX2_listSuggestable 88 = .ok (.invokevirtual 126, 3) := by decide +kernel
theorem dX2_listSuggestable_91 : decode cX2_listSuggestable 91 = .ok (.iconst 1, 1) := by decide +kernel
theorem dX2_listSuggestable_92 : decode cX2_listSuggestable 92 = .ok (.invokevirtual 69, 3) := by decide +kernel
theorem dX2_listSuggestable_95 : decode cX2_listSuggestable 95 = .ok (.iinc 1 1, 3) := by decide +kernel
theorem dX2_listSuggestable_98 : decode cX2_listSuggestable 98 = .ok (.goto (-30), 3) := by decide +kernel
theorem dX2_listSuggestable_101 : decode cX2_listSuggestable 101 = .ok (.return_, 1) := by decide +kernel
theorem dX2_readingsOf_0 : decode cX2_readingsOf 0 = .ok (.iload_n 1, 1) := by decide +kernel
theorem dX2_readingsOf_1 : decode cX2_readingsOf 1 = .ok (.ifCond .eq 11, 3) := by decide +kernel
theorem dX2_readingsOf_4 : decode cX2_readingsOf 4 = .ok (.aload_n 0, 1) := by decide +kernel
theorem dX2_readingsOf_5 : decode cX2_readingsOf 5 = .ok (.iload_n 1, 1) := by decide +kernel
theorem dX2_readingsOf_6 : decode cX2_readingsOf 6 = .ok (.invokevirtual 133, 3) := by decide +kernel
theorem dX2_readingsOf_9 : decode cX2_readingsOf 9 = .ok (.ifCond .eq 5, 3) := by decide +kernel
theorem dX2_readingsOf_12 : decode cX2_readingsOf 12 = .ok (.iconst 0, 1) := by decide +kernel
theorem dX2_readingsOf_13 : decode cX2_readingsOf 13 = .ok (.ireturn, 1) := by decide +kernel
theorem dX2_readingsOf_14 : decode cX2_readingsOf 14 = .ok (.aload_n 0, 1) := by decide +kernel
theorem dX2_readingsOf_15 : decode cX2_readingsOf 15 = .ok (.getfield 30, 3) := by decide +kernel
theorem dX2_readingsOf_18 : decode cX2_readingsOf 18 = .ok (.iload_n 1, 1) := by decide +kernel
theorem dX2_readingsOf_19 : decode cX2_readingsOf 19 = .ok (.invokevirtual 62, 3) := by decide +kernel
theorem dX2_readingsOf_22 : decode cX2_readingsOf 22 = .ok (.aload_n 0, 1) := by decide +kernel
theorem dX2_readingsOf_23 : decode cX2_readingsOf 23 = .ok (.getfield 26, 3) := by decide +kernel
theorem dX2_readingsOf_26 : decode cX2_readingsOf 26 = .ok (.iload_n 1, 1) := by decide +kernel
theorem dX2_readingsOf_27 : decode cX2_readingsOf 27 = .ok (.invokevirtual 62, 3) := by decide +kernel
theorem dX2_readingsOf_30 : decode cX2_readingsOf 30 = .ok (.sipush 255, 3) := by decide +kernel
theorem dX2_readingsOf_33 : decode cX2_readingsOf 33 = .ok (.iand, 1) := by decide +kernel
theorem dX2_readingsOf_34 : decode cX2_readingsOf 34 = .ok (.ior, 1) := by decide +kernel
theorem dX2_readingsOf_35 : decode cX2_readingsOf 35 = .ok (.aload_n 0, 1) := by decide +kernel
theorem dX2_readingsOf_36 : decode cX2_readingsOf 36 = .ok (.iload_n 1, 1) := by decide +kernel
theorem dX2_readingsOf_37 : decode cX2_readingsOf 37 = .ok (.invokevirtual 137, 3) := by decide +kernel
theorem dX2_readingsOf_40 : decode cX2_readingsOf 40 = .ok (.ior, 1) := by decide +kernel
theorem dX2_readingsOf_41 : decode cX2_readingsOf 41 = .ok (.ireturn, 1) := by decide +kernel
theorem dX2_readingsAsJoin_0 : decode cX2_readingsAsJoin 0 = .ok (.iload_n 1, 1) := by decide +kernel
theorem dX2_readingsAsJoin_1 : decode cX2_readingsAsJoin 1 = .ok (.invokestatic 140, 3) := by decide +kernel
theorem dX2_readingsAsJoin_4 : decode cX2_readingsAsJoin 4 = .ok (.istore_n 2, 1) := by decide +kernel
theorem dX2_readingsAsJoin_5 : decode cX2_readingsAsJoin 5 = .ok (.iconst 0, 1) := by decide +kernel
theorem dX2_readingsAsJoin_6 : decode cX2_readingsAsJoin 6 = .ok (.istore_n 3, 1) := by decide +kernel
theorem dX2_readingsAsJoin_7 : decode cX2_readingsAsJoin 7 = .ok (.iconst 2, 1) := by decide +kernel
theorem dX2_readingsAsJoin_8 : decode cX2_readingsAsJoin 8 = .ok (.istore 4, 2) := by decide +kernel
theorem dX2_readingsAsJoin_10 : decode cX2_readingsAsJoin 10 = .ok (.iload 4, 2) := by decide +kernel
theorem dX2_readingsAsJoin_12 : decode cX2_readingsAsJoin 12 = .ok (.iload_n 2, 1) := by decide +kernel
theorem dX2_readingsAsJoin_13 : decode cX2_readingsAsJoin 13 = .ok (.iconst 2, 1) := by decide +kernel
theorem dX2_readingsAsJoin_14 : decode cX2_readingsAsJoin 14 = .ok (.isub, 1) := by decide +kernel
theorem dX2_readingsAsJoin_15 : decode cX2_readingsAsJoin 15 = .ok (.if_icmp .gt 94, 3) := by decide +kernel
theorem dX2_readingsAsJoin_18 : decode cX2_readingsAsJoin 18 = .ok (.aload_n 0, 1) := by decide +kernel
theorem dX2_readingsAsJoin_19 : decode cX2_readingsAsJoin 19 = .ok (.iload_n 1, 1) := by decide +kernel
theorem dX2_readingsAsJoin_20 : decode cX2_readingsAsJoin 20 = .ok (.iload 4, 2) := by decide +kernel
theorem dX2_readingsAsJoin_22 : decode cX2_readingsAsJoin 22 = .ok (.invokevirtual 143, 3) := by decide +kernel
theorem dX2_readingsAsJoin_25 : decode cX2_readingsAsJoin 25 = .ok (.ifCond .eq 78, 3) := by decide +kernel
theorem dX2_readingsAsJoin_28 : decode cX2_readingsAsJoin 28 = .ok (.aload_n 0, 1) := by decide +kernel
theorem dX2_readingsAsJoin_29 : decode cX2_readingsAsJoin 29 = .ok (.iload_n 1, 1) := by decide +kernel
theorem dX2_readingsAsJoin_30 : decode cX2_readingsAsJoin 30 = .ok (.iconst 0, 1) := by decide +kernel
theorem dX2_readingsAsJoin_31 : decode cX2_readingsAsJoin 31 = .ok (.iload 4, 2) := by decide +kernel
theorem dX2_readingsAsJoin_33 : decode cX2_readingsAsJoin 33 = .ok (.invokevirtual 147, 3) := by decide +kernel
theorem dX2_readingsAsJoin_36 : decode cX2_readingsAsJoin 36 = .ok (.ifCond .eq 67, 3) := by decide +kernel
theorem dX2_readingsAsJoin_39 : decode cX2_readingsAsJoin 39 = .ok (.iload_n 3, 1) := by decide +kernel
theorem dX2_readingsAsJoin_40 : decode cX2_readingsAsJoin 40 = .ok (.aload_n 0, 1) := by decide +kernel
theorem dX2_readingsAsJoin_41 : decode cX2_readingsAsJoin 41 = .ok (.iload_n 1, 1) := by decide +kernel
theorem dX2_readingsAsJoin_42 : decode cX2_readingsAsJoin 42 = .ok (.iload 4, 2) := by decide +kernel
theorem dX2_readingsAsJoin_44 : decode cX2_readingsAsJoin 44 = .ok (.iload_n 2, 1) := by decide +kernel
theorem dX2_readingsAsJoin_45 : decode cX2_readingsAsJoin 45 = .ok (.invokevirtual 147, 3) := by decide +kernel
theorem dX2_readingsAsJoin_48 : decode cX2_readingsAsJoin 48 = .ok (.ior, 1) := by decide +kernel
theorem dX2_readingsAsJoin_49 : decode cX2_readingsAsJoin 49 = .ok (.istore_n 3, 1) := by decide +kernel
theorem dX2_readingsAsJoin_50 : decode cX2_readingsAsJoin 50 = .ok (.iload 4, 2) := by decide +kernel
theorem dX2_readingsAsJoin_52 : decode cX2_readingsAsJoin 52 = .ok (.iconst 2, 1) := by decide +kernel
theorem dX2_readingsAsJoin_53 : decode cX2_readingsAsJoin 53 = .ok (.iadd, 1) := by decide +kernel
theorem dX2_readingsAsJoin_54 : decode cX2_readingsAsJoin 54 = .ok (.istore 5, 2) := by decide +kernel
theorem dX2_readingsAsJoin_56 : decode cX2_readingsAsJoin 56 = .ok (.iload 5, 2) := by decide +kernel
theorem dX2_readingsAsJoin_58 : decode cX2_readingsAsJoin 58 = .ok (.iload_n 2, 1) := by decide +kernel
theorem dX2_readingsAsJoin_59 : decode cX2_readingsAsJoin 59 = .ok (.iconst 2, 1) := by decide +kernel
theorem dX2_readingsAsJoin_60 : decode cX2_readingsAsJoin 60 = .ok (.isub, 1) := by decide +kernel
theorem dX2_readingsAsJoin_61 : decode cX2_readingsAsJoin 61 = .ok (.if_icmp .gt 42, 3) := by decide +kernel
theorem dX2_readingsAsJoin_64 : decode cX2_readingsAsJoin 64 = .ok (.aload_n 0, 1) := by decide +kernel
theorem dX2_readingsAsJoin_65 : decode cX2_readingsAsJoin 65 = .ok (.iload_n 1, 1) := by decide +kernel
theorem dX2_readingsAsJoin_66 : decode cX2_readingsAsJoin 66 = .ok (.iload 5, 2) := by decide +kernel
theorem dX2_readingsAsJoin_68 : decode cX2_readingsAsJoin 68 = .ok (.invokevirtual 143, 3) := by decide +kernel
theorem dX2_readingsAsJoin_71 : decode cX2_readingsAsJoin 71 = .ok (.ifCond .eq 26, 3) := by decide +kernel
theorem dX2_readingsAsJoin_74 : decode cX2_readingsAsJoin 74 = .ok (.aload_n 0, 1) := by decide +kernel
theorem dX2_readingsAsJoin_75 : decode cX2_readingsAsJoin 75 = .ok (.iload_n 1, 1) := by decide +kernel
theorem dX2_readingsAsJoin_76 : decode cX2_readingsAsJoin 76 = .ok (.iload 4, 2) := by decide +kernel
theorem dX2_readingsAsJoin_78 : decode cX2_readingsAsJoin 78 = .ok (.iload 5, 2) := by decide +kernel
theorem dX2_readingsAsJoin_80 : decode cX2_readingsAsJoin 80 = .ok (.invokevirtual 147, 3) := by decide +kernel
theorem dX2_readingsAsJoin_83 : decode cX2_readingsAsJoin 83 = .ok (.ifCond .eq 14, 3) := by decide +kernel
theorem dX2_readingsAsJoin_86 : decode cX2_readingsAsJoin 86 = .ok (.iload_n 3, 1) := by decide +kernel
theorem dX2_readingsAsJoin_87 : decode cX2_readingsAsJoin 87 = .ok (.aload_n 0, 1) := by decide +kernel
theorem dX2_readingsAsJoin_88 : decode cX2_readingsAsJoin 88 = .ok (.iload_n 1, 1) := by decide +kernel
theorem dX2_readingsAsJoin_89 : decode cX2_readingsAsJoin 89 = .ok (.iload 5, 2) := by decide +kernel
theorem dX2_readingsAsJoin_91 : decode cX2_readingsAsJoin 91 = .ok (.iload_n 2, 1) := by decide +kernel
theorem dX2_readingsAsJoin_92 : decode cX2_readingsAsJoin 92 = .ok (.invokevirtual 147, 3) := by decide +kernel
theorem dX2_readingsAsJoin_95 : decode cX2_readingsAsJoin 95 = .ok (.ior, 1) := by decide +kernel
theorem dX2_readingsAsJoin_96 : decode cX2_readingsAsJoin 96 = .ok (.istore_n 3, 1) := by decide +kernel
theorem dX2_readingsAsJoin_97 : decode cX2_readingsAsJoin 97 = .ok (.iinc 5 1, 3) := by decide +kernel
theorem dX2_readingsAsJoin_100 : decode cX2_readingsAsJoin 100 = .ok (.goto (-44), 3) := by decide +kernel
theorem dX2_readingsAsJoin_103 : decode cX2_readingsAsJoin 103 = .ok (.iinc 4 1, 3) := by decide +kernel
theorem dX2_readingsAsJoin_106 : decode cX2_readingsAsJoin 106 = .ok (.goto (-96), 3) := by decide +kernel
theorem dX2_readingsAsJoin_109 : decode cX2_readingsAsJoin 109 = .ok (.iload_n 3, 1) := by decide +kernel
theorem dX2_readingsAsJoin_110 : decode cX2_readingsAsJoin 110 = .ok (.ireturn, 1) := by decide +kernel
theorem dX2_canBeBorder_0 : decode cX2_canBeBorder 0 = .ok (.iload_n 1, 1) := by decide +kernel
theorem dX2_canBeBorder_1 : decode cX2_canBeBorder 1 = .ok (.iload_n 2, 1) := by decide +kernel
theorem dX2_canBeBorder_2 : decode cX2_canBeBorder 2 = .ok (.iconst 1, 1) := by decide +kernel
theorem dX2_canBeBorder_3 : decode cX2_canBeBorder 3 = .ok (.isub, 1) := by decide +kernel
theorem dX2_canBeBorder_4 : decode cX2_canBeBorder 4 = .ok (.invokestatic 151, 3) := by decide +kernel
theorem dX2_canBeBorder_7 : decode cX2_canBeBorder 7 = .ok (.iload_n 1, 1) := by decide +kernel
theorem dX2_canBeBorder_8 : decode cX2_canBeBorder 8 = .ok (.iload_n 2, 1) := by decide +kernel
theorem dX2_canBeBorder_9 : decode cX2_canBeBorder 9 = .ok (.invokestatic 151, 3) := by decide +kernel
theorem dX2_canBeBorder_12 : decode cX2_canBeBorder 12 = .ok (.if_icmp .eq 7, 3) := by decide +kernel
theorem dX2_canBeBorder_15 : decode cX2_canBeBorder 15 = .ok (.iconst 1, 1) := by decide +kernel
theorem dX2_canBeBorder_16 : decode cX2_canBeBorder 16 = .ok (.goto 4, 3) := by decide +kernel
theorem dX2_canBeBorder_19 : decode cX2_canBeBorder 19 = .ok (.iconst 0, 1) := by decide +kernel
theorem dX2_canBeBorder_20 : decode cX2_canBeBorder 20 = .ok (.ireturn, 1) := by decide +kernel
theorem dX2_readingsInJoin_0 : decode cX2_readingsInJoin 0 = .ok (.aload_n 0, 1) := by decide +kernel
theorem dX2_readingsInJoin_1 : decode cX2_readingsInJoin 1 = .ok (.getfield 26, 3) := by decide +kernel
theorem dX2_readingsInJoin_4 : decode cX2_readingsInJoin 4 = .ok (.iload_n 1, 1) := by decide +kernel
theorem dX2_readingsInJoin_5 : decode cX2_readingsInJoin 5 = .ok (.iload_n 2, 1) := by decide +kernel
theorem dX2_readingsInJoin_6 : decode cX2_readingsInJoin 6 = .ok (.iload_n 3, 1) := by decide +kernel
theorem dX2_readingsInJoin_7 : decode cX2_readingsInJoin 7 = .ok (.invokestatic 154, 3) := by decide +kernel
theorem dX2_readingsInJoin_10 : decode cX2_readingsInJoin 10 = .ok (.invokevirtual 62, 3) := by decide +kernel
theorem dX2_readingsInJoin_13 : decode cX2_readingsInJoin 13 = .ok (.bipush 8, 2) := by decide +kernel
theorem dX2_readingsInJoin_15 : decode cX2_readingsInJoin 15 = .ok (.ishr, 1) := by decide +kernel
theorem dX2_readingsInJoin_16 : decode cX2_readingsInJoin 16 = .ok (.sipush 255, 3) := by decide +kernel
theorem dX2_readingsInJoin_19 : decode cX2_readingsInJoin 19 = .ok (.iand, 1) := by decide +kernel
theorem dX2_readingsInJoin_20 : decode cX2_readingsInJoin 20 = .ok (.ireturn, 1) := by decide +kernel
theorem dX3_init_0 : decode cX3_init 0 = .ok (.aload_n 0, 1) := by decide +kernel
theorem dX3_init_1 : decode cX3_init 1 = .ok (.invokespecial 3, 3) := by decide +kernel
theorem dX3_init_4 : decode cX3_init 4 = .ok (.aload_n 0, 1) := by decide +kernel
theorem dX3_init_5 : decode cX3_init 5 = .ok (.new 9, 3) := by decide +kernel
theorem dX3_init_8 : decode cX3_init 8 = .ok (.dup, 1) := by decide +kernel
theorem dX3_init_9 : decode cX3_init 9 = .ok (.bipush 50, 2) := by decide +kernel
theorem dX3_init_11 : decode cX3_init 11 = .ok (.invokespecial 11, 3) := by decide +kernel
theorem dX3_init_14 : decode cX3_init 14 = .ok (.putfield 14, 3) := by decide +kernel
theorem dX3_init_17 : decode cX3_init 17 = .ok (.aload_n 0, 1) := by decide +kernel
theorem dX3_init_18 : decode cX3_init 18 = .ok (.new 9, 3) := by decide +kernel
theorem dX3_init_21 : decode cX3_init 21 = .ok (.dup, 1) := by decide +kernel
theorem dX3_init_22 : decode cX3_init 22 = .ok (.bipush 50, 2) := by decide +kernel
theorem dX3_init_24 : decode cX3_init 24 = .ok (.invokespecial 11, 3) := by decide +kernel
theorem dX3_init_27 : decode cX3_init 27 = .ok (.putfield 20, 3) := by decide +kernel
theorem dX3_init_30 : decode cX3_init 30 = .ok (.aload_n 0, 1) := by decide +kernel
theorem dX3_init_31 : decode cX3_init 31 = .ok (.new 9, 3) := by decide +kernel
theorem dX3_init_34 : decode cX3_init 34 = .ok (.dup, 1) := by decide +kernel
theorem dX3_init_35 : decode cX3_init 35 = .ok (.bipush 50, 2) := by decide +kernel
theorem dX3_init_37 : decode cX3_init 37 = .ok (.invokespecial 11, 3) := by decide +kernel
theorem dX3_init_40 : decode cX3_init 40 = .ok (.putfield 23, 3) := by decide +kernel
theorem dX3_init_43 : decode cX3_init 43 = .ok (.aload_n 0, 1) := by decide +kernel
theorem dX3_init_44 : decode cX3_init 44 = .ok (.new 9, 3) := by decide +kernel
theorem dX3_init_47 : decode cX3_init 47 = .ok (.dup, 1) := by decide +kernel
theorem dX3_init_48 : decode cX3_init 48 = .ok (.bipush 50, 2) := by decide +kernel
theorem dX3_init_50 : decode cX3_init 50 = .ok (.invokespecial 11, 3) := by decide +kernel
theorem dX3_init_53 : decode cX3_init 53 = .ok (.putfield 26, 3) := by decide +kernel
theorem dX3_init_56 : decode cX3_init 56 = .ok (.aload_n 0, 1) := by decide +kernel
theorem dX3_init_57 : decode cX3_init 57 = .ok (.new 9, 3) := by decide +kernel
theorem dX3_init_60 : decode cX3_init 60 = .ok (.dup, 1) := by decide +kernel
theorem dX3_init_61 : decode cX3_init 61 = .ok (.bipush 100, 2) := by decide +kernel
theorem dX3_init_63 : decode cX3_init 63 = .ok (.invokespecial 11, 3) := by decide +kernel
theorem dX3_init_66 : decode cX3_init 66 = .ok (.putfield 29, 3) := by decide +kernel
theorem dX3_init_69 : decode cX3_init 69 = .ok (.aload_n 0, 1) := by decide +kernel
theorem dX3_init_70 : decode cX3_init 70 = .ok (.new 9, 3) := by decide +kernel
theorem dX3_init_73 : decode cX3_init 73 = .ok (.dup, 1) := by decide +kernel
theorem dX3_init_74 : decode cX3_init 74 = .ok (.bipush 100, 2) := by decide +kernel
theorem dX3_init_76 : decode cX3_init 76 = .ok (.invokespecial 11, 3) := by decide +kernel
theorem dX3_init_79 : decode cX3_init 79 = .ok (.putfield 32, 3) := by decide +kernel
theorem dX3_init_82 : decode cX3_init 82 = .ok (.return_, 1) := by decide +kernel
theorem dX3_isSpelledRight_0 : decode cX3_isSpelledRight 0 = .ok (.aload_n 0, 1) := by decide +kernel
theorem dX3_isSpelledRight_1 : decode cX3_isSpelledRight 1 = .ok (.getfield 14, 3) := by decide +kernel
theorem dX3_isSpelledRight_4 : decode cX3_isSpelledRight 4 = .ok (.iload_n 1, 1) := by decide +kernel
theorem dX3_isSpelledRight_5 : decode cX3_isSpelledRight 5 = .ok (.invokevirtual 35, 3) := by decide +kernel
theorem dX3_isSpelledRight_8 : decode cX3_isSpelledRight 8 = .ok (.ifCond .eq 7, 3) := by decide +kernel
theorem dX3_isSpelledRight_11 : decode cX3_isSpelledRight 11 = .ok (.iconst 1, 1) := by decide +kernel
theorem dX3_isSpelledRight_12 : decode cX3_isSpelledRight 12 = .ok (.goto 4, 3) := by decide +kernel
theorem dX3_isSpelledRight_15 : decode cX3_isSpelledRight 15 = .ok (.iconst 0, 1) := by decide +kernel
theorem dX3_isSpelledRight_16 : decode cX3_isSpelledRight 16 = .ok (.ireturn, 1) := by decide +kernel
theorem dX3_readingSet_0 : decode cX3_readingSet 0 = .ok (.aload_n 0, 1) := by decide +kernel
theorem dX3_readingSet_1 : decode cX3_readingSet 1 = .ok (.getfield 14, 3) := by decide +kernel
theorem dX3_readingSet_4 : decode cX3_readingSet 4 = .ok (.iload_n 1, 1) := by decide +kernel
theorem dX3_readingSet_5 : decode cX3_readingSet 5 = .ok (.invokevirtual 35, 3) := by decide +kernel
theorem dX3_readingSet_8 : decode cX3_readingSet 8 = .ok (.ireturn, 1) := by decide +kernel
theorem dX3_chosenReading_0 : decode cX3_chosenReading 0 = .ok (.aload_n 0, 1) := by decide +kernel
theorem dX3_chosenReading_1 : decode cX3_chosenReading 1 = .ok (.getfield 20, 3) := by decide +kernel
theorem dX3_chosenReading_4 : decode cX3_chosenReading 4 = .ok (.iload_n 1, 1) := by decide +kernel
theorem dX3_chosenReading_5 : decode cX3_chosenReading 5 = .ok (.invokevirtual 35, 3) := by decide +kernel
theorem dX3_chosenReading_8 : decode cX3_chosenReading 8 = .ok (.ireturn, 1) := by decide +kernel
theorem dX3_takenStyle_0 : decode cX3_takenStyle 0 = .ok (.aload_n 0, 1) := by decide +kernel
theorem dX3_takenStyle_1 : decode cX3_takenStyle 1 = .ok (.getfield 23, 3) := by decide +kernel
theorem dX3_takenStyle_4 : decode cX3_takenStyle 4 = .ok (.iload_n 1, 1) := by decide +kernel
theorem dX3_takenStyle_5 : decode cX3_takenStyle 5 = .ok (.invokevirtual 35, 3) := by decide +kernel
theorem dX3_takenStyle_8 : decode cX3_takenStyle 8 = .ok (.ireturn, 1) := by decide +kernel
theorem dX3_mistakeCount_0 : decode cX3_mistakeCount 0 = .ok (.aload_n 0, 1) := by decide +kernel
theorem dX3_mistakeCount_1 : decode cX3_mistakeCount 1 = .ok (.getfield 39, 3) := by decide +kernel
theorem dX3_mistakeCount_4 : decode cX3_mistakeCount 4 = .ok (.ireturn, 1) := by decide +kernel
theorem dX3_kindOfMistake_0 : decode cX3_kindOfMistake 0 = .ok (.aload_n 0, 1) := by decide +kernel
theorem dX3_kindOfMistake_1 : decode cX3_kindOfMistake 1 = .ok (.getfield 29, 3) := by decide +kernel
theorem dX3_kindOfMistake_4 : decode cX3_kindOfMistake 4 = .ok (.iload_n 1, 1) := by decide +kernel
theorem dX3_kindOfMistake_5 : decode cX3_kindOfMistake 5 = .ok (.invokevirtual 35, 3) := by decide +kernel
theorem dX3_kindOfMistake_8 : decode cX3_kindOfMistake 8 = .ok (.ireturn, 1) := by decide +kernel
theorem dX3_wordOfMistake_0 : decode cX3_wordOfMistake 0 = .ok (.aload_n 0, 1) := by decide +kernel
theorem dX3_wordOfMistake_1 : decode cX3_wordOfMistake 1 = .ok (.getfield 32, 3) := by decide +kernel
theorem dX3_wordOfMistake_4 : decode cX3_wordOfMistake 4 = .ok (.iload_n 1, 1) := by decide +kernel
theorem dX3_wordOfMistake_5 : decode cX3_wordOfMistake 5 = .ok (.invokevirtual 35, 3) := by decide +kernel
theorem dX3_wordOfMistake_8 : decode cX3_wordOfMistake 8 = .ok (.ireturn, 1) := by decide +kernel
theorem dX3_setReadings_0 : decode cX3_setReadings 0 = .ok (.aload_n 0, 1) := by decide +kernel
theorem dX3_setReadings_1 : decode cX3_setReadings 1 = .ok (.getfield 14, 3) := by decide +kernel
theorem dX3_setReadings_4 : decode cX3_setReadings 4 = .ok (.iload_n 1, 1) := by decide +kernel
theorem dX3_setReadings_5 : decode cX3_setReadings 5 = .ok (.iload_n 2, 1) := by decide +kernel
theorem dX3_setReadings_6 : decode cX3_setReadings 6 = .ok (.invokevirtual 43, 3) := by decide +kernel
theorem dX3_setReadings_9 : decode cX3_setReadings 9 = .ok (.return_, 1) := by decide +kernel
theorem dX3_read_0 : decode cX3_read 0 = .ok (.iconst 0, 1) := by decide +kernel
theorem dX3_read_1 : decode cX3_read 1 = .ok (.istore 4, 2) := by decide +kernel
theorem dX3_read_3 : decode cX3_read 3 = .ok (.iload 4, 2) := by decide +kernel
theorem dX3_read_5 : decode cX3_read 5 = .ok (.aload_n 1, 1) := by decide +kernel
theorem dX3_read_6 : decode cX3_read 6 = .ok (.invokevirtual 47, 3) := by decide +kernel
theorem dX3_read_9 : decode cX3_read 9 = .ok (.if_icmp .ge 62, 3) := by decide +kernel
theorem dX3_read_12 : decode cX3_read 12 = .ok (.aload_n 1, 1) := by decide +kernel
theorem dX3_read_13 : decode cX3_read 13 = .ok (.iload 4, 2) := by decide +kernel
theorem dX3_read_15 : decode cX3_read 15 = .ok (.invokevirtual 53, 3) := by decide +kernel
theorem dX3_read_18 : decode cX3_read 18 = .ok (.istore 5, 2) := by decide +kernel
theorem dX3_read_20 : decode cX3_read 20 = .ok (.aload_n 1, 1) := by decide +kernel
theorem dX3_read_21 : decode cX3_read 21 = .ok (.iload 4, 2) := by decide +kernel
theorem dX3_read_23 : decode cX3_read 23 = .ok (.iconst 1, 1) := by decide +kernel
theorem dX3_read_24 : decode cX3_read 24 = .ok (.iadd, 1) := by decide +kernel
theorem dX3_read_25 : decode cX3_read 25 = .ok (.invokevirtual 53, 3) := by decide +kernel
theorem dX3_read_28 : decode cX3_read 28 = .ok (.istore 6, 2) := by decide +kernel
theorem dX3_read_30 : decode cX3_read 30 = .ok (.aload_n 2, 1) := by decide +kernel
theorem dX3_read_31 : decode cX3_read 31 = .ok (.aload_n 0, 1) := by decide +kernel
theorem dX3_read_32 : decode cX3_read 32 = .ok (.getfield 14, 3) := by decide +kernel
theorem dX3_read_35 : decode cX3_read 35 = .ok (.aload_n 0, 1) := by decide +kernel
theorem dX3_read_36 : decode cX3_read 36 = .ok (.getfield 20, 3) := by decide +kernel
theorem dX3_read_39 : decode cX3_read 39 = .ok (.iload 5, 2) := by decide +kernel
theorem dX3_read_41 : decode cX3_read 41 = .ok (.iload 6, 2) := by decide +kernel
theorem dX3_read_43 : decode cX3_read 43 = .ok (.invokevirtual 56, 3) := by decide +kernel
theorem dX3_read_46 : decode cX3_read 46 = .ok (.aload_n 0, 1) := by decide +kernel
theorem dX3_read_47 : decode cX3_read 47 = .ok (.aload_n 2, 1) := by decide +kernel
theorem dX3_read_48 : decode cX3_read 48 = .ok (.iload 5, 2) := by decide +kernel
theorem dX3_read_50 : decode cX3_read 50 = .ok (.iload 6, 2) := by decide +kernel
theorem dX3_read_52 : decode cX3_read 52 = .ok (.invokevirtual 62, 3) := by decide +kernel
theorem dX3_read_55 : decode cX3_read 55 = .ok (.aload_n 0, 1) := by decide +kernel
theorem dX3_read_56 : decode cX3_read 56 = .ok (.aload_n 1, 1) := by decide +kernel
theorem dX3_read_57 : decode cX3_read 57 = .ok (.aload_n 3, 1) := by decide +kernel
theorem dX3_read_58 : decode cX3_read 58 = .ok (.iload 5, 2) := by decide +kernel
theorem dX3_read_60 : decode cX3_read 60 = .ok (.iload 6, 2) := by decide +kernel
theorem dX3_read_62 : decode cX3_read 62 = .ok (.invokevirtual 66, 3) := by decide +kernel
theorem dX3_read_65 : decode cX3_read 65 = .ok (.iinc 4 1, 3) := by decide +kernel
theorem dX3_read_68 : decode cX3_read 68 = .ok (.goto (-65), 3) := by decide +kernel
theorem dX3_read_71 : decode cX3_read 71 = .ok (.aload_n 0, 1) := by decide +kernel
theorem dX3_read_72 : decode cX3_read 72 = .ok (.aload_n 1, 1) := by decide +kernel
theorem dX3_read_73 : decode cX3_read 73 = .ok (.invokevirtual 70, 3) := by decide +kernel
theorem dX3_read_76 : decode cX3_read 76 = .ok (.invokevirtual 73, 3) := by decide +kernel
theorem dX3_read_79 : decode cX3_read 79 = .ok (.return_, 1) := by decide +kernel
theorem dX3_markBroken_0 : decode cX3_markBroken 0 = .ok (.iload_n 2, 1) := by decide +kernel
theorem dX3_markBroken_1 : decode cX3_markBroken 1 = .ok (.istore 4, 2) := by decide +kernel
theorem dX3_markBroken_3 : decode cX3_markBroken 3 = .ok (.iload 4, 2) := by decide +kernel
theorem dX3_markBroken_5 : decode cX3_markBroken 5 = .ok (.iload_n 3, 1) := by decide +kernel
theorem dX3_markBroken_6 : decode cX3_markBroken 6 = .ok (.if_icmp .ge 68, 3) := by decide +kernel
theorem dX3_markBroken_9 : decode cX3_markBroken 9 = .ok (.iload 4, 2) := by decide +kernel
theorem dX3_markBroken_11 : decode cX3_markBroken 11 = .ok (.iload_n 2, 1) := by decide +kernel
theorem dX3_markBroken_12 : decode cX3_markBroken 12 = .ok (.if_icmp .le 34, 3) := by decide +kernel
theorem dX3_markBroken_15 : decode cX3_markBroken 15 = .ok (.aload_n 1, 1) := by decide +kernel
theorem dX3_markBroken_16 : decode cX3_markBroken 16 = .ok (.aload_n 0, 1) := by decide +kernel
theorem dX3_markBroken_17 : decode cX3_markBroken 17 = .ok (.getfield 20, 3) := by decide +kernel
theorem dX3_markBroken_20 : decode cX3_markBroken 20 = .ok (.iload 4, 2) := by decide +kernel
theorem dX3_markBroken_22 : decode cX3_markBroken 22 = .ok (.iconst 1, 1) := by decide +kernel
theorem dX3_markBroken_23 : decode cX3_markBroken 23 = .ok (.isub, 1) := by decide +kernel
theorem dX3_markBroken_24 : decode cX3_markBroken 24 = .ok (.invokevirtual 35, 3) := by decide +kernel
theorem dX3_markBroken_27 : decode cX3_markBroken 27 = .ok (.aload_n 0, 1) := by decide +kernel
theorem dX3_markBroken_28 : decode cX3_markBroken 28 = .ok (.getfield 20, 3) := by decide +kernel
theorem dX3_markBroken_31 : decode cX3_markBroken 31 = .ok (.iload 4, 2) := by decide +kernel
theorem dX3_markBroken_33 : decode cX3_markBroken 33 = .ok (.invokevirtual 35, 3) := by decide +kernel
theorem dX3_markBroken_36 : decode cX3_markBroken 36 = .ok (.invokevirtual 76, 3) := by decide +kernel
theorem dX3_markBroken_39 : decode cX3_markBroken 39 = .ok (.ifCond .eq 7, 3) := by decide +kernel
theorem dX3_markBroken_42 : decode cX3_markBroken 42 = .ok (.iconst 1, 1) := by decide +kernel
theorem dX3_markBroken_43 : decode cX3_markBroken 43 = .ok (.goto 4, 3) := by decide +kernel
theorem dX3_markBroken_46 : decode cX3_markBroken 46 = .ok (.iconst 0, 1) := by decide +kernel
theorem dX3_markBroken_47 : decode cX3_markBroken 47 = .ok (.istore 5, 2) := by decide +kernel
theorem dX3_markBroken_49 : decode cX3_markBroken 49 = .ok (.aload_n 0, 1) := by decide +kernel
theorem dX3_markBroken_50 : decode cX3_markBroken 50 = .ok (.getfield 26, 3) := by decide +kernel
theorem dX3_markBroken_53 : decode cX3_markBroken 53 = .ok (.iload 4, 2) := by decide +kernel
theorem dX3_markBroken_55 : decode cX3_markBroken 55 = .ok (.iload 5, 2) := by decide +kernel
theorem dX3_markBroken_57 : decode cX3_markBroken 57 = .ok (.ifCond .eq 7, 3) := by decide +kernel
theorem dX3_markBroken_60 : decode cX3_markBroken 60 = .ok (.iconst 1, 1) := by decide +kernel
theorem dX3_markBroken_61 : decode cX3_markBroken 61 = .ok (.goto 4, 3) := by decide +kernel
theorem dX3_markBroken_64 : decode cX3_markBroken 64 = .ok (.iconst 0, 1) := by decide +kernel
theorem dX3_markBroken_65 : decode cX3_markBroken 65 = .ok (.invokevirtual 43, 3) := by decide +kernel
theorem dX3_markBroken_68 : decode cX3_markBroken 68 = .ok (.iinc 4 1, 3) := by decide +kernel
theorem dX3_markBroken_71 : decode cX3_markBroken 71 = .ok (.goto (-68), 3) := by decide +kernel
theorem dX3_markBroken_74 : decode cX3_markBroken 74 = .ok (.return_, 1) := by decide +kernel
theorem dX3_takeStyles_0 : decode cX3_takeStyles 0 = .ok (.iload_n 3, 1) := by decide +kernel
theorem dX3_takeStyles_1 : decode cX3_takeStyles 1 = .ok (.istore 5, 2) := by decide +kernel
theorem dX3_takeStyles_3 : decode cX3_takeStyles 3 = .ok (.iload_n 3, 1) := by decide +kernel
theorem dX3_takeStyles_4 : decode cX3_takeStyles 4 = .ok (.istore 6, 2) := by decide +kernel
theorem dX3_takeStyles_6 : decode cX3_takeStyles 6 = .ok (.iload 6, 2) := by decide +kernel
theorem dX3_takeStyles_8 : decode cX3_takeStyles 8 = .ok (.iload 4, 2) := by decide +kernel
theorem dX3_takeStyles_10 : decode cX3_takeStyles 10 = .ok (.if_icmp .ge 66, 3) := by decide +kernel
theorem dX3_takeStyles_13 : decode cX3_takeStyles 13 = .ok (.iload 6, 2) := by decide +kernel
theorem dX3_takeStyles_15 : decode cX3_takeStyles 15 = .ok (.iload 5, 2) := by decide +kernel
theorem dX3_takeStyles_17 : decode cX3_takeStyles 17 = .ok (.if_icmp .ge 7, 3) := by decide +kernel
theorem dX3_takeStyles_20 : decode cX3_takeStyles 20 = .ok (.iconst (-1), 1) := by decide +kernel
theorem dX3_takeStyles_21 : decode cX3_takeStyles 21 = .ok (.goto 13, 3) := by decide +kernel
theorem dX3_takeStyles_24 : decode cX3_takeStyles 24 = .ok (.aload_n 0, 1) := by decide +kernel
theorem dX3_takeStyles_25 : decode cX3_takeStyles 25 = .ok (.aload_n 1, 1) := by decide +kernel
theorem dX3_takeStyles_26 : decode cX3_takeStyles 26 = .ok (.aload_n 2, 1) := by decide +kernel
theorem dX3_takeStyles_27 : decode cX3_takeStyles 27 = .ok (.iload 6, 2) := by decide +kernel
theorem dX3_takeStyles_29 : decode cX3_takeStyles 29 = .ok (.iload 4, 2) := by decide +kernel
theorem dX3_takeStyles_31 : decode cX3_takeStyles 31 = .ok (.invokevirtual 80, 3) := by decide +kernel
theorem dX3_takeStyles_34 : decode cX3_takeStyles 34 = .ok (.istore 7, 2) := by decide +kernel
theorem dX3_takeStyles_36 : decode cX3_takeStyles 36 = .ok (.aload_n 2, 1) := by decide +kernel
theorem dX3_takeStyles_37 : decode cX3_takeStyles 37 = .ok (.iload 7, 2) := by decide +kernel
theorem dX3_takeStyles_39 : decode cX3_takeStyles 39 = .ok (.invokestatic 84, 3) := by decide +kernel
theorem dX3_takeStyles_42 : decode cX3_takeStyles 42 = .ok (.astore 8, 2) := by decide +kernel
theorem dX3_takeStyles_44 : decode cX3_takeStyles 44 = .ok (.aload_n 0, 1) := by decide +kernel
theorem dX3_takeStyles_45 : decode cX3_takeStyles 45 = .ok (.getfield 23, 3) := by decide +kernel
theorem dX3_takeStyles_48 : decode cX3_takeStyles 48 = .ok (.iload 6, 2) := by decide +kernel
theorem dX3_takeStyles_50 : decode cX3_takeStyles 50 = .ok (.iload 7, 2) := by decide +kernel
theorem dX3_takeStyles_52 : decode cX3_takeStyles 52 = .ok (.invokevirtual 43, 3) := by decide +kernel
theorem dX3_takeStyles_55 : decode cX3_takeStyles 55 = .ok (.aload 8, 2) := by decide +kernel
theorem dX3_takeStyles_57 : decode cX3_takeStyles 57 = .ok (.ifnull 13, 3) := by decide +kernel
theorem dX3_takeStyles_60 : decode cX3_takeStyles 60 = .ok (.iload 6, 2) := by decide +kernel
theorem dX3_takeStyles_62 : decode cX3_takeStyles 62 = .ok (.aload 8, 2) := by decide +kernel
theorem dX3_takeStyles_64 : decode cX3_takeStyles 64 = .ok (.getfield 88, 3) := by decide +kernel
theorem dX3_takeStyles_67 : decode cX3_takeStyles 67 = .ok (.iadd, 1) := by decide +kernel
theorem dX3_takeStyles_68 : decode cX3_takeStyles 68 = .ok (.istore 5, 2) := by decide +kernel
theorem dX3_takeStyles_70 : decode cX3_takeStyles 70 = .ok (.iinc 6 1, 3) := by decide +kernel
theorem dX3_takeStyles_73 : decode cX3_takeStyles 73 = .ok (.goto (-67), 3) := by decide +kernel
theorem dX3_takeStyles_76 : decode cX3_takeStyles 76 = .ok (.return_, 1) := by decide +kernel
theorem dX3_lowestFit_0 : decode cX3_lowestFit 0 = .ok (.iconst 0, 1) := by decide +kernel
theorem dX3_lowestFit_1 : decode cX3_lowestFit 1 = .ok (.istore 5, 2) := by decide +kernel
theorem dX3_lowestFit_3 : decode cX3_lowestFit 3 = .ok (.iload 5, 2) := by decide +kernel
theorem dX3_lowestFit_5 : decode cX3_lowestFit 5 = .ok (.aload_n 2, 1) := by decide +kernel
theorem dX3_lowestFit_6 : decode cX3_lowestFit 6 = .ok (.invokeinterface 93 1, 5) := by decide +kernel
theorem dX3_lowestFit_11 : decode cX3_lowestFit 11 = .ok (.if_icmp .ge 37, 3) := by decide +kernel
theorem dX3_lowestFit_14 : decode cX3_lowestFit 14 = .ok (.aload_n 2, 1) := by decide +kernel
theorem dX3_lowestFit_15 : decode cX3_lowestFit 15 = .ok (.iload 5, 2) := by decide +kernel
theorem dX3_lowestFit_17 : decode cX3_lowestFit 17 = .ok (.invokeinterface 98 2, 5) := by decide +kernel
theorem dX3_lowestFit_22 : decode cX3_lowestFit 22 = .ok (.checkcast 89, 3) := by decide +kernel
theorem dX3_lowestFit_25 : decode cX3_lowestFit 25 = .ok (.aload_n 1, 1) := by decide +kernel
theorem dX3_lowestFit_26 : decode cX3_lowestFit 26 = .ok (.aload_n 0, 1) := by decide +kernel
theorem dX3_lowestFit_27 : decode cX3_lowestFit 27 = .ok (.getfield 20, 3) := by decide +kernel
theorem dX3_lowestFit_30 : decode cX3_lowestFit 30 = .ok (.iload_n 3, 1) := by decide +kernel
theorem dX3_lowestFit_31 : decode cX3_lowestFit 31 = .ok (.iload 4, 2) := by decide +kernel
theorem dX3_lowestFit_33 : decode cX3_lowestFit 33 = .ok (.invokevirtual 101, 3) := by decide +kernel
theorem dX3_lowestFit_36 : decode cX3_lowestFit 36 = .ok (.ifCond .eq 6, 3) := by decide +kernel
theorem dX3_lowestFit_39 : decode cX3_lowestFit 39 = .ok (.iload 5, 2) := by decide +kernel
theorem dX3_lowestFit_41 : decode cX3_lowestFit 41 = .ok (.ireturn, 1) := by decide +kernel
theorem dX3_lowestFit_42 : decode cX3_lowestFit 42 = .ok (.iinc 5 1, 3) := by decide +kernel
theorem dX3_lowestFit_45 : decode cX3_lowestFit 45 = .ok (.goto (-42), 3) := by decide +kernel
theorem dX3_lowestFit_48 : decode cX3_lowestFit 48 = .ok (.iconst (-1), 1) := by decide +kernel
theorem dX3_lowestFit_49 : decode cX3_lowestFit 49 = .ok (.ireturn, 1) := by decide +kernel
theorem dX3_listMistakes_0 : decode cX3_listMistakes 0 = .ok (.aload_n 0, 1) := by decide +kernel
theorem dX3_listMistakes_1 : decode cX3_listMistakes 1 = .ok (.iconst 0, 1) := by decide +kernel
theorem dX3_listMistakes_2 : decode cX3_listMistakes 2 = .ok (.putfield 39, 3) := by decide +kernel
theorem dX3_listMistakes_5 : decode cX3_listMistakes 5 = .ok (.iconst 0, 1) := by decide +kernel
theorem dX3_listMistakes_6 : decode cX3_listMistakes 6 = .ok (.istore_n 2, 1) := by decide +kernel
theorem dX3_listMistakes_7 : decode cX3_listMistakes 7 = .ok (.iload_n 2, 1) := by decide +kernel
theorem dX3_listMistakes_8 : decode cX3_listMistakes 8 = .ok (.iload_n 1, 1) := by decide +kernel
theorem dX3_listMistakes_9 : decode cX3_listMistakes 9 = .ok (.if_icmp .ge 58, 3) := by decide +kernel
theorem dX3_listMistakes_12 : decode cX3_listMistakes 12 = .ok (.aload_n 0, 1) := by decide +kernel
theorem dX3_listMistakes_13 : decode cX3_listMistakes 13 = .ok (.iload_n 2, 1) := by decide +kernel
theorem dX3_listMistakes_14 : decode cX3_listMistakes 14 = .ok (.invokevirtual 105, 3) := by decide +kernel
theorem dX3_listMistakes_17 : decode cX3_listMistakes 17 = .ok (.ifCond .ne 9, 3) := by decide +kernel
theorem dX3_listMistakes_20 : decode cX3_listMistakes 20 = .ok (.aload_n 0, 1) := by decide +kernel
theorem dX3_listMistakes_21 : decode cX3_listMistakes 21 = .ok (.iconst 0, 1) := by decide +kernel
theorem dX3_listMistakes_22 : decode cX3_listMistakes 22 = .ok (.iload_n 2, 1) := by decide +kernel
theorem dX3_listMistakes_23 : decode cX3_listMistakes 23 = .ok (.invokevirtual 109, 3) := by decide +kernel
theorem dX3_listMistakes_26 : decode cX3_listMistakes 26 = .ok (.aload_n 0, 1) := by decide +kernel
theorem dX3_listMistakes_27 : decode cX3_listMistakes 27 = .ok (.getfield 26, 3) := by decide +kernel
theorem dX3_listMistakes_30 : decode cX3_listMistakes 30 = .ok (.iload_n 2, 1) := by decide +kernel
theorem dX3_listMistakes_31 : decode cX3_listMistakes 31 = .ok (.invokevirtual 35, 3) := by decide +kernel
theorem dX3_listMistakes_34 : decode cX3_listMistakes 34 = .ok (.ifCond .eq 9, 3) := by decide +kernel
theorem dX3_listMistakes_37 : decode cX3_listMistakes 37 = .ok (.aload_n 0, 1) := by decide +kernel
theorem dX3_listMistakes_38 : decode cX3_listMistakes 38 = .ok (.iconst 1, 1) := by decide +kernel
theorem dX3_listMistakes_39 : decode cX3_listMistakes 39 = .ok (.iload_n 2, 1) := by decide +kernel
theorem dX3_listMistakes_40 : decode cX3_listMistakes 40 = .ok (.invokevirtual 109, 3) := by decide +kernel
theorem dX3_listMistakes_43 : decode cX3_listMistakes 43 = .ok (.aload_n 0, 1) := by decide +kernel
theorem dX3_listMistakes_44 : decode cX3_listMistakes 44 = .ok (.getfield 23, 3) := by decide +kernel
theorem dX3_listMistakes_47 : decode cX3_listMistakes 47 = .ok (.iload_n 2, 1) := by decide +kernel
theorem dX3_listMistakes_48 : decode cX3_listMistakes 48 = .ok (.invokevirtual 35, 3) := by decide +kernel
theorem dX3_listMistakes_51 : decode cX3_listMistakes 51 = .ok (.iconst (-1), 1) := by decide +kernel
theorem dX3_listMistakes_52 : decode cX3_listMistakes 52 = .ok (.if_icmp .eq 9, 3) := by decide +kernel
theorem dX3_listMistakes_55 : decode cX3_listMistakes 55 = .ok (.aload_n 0, 1) := by decide +kernel
theorem dX3_listMistakes_56 : decode cX3_listMistakes 56 = .ok (.iconst 2, 1) := by decide +kernel
theorem dX3_listMistakes_57 : decode cX3_listMistakes 57 = .ok (.iload_n 2, 1) := by decide +kernel
theorem dX3_listMistakes_58 : decode cX3_listMistakes 58 = .ok (.invokevirtual 109, 3) := by decide +kernel
theorem dX3_listMistakes_61 : decode cX3_listMistakes 61 = .ok (.iinc 2 1, 3) := by decide +kernel
theorem dX3_listMistakes_64 : decode cX3_listMistakes 64 = .ok (.goto (-57), 3) := by decide +kernel
theorem dX3_listMistakes_67 : decode cX3_listMistakes 67 = .ok (.return_, 1) := by decide +kernel
theorem dX3_addMistake_0 : decode cX3_addMistake 0 = .ok (.aload_n 0, 1) := by decide +kernel
theorem dX3_addMistake_1 : decode cX3_addMistake 1 = .ok (.getfield 29, 3) := by decide +kernel
theorem dX3_addMistake_4 : decode cX3_addMistake 4 = .ok (.aload_n 0, 1) := by decide +kernel
theorem dX3_addMistake_5 : decode cX3_addMistake 5 = .ok (.getfield 39, 3) := by decide +kernel
theorem dX3_addMistake_8 : decode cX3_addMistake 8 = .ok (.iload_n 1, 1) := by decide +kernel
theorem dX3_addMistake_9 : decode cX3_addMistake 9 = .ok (.invokevirtual 43, 3) := by decide +kernel
theorem dX3_addMistake_12 : decode cX3_addMistake 12 = .ok (.aload_n 0, 1) := by decide +kernel
theorem dX3_addMistake_13 : decode cX3_addMistake 13 = .ok (.getfield 32, 3) := by decide +kernel
theorem dX3_addMistake_16 : decode cX3_addMistake 16 = .ok (.aload_n 0, 1) := by decide +kernel
theorem dX3_addMistake_17 : decode cX3_addMistake 17 = .ok (.getfield 39, 3) := by decide +kernel
theorem dX3_addMistake_20 : decode cX3_addMistake 20 = .ok (.iload_n 2, 1) := by decide +kernel
theorem dX3_addMistake_21 : decode cX3_addMistake 21 = .ok (.invokevirtual 43, 3) := by decide +kernel
theorem dX3_addMistake_24 : decode cX3_addMistake 24 = .ok (.aload_n 0, 1) := by decide +kernel
theorem dX3_addMistake_25 : decode cX3_addMistake 25 = .ok (.dup, 1) := by decide +kernel
theorem dX3_addMistake_26 : decode cX3_addMistake 26 = .ok (.getfield 39, 3) := by decide +kernel
theorem dX3_addMistake_29 : decode cX3_addMistake 29 = .ok (.iconst 1, 1) := by decide +kernel
theorem dX3_addMistake_30 : decode cX3_addMistake 30 = .ok (.iadd, 1) := by decide +kernel
theorem dX3_addMistake_31 : decode cX3_addMistake 31 = .ok (.putfield 39, 3) := by decide +kernel
theorem dX3_addMistake_34 : decode cX3_addMistake 34 = .ok (.return_, 1) := by decide +kernel
theorem dX4_init_0 : decode cX4_init 0 = .ok (.aload_n 0, 1) := by decide +kernel
theorem dX4_init_1 : decode cX4_init 1 = .ok (.invokespecial 1, 3) := by decide +kernel
theorem dX4_init_4 : decode cX4_init 4 = .ok (.aload_n 0, 1) := by decide +kernel
theorem dX4_init_5 : decode cX4_init 5 = .ok (.iload_n 1, 1) := by decide +kernel
theorem dX4_init_6 : decode cX4_init 6 = .ok (.ifCond .le 7, 3) := by decide +kernel
theorem dX4_init_9 : decode cX4_init 9 = .ok (.iload_n 1, 1) := by decide +kernel
theorem dX4_init_10 : decode cX4_init 10 = .ok (.goto 4, 3) := by decide +kernel
theorem dX4_init_13 : decode cX4_init 13 = .ok (.iconst 0, 1) := by decide +kernel
theorem dX4_init_14 : decode cX4_init 14 = .ok (.newarray .int, 2) := by decide +kernel
theorem dX4_init_16 : decode cX4_init 16 = .ok (.putfield 7, 3) := by decide +kernel
theorem dX4_init_19 : decode cX4_init 19 = .ok (.return_, 1) := by decide +kernel
theorem dX4_get_0 : decode cX4_get 0 = .ok (.iload_n 1, 1) := by decide +kernel
theorem dX4_get_1 : decode cX4_get 1 = .ok (.ifCond .lt 21, 3) := by decide +kernel
theorem dX4_get_4 : decode cX4_get 4 = .ok (.iload_n 1, 1) := by decide +kernel
theorem dX4_get_5 : decode cX4_get 5 = .ok (.aload_n 0, 1) := by decide +kernel
theorem dX4_get_6 : decode cX4_get 6 = .ok (.getfield 7, 3) := by decide +kernel
theorem dX4_get_9 : decode cX4_get 9 = .ok (.arraylength, 1) := by decide +kernel
theorem dX4_get_10 : decode cX4_get 10 = .ok (.if_icmp .ge 12, 3) := by decide +kernel
theorem dX4_get_13 : decode cX4_get 13 = .ok (.aload_n 0, 1) := by decide +kernel
theorem dX4_get_14 : decode cX4_get 14 = .ok (.getfield 7, 3) := by decide +kernel
theorem dX4_get_17 : decode cX4_get 17 = .ok (.iload_n 1, 1) := by decide +kernel
theorem dX4_get_18 : decode cX4_get 18 = .ok (.iaload, 1) := by decide +kernel
theorem dX4_get_19 : decode cX4_get 19 = .ok (.goto 4, 3) := by decide +kernel
theorem dX4_get_22 : decode cX4_get 22 = .ok (.iconst 0, 1) := by decide +kernel
theorem dX4_get_23 : decode cX4_get 23 = .ok (.ireturn, 1) := by decide +kernel
theorem dX4_set_0 : decode cX4_set 0 = .ok (.iload_n 1, 1) := by decide +kernel
theorem dX4_set_1 : decode cX4_set 1 = .ok (.ifCond .lt 19, 3) := by decide +kernel
theorem dX4_set_4 : decode cX4_set 4 = .ok (.iload_n 1, 1) := by decide +kernel
theorem dX4_set_5 : decode cX4_set 5 = .ok (.aload_n 0, 1) := by decide +kernel
theorem dX4_set_6 : decode cX4_set 6 = .ok (.getfield 7, 3) := by decide +kernel
theorem dX4_set_9 : decode cX4_set 9 = .ok (.arraylength, 1) := by decide +kernel
theorem dX4_set_10 : decode cX4_set 10 = .ok (.if_icmp .ge 10, 3) := by decide +kernel
theorem dX4_set_13 : decode cX4_set 13 = .ok (.aload_n 0, 1) := by decide +kernel
theorem dX4_set_14 : decode cX4_set 14 = .ok (.getfield 7, 3) := by decide +kernel
theorem dX4_set_17 : decode cX4_set 17 = .ok (.iload_n 1, 1) := by decide +kernel
theorem dX4_set_18 : decode cX4_set 18 = .ok (.iload_n 2, 1) := by decide +kernel
theorem dX4_set_19 : decode cX4_set 19 = .ok (.iastore, 1) := by decide +kernel
theorem dX4_set_20 : decode cX4_set 20 = .ok (.return_, 1) := by decide +kernel
theorem dX4_insert_0 : decode cX4_insert 0 = .ok (.iload_n 1, 1) := by decide +kernel
theorem dX4_insert_1 : decode cX4_insert 1 = .ok (.ifCond .lt 42, 3) := by decide +kernel
theorem dX4_insert_4 : decode cX4_insert 4 = .ok (.iload_n 1, 1) := by decide +kernel
theorem dX4_insert_5 : decode cX4_insert 5 = .ok (.iload_n 3, 1) := by decide +kernel
theorem dX4_insert_6 : decode cX4_insert 6 = .ok (.if_icmp .gt 37, 3) := by decide +kernel
theorem dX4_insert_9 : decode cX4_insert 9 = .ok (.iload_n 3, 1) := by decide +kernel
theorem dX4_insert_10 : decode cX4_insert 10 = .ok (.aload_n 0, 1) := by decide +kernel
theorem dX4_insert_11 : decode cX4_insert 11 = .ok (.getfield 7, 3) := by decide +kernel
theorem dX4_insert_14 : decode cX4_insert 14 = .ok (.arraylength, 1) := by decide +kernel
theorem dX4_insert_15 : decode cX4_insert 15 = .ok (.if_icmp .ge 28, 3) := by decide +kernel
theorem dX4_insert_18 : decode cX4_insert 18 = .ok (.aload_n 0, 1) := by decide +kernel
theorem dX4_insert_19 : decode cX4_insert 19 = .ok (.getfield 7, 3) := by decide +kernel
theorem dX4_insert_22 : decode cX4_insert 22 = .ok (.iload_n 1, 1) := by decide +kernel
theorem dX4_insert_23 : decode cX4_insert 23 = .ok (.aload_n 0, 1) := by decide +kernel
theorem dX4_insert_24 : decode cX4_insert 24 = .ok (.getfield 7, 3) := by decide +kernel
theorem dX4_insert_27 : decode cX4_insert 27 = .ok (.iload_n 1, 1) := by decide +kernel
theorem dX4_insert_28 : decode cX4_insert 28 = .ok (.iconst 1, 1) := by decide +kernel
theorem dX4_insert_29 : decode cX4_insert 29 = .ok (.iadd, 1) := by decide +kernel
theorem dX4_insert_30 : decode cX4_insert 30 = .ok (.iload_n 3, 1) := by decide +kernel
theorem dX4_insert_31 : decode cX4_insert 31 = .ok (.iload_n 1, 1) := by decide +kernel
theorem dX4_insert_32 : decode cX4_insert 32 = .ok (.isub, 1) := by decide +kernel
theorem dX4_insert_33 : decode cX4_insert 33 = .ok (.invokestatic 13, 3) := by decide +kernel
theorem dX4_insert_36 : decode cX4_insert 36 = .ok (.aload_n 0, 1) := by decide +kernel
theorem dX4_insert_37 : decode cX4_insert 37 = .ok (.getfield 7, 3) := by decide +kernel
theorem dX4_insert_40 : decode cX4_insert 40 = .ok (.iload_n 1, 1) := by decide +kernel
theorem dX4_insert_41 : decode cX4_insert 41 = .ok (.iload_n 2, 1) := by decide +kernel
theorem dX4_insert_42 : decode cX4_insert 42 = .ok (.iastore, 1) := by decide +kernel
theorem dX4_insert_43 : decode cX4_insert 43 = .ok (.return_, 1) := by decide +kernel
theorem dX4_remove_0 : decode cX4_remove 0 = .ok (.iload_n 1, 1) := by decide +kernel
theorem dX4_remove_1 : decode cX4_remove 1 = .ok (.ifCond .lt 37, 3) := by decide +kernel
theorem dX4_remove_4 : decode cX4_remove 4 = .ok (.iload_n 1, 1) := by decide +kernel
theorem dX4_remove_5 : decode cX4_remove 5 = .ok (.iload_n 2, 1) := by decide +kernel
theorem dX4_remove_6 : decode cX4_remove 6 = .ok (.if_icmp .ge 32, 3) := by decide +kernel
theorem dX4_remove_9 : decode cX4_remove 9 = .ok (.iload_n 2, 1) := by decide +kernel
theorem dX4_remove_10 : decode cX4_remove 10 = .ok (.aload_n 0, 1) := by decide +kernel
theorem dX4_remove_11 : decode cX4_remove 11 = .ok (.getfield 7, 3) := by decide +kernel
theorem dX4_remove_14 : decode cX4_remove 14 = .ok (.arraylength, 1) := by decide +kernel
theorem dX4_remove_15 : decode cX4_remove 15 = .ok (.if_icmp .gt 23, 3) := by decide +kernel
theorem dX4_remove_18 : decode cX4_remove 18 = .ok (.aload_n 0, 1) := by decide +kernel
theorem dX4_remove_19 : decode cX4_remove 19 = .ok (.getfield 7, 3) := by decide +kernel
theorem dX4_remove_22 : decode cX4_remove 22 = .ok (.iload_n 1, 1) := by decide +kernel
theorem dX4_remove_23 : decode cX4_remove 23 = .ok (.iconst 1, 1) := by decide +kernel
theorem dX4_remove_24 : decode cX4_remove 24 = .ok (.iadd, 1) := by decide +kernel
theorem dX4_remove_25 : decode cX4_remove 25 = .ok (.aload_n 0, 1) := by decide +kernel
theorem dX4_remove_26 : decode cX4_remove 26 = .ok (.getfield 7, 3) := by decide +kernel
theorem dX4_remove_29 : decode cX4_remove 29 = .ok (.iload_n 1, 1) := by decide +kernel
theorem dX4_remove_30 : decode cX4_remove 30 = .ok (.iload_n 2, 1) := by decide +kernel
theorem dX4_remove_31 : decode cX4_remove 31 = .ok (.iload_n 1, 1) := by decide +kernel
theorem dX4_remove_32 : decode cX4_remove 32 = .ok (.isub, 1) := by decide +kernel
theorem dX4_remove_33 : decode cX4_remove 33 = .ok (.iconst 1, 1) := by decide +kernel
theorem dX4_remove_34 : decode cX4_remove 34 = .ok (.isub, 1) := by decide +kernel
theorem dX4_remove_35 : decode cX4_remove 35 = .ok (.invokestatic 13, 3) := by decide +kernel
theorem dX4_remove_38 : decode cX4_remove 38 = .ok (.return_, 1) := by decide +kernel
theorem dX5_init_0 : decode cX5_init 0 = .ok (.aload_n 0, 1) := by decide +kernel
theorem dX5_init_1 : decode cX5_init 1 = .ok (.invokespecial 3, 3) := by decide +kernel
theorem dX5_init_4 : decode cX5_init 4 = .ok (.aload_n 0, 1) := by decide +kernel
theorem dX5_init_5 : decode cX5_init 5 = .ok (.iload_n 1, 1) := by decide +kernel
theorem dX5_init_6 : decode cX5_init 6 = .ok (.putfield 9, 3) := by decide +kernel
theorem dX5_init_9 : decode cX5_init 9 = .ok (.aload_n 0, 1) := by decide +kernel
theorem dX5_init_10 : decode cX5_init 10 = .ok (.iload_n 2, 1) := by decide +kernel
theorem dX5_init_11 : decode cX5_init 11 = .ok (.putfield 15, 3) := by decide +kernel
theorem dX5_init_14 : decode cX5_init 14 = .ok (.aload_n 0, 1) := by decide +kernel
theorem dX5_init_15 : decode cX5_init 15 = .ok (.iload_n 3, 1) := by decide +kernel
theorem dX5_init_16 : decode cX5_init 16 = .ok (.putfield 19, 3) := by decide +kernel
theorem dX5_init_19 : decode cX5_init 19 = .ok (.aload_n 0, 1) := by decide +kernel
theorem dX5_init_20 : decode cX5_init 20 = .ok (.iload 4, 2) := by decide +kernel
theorem dX5_init_22 : decode cX5_init 22 = .ok (.putfield 22, 3) := by decide +kernel
theorem dX5_init_25 : decode cX5_init 25 = .ok (.aload_n 0, 1) := by decide +kernel
theorem dX5_init_26 : decode cX5_init 26 = .ok (.iload 5, 2) := by decide +kernel
theorem dX5_init_28 : decode cX5_init 28 = .ok (.putfield 25, 3) := by decide +kernel
theorem dX5_init_31 : decode cX5_init 31 = .ok (.aload_n 0, 1) := by decide +kernel
theorem dX5_init_32 : decode cX5_init 32 = .ok (.iload 6, 2) := by decide +kernel
theorem dX5_init_34 : decode cX5_init 34 = .ok (.putfield 28, 3) := by decide +kernel
theorem dX5_init_37 : decode cX5_init 37 = .ok (.aload_n 0, 1) := by decide +kernel
theorem dX5_init_38 : decode cX5_init 38 = .ok (.iload 7, 2) := by decide +kernel
theorem dX5_init_40 : decode cX5_init 40 = .ok (.putfield 31, 3) := by decide +kernel
theorem dX5_init_43 : decode cX5_init 43 = .ok (.return_, 1) := by decide +kernel
theorem dX5_isAmong_0 : decode cX5_isAmong 0 = .ok (.aload_n 0, 1) := by decide +kernel
theorem dX5_isAmong_1 : decode cX5_isAmong 1 = .ok (.getfield 15, 3) := by decide +kernel
theorem dX5_isAmong_4 : decode cX5_isAmong 4 = .ok (.iload_n 2, 1) := by decide +kernel
theorem dX5_isAmong_5 : decode cX5_isAmong 5 = .ok (.if_icmp .ne 18, 3) := by decide +kernel
theorem dX5_isAmong_8 : decode cX5_isAmong 8 = .ok (.iload_n 1, 1) := by decide +kernel
theorem dX5_isAmong_9 : decode cX5_isAmong 9 = .ok (.aload_n 0, 1) := by decide +kernel
theorem dX5_isAmong_10 : decode cX5_isAmong 10 = .ok (.getfield 9, 3) := by decide +kernel
theorem dX5_isAmong_13 : decode cX5_isAmong 13 = .ok (.ishr, 1) := by decide +kernel
theorem dX5_isAmong_14 : decode cX5_isAmong 14 = .ok (.iconst 1, 1) := by decide +kernel
theorem dX5_isAmong_15 : decode cX5_isAmong 15 = .ok (.iand, 1) := by decide +kernel
theorem dX5_isAmong_16 : decode cX5_isAmong 16 = .ok (.ifCond .eq 7, 3) := by decide +kernel
theorem dX5_isAmong_19 : decode cX5_isAmong 19 = .ok (.iconst 1, 1) := by decide +kernel
theorem dX5_isAmong_20 : decode cX5_isAmong 20 = .ok (.goto 4, 3) := by decide +kernel
theorem dX5_isAmong_23 : decode cX5_isAmong 23 = .ok (.iconst 0, 1) := by decide +kernel
theorem dX5_isAmong_24 : decode cX5_isAmong 24 = .ok (.ireturn, 1) := by decide +kernel
theorem dX5_usedOn_0 : decode cX5_usedOn 0 = .ok (.iload_n 1, 1) := by decide +kernel
theorem dX5_usedOn_1 : decode cX5_usedOn 1 = .ok (.invokestatic 34, 3) := by decide +kernel
theorem dX5_usedOn_4 : decode cX5_usedOn 4 = .ok (.istore_n 2, 1) := by decide +kernel
theorem dX5_usedOn_5 : decode cX5_usedOn 5 = .ok (.iload_n 2, 1) := by decide +kernel
theorem dX5_usedOn_6 : decode cX5_usedOn 6 = .ok (.aload_n 0, 1) := by decide +kernel
theorem dX5_usedOn_7 : decode cX5_usedOn 7 = .ok (.getfield 19, 3) := by decide +kernel
theorem dX5_usedOn_10 : decode cX5_usedOn 10 = .ok (.if_icmp .le 22, 3) := by decide +kernel
theorem dX5_usedOn_13 : decode cX5_usedOn 13 = .ok (.iload_n 2, 1) := by decide +kernel
theorem dX5_usedOn_14 : decode cX5_usedOn 14 = .ok (.aload_n 0, 1) := by decide +kernel
theorem dX5_usedOn_15 : decode cX5_usedOn 15 = .ok (.getfield 19, 3) := by decide +kernel
theorem dX5_usedOn_18 : decode cX5_usedOn 18 = .ok (.isub, 1) := by decide +kernel
theorem dX5_usedOn_19 : decode cX5_usedOn 19 = .ok (.aload_n 0, 1) := by decide +kernel
theorem dX5_usedOn_20 : decode cX5_usedOn 20 = .ok (.getfield 25, 3) := by decide +kernel
theorem dX5_usedOn_23 : decode cX5_usedOn 23 = .ok (.invokestatic 34, 3) := by decide +kernel
theorem dX5_usedOn_26 : decode cX5_usedOn 26 = .ok (.iadd, 1) := by decide +kernel
theorem dX5_usedOn_27 : decode cX5_usedOn 27 = .ok (.bipush 10, 2) := by decide +kernel
theorem dX5_usedOn_29 : decode cX5_usedOn 29 = .ok (.if_icmp .le 5, 3) := by decide +kernel
theorem dX5_usedOn_32 : decode cX5_usedOn 32 = .ok (.iconst 0, 1) := by decide +kernel
theorem dX5_usedOn_33 : decode cX5_usedOn 33 = .ok (.ireturn, 1) := by decide +kernel
theorem dX5_usedOn_34 : decode cX5_usedOn 34 = .ok (.aload_n 0, 1) := by decide +kernel
theorem dX5_usedOn_35 : decode cX5_usedOn 35 = .ok (.getfield 22, 3) := by decide +kernel
theorem dX5_usedOn_38 : decode cX5_usedOn 38 = .ok (.iconst (-1), 1) := by decide +kernel
theorem dX5_usedOn_39 : decode cX5_usedOn 39 = .ok (.if_icmp .eq 30, 3) := by decide +kernel
theorem dX5_usedOn_42 : decode cX5_usedOn 42 = .ok (.aload_n 0, 1) := by decide +kernel
theorem dX5_usedOn_43 : decode cX5_usedOn 43 = .ok (.getfield 22, 3) := by decide +kernel
theorem dX5_usedOn_46 : decode cX5_usedOn 46 = .ok (.iload_n 1, 1) := by decide +kernel
theorem dX5_usedOn_47 : decode cX5_usedOn 47 = .ok (.aload_n 0, 1) := by decide +kernel
theorem dX5_usedOn_48 : decode cX5_usedOn 48 = .ok (.getfield 15, 3) := by decide +kernel
theorem dX5_usedOn_51 : decode cX5_usedOn 51 = .ok (.ifCond .eq 9, 3) := by decide +kernel
theorem dX5_usedOn_54 : decode cX5_usedOn 54 = .ok (.iload_n 2, 1) := by decide +kernel
theorem dX5_usedOn_55 : decode cX5_usedOn 55 = .ok (.iconst 1, 1) := by decide +kernel
theorem dX5_usedOn_56 : decode cX5_usedOn 56 = .ok (.isub, 1) := by decide +kernel
theorem dX5_usedOn_57 : decode cX5_usedOn 57 = .ok (.goto 4, 3) := by decide +kernel
theorem dX5_usedOn_60 : decode cX5_usedOn 60 = .ok (.iconst 0, 1) := by decide +kernel
theorem dX5_usedOn_61 : decode cX5_usedOn 61 = .ok (.invokestatic 38, 3) := by decide +kernel
theorem dX5_usedOn_64 : decode cX5_usedOn 64 = .ok (.if_icmp .eq 5, 3) := by decide +kernel
theorem dX5_usedOn_67 : decode cX5_usedOn 67 = .ok (.iconst 0, 1) := by decide +kernel
theorem dX5_usedOn_68 : decode cX5_usedOn 68 = .ok (.ireturn, 1) := by decide +kernel
theorem dX5_usedOn_69 : decode cX5_usedOn 69 = .ok (.aload_n 0, 1) := by decide +kernel
theorem dX5_usedOn_70 : decode cX5_usedOn 70 = .ok (.getfield 15, 3) := by decide +kernel
theorem dX5_usedOn_73 : decode cX5_usedOn 73 = .ok (.ifCond .eq 24, 3) := by decide +kernel
theorem dX5_usedOn_76 : decode cX5_usedOn 76 = .ok (.iload_n 1, 1) := by decide +kernel
theorem dX5_usedOn_77 : decode cX5_usedOn 77 = .ok (.iconst 0, 1) := by decide +kernel
theorem dX5_usedOn_78 : decode cX5_usedOn 78 = .ok (.iload_n 2, 1) := by decide +kernel
theorem dX5_usedOn_79 : decode cX5_usedOn 79 = .ok (.aload_n 0, 1) := by decide +kernel
theorem dX5_usedOn_80 : decode cX5_usedOn 80 = .ok (.getfield 19, 3) := by decide +kernel
theorem dX5_usedOn_83 : decode cX5_usedOn 83 = .ok (.isub, 1) := by decide +kernel
theorem dX5_usedOn_84 : decode cX5_usedOn 84 = .ok (.invokestatic 42, 3) := by decide +kernel
theorem dX5_usedOn_87 : decode cX5_usedOn 87 = .ok (.aload_n 0, 1) := by decide +kernel
theorem dX5_usedOn_88 : decode cX5_usedOn 88 = .ok (.getfield 25, 3) := by decide +kernel
theorem dX5_usedOn_91 : decode cX5_usedOn 91 = .ok (.invokestatic 46, 3) := by decide +kernel
theorem dX5_usedOn_94 : decode cX5_usedOn 94 = .ok (.goto 19, 3) := by decide +kernel
theorem dX5_usedOn_97 : decode cX5_usedOn 97 = .ok (.aload_n 0, 1) := by decide +kernel
theorem dX5_usedOn_98 : decode cX5_usedOn 98 = .ok (.getfield 25, 3) := by decide +kernel
theorem dX5_usedOn_101 : decode cX5_usedOn 101 = .ok (.iload_n 1, 1) := by decide +kernel
theorem dX5_usedOn_102 : decode cX5_usedOn 102 = .ok (.aload_n 0, 1) := by decide +kernel
theorem dX5_usedOn_103 : decode cX5_usedOn 103 = .ok (.getfield 19, 3) := by decide +kernel
theorem dX5_usedOn_106 : decode cX5_usedOn 106 = .ok (.iload_n 2, 1) := by decide +kernel
theorem dX5_usedOn_107 : decode cX5_usedOn 107 = .ok (.invokestatic 42, 3) := by decide +kernel
theorem dX5_usedOn_110 : decode cX5_usedOn 110 = .ok (.invokestatic 46, 3) := by decide +kernel
theorem dX5_usedOn_113 : decode cX5_usedOn 113 = .ok (.ireturn, 1) := by decide +kernel
theorem dX5_kindAfter_0 : decode cX5_kindAfter 0 = .ok (.aload_n 0, 1) := by decide +kernel
theorem dX5_kindAfter_1 : decode cX5_kindAfter 1 = .ok (.getfield 28, 3) := by decide +kernel
theorem dX5_kindAfter_4 : decode cX5_kindAfter 4 = .ok (.iconst (-1), 1) := by decide +kernel
theorem dX5_kindAfter_5 : decode cX5_kindAfter 5 = .ok (.if_icmp .ne 7, 3) := by decide +kernel
theorem dX5_kindAfter_8 : decode cX5_kindAfter 8 = .ok (.iload_n 1, 1) := by decide +kernel
theorem dX5_kindAfter_9 : decode cX5_kindAfter 9 = .ok (.goto 7, 3) := by decide +kernel
theorem dX5_kindAfter_12 : decode cX5_kindAfter 12 = .ok (.aload_n 0, 1) := by decide +kernel
theorem dX5_kindAfter_13 : decode cX5_kindAfter 13 = .ok (.getfield 28, 3) := by decide +kernel
theorem dX5_kindAfter_16 : decode cX5_kindAfter 16 = .ok (.ireturn, 1) := by decide +kernel
theorem dX5_formAfter_0 : decode cX5_formAfter 0 = .ok (.aload_n 0, 1) := by decide +kernel
theorem dX5_formAfter_1 : decode cX5_formAfter 1 = .ok (.getfield 31, 3) := by decide +kernel
theorem dX5_formAfter_4 : decode cX5_formAfter 4 = .ok (.iconst (-1), 1) := by decide +kernel
theorem dX5_formAfter_5 : decode cX5_formAfter 5 = .ok (.if_icmp .ne 7, 3) := by decide +kernel
theorem dX5_formAfter_8 : decode cX5_formAfter 8 = .ok (.iload_n 1, 1) := by decide +kernel
theorem dX5_formAfter_9 : decode cX5_formAfter 9 = .ok (.goto 7, 3) := by decide +kernel
theorem dX5_formAfter_12 : decode cX5_formAfter 12 = .ok (.aload_n 0, 1) := by decide +kernel
theorem dX5_formAfter_13 : decode cX5_formAfter 13 = .ok (.getfield 31, 3) := by decide +kernel
theorem dX5_formAfter_16 : decode cX5_formAfter 16 = .ok (.ireturn, 1) := by decide +kernel
theorem dX6_init_0 : decode cX6_init 0 = .ok (.aload_n 0, 1) := by decide +kernel
theorem dX6_init_1 : decode cX6_init 1 = .ok (.invokespecial 3, 3) := by decide +kernel
theorem dX6_init_4 : decode cX6_init 4 = .ok (.aload_n 0, 1) := by decide +kernel
theorem dX6_init_5 : decode cX6_init 5 = .ok (.iload_n 1, 1) := by decide +kernel
theorem dX6_init_6 : decode cX6_init 6 = .ok (.putfield 9, 3) := by decide +kernel
theorem dX6_init_9 : decode cX6_init 9 = .ok (.aload_n 0, 1) := by decide +kernel
theorem dX6_init_10 : decode cX6_init 10 = .ok (.iload_n 2, 1) := by decide +kernel
theorem dX6_init_11 : decode cX6_init 11 = .ok (.putfield 15, 3) := by decide +kernel
theorem dX6_init_14 : decode cX6_init 14 = .ok (.aload_n 0, 1) := by decide +kernel
theorem dX6_init_15 : decode cX6_init 15 = .ok (.iload_n 3, 1) := by decide +kernel
theorem dX6_init_16 : decode cX6_init 16 = .ok (.putfield 18, 3) := by decide +kernel
theorem dX6_init_19 : decode cX6_init 19 = .ok (.aload_n 0, 1) := by decide +kernel
theorem dX6_init_20 : decode cX6_init 20 = .ok (.iload 4, 2) := by decide +kernel
theorem dX6_init_22 : decode cX6_init 22 = .ok (.putfield 21, 3) := by decide +kernel
theorem dX6_init_25 : decode cX6_init 25 = .ok (.aload_n 0, 1) := by decide +kernel
theorem dX6_init_26 : decode cX6_init 26 = .ok (.iload 5, 2) := by decide +kernel
theorem dX6_init_28 : decode cX6_init 28 = .ok (.putfield 24, 3) := by decide +kernel
theorem dX6_init_31 : decode cX6_init 31 = .ok (.return_, 1) := by decide +kernel
theorem dX6_knownWith_0 : decode cX6_knownWith 0 = .ok (.iconst 1, 1) := by decide +kernel
theorem dX6_knownWith_1 : decode cX6_knownWith 1 = .ok (.iload_n 1, 1) := by decide +kernel
theorem dX6_knownWith_2 : decode cX6_knownWith 2 = .ok (.iload_n 2, 1) := by decide +kernel
theorem dX6_knownWith_3 : decode cX6_knownWith 3 = .ok (.invokestatic 27, 3) := by decide +kernel
theorem dX6_knownWith_6 : decode cX6_knownWith 6 = .ok (.ishl, 1) := by decide +kernel
theorem dX6_knownWith_7 : decode cX6_knownWith 7 = .ok (.istore_n 3, 1) := by decide +kernel
theorem dX6_knownWith_8 : decode cX6_knownWith 8 = .ok (.aload_n 0, 1) := by decide +kernel
theorem dX6_knownWith_9 : decode cX6_knownWith 9 = .ok (.getfield 24, 3) := by decide +kernel
theorem dX6_knownWith_12 : decode cX6_knownWith 12 = .ok (.iconst 2, 1) := by decide +kernel
theorem dX6_knownWith_13 : decode cX6_knownWith 13 = .ok (.iand, 1) := by decide +kernel
theorem dX6_knownWith_14 : decode cX6_knownWith 14 = .ok (.ifCond .eq 7, 3) := by decide +kernel
theorem dX6_knownWith_17 : decode cX6_knownWith 17 = .ok (.iconst 1, 1) := by decide +kernel
theorem dX6_knownWith_18 : decode cX6_knownWith 18 = .ok (.goto 4, 3) := by decide +kernel
theorem dX6_knownWith_21 : decode cX6_knownWith 21 = .ok (.iconst 0, 1) := by decide +kernel
theorem dX6_knownWith_22 : decode cX6_knownWith 22 = .ok (.istore 4, 2) := by decide +kernel
theorem dX6_knownWith_24 : decode cX6_knownWith 24 = .ok (.iload 4, 2) := by decide +kernel
theorem dX6_knownWith_26 : decode cX6_knownWith 26 = .ok (.ifCond .eq 7, 3) := by decide +kernel
theorem dX6_knownWith_29 : decode cX6_knownWith 29 = .ok (.iconst 0, 1) := by decide +kernel
theorem dX6_knownWith_30 : decode cX6_knownWith 30 = .ok (.goto 4, 3) := by decide +kernel
theorem dX6_knownWith_33 : decode cX6_knownWith 33 = .ok (.iload_n 3, 1) := by decide +kernel
theorem dX6_knownWith_34 : decode cX6_knownWith 34 = .ok (.istore 5, 2) := by decide +kernel
theorem dX6_knownWith_36 : decode cX6_knownWith 36 = .ok (.iload 4, 2) := by decide +kernel
theorem dX6_knownWith_38 : decode cX6_knownWith 38 = .ok (.ifCond .ne 12, 3) := by decide +kernel
theorem dX6_knownWith_41 : decode cX6_knownWith 41 = .ok (.aload_n 0, 1) := by decide +kernel
theorem dX6_knownWith_42 : decode cX6_knownWith 42 = .ok (.getfield 24, 3) := by decide +kernel
theorem dX6_knownWith_45 : decode cX6_knownWith 45 = .ok (.iconst 4, 1) := by decide +kernel
theorem dX6_knownWith_46 : decode cX6_knownWith 46 = .ok (.iand, 1) := by decide +kernel
theorem dX6_knownWith_47 : decode cX6_knownWith 47 = .ok (.ifCond .eq 12, 3) := by decide +kernel
theorem dX6_knownWith_50 : decode cX6_knownWith 50 = .ok (.iload 5, 2) := by decide +kernel
theorem dX6_knownWith_52 : decode cX6_knownWith 52 = .ok (.iload_n 3, 1) := by decide +kernel
theorem dX6_knownWith_53 : decode cX6_knownWith 53 = .ok (.bipush 8, 2) := by decide +kernel
theorem dX6_knownWith_55 : decode cX6_knownWith 55 = .ok (.ishl, 1) := by decide +kernel
theorem dX6_knownWith_56 : decode cX6_knownWith 56 = .ok (.ior, 1) := by decide +kernel
theorem dX6_knownWith_57 : decode cX6_knownWith 57 = .ok (.istore 5, 2) := by decide +kernel
theorem dX6_knownWith_59 : decode cX6_knownWith 59 = .ok (.iload 4, 2) := by decide +kernel
theorem dX6_knownWith_61 : decode cX6_knownWith 61 = .ok (.ifCond .ne 19, 3) := by decide +kernel
theorem dX6_knownWith_64 : decode cX6_knownWith 64 = .ok (.aload_n 0, 1) := by decide +kernel
theorem dX6_knownWith_65 : decode cX6_knownWith 65 = .ok (.getfield 24, 3) := by decide +kernel
theorem dX6_knownWith_68 : decode cX6_knownWith 68 = .ok (.iconst 1, 1) := by decide +kernel
theorem dX6_knownWith_69 : decode cX6_knownWith 69 = .ok (.iand, 1) := by decide +kernel
theorem dX6_knownWith_70 : decode cX6_knownWith 70 = .ok (.ifCond .ne 10, 3) := by decide +kernel
theorem dX6_knownWith_73 : decode cX6_knownWith 73 = .ok (.iload 5, 2) := by decide +kernel
theorem dX6_knownWith_75 : decode cX6_knownWith 75 = .ok (.ldc 31, 2) := by decide +kernel
theorem dX6_knownWith_77 : decode cX6_knownWith 77 = .ok (.ior, 1) := by decide +kernel
theorem dX6_knownWith_78 : decode cX6_knownWith 78 = .ok (.istore 5, 2) := by decide +kernel
theorem dX6_knownWith_80 : decode cX6_knownWith 80 = .ok (.iload 5, 2) := by decide +kernel
theorem dX6_knownWith_82 : decode cX6_knownWith 82 = .ok (.ireturn, 1) := by decide +kernel
theorem dX7_init_0 : decode cX7_init 0 = .ok (.aload_n 0, 1) := by decide +kernel
theorem dX7_init_1 : decode cX7_init 1 = .ok (.invokespecial 3, 3) := by decide +kernel
theorem dX7_init_4 : decode cX7_init 4 = .ok (.aload_n 0, 1) := by decide +kernel
theorem dX7_init_5 : decode cX7_init 5 = .ok (.new 9, 3) := by decide +kernel
theorem dX7_init_8 : decode cX7_init 8 = .ok (.dup, 1) := by decide +kernel
theorem dX7_init_9 : decode cX7_init 9 = .ok (.iconst 3, 1) := by decide +kernel
theorem dX7_init_10 : decode cX7_init 10 = .ok (.invokespecial 11, 3) := by decide +kernel
theorem dX7_init_13 : decode cX7_init 13 = .ok (.putfield 14, 3) := by decide +kernel
theorem dX7_init_16 : decode cX7_init 16 = .ok (.aload_n 0, 1) := by decide +kernel
theorem dX7_init_17 : decode cX7_init 17 = .ok (.iconst 1, 1) := by decide +kernel
theorem dX7_init_18 : decode cX7_init 18 = .ok (.putfield 20, 3) := by decide +kernel
theorem dX7_init_21 : decode cX7_init 21 = .ok (.return_, 1) := by decide +kernel
theorem dX7_addItem_0 : decode cX7_addItem 0 = .ok (.aload_n 0, 1) := by decide +kernel
theorem dX7_addItem_1 : decode cX7_addItem 1 = .ok (.getfield 14, 3) := by decide +kernel
theorem dX7_addItem_4 : decode cX7_addItem 4 = .ok (.aload_n 0, 1) := by decide +kernel
theorem dX7_addItem_5 : decode cX7_addItem 5 = .ok (.getfield 24, 3) := by decide +kernel
theorem dX7_addItem_8 : decode cX7_addItem 8 = .ok (.iload_n 1, 1) := by decide +kernel
theorem dX7_addItem_9 : decode cX7_addItem 9 = .ok (.invokevirtual 27, 3) := by decide +kernel
theorem dX7_addItem_12 : decode cX7_addItem 12 = .ok (.aload_n 0, 1) := by decide +kernel
theorem dX7_addItem_13 : decode cX7_addItem 13 = .ok (.dup, 1) := by decide +kernel
theorem dX7_addItem_14 : decode cX7_addItem 14 = .ok (.getfield 24, 3) := by decide +kernel
theorem dX7_addItem_17 : decode cX7_addItem 17 = .ok (.iconst 1, 1) := by decide +kernel
theorem dX7_addItem_18 : decode cX7_addItem 18 = .ok (.iadd, 1) := by decide +kernel
theorem dX7_addItem_19 : decode cX7_addItem 19 = .ok (.putfield 24, 3) := by decide +kernel
theorem dX7_addItem_22 : decode cX7_addItem 22 = .ok (.return_, 1) := by decide +kernel
theorem dX7_setChange_0 : decode cX7_setChange 0 = .ok (.aload_n 0, 1) := by decide +kernel
theorem dX7_setChange_1 : decode cX7_setChange 1 = .ok (.iload_n 1, 1) := by decide +kernel
theorem dX7_setChange_2 : decode cX7_setChange 2 = .ok (.putfield 31, 3) := by decide +kernel
theorem dX7_setChange_5 : decode cX7_setChange 5 = .ok (.aload_n 0, 1) := by decide +kernel
theorem dX7_setChange_6 : decode cX7_setChange 6 = .ok (.iload_n 2, 1) := by decide +kernel
theorem dX7_setChange_7 : decode cX7_setChange 7 = .ok (.putfield 20, 3) := by decide +kernel
theorem dX7_setChange_10 : decode cX7_setChange 10 = .ok (.return_, 1) := by decide +kernel
theorem dX7_fits_0 : decode cX7_fits 0 = .ok (.iload_n 3, 1) := by decide +kernel
theorem dX7_fits_1 : decode cX7_fits 1 = .ok (.aload_n 0, 1) := by decide +kernel
theorem dX7_fits_2 : decode cX7_fits 2 = .ok (.getfield 24, 3) := by decide +kernel
theorem dX7_fits_5 : decode cX7_fits 5 = .ok (.iadd, 1) := by decide +kernel
theorem dX7_fits_6 : decode cX7_fits 6 = .ok (.iload 4, 2) := by decide +kernel
theorem dX7_fits_8 : decode cX7_fits 8 = .ok (.if_icmp .le 5, 3) := by decide +kernel
theorem dX7_fits_11 : decode cX7_fits 11 = .ok (.iconst 0, 1) := by decide +kernel
theorem dX7_fits_12 : decode cX7_fits 12 = .ok (.ireturn, 1) := by decide +kernel
theorem dX7_fits_13 : decode cX7_fits 13 = .ok (.iconst 0, 1) := by decide +kernel
theorem dX7_fits_14 : decode cX7_fits 14 = .ok (.istore 5, 2) := by decide +kernel
theorem dX7_fits_16 : decode cX7_fits 16 = .ok (.iload 5, 2) := by decide +kernel
theorem dX7_fits_18 : decode cX7_fits 18 = .ok (.aload_n 0, 1) := by decide +kernel
theorem dX7_fits_19 : decode cX7_fits 19 = .ok (.getfield 24, 3) := by decide +kernel
theorem dX7_fits_22 : decode cX7_fits 22 = .ok (.if_icmp .ge 42, 3) := by decide +kernel
theorem dX7_fits_25 : decode cX7_fits 25 = .ok (.aload_n 0, 1) := by decide +kernel
theorem dX7_fits_26 : decode cX7_fits 26 = .ok (.getfield 14, 3) := by decide +kernel
theorem dX7_fits_29 : decode cX7_fits 29 = .ok (.iload 5, 2) := by decide +kernel
theorem dX7_fits_31 : decode cX7_fits 31 = .ok (.invokevirtual 34, 3) := by decide +kernel
theorem dX7_fits_34 : decode cX7_fits 34 = .ok (.aload_n 1, 1) := by decide +kernel
theorem dX7_fits_35 : decode cX7_fits 35 = .ok (.iload_n 3, 1) := by decide +kernel
theorem dX7_fits_36 : decode cX7_fits 36 = .ok (.iload 5, 2) := by decide +kernel
theorem dX7_fits_38 : decode cX7_fits 38 = .ok (.iadd, 1) := by decide +kernel
theorem dX7_fits_39 : decode cX7_fits 39 = .ok (.invokevirtual 38, 3) := by decide +kernel
theorem dX7_fits_42 : decode cX7_fits 42 = .ok (.aload_n 2, 1) := by decide +kernel
theorem dX7_fits_43 : decode cX7_fits 43 = .ok (.iload_n 3, 1) := by decide +kernel
theorem dX7_fits_44 : decode cX7_fits 44 = .ok (.iload 5, 2) := by decide +kernel
theorem dX7_fits_46 : decode cX7_fits 46 = .ok (.iadd, 1) := by decide +kernel
theorem dX7_fits_47 : decode cX7_fits 47 = .ok (.invokevirtual 34, 3) := by decide +kernel
theorem dX7_fits_50 : decode cX7_fits 50 = .ok (.invokestatic 43, 3) := by decide +kernel
theorem dX7_fits_53 : decode cX7_fits 53 = .ok (.ifCond .ne 5, 3) := by decide +kernel
theorem dX7_fits_56 : decode cX7_fits 56 = .ok (.iconst 0, 1) := by decide +kernel
theorem dX7_fits_57 : decode cX7_fits 57 = .ok (.ireturn, 1) := by decide +kernel
theorem dX7_fits_58 : decode cX7_fits 58 = .ok (.iinc 5 1, 3) := by decide +kernel
theorem dX7_fits_61 : decode cX7_fits 61 = .ok (.goto (-45), 3) := by decide +kernel
theorem dX7_fits_64 : decode cX7_fits 64 = .ok (.iconst 1, 1) := by decide +kernel
theorem dX7_fits_65 : decode cX7_fits 65 = .ok (.ireturn, 1) := by decide +kernel
theorem dX7_fitsItem_0 : decode cX7_fitsItem 0 = .ok (.iload_n 0, 1) := by decide +kernel
theorem dX7_fitsItem_1 : decode cX7_fitsItem 1 = .ok (.iconst 3, 1) := by decide +kernel
theorem dX7_fitsItem_2 : decode cX7_fitsItem 2 = .ok (.if_icmp .le 16, 3) := by decide +kernel
theorem dX7_fitsItem_5 : decode cX7_fitsItem 5 = .ok (.iload_n 0, 1) := by decide +kernel
theorem dX7_fitsItem_6 : decode cX7_fitsItem 6 = .ok (.iload_n 1, 1) := by decide +kernel
theorem dX7_fitsItem_7 : decode cX7_fitsItem 7 = .ok (.if_icmp .ne 7, 3) := by decide +kernel
theorem dX7_fitsItem_10 : decode cX7_fitsItem 10 = .ok (.iconst 1, 1) := by decide +kernel
theorem dX7_fitsItem_11 : decode cX7_fitsItem 11 = .ok (.goto 24, 3) := by decide +kernel
theorem dX7_fitsItem_14 : decode cX7_fitsItem 14 = .ok (.iconst 0, 1) := by decide +kernel
theorem dX7_fitsItem_15 : decode cX7_fitsItem 15 = .ok (.goto 20, 3) := by decide +kernel
theorem dX7_fitsItem_18 : decode cX7_fitsItem 18 = .ok (.iload_n 2, 1) := by decide +kernel
theorem dX7_fitsItem_19 : decode cX7_fitsItem 19 = .ok (.iconst (-1), 1) := by decide +kernel
theorem dX7_fitsItem_20 : decode cX7_fitsItem 20 = .ok (.if_icmp .eq 14, 3) := by decide +kernel
theorem dX7_fitsItem_23 : decode cX7_fitsItem 23 = .ok (.iload_n 0, 1) := by decide +kernel
theorem dX7_fitsItem_24 : decode cX7_fitsItem 24 = .ok (.iload_n 2, 1) := by decide +kernel
theorem dX7_fitsItem_25 : decode cX7_fitsItem 25 = .ok (.iconst 2, 1) := by decide +kernel
theorem dX7_fitsItem_26 : decode cX7_fitsItem 26 = .ok (.idiv, 1) := by decide +kernel
theorem dX7_fitsItem_27 : decode cX7_fitsItem 27 = .ok (.if_icmp .ne 7, 3) := by decide +kernel
theorem dX7_fitsItem_30 : decode cX7_fitsItem 30 = .ok (.iconst 1, 1) := by decide +kernel
theorem dX7_fitsItem_31 : decode cX7_fitsItem 31 = .ok (.goto 4, 3) := by decide +kernel
theorem dX7_fitsItem_34 : decode cX7_fitsItem 34 = .ok (.iconst 0, 1) := by decide +kernel
theorem dX7_fitsItem_35 : decode cX7_fitsItem 35 = .ok (.ireturn, 1) := by decide +kernel
theorem dX8_init_0 : decode cX8_init 0 = .ok (.aload_n 0, 1) := by decide +kernel
theorem dX8_init_1 : decode cX8_init 1 = .ok (.invokespecial 3, 3) := by decide +kernel
theorem dX8_init_4 : decode cX8_init 4 = .ok (.aload_n 0, 1) := by decide +kernel
theorem dX8_init_5 : decode cX8_init 5 = .ok (.new 9, 3) := by decide +kernel
theorem dX8_init_8 : decode cX8_init 8 = .ok (.dup, 1) := by decide +kernel
theorem dX8_init_9 : decode cX8_init 9 = .ok (.bipush 64, 2) := by decide +kernel
theorem dX8_init_11 : decode cX8_init 11 = .ok (.invokespecial 11, 3) := by decide +kernel
theorem dX8_init_14 : decode cX8_init 14 = .ok (.putfield 14, 3) := by decide +kernel
theorem dX8_init_17 : decode cX8_init 17 = .ok (.aload_n 0, 1) := by decide +kernel
theorem dX8_init_18 : decode cX8_init 18 = .ok (.new 9, 3) := by decide +kernel
theorem dX8_init_21 : decode cX8_init 21 = .ok (.dup, 1) := by decide +kernel
theorem dX8_init_22 : decode cX8_init 22 = .ok (.bipush 100, 2) := by decide +kernel
theorem dX8_init_24 : decode cX8_init 24 = .ok (.invokespecial 11, 3) := by decide +kernel
theorem dX8_init_27 : decode cX8_init 27 = .ok (.putfield 20, 3) := by decide +kernel
theorem dX8_init_30 : decode cX8_init 30 = .ok (.aload_n 0, 1) := by decide +kernel
theorem dX8_init_31 : decode cX8_init 31 = .ok (.new 9, 3) := by decide +kernel
theorem dX8_init_34 : decode cX8_init 34 = .ok (.dup, 1) := by decide +kernel
theorem dX8_init_35 : decode cX8_init 35 = .ok (.bipush 10, 2) := by decide +kernel
theorem dX8_init_37 : decode cX8_init 37 = .ok (.invokespecial 11, 3) := by decide +kernel
theorem dX8_init_40 : decode cX8_init 40 = .ok (.putfield 23, 3) := by decide +kernel
theorem dX8_init_43 : decode cX8_init 43 = .ok (.aload_n 0, 1) := by decide +kernel
theorem dX8_init_44 : decode cX8_init 44 = .ok (.new 9, 3) := by decide +kernel
theorem dX8_init_47 : decode cX8_init 47 = .ok (.dup, 1) := by decide +kernel
theorem dX8_init_48 : decode cX8_init 48 = .ok (.sipush 1111, 3) := by decide +kernel
theorem dX8_init_51 : decode cX8_init 51 = .ok (.invokespecial 11, 3) := by decide +kernel
theorem dX8_init_54 : decode cX8_init 54 = .ok (.putfield 26, 3) := by decide +kernel
theorem dX8_init_57 : decode cX8_init 57 = .ok (.aload_n 0, 1) := by decide +kernel
theorem dX8_init_58 : decode cX8_init 58 = .ok (.new 9, 3) := by decide +kernel
theorem dX8_init_61 : decode cX8_init 61 = .ok (.dup, 1) := by decide +kernel
theorem dX8_init_62 : decode cX8_init 62 = .ok (.sipush 1558, 3) := by decide +kernel
theorem dX8_init_65 : decode cX8_init 65 = .ok (.invokespecial 11, 3) := by decide +kernel
theorem dX8_init_68 : decode cX8_init 68 = .ok (.putfield 29, 3) := by decide +kernel
theorem dX8_init_71 : decode cX8_init 71 = .ok (.aload_n 0, 1) := by decide +kernel
theorem dX8_init_72 : decode cX8_init 72 = .ok (.new 9, 3) := by decide +kernel
theorem dX8_init_75 : decode cX8_init 75 = .ok (.dup, 1) := by decide +kernel
theorem dX8_init_76 : decode cX8_init 76 = .ok (.iconst 5, 1) := by decide +kernel
theorem dX8_init_77 : decode cX8_init 77 = .ok (.invokespecial 11, 3) := by decide +kernel
theorem dX8_init_80 : decode cX8_init 80 = .ok (.putfield 32, 3) := by decide +kernel
theorem dX8_init_83 : decode cX8_init 83 = .ok (.return_, 1) := by decide +kernel
theorem dX8_addSound_0 : decode cX8_addSound 0 = .ok (.aload_n 0, 1) := by decide +kernel
theorem dX8_addSound_1 : decode cX8_addSound 1 = .ok (.getfield 14, 3) := by decide +kernel
theorem dX8_addSound_4 : decode cX8_addSound 4 = .ok (.iload_n 1, 1) := by decide +kernel
theorem dX8_addSound_5 : decode cX8_addSound 5 = .ok (.bipush 8, 2) := by decide +kernel
theorem dX8_addSound_7 : decode cX8_addSound 7 = .ok (.imul, 1) := by decide +kernel
theorem dX8_addSound_8 : decode cX8_addSound 8 = .ok (.iload_n 2, 1) := by decide +kernel
theorem dX8_addSound_9 : decode cX8_addSound 9 = .ok (.iadd, 1) := by decide +kernel
theorem dX8_addSound_10 : decode cX8_addSound 10 = .ok (.invokevirtual 35, 3) := by decide +kernel
theorem dX8_addSound_13 : decode cX8_addSound 13 = .ok (.ifCond .ne 7, 3) := by decide +kernel
theorem dX8_addSound_16 : decode cX8_addSound 16 = .ok (.iconst 1, 1) := by decide +kernel
theorem dX8_addSound_17 : decode cX8_addSound 17 = .ok (.goto 4, 3) := by decide +kernel
theorem dX8_addSound_20 : decode cX8_addSound 20 = .ok (.iconst 0, 1) := by decide +kernel
theorem dX8_addSound_21 : decode cX8_addSound 21 = .ok (.istore_n 3, 1) := by decide +kernel
theorem dX8_addSound_22 : decode cX8_addSound 22 = .ok (.aload_n 0, 1) := by decide +kernel
theorem dX8_addSound_23 : decode cX8_addSound 23 = .ok (.getfield 14, 3) := by decide +kernel
theorem dX8_addSound_26 : decode cX8_addSound 26 = .ok (.iload_n 1, 1) := by decide +kernel
theorem dX8_addSound_27 : decode cX8_addSound 27 = .ok (.bipush 8, 2) := by decide +kernel
theorem dX8_addSound_29 : decode cX8_addSound 29 = .ok (.imul, 1) := by decide +kernel
theorem dX8_addSound_30 : decode cX8_addSound 30 = .ok (.iload_n 2, 1) := by decide +kernel
theorem dX8_addSound_31 : decode cX8_addSound 31 = .ok (.iadd, 1) := by decide +kernel
theorem dX8_addSound_32 : decode cX8_addSound 32 = .ok (.iconst 1, 1) := by decide +kernel
theorem dX8_addSound_33 : decode cX8_addSound 33 = .ok (.invokevirtual 39, 3) := by decide +kernel
theorem dX8_addSound_36 : decode cX8_addSound 36 = .ok (.aload_n 0, 1) := by decide +kernel
theorem dX8_addSound_37 : decode cX8_addSound 37 = .ok (.getfield 14, 3) := by decide +kernel
theorem dX8_addSound_40 : decode cX8_addSound 40 = .ok (.iload_n 2, 1) := by decide +kernel
theorem dX8_addSound_41 : decode cX8_addSound 41 = .ok (.bipush 8, 2) := by decide +kernel
theorem dX8_addSound_43 : decode cX8_addSound 43 = .ok (.imul, 1) := by decide +kernel
theorem dX8_addSound_44 : decode cX8_addSound 44 = .ok (.iload_n 1, 1) := by decide +kernel
theorem dX8_addSound_45 : decode cX8_addSound 45 = .ok (.iadd, 1) := by decide +kernel
theorem dX8_addSound_46 : decode cX8_addSound 46 = .ok (.iconst 1, 1) := by decide +kernel
theorem dX8_addSound_47 : decode cX8_addSound 47 = .ok (.invokevirtual 39, 3) := by decide +kernel
theorem dX8_addSound_50 : decode cX8_addSound 50 = .ok (.iload_n 3, 1) := by decide +kernel
theorem dX8_addSound_51 : decode cX8_addSound 51 = .ok (.ireturn, 1) := by decide +kernel
theorem dX8_count_0 : decode cX8_count 0 = .ok (.aload_n 0, 1) := by decide +kernel
theorem dX8_count_1 : decode cX8_count 1 = .ok (.getfield 43, 3) := by decide +kernel
theorem dX8_count_4 : decode cX8_count 4 = .ok (.ireturn, 1) := by decide +kernel
theorem dX8_listedWord_0 : decode cX8_listedWord 0 = .ok (.aload_n 0, 1) := by decide +kernel
theorem dX8_listedWord_1 : decode cX8_listedWord 1 = .ok (.getfield 29, 3) := by decide +kernel
theorem dX8_listedWord_4 : decode cX8_listedWord 4 = .ok (.iload_n 1, 1) := by decide +kernel
theorem dX8_listedWord_5 : decode cX8_listedWord 5 = .ok (.invokevirtual 35, 3) := by decide +kernel
theorem dX8_listedWord_8 : decode cX8_listedWord 8 = .ok (.ireturn, 1) := by decide +kernel
theorem dX8_costOfListed_0 : decode cX8_costOfListed 0 = .ok (.iconst 1, 1) := by decide +kernel
theorem dX8_costOfListed_1 : decode cX8_costOfListed 1 = .ok (.istore_n 2, 1) := by decide +kernel
theorem dX8_costOfListed_2 : decode cX8_costOfListed 2 = .ok (.iload_n 2, 1) := by decide +kernel
theorem dX8_costOfListed_3 : decode cX8_costOfListed 3 = .ok (.iconst 4, 1) := by decide +kernel
theorem dX8_costOfListed_4 : decode cX8_costOfListed 4 = .ok (.if_icmp .ge 21, 3) := by decide +kernel
theorem dX8_costOfListed_7 : decode cX8_costOfListed 7 = .ok (.iload_n 1, 1) := by decide +kernel
theorem dX8_costOfListed_8 : decode cX8_costOfListed 8 = .ok (.aload_n 0, 1) := by decide +kernel
theorem dX8_costOfListed_9 : decode cX8_costOfListed 9 = .ok (.getfield 32, 3) := by decide +kernel
theorem dX8_costOfListed_12 : decode cX8_costOfListed 12 = .ok (.iload_n 2, 1) := by decide +kernel
theorem dX8_costOfListed_13 : decode cX8_costOfListed 13 = .ok (.invokevirtual 35, 3) := by decide +kernel
theorem dX8_costOfListed_16 : decode cX8_costOfListed 16 = .ok (.if_icmp .lt 9, 3) := by decide +kernel
theorem dX8_costOfListed_19 : decode cX8_costOfListed 19 = .ok (.iinc 2 1, 3) := by decide +kernel
theorem dX8_costOfListed_22 : decode cX8_costOfListed 22 = .ok (.goto (-20), 3) := by decide +kernel
theorem dX8_costOfListed_25 : decode cX8_costOfListed 25 = .ok (.iload_n 2, 1) := by decide +kernel
theorem dX8_costOfListed_26 : decode cX8_costOfListed 26 = .ok (.ireturn, 1) := by decide +kernel
theorem dX8_list_0 : decode cX8_list 0 = .ok (.aload_n 0, 1) := by decide +kernel
theorem dX8_list_1 : decode cX8_list 1 = .ok (.aload_n 1, 1) := by decide +kernel
theorem dX8_list_2 : decode cX8_list 2 = .ok (.iload_n 2, 1) := by decide +kernel
theorem dX8_list_3 : decode cX8_list 3 = .ok (.invokevirtual 47, 3) := by decide +kernel
theorem dX8_list_6 : decode cX8_list 6 = .ok (.putfield 52, 3) := by decide +kernel
theorem dX8_list_9 : decode cX8_list 9 = .ok (.iconst 0, 1) := by decide +kernel
theorem dX8_list_10 : decode cX8_list 10 = .ok (.istore 5, 2) := by decide +kernel
theorem dX8_list_12 : decode cX8_list 12 = .ok (.iload 5, 2) := by decide +kernel
theorem dX8_list_14 : decode cX8_list 14 = .ok (.aload_n 0, 1) := by decide +kernel
theorem dX8_list_15 : decode cX8_list 15 = .ok (.getfield 52, 3) := by decide +kernel
theorem dX8_list_18 : decode cX8_list 18 = .ok (.if_icmp .ge 25, 3) := by decide +kernel
theorem dX8_list_21 : decode cX8_list 21 = .ok (.aload_n 0, 1) := by decide +kernel
theorem dX8_list_22 : decode cX8_list 22 = .ok (.getfield 20, 3) := by decide +kernel
theorem dX8_list_25 : decode cX8_list 25 = .ok (.iload 5, 2) := by decide +kernel
theorem dX8_list_27 : decode cX8_list 27 = .ok (.aload_n 1, 1) := by decide +kernel
theorem dX8_list_28 : decode cX8_list 28 = .ok (.iload_n 2, 1) := by decide +kernel
theorem dX8_list_29 : decode cX8_list 29 = .ok (.iload 5, 2) := by decide +kernel
theorem dX8_list_31 : decode cX8_list 31 = .ok (.invokevirtual 54, 3) := by decide +kernel
theorem dX8_list_34 : decode cX8_list 34 = .ok (.invokevirtual 39, 3) := by decide +kernel
theorem dX8_list_37 : decode cX8_list 37 = .ok (.iinc 5 1, 3) := by decide +kernel
theorem dX8_list_40 : decode cX8_list 40 = .ok (.goto (-28), 3) := by decide +kernel
theorem dX8_list_43 : decode cX8_list 43 = .ok (.aload_n 0, 1) := by decide +kernel
theorem dX8_list_44 : decode cX8_list 44 = .ok (.iconst 0, 1) := by decide +kernel
theorem dX8_list_45 : decode cX8_list 45 = .ok (.putfield 43, 3) := by decide +kernel
theorem dX8_list_48 : decode cX8_list 48 = .ok (.iconst 1, 1) := by decide +kernel
theorem dX8_list_49 : decode cX8_list 49 = .ok (.istore 5, 2) := by decide +kernel
theorem dX8_list_51 : decode cX8_list 51 = .ok (.iload 5, 2) := by decide +kernel
theorem dX8_list_53 : decode cX8_list 53 = .ok (.iconst 4, 1) := by decide +kernel
theorem dX8_list_54 : decode cX8_list 54 = .ok (.if_icmp .gt 19, 3) := by decide +kernel
theorem dX8_list_57 : decode cX8_list 57 = .ok (.aload_n 0, 1) := by decide +kernel
theorem dX8_list_58 : decode cX8_list 58 = .ok (.getfield 32, 3) := by decide +kernel
theorem dX8_list_61 : decode cX8_list 61 = .ok (.iload 5, 2) := by decide +kernel
theorem dX8_list_63 : decode cX8_list 63 = .ok (.iconst 0, 1) := by decide +kernel
theorem dX8_list_64 : decode cX8_list 64 = .ok (.invokevirtual 39, 3) := by decide +kernel
theorem dX8_list_67 : decode cX8_list 67 = .ok (.iinc 5 1, 3) := by decide +kernel
theorem dX8_list_70 : decode cX8_list 70 = .ok (.goto (-19), 3) := by decide +kernel
theorem dX8_list_73 : decode cX8_list 73 = .ok (.iconst 0, 1) := by decide +kernel
theorem dX8_list_74 : decode cX8_list 74 = .ok (.istore 5, 2) := by decide +kernel
theorem dX8_list_76 : decode cX8_list 76 = .ok (.iload 5, 2) := by decide +kernel
theorem dX8_list_78 : decode cX8_list 78 = .ok (.aload_n 3, 1) := by decide +kernel
theorem dX8_list_79 : decode cX8_list 79 = .ok (.invokevirtual 58, 3) := by decide +kernel
theorem dX8_list_82 : decode cX8_list 82 = .ok (.if_icmp .ge 45, 3) := by decide +kernel
theorem dX8_list_85 : decode cX8_list 85 = .ok (.aload_n 3, 1) := by decide +kernel
theorem dX8_list_86 : decode cX8_list 86 = .ok (.iload 5, 2) := by decide +kernel
theorem dX8_list_88 : decode cX8_list 88 = .ok (.invokevirtual 63, 3) := by decide +kernel
theorem dX8_list_91 : decode cX8_list 91 = .ok (.istore 6, 2) := by decide +kernel
theorem dX8_list_93 : decode cX8_list 93 = .ok (.aload_n 0, 1) := by decide +kernel
theorem dX8_list_94 : decode cX8_list 94 = .ok (.iload 6, 2) := by decide +kernel
theorem dX8_list_96 : decode cX8_list 96 = .ok (.iload 4, 2) := by decide +kernel
theorem dX8_list_98 : decode cX8_list 98 = .ok (.invokevirtual 66, 3) := by decide +kernel
theorem dX8_list_101 : decode cX8_list 101 = .ok (.istore 7, 2) := by decide +kernel
theorem dX8_list_103 : decode cX8_list 103 = .ok (.iload 7, 2) := by decide +kernel
theorem dX8_list_105 : decode cX8_list 105 = .ok (.iconst 1, 1) := by decide +kernel
theorem dX8_list_106 : decode cX8_list 106 = .ok (.iconst 4, 1) := by decide +kernel
theorem dX8_list_107 : decode cX8_list 107 = .ok (.invokestatic 69, 3) := by decide +kernel
theorem dX8_list_110 : decode cX8_list 110 = .ok (.ifCond .eq 11, 3) := by decide +kernel
theorem dX8_list_113 : decode cX8_list 113 = .ok (.aload_n 0, 1) := by decide +kernel
theorem dX8_list_114 : decode cX8_list 114 = .ok (.iload 6, 2) := by decide +kernel
theorem dX8_list_116 : decode cX8_list 116 = .ok (.iload 7, 2) := by decide +kernel
theorem dX8_list_118 : decode cX8_list 118 = .ok (.invokevirtual 73, 3) := by decide +kernel
theorem dX8_list_121 : decode cX8_list 121 = .ok (.iinc 5 1, 3) := by decide +kernel
theorem dX8_list_124 : decode cX8_list 124 = .ok (.goto (-48), 3) := by decide +kernel
theorem dX8_list_127 : decode cX8_list 127 = .ok (.return_, 1) := by decide +kernel
theorem dX8_addSuggestion_0 : decode cX8_addSuggestion 0 = .ok (.aload_n 0, 1) := by decide +kernel
theorem dX8_addSuggestion_1 : decode cX8_addSuggestion 1 = .ok (.getfield 29, 3) := by decide +kernel
theorem dX8_addSuggestion_4 : decode cX8_addSuggestion 4 = .ok (.aload_n 0, 1) := by decide +kernel
theorem dX8_addSuggestion_5 : decode cX8_addSuggestion 5 = .ok (.getfield 32, 3) := by decide +kernel
theorem dX8_addSuggestion_8 : decode cX8_addSuggestion 8 = .ok (.iload_n 2, 1) := by decide +kernel
theorem dX8_addSuggestion_9 : decode cX8_addSuggestion 9 = .ok (.invokevirtual 35, 3) := by decide +kernel
theorem dX8_addSuggestion_12 : decode cX8_addSuggestion 12 = .ok (.iload_n 1, 1) := by decide +kernel
theorem dX8_addSuggestion_13 : decode cX8_addSuggestion 13 = .ok (.aload_n 0, 1) := by decide +kernel
theorem dX8_addSuggestion_14 : decode cX8_addSuggestion 14 = .ok (.getfield 43, 3) := by decide +kernel
theorem dX8_addSuggestion_17 : decode cX8_addSuggestion 17 = .ok (.invokevirtual 76, 3) := by decide +kernel
theorem dX8_addSuggestion_20 : decode cX8_addSuggestion 20 = .ok (.aload_n 0, 1) := by decide +kernel
theorem dX8_addSuggestion_21 : decode cX8_addSuggestion 21 = .ok (.dup, 1) := by decide +kernel
theorem dX8_addSuggestion_22 : decode cX8_addSuggestion 22 = .ok (.getfield 43, 3) := by decide +kernel
theorem dX8_addSuggestion_25 : decode cX8_addSuggestion 25 = .ok (.iconst 1, 1) := by decide +kernel
theorem dX8_addSuggestion_26 : decode cX8_addSuggestion 26 = .ok (.iadd, 1) := by decide +kernel
theorem dX8_addSuggestion_27 : decode cX8_addSuggestion 27 = .ok (.putfield 43, 3) := by decide +kernel
theorem dX8_addSuggestion_30 : decode cX8_addSuggestion 30 = .ok (.iload_n 2, 1) := by decide +kernel
theorem dX8_addSuggestion_31 : decode cX8_addSuggestion 31 = .ok (.istore_n 3, 1) := by decide +kernel
theorem dX8_addSuggestion_32 : decode cX8_addSuggestion 32 = .ok (.iload_n 3, 1) := by decide +kernel
theorem dX8_addSuggestion_33 : decode cX8_addSuggestion 33 = .ok (.iconst 4, 1) := by decide +kernel
theorem dX8_addSuggestion_34 : decode cX8_addSuggestion 34 = .ok (.if_icmp .gt 27, 3) := by decide +kernel
theorem dX8_addSuggestion_37 : decode cX8_addSuggestion 37 = .ok (.aload_n 0, 1) := by decide +kernel
theorem dX8_addSuggestion_38 : decode cX8_addSuggestion 38 = .ok (.getfield 32, 3) := by decide +kernel
theorem dX8_addSuggestion_41 : decode cX8_addSuggestion 41 = .ok (.iload_n 3, 1) := by decide +kernel
theorem dX8_addSuggestion_42 : decode cX8_addSuggestion 42 = .ok (.aload_n 0, 1) := by decide +kernel
theorem dX8_addSuggestion_43 : decode cX8_addSuggestion 43 = .ok (.getfield 32, 3) := by decide +kernel
theorem dX8_addSuggestion_46 : decode cX8_addSuggestion 46 = .ok (.iload_n 3, 1) := by decide +kernel
theorem dX8_addSuggestion_47 : decode cX8_addSuggestion 47 = .ok (.invokevirtual 35, 3) := by decide +kernel
theorem dX8_addSuggestion_50 : decode cX8_addSuggestion 50 = .ok (.iconst 1, 1) := by decide +kernel
theorem dX8_addSuggestion_51 : decode cX8_addSuggestion 51 = .ok (.iadd, 1) := by decide +kernel
theorem dX8_addSuggestion_52 : decode cX8_addSuggestion 52 = .ok (.invokevirtual 39, 3) := by decide +kernel
theorem dX8_addSuggestion_55 : decode cX8_addSuggestion 55 = .ok (.iinc 3 1, 3) := by decide +kernel
theorem dX8_addSuggestion_58 : decode cX8_addSuggestion 58 = .ok (.goto (-26), 3) := by decide +kernel
theorem dX8_addSuggestion_61 : decode cX8_addSuggestion 61 = .ok (.return_, 1) := by decide +kernel
theorem dX8_costTo_0 : decode cX8_costTo 0 = .ok (.iload_n 1, 1) := by decide +kernel
theorem dX8_costTo_1 : decode cX8_costTo 1 = .ok (.invokestatic 80, 3) := by decide +kernel
theorem dX8_costTo_4 : decode cX8_costTo 4 = .ok (.istore_n 3, 1) := by decide +kernel
theorem dX8_costTo_5 : decode cX8_costTo 5 = .ok (.aload_n 0, 1) := by decide +kernel
theorem dX8_costTo_6 : decode cX8_costTo 6 = .ok (.getfield 52, 3) := by decide +kernel
theorem dX8_costTo_9 : decode cX8_costTo 9 = .ok (.iload_n 3, 1) := by decide +kernel
theorem dX8_costTo_10 : decode cX8_costTo 10 = .ok (.isub, 1) := by decide +kernel
theorem dX8_costTo_11 : decode cX8_costTo 11 = .ok (.invokestatic 83, 3) := by decide +kernel
theorem dX8_costTo_14 : decode cX8_costTo 14 = .ok (.iload_n 2, 1) := by decide +kernel
theorem dX8_costTo_15 : decode cX8_costTo 15 = .ok (.if_icmp .le 6, 3) := by decide +kernel
theorem dX8_costTo_18 : decode cX8_costTo 18 = .ok (.ldc 88, 2) := by decide +kernel
theorem dX8_costTo_20 : decode cX8_costTo 20 = .ok (.ireturn, 1) := by decide +kernel
theorem dX8_costTo_21 : decode cX8_costTo 21 = .ok (.iconst 0, 1) := by decide +kernel
theorem dX8_costTo_22 : decode cX8_costTo 22 = .ok (.istore 4, 2) := by decide +kernel
theorem dX8_costTo_24 : decode cX8_costTo 24 = .ok (.iload 4, 2) := by decide +kernel
theorem dX8_costTo_26 : decode cX8_costTo 26 = .ok (.iload_n 3, 1) := by decide +kernel
theorem dX8_costTo_27 : decode cX8_costTo 27 = .ok (.if_icmp .ge 24, 3) := by decide +kernel
theorem dX8_costTo_30 : decode cX8_costTo 30 = .ok (.aload_n 0, 1) := by decide +kernel
theorem dX8_costTo_31 : decode cX8_costTo 31 = .ok (.getfield 23, 3) := by decide +kernel
theorem dX8_costTo_34 : decode cX8_costTo 34 = .ok (.iload 4, 2) := by decide +kernel
theorem dX8_costTo_36 : decode cX8_costTo 36 = .ok (.iload_n 1, 1) := by decide +kernel
theorem dX8_costTo_37 : decode cX8_costTo 37 = .ok (.iload 4, 2) := by decide +kernel
theorem dX8_costTo_39 : decode cX8_costTo 39 = .ok (.invokestatic 89, 3) := by decide +kernel
theorem dX8_costTo_42 : decode cX8_costTo 42 = .ok (.invokevirtual 39, 3) := by decide +kernel
theorem dX8_costTo_45 : decode cX8_costTo 45 = .ok (.iinc 4 1, 3) := by decide +kernel
theorem dX8_costTo_48 : decode cX8_costTo 48 = .ok (.goto (-24), 3) := by decide +kernel
theorem dX8_costTo_51 : decode cX8_costTo 51 = .ok (.iconst 0, 1) := by decide +kernel
theorem dX8_costTo_52 : decode cX8_costTo 52 = .ok (.istore 4, 2) := by decide +kernel
theorem dX8_costTo_54 : decode cX8_costTo 54 = .ok (.iload 4, 2) := by decide +kernel
theorem dX8_costTo_56 : decode cX8_costTo 56 = .ok (.aload_n 0, 1) := by decide +kernel
theorem dX8_costTo_57 : decode cX8_costTo 57 = .ok (.getfield 52, 3) := by decide +kernel
theorem dX8_costTo_60 : decode cX8_costTo 60 = .ok (.if_icmp .gt 66, 3) := by decide +kernel
theorem dX8_costTo_63 : decode cX8_costTo 63 = .ok (.iload_n 3, 1) := by decide +kernel
theorem dX8_costTo_64 : decode cX8_costTo 64 = .ok (.iload 4, 2) := by decide +kernel
theorem dX8_costTo_66 : decode cX8_costTo 66 = .ok (.iload_n 2, 1) := by decide +kernel
theorem dX8_costTo_67 : decode cX8_costTo 67 = .ok (.iadd, 1) := by decide +kernel
theorem dX8_costTo_68 : decode cX8_costTo 68 = .ok (.invokestatic 92, 3) := by decide +kernel
theorem dX8_costTo_71 : decode cX8_costTo 71 = .ok (.istore 5, 2) := by decide +kernel
theorem dX8_costTo_73 : decode cX8_costTo 73 = .ok (.iconst 0, 1) := by decide +kernel
theorem dX8_costTo_74 : decode cX8_costTo 74 = .ok (.iload 4, 2) := by decide +kernel
theorem dX8_costTo_76 : decode cX8_costTo 76 = .ok (.iload_n 2, 1) := by decide +kernel
theorem dX8_costTo_77 : decode cX8_costTo 77 = .ok (.isub, 1) := by decide +kernel
theorem dX8_costTo_78 : decode cX8_costTo 78 = .ok (.invokestatic 95, 3) := by decide +kernel
theorem dX8_costTo_81 : decode cX8_costTo 81 = .ok (.istore 6, 2) := by decide +kernel
theorem dX8_costTo_83 : decode cX8_costTo 83 = .ok (.iload 6, 2) := by decide +kernel
theorem dX8_costTo_85 : decode cX8_costTo 85 = .ok (.iload 5, 2) := by decide +kernel
theorem dX8_costTo_87 : decode cX8_costTo 87 = .ok (.if_icmp .gt 33, 3) := by decide +kernel
theorem dX8_costTo_90 : decode cX8_costTo 90 = .ok (.aload_n 0, 1) := by decide +kernel
theorem dX8_costTo_91 : decode cX8_costTo 91 = .ok (.getfield 26, 3) := by decide +kernel
theorem dX8_costTo_94 : decode cX8_costTo 94 = .ok (.iload 4, 2) := by decide +kernel
theorem dX8_costTo_96 : decode cX8_costTo 96 = .ok (.bipush 11, 2) := by decide +kernel
theorem dX8_costTo_98 : decode cX8_costTo 98 = .ok (.imul, 1) := by decide +kernel
theorem dX8_costTo_99 : decode cX8_costTo 99 = .ok (.iload 6, 2) := by decide +kernel
theorem dX8_costTo_101 : decode cX8_costTo 101 = .ok (.iadd, 1) := by decide +kernel
theorem dX8_costTo_102 : decode cX8_costTo 102 = .ok (.aload_n 0, 1) := by decide +kernel
theorem dX8_costTo_103 : decode cX8_costTo 103 = .ok (.iload 4, 2) := by decide +kernel
theorem dX8_costTo_105 : decode cX8_costTo 105 = .ok (.iload 6, 2) := by decide +kernel
theorem dX8_costTo_107 : decode cX8_costTo 107 = .ok (.iload_n 2, 1) := by decide +kernel
theorem dX8_costTo_108 : decode cX8_costTo 108 = .ok (.invokevirtual 98, 3) := by decide +kernel
theorem dX8_costTo_111 : decode cX8_costTo 111 = .ok (.invokevirtual 39, 3) := by decide +kernel
theorem dX8_costTo_114 : decode cX8_costTo 114 = .ok (.iinc 6 1, 3) := by decide +kernel
theorem dX8_costTo_117 : decode cX8_costTo 117 = .ok (.goto (-34), 3) := by decide +kernel
theorem dX8_costTo_120 : decode cX8_costTo 120 = .ok (.iinc 4 1, 3) := by decide +kernel
theorem dX8_costTo_123 : decode cX8_costTo 123 = .ok (.goto (-69), 3) := by decide +kernel
theorem dX8_costTo_126 : decode cX8_costTo 126 = .ok (.aload_n 0, 1) := by decide +kernel
theorem dX8_costTo_127 : decode cX8_costTo 127 = .ok (.getfield 26, 3) := by decide +kernel
theorem dX8_costTo_130 : decode cX8_costTo 130 = .ok (.aload_n 0, 1) := by decide +kernel
theorem dX8_costTo_131 : decode cX8_costTo 131 = .ok (.getfield 52, 3) := by decide +kernel
theorem dX8_costTo_134 : decode cX8_costTo 134 = .ok (.bipush 11, 2) := by decide +kernel
theorem dX8_costTo_136 : decode cX8_costTo 136 = .ok (.imul, 1) := by decide +kernel
theorem dX8_costTo_137 : decode cX8_costTo 137 = .ok (.iload_n 3, 1) := by decide +kernel
theorem dX8_costTo_138 : decode cX8_costTo 138 = .ok (.iadd, 1) := by decide +kernel
theorem dX8_costTo_139 : decode cX8_costTo 139 = .ok (.invokevirtual 35, 3) := by decide +kernel
theorem dX8_costTo_142 : decode cX8_costTo 142 = .ok (.ireturn, 1) := by decide +kernel
theorem dX8_leastCost_0 : decode cX8_leastCost 0 = .ok (.iload_n 1, 1) := by decide +kernel
theorem dX8_leastCost_1 : decode cX8_leastCost 1 = .ok (.ifCond .ne 9, 3) := by decide +kernel
theorem dX8_leastCost_4 : decode cX8_leastCost 4 = .ok (.iload_n 2, 1) := by decide +kernel
theorem dX8_leastCost_5 : decode cX8_leastCost 5 = .ok (.ifCond .ne 5, 3) := by decide +kernel
theorem dX8_leastCost_8 : decode cX8_leastCost 8 = .ok (.iconst 0, 1) := by decide +kernel
theorem dX8_leastCost_9 : decode cX8_leastCost 9 = .ok (.ireturn, 1) := by decide +kernel
theorem dX8_leastCost_10 : decode cX8_leastCost 10 = .ok (.aload_n 0, 1) := by decide +kernel
theorem dX8_leastCost_11 : decode cX8_leastCost 11 = .ok (.iload_n 1, 1) := by decide +kernel
theorem dX8_leastCost_12 : decode cX8_leastCost 12 = .ok (.iconst 1, 1) := by decide +kernel
theorem dX8_leastCost_13 : decode cX8_leastCost 13 = .ok (.isub, 1) := by decide +kernel
theorem dX8_leastCost_14 : decode cX8_leastCost 14 = .ok (.iload_n 2, 1) := by decide +kernel
theorem dX8_leastCost_15 : decode cX8_leastCost 15 = .ok (.iload_n 3, 1) := by decide +kernel
theorem dX8_leastCost_16 : decode cX8_leastCost 16 = .ok (.invokevirtual 102, 3) := by decide +kernel
theorem dX8_leastCost_19 : decode cX8_leastCost 19 = .ok (.aload_n 0, 1) := by decide +kernel
theorem dX8_leastCost_20 : decode cX8_leastCost 20 = .ok (.iload_n 1, 1) := by decide +kernel
theorem dX8_leastCost_21 : decode cX8_leastCost 21 = .ok (.iload_n 2, 1) := by decide +kernel
theorem dX8_leastCost_22 : decode cX8_leastCost 22 = .ok (.iconst 1, 1) := by decide +kernel
theorem dX8_leastCost_23 : decode cX8_leastCost 23 = .ok (.isub, 1) := by decide +kernel
theorem dX8_leastCost_24 : decode cX8_leastCost 24 = .ok (.iload_n 3, 1) := by decide +kernel
theorem dX8_leastCost_25 : decode cX8_leastCost 25 = .ok (.invokevirtual 102, 3) := by decide +kernel
theorem dX8_leastCost_28 : decode cX8_leastCost 28 = .ok (.invokestatic 92, 3) := by decide +kernel
theorem dX8_leastCost_31 : decode cX8_leastCost 31 = .ok (.istore 4, 2) := by decide +kernel
theorem dX8_leastCost_33 : decode cX8_leastCost 33 = .ok (.iload 4, 2) := by decide +kernel
theorem dX8_leastCost_35 : decode cX8_leastCost 35 = .ok (.iconst 2, 1) := by decide +kernel
theorem dX8_leastCost_36 : decode cX8_leastCost 36 = .ok (.iadd, 1) := by decide +kernel
theorem dX8_leastCost_37 : decode cX8_leastCost 37 = .ok (.istore 5, 2) := by decide +kernel
theorem dX8_leastCost_39 : decode cX8_leastCost 39 = .ok (.iload_n 1, 1) := by decide +kernel
theorem dX8_leastCost_40 : decode cX8_leastCost 40 = .ok (.ifCond .le 36, 3) := by decide +kernel
theorem dX8_leastCost_43 : decode cX8_leastCost 43 = .ok (.iload_n 2, 1) := by decide +kernel
theorem dX8_leastCost_44 : decode cX8_leastCost 44 = .ok (.ifCond .le 32, 3) := by decide +kernel
theorem dX8_leastCost_47 : decode cX8_leastCost 47 = .ok (.iload 5, 2) := by decide +kernel
theorem dX8_leastCost_49 : decode cX8_leastCost 49 = .ok (.aload_n 0, 1) := by decide +kernel
theorem dX8_leastCost_50 : decode cX8_leastCost 50 = .ok (.iload_n 1, 1) := by decide +kernel
theorem dX8_leastCost_51 : decode cX8_leastCost 51 = .ok (.iconst 1, 1) := by decide +kernel
theorem dX8_leastCost_52 : decode cX8_leastCost 52 = .ok (.isub, 1) := by decide +kernel
theorem dX8_leastCost_53 : decode cX8_leastCost 53 = .ok (.iload_n 2, 1) := by decide +kernel
theorem dX8_leastCost_54 : decode cX8_leastCost 54 = .ok (.iconst 1, 1) := by decide +kernel
theorem dX8_leastCost_55 : decode cX8_leastCost 55 = .ok (.isub, 1) := by decide +kernel
theorem dX8_leastCost_56 : decode cX8_leastCost 56 = .ok (.iload_n 3, 1) := by decide +kernel
theorem dX8_leastCost_57 : decode cX8_leastCost 57 = .ok (.invokevirtual 102, 3) := by decide +kernel
theorem dX8_leastCost_60 : decode cX8_leastCost 60 = .ok (.aload_n 0, 1) := by decide +kernel
theorem dX8_leastCost_61 : decode cX8_leastCost 61 = .ok (.iload_n 1, 1) := by decide +kernel
theorem dX8_leastCost_62 : decode cX8_leastCost 62 = .ok (.iconst 1, 1) := by decide +kernel
theorem dX8_leastCost_63 : decode cX8_leastCost 63 = .ok (.isub, 1) := by decide +kernel
theorem dX8_leastCost_64 : decode cX8_leastCost 64 = .ok (.iload_n 2, 1) := by decide +kernel
theorem dX8_leastCost_65 : decode cX8_leastCost 65 = .ok (.iconst 1, 1) := by decide +kernel
theorem dX8_leastCost_66 : decode cX8_leastCost 66 = .ok (.isub, 1) := by decide +kernel
theorem dX8_leastCost_67 : decode cX8_leastCost 67 = .ok (.invokevirtual 105, 3) := by decide +kernel
theorem dX8_leastCost_70 : decode cX8_leastCost 70 = .ok (.iadd, 1) := by decide +kernel
theorem dX8_leastCost_71 : decode cX8_leastCost 71 = .ok (.invokestatic 92, 3) := by decide +kernel
theorem dX8_leastCost_74 : decode cX8_leastCost 74 = .ok (.istore 5, 2) := by decide +kernel
theorem dX8_leastCost_76 : decode cX8_leastCost 76 = .ok (.iload_n 1, 1) := by decide +kernel
theorem dX8_leastCost_77 : decode cX8_leastCost 77 = .ok (.iconst 1, 1) := by decide +kernel
theorem dX8_leastCost_78 : decode cX8_leastCost 78 = .ok (.if_icmp .le 37, 3) := by decide +kernel
theorem dX8_leastCost_81 : decode cX8_leastCost 81 = .ok (.iload_n 2, 1) := by decide +kernel
theorem dX8_leastCost_82 : decode cX8_leastCost 82 = .ok (.iconst 1, 1) := by decide +kernel
theorem dX8_leastCost_83 : decode cX8_leastCost 83 = .ok (.if_icmp .le 32, 3) := by decide +kernel
theorem dX8_leastCost_86 : decode cX8_leastCost 86 = .ok (.aload_n 0, 1) := by decide +kernel
theorem dX8_leastCost_87 : decode cX8_leastCost 87 = .ok (.iload_n 1, 1) := by decide +kernel
theorem dX8_leastCost_88 : decode cX8_leastCost 88 = .ok (.iload_n 2, 1) := by decide +kernel
theorem dX8_leastCost_89 : decode cX8_leastCost 89 = .ok (.invokevirtual 108, 3) := by decide +kernel
theorem dX8_leastCost_92 : decode cX8_leastCost 92 = .ok (.ifCond .eq 23, 3) := by decide +kernel
theorem dX8_leastCost_95 : decode cX8_leastCost 95 = .ok (.iload 5, 2) := by decide +kernel
theorem dX8_leastCost_97 : decode cX8_leastCost 97 = .ok (.aload_n 0, 1) := by decide +kernel
theorem dX8_leastCost_98 : decode cX8_leastCost 98 = .ok (.iload_n 1, 1) := by decide +kernel
theorem dX8_leastCost_99 : decode cX8_leastCost 99 = .ok (.iconst 2, 1) := by decide +kernel
theorem dX8_leastCost_100 : decode cX8_leastCost 100 = .ok (.isub, 1) := by decide +kernel
theorem dX8_leastCost_101 : decode cX8_leastCost 101 = .ok (.iload_n 2, 1) := by decide +kernel
theorem dX8_leastCost_102 : decode cX8_leastCost 102 = .ok (.iconst 2, 1) := by decide +kernel
theorem dX8_leastCost_103 : decode cX8_leastCost 103 = .ok (.isub, 1) := by decide +kernel
theorem dX8_leastCost_104 : decode cX8_leastCost 104 = .ok (.iload_n 3, 1) := by decide +kernel
theorem dX8_leastCost_105 : decode cX8_leastCost 105 = .ok (.invokevirtual 102, 3) := by decide +kernel
theorem dX8_leastCost_108 : decode cX8_leastCost 108 = .ok (.iconst 1, 1) := by decide +kernel
theorem dX8_leastCost_109 : decode cX8_leastCost 109 = .ok (.iadd, 1) := by decide +kernel
theorem dX8_leastCost_110 : decode cX8_leastCost 110 = .ok (.invokestatic 92, 3) := by decide +kernel
theorem dX8_leastCost_113 : decode cX8_leastCost 113 = .ok (.istore 5, 2) := by decide +kernel
theorem dX8_leastCost_115 : decode cX8_leastCost 115 = .ok (.iload 5, 2) := by decide +kernel
theorem dX8_leastCost_117 : decode cX8_leastCost 117 = .ok (.ireturn, 1) := by decide +kernel
theorem dX8_isSwapped_0 : decode cX8_isSwapped 0 = .ok (.aload_n 0, 1) := by decide +kernel
theorem dX8_isSwapped_1 : decode cX8_isSwapped 1 = .ok (.getfield 20, 3) := by decide +kernel
theorem dX8_isSwapped_4 : decode cX8_isSwapped 4 = .ok (.iload_n 1, 1) := by decide +kernel
theorem dX8_isSwapped_5 : decode cX8_isSwapped 5 = .ok (.iconst 1, 1) := by decide +kernel
theorem dX8_isSwapped_6 : decode cX8_isSwapped 6 = .ok (.isub, 1) := by decide +kernel
theorem dX8_isSwapped_7 : decode cX8_isSwapped 7 = .ok (.invokevirtual 35, 3) := by decide +kernel
theorem dX8_isSwapped_10 : decode cX8_isSwapped 10 = .ok (.aload_n 0, 1) := by decide +kernel
theorem dX8_isSwapped_11 : decode cX8_isSwapped 11 = .ok (.getfield 23, 3) := by decide +kernel
theorem dX8_isSwapped_14 : decode cX8_isSwapped 14 = .ok (.iload_n 2, 1) := by decide +kernel
theorem dX8_isSwapped_15 : decode cX8_isSwapped 15 = .ok (.iconst 2, 1) := by decide +kernel
theorem dX8_isSwapped_16 : decode cX8_isSwapped 16 = .ok (.isub, 1) := by decide +kernel
theorem dX8_isSwapped_17 : decode cX8_isSwapped 17 = .ok (.invokevirtual 35, 3) := by decide +kernel
theorem dX8_isSwapped_20 : decode cX8_isSwapped 20 = .ok (.if_icmp .ne 30, 3) := by decide +kernel
theorem dX8_isSwapped_23 : decode cX8_isSwapped 23 = .ok (.aload_n 0, 1) := by decide +kernel
theorem dX8_isSwapped_24 : decode cX8_isSwapped 24 = .ok (.getfield 20, 3) := by decide +kernel
theorem dX8_isSwapped_27 : decode cX8_isSwapped 27 = .ok (.iload_n 1, 1) := by decide +kernel
theorem dX8_isSwapped_28 : decode cX8_isSwapped 28 = .ok (.iconst 2, 1) := by decide +kernel
theorem dX8_isSwapped_29 : decode cX8_isSwapped 29 = .ok (.isub, 1) := by decide +kernel
theorem dX8_isSwapped_30 : decode cX8_isSwapped 30 = .ok (.invokevirtual 35, 3) := by decide +kernel
theorem dX8_isSwapped_33 : decode cX8_isSwapped 33 = .ok (.aload_n 0, 1) := by decide +kernel
theorem dX8_isSwapped_34 : decode cX8_isSwapped 34 = .ok (.getfield 23, 3) := by decide +kernel
theorem dX8_isSwapped_37 : decode cX8_isSwapped 37 = .ok (.iload_n 2, 1) := by decide +kernel
theorem dX8_isSwapped_38 : decode cX8_isSwapped 38 = .ok (.iconst 1, 1) := by decide +kernel
theorem dX8_isSwapped_39 : decode cX8_isSwapped 39 = .ok (.isub, 1) := by decide +kernel
theorem dX8_isSwapped_40 : decode cX8_isSwapped 40 = .ok (.invokevirtual 35, 3) := by decide +kernel
theorem dX8_isSwapped_43 : decode cX8_isSwapped 43 = .ok (.if_icmp .ne 7, 3) := by decide +kernel
theorem dX8_isSwapped_46 : decode cX8_isSwapped 46 = .ok (.iconst 1, 1) := by decide +kernel
theorem dX8_isSwapped_47 : decode cX8_isSwapped 47 = .ok (.goto 4, 3) := by decide +kernel
theorem dX8_isSwapped_50 : decode cX8_isSwapped 50 = .ok (.iconst 0, 1) := by decide +kernel
theorem dX8_isSwapped_51 : decode cX8_isSwapped 51 = .ok (.ireturn, 1) := by decide +kernel
theorem dX8_costBefore_0 : decode cX8_costBefore 0 = .ok (.iload_n 1, 1) := by decide +kernel
theorem dX8_costBefore_1 : decode cX8_costBefore 1 = .ok (.ifCond .lt 21, 3) := by decide +kernel
theorem dX8_costBefore_4 : decode cX8_costBefore 4 = .ok (.iload_n 2, 1) := by decide +kernel
theorem dX8_costBefore_5 : decode cX8_costBefore 5 = .ok (.ifCond .lt 17, 3) := by decide +kernel
theorem dX8_costBefore_8 : decode cX8_costBefore 8 = .ok (.iload_n 1, 1) := by decide +kernel
theorem dX8_costBefore_9 : decode cX8_costBefore 9 = .ok (.iload_n 2, 1) := by decide +kernel
theorem dX8_costBefore_10 : decode cX8_costBefore 10 = .ok (.isub, 1) := by decide +kernel
theorem dX8_costBefore_11 : decode cX8_costBefore 11 = .ok (.invokestatic 83, 3) := by decide +kernel
theorem dX8_costBefore_14 : decode cX8_costBefore 14 = .ok (.iload_n 3, 1) := by decide +kernel
theorem dX8_costBefore_15 : decode cX8_costBefore 15 = .ok (.if_icmp .gt 7, 3) := by decide +kernel
theorem dX8_costBefore_18 : decode cX8_costBefore 18 = .ok (.iconst 1, 1) := by decide +kernel
theorem dX8_costBefore_19 : decode cX8_costBefore 19 = .ok (.goto 4, 3) := by decide +kernel
theorem dX8_costBefore_22 : decode cX8_costBefore 22 = .ok (.iconst 0, 1) := by decide +kernel
theorem dX8_costBefore_23 : decode cX8_costBefore 23 = .ok (.istore 4, 2) := by decide +kernel
theorem dX8_costBefore_25 : decode cX8_costBefore 25 = .ok (.iload 4, 2) := by decide +kernel
theorem dX8_costBefore_27 : decode cX8_costBefore 27 = .ok (.ifCond .eq 19, 3) := by decide +kernel
theorem dX8_costBefore_30 : decode cX8_costBefore 30 = .ok (.aload_n 0, 1) := by decide +kernel
theorem dX8_costBefore_31 : decode cX8_costBefore 31 = .ok (.getfield 26, 3) := by decide +kernel
theorem dX8_costBefore_34 : decode cX8_costBefore 34 = .ok (.iload_n 1, 1) := by decide +kernel
theorem dX8_costBefore_35 : decode cX8_costBefore 35 = .ok (.bipush 11, 2) := by decide +kernel
theorem dX8_costBefore_37 : decode cX8_costBefore 37 = .ok (.imul, 1) := by decide +kernel
theorem dX8_costBefore_38 : decode cX8_costBefore 38 = .ok (.iload_n 2, 1) := by decide +kernel
theorem dX8_costBefore_39 : decode cX8_costBefore 39 = .ok (.iadd, 1) := by decide +kernel
theorem dX8_costBefore_40 : decode cX8_costBefore 40 = .ok (.invokevirtual 35, 3) := by decide +kernel
theorem dX8_costBefore_43 : decode cX8_costBefore 43 = .ok (.goto 5, 3) := by decide +kernel
theorem dX8_costBefore_46 : decode cX8_costBefore 46 = .ok (.ldc 88, 2) := by decide +kernel
theorem dX8_costBefore_48 : decode cX8_costBefore 48 = .ok (.ireturn, 1) := by decide +kernel
theorem dX8_costToBecome_0 : decode cX8_costToBecome 0 = .ok (.aload_n 0, 1) := by decide +kernel
theorem dX8_costToBecome_1 : decode cX8_costToBecome 1 = .ok (.getfield 20, 3) := by decide +kernel
theorem dX8_costToBecome_4 : decode cX8_costToBecome 4 = .ok (.iload_n 1, 1) := by decide +kernel
theorem dX8_costToBecome_5 : decode cX8_costToBecome 5 = .ok (.invokevirtual 35, 3) := by decide +kernel
theorem dX8_costToBecome_8 : decode cX8_costToBecome 8 = .ok (.istore_n 3, 1) := by decide +kernel
theorem dX8_costToBecome_9 : decode cX8_costToBecome 9 = .ok (.aload_n 0, 1) := by decide +kernel
theorem dX8_costToBecome_10 : decode cX8_costToBecome 10 = .ok (.getfield 23, 3) := by decide +kernel
theorem dX8_costToBecome_13 : decode cX8_costToBecome 13 = .ok (.iload_n 2, 1) := by decide +kernel
theorem dX8_costToBecome_14 : decode cX8_costToBecome 14 = .ok (.invokevirtual 35, 3) := by decide +kernel
theorem dX8_costToBecome_17 : decode cX8_costToBecome 17 = .ok (.istore 4, 2) := by decide +kernel
theorem dX8_costToBecome_19 : decode cX8_costToBecome 19 = .ok (.iload_n 3, 1) := by decide +kernel
theorem dX8_costToBecome_20 : decode cX8_costToBecome 20 = .ok (.iload 4, 2) := by decide +kernel
theorem dX8_costToBecome_22 : decode cX8_costToBecome 22 = .ok (.if_icmp .ne 5, 3) := by decide +kernel
theorem dX8_costToBecome_25 : decode cX8_costToBecome 25 = .ok (.iconst 0, 1) := by decide +kernel
theorem dX8_costToBecome_26 : decode cX8_costToBecome 26 = .ok (.ireturn, 1) := by decide +kernel
theorem dX8_costToBecome_27 : decode cX8_costToBecome 27 = .ok (.iload_n 3, 1) := by decide +kernel
theorem dX8_costToBecome_28 : decode cX8_costToBecome 28 = .ok (.iload 4, 2) := by decide +kernel
theorem dX8_costToBecome_30 : decode cX8_costToBecome 30 = .ok (.isub, 1) := by decide +kernel
theorem dX8_costToBecome_31 : decode cX8_costToBecome 31 = .ok (.invokestatic 83, 3) := by decide +kernel
theorem dX8_costToBecome_34 : decode cX8_costToBecome 34 = .ok (.iconst 1, 1) := by decide +kernel
theorem dX8_costToBecome_35 : decode cX8_costToBecome 35 = .ok (.if_icmp .eq 20, 3) := by decide +kernel
theorem dX8_costToBecome_38 : decode cX8_costToBecome 38 = .ok (.aload_n 0, 1) := by decide +kernel
theorem dX8_costToBecome_39 : decode cX8_costToBecome 39 = .ok (.getfield 14, 3) := by decide +kernel
theorem dX8_costToBecome_42 : decode cX8_costToBecome 42 = .ok (.iload_n 3, 1) := by decide +kernel
theorem dX8_costToBecome_43 : decode cX8_costToBecome 43 = .ok (.bipush 8, 2) := by decide +kernel
theorem dX8_costToBecome_45 : decode cX8_costToBecome 45 = .ok (.imul, 1) := by decide +kernel
theorem dX8_costToBecome_46 : decode cX8_costToBecome 46 = .ok (.iload 4, 2) := by decide +kernel
theorem dX8_costToBecome_48 : decode cX8_costToBecome 48 = .ok (.iadd, 1) := by decide +kernel
theorem dX8_costToBecome_49 : decode cX8_costToBecome 49 = .ok (.invokevirtual 35, 3) := by decide +kernel
theorem dX8_costToBecome_52 : decode cX8_costToBecome 52 = .ok (.ifCond .eq 7, 3) := by decide +kernel
theorem dX8_costToBecome_55 : decode cX8_costToBecome 55 = .ok (.iconst 1, 1) := by decide +kernel
theorem dX8_costToBecome_56 : decode cX8_costToBecome 56 = .ok (.goto 4, 3) := by decide +kernel
theorem dX8_costToBecome_59 : decode cX8_costToBecome 59 = .ok (.iconst 2, 1) := by decide +kernel
theorem dX8_costToBecome_60 : decode cX8_costToBecome 60 = .ok (.ireturn, 1) := by decide +kernel
theorem dX9_init_0 : decode cX9_init 0 = .ok (.aload_n 0, 1) := by decide +kernel
theorem dX9_init_1 : decode cX9_init 1 = .ok (.invokespecial 3, 3) := by decide +kernel
theorem dX9_init_4 : decode cX9_init 4 = .ok (.aload_n 0, 1) := by decide +kernel
theorem dX9_init_5 : decode cX9_init 5 = .ok (.new 9, 3) := by decide +kernel
theorem dX9_init_8 : decode cX9_init 8 = .ok (.dup, 1) := by decide +kernel
theorem dX9_init_9 : decode cX9_init 9 = .ok (.bipush 100, 2) := by decide +kernel
theorem dX9_init_11 : decode cX9_init 11 = .ok (.invokespecial 11, 3) := by decide +kernel
theorem dX9_init_14 : decode cX9_init 14 = .ok (.putfield 14, 3) := by decide +kernel
theorem dX9_init_17 : decode cX9_init 17 = .ok (.aload_n 0, 1) := by decide +kernel
theorem dX9_init_18 : decode cX9_init 18 = .ok (.new 9, 3) := by decide +kernel
theorem dX9_init_21 : decode cX9_init 21 = .ok (.dup, 1) := by decide +kernel
theorem dX9_init_22 : decode cX9_init 22 = .ok (.bipush 50, 2) := by decide +kernel
theorem dX9_init_24 : decode cX9_init 24 = .ok (.invokespecial 11, 3) := by decide +kernel
theorem dX9_init_27 : decode cX9_init 27 = .ok (.putfield 20, 3) := by decide +kernel
theorem dX9_init_30 : decode cX9_init 30 = .ok (.aload_n 0, 1) := by decide +kernel
theorem dX9_init_31 : decode cX9_init 31 = .ok (.new 9, 3) := by decide +kernel
theorem dX9_init_34 : decode cX9_init 34 = .ok (.dup, 1) := by decide +kernel
theorem dX9_init_35 : decode cX9_init 35 = .ok (.bipush 50, 2) := by decide +kernel
theorem dX9_init_37 : decode cX9_init 37 = .ok (.invokespecial 11, 3) := by decide +kernel
theorem dX9_init_40 : decode cX9_init 40 = .ok (.putfield 23, 3) := by decide +kernel
theorem dX9_init_43 : decode cX9_init 43 = .ok (.aload_n 0, 1) := by decide +kernel
theorem dX9_init_44 : decode cX9_init 44 = .ok (.new 9, 3) := by decide +kernel
theorem dX9_init_47 : decode cX9_init 47 = .ok (.dup, 1) := by decide +kernel
theorem dX9_init_48 : decode cX9_init 48 = .ok (.bipush 50, 2) := by decide +kernel
theorem dX9_init_50 : decode cX9_init 50 = .ok (.invokespecial 11, 3) := by decide +kernel
theorem dX9_init_53 : decode cX9_init 53 = .ok (.putfield 26, 3) := by decide +kernel
theorem dX9_init_56 : decode cX9_init 56 = .ok (.aload_n 0, 1) := by decide +kernel
theorem dX9_init_57 : decode cX9_init 57 = .ok (.new 9, 3) := by decide +kernel
theorem dX9_init_60 : decode cX9_init 60 = .ok (.dup, 1) := by decide +kernel
theorem dX9_init_61 : decode cX9_init 61 = .ok (.bipush 102, 2) := by decide +kernel
theorem dX9_init_63 : decode cX9_init 63 = .ok (.invokespecial 11, 3) := by decide +kernel
theorem dX9_init_66 : decode cX9_init 66 = .ok (.putfield 29, 3) := by decide +kernel
theorem dX9_init_69 : decode cX9_init 69 = .ok (.aload_n 0, 1) := by decide +kernel
theorem dX9_init_70 : decode cX9_init 70 = .ok (.new 9, 3) := by decide +kernel
theorem dX9_init_73 : decode cX9_init 73 = .ok (.dup, 1) := by decide +kernel
theorem dX9_init_74 : decode cX9_init 74 = .ok (.bipush 102, 2) := by decide +kernel
theorem dX9_init_76 : decode cX9_init 76 = .ok (.invokespecial 11, 3) := by decide +kernel
theorem dX9_init_79 : decode cX9_init 79 = .ok (.putfield 32, 3) := by decide +kernel
theorem dX9_init_82 : decode cX9_init 82 = .ok (.return_, 1) := by decide +kernel
theorem dX9_size_0 : decode cX9_size 0 = .ok (.aload_n 0, 1) := by decide +kernel
theorem dX9_size_1 : decode cX9_size 1 = .ok (.getfield 35, 3) := by decide +kernel
theorem dX9_size_4 : decode cX9_size 4 = .ok (.ireturn, 1) := by decide +kernel
theorem dX9_signOn_0 : decode cX9_signOn 0 = .ok (.aload_n 0, 1) := by decide +kernel
theorem dX9_signOn_1 : decode cX9_signOn 1 = .ok (.getfield 14, 3) := by decide +kernel
theorem dX9_signOn_4 : decode cX9_signOn 4 = .ok (.iload_n 1, 1) := by decide +kernel
theorem dX9_signOn_5 : decode cX9_signOn 5 = .ok (.invokevirtual 39, 3) := by decide +kernel
theorem dX9_signOn_8 : decode cX9_signOn 8 = .ok (.i2c, 1) := by decide +kernel
theorem dX9_signOn_9 : decode cX9_signOn 9 = .ok (.ireturn, 1) := by decide +kernel
theorem dX9_wordCount_0 : decode cX9_wordCount 0 = .ok (.aload_n 0, 1) := by decide +kernel
theorem dX9_wordCount_1 : decode cX9_wordCount 1 = .ok (.getfield 43, 3) := by decide +kernel
theorem dX9_wordCount_4 : decode cX9_wordCount 4 = .ok (.ireturn, 1) := by decide +kernel
theorem dX9_wordStart_0 : decode cX9_wordStart 0 = .ok (.aload_n 0, 1) := by decide +kernel
theorem dX9_wordStart_1 : decode cX9_wordStart 1 = .ok (.getfield 20, 3) := by decide +kernel
theorem dX9_wordStart_4 : decode cX9_wordStart 4 = .ok (.iload_n 1, 1) := by decide +kernel
theorem dX9_wordStart_5 : decode cX9_wordStart 5 = .ok (.invokevirtual 39, 3) := by decide +kernel
theorem dX9_wordStart_8 : decode cX9_wordStart 8 = .ok (.ireturn, 1) := by decide +kernel
theorem dX9_wordSize_0 : decode cX9_wordSize 0 = .ok (.aload_n 0, 1) := by decide +kernel
theorem dX9_wordSize_1 : decode cX9_wordSize 1 = .ok (.getfield 23, 3) := by decide +kernel
theorem dX9_wordSize_4 : decode cX9_wordSize 4 = .ok (.iload_n 1, 1) := by decide +kernel
theorem dX9_wordSize_5 : decode cX9_wordSize 5 = .ok (.invokevirtual 39, 3) := by decide +kernel
theorem dX9_wordSize_8 : decode cX9_wordSize 8 = .ok (.ireturn, 1) := by decide +kernel
theorem dX9_wordNumbered_0 : decode cX9_wordNumbered 0 = .ok (.aload_n 0, 1) := by decide +kernel
theorem dX9_wordNumbered_1 : decode cX9_wordNumbered 1 = .ok (.getfield 26, 3) := by decide +kernel
theorem dX9_wordNumbered_4 : decode cX9_wordNumbered 4 = .ok (.iload_n 1, 1) := by decide +kernel
theorem dX9_wordNumbered_5 : decode cX9_wordNumbered 5 = .ok (.invokevirtual 39, 3) := by decide +kernel
theorem dX9_wordNumbered_8 : decode cX9_wordNumbered 8 = .ok (.ireturn, 1) := by decide +kernel
theorem dX9_letterOfWord_0 : decode cX9_letterOfWord 0 = .ok (.aload_n 0, 1) := by decide +kernel
theorem dX9_letterOfWord_1 : decode cX9_letterOfWord 1 = .ok (.getfield 14, 3) := by decide +kernel
theorem dX9_letterOfWord_4 : decode cX9_letterOfWord 4 = .ok (.aload_n 0, 1) := by decide +kernel
theorem dX9_letterOfWord_5 : decode cX9_letterOfWord 5 = .ok (.getfield 20, 3) := by decide +kernel
theorem dX9_letterOfWord_8 : decode cX9_letterOfWord 8 = .ok (.iload_n 1, 1) := by decide +kernel
theorem dX9_letterOfWord_9 : decode cX9_letterOfWord 9 = .ok (.invokevirtual 39, 3) := by decide +kernel
theorem dX9_letterOfWord_12 : decode cX9_letterOfWord 12 = .ok (.iload_n 2, 1) := by decide +kernel
theorem dX9_letterOfWord_13 : decode cX9_letterOfWord 13 = .ok (.iadd, 1) := by decide +kernel
theorem dX9_letterOfWord_14 : decode cX9_letterOfWord 14 = .ok (.invokevirtual 39, 3) := by decide +kernel
theorem dX9_letterOfWord_17 : decode cX9_letterOfWord 17 = .ok (.bipush 97, 2) := by decide +kernel
theorem dX9_letterOfWord_19 : decode cX9_letterOfWord 19 = .ok (.isub, 1) := by decide +kernel
theorem dX9_letterOfWord_20 : decode cX9_letterOfWord 20 = .ok (.ireturn, 1) := by decide +kernel
theorem dX9_partOfWord_0 : decode cX9_partOfWord 0 = .ok (.iconst 1, 1) := by decide +kernel
theorem dX9_partOfWord_1 : decode cX9_partOfWord 1 = .ok (.istore 4, 2) := by decide +kernel
theorem dX9_partOfWord_3 : decode cX9_partOfWord 3 = .ok (.iload_n 3, 1) := by decide +kernel
theorem dX9_partOfWord_4 : decode cX9_partOfWord 4 = .ok (.iload_n 2, 1) := by decide +kernel
theorem dX9_partOfWord_5 : decode cX9_partOfWord 5 = .ok (.isub, 1) := by decide +kernel
theorem dX9_partOfWord_6 : decode cX9_partOfWord 6 = .ok (.bipush 10, 2) := by decide +kernel
theorem dX9_partOfWord_8 : decode cX9_partOfWord 8 = .ok (.if_icmp .le 5, 3) := by decide +kernel
theorem dX9_partOfWord_11 : decode cX9_partOfWord 11 = .ok (.iconst 0, 1) := by decide +kernel
theorem dX9_partOfWord_12 : decode cX9_partOfWord 12 = .ok (.ireturn, 1) := by decide +kernel
theorem dX9_partOfWord_13 : decode cX9_partOfWord 13 = .ok (.iload_n 2, 1) := by decide +kernel
theorem dX9_partOfWord_14 : decode cX9_partOfWord 14 = .ok (.istore 5, 2) := by decide +kernel
theorem dX9_partOfWord_16 : decode cX9_partOfWord 16 = .ok (.iload 5, 2) := by decide +kernel
theorem dX9_partOfWord_18 : decode cX9_partOfWord 18 = .ok (.iload_n 3, 1) := by decide +kernel
theorem dX9_partOfWord_19 : decode cX9_partOfWord 19 = .ok (.if_icmp .ge 23, 3) := by decide +kernel
theorem dX9_partOfWord_22 : decode cX9_partOfWord 22 = .ok (.iload 4, 2) := by decide +kernel
theorem dX9_partOfWord_24 : decode cX9_partOfWord 24 = .ok (.aload_n 0, 1) := by decide +kernel
theorem dX9_partOfWord_25 : decode cX9_partOfWord 25 = .ok (.iload_n 1, 1) := by decide +kernel
theorem dX9_partOfWord_26 : decode cX9_partOfWord 26 = .ok (.iload 5, 2) := by decide +kernel
theorem dX9_partOfWord_28 : decode cX9_partOfWord 28 = .ok (.invokevirtual 46, 3) := by decide +kernel
theorem dX9_partOfWord_31 : decode cX9_partOfWord 31 = .ok (.invokestatic 50, 3) := by decide +kernel
theorem dX9_partOfWord_34 : decode cX9_partOfWord 34 = .ok (.istore 4, 2) := by decide +kernel
theorem dX9_partOfWord_36 : decode cX9_partOfWord 36 = .ok (.iinc 5 1, 3) := by decide +kernel
theorem dX9_partOfWord_39 : decode cX9_partOfWord 39 = .ok (.goto (-23), 3) := by decide +kernel
theorem dX9_partOfWord_42 : decode cX9_partOfWord 42 = .ok (.iload 4, 2) := by decide +kernel
theorem dX9_partOfWord_44 : decode cX9_partOfWord 44 = .ok (.ireturn, 1) := by decide +kernel
theorem dX9_sentenceCount_0 : decode cX9_sentenceCount 0 = .ok (.aload_n 0, 1) := by decide +kernel
theorem dX9_sentenceCount_1 : decode cX9_sentenceCount 1 = .ok (.getfield 53, 3) := by decide +kernel
theorem dX9_sentenceCount_4 : decode cX9_sentenceCount 4 = .ok (.ireturn, 1) := by decide +kernel
theorem dX9_firstWordOf_0 : decode cX9_firstWordOf 0 = .ok (.aload_n 0, 1) := by decide +kernel
theorem dX9_firstWordOf_1 : decode cX9_firstWordOf 1 = .ok (.getfield 32, 3) := by decide +kernel
theorem dX9_firstWordOf_4 : decode cX9_firstWordOf 4 = .ok (.iload_n 1, 1) := by decide +kernel
theorem dX9_firstWordOf_5 : decode cX9_firstWordOf 5 = .ok (.invokevirtual 39, 3) := by decide +kernel
theorem dX9_firstWordOf_8 : decode cX9_firstWordOf 8 = .ok (.ireturn, 1) := by decide +kernel
theorem dX9_insertSign_0 : decode cX9_insertSign 0 = .ok (.aload_n 0, 1) := by decide +kernel
theorem dX9_insertSign_1 : decode cX9_insertSign 1 = .ok (.getfield 35, 3) := by decide +kernel
theorem dX9_insertSign_4 : decode cX9_insertSign 4 = .ok (.bipush 100, 2) := by decide +kernel
theorem dX9_insertSign_6 : decode cX9_insertSign 6 = .ok (.if_icmp .ge 26, 3) := by decide +kernel
theorem dX9_insertSign_9 : decode cX9_insertSign 9 = .ok (.aload_n 0, 1) := by decide +kernel
theorem dX9_insertSign_10 : decode cX9_insertSign 10 = .ok (.getfield 14, 3) := by decide +kernel
theorem dX9_insertSign_13 : decode cX9_insertSign 13 = .ok (.iload_n 1, 1) := by decide +kernel
theorem dX9_insertSign_14 : decode cX9_insertSign 14 = .ok (.iload_n 2, 1) := by decide +kernel
theorem dX9_insertSign_15 : decode cX9_insertSign 15 = .ok (.aload_n 0, 1) := by decide +kernel
theorem dX9_insertSign_16 : decode cX9_insertSign 16 = .ok (.getfield 35, 3) := by decide +kernel
theorem dX9_insertSign_19 : decode cX9_insertSign 19 = .ok (.invokevirtual 56, 3) := by decide +kernel
theorem dX9_insertSign_22 : decode cX9_insertSign 22 = .ok (.aload_n 0, 1) := by decide +kernel
theorem dX9_insertSign_23 : decode cX9_insertSign 23 = .ok (.dup, 1) := by decide +kernel
theorem dX9_insertSign_24 : decode cX9_insertSign 24 = .ok (.getfield 35, 3) := by decide +kernel
theorem dX9_insertSign_27 : decode cX9_insertSign 27 = .ok (.iconst 1, 1) := by decide +kernel
theorem dX9_insertSign_28 : decode cX9_insertSign 28 = .ok (.iadd, 1) := by decide +kernel
theorem dX9_insertSign_29 : decode cX9_insertSign 29 = .ok (.putfield 35, 3) := by decide +kernel
theorem dX9_insertSign_32 : decode cX9_insertSign 32 = .ok (.return_, 1) := by decide +kernel
theorem dX9_removeSign_0 : decode cX9_removeSign 0 = .ok (.aload_n 0, 1) := by decide +kernel
theorem dX9_removeSign_1 : decode cX9_removeSign 1 = .ok (.getfield 35, 3) := by decide +kernel
theorem dX9_removeSign_4 : decode cX9_removeSign 4 = .ok (.ifCond .le 25, 3) := by decide +kernel
theorem dX9_removeSign_7 : decode cX9_removeSign 7 = .ok (.aload_n 0, 1) := by decide +kernel
theorem dX9_removeSign_8 : decode cX9_removeSign 8 = .ok (.getfield 14, 3) := by decide +kernel
theorem dX9_removeSign_11 : decode cX9_removeSign 11 = .ok (.iload_n 1, 1) := by decide +kernel
theorem dX9_removeSign_12 : decode cX9_removeSign 12 = .ok (.aload_n 0, 1) := by decide +kernel
theorem dX9_removeSign_13 : decode cX9_removeSign 13 = .ok (.getfield 35, 3) := by decide +kernel
theorem dX9_removeSign_16 : decode cX9_removeSign 16 = .ok (.invokevirtual 60, 3) := by decide +kernel
theorem dX9_removeSign_19 : decode cX9_removeSign 19 = .ok (.aload_n 0, 1) := by decide +kernel
theorem dX9_removeSign_20 : decode cX9_removeSign 20 = .ok (.dup, 1) := by decide +kernel
theorem dX9_removeSign_21 : decode cX9_removeSign 21 = .ok (.getfield 35, 3) := by decide +kernel
theorem dX9_removeSign_24 : decode cX9_removeSign 24 = .ok (.iconst 1, 1) := by decide +kernel
theorem dX9_removeSign_25 : decode cX9_removeSign 25 = .ok (.isub, 1) := by decide +kernel
theorem dX9_removeSign_26 : decode cX9_removeSign 26 = .ok (.putfield 35, 3) := by decide +kernel
theorem dX9_removeSign_29 : decode cX9_removeSign 29 = .ok (.return_, 1) := by decide +kernel
theorem dX9_replaceWord_0 : decode cX9_replaceWord 0 = .ok (.aload_n 0, 1) := by decide +kernel
theorem dX9_replaceWord_1 : decode cX9_replaceWord 1 = .ok (.iload_n 1, 1) := by decide +kernel
theorem dX9_replaceWord_2 : decode cX9_replaceWord 2 = .ok (.invokevirtual 64, 3) := by decide +kernel
theorem dX9_replaceWord_5 : decode cX9_replaceWord 5 = .ok (.istore_n 3, 1) := by decide +kernel
theorem dX9_replaceWord_6 : decode cX9_replaceWord 6 = .ok (.iconst 0, 1) := by decide +kernel
theorem dX9_replaceWord_7 : decode cX9_replaceWord 7 = .ok (.istore 4, 2) := by decide +kernel
theorem dX9_replaceWord_9 : decode cX9_replaceWord 9 = .ok (.iload 4, 2) := by decide +kernel
theorem dX9_replaceWord_11 : decode cX9_replaceWord 11 = .ok (.aload_n 0, 1) := by decide +kernel
theorem dX9_replaceWord_12 : decode cX9_replaceWord 12 = .ok (.iload_n 1, 1) := by decide +kernel
theorem dX9_replaceWord_13 : decode cX9_replaceWord 13 = .ok (.invokevirtual 67, 3) := by decide +kernel
theorem dX9_replaceWord_16 : decode cX9_replaceWord 16 = .ok (.if_icmp .ge 14, 3) := by decide +kernel
theorem dX9_replaceWord_19 : decode cX9_replaceWord 19 = .ok (.aload_n 0, 1) := by decide +kernel
theorem dX9_replaceWord_20 : decode cX9_replaceWord 20 = .ok (.iload_n 3, 1) := by decide +kernel
theorem dX9_replaceWord_21 : decode cX9_replaceWord 21 = .ok (.invokevirtual 70, 3) := by decide +kernel
theorem dX9_replaceWord_24 : decode cX9_replaceWord 24 = .ok (.iinc 4 1, 3) := by decide +kernel
theorem dX9_replaceWord_27 : decode cX9_replaceWord 27 = .ok (.goto (-18), 3) := by decide +kernel
theorem dX9_replaceWord_30 : decode cX9_replaceWord 30 = .ok (.iconst 0, 1) := by decide +kernel
theorem dX9_replaceWord_31 : decode cX9_replaceWord 31 = .ok (.istore 4, 2) := by decide +kernel
theorem dX9_replaceWord_33 : decode cX9_replaceWord 33 = .ok (.iload 4, 2) := by decide +kernel
theorem dX9_replaceWord_35 : decode cX9_replaceWord 35 = .ok (.iload_n 2, 1) := by decide +kernel
theorem dX9_replaceWord_36 : decode cX9_replaceWord 36 = .ok (.invokestatic 73, 3) := by decide +kernel
theorem dX9_replaceWord_39 : decode cX9_replaceWord 39 = .ok (.if_icmp .ge 26, 3) := by decide +kernel
theorem dX9_replaceWord_42 : decode cX9_replaceWord 42 = .ok (.aload_n 0, 1) := by decide +kernel
theorem dX9_replaceWord_43 : decode cX9_replaceWord 43 = .ok (.iload_n 3, 1) := by decide +kernel
theorem dX9_replaceWord_44 : decode cX9_replaceWord 44 = .ok (.iload 4, 2) := by decide +kernel
theorem dX9_replaceWord_46 : decode cX9_replaceWord 46 = .ok (.iadd, 1) := by decide +kernel
theorem dX9_replaceWord_47 : decode cX9_replaceWord 47 = .ok (.bipush 97, 2) := by decide +kernel
theorem dX9_replaceWord_49 : decode cX9_replaceWord 49 = .ok (.iload_n 2, 1) := by decide +kernel
theorem dX9_replaceWord_50 : decode cX9_replaceWord 50 = .ok (.iload 4, 2) := by decide +kernel
theorem dX9_replaceWord_52 : decode cX9_replaceWord 52 = .ok (.invokestatic 76, 3) := by decide +kernel
theorem dX9_replaceWord_55 : decode cX9_replaceWord 55 = .ok (.iadd, 1) := by decide +kernel
theorem dX9_replaceWord_56 : decode cX9_replaceWord 56 = .ok (.invokevirtual 79, 3) := by decide +kernel
theorem dX9_replaceWord_59 : decode cX9_replaceWord 59 = .ok (.iinc 4 1, 3) := by decide +kernel
theorem dX9_replaceWord_62 : decode cX9_replaceWord 62 = .ok (.goto (-29), 3) := by decide +kernel
theorem dX9_replaceWord_65 : decode cX9_replaceWord 65 = .ok (.return_, 1) := by decide +kernel
theorem dX9_becomeLike_0 : decode cX9_becomeLike 0 = .ok (.aload_n 0, 1) := by decide +kernel
theorem dX9_becomeLike_1 : decode cX9_becomeLike 1 = .ok (.aload_n 1, 1) := by decide +kernel
theorem dX9_becomeLike_2 : decode cX9_becomeLike 2 = .ok (.getfield 35, 3) := by decide +kernel
theorem dX9_becomeLike_5 : decode cX9_becomeLike 5 = .ok (.putfield 35, 3) := by decide +kernel
theorem dX9_becomeLike_8 : decode cX9_becomeLike 8 = .ok (.iconst 0, 1) := by decide +kernel
theorem dX9_becomeLike_9 : decode cX9_becomeLike 9 = .ok (.istore_n 2, 1) := by decide +kernel
theorem dX9_becomeLike_10 : decode cX9_becomeLike 10 = .ok (.iload_n 2, 1) := by decide +kernel
theorem dX9_becomeLike_11 : decode cX9_becomeLike 11 = .ok (.aload_n 0, 1) := by decide +kernel
theorem dX9_becomeLike_12 : decode cX9_becomeLike 12 = .ok (.getfield 35, 3) := by decide +kernel
theorem dX9_becomeLike_15 : decode cX9_becomeLike 15 = .ok (.if_icmp .ge 25, 3) := by decide +kernel
theorem dX9_becomeLike_18 : decode cX9_becomeLike 18 = .ok (.aload_n 0, 1) := by decide +kernel
theorem dX9_becomeLike_19 : decode cX9_becomeLike 19 = .ok (.getfield 14, 3) := by decide +kernel
theorem dX9_becomeLike_22 : decode cX9_becomeLike 22 = .ok (.iload_n 2, 1) := by decide +kernel
theorem dX9_becomeLike_23 : decode cX9_becomeLike 23 = .ok (.aload_n 1, 1) := by decide +kernel
theorem dX9_becomeLike_24 : decode cX9_becomeLike 24 = .ok (.getfield 14, 3) := by decide +kernel
theorem dX9_becomeLike_27 : decode cX9_becomeLike 27 = .ok (.iload_n 2, 1) := by decide +kernel
theorem dX9_becomeLike_28 : decode cX9_becomeLike 28 = .ok (.invokevirtual 39, 3) := by decide +kernel
theorem dX9_becomeLike_31 : decode cX9_becomeLike 31 = .ok (.invokevirtual 82, 3) := by decide +kernel
theorem dX9_becomeLike_34 : decode cX9_becomeLike 34 = .ok (.iinc 2 1, 3) := by decide +kernel
theorem dX9_becomeLike_37 : decode cX9_becomeLike 37 = .ok (.goto (-27), 3) := by decide +kernel
theorem dX9_becomeLike_40 : decode cX9_becomeLike 40 = .ok (.aload_n 0, 1) := by decide +kernel
theorem dX9_becomeLike_41 : decode cX9_becomeLike 41 = .ok (.invokevirtual 85, 3) := by decide +kernel
theorem dX9_becomeLike_44 : decode cX9_becomeLike 44 = .ok (.return_, 1) := by decide +kernel
theorem dX9_findWords_0 : decode cX9_findWords 0 = .ok (.iconst 0, 1) := by decide +kernel
theorem dX9_findWords_1 : decode cX9_findWords 1 = .ok (.istore_n 1, 1) := by decide +kernel
theorem dX9_findWords_2 : decode cX9_findWords 2 = .ok (.iconst 0, 1) := by decide +kernel
theorem dX9_findWords_3 : decode cX9_findWords 3 = .ok (.istore_n 2, 1) := by decide +kernel
theorem dX9_findWords_4 : decode cX9_findWords 4 = .ok (.aload_n 0, 1) := by decide +kernel
theorem dX9_findWords_5 : decode cX9_findWords 5 = .ok (.iconst 0, 1) := by decide +kernel
theorem dX9_findWords_6 : decode cX9_findWords 6 = .ok (.putfield 43, 3) := by decide +kernel
theorem dX9_findWords_9 : decode cX9_findWords 9 = .ok (.aload_n 0, 1) := by decide +kernel
theorem dX9_findWords_10 : decode cX9_findWords 10 = .ok (.iconst 0, 1) := by decide +kernel
theorem dX9_findWords_11 : decode cX9_findWords 11 = .ok (.putfield 53, 3) := by decide +kernel
theorem dX9_findWords_14 : decode cX9_findWords 14 = .ok (.iconst 0, 1) := by decide +kernel
theorem dX9_findWords_15 : decode cX9_findWords 15 = .ok (.istore_n 3, 1) := by decide +kernel
theorem dX9_findWords_16 : decode cX9_findWords 16 = .ok (.iload_n 3, 1) := by decide +kernel
theorem dX9_findWords_17 : decode cX9_findWords 17 = .ok (.aload_n 0, 1) := by decide +kernel
theorem dX9_findWords_18 : decode cX9_findWords 18 = .ok (.getfield 35, 3) := by decide +kernel
theorem dX9_findWords_21 : decode cX9_findWords 21 = .ok (.if_icmp .ge 108, 3) := by decide +kernel
theorem dX9_findWords_24 : decode cX9_findWords 24 = .ok (.aload_n 0, 1) := by decide +kernel
theorem dX9_findWords_25 : decode cX9_findWords 25 = .ok (.getfield 14, 3) := by decide +kernel
theorem dX9_findWords_28 : decode cX9_findWords 28 = .ok (.iload_n 3, 1) := by decide +kernel
theorem dX9_findWords_29 : decode cX9_findWords 29 = .ok (.invokevirtual 39, 3) := by decide +kernel
theorem dX9_findWords_32 : decode cX9_findWords 32 = .ok (.istore 4, 2) := by decide +kernel
theorem dX9_findWords_34 : decode cX9_findWords 34 = .ok (.iload_n 1, 1) := by decide +kernel
theorem dX9_findWords_35 : decode cX9_findWords 35 = .ok (.ifCond .ne 15, 3) := by decide +kernel
theorem dX9_findWords_38 : decode cX9_findWords 38 = .ok (.iload 4, 2) := by decide +kernel
theorem dX9_findWords_40 : decode cX9_findWords 40 = .ok (.invokestatic 88, 3) := by decide +kernel
theorem dX9_findWords_43 : decode cX9_findWords 43 = .ok (.ifCond .eq 7, 3) := by decide +kernel
theorem dX9_findWords_46 : decode cX9_findWords 46 = .ok (.iconst 1, 1) := by decide +kernel
theorem dX9_findWords_47 : decode cX9_findWords 47 = .ok (.goto 4, 3) := by decide +kernel
theorem dX9_findWords_50 : decode cX9_findWords 50 = .ok (.iconst 0, 1) := by decide +kernel
theorem dX9_findWords_51 : decode cX9_findWords 51 = .ok (.istore 5, 2) := by decide +kernel
theorem dX9_findWords_53 : decode cX9_findWords 53 = .ok (.iload 5, 2) := by decide +kernel
theorem dX9_findWords_55 : decode cX9_findWords 55 = .ok (.ifCond .eq 17, 3) := by decide +kernel
theorem dX9_findWords_58 : decode cX9_findWords 58 = .ok (.aload_n 0, 1) := by decide +kernel
theorem dX9_findWords_59 : decode cX9_findWords 59 = .ok (.iload_n 3, 1) := by decide +kernel
theorem dX9_findWords_60 : decode cX9_findWords 60 = .ok (.iload 4, 2) := by decide +kernel
theorem dX9_findWords_62 : decode cX9_findWords 62 = .ok (.bipush 97, 2) := by decide +kernel
theorem dX9_findWords_64 : decode cX9_findWords 64 = .ok (.isub, 1) := by decide +kernel
theorem dX9_findWords_65 : decode cX9_findWords 65 = .ok (.iload_n 2, 1) := by decide +kernel
theorem dX9_findWords_66 : decode cX9_findWords 66 = .ok (.invokevirtual 92, 3) := by decide +kernel
theorem dX9_findWords_69 : decode cX9_findWords 69 = .ok (.goto 51, 3) := by decide +kernel
theorem dX9_findWords_72 : decode cX9_findWords 72 = .ok (.iload 4, 2) := by decide +kernel
theorem dX9_findWords_74 : decode cX9_findWords 74 = .ok (.bipush 46, 2) := by decide +kernel
theorem dX9_findWords_76 : decode cX9_findWords 76 = .ok (.if_icmp .ne 17, 3) := by decide +kernel
theorem dX9_findWords_79 : decode cX9_findWords 79 = .ok (.iload_n 1, 1) := by decide +kernel
theorem dX9_findWords_80 : decode cX9_findWords 80 = .ok (.ifCond .ne 13, 3) := by decide +kernel
theorem dX9_findWords_83 : decode cX9_findWords 83 = .ok (.aload_n 0, 1) := by decide +kernel
theorem dX9_findWords_84 : decode cX9_findWords 84 = .ok (.iload_n 3, 1) := by decide +kernel
theorem dX9_findWords_85 : decode cX9_findWords 85 = .ok (.iconst 1, 1) := by decide +kernel
theorem dX9_findWords_86 : decode cX9_findWords 86 = .ok (.iadd, 1) := by decide +kernel
theorem dX9_findWords_87 : decode cX9_findWords 87 = .ok (.invokevirtual 96, 3) := by decide +kernel
theorem dX9_findWords_90 : decode cX9_findWords 90 = .ok (.goto 30, 3) := by decide +kernel
theorem dX9_findWords_93 : decode cX9_findWords 93 = .ok (.iload 4, 2) := by decide +kernel
theorem dX9_findWords_95 : decode cX9_findWords 95 = .ok (.bipush 60, 2) := by decide +kernel
theorem dX9_findWords_97 : decode cX9_findWords 97 = .ok (.if_icmp .eq 10, 3) := by decide +kernel
theorem dX9_findWords_100 : decode cX9_findWords 100 = .ok (.iload 4, 2) := by decide +kernel
theorem dX9_findWords_102 : decode cX9_findWords 102 = .ok (.bipush 62, 2) := by decide +kernel
theorem dX9_findWords_104 : decode cX9_findWords 104 = .ok (.if_icmp .ne 16, 3) := by decide +kernel
theorem dX9_findWords_107 : decode cX9_findWords 107 = .ok (.iload 4, 2) := by decide +kernel
theorem dX9_findWords_109 : decode cX9_findWords 109 = .ok (.bipush 60, 2) := by decide +kernel
theorem dX9_findWords_111 : decode cX9_findWords 111 = .ok (.if_icmp .ne 7, 3) := by decide +kernel
theorem dX9_findWords_114 : decode cX9_findWords 114 = .ok (.iconst 1, 1) := by decide +kernel
theorem dX9_findWords_115 : decode cX9_findWords 115 = .ok (.goto 4, 3) := by decide +kernel
theorem dX9_findWords_118 : decode cX9_findWords 118 = .ok (.iconst 0, 1) := by decide +kernel
theorem dX9_findWords_119 : decode cX9_findWords 119 = .ok (.istore_n 1, 1) := by decide +kernel
theorem dX9_findWords_120 : decode cX9_findWords 120 = .ok (.iload 5, 2) := by decide +kernel
theorem dX9_findWords_122 : decode cX9_findWords 122 = .ok (.istore_n 2, 1) := by decide +kernel
theorem dX9_findWords_123 : decode cX9_findWords 123 = .ok (.iinc 3 1, 3) := by decide +kernel
theorem dX9_findWords_126 : decode cX9_findWords 126 = .ok (.goto (-110), 3) := by decide +kernel
theorem dX9_findWords_129 : decode cX9_findWords 129 = .ok (.aload_n 0, 1) := by decide +kernel
theorem dX9_findWords_130 : decode cX9_findWords 130 = .ok (.aload_n 0, 1) := by decide +kernel
theorem dX9_findWords_131 : decode cX9_findWords 131 = .ok (.getfield 35, 3) := by decide +kernel
theorem dX9_findWords_134 : decode cX9_findWords 134 = .ok (.invokevirtual 96, 3) := by decide +kernel
theorem dX9_findWords_137 : decode cX9_findWords 137 = .ok (.return_, 1) := by decide +kernel
theorem dX9_addLetter_0 : decode cX9_addLetter 0 = .ok (.iload_n 3, 1) := by decide +kernel
theorem dX9_addLetter_1 : decode cX9_addLetter 1 = .ok (.ifCond .ne 49, 3) := by decide +kernel
theorem dX9_addLetter_4 : decode cX9_addLetter 4 = .ok (.aload_n 0, 1) := by decide +kernel
theorem dX9_addLetter_5 : decode cX9_addLetter 5 = .ok (.getfield 20, 3) := by decide +kernel
theorem dX9_addLetter_8 : decode cX9_addLetter 8 = .ok (.aload_n 0, 1) := by decide +kernel
theorem dX9_addLetter_9 : decode cX9_addLetter 9 = .ok (.getfield 43, 3) := by decide +kernel
theorem dX9_addLetter_12 : decode cX9_addLetter 12 = .ok (.iload_n 1, 1) := by decide +kernel
theorem dX9_addLetter_13 : decode cX9_addLetter 13 = .ok (.invokevirtual 82, 3) := by decide +kernel
theorem dX9_addLetter_16 : decode cX9_addLetter 16 = .ok (.aload_n 0, 1) := by decide +kernel
theorem dX9_addLetter_17 : decode cX9_addLetter 17 = .ok (.getfield 23, 3) := by decide +kernel
theorem dX9_addLetter_20 : decode cX9_addLetter 20 = .ok (.aload_n 0, 1) := by decide +kernel
theorem dX9_addLetter_21 : decode cX9_addLetter 21 = .ok (.getfield 43, 3) := by decide +kernel
theorem dX9_addLetter_24 : decode cX9_addLetter 24 = .ok (.iconst 0, 1) := by decide +kernel
theorem dX9_addLetter_25 : decode cX9_addLetter 25 = .ok (.invokevirtual 82, 3) := by decide +kernel
theorem dX9_addLetter_28 : decode cX9_addLetter 28 = .ok (.aload_n 0, 1) := by decide +kernel
theorem dX9_addLetter_29 : decode cX9_addLetter 29 = .ok (.getfield 26, 3) := by decide +kernel
theorem dX9_addLetter_32 : decode cX9_addLetter 32 = .ok (.aload_n 0, 1) := by decide +kernel
theorem dX9_addLetter_33 : decode cX9_addLetter 33 = .ok (.getfield 43, 3) := by decide +kernel
theorem dX9_addLetter_36 : decode cX9_addLetter 36 = .ok (.iconst 1, 1) := by decide +kernel
theorem dX9_addLetter_37 : decode cX9_addLetter 37 = .ok (.invokevirtual 82, 3) := by decide +kernel
theorem dX9_addLetter_40 : decode cX9_addLetter 40 = .ok (.aload_n 0, 1) := by decide +kernel
theorem dX9_addLetter_41 : decode cX9_addLetter 41 = .ok (.dup, 1) := by decide +kernel
theorem dX9_addLetter_42 : decode cX9_addLetter 42 = .ok (.getfield 43, 3) := by decide +kernel
theorem dX9_addLetter_45 : decode cX9_addLetter 45 = .ok (.iconst 1, 1) := by decide +kernel
theorem dX9_addLetter_46 : decode cX9_addLetter 46 = .ok (.iadd, 1) := by decide +kernel
theorem dX9_addLetter_47 : decode cX9_addLetter 47 = .ok (.putfield 43, 3) := by decide +kernel
theorem dX9_addLetter_50 : decode cX9_addLetter 50 = .ok (.aload_n 0, 1) := by decide +kernel
theorem dX9_addLetter_51 : decode cX9_addLetter 51 = .ok (.getfield 43, 3) := by decide +kernel
theorem dX9_addLetter_54 : decode cX9_addLetter 54 = .ok (.iconst 1, 1) := by decide +kernel
theorem dX9_addLetter_55 : decode cX9_addLetter 55 = .ok (.isub, 1) := by decide +kernel
theorem dX9_addLetter_56 : decode cX9_addLetter 56 = .ok (.istore 4, 2) := by decide +kernel
theorem dX9_addLetter_58 : decode cX9_addLetter 58 = .ok (.aload_n 0, 1) := by decide +kernel
theorem dX9_addLetter_59 : decode cX9_addLetter 59 = .ok (.getfield 23, 3) := by decide +kernel
theorem dX9_addLetter_62 : decode cX9_addLetter 62 = .ok (.iload 4, 2) := by decide +kernel
theorem dX9_addLetter_64 : decode cX9_addLetter 64 = .ok (.invokevirtual 39, 3) := by decide +kernel
theorem dX9_addLetter_67 : decode cX9_addLetter 67 = .ok (.istore 5, 2) := by decide +kernel
theorem dX9_addLetter_69 : decode cX9_addLetter 69 = .ok (.aload_n 0, 1) := by decide +kernel
theorem dX9_addLetter_70 : decode cX9_addLetter 70 = .ok (.getfield 23, 3) := by decide +kernel
theorem dX9_addLetter_73 : decode cX9_addLetter 73 = .ok (.iload 4, 2) := by decide +kernel
theorem dX9_addLetter_75 : decode cX9_addLetter 75 = .ok (.iload 5, 2) := by decide +kernel
theorem dX9_addLetter_77 : decode cX9_addLetter 77 = .ok (.iconst 1, 1) := by decide +kernel
theorem dX9_addLetter_78 : decode cX9_addLetter 78 = .ok (.iadd, 1) := by decide +kernel
theorem dX9_addLetter_79 : decode cX9_addLetter 79 = .ok (.invokevirtual 82, 3) := by decide +kernel
theorem dX9_addLetter_82 : decode cX9_addLetter 82 = .ok (.aload_n 0, 1) := by decide +kernel
theorem dX9_addLetter_83 : decode cX9_addLetter 83 = .ok (.getfield 26, 3) := by decide +kernel
theorem dX9_addLetter_86 : decode cX9_addLetter 86 = .ok (.iload 4, 2) := by decide +kernel
theorem dX9_addLetter_88 : decode cX9_addLetter 88 = .ok (.iload 5, 2) := by decide +kernel
theorem dX9_addLetter_90 : decode cX9_addLetter 90 = .ok (.bipush 10, 2) := by decide +kernel
theorem dX9_addLetter_92 : decode cX9_addLetter 92 = .ok (.if_icmp .ge 19, 3) := by decide +kernel
theorem dX9_addLetter_95 : decode cX9_addLetter 95 = .ok (.aload_n 0, 1) := by decide +kernel
theorem dX9_addLetter_96 : decode cX9_addLetter 96 = .ok (.getfield 26, 3) := by decide +kernel
theorem dX9_addLetter_99 : decode cX9_addLetter 99 = .ok (.iload 4, 2) := by decide +kernel
theorem dX9_addLetter_101 : decode cX9_addLetter 101 = .ok (.invokevirtual 39, 3) := by decide +kernel
theorem dX9_addLetter_104 : decode cX9_addLetter 104 = .ok (.iload_n 2, 1) := by decide +kernel
theorem dX9_addLetter_105 : decode cX9_addLetter 105 = .ok (.invokestatic 50, 3) := by decide +kernel
theorem dX9_addLetter_108 : decode cX9_addLetter 108 = .ok (.goto 4, 3) := by decide +kernel
theorem dX9_addLetter_111 : decode cX9_addLetter 111 = .ok (.iconst 0, 1) := by decide +kernel
theorem dX9_addLetter_112 : decode cX9_addLetter 112 = .ok (.invokevirtual 82, 3) := by decide +kernel
theorem dX9_addLetter_115 : decode cX9_addLetter 115 = .ok (.return_, 1) := by decide +kernel
theorem dX9_endSentence_0 : decode cX9_endSentence 0 = .ok (.aload_n 0, 1) := by decide +kernel
theorem dX9_endSentence_1 : decode cX9_endSentence 1 = .ok (.dup, 1) := by decide +kernel
theorem dX9_endSentence_2 : decode cX9_endSentence 2 = .ok (.getfield 53, 3) := by decide +kernel
theorem dX9_endSentence_5 : decode cX9_endSentence 5 = .ok (.iconst 1, 1) := by decide +kernel
theorem dX9_endSentence_6 : decode cX9_endSentence 6 = .ok (.iadd, 1) := by decide +kernel
theorem dX9_endSentence_7 : decode cX9_endSentence 7 = .ok (.putfield 53, 3) := by decide +kernel
theorem dX9_endSentence_10 : decode cX9_endSentence 10 = .ok (.aload_n 0, 1) := by decide +kernel
theorem dX9_endSentence_11 : decode cX9_endSentence 11 = .ok (.getfield 29, 3) := by decide +kernel
theorem dX9_endSentence_14 : decode cX9_endSentence 14 = .ok (.aload_n 0, 1) := by decide +kernel
theorem dX9_endSentence_15 : decode cX9_endSentence 15 = .ok (.getfield 53, 3) := by decide +kernel
theorem dX9_endSentence_18 : decode cX9_endSentence 18 = .ok (.iload_n 1, 1) := by decide +kernel
theorem dX9_endSentence_19 : decode cX9_endSentence 19 = .ok (.invokevirtual 82, 3) := by decide +kernel
theorem dX9_endSentence_22 : decode cX9_endSentence 22 = .ok (.aload_n 0, 1) := by decide +kernel
theorem dX9_endSentence_23 : decode cX9_endSentence 23 = .ok (.getfield 32, 3) := by decide +kernel
theorem dX9_endSentence_26 : decode cX9_endSentence 26 = .ok (.aload_n 0, 1) := by decide +kernel
theorem dX9_endSentence_27 : decode cX9_endSentence 27 = .ok (.getfield 53, 3) := by decide +kernel
theorem dX9_endSentence_30 : decode cX9_endSentence 30 = .ok (.aload_n 0, 1) := by decide +kernel
theorem dX9_endSentence_31 : decode cX9_endSentence 31 = .ok (.getfield 43, 3) := by decide +kernel
theorem dX9_endSentence_34 : decode cX9_endSentence 34 = .ok (.invokevirtual 82, 3) := by decide +kernel
theorem dX9_endSentence_37 : decode cX9_endSentence 37 = .ok (.return_, 1) := by decide +kernel
theorem dX9_wordsCheckedSince_0 : decode cX9_wordsCheckedSince 0 = .ok (.iconst 0, 1) := by decide +kernel
theorem dX9_wordsCheckedSince_1 : decode cX9_wordsCheckedSince 1 = .ok (.istore_n 2, 1) := by decide +kernel
theorem dX9_wordsCheckedSince_2 : decode cX9_wordsCheckedSince 2 = .ok (.iconst 0, 1) := by decide +kernel
theorem dX9_wordsCheckedSince_3 : decode cX9_wordsCheckedSince 3 = .ok (.istore_n 3, 1) := by decide +kernel
theorem dX9_wordsCheckedSince_4 : decode cX9_wordsCheckedSince 4 = .ok (.iload_n 3, 1) := by decide +kernel
theorem dX9_wordsCheckedSince_5 : decode cX9_wordsCheckedSince 5 = .ok (.aload_n 0, 1) := by decide +kernel
theorem dX9_wordsCheckedSince_6 : decode cX9_wordsCheckedSince 6 = .ok (.getfield 53, 3) := by decide +kernel
theorem dX9_wordsCheckedSince_9 : decode cX9_wordsCheckedSince 9 = .ok (.if_icmp .ge 62, 3) := by decide +kernel
theorem dX9_wordsCheckedSince_12 : decode cX9_wordsCheckedSince 12 = .ok (.aload_n 0, 1) := by decide +kernel
theorem dX9_wordsCheckedSince_13 : decode cX9_wordsCheckedSince 13 = .ok (.getfield 32, 3) := by decide +kernel
theorem dX9_wordsCheckedSince_16 : decode cX9_wordsCheckedSince 16 = .ok (.iload_n 3, 1) := by decide +kernel
theorem dX9_wordsCheckedSince_17 : decode cX9_wordsCheckedSince 17 = .ok (.iconst 1, 1) := by decide +kernel
theorem dX9_wordsCheckedSince_18 : decode cX9_wordsCheckedSince 18 = .ok (.iadd, 1) := by decide +kernel
theorem dX9_wordsCheckedSince_19 : decode cX9_wordsCheckedSince 19 = .ok (.invokevirtual 39, 3) := by decide +kernel
theorem dX9_wordsCheckedSince_22 : decode cX9_wordsCheckedSince 22 = .ok (.aload_n 0, 1) := by decide +kernel
theorem dX9_wordsCheckedSince_23 : decode cX9_wordsCheckedSince 23 = .ok (.getfield 32, 3) := by decide +kernel
theorem dX9_wordsCheckedSince_26 : decode cX9_wordsCheckedSince 26 = .ok (.iload_n 3, 1) := by decide +kernel
theorem dX9_wordsCheckedSince_27 : decode cX9_wordsCheckedSince 27 = .ok (.invokevirtual 39, 3) := by decide +kernel
theorem dX9_wordsCheckedSince_30 : decode cX9_wordsCheckedSince 30 = .ok (.isub, 1) := by decide +kernel
theorem dX9_wordsCheckedSince_31 : decode cX9_wordsCheckedSince 31 = .ok (.istore 4, 2) := by decide +kernel
theorem dX9_wordsCheckedSince_33 : decode cX9_wordsCheckedSince 33 = .ok (.iload 4, 2) := by decide +kernel
theorem dX9_wordsCheckedSince_35 : decode cX9_wordsCheckedSince 35 = .ok (.ifCond .le 30, 3) := by decide +kernel
theorem dX9_wordsCheckedSince_38 : decode cX9_wordsCheckedSince 38 = .ok (.aload_n 0, 1) := by decide +kernel
theorem dX9_wordsCheckedSince_39 : decode cX9_wordsCheckedSince 39 = .ok (.iload_n 3, 1) := by decide +kernel
theorem dX9_wordsCheckedSince_40 : decode cX9_wordsCheckedSince 40 = .ok (.aload_n 0, 1) := by decide +kernel
theorem dX9_wordsCheckedSince_41 : decode cX9_wordsCheckedSince 41 = .ok (.iload_n 3, 1) := by decide +kernel
theorem dX9_wordsCheckedSince_42 : decode cX9_wordsCheckedSince 42 = .ok (.iconst 1, 1) := by decide +kernel
theorem dX9_wordsCheckedSince_43 : decode cX9_wordsCheckedSince 43 = .ok (.iadd, 1) := by decide +kernel
theorem dX9_wordsCheckedSince_44 : decode cX9_wordsCheckedSince 44 = .ok (.invokevirtual 99, 3) := by decide +kernel
theorem dX9_wordsCheckedSince_47 : decode cX9_wordsCheckedSince 47 = .ok (.aload_n 0, 1) := by decide +kernel
theorem dX9_wordsCheckedSince_48 : decode cX9_wordsCheckedSince 48 = .ok (.iload_n 3, 1) := by decide +kernel
theorem dX9_wordsCheckedSince_49 : decode cX9_wordsCheckedSince 49 = .ok (.aload_n 1, 1) := by decide +kernel
theorem dX9_wordsCheckedSince_50 : decode cX9_wordsCheckedSince 50 = .ok (.aload_n 1, 1) := by decide +kernel
theorem dX9_wordsCheckedSince_51 : decode cX9_wordsCheckedSince 51 = .ok (.getfield 53, 3) := by decide +kernel
theorem dX9_wordsCheckedSince_54 : decode cX9_wordsCheckedSince 54 = .ok (.invokevirtual 99, 3) := by decide +kernel
theorem dX9_wordsCheckedSince_57 : decode cX9_wordsCheckedSince 57 = .ok (.if_icmp .le 8, 3) := by decide +kernel
theorem dX9_wordsCheckedSince_60 : decode cX9_wordsCheckedSince 60 = .ok (.iload_n 2, 1) := by decide +kernel
theorem dX9_wordsCheckedSince_61 : decode cX9_wordsCheckedSince 61 = .ok (.iload 4, 2) := by decide +kernel
theorem dX9_wordsCheckedSince_63 : decode cX9_wordsCheckedSince 63 = .ok (.iadd, 1) := by decide +kernel
theorem dX9_wordsCheckedSince_64 : decode cX9_wordsCheckedSince 64 = .ok (.istore_n 2, 1) := by decide +kernel
theorem dX9_wordsCheckedSince_65 : decode cX9_wordsCheckedSince 65 = .ok (.iinc 3 1, 3) := by decide +kernel
theorem dX9_wordsCheckedSince_68 : decode cX9_wordsCheckedSince 68 = .ok (.goto (-64), 3) := by decide +kernel
theorem dX9_wordsCheckedSince_71 : decode cX9_wordsCheckedSince 71 = .ok (.iload_n 2, 1) := by decide +kernel
theorem dX9_wordsCheckedSince_72 : decode cX9_wordsCheckedSince 72 = .ok (.ireturn, 1) := by decide +kernel
theorem dX9_countLike_0 : decode cX9_countLike 0 = .ok (.iconst 0, 1) := by decide +kernel
theorem dX9_countLike_1 : decode cX9_countLike 1 = .ok (.istore 4, 2) := by decide +kernel
theorem dX9_countLike_3 : decode cX9_countLike 3 = .ok (.iconst 0, 1) := by decide +kernel
theorem dX9_countLike_4 : decode cX9_countLike 4 = .ok (.istore 5, 2) := by decide +kernel
theorem dX9_countLike_6 : decode cX9_countLike 6 = .ok (.iload 5, 2) := by decide +kernel
theorem dX9_countLike_8 : decode cX9_countLike 8 = .ok (.iload_n 3, 1) := by decide +kernel
theorem dX9_countLike_9 : decode cX9_countLike 9 = .ok (.if_icmp .ge 23, 3) := by decide +kernel
theorem dX9_countLike_12 : decode cX9_countLike 12 = .ok (.aload_n 0, 1) := by decide +kernel
theorem dX9_countLike_13 : decode cX9_countLike 13 = .ok (.iload_n 1, 1) := by decide +kernel
theorem dX9_countLike_14 : decode cX9_countLike 14 = .ok (.aload_n 2, 1) := by decide +kernel
theorem dX9_countLike_15 : decode cX9_countLike 15 = .ok (.iload 5, 2) := by decide +kernel
theorem dX9_countLike_17 : decode cX9_countLike 17 = .ok (.invokevirtual 103, 3) := by decide +kernel
theorem dX9_countLike_20 : decode cX9_countLike 20 = .ok (.ifCond .eq 6, 3) := by decide +kernel
theorem dX9_countLike_23 : decode cX9_countLike 23 = .ok (.iinc 4 1, 3) := by decide +kernel
theorem dX9_countLike_26 : decode cX9_countLike 26 = .ok (.iinc 5 1, 3) := by decide +kernel
theorem dX9_countLike_29 : decode cX9_countLike 29 = .ok (.goto (-23), 3) := by decide +kernel
theorem dX9_countLike_32 : decode cX9_countLike 32 = .ok (.iload 4, 2) := by decide +kernel
theorem dX9_countLike_34 : decode cX9_countLike 34 = .ok (.ireturn, 1) := by decide +kernel
theorem dX9_isLike_0 : decode cX9_isLike 0 = .ok (.aload_n 0, 1) := by decide +kernel
theorem dX9_isLike_1 : decode cX9_isLike 1 = .ok (.getfield 29, 3) := by decide +kernel
theorem dX9_isLike_4 : decode cX9_isLike 4 = .ok (.iload_n 1, 1) := by decide +kernel
theorem dX9_isLike_5 : decode cX9_isLike 5 = .ok (.invokevirtual 39, 3) := by decide +kernel
theorem dX9_isLike_8 : decode cX9_isLike 8 = .ok (.istore 4, 2) := by decide +kernel
theorem dX9_isLike_10 : decode cX9_isLike 10 = .ok (.aload_n 2, 1) := by decide +kernel
theorem dX9_isLike_11 : decode cX9_isLike 11 = .ok (.getfield 29, 3) := by decide +kernel
theorem dX9_isLike_14 : decode cX9_isLike 14 = .ok (.iload_n 3, 1) := by decide +kernel
theorem dX9_isLike_15 : decode cX9_isLike 15 = .ok (.invokevirtual 39, 3) := by decide +kernel
theorem dX9_isLike_18 : decode cX9_isLike 18 = .ok (.istore 5, 2) := by decide +kernel
theorem dX9_isLike_20 : decode cX9_isLike 20 = .ok (.aload_n 0, 1) := by decide +kernel
theorem dX9_isLike_21 : decode cX9_isLike 21 = .ok (.getfield 29, 3) := by decide +kernel
theorem dX9_isLike_24 : decode cX9_isLike 24 = .ok (.iload_n 1, 1) := by decide +kernel
theorem dX9_isLike_25 : decode cX9_isLike 25 = .ok (.iconst 1, 1) := by decide +kernel
theorem dX9_isLike_26 : decode cX9_isLike 26 = .ok (.iadd, 1) := by decide +kernel
theorem dX9_isLike_27 : decode cX9_isLike 27 = .ok (.invokevirtual 39, 3) := by decide +kernel
theorem dX9_isLike_30 : decode cX9_isLike 30 = .ok (.iload 4, 2) := by decide +kernel
theorem dX9_isLike_32 : decode cX9_isLike 32 = .ok (.isub, 1) := by decide +kernel
theorem dX9_isLike_33 : decode cX9_isLike 33 = .ok (.istore 6, 2) := by decide +kernel
theorem dX9_isLike_35 : decode cX9_isLike 35 = .ok (.iload 6, 2) := by decide +kernel
theorem dX9_isLike_37 : decode cX9_isLike 37 = .ok (.aload_n 2, 1) := by decide +kernel
theorem dX9_isLike_38 : decode cX9_isLike 38 = .ok (.getfield 29, 3) := by decide +kernel
theorem dX9_isLike_41 : decode cX9_isLike 41 = .ok (.iload_n 3, 1) := by decide +kernel
theorem dX9_isLike_42 : decode cX9_isLike 42 = .ok (.iconst 1, 1) := by decide +kernel
theorem dX9_isLike_43 : decode cX9_isLike 43 = .ok (.iadd, 1) := by decide +kernel
theorem dX9_isLike_44 : decode cX9_isLike 44 = .ok (.invokevirtual 39, 3) := by decide +kernel
theorem dX9_isLike_47 : decode cX9_isLike 47 = .ok (.iload 5, 2) := by decide +kernel
theorem dX9_isLike_49 : decode cX9_isLike 49 = .ok (.isub, 1) := by decide +kernel
theorem dX9_isLike_50 : decode cX9_isLike 50 = .ok (.if_icmp .eq 5, 3) := by decide +kernel
theorem dX9_isLike_53 : decode cX9_isLike 53 = .ok (.iconst 0, 1) := by decide +kernel
theorem dX9_isLike_54 : decode cX9_isLike 54 = .ok (.ireturn, 1) := by decide +kernel
theorem dX9_isLike_55 : decode cX9_isLike 55 = .ok (.iconst 0, 1) := by decide +kernel
theorem dX9_isLike_56 : decode cX9_isLike 56 = .ok (.istore 7, 2) := by decide +kernel
theorem dX9_isLike_58 : decode cX9_isLike 58 = .ok (.iload 7, 2) := by decide +kernel
theorem dX9_isLike_60 : decode cX9_isLike 60 = .ok (.iload 6, 2) := by decide +kernel
theorem dX9_isLike_62 : decode cX9_isLike 62 = .ok (.if_icmp .ge 38, 3) := by decide +kernel
theorem dX9_isLike_65 : decode cX9_isLike 65 = .ok (.aload_n 0, 1) := by decide +kernel
theorem dX9_isLike_66 : decode cX9_isLike 66 = .ok (.getfield 14, 3) := by decide +kernel
theorem dX9_isLike_69 : decode cX9_isLike 69 = .ok (.iload 4, 2) := by decide +kernel
theorem dX9_isLike_71 : decode cX9_isLike 71 = .ok (.iload 7, 2) := by decide +kernel
theorem dX9_isLike_73 : decode cX9_isLike 73 = .ok (.iadd, 1) := by decide +kernel
theorem dX9_isLike_74 : decode cX9_isLike 74 = .ok (.invokevirtual 39, 3) := by decide +kernel
theorem dX9_isLike_77 : decode cX9_isLike 77 = .ok (.aload_n 2, 1) := by decide +kernel
theorem dX9_isLike_78 : decode cX9_isLike 78 = .ok (.getfield 14, 3) := by decide +kernel
theorem dX9_isLike_81 : decode cX9_isLike 81 = .ok (.iload 5, 2) := by decide +kernel
theorem dX9_isLike_83 : decode cX9_isLike 83 = .ok (.iload 7, 2) := by decide +kernel
theorem dX9_isLike_85 : decode cX9_isLike 85 = .ok (.iadd, 1) := by decide +kernel
theorem dX9_isLike_86 : decode cX9_isLike 86 = .ok (.invokevirtual 39, 3) := by decide +kernel
theorem dX9_isLike_89 : decode cX9_isLike 89 = .ok (.if_icmp .eq 5, 3) := by decide +kernel
theorem dX9_isLike_92 : decode cX9_isLike 92 = .ok (.iconst 0, 1) := by decide +kernel
theorem dX9_isLike_93 : decode cX9_isLike 93 = .ok (.ireturn, 1) := by decide +kernel
theorem dX9_isLike_94 : decode cX9_isLike 94 = .ok (.iinc 7 1, 3) := by decide +kernel
theorem dX9_isLike_97 : decode cX9_isLike 97 = .ok (.goto (-39), 3) := by decide +kernel
theorem dX9_isLike_100 : decode cX9_isLike 100 = .ok (.iconst 1, 1) := by decide +kernel
theorem dX9_isLike_101 : decode cX9_isLike 101 = .ok (.ireturn, 1) := by decide +kernel
theorem dX10_init_0 : decode cX10_init 0 = .ok (.aload_n 0, 1) := by decide +kernel
theorem dX10_init_1 : decode cX10_init 1 = .ok (.invokespecial 1, 3) := by decide +kernel
theorem dX10_init_4 : decode cX10_init 4 = .ok (.aload_n 0, 1) := by decide +kernel
theorem dX10_init_5 : decode cX10_init 5 = .ok (.iload_n 1, 1) := by decide +kernel
theorem dX10_init_6 : decode cX10_init 6 = .ok (.putfield 7, 3) := by decide +kernel
theorem dX10_init_9 : decode cX10_init 9 = .ok (.aload_n 0, 1) := by decide +kernel
theorem dX10_init_10 : decode cX10_init 10 = .ok (.new 13, 3) := by decide +kernel
theorem dX10_init_13 : decode cX10_init 13 = .ok (.dup, 1) := by decide +kernel
theorem dX10_init_14 : decode cX10_init 14 = .ok (.iload_n 1, 1) := by decide +kernel
theorem dX10_init_15 : decode cX10_init 15 = .ok (.invokespecial 15, 3) := by decide +kernel
theorem dX10_init_18 : decode cX10_init 18 = .ok (.putfield 18, 3) := by decide +kernel
theorem dX10_init_21 : decode cX10_init 21 = .ok (.aload_n 0, 1) := by decide +kernel
theorem dX10_init_22 : decode cX10_init 22 = .ok (.new 13, 3) := by decide +kernel
theorem dX10_init_25 : decode cX10_init 25 = .ok (.dup, 1) := by decide +kernel
theorem dX10_init_26 : decode cX10_init 26 = .ok (.iload_n 1, 1) := by decide +kernel
theorem dX10_init_27 : decode cX10_init 27 = .ok (.invokespecial 15, 3) := by decide +kernel
theorem dX10_init_30 : decode cX10_init 30 = .ok (.putfield 22, 3) := by decide +kernel
theorem dX10_init_33 : decode cX10_init 33 = .ok (.return_, 1) := by decide +kernel
theorem dX10_count_0 : decode cX10_count 0 = .ok (.aload_n 0, 1) := by decide +kernel
theorem dX10_count_1 : decode cX10_count 1 = .ok (.getfield 25, 3) := by decide +kernel
theorem dX10_count_4 : decode cX10_count 4 = .ok (.ireturn, 1) := by decide +kernel
theorem dX10_wordOn_0 : decode cX10_wordOn 0 = .ok (.aload_n 0, 1) := by decide +kernel
theorem dX10_wordOn_1 : decode cX10_wordOn 1 = .ok (.getfield 18, 3) := by decide +kernel
theorem dX10_wordOn_4 : decode cX10_wordOn 4 = .ok (.iload_n 1, 1) := by decide +kernel
theorem dX10_wordOn_5 : decode cX10_wordOn 5 = .ok (.invokevirtual 28, 3) := by decide +kernel
theorem dX10_wordOn_8 : decode cX10_wordOn 8 = .ok (.ireturn, 1) := by decide +kernel
theorem dX10_valueOn_0 : decode cX10_valueOn 0 = .ok (.aload_n 0, 1) := by decide +kernel
theorem dX10_valueOn_1 : decode cX10_valueOn 1 = .ok (.getfield 22, 3) := by decide +kernel
theorem dX10_valueOn_4 : decode cX10_valueOn 4 = .ok (.iload_n 1, 1) := by decide +kernel
theorem dX10_valueOn_5 : decode cX10_valueOn 5 = .ok (.invokevirtual 28, 3) := by decide +kernel
theorem dX10_valueOn_8 : decode cX10_valueOn 8 = .ok (.ireturn, 1) := by decide +kernel
theorem dX10_valueOf_0 : decode cX10_valueOf 0 = .ok (.aload_n 0, 1) := by decide +kernel
theorem dX10_valueOf_1 : decode cX10_valueOf 1 = .ok (.iload_n 1, 1) := by decide +kernel
theorem dX10_valueOf_2 : decode cX10_valueOf 2 = .ok (.invokevirtual 32, 3) := by decide +kernel
theorem dX10_valueOf_5 : decode cX10_valueOf 5 = .ok (.istore_n 2, 1) := by decide +kernel
theorem dX10_valueOf_6 : decode cX10_valueOf 6 = .ok (.iload_n 2, 1) := by decide +kernel
theorem dX10_valueOf_7 : decode cX10_valueOf 7 = .ok (.aload_n 0, 1) := by decide +kernel
theorem dX10_valueOf_8 : decode cX10_valueOf 8 = .ok (.getfield 25, 3) := by decide +kernel
theorem dX10_valueOf_11 : decode cX10_valueOf 11 = .ok (.if_icmp .ge 26, 3) := by decide +kernel
theorem dX10_valueOf_14 : decode cX10_valueOf 14 = .ok (.aload_n 0, 1) := by decide +kernel
theorem dX10_valueOf_15 : decode cX10_valueOf 15 = .ok (.getfield 18, 3) := by decide +kernel
theorem dX10_valueOf_18 : decode cX10_valueOf 18 = .ok (.iload_n 2, 1) := by decide +kernel
theorem dX10_valueOf_19 : decode cX10_valueOf 19 = .ok (.invokevirtual 28, 3) := by decide +kernel
theorem dX10_valueOf_22 : decode cX10_valueOf 22 = .ok (.iload_n 1, 1) := by decide +kernel
theorem dX10_valueOf_23 : decode cX10_valueOf 23 = .ok (.if_icmp .ne 14, 3) := by decide +kernel
theorem dX10_valueOf_26 : decode cX10_valueOf 26 = .ok (.aload_n 0, 1) := by decide +kernel
theorem dX10_valueOf_27 : decode cX10_valueOf 27 = .ok (.getfield 22, 3) := by decide +kernel
theorem dX10_valueOf_30 : decode cX10_valueOf 30 = .ok (.iload_n 2, 1) := by decide +kernel
theorem dX10_valueOf_31 : decode cX10_valueOf 31 = .ok (.invokevirtual 28, 3) := by decide +kernel
theorem dX10_valueOf_34 : decode cX10_valueOf 34 = .ok (.goto 4, 3) := by decide +kernel
theorem dX10_valueOf_37 : decode cX10_valueOf 37 = .ok (.iconst 0, 1) := by decide +kernel
theorem dX10_valueOf_38 : decode cX10_valueOf 38 = .ok (.ireturn, 1) := by decide +kernel
theorem dX10_store_0 : decode cX10_store 0 = .ok (.aload_n 0, 1) := by decide +kernel
theorem dX10_store_1 : decode cX10_store 1 = .ok (.iload_n 1, 1) := by decide +kernel
theorem dX10_store_2 : decode cX10_store 2 = .ok (.invokevirtual 32, 3) := by decide +kernel
theorem dX10_store_5 : decode cX10_store 5 = .ok (.istore_n 3, 1) := by decide +kernel
theorem dX10_store_6 : decode cX10_store 6 = .ok (.iload_n 3, 1) := by decide +kernel
theorem dX10_store_7 : decode cX10_store 7 = .ok (.aload_n 0, 1) := by decide +kernel
theorem dX10_store_8 : decode cX10_store 8 = .ok (.getfield 25, 3) := by decide +kernel
theorem dX10_store_11 : decode cX10_store 11 = .ok (.if_icmp .ge 27, 3) := by decide +kernel
theorem dX10_store_14 : decode cX10_store 14 = .ok (.aload_n 0, 1) := by decide +kernel
theorem dX10_store_15 : decode cX10_store 15 = .ok (.getfield 18, 3) := by decide +kernel
theorem dX10_store_18 : decode cX10_store 18 = .ok (.iload_n 3, 1) := by decide +kernel
theorem dX10_store_19 : decode cX10_store 19 = .ok (.invokevirtual 28, 3) := by decide +kernel
theorem dX10_store_22 : decode cX10_store 22 = .ok (.iload_n 1, 1) := by decide +kernel
theorem dX10_store_23 : decode cX10_store 23 = .ok (.if_icmp .ne 15, 3) := by decide +kernel
theorem dX10_store_26 : decode cX10_store 26 = .ok (.aload_n 0, 1) := by decide +kernel
theorem dX10_store_27 : decode cX10_store 27 = .ok (.getfield 22, 3) := by decide +kernel
theorem dX10_store_30 : decode cX10_store 30 = .ok (.iload_n 3, 1) := by decide +kernel
theorem dX10_store_31 : decode cX10_store 31 = .ok (.iload_n 2, 1) := by decide +kernel
theorem dX10_store_32 : decode cX10_store 32 = .ok (.invokevirtual 35, 3) := by decide +kernel
theorem dX10_store_35 : decode cX10_store 35 = .ok (.goto 50, 3) := by decide +kernel
theorem dX10_store_38 : decode cX10_store 38 = .ok (.aload_n 0, 1) := by decide +kernel
theorem dX10_store_39 : decode cX10_store 39 = .ok (.getfield 25, 3) := by decide +kernel
theorem dX10_store_42 : decode cX10_store 42 = .ok (.aload_n 0, 1) := by decide +kernel
theorem dX10_store_43 : decode cX10_store 43 = .ok (.getfield 7, 3) := by decide +kernel
theorem dX10_store_46 : decode cX10_store 46 = .ok (.if_icmp .ge 39, 3) := by decide +kernel
theorem dX10_store_49 : decode cX10_store 49 = .ok (.aload_n 0, 1) := by decide +kernel
theorem dX10_store_50 : decode cX10_store 50 = .ok (.getfield 18, 3) := by decide +kernel
theorem dX10_store_53 : decode cX10_store 53 = .ok (.iload_n 3, 1) := by decide +kernel
theorem dX10_store_54 : decode cX10_store 54 = .ok (.iload_n 1, 1) := by decide +kernel
theorem dX10_store_55 : decode cX10_store 55 = .ok (.aload_n 0, 1) := by decide +kernel
theorem dX10_store_56 : decode cX10_store 56 = .ok (.getfield 25, 3) := by decide +kernel
theorem dX10_store_59 : decode cX10_store 59 = .ok (.invokevirtual 39, 3) := by decide +kernel
theorem dX10_store_62 : decode cX10_store 62 = .ok (.aload_n 0, 1) := by decide +kernel
theorem dX10_store_63 : decode cX10_store 63 = .ok (.getfield 22, 3) := by decide +kernel
theorem dX10_store_66 : decode cX10_store 66 = .ok (.iload_n 3, 1) := by decide +kernel
theorem dX10_store_67 : decode cX10_store 67 = .ok (.iload_n 2, 1) := by decide +kernel
theorem dX10_store_68 : decode cX10_store 68 = .ok (.aload_n 0, 1) := by decide +kernel
theorem dX10_store_69 : decode cX10_store 69 = .ok (.getfield 25, 3) := by decide +kernel
theorem dX10_store_72 : decode cX10_store 72 = .ok (.invokevirtual 39, 3) := by decide +kernel
theorem dX10_store_75 : decode cX10_store 75 = .ok (.aload_n 0, 1) := by decide +kernel
theorem dX10_store_76 : decode cX10_store 76 = .ok (.dup, 1) := by decide +kernel
theorem dX10_store_77 : decode cX10_store 77 = .ok (.getfield 25, 3) := by decide +kernel
theorem dX10_store_80 : decode cX10_store 80 = .ok (.iconst 1, 1) := by decide +kernel
theorem dX10_store_81 : decode cX10_store 81 = .ok (.iadd, 1) := by decide +kernel
theorem dX10_store_82 : decode cX10_store 82 = .ok (.putfield 25, 3) := by decide +kernel
theorem dX10_store_85 : decode cX10_store 85 = .ok (.return_, 1) := by decide +kernel
theorem dX10_drop_0 : decode cX10_drop 0 = .ok (.aload_n 0, 1) := by decide +kernel
theorem dX10_drop_1 : decode cX10_drop 1 = .ok (.iload_n 1, 1) := by decide +kernel
theorem dX10_drop_2 : decode cX10_drop 2 = .ok (.invokevirtual 32, 3) := by decide +kernel
theorem dX10_drop_5 : decode cX10_drop 5 = .ok (.istore_n 2, 1) := by decide +kernel
theorem dX10_drop_6 : decode cX10_drop 6 = .ok (.iload_n 2, 1) := by decide +kernel
theorem dX10_drop_7 : decode cX10_drop 7 = .ok (.aload_n 0, 1) := by decide +kernel
theorem dX10_drop_8 : decode cX10_drop 8 = .ok (.getfield 25, 3) := by decide +kernel
theorem dX10_drop_11 : decode cX10_drop 11 = .ok (.if_icmp .ge 49, 3) := by decide +kernel
theorem dX10_drop_14 : decode cX10_drop 14 = .ok (.aload_n 0, 1) := by decide +kernel
theorem dX10_drop_15 : decode cX10_drop 15 = .ok (.getfield 18, 3) := by decide +kernel
theorem dX10_drop_18 : decode cX10_drop 18 = .ok (.iload_n 2, 1) := by decide +kernel
theorem dX10_drop_19 : decode cX10_drop 19 = .ok (.invokevirtual 28, 3) := by decide +kernel
theorem dX10_drop_22 : decode cX10_drop 22 = .ok (.iload_n 1, 1) := by decide +kernel
theorem dX10_drop_23 : decode cX10_drop 23 = .ok (.if_icmp .ne 37, 3) := by decide +kernel
theorem dX10_drop_26 : decode cX10_drop 26 = .ok (.aload_n 0, 1) := by decide +kernel
theorem dX10_drop_27 : decode cX10_drop 27 = .ok (.getfield 18, 3) := by decide +kernel
theorem dX10_drop_30 : decode cX10_drop 30 = .ok (.iload_n 2, 1) := by decide +kernel
theorem dX10_drop_31 : decode cX10_drop 31 = .ok (.aload_n 0, 1) := by decide +kernel
theorem dX10_drop_32 : decode cX10_drop 32 = .ok (.getfield 25, 3) := by decide +kernel
theorem dX10_drop_35 : decode cX10_drop 35 = .ok (.invokevirtual 43, 3) := by decide +kernel
theorem dX10_drop_38 : decode cX10_drop 38 = .ok (.aload_n 0, 1) := by decide +kernel
theorem dX10_drop_39 : decode cX10_drop 39 = .ok (.getfield 22, 3) := by decide +kernel
theorem dX10_drop_42 : decode cX10_drop 42 = .ok (.iload_n 2, 1) := by decide +kernel
theorem dX10_drop_43 : decode cX10_drop 43 = .ok (.aload_n 0, 1) := by decide +kernel
theorem dX10_drop_44 : decode cX10_drop 44 = .ok (.getfield 25, 3) := by decide +kernel
theorem dX10_drop_47 : decode cX10_drop 47 = .ok (.invokevirtual 43, 3) := by decide +kernel
theorem dX10_drop_50 : decode cX10_drop 50 = .ok (.aload_n 0, 1) := by decide +kernel
theorem dX10_drop_51 : decode cX10_drop 51 = .ok (.dup, 1) := by decide +kernel
theorem dX10_drop_52 : decode cX10_drop 52 = .ok (.getfield 25, 3) := by decide +kernel
theorem dX10_drop_55 : decode cX10_drop 55 = .ok (.iconst 1, 1) := by decide +kernel
theorem dX10_drop_56 : decode cX10_drop 56 = .ok (.isub, 1) := by decide +kernel
theorem dX10_drop_57 : decode cX10_drop 57 = .ok (.putfield 25, 3) := by decide +kernel
theorem dX10_drop_60 : decode cX10_drop 60 = .ok (.return_, 1) := by decide +kernel
theorem dX10_clear_0 : decode cX10_clear 0 = .ok (.aload_n 0, 1) := by decide +kernel
theorem dX10_clear_1 : decode cX10_clear 1 = .ok (.iconst 0, 1) := by decide +kernel
theorem dX10_clear_2 : decode cX10_clear 2 = .ok (.putfield 25, 3) := by decide +kernel
theorem dX10_clear_5 : decode cX10_clear 5 = .ok (.return_, 1) := by decide +kernel
theorem dX10_placeOf_0 : decode cX10_placeOf 0 = .ok (.iconst 0, 1) := by decide +kernel
theorem dX10_placeOf_1 : decode cX10_placeOf 1 = .ok (.istore_n 2, 1) := by decide +kernel
theorem dX10_placeOf_2 : decode cX10_placeOf 2 = .ok (.aload_n 0, 1) := by decide +kernel
theorem dX10_placeOf_3 : decode cX10_placeOf 3 = .ok (.getfield 25, 3) := by decide +kernel
theorem dX10_placeOf_6 : decode cX10_placeOf 6 = .ok (.istore_n 3, 1) := by decide +kernel
theorem dX10_placeOf_7 : decode cX10_placeOf 7 = .ok (.iconst 0, 1) := by decide +kernel
theorem dX10_placeOf_8 : decode cX10_placeOf 8 = .ok (.istore 4, 2) := by decide +kernel
theorem dX10_placeOf_10 : decode cX10_placeOf 10 = .ok (.iload 4, 2) := by decide +kernel
theorem dX10_placeOf_12 : decode cX10_placeOf 12 = .ok (.bipush 16, 2) := by decide +kernel
theorem dX10_placeOf_14 : decode cX10_placeOf 14 = .ok (.if_icmp .ge 45, 3) := by decide +kernel
theorem dX10_placeOf_17 : decode cX10_placeOf 17 = .ok (.iload_n 2, 1) := by decide +kernel
theorem dX10_placeOf_18 : decode cX10_placeOf 18 = .ok (.iload_n 3, 1) := by decide +kernel
theorem dX10_placeOf_19 : decode cX10_placeOf 19 = .ok (.if_icmp .ge 40, 3) := by decide +kernel
theorem dX10_placeOf_22 : decode cX10_placeOf 22 = .ok (.iload_n 2, 1) := by decide +kernel
theorem dX10_placeOf_23 : decode cX10_placeOf 23 = .ok (.iload_n 3, 1) := by decide +kernel
theorem dX10_placeOf_24 : decode cX10_placeOf 24 = .ok (.iadd, 1) := by decide +kernel
theorem dX10_placeOf_25 : decode cX10_placeOf 25 = .ok (.iconst 2, 1) := by decide +kernel
theorem dX10_placeOf_26 : decode cX10_placeOf 26 = .ok (.idiv, 1) := by decide +kernel
theorem dX10_placeOf_27 : decode cX10_placeOf 27 = .ok (.istore 5, 2) := by decide +kernel
theorem dX10_placeOf_29 : decode cX10_placeOf 29 = .ok (.aload_n 0, 1) := by decide +kernel
theorem dX10_placeOf_30 : decode cX10_placeOf 30 = .ok (.getfield 18, 3) := by decide +kernel
theorem dX10_placeOf_33 : decode cX10_placeOf 33 = .ok (.iload 5, 2) := by decide +kernel
theorem dX10_placeOf_35 : decode cX10_placeOf 35 = .ok (.invokevirtual 28, 3) := by decide +kernel
theorem dX10_placeOf_38 : decode cX10_placeOf 38 = .ok (.iload_n 1, 1) := by decide +kernel
theorem dX10_placeOf_39 : decode cX10_placeOf 39 = .ok (.if_icmp .ge 11, 3) := by decide +kernel
theorem dX10_placeOf_42 : decode cX10_placeOf 42 = .ok (.iload 5, 2) := by decide +kernel
theorem dX10_placeOf_44 : decode cX10_placeOf 44 = .ok (.iconst 1, 1) := by decide +kernel
theorem dX10_placeOf_45 : decode cX10_placeOf 45 = .ok (.iadd, 1) := by decide +kernel
theorem dX10_placeOf_46 : decode cX10_placeOf 46 = .ok (.istore_n 2, 1) := by decide +kernel
theorem dX10_placeOf_47 : decode cX10_placeOf 47 = .ok (.goto 6, 3) := by decide +kernel
theorem dX10_placeOf_50 : decode cX10_placeOf 50 = .ok (.iload 5, 2) := by decide +kernel
theorem dX10_placeOf_52 : decode cX10_placeOf 52 = .ok (.istore_n 3, 1) := by decide +kernel
theorem dX10_placeOf_53 : decode cX10_placeOf 53 = .ok (.iinc 4 1, 3) := by decide +kernel
theorem dX10_placeOf_56 : decode cX10_placeOf 56 = .ok (.goto (-46), 3) := by decide +kernel
theorem dX10_placeOf_59 : decode cX10_placeOf 59 = .ok (.iload_n 2, 1) := by decide +kernel
theorem dX10_placeOf_60 : decode cX10_placeOf 60 = .ok (.ireturn, 1) := by decide +kernel
theorem dX11_init_0 : decode cX11_init 0 = .ok (.aload_n 0, 1) := by decide +kernel
theorem dX11_init_1 : decode cX11_init 1 = .ok (.invokespecial 3, 3) := by decide +kernel
theorem dX11_init_4 : decode cX11_init 4 = .ok (.aload_n 0, 1) := by decide +kernel
theorem dX11_init_5 : decode cX11_init 5 = .ok (.new 9, 3) := by decide +kernel
theorem dX11_init_8 : decode cX11_init 8 = .ok (.dup, 1) := by decide +kernel
theorem dX11_init_9 : decode cX11_init 9 = .ok (.invokespecial 11, 3) := by decide +kernel
theorem dX11_init_12 : decode cX11_init 12 = .ok (.putfield 12, 3) := by decide +kernel
theorem dX11_init_15 : decode cX11_init 15 = .ok (.aload_n 0, 1) := by decide +kernel
theorem dX11_init_16 : decode cX11_init 16 = .ok (.new 16, 3) := by decide +kernel
theorem dX11_init_19 : decode cX11_init 19 = .ok (.dup, 1) := by decide +kernel
theorem dX11_init_20 : decode cX11_init 20 = .ok (.invokespecial 18, 3) := by decide +kernel
theorem dX11_init_23 : decode cX11_init 23 = .ok (.putfield 19, 3) := by decide +kernel
theorem dX11_init_26 : decode cX11_init 26 = .ok (.aload_n 0, 1) := by decide +kernel
theorem dX11_init_27 : decode cX11_init 27 = .ok (.new 23, 3) := by decide +kernel
theorem dX11_init_30 : decode cX11_init 30 = .ok (.dup, 1) := by decide +kernel
theorem dX11_init_31 : decode cX11_init 31 = .ok (.invokespecial 25, 3) := by decide +kernel
theorem dX11_init_34 : decode cX11_init 34 = .ok (.putfield 26, 3) := by decide +kernel
theorem dX11_init_37 : decode cX11_init 37 = .ok (.aload_n 0, 1) := by decide +kernel
theorem dX11_init_38 : decode cX11_init 38 = .ok (.new 30, 3) := by decide +kernel
theorem dX11_init_41 : decode cX11_init 41 = .ok (.dup, 1) := by decide +kernel
theorem dX11_init_42 : decode cX11_init 42 = .ok (.invokespecial 32, 3) := by decide +kernel
theorem dX11_init_45 : decode cX11_init 45 = .ok (.putfield 33, 3) := by decide +kernel
theorem dX11_init_48 : decode cX11_init 48 = .ok (.aload_n 0, 1) := by decide +kernel
theorem dX11_init_49 : decode cX11_init 49 = .ok (.new 37, 3) := by decide +kernel
theorem dX11_init_52 : decode cX11_init 52 = .ok (.dup, 1) := by decide +kernel
theorem dX11_init_53 : decode cX11_init 53 = .ok (.sipush 512, 3) := by decide +kernel
theorem dX11_init_56 : decode cX11_init 56 = .ok (.invokespecial 39, 3) := by decide +kernel
theorem dX11_init_59 : decode cX11_init 59 = .ok (.putfield 42, 3) := by decide +kernel
theorem dX11_init_62 : decode cX11_init 62 = .ok (.aload_n 0, 1) := by decide +kernel
theorem dX11_init_63 : decode cX11_init 63 = .ok (.new 46, 3) := by decide +kernel
theorem dX11_init_66 : decode cX11_init 66 = .ok (.dup, 1) := by decide +kernel
theorem dX11_init_67 : decode cX11_init 67 = .ok (.invokespecial 48, 3) := by decide +kernel
theorem dX11_init_70 : decode cX11_init 70 = .ok (.putfield 49, 3) := by decide +kernel
theorem dX11_init_73 : decode cX11_init 73 = .ok (.aload_n 0, 1) := by decide +kernel
theorem dX11_init_74 : decode cX11_init 74 = .ok (.new 46, 3) := by decide +kernel
theorem dX11_init_77 : decode cX11_init 77 = .ok (.dup, 1) := by decide +kernel
theorem dX11_init_78 : decode cX11_init 78 = .ok (.invokespecial 48, 3) := by decide +kernel
theorem dX11_init_81 : decode cX11_init 81 = .ok (.putfield 53, 3) := by decide +kernel
theorem dX11_init_84 : decode cX11_init 84 = .ok (.aload_n 0, 1) := by decide +kernel
theorem dX11_init_85 : decode cX11_init 85 = .ok (.new 56, 3) := by decide +kernel
theorem dX11_init_88 : decode cX11_init 88 = .ok (.dup, 1) := by decide +kernel
theorem dX11_init_89 : decode cX11_init 89 = .ok (.invokespecial 58, 3) := by decide +kernel
theorem dX11_init_92 : decode cX11_init 92 = .ok (.putfield 59, 3) := by decide +kernel
theorem dX11_init_95 : decode cX11_init 95 = .ok (.aload_n 0, 1) := by decide +kernel
theorem dX11_init_96 : decode cX11_init 96 = .ok (.new 63, 3) := by decide +kernel
theorem dX11_init_99 : decode cX11_init 99 = .ok (.dup, 1) := by decide +kernel
theorem dX11_init_100 : decode cX11_init 100 = .ok (.invokespecial 65, 3) := by decide +kernel
theorem dX11_init_103 : decode cX11_init 103 = .ok (.putfield 66, 3) := by decide +kernel
theorem dX11_init_106 : decode cX11_init 106 = .ok (.aload_n 0, 1) := by decide +kernel
theorem dX11_init_107 : decode cX11_init 107 = .ok (.new 70, 3) := by decide +kernel
theorem dX11_init_110 : decode cX11_init 110 = .ok (.dup, 1) := by decide +kernel
theorem dX11_init_111 : decode cX11_init 111 = .ok (.invokespecial 72, 3) := by decide +kernel
theorem dX11_init_114 : decode cX11_init 114 = .ok (.putfield 73, 3) := by decide +kernel
theorem dX11_init_117 : decode cX11_init 117 = .ok (.aload_n 0, 1) := by decide +kernel
theorem dX11_init_118 : decode cX11_init 118 = .ok (.iconst 1, 1) := by decide +kernel
theorem dX11_init_119 : decode cX11_init 119 = .ok (.putfield 77, 3) := by decide +kernel
theorem dX11_init_122 : decode cX11_init 122 = .ok (.aload_n 0, 1) := by decide +kernel
theorem dX11_init_123 : decode cX11_init 123 = .ok (.iconst (-1), 1) := by decide +kernel
theorem dX11_init_124 : decode cX11_init 124 = .ok (.putfield 81, 3) := by decide +kernel
theorem dX11_init_127 : decode cX11_init 127 = .ok (.return_, 1) := by decide +kernel
theorem dX11_letter_0 : decode cX11_letter 0 = .ok (.iload_n 1, 1) := by decide +kernel
theorem dX11_letter_1 : decode cX11_letter 1 = .ok (.invokestatic 84, 3) := by decide +kernel
theorem dX11_letter_4 : decode cX11_letter 4 = .ok (.ifCond .ne 13, 3) := by decide +kernel
theorem dX11_letter_7 : decode cX11_letter 7 = .ok (.new 88, 3) := by decide +kernel
theorem dX11_letter_10 : decode cX11_letter 10 = .ok (.dup, 1) := by decide +kernel
theorem dX11_letter_11 : decode cX11_letter 11 = .ok (.ldc 90, 2) := by decide +kernel
theorem dX11_letter_13 : decode cX11_letter 13 = .ok (.invokespecial 92, 3) := by decide +kernel
theorem dX11_letter_16 : decode cX11_letter 16 = .ok (.athrow, 1) := by decide +kernel
theorem dX11_letter_17 : decode cX11_letter 17 = .ok (.aload_n 0, 1) := by decide +kernel
theorem dX11_letter_18 : decode cX11_letter 18 = .ok (.getfield 77, 3) := by decide +kernel
theorem dX11_letter_21 : decode cX11_letter 21 = .ok (.invokestatic 95, 3) := by decide +kernel
theorem dX11_letter_24 : decode cX11_letter 24 = .ok (.bipush 10, 2) := by decide +kernel
theorem dX11_letter_26 : decode cX11_letter 26 = .ok (.if_icmp .lt 13, 3) := by decide +kernel
theorem dX11_letter_29 : decode cX11_letter 29 = .ok (.new 99, 3) := by decide +kernel
theorem dX11_letter_32 : decode cX11_letter 32 = .ok (.dup, 1) := by decide +kernel
theorem dX11_letter_33 : decode cX11_letter 33 = .ok (.ldc 101, 2) := by decide +kernel
theorem dX11_letter_35 : decode cX11_letter 35 = .ok (.invokespecial 103, 3) := by decide +kernel
theorem dX11_letter_38 : decode cX11_letter 38 = .ok (.athrow, 1) := by decide +kernel
theorem dX11_letter_39 : decode cX11_letter 39 = .ok (.aload_n 0, 1) := by decide +kernel
theorem dX11_letter_40 : decode cX11_letter 40 = .ok (.aload_n 0, 1) := by decide +kernel
theorem dX11_letter_41 : decode cX11_letter 41 = .ok (.getfield 77, 3) := by decide +kernel
theorem dX11_letter_44 : decode cX11_letter 44 = .ok (.iload_n 1, 1) := by decide +kernel
theorem dX11_letter_45 : decode cX11_letter 45 = .ok (.bipush 97, 2) := by decide +kernel
theorem dX11_letter_47 : decode cX11_letter 47 = .ok (.isub, 1) := by decide +kernel
theorem dX11_letter_48 : decode cX11_letter 48 = .ok (.invokestatic 104, 3) := by decide +kernel
theorem dX11_letter_51 : decode cX11_letter 51 = .ok (.putfield 77, 3) := by decide +kernel
theorem dX11_letter_54 : decode cX11_letter 54 = .ok (.aload_n 0, 1) := by decide +kernel
theorem dX11_letter_55 : decode cX11_letter 55 = .ok (.getfield 77, 3) := by decide +kernel
theorem dX11_letter_58 : decode cX11_letter 58 = .ok (.invokestatic 95, 3) := by decide +kernel
theorem dX11_letter_61 : decode cX11_letter 61 = .ok (.ireturn, 1) := by decide +kernel
theorem dX11_scrap_0 : decode cX11_scrap 0 = .ok (.aload_n 0, 1) := by decide +kernel
theorem dX11_scrap_1 : decode cX11_scrap 1 = .ok (.invokevirtual 108, 3) := by decide +kernel
theorem dX11_scrap_4 : decode cX11_scrap 4 = .ok (.invokestatic 95, 3) := by decide +kernel
theorem dX11_scrap_7 : decode cX11_scrap 7 = .ok (.ireturn, 1) := by decide +kernel
theorem dX11_stem_0 : decode cX11_stem 0 = .ok (.iload_n 1, 1) := by decide +kernel
theorem dX11_stem_1 : decode cX11_stem 1 = .ok (.iconst 0, 1) := by decide +kernel
theorem dX11_stem_2 : decode cX11_stem 2 = .ok (.bipush 63, 2) := by decide +kernel
theorem dX11_stem_4 : decode cX11_stem 4 = .ok (.invokestatic 112, 3) := by decide +kernel
theorem dX11_stem_7 : decode cX11_stem 7 = .ok (.ifCond .eq 22, 3) := by decide +kernel
theorem dX11_stem_10 : decode cX11_stem 10 = .ok (.iload_n 2, 1) := by decide +kernel
theorem dX11_stem_11 : decode cX11_stem 11 = .ok (.iload_n 3, 1) := by decide +kernel
theorem dX11_stem_12 : decode cX11_stem 12 = .ok (.invokestatic 116, 3) := by decide +kernel
theorem dX11_stem_15 : decode cX11_stem 15 = .ok (.ifCond .eq 14, 3) := by decide +kernel
theorem dX11_stem_18 : decode cX11_stem 18 = .ok (.iload 4, 2) := by decide +kernel
theorem dX11_stem_20 : decode cX11_stem 20 = .ok (.iconst 0, 1) := by decide +kernel
theorem dX11_stem_21 : decode cX11_stem 21 = .ok (.bipush 7, 2) := by decide +kernel
theorem dX11_stem_23 : decode cX11_stem 23 = .ok (.invokestatic 112, 3) := by decide +kernel
theorem dX11_stem_26 : decode cX11_stem 26 = .ok (.ifCond .ne 13, 3) := by decide +kernel
theorem dX11_stem_29 : decode cX11_stem 29 = .ok (.new 88, 3) := by decide +kernel
theorem dX11_stem_32 : decode cX11_stem 32 = .ok (.dup, 1) := by decide +kernel
theorem dX11_stem_33 : decode cX11_stem 33 = .ok (.ldc 120, 2) := by decide +kernel
theorem dX11_stem_35 : decode cX11_stem 35 = .ok (.invokespecial 92, 3) := by decide +kernel
theorem dX11_stem_38 : decode cX11_stem 38 = .ok (.athrow, 1) := by decide +kernel
theorem dX11_stem_39 : decode cX11_stem 39 = .ok (.aload_n 0, 1) := by decide +kernel
theorem dX11_stem_40 : decode cX11_stem 40 = .ok (.getfield 77, 3) := by decide +kernel
theorem dX11_stem_43 : decode cX11_stem 43 = .ok (.iconst 1, 1) := by decide +kernel
theorem dX11_stem_44 : decode cX11_stem 44 = .ok (.if_icmp .eq 15, 3) := by decide +kernel
theorem dX11_stem_47 : decode cX11_stem 47 = .ok (.aload_n 0, 1) := by decide +kernel
theorem dX11_stem_48 : decode cX11_stem 48 = .ok (.getfield 12, 3) := by decide +kernel
theorem dX11_stem_51 : decode cX11_stem 51 = .ok (.invokevirtual 122, 3) := by decide +kernel
theorem dX11_stem_54 : decode cX11_stem 54 = .ok (.bipush 12, 2) := by decide +kernel
theorem dX11_stem_56 : decode cX11_stem 56 = .ok (.if_icmp .lt 13, 3) := by decide +kernel
theorem dX11_stem_59 : decode cX11_stem 59 = .ok (.new 99, 3) := by decide +kernel
theorem dX11_stem_62 : decode cX11_stem 62 = .ok (.dup, 1) := by decide +kernel
theorem dX11_stem_63 : decode cX11_stem 63 = .ok (.ldc 125, 2) := by decide +kernel
theorem dX11_stem_65 : decode cX11_stem 65 = .ok (.invokespecial 103, 3) := by decide +kernel
theorem dX11_stem_68 : decode cX11_stem 68 = .ok (.athrow, 1) := by decide +kernel
theorem dX11_stem_69 : decode cX11_stem 69 = .ok (.aload_n 0, 1) := by decide +kernel
theorem dX11_stem_70 : decode cX11_stem 70 = .ok (.getfield 12, 3) := by decide +kernel
theorem dX11_stem_73 : decode cX11_stem 73 = .ok (.new 127, 3) := by decide +kernel
theorem dX11_stem_76 : decode cX11_stem 76 = .ok (.dup, 1) := by decide +kernel
theorem dX11_stem_77 : decode cX11_stem 77 = .ok (.aload_n 0, 1) := by decide +kernel
theorem dX11_stem_78 : decode cX11_stem 78 = .ok (.invokevirtual 108, 3) := by decide +kernel
theorem dX11_stem_81 : decode cX11_stem 81 = .ok (.iload_n 1, 1) := by decide +kernel
theorem dX11_stem_82 : decode cX11_stem 82 = .ok (.iload_n 2, 1) := by decide +kernel
theorem dX11_stem_83 : decode cX11_stem 83 = .ok (.iload_n 3, 1) := by decide +kernel
theorem dX11_stem_84 : decode cX11_stem 84 = .ok (.iload 4, 2) := by decide +kernel
theorem dX11_stem_86 : decode cX11_stem 86 = .ok (.invokespecial 129, 3) := by decide +kernel
theorem dX11_stem_89 : decode cX11_stem 89 = .ok (.invokevirtual 132, 3) := by decide +kernel
theorem dX11_stem_92 : decode cX11_stem 92 = .ok (.istore 5, 2) := by decide +kernel
theorem dX11_stem_94 : decode cX11_stem 94 = .ok (.aload_n 0, 1) := by decide +kernel
theorem dX11_stem_95 : decode cX11_stem 95 = .ok (.getfield 12, 3) := by decide +kernel
theorem dX11_stem_98 : decode cX11_stem 98 = .ok (.invokevirtual 136, 3) := by decide +kernel
theorem dX11_stem_101 : decode cX11_stem 101 = .ok (.aload_n 0, 1) := by decide +kernel
theorem dX11_stem_102 : decode cX11_stem 102 = .ok (.invokevirtual 139, 3) := by decide +kernel
theorem dX11_stem_105 : decode cX11_stem 105 = .ok (.iload 5, 2) := by decide +kernel
theorem dX11_stem_107 : decode cX11_stem 107 = .ok (.ireturn, 1) := by decide +kernel
theorem dX11_rule_0 : decode cX11_rule 0 = .ok (.iload_n 1, 1) := by decide +kernel
theorem dX11_rule_1 : decode cX11_rule 1 = .ok (.iconst 0, 1) := by decide +kernel
theorem dX11_rule_2 : decode cX11_rule 2 = .ok (.iconst 5, 1) := by decide +kernel
theorem dX11_rule_3 : decode cX11_rule 3 = .ok (.invokestatic 112, 3) := by decide +kernel
theorem dX11_rule_6 : decode cX11_rule 6 = .ok (.ifCond .eq 31, 3) := by decide +kernel
theorem dX11_rule_9 : decode cX11_rule 9 = .ok (.iload_n 3, 1) := by decide +kernel
theorem dX11_rule_10 : decode cX11_rule 10 = .ok (.iconst 0, 1) := by decide +kernel
theorem dX11_rule_11 : decode cX11_rule 11 = .ok (.iconst 2, 1) := by decide +kernel
theorem dX11_rule_12 : decode cX11_rule 12 = .ok (.invokestatic 112, 3) := by decide +kernel
theorem dX11_rule_15 : decode cX11_rule 15 = .ok (.ifCond .eq 22, 3) := by decide +kernel
theorem dX11_rule_18 : decode cX11_rule 18 = .ok (.iload 4, 2) := by decide +kernel
theorem dX11_rule_20 : decode cX11_rule 20 = .ok (.bipush 32, 2) := by decide +kernel
theorem dX11_rule_22 : decode cX11_rule 22 = .ok (.if_icmp .eq 11, 3) := by decide +kernel
theorem dX11_rule_25 : decode cX11_rule 25 = .ok (.iload 4, 2) := by decide +kernel
theorem dX11_rule_27 : decode cX11_rule 27 = .ok (.invokestatic 84, 3) := by decide +kernel
theorem dX11_rule_30 : decode cX11_rule 30 = .ok (.ifCond .eq 7, 3) := by decide +kernel
theorem dX11_rule_33 : decode cX11_rule 33 = .ok (.iconst 1, 1) := by decide +kernel
theorem dX11_rule_34 : decode cX11_rule 34 = .ok (.goto 4, 3) := by decide +kernel
theorem dX11_rule_37 : decode cX11_rule 37 = .ok (.iconst 0, 1) := by decide +kernel
theorem dX11_rule_38 : decode cX11_rule 38 = .ok (.istore 7, 2) := by decide +kernel
theorem dX11_rule_40 : decode cX11_rule 40 = .ok (.iload 7, 2) := by decide +kernel
theorem dX11_rule_42 : decode cX11_rule 42 = .ok (.ifCond .eq 23, 3) := by decide +kernel
theorem dX11_rule_45 : decode cX11_rule 45 = .ok (.iload 5, 2) := by decide +kernel
theorem dX11_rule_47 : decode cX11_rule 47 = .ok (.iconst (-1), 1) := by decide +kernel
theorem dX11_rule_48 : decode cX11_rule 48 = .ok (.iconst 3, 1) := by decide +kernel
theorem dX11_rule_49 : decode cX11_rule 49 = .ok (.invokestatic 112, 3) := by decide +kernel
theorem dX11_rule_52 : decode cX11_rule 52 = .ok (.ifCond .eq 13, 3) := by decide +kernel
theorem dX11_rule_55 : decode cX11_rule 55 = .ok (.iload 6, 2) := by decide +kernel
theorem dX11_rule_57 : decode cX11_rule 57 = .ok (.iconst (-1), 1) := by decide +kernel
theorem dX11_rule_58 : decode cX11_rule 58 = .ok (.iconst 1, 1) := by decide +kernel
theorem dX11_rule_59 : decode cX11_rule 59 = .ok (.invokestatic 112, 3) := by decide +kernel
theorem dX11_rule_62 : decode cX11_rule 62 = .ok (.ifCond .ne 13, 3) := by decide +kernel
theorem dX11_rule_65 : decode cX11_rule 65 = .ok (.new 88, 3) := by decide +kernel
theorem dX11_rule_68 : decode cX11_rule 68 = .ok (.dup, 1) := by decide +kernel
theorem dX11_rule_69 : decode cX11_rule 69 = .ok (.ldc 142, 2) := by decide +kernel
theorem dX11_rule_71 : decode cX11_rule 71 = .ok (.invokespecial 92, 3) := by decide +kernel
theorem dX11_rule_74 : decode cX11_rule 74 = .ok (.athrow, 1) := by decide +kernel
theorem dX11_rule_75 : decode cX11_rule 75 = .ok (.aload_n 0, 1) := by decide +kernel
theorem dX11_rule_76 : decode cX11_rule 76 = .ok (.getfield 77, 3) := by decide +kernel
theorem dX11_rule_79 : decode cX11_rule 79 = .ok (.iconst 1, 1) := by decide +kernel
theorem dX11_rule_80 : decode cX11_rule 80 = .ok (.if_icmp .ne 11, 3) := by decide +kernel
theorem dX11_rule_83 : decode cX11_rule 83 = .ok (.iload_n 3, 1) := by decide +kernel
theorem dX11_rule_84 : decode cX11_rule 84 = .ok (.ifCond .ne 7, 3) := by decide +kernel
theorem dX11_rule_87 : decode cX11_rule 87 = .ok (.iconst 1, 1) := by decide +kernel
theorem dX11_rule_88 : decode cX11_rule 88 = .ok (.goto 4, 3) := by decide +kernel
theorem dX11_rule_91 : decode cX11_rule 91 = .ok (.iconst 0, 1) := by decide +kernel
theorem dX11_rule_92 : decode cX11_rule 92 = .ok (.istore 8, 2) := by decide +kernel
theorem dX11_rule_94 : decode cX11_rule 94 = .ok (.aload_n 0, 1) := by decide +kernel
theorem dX11_rule_95 : decode cX11_rule 95 = .ok (.getfield 77, 3) := by decide +kernel
theorem dX11_rule_98 : decode cX11_rule 98 = .ok (.invokestatic 95, 3) := by decide +kernel
theorem dX11_rule_101 : decode cX11_rule 101 = .ok (.iconst 4, 1) := by decide +kernel
theorem dX11_rule_102 : decode cX11_rule 102 = .ok (.if_icmp .gt 20, 3) := by decide +kernel
theorem dX11_rule_105 : decode cX11_rule 105 = .ok (.iload 8, 2) := by decide +kernel
theorem dX11_rule_107 : decode cX11_rule 107 = .ok (.ifCond .ne 15, 3) := by decide +kernel
theorem dX11_rule_110 : decode cX11_rule 110 = .ok (.aload_n 0, 1) := by decide +kernel
theorem dX11_rule_111 : decode cX11_rule 111 = .ok (.getfield 12, 3) := by decide +kernel
theorem dX11_rule_114 : decode cX11_rule 114 = .ok (.invokevirtual 144, 3) := by decide +kernel
theorem dX11_rule_117 : decode cX11_rule 117 = .ok (.bipush 8, 2) := by decide +kernel
theorem dX11_rule_119 : decode cX11_rule 119 = .ok (.if_icmp .lt 13, 3) := by decide +kernel
theorem dX11_rule_122 : decode cX11_rule 122 = .ok (.new 99, 3) := by decide +kernel
theorem dX11_rule_125 : decode cX11_rule 125 = .ok (.dup, 1) := by decide +kernel
theorem dX11_rule_126 : decode cX11_rule 126 = .ok (.ldc 147, 2) := by decide +kernel
theorem dX11_rule_128 : decode cX11_rule 128 = .ok (.invokespecial 103, 3) := by decide +kernel
theorem dX11_rule_131 : decode cX11_rule 131 = .ok (.athrow, 1) := by decide +kernel
theorem dX11_rule_132 : decode cX11_rule 132 = .ok (.iload 4, 2) := by decide +kernel
theorem dX11_rule_134 : decode cX11_rule 134 = .ok (.bipush 32, 2) := by decide +kernel
theorem dX11_rule_136 : decode cX11_rule 136 = .ok (.if_icmp .ne 7, 3) := by decide +kernel
theorem dX11_rule_139 : decode cX11_rule 139 = .ok (.iconst (-1), 1) := by decide +kernel
theorem dX11_rule_140 : decode cX11_rule 140 = .ok (.goto 8, 3) := by decide +kernel
theorem dX11_rule_143 : decode cX11_rule 143 = .ok (.iload 4, 2) := by decide +kernel
theorem dX11_rule_145 : decode cX11_rule 145 = .ok (.bipush 97, 2) := by decide +kernel
theorem dX11_rule_147 : decode cX11_rule 147 = .ok (.isub, 1) := by decide +kernel
theorem dX11_rule_148 : decode cX11_rule 148 = .ok (.istore 9, 2) := by decide +kernel
theorem dX11_rule_150 : decode cX11_rule 150 = .ok (.aload_n 0, 1) := by decide +kernel
theorem dX11_rule_151 : decode cX11_rule 151 = .ok (.getfield 12, 3) := by decide +kernel
theorem dX11_rule_154 : decode cX11_rule 154 = .ok (.new 149, 3) := by decide +kernel
theorem dX11_rule_157 : decode cX11_rule 157 = .ok (.dup, 1) := by decide +kernel
theorem dX11_rule_158 : decode cX11_rule 158 = .ok (.iload_n 1, 1) := by decide +kernel
theorem dX11_rule_159 : decode cX11_rule 159 = .ok (.iload_n 2, 1) := by decide +kernel
theorem dX11_rule_160 : decode cX11_rule 160 = .ok (.iload_n 3, 1) := by decide +kernel
theorem dX11_rule_161 : decode cX11_rule 161 = .ok (.iload 9, 2) := by decide +kernel
theorem dX11_rule_163 : decode cX11_rule 163 = .ok (.aload_n 0, 1) := by decide +kernel
theorem dX11_rule_164 : decode cX11_rule 164 = .ok (.invokevirtual 108, 3) := by decide +kernel
theorem dX11_rule_167 : decode cX11_rule 167 = .ok (.iload 5, 2) := by decide +kernel
theorem dX11_rule_169 : decode cX11_rule 169 = .ok (.iload 6, 2) := by decide +kernel
theorem dX11_rule_171 : decode cX11_rule 171 = .ok (.invokespecial 151, 3) := by decide +kernel
theorem dX11_rule_174 : decode cX11_rule 174 = .ok (.invokevirtual 154, 3) := by decide +kernel
theorem dX11_rule_177 : decode cX11_rule 177 = .ok (.istore 10, 2) := by decide +kernel
theorem dX11_rule_179 : decode cX11_rule 179 = .ok (.aload_n 0, 1) := by decide +kernel
theorem dX11_rule_180 : decode cX11_rule 180 = .ok (.getfield 12, 3) := by decide +kernel
theorem dX11_rule_183 : decode cX11_rule 183 = .ok (.invokevirtual 136, 3) := by decide +kernel
theorem dX11_rule_186 : decode cX11_rule 186 = .ok (.aload_n 0, 1) := by decide +kernel
theorem dX11_rule_187 : decode cX11_rule 187 = .ok (.invokevirtual 139, 3) := by decide +kernel
theorem dX11_rule_190 : decode cX11_rule 190 = .ok (.iload 10, 2) := by decide +kernel
theorem dX11_rule_192 : decode cX11_rule 192 = .ok (.ireturn, 1) := by decide +kernel
theorem dX11_more_0 : decode cX11_more 0 = .ok (.aload_n 0, 1) := by decide +kernel
theorem dX11_more_1 : decode cX11_more 1 = .ok (.getfield 12, 3) := by decide +kernel
theorem dX11_more_4 : decode cX11_more 4 = .ok (.iload_n 1, 1) := by decide +kernel
theorem dX11_more_5 : decode cX11_more 5 = .ok (.invokevirtual 158, 3) := by decide +kernel
theorem dX11_more_8 : decode cX11_more 8 = .ok (.astore_n 3, 1) := by decide +kernel
theorem dX11_more_9 : decode cX11_more 9 = .ok (.aload_n 3, 1) := by decide +kernel
theorem dX11_more_10 : decode cX11_more 10 = .ok (.ifnonnull 13, 3) := by decide +kernel
theorem dX11_more_13 : decode cX11_more 13 = .ok (.new 162, 3) := by decide +kernel
theorem dX11_more_16 : decode cX11_more 16 = .ok (.dup, 1) := by decide +kernel
theorem dX11_more_17 : decode cX11_more 17 = .ok (.ldc 164, 2) := by decide +kernel
theorem dX11_more_19 : decode cX11_more 19 = .ok (.invokespecial 166, 3) := by decide +kernel
theorem dX11_more_22 : decode cX11_more 22 = .ok (.athrow, 1) := by decide +kernel
theorem dX11_more_23 : decode cX11_more 23 = .ok (.iload_n 2, 1) := by decide +kernel
theorem dX11_more_24 : decode cX11_more 24 = .ok (.iconst 0, 1) := by decide +kernel
theorem dX11_more_25 : decode cX11_more 25 = .ok (.bipush 63, 2) := by decide +kernel
theorem dX11_more_27 : decode cX11_more 27 = .ok (.invokestatic 112, 3) := by decide +kernel
theorem dX11_more_30 : decode cX11_more 30 = .ok (.ifCond .ne 13, 3) := by decide +kernel
theorem dX11_more_33 : decode cX11_more 33 = .ok (.new 88, 3) := by decide +kernel
theorem dX11_more_36 : decode cX11_more 36 = .ok (.dup, 1) := by decide +kernel
theorem dX11_more_37 : decode cX11_more 37 = .ok (.ldc 167, 2) := by decide +kernel
theorem dX11_more_39 : decode cX11_more 39 = .ok (.invokespecial 92, 3) := by decide +kernel
theorem dX11_more_42 : decode cX11_more 42 = .ok (.athrow, 1) := by decide +kernel
theorem dX11_more_43 : decode cX11_more 43 = .ok (.aload_n 3, 1) := by decide +kernel
theorem dX11_more_44 : decode cX11_more 44 = .ok (.getfield 169, 3) := by decide +kernel
theorem dX11_more_47 : decode cX11_more 47 = .ok (.ifCond .ne 13, 3) := by decide +kernel
theorem dX11_more_50 : decode cX11_more 50 = .ok (.new 99, 3) := by decide +kernel
theorem dX11_more_53 : decode cX11_more 53 = .ok (.dup, 1) := by decide +kernel
theorem dX11_more_54 : decode cX11_more 54 = .ok (.ldc 173, 2) := by decide +kernel
theorem dX11_more_56 : decode cX11_more 56 = .ok (.invokespecial 103, 3) := by decide +kernel
theorem dX11_more_59 : decode cX11_more 59 = .ok (.athrow, 1) := by decide +kernel
theorem dX11_more_60 : decode cX11_more 60 = .ok (.aload_n 3, 1) := by decide +kernel
theorem dX11_more_61 : decode cX11_more 61 = .ok (.getfield 175, 3) := by decide +kernel
theorem dX11_more_64 : decode cX11_more 64 = .ok (.istore 4, 2) := by decide +kernel
theorem dX11_more_66 : decode cX11_more 66 = .ok (.aload_n 3, 1) := by decide +kernel
theorem dX11_more_67 : decode cX11_more 67 = .ok (.iload_n 2, 1) := by decide +kernel
theorem dX11_more_68 : decode cX11_more 68 = .ok (.putfield 175, 3) := by decide +kernel
theorem dX11_more_71 : decode cX11_more 71 = .ok (.aload_n 0, 1) := by decide +kernel
theorem dX11_more_72 : decode cX11_more 72 = .ok (.getfield 12, 3) := by decide +kernel
theorem dX11_more_75 : decode cX11_more 75 = .ok (.invokevirtual 136, 3) := by decide +kernel
theorem dX11_more_78 : decode cX11_more 78 = .ok (.aload_n 0, 1) := by decide +kernel
theorem dX11_more_79 : decode cX11_more 79 = .ok (.invokevirtual 139, 3) := by decide +kernel
theorem dX11_more_82 : decode cX11_more 82 = .ok (.iload 4, 2) := by decide +kernel
theorem dX11_more_84 : decode cX11_more 84 = .ok (.ireturn, 1) := by decide +kernel
theorem dX11_sound_0 : decode cX11_sound 0 = .ok (.iload_n 1, 1) := by decide +kernel
theorem dX11_sound_1 : decode cX11_sound 1 = .ok (.invokestatic 84, 3) := by decide +kernel
theorem dX11_sound_4 : decode cX11_sound 4 = .ok (.ifCond .eq 15, 3) := by decide +kernel
theorem dX11_sound_7 : decode cX11_sound 7 = .ok (.iload_n 2, 1) := by decide +kernel
theorem dX11_sound_8 : decode cX11_sound 8 = .ok (.invokestatic 84, 3) := by decide +kernel
theorem dX11_sound_11 : decode cX11_sound 11 = .ok (.ifCond .eq 8, 3) := by decide +kernel
theorem dX11_sound_14 : decode cX11_sound 14 = .ok (.iload_n 1, 1) := by decide +kernel
theorem dX11_sound_15 : decode cX11_sound 15 = .ok (.iload_n 2, 1) := by decide +kernel
theorem dX11_sound_16 : decode cX11_sound 16 = .ok (.if_icmp .ne 13, 3) := by decide +kernel
theorem dX11_sound_19 : decode cX11_sound 19 = .ok (.new 88, 3) := by decide +kernel
theorem dX11_sound_22 : decode cX11_sound 22 = .ok (.dup, 1) := by decide +kernel
theorem dX11_sound_23 : decode cX11_sound 23 = .ok (.ldc 178, 2) := by decide +kernel
theorem dX11_sound_25 : decode cX11_sound 25 = .ok (.invokespecial 92, 3) := by decide +kernel
theorem dX11_sound_28 : decode cX11_sound 28 = .ok (.athrow, 1) := by decide +kernel
theorem dX11_sound_29 : decode cX11_sound 29 = .ok (.aload_n 0, 1) := by decide +kernel
theorem dX11_sound_30 : decode cX11_sound 30 = .ok (.getfield 19, 3) := by decide +kernel
theorem dX11_sound_33 : decode cX11_sound 33 = .ok (.iload_n 1, 1) := by decide +kernel
theorem dX11_sound_34 : decode cX11_sound 34 = .ok (.bipush 97, 2) := by decide +kernel
theorem dX11_sound_36 : decode cX11_sound 36 = .ok (.isub, 1) := by decide +kernel
theorem dX11_sound_37 : decode cX11_sound 37 = .ok (.iload_n 2, 1) := by decide +kernel
theorem dX11_sound_38 : decode cX11_sound 38 = .ok (.bipush 97, 2) := by decide +kernel
theorem dX11_sound_40 : decode cX11_sound 40 = .ok (.isub, 1) := by decide +kernel
theorem dX11_sound_41 : decode cX11_sound 41 = .ok (.invokevirtual 180, 3) := by decide +kernel
theorem dX11_sound_44 : decode cX11_sound 44 = .ok (.istore_n 3, 1) := by decide +kernel
theorem dX11_sound_45 : decode cX11_sound 45 = .ok (.aload_n 0, 1) := by decide +kernel
theorem dX11_sound_46 : decode cX11_sound 46 = .ok (.invokevirtual 139, 3) := by decide +kernel
theorem dX11_sound_49 : decode cX11_sound 49 = .ok (.iload_n 3, 1) := by decide +kernel
theorem dX11_sound_50 : decode cX11_sound 50 = .ok (.ireturn, 1) := by decide +kernel
theorem dX11_own_0 : decode cX11_own 0 = .ok (.iload_n 1, 1) := by decide +kernel
theorem dX11_own_1 : decode cX11_own 1 = .ok (.iload_n 2, 1) := by decide +kernel
theorem dX11_own_2 : decode cX11_own 2 = .ok (.invokestatic 116, 3) := by decide +kernel
theorem dX11_own_5 : decode cX11_own 5 = .ok (.ifCond .ne 13, 3) := by decide +kernel
theorem dX11_own_8 : decode cX11_own 8 = .ok (.new 88, 3) := by decide +kernel
theorem dX11_own_11 : decode cX11_own 11 = .ok (.dup, 1) := by decide +kernel
theorem dX11_own_12 : decode cX11_own 12 = .ok (.ldc 183, 2) := by decide +kernel
theorem dX11_own_14 : decode cX11_own 14 = .ok (.invokespecial 92, 3) := by decide +kernel
theorem dX11_own_17 : decode cX11_own 17 = .ok (.athrow, 1) := by decide +kernel
theorem dX11_own_18 : decode cX11_own 18 = .ok (.aload_n 0, 1) := by decide +kernel
theorem dX11_own_19 : decode cX11_own 19 = .ok (.getfield 77, 3) := by decide +kernel
theorem dX11_own_22 : decode cX11_own 22 = .ok (.iconst 1, 1) := by decide +kernel
theorem dX11_own_23 : decode cX11_own 23 = .ok (.if_icmp .eq 17, 3) := by decide +kernel
theorem dX11_own_26 : decode cX11_own 26 = .ok (.aload_n 0, 1) := by decide +kernel
theorem dX11_own_27 : decode cX11_own 27 = .ok (.getfield 12, 3) := by decide +kernel
theorem dX11_own_30 : decode cX11_own 30 = .ok (.aload_n 0, 1) := by decide +kernel
theorem dX11_own_31 : decode cX11_own 31 = .ok (.getfield 77, 3) := by decide +kernel
theorem dX11_own_34 : decode cX11_own 34 = .ok (.invokevirtual 185, 3) := by decide +kernel
theorem dX11_own_37 : decode cX11_own 37 = .ok (.ifCond .ne 13, 3) := by decide +kernel
theorem dX11_own_40 : decode cX11_own 40 = .ok (.new 99, 3) := by decide +kernel
theorem dX11_own_43 : decode cX11_own 43 = .ok (.dup, 1) := by decide +kernel
theorem dX11_own_44 : decode cX11_own 44 = .ok (.ldc 188, 2) := by decide +kernel
theorem dX11_own_46 : decode cX11_own 46 = .ok (.invokespecial 103, 3) := by decide +kernel
theorem dX11_own_49 : decode cX11_own 49 = .ok (.athrow, 1) := by decide +kernel
theorem dX11_own_50 : decode cX11_own 50 = .ok (.aload_n 0, 1) := by decide +kernel
theorem dX11_own_51 : decode cX11_own 51 = .ok (.getfield 12, 3) := by decide +kernel
theorem dX11_own_54 : decode cX11_own 54 = .ok (.aload_n 0, 1) := by decide +kernel
theorem dX11_own_55 : decode cX11_own 55 = .ok (.invokevirtual 108, 3) := by decide +kernel
theorem dX11_own_58 : decode cX11_own 58 = .ok (.iload_n 1, 1) := by decide +kernel
theorem dX11_own_59 : decode cX11_own 59 = .ok (.iload_n 2, 1) := by decide +kernel
theorem dX11_own_60 : decode cX11_own 60 = .ok (.invokestatic 190, 3) := by decide +kernel
theorem dX11_own_63 : decode cX11_own 63 = .ok (.invokevirtual 193, 3) := by decide +kernel
theorem dX11_own_66 : decode cX11_own 66 = .ok (.aload_n 0, 1) := by decide +kernel
theorem dX11_own_67 : decode cX11_own 67 = .ok (.invokevirtual 139, 3) := by decide +kernel
theorem dX11_own_70 : decode cX11_own 70 = .ok (.aload_n 0, 1) := by decide +kernel
theorem dX11_own_71 : decode cX11_own 71 = .ok (.getfield 12, 3) := by decide +kernel
theorem dX11_own_74 : decode cX11_own 74 = .ok (.invokevirtual 197, 3) := by decide +kernel
theorem dX11_own_77 : decode cX11_own 77 = .ok (.ireturn, 1) := by decide +kernel
theorem dX11_bar_0 : decode cX11_bar 0 = .ok (.aload_n 0, 1) := by decide +kernel
theorem dX11_bar_1 : decode cX11_bar 1 = .ok (.getfield 77, 3) := by decide +kernel
theorem dX11_bar_4 : decode cX11_bar 4 = .ok (.iconst 1, 1) := by decide +kernel
theorem dX11_bar_5 : decode cX11_bar 5 = .ok (.if_icmp .eq 17, 3) := by decide +kernel
theorem dX11_bar_8 : decode cX11_bar 8 = .ok (.aload_n 0, 1) := by decide +kernel
theorem dX11_bar_9 : decode cX11_bar 9 = .ok (.getfield 12, 3) := by decide +kernel
theorem dX11_bar_12 : decode cX11_bar 12 = .ok (.aload_n 0, 1) := by decide +kernel
theorem dX11_bar_13 : decode cX11_bar 13 = .ok (.getfield 77, 3) := by decide +kernel
theorem dX11_bar_16 : decode cX11_bar 16 = .ok (.invokevirtual 200, 3) := by decide +kernel
theorem dX11_bar_19 : decode cX11_bar 19 = .ok (.ifCond .ne 13, 3) := by decide +kernel
theorem dX11_bar_22 : decode cX11_bar 22 = .ok (.new 99, 3) := by decide +kernel
theorem dX11_bar_25 : decode cX11_bar 25 = .ok (.dup, 1) := by decide +kernel
theorem dX11_bar_26 : decode cX11_bar 26 = .ok (.ldc 203, 2) := by decide +kernel
theorem dX11_bar_28 : decode cX11_bar 28 = .ok (.invokespecial 103, 3) := by decide +kernel
theorem dX11_bar_31 : decode cX11_bar 31 = .ok (.athrow, 1) := by decide +kernel
theorem dX11_bar_32 : decode cX11_bar 32 = .ok (.aload_n 0, 1) := by decide +kernel
theorem dX11_bar_33 : decode cX11_bar 33 = .ok (.getfield 12, 3) := by decide +kernel
theorem dX11_bar_36 : decode cX11_bar 36 = .ok (.aload_n 0, 1) := by decide +kernel
theorem dX11_bar_37 : decode cX11_bar 37 = .ok (.invokevirtual 108, 3) := by decide +kernel
theorem dX11_bar_40 : decode cX11_bar 40 = .ok (.invokevirtual 205, 3) := by decide +kernel
theorem dX11_bar_43 : decode cX11_bar 43 = .ok (.aload_n 0, 1) := by decide +kernel
theorem dX11_bar_44 : decode cX11_bar 44 = .ok (.invokevirtual 139, 3) := by decide +kernel
theorem dX11_bar_47 : decode cX11_bar 47 = .ok (.aload_n 0, 1) := by decide +kernel
theorem dX11_bar_48 : decode cX11_bar 48 = .ok (.getfield 12, 3) := by decide +kernel
theorem dX11_bar_51 : decode cX11_bar 51 = .ok (.invokevirtual 208, 3) := by decide +kernel
theorem dX11_bar_54 : decode cX11_bar 54 = .ok (.ireturn, 1) := by decide +kernel
theorem dX11_ignore_0 : decode cX11_ignore 0 = .ok (.aload_n 0, 1) := by decide +kernel
theorem dX11_ignore_1 : decode cX11_ignore 1 = .ok (.iload_n 1, 1) := by decide +kernel
theorem dX11_ignore_2 : decode cX11_ignore 2 = .ok (.invokevirtual 211, 3) := by decide +kernel
theorem dX11_ignore_5 : decode cX11_ignore 5 = .ok (.ifCond .ne 13, 3) := by decide +kernel
theorem dX11_ignore_8 : decode cX11_ignore 8 = .ok (.new 162, 3) := by decide +kernel
theorem dX11_ignore_11 : decode cX11_ignore 11 = .ok (.dup, 1) := by decide +kernel
theorem dX11_ignore_12 : decode cX11_ignore 12 = .ok (.ldc 214, 2) := by decide +kernel
theorem dX11_ignore_14 : decode cX11_ignore 14 = .ok (.invokespecial 166, 3) := by decide +kernel
theorem dX11_ignore_17 : decode cX11_ignore 17 = .ok (.athrow, 1) := by decide +kernel
theorem dX11_ignore_18 : decode cX11_ignore 18 = .ok (.aload_n 0, 1) := by decide +kernel
theorem dX11_ignore_19 : decode cX11_ignore 19 = .ok (.invokevirtual 216, 3) := by decide +kernel
theorem dX11_ignore_22 : decode cX11_ignore 22 = .ok (.aload_n 0, 1) := by decide +kernel
theorem dX11_ignore_23 : decode cX11_ignore 23 = .ok (.getfield 49, 3) := by decide +kernel
theorem dX11_ignore_26 : decode cX11_ignore 26 = .ok (.iload_n 1, 1) := by decide +kernel
theorem dX11_ignore_27 : decode cX11_ignore 27 = .ok (.invokevirtual 219, 3) := by decide +kernel
theorem dX11_ignore_30 : decode cX11_ignore 30 = .ok (.istore_n 2, 1) := by decide +kernel
theorem dX11_ignore_31 : decode cX11_ignore 31 = .ok (.iload_n 2, 1) := by decide +kernel
theorem dX11_ignore_32 : decode cX11_ignore 32 = .ok (.ifCond .eq 25, 3) := by decide +kernel
theorem dX11_ignore_35 : decode cX11_ignore 35 = .ok (.aload_n 0, 1) := by decide +kernel
theorem dX11_ignore_36 : decode cX11_ignore 36 = .ok (.getfield 66, 3) := by decide +kernel
theorem dX11_ignore_39 : decode cX11_ignore 39 = .ok (.iload_n 1, 1) := by decide +kernel
theorem dX11_ignore_40 : decode cX11_ignore 40 = .ok (.invokevirtual 222, 3) := by decide +kernel
theorem dX11_ignore_43 : decode cX11_ignore 43 = .ok (.ifCond .ne 14, 3) := by decide +kernel
theorem dX11_ignore_46 : decode cX11_ignore 46 = .ok (.aload_n 0, 1) := by decide +kernel
theorem dX11_ignore_47 : decode cX11_ignore 47 = .ok (.getfield 12, 3) := by decide +kernel
theorem dX11_ignore_50 : decode cX11_ignore 50 = .ok (.iload_n 2, 1) := by decide +kernel
theorem dX11_ignore_51 : decode cX11_ignore 51 = .ok (.invokevirtual 225, 3) := by decide +kernel
theorem dX11_ignore_54 : decode cX11_ignore 54 = .ok (.ifCond .eq 13, 3) := by decide +kernel
theorem dX11_ignore_57 : decode cX11_ignore 57 = .ok (.new 99, 3) := by decide +kernel
theorem dX11_ignore_60 : decode cX11_ignore 60 = .ok (.dup, 1) := by decide +kernel
theorem dX11_ignore_61 : decode cX11_ignore 61 = .ok (.ldc 228, 2) := by decide +kernel
theorem dX11_ignore_63 : decode cX11_ignore 63 = .ok (.invokespecial 103, 3) := by decide +kernel
theorem dX11_ignore_66 : decode cX11_ignore 66 = .ok (.athrow, 1) := by decide +kernel
theorem dX11_ignore_67 : decode cX11_ignore 67 = .ok (.aload_n 0, 1) := by decide +kernel
theorem dX11_ignore_68 : decode cX11_ignore 68 = .ok (.getfield 42, 3) := by decide +kernel
theorem dX11_ignore_71 : decode cX11_ignore 71 = .ok (.iload_n 2, 1) := by decide +kernel
theorem dX11_ignore_72 : decode cX11_ignore 72 = .ok (.invokevirtual 230, 3) := by decide +kernel
theorem dX11_ignore_75 : decode cX11_ignore 75 = .ok (.iconst 1, 1) := by decide +kernel
theorem dX11_ignore_76 : decode cX11_ignore 76 = .ok (.iadd, 1) := by decide +kernel
theorem dX11_ignore_77 : decode cX11_ignore 77 = .ok (.istore_n 3, 1) := by decide +kernel
theorem dX11_ignore_78 : decode cX11_ignore 78 = .ok (.iload_n 3, 1) := by decide +kernel
theorem dX11_ignore_79 : decode cX11_ignore 79 = .ok (.iconst 3, 1) := by decide +kernel
theorem dX11_ignore_80 : decode cX11_ignore 80 = .ok (.if_icmp .lt 14, 3) := by decide +kernel
theorem dX11_ignore_83 : decode cX11_ignore 83 = .ok (.aload_n 0, 1) := by decide +kernel
theorem dX11_ignore_84 : decode cX11_ignore 84 = .ok (.getfield 12, 3) := by decide +kernel
theorem dX11_ignore_87 : decode cX11_ignore 87 = .ok (.iload_n 2, 1) := by decide +kernel
theorem dX11_ignore_88 : decode cX11_ignore 88 = .ok (.invokevirtual 185, 3) := by decide +kernel
theorem dX11_ignore_91 : decode cX11_ignore 91 = .ok (.ifCond .ne 14, 3) := by decide +kernel
theorem dX11_ignore_94 : decode cX11_ignore 94 = .ok (.aload_n 0, 1) := by decide +kernel
theorem dX11_ignore_95 : decode cX11_ignore 95 = .ok (.getfield 42, 3) := by decide +kernel
theorem dX11_ignore_98 : decode cX11_ignore 98 = .ok (.iload_n 2, 1) := by decide +kernel
theorem dX11_ignore_99 : decode cX11_ignore 99 = .ok (.iload_n 3, 1) := by decide +kernel
theorem dX11_ignore_100 : decode cX11_ignore 100 = .ok (.invokevirtual 233, 3) := by decide +kernel
theorem dX11_ignore_103 : decode cX11_ignore 103 = .ok (.iload_n 3, 1) := by decide +kernel
theorem dX11_ignore_104 : decode cX11_ignore 104 = .ok (.ireturn, 1) := by decide +kernel
theorem dX11_ignore_105 : decode cX11_ignore 105 = .ok (.aload_n 0, 1) := by decide +kernel
theorem dX11_ignore_106 : decode cX11_ignore 106 = .ok (.getfield 42, 3) := by decide +kernel
theorem dX11_ignore_109 : decode cX11_ignore 109 = .ok (.iload_n 2, 1) := by decide +kernel
theorem dX11_ignore_110 : decode cX11_ignore 110 = .ok (.invokevirtual 236, 3) := by decide +kernel
theorem dX11_ignore_113 : decode cX11_ignore 113 = .ok (.aload_n 0, 1) := by decide +kernel
theorem dX11_ignore_114 : decode cX11_ignore 114 = .ok (.getfield 12, 3) := by decide +kernel
theorem dX11_ignore_117 : decode cX11_ignore 117 = .ok (.iload_n 2, 1) := by decide +kernel
theorem dX11_ignore_118 : decode cX11_ignore 118 = .ok (.iconst 0, 1) := by decide +kernel
theorem dX11_ignore_119 : decode cX11_ignore 119 = .ok (.iconst 0, 1) := by decide +kernel
theorem dX11_ignore_120 : decode cX11_ignore 120 = .ok (.invokestatic 190, 3) := by decide +kernel
theorem dX11_ignore_123 : decode cX11_ignore 123 = .ok (.invokevirtual 193, 3) := by decide +kernel
theorem dX11_ignore_126 : decode cX11_ignore 126 = .ok (.aload_n 0, 1) := by decide +kernel
theorem dX11_ignore_127 : decode cX11_ignore 127 = .ok (.invokevirtual 139, 3) := by decide +kernel
theorem dX11_ignore_130 : decode cX11_ignore 130 = .ok (.iconst 0, 1) := by decide +kernel
theorem dX11_ignore_131 : decode cX11_ignore 131 = .ok (.ireturn, 1) := by decide +kernel
theorem dX11_tell_0 : decode cX11_tell 0 = .ok (.iload_n 1, 1) := by decide +kernel
theorem dX11_tell_1 : decode cX11_tell 1 = .ok (.iconst 0, 1) := by decide +kernel
theorem dX11_tell_2 : decode cX11_tell 2 = .ok (.iconst 3, 1) := by decide +kernel
theorem dX11_tell_3 : decode cX11_tell 3 = .ok (.invokestatic 112, 3) := by decide +kernel
theorem dX11_tell_6 : decode cX11_tell 6 = .ok (.ifCond .eq 21, 3) := by decide +kernel
theorem dX11_tell_9 : decode cX11_tell 9 = .ok (.iload_n 2, 1) := by decide +kernel
theorem dX11_tell_10 : decode cX11_tell 10 = .ok (.iconst 0, 1) := by decide +kernel
theorem dX11_tell_11 : decode cX11_tell 11 = .ok (.iconst 3, 1) := by decide +kernel
theorem dX11_tell_12 : decode cX11_tell 12 = .ok (.invokestatic 112, 3) := by decide +kernel
theorem dX11_tell_15 : decode cX11_tell 15 = .ok (.ifCond .eq 12, 3) := by decide +kernel
theorem dX11_tell_18 : decode cX11_tell 18 = .ok (.iload_n 3, 1) := by decide +kernel
theorem dX11_tell_19 : decode cX11_tell 19 = .ok (.iconst 0, 1) := by decide +kernel
theorem dX11_tell_20 : decode cX11_tell 20 = .ok (.iconst 2, 1) := by decide +kernel
theorem dX11_tell_21 : decode cX11_tell 21 = .ok (.invokestatic 112, 3) := by decide +kernel
theorem dX11_tell_24 : decode cX11_tell 24 = .ok (.ifCond .ne 13, 3) := by decide +kernel
theorem dX11_tell_27 : decode cX11_tell 27 = .ok (.new 88, 3) := by decide +kernel
theorem dX11_tell_30 : decode cX11_tell 30 = .ok (.dup, 1) := by decide +kernel
theorem dX11_tell_31 : decode cX11_tell 31 = .ok (.ldc 239, 2) := by decide +kernel
theorem dX11_tell_33 : decode cX11_tell 33 = .ok (.invokespecial 92, 3) := by decide +kernel
theorem dX11_tell_36 : decode cX11_tell 36 = .ok (.athrow, 1) := by decide +kernel
theorem dX11_tell_37 : decode cX11_tell 37 = .ok (.aload_n 0, 1) := by decide +kernel
theorem dX11_tell_38 : decode cX11_tell 38 = .ok (.invokevirtual 139, 3) := by decide +kernel
theorem dX11_tell_41 : decode cX11_tell 41 = .ok (.aload_n 0, 1) := by decide +kernel
theorem dX11_tell_42 : decode cX11_tell 42 = .ok (.getfield 26, 3) := by decide +kernel
theorem dX11_tell_45 : decode cX11_tell 45 = .ok (.iload_n 1, 1) := by decide +kernel
theorem dX11_tell_46 : decode cX11_tell 46 = .ok (.iload_n 2, 1) := by decide +kernel
theorem dX11_tell_47 : decode cX11_tell 47 = .ok (.iload_n 3, 1) := by decide +kernel
theorem dX11_tell_48 : decode cX11_tell 48 = .ok (.invokevirtual 241, 3) := by decide +kernel
theorem dX11_tell_51 : decode cX11_tell 51 = .ok (.ireturn, 1) := by decide +kernel
theorem dX11_item_0 : decode cX11_item 0 = .ok (.iload_n 1, 1) := by decide +kernel
theorem dX11_item_1 : decode cX11_item 1 = .ok (.iconst (-1), 1) := by decide +kernel
theorem dX11_item_2 : decode cX11_item 2 = .ok (.iconst 3, 1) := by decide +kernel
theorem dX11_item_3 : decode cX11_item 3 = .ok (.invokestatic 112, 3) := by decide +kernel
theorem dX11_item_6 : decode cX11_item 6 = .ok (.ifCond .ne 13, 3) := by decide +kernel
theorem dX11_item_9 : decode cX11_item 9 = .ok (.new 88, 3) := by decide +kernel
theorem dX11_item_12 : decode cX11_item 12 = .ok (.dup, 1) := by decide +kernel
theorem dX11_item_13 : decode cX11_item 13 = .ok (.ldc 245, 2) := by decide +kernel
theorem dX11_item_15 : decode cX11_item 15 = .ok (.invokespecial 92, 3) := by decide +kernel
theorem dX11_item_18 : decode cX11_item 18 = .ok (.athrow, 1) := by decide +kernel
theorem dX11_item_19 : decode cX11_item 19 = .ok (.aload_n 0, 1) := by decide +kernel
theorem dX11_item_20 : decode cX11_item 20 = .ok (.getfield 73, 3) := by decide +kernel
theorem dX11_item_23 : decode cX11_item 23 = .ok (.getfield 247, 3) := by decide +kernel
theorem dX11_item_26 : decode cX11_item 26 = .ok (.iconst 3, 1) := by decide +kernel
theorem dX11_item_27 : decode cX11_item 27 = .ok (.if_icmp .ge 16, 3) := by decide +kernel
theorem dX11_item_30 : decode cX11_item 30 = .ok (.iload_n 1, 1) := by decide +kernel
theorem dX11_item_31 : decode cX11_item 31 = .ok (.iconst (-1), 1) := by decide +kernel
theorem dX11_item_32 : decode cX11_item 32 = .ok (.if_icmp .ne 21, 3) := by decide +kernel
theorem dX11_item_35 : decode cX11_item 35 = .ok (.aload_n 0, 1) := by decide +kernel
theorem dX11_item_36 : decode cX11_item 36 = .ok (.getfield 77, 3) := by decide +kernel
theorem dX11_item_39 : decode cX11_item 39 = .ok (.iconst 1, 1) := by decide +kernel
theorem dX11_item_40 : decode cX11_item 40 = .ok (.if_icmp .ne 13, 3) := by decide +kernel
theorem dX11_item_43 : decode cX11_item 43 = .ok (.new 99, 3) := by decide +kernel
theorem dX11_item_46 : decode cX11_item 46 = .ok (.dup, 1) := by decide +kernel
theorem dX11_item_47 : decode cX11_item 47 = .ok (.ldc 250, 2) := by decide +kernel
theorem dX11_item_49 : decode cX11_item 49 = .ok (.invokespecial 103, 3) := by decide +kernel
theorem dX11_item_52 : decode cX11_item 52 = .ok (.athrow, 1) := by decide +kernel
theorem dX11_item_53 : decode cX11_item 53 = .ok (.aload_n 0, 1) := by decide +kernel
theorem dX11_item_54 : decode cX11_item 54 = .ok (.getfield 73, 3) := by decide +kernel
theorem dX11_item_57 : decode cX11_item 57 = .ok (.iload_n 1, 1) := by decide +kernel
theorem dX11_item_58 : decode cX11_item 58 = .ok (.iconst (-1), 1) := by decide +kernel
theorem dX11_item_59 : decode cX11_item 59 = .ok (.if_icmp .ne 10, 3) := by decide +kernel
theorem dX11_item_62 : decode cX11_item 62 = .ok (.aload_n 0, 1) := by decide +kernel
theorem dX11_item_63 : decode cX11_item 63 = .ok (.invokevirtual 108, 3) := by decide +kernel
theorem dX11_item_66 : decode cX11_item 66 = .ok (.goto 4, 3) := by decide +kernel
theorem dX11_item_69 : decode cX11_item 69 = .ok (.iload_n 1, 1) := by decide +kernel
theorem dX11_item_70 : decode cX11_item 70 = .ok (.invokevirtual 252, 3) := by decide +kernel
theorem dX11_item_73 : decode cX11_item 73 = .ok (.aload_n 0, 1) := by decide +kernel
theorem dX11_item_74 : decode cX11_item 74 = .ok (.getfield 73, 3) := by decide +kernel
theorem dX11_item_77 : decode cX11_item 77 = .ok (.getfield 247, 3) := by decide +kernel
theorem dX11_item_80 : decode cX11_item 80 = .ok (.ireturn, 1) := by decide +kernel
theorem dX11_style_0 : decode cX11_style 0 = .ok (.aload_n 0, 1) := by decide +kernel
theorem dX11_style_1 : decode cX11_style 1 = .ok (.getfield 73, 3) := by decide +kernel
theorem dX11_style_4 : decode cX11_style 4 = .ok (.getfield 247, 3) := by decide +kernel
theorem dX11_style_7 : decode cX11_style 7 = .ok (.ifCond .eq 25, 3) := by decide +kernel
theorem dX11_style_10 : decode cX11_style 10 = .ok (.aload_n 0, 1) := by decide +kernel
theorem dX11_style_11 : decode cX11_style 11 = .ok (.getfield 77, 3) := by decide +kernel
theorem dX11_style_14 : decode cX11_style 14 = .ok (.iconst 1, 1) := by decide +kernel
theorem dX11_style_15 : decode cX11_style 15 = .ok (.if_icmp .eq 17, 3) := by decide +kernel
theorem dX11_style_18 : decode cX11_style 18 = .ok (.aload_n 0, 1) := by decide +kernel
theorem dX11_style_19 : decode cX11_style 19 = .ok (.getfield 33, 3) := by decide +kernel
theorem dX11_style_22 : decode cX11_style 22 = .ok (.invokeinterface 255 1, 5) := by decide +kernel
theorem dX11_style_27 : decode cX11_style 27 = .ok (.bipush 8, 2) := by decide +kernel
theorem dX11_style_29 : decode cX11_style 29 = .ok (.if_icmp .lt 14, 3) := by decide +kernel
theorem dX11_style_32 : decode cX11_style 32 = .ok (.new 99, 3) := by decide +kernel
theorem dX11_style_35 : decode cX11_style 35 = .ok (.dup, 1) := by decide +kernel
theorem dX11_style_36 : decode cX11_style 36 = .ok (.ldc_w 260, 3) := by decide +kernel
theorem dX11_style_39 : decode cX11_style 39 = .ok (.invokespecial 103, 3) := by decide +kernel
theorem dX11_style_42 : decode cX11_style 42 = .ok (.athrow, 1) := by decide +kernel
theorem dX11_style_43 : decode cX11_style 43 = .ok (.iload_n 1, 1) := by decide +kernel
theorem dX11_style_44 : decode cX11_style 44 = .ok (.iconst 0, 1) := by decide +kernel
theorem dX11_style_45 : decode cX11_style 45 = .ok (.aload_n 0, 1) := by decide +kernel
theorem dX11_style_46 : decode cX11_style 46 = .ok (.getfield 73, 3) := by decide +kernel
theorem dX11_style_49 : decode cX11_style 49 = .ok (.getfield 247, 3) := by decide +kernel
theorem dX11_style_52 : decode cX11_style 52 = .ok (.iconst 1, 1) := by decide +kernel
theorem dX11_style_53 : decode cX11_style 53 = .ok (.isub, 1) := by decide +kernel
theorem dX11_style_54 : decode cX11_style 54 = .ok (.invokestatic 112, 3) := by decide +kernel
theorem dX11_style_57 : decode cX11_style 57 = .ok (.ifCond .ne 14, 3) := by decide +kernel
theorem dX11_style_60 : decode cX11_style 60 = .ok (.new 162, 3) := by decide +kernel
theorem dX11_style_63 : decode cX11_style 63 = .ok (.dup, 1) := by decide +kernel
theorem dX11_style_64 : decode cX11_style 64 = .ok (.ldc_w 262, 3) := by decide +kernel
theorem dX11_style_67 : decode cX11_style 67 = .ok (.invokespecial 166, 3) := by decide +kernel
theorem dX11_style_70 : decode cX11_style 70 = .ok (.athrow, 1) := by decide +kernel
theorem dX11_style_71 : decode cX11_style 71 = .ok (.aload_n 0, 1) := by decide +kernel
theorem dX11_style_72 : decode cX11_style 72 = .ok (.getfield 73, 3) := by decide +kernel
theorem dX11_style_75 : decode cX11_style 75 = .ok (.iload_n 1, 1) := by decide +kernel
theorem dX11_style_76 : decode cX11_style 76 = .ok (.aload_n 0, 1) := by decide +kernel
theorem dX11_style_77 : decode cX11_style 77 = .ok (.invokevirtual 108, 3) := by decide +kernel
theorem dX11_style_80 : decode cX11_style 80 = .ok (.invokevirtual 264, 3) := by decide +kernel
theorem dX11_style_83 : decode cX11_style 83 = .ok (.aload_n 0, 1) := by decide +kernel
theorem dX11_style_84 : decode cX11_style 84 = .ok (.getfield 33, 3) := by decide +kernel
theorem dX11_style_87 : decode cX11_style 87 = .ok (.aload_n 0, 1) := by decide +kernel
theorem dX11_style_88 : decode cX11_style 88 = .ok (.getfield 73, 3) := by decide +kernel
theorem dX11_style_91 : decode cX11_style 91 = .ok (.invokeinterface 267 2, 5) := by decide +kernel
theorem dX11_style_96 : decode cX11_style 96 = .ok (.pop, 1) := by decide +kernel
theorem dX11_style_97 : decode cX11_style 97 = .ok (.aload_n 0, 1) := by decide +kernel
theorem dX11_style_98 : decode cX11_style 98 = .ok (.new 70, 3) := by decide +kernel
theorem dX11_style_101 : decode cX11_style 101 = .ok (.dup, 1) := by decide +kernel
theorem dX11_style_102 : decode cX11_style 102 = .ok (.invokespecial 72, 3) := by decide +kernel
theorem dX11_style_105 : decode cX11_style 105 = .ok (.putfield 73, 3) := by decide +kernel
theorem dX11_style_108 : decode cX11_style 108 = .ok (.aload_n 0, 1) := by decide +kernel
theorem dX11_style_109 : decode cX11_style 109 = .ok (.invokevirtual 139, 3) := by decide +kernel
theorem dX11_style_112 : decode cX11_style 112 = .ok (.aload_n 0, 1) := by decide +kernel
theorem dX11_style_113 : decode cX11_style 113 = .ok (.getfield 33, 3) := by decide +kernel
theorem dX11_style_116 : decode cX11_style 116 = .ok (.invokeinterface 255 1, 5) := by decide +kernel
theorem dX11_style_121 : decode cX11_style 121 = .ok (.iconst 1, 1) := by decide +kernel
theorem dX11_style_122 : decode cX11_style 122 = .ok (.isub, 1) := by decide +kernel
theorem dX11_style_123 : decode cX11_style 123 = .ok (.ireturn, 1) := by decide +kernel
theorem dX11_put_0 : decode cX11_put 0 = .ok (.iload_n 1, 1) := by decide +kernel
theorem dX11_put_1 : decode cX11_put 1 = .ok (.iconst 0, 1) := by decide +kernel
theorem dX11_put_2 : decode cX11_put 2 = .ok (.aload_n 0, 1) := by decide +kernel
theorem dX11_put_3 : decode cX11_put 3 = .ok (.getfield 49, 3) := by decide +kernel
theorem dX11_put_6 : decode cX11_put 6 = .ok (.invokevirtual 271, 3) := by decide +kernel
theorem dX11_put_9 : decode cX11_put 9 = .ok (.invokestatic 112, 3) := by decide +kernel
theorem dX11_put_12 : decode cX11_put 12 = .ok (.ifCond .ne 14, 3) := by decide +kernel
theorem dX11_put_15 : decode cX11_put 15 = .ok (.new 162, 3) := by decide +kernel
theorem dX11_put_18 : decode cX11_put 18 = .ok (.dup, 1) := by decide +kernel
theorem dX11_put_19 : decode cX11_put 19 = .ok (.ldc_w 272, 3) := by decide +kernel
theorem dX11_put_22 : decode cX11_put 22 = .ok (.invokespecial 166, 3) := by decide +kernel
theorem dX11_put_25 : decode cX11_put 25 = .ok (.athrow, 1) := by decide +kernel
theorem dX11_put_26 : decode cX11_put 26 = .ok (.iload_n 2, 1) := by decide +kernel
theorem dX11_put_27 : decode cX11_put 27 = .ok (.invokestatic 274, 3) := by decide +kernel
theorem dX11_put_30 : decode cX11_put 30 = .ok (.ifCond .ne 14, 3) := by decide +kernel
theorem dX11_put_33 : decode cX11_put 33 = .ok (.new 88, 3) := by decide +kernel
theorem dX11_put_36 : decode cX11_put 36 = .ok (.dup, 1) := by decide +kernel
theorem dX11_put_37 : decode cX11_put 37 = .ok (.ldc_w 278, 3) := by decide +kernel
theorem dX11_put_40 : decode cX11_put 40 = .ok (.invokespecial 92, 3) := by decide +kernel
theorem dX11_put_43 : decode cX11_put 43 = .ok (.athrow, 1) := by decide +kernel
theorem dX11_put_44 : decode cX11_put 44 = .ok (.aload_n 0, 1) := by decide +kernel
theorem dX11_put_45 : decode cX11_put 45 = .ok (.getfield 49, 3) := by decide +kernel
theorem dX11_put_48 : decode cX11_put 48 = .ok (.invokevirtual 271, 3) := by decide +kernel
theorem dX11_put_51 : decode cX11_put 51 = .ok (.bipush 100, 2) := by decide +kernel
theorem dX11_put_53 : decode cX11_put 53 = .ok (.if_icmp .lt 14, 3) := by decide +kernel
theorem dX11_put_56 : decode cX11_put 56 = .ok (.new 99, 3) := by decide +kernel
theorem dX11_put_59 : decode cX11_put 59 = .ok (.dup, 1) := by decide +kernel
theorem dX11_put_60 : decode cX11_put 60 = .ok (.ldc_w 280, 3) := by decide +kernel
theorem dX11_put_63 : decode cX11_put 63 = .ok (.invokespecial 103, 3) := by decide +kernel
theorem dX11_put_66 : decode cX11_put 66 = .ok (.athrow, 1) := by decide +kernel
theorem dX11_put_67 : decode cX11_put 67 = .ok (.aload_n 0, 1) := by decide +kernel
theorem dX11_put_68 : decode cX11_put 68 = .ok (.getfield 53, 3) := by decide +kernel
theorem dX11_put_71 : decode cX11_put 71 = .ok (.aload_n 0, 1) := by decide +kernel
theorem dX11_put_72 : decode cX11_put 72 = .ok (.getfield 49, 3) := by decide +kernel
theorem dX11_put_75 : decode cX11_put 75 = .ok (.invokevirtual 282, 3) := by decide +kernel
theorem dX11_put_78 : decode cX11_put 78 = .ok (.aload_n 0, 1) := by decide +kernel
theorem dX11_put_79 : decode cX11_put 79 = .ok (.getfield 49, 3) := by decide +kernel
theorem dX11_put_82 : decode cX11_put 82 = .ok (.iload_n 1, 1) := by decide +kernel
theorem dX11_put_83 : decode cX11_put 83 = .ok (.iload_n 2, 1) := by decide +kernel
theorem dX11_put_84 : decode cX11_put 84 = .ok (.invokevirtual 286, 3) := by decide +kernel
theorem dX11_put_87 : decode cX11_put 87 = .ok (.aload_n 0, 1) := by decide +kernel
theorem dX11_put_88 : decode cX11_put 88 = .ok (.invokevirtual 289, 3) := by decide +kernel
theorem dX11_put_91 : decode cX11_put 91 = .ok (.ireturn, 1) := by decide +kernel
theorem dX11_take_0 : decode cX11_take 0 = .ok (.iload_n 1, 1) := by decide +kernel
theorem dX11_take_1 : decode cX11_take 1 = .ok (.iconst 0, 1) := by decide +kernel
theorem dX11_take_2 : decode cX11_take 2 = .ok (.aload_n 0, 1) := by decide +kernel
theorem dX11_take_3 : decode cX11_take 3 = .ok (.getfield 49, 3) := by decide +kernel
theorem dX11_take_6 : decode cX11_take 6 = .ok (.invokevirtual 271, 3) := by decide +kernel
theorem dX11_take_9 : decode cX11_take 9 = .ok (.iconst 1, 1) := by decide +kernel
theorem dX11_take_10 : decode cX11_take 10 = .ok (.isub, 1) := by decide +kernel
theorem dX11_take_11 : decode cX11_take 11 = .ok (.invokestatic 112, 3) := by decide +kernel
theorem dX11_take_14 : decode cX11_take 14 = .ok (.ifCond .ne 14, 3) := by decide +kernel
theorem dX11_take_17 : decode cX11_take 17 = .ok (.new 162, 3) := by decide +kernel
theorem dX11_take_20 : decode cX11_take 20 = .ok (.dup, 1) := by decide +kernel
theorem dX11_take_21 : decode cX11_take 21 = .ok (.ldc_w 272, 3) := by decide +kernel
theorem dX11_take_24 : decode cX11_take 24 = .ok (.invokespecial 166, 3) := by decide +kernel
theorem dX11_take_27 : decode cX11_take 27 = .ok (.athrow, 1) := by decide +kernel
theorem dX11_take_28 : decode cX11_take 28 = .ok (.aload_n 0, 1) := by decide +kernel
theorem dX11_take_29 : decode cX11_take 29 = .ok (.getfield 53, 3) := by decide +kernel
theorem dX11_take_32 : decode cX11_take 32 = .ok (.aload_n 0, 1) := by decide +kernel
theorem dX11_take_33 : decode cX11_take 33 = .ok (.getfield 49, 3) := by decide +kernel
theorem dX11_take_36 : decode cX11_take 36 = .ok (.invokevirtual 282, 3) := by decide +kernel
theorem dX11_take_39 : decode cX11_take 39 = .ok (.aload_n 0, 1) := by decide +kernel
theorem dX11_take_40 : decode cX11_take 40 = .ok (.getfield 49, 3) := by decide +kernel
theorem dX11_take_43 : decode cX11_take 43 = .ok (.iload_n 1, 1) := by decide +kernel
theorem dX11_take_44 : decode cX11_take 44 = .ok (.invokevirtual 292, 3) := by decide +kernel
theorem dX11_take_47 : decode cX11_take 47 = .ok (.aload_n 0, 1) := by decide +kernel
theorem dX11_take_48 : decode cX11_take 48 = .ok (.invokevirtual 289, 3) := by decide +kernel
theorem dX11_take_51 : decode cX11_take 51 = .ok (.ireturn, 1) := by decide +kernel
theorem dX11_correct_0 : decode cX11_correct 0 = .ok (.aload_n 0, 1) := by decide +kernel
theorem dX11_correct_1 : decode cX11_correct 1 = .ok (.getfield 59, 3) := by decide +kernel
theorem dX11_correct_4 : decode cX11_correct 4 = .ok (.aload_n 0, 1) := by decide +kernel
theorem dX11_correct_5 : decode cX11_correct 5 = .ok (.getfield 49, 3) := by decide +kernel
theorem dX11_correct_8 : decode cX11_correct 8 = .ok (.invokevirtual 295, 3) := by decide +kernel
theorem dX11_correct_11 : decode cX11_correct 11 = .ok (.iconst 0, 1) := by decide +kernel
theorem dX11_correct_12 : decode cX11_correct 12 = .ok (.istore_n 1, 1) := by decide +kernel
theorem dX11_correct_13 : decode cX11_correct 13 = .ok (.iload_n 1, 1) := by decide +kernel
theorem dX11_correct_14 : decode cX11_correct 14 = .ok (.bipush 20, 2) := by decide +kernel
theorem dX11_correct_16 : decode cX11_correct 16 = .ok (.if_icmp .ge 49, 3) := by decide +kernel
theorem dX11_correct_19 : decode cX11_correct 19 = .ok (.aload_n 0, 1) := by decide +kernel
theorem dX11_correct_20 : decode cX11_correct 20 = .ok (.invokevirtual 216, 3) := by decide +kernel
theorem dX11_correct_23 : decode cX11_correct 23 = .ok (.aload_n 0, 1) := by decide +kernel
theorem dX11_correct_24 : decode cX11_correct 24 = .ok (.invokevirtual 298, 3) := by decide +kernel
theorem dX11_correct_27 : decode cX11_correct 27 = .ok (.ifCond .ne 5, 3) := by decide +kernel
theorem dX11_correct_30 : decode cX11_correct 30 = .ok (.iload_n 1, 1) := by decide +kernel
theorem dX11_correct_31 : decode cX11_correct 31 = .ok (.ireturn, 1) := by decide +kernel
theorem dX11_correct_32 : decode cX11_correct 32 = .ok (.aload_n 0, 1) := by decide +kernel
theorem dX11_correct_33 : decode cX11_correct 33 = .ok (.getfield 59, 3) := by decide +kernel
theorem dX11_correct_36 : decode cX11_correct 36 = .ok (.aload_n 0, 1) := by decide +kernel
theorem dX11_correct_37 : decode cX11_correct 37 = .ok (.getfield 49, 3) := by decide +kernel
theorem dX11_correct_40 : decode cX11_correct 40 = .ok (.invokevirtual 302, 3) := by decide +kernel
theorem dX11_correct_43 : decode cX11_correct 43 = .ok (.ifCond .eq 5, 3) := by decide +kernel
theorem dX11_correct_46 : decode cX11_correct 46 = .ok (.iconst (-1), 1) := by decide +kernel
theorem dX11_correct_47 : decode cX11_correct 47 = .ok (.ireturn, 1) := by decide +kernel
theorem dX11_correct_48 : decode cX11_correct 48 = .ok (.aload_n 0, 1) := by decide +kernel
theorem dX11_correct_49 : decode cX11_correct 49 = .ok (.getfield 59, 3) := by decide +kernel
theorem dX11_correct_52 : decode cX11_correct 52 = .ok (.aload_n 0, 1) := by decide +kernel
theorem dX11_correct_53 : decode cX11_correct 53 = .ok (.getfield 49, 3) := by decide +kernel
theorem dX11_correct_56 : decode cX11_correct 56 = .ok (.invokevirtual 306, 3) := by decide +kernel
theorem dX11_correct_59 : decode cX11_correct 59 = .ok (.iinc 1 1, 3) := by decide +kernel
theorem dX11_correct_62 : decode cX11_correct 62 = .ok (.goto (-49), 3) := by decide +kernel
theorem dX11_correct_65 : decode cX11_correct 65 = .ok (.bipush 20, 2) := by decide +kernel
theorem dX11_correct_67 : decode cX11_correct 67 = .ok (.ireturn, 1) := by decide +kernel
theorem dX11_length_0 : decode cX11_length 0 = .ok (.aload_n 0, 1) := by decide +kernel
theorem dX11_length_1 : decode cX11_length 1 = .ok (.getfield 49, 3) := by decide +kernel
theorem dX11_length_4 : decode cX11_length 4 = .ok (.invokevirtual 271, 3) := by decide +kernel
theorem dX11_length_7 : decode cX11_length 7 = .ok (.ireturn, 1) := by decide +kernel
theorem dX11_signAt_0 : decode cX11_signAt 0 = .ok (.iload_n 1, 1) := by decide +kernel
theorem dX11_signAt_1 : decode cX11_signAt 1 = .ok (.iconst 0, 1) := by decide +kernel
theorem dX11_signAt_2 : decode cX11_signAt 2 = .ok (.aload_n 0, 1) := by decide +kernel
theorem dX11_signAt_3 : decode cX11_signAt 3 = .ok (.getfield 49, 3) := by decide +kernel
theorem dX11_signAt_6 : decode cX11_signAt 6 = .ok (.invokevirtual 271, 3) := by decide +kernel
theorem dX11_signAt_9 : decode cX11_signAt 9 = .ok (.iconst 1, 1) := by decide +kernel
theorem dX11_signAt_10 : decode cX11_signAt 10 = .ok (.isub, 1) := by decide +kernel
theorem dX11_signAt_11 : decode cX11_signAt 11 = .ok (.invokestatic 112, 3) := by decide +kernel
theorem dX11_signAt_14 : decode cX11_signAt 14 = .ok (.ifCond .ne 14, 3) := by decide +kernel
theorem dX11_signAt_17 : decode cX11_signAt 17 = .ok (.new 162, 3) := by decide +kernel
theorem dX11_signAt_20 : decode cX11_signAt 20 = .ok (.dup, 1) := by decide +kernel
theorem dX11_signAt_21 : decode cX11_signAt 21 = .ok (.ldc_w 272, 3) := by decide +kernel
theorem dX11_signAt_24 : decode cX11_signAt 24 = .ok (.invokespecial 166, 3) := by decide +kernel
theorem dX11_signAt_27 : decode cX11_signAt 27 = .ok (.athrow, 1) := by decide +kernel
theorem dX11_signAt_28 : decode cX11_signAt 28 = .ok (.aload_n 0, 1) := by decide +kernel
theorem dX11_signAt_29 : decode cX11_signAt 29 = .ok (.getfield 49, 3) := by decide +kernel
theorem dX11_signAt_32 : decode cX11_signAt 32 = .ok (.iload_n 1, 1) := by decide +kernel
theorem dX11_signAt_33 : decode cX11_signAt 33 = .ok (.invokevirtual 309, 3) := by decide +kernel
theorem dX11_signAt_36 : decode cX11_signAt 36 = .ok (.ireturn, 1) := by decide +kernel
theorem dX11_words_0 : decode cX11_words 0 = .ok (.aload_n 0, 1) := by decide +kernel
theorem dX11_words_1 : decode cX11_words 1 = .ok (.getfield 49, 3) := by decide +kernel
theorem dX11_words_4 : decode cX11_words 4 = .ok (.invokevirtual 313, 3) := by decide +kernel
theorem dX11_words_7 : decode cX11_words 7 = .ok (.ireturn, 1) := by decide +kernel
theorem dX11_wordAt_0 : decode cX11_wordAt 0 = .ok (.aload_n 0, 1) := by decide +kernel
theorem dX11_wordAt_1 : decode cX11_wordAt 1 = .ok (.iload_n 1, 1) := by decide +kernel
theorem dX11_wordAt_2 : decode cX11_wordAt 2 = .ok (.invokevirtual 211, 3) := by decide +kernel
theorem dX11_wordAt_5 : decode cX11_wordAt 5 = .ok (.ifCond .ne 13, 3) := by decide +kernel
theorem dX11_wordAt_8 : decode cX11_wordAt 8 = .ok (.new 162, 3) := by decide +kernel
theorem dX11_wordAt_11 : decode cX11_wordAt 11 = .ok (.dup, 1) := by decide +kernel
theorem dX11_wordAt_12 : decode cX11_wordAt 12 = .ok (.ldc 214, 2) := by decide +kernel
theorem dX11_wordAt_14 : decode cX11_wordAt 14 = .ok (.invokespecial 166, 3) := by decide +kernel
theorem dX11_wordAt_17 : decode cX11_wordAt 17 = .ok (.athrow, 1) := by decide +kernel
theorem dX11_wordAt_18 : decode cX11_wordAt 18 = .ok (.aload_n 0, 1) := by decide +kernel
theorem dX11_wordAt_19 : decode cX11_wordAt 19 = .ok (.getfield 49, 3) := by decide +kernel
theorem dX11_wordAt_22 : decode cX11_wordAt 22 = .ok (.iload_n 1, 1) := by decide +kernel
theorem dX11_wordAt_23 : decode cX11_wordAt 23 = .ok (.invokevirtual 316, 3) := by decide +kernel
theorem dX11_wordAt_26 : decode cX11_wordAt 26 = .ok (.ireturn, 1) := by decide +kernel
theorem dX11_isRight_0 : decode cX11_isRight 0 = .ok (.aload_n 0, 1) := by decide +kernel
theorem dX11_isRight_1 : decode cX11_isRight 1 = .ok (.iload_n 1, 1) := by decide +kernel
theorem dX11_isRight_2 : decode cX11_isRight 2 = .ok (.invokevirtual 211, 3) := by decide +kernel
theorem dX11_isRight_5 : decode cX11_isRight 5 = .ok (.ifCond .ne 13, 3) := by decide +kernel
theorem dX11_isRight_8 : decode cX11_isRight 8 = .ok (.new 162, 3) := by decide +kernel
theorem dX11_isRight_11 : decode cX11_isRight 11 = .ok (.dup, 1) := by decide +kernel
theorem dX11_isRight_12 : decode cX11_isRight 12 = .ok (.ldc 214, 2) := by decide +kernel
theorem dX11_isRight_14 : decode cX11_isRight 14 = .ok (.invokespecial 166, 3) := by decide +kernel
theorem dX11_isRight_17 : decode cX11_isRight 17 = .ok (.athrow, 1) := by decide +kernel
theorem dX11_isRight_18 : decode cX11_isRight 18 = .ok (.aload_n 0, 1) := by decide +kernel
theorem dX11_isRight_19 : decode cX11_isRight 19 = .ok (.invokevirtual 216, 3) := by decide +kernel
theorem dX11_isRight_22 : decode cX11_isRight 22 = .ok (.aload_n 0, 1) := by decide +kernel
theorem dX11_isRight_23 : decode cX11_isRight 23 = .ok (.getfield 66, 3) := by decide +kernel
theorem dX11_isRight_26 : decode cX11_isRight 26 = .ok (.iload_n 1, 1) := by decide +kernel
theorem dX11_isRight_27 : decode cX11_isRight 27 = .ok (.invokevirtual 222, 3) := by decide +kernel
theorem dX11_isRight_30 : decode cX11_isRight 30 = .ok (.ireturn, 1) := by decide +kernel
theorem dX11_readings_0 : decode cX11_readings 0 = .ok (.aload_n 0, 1) := by decide +kernel
theorem dX11_readings_1 : decode cX11_readings 1 = .ok (.iload_n 1, 1) := by decide +kernel
theorem dX11_readings_2 : decode cX11_readings 2 = .ok (.invokevirtual 211, 3) := by decide +kernel
theorem dX11_readings_5 : decode cX11_readings 5 = .ok (.ifCond .ne 13, 3) := by decide +kernel
theorem dX11_readings_8 : decode cX11_readings 8 = .ok (.new 162, 3) := by decide +kernel
theorem dX11_readings_11 : decode cX11_readings 11 = .ok (.dup, 1) := by decide +kernel
theorem dX11_readings_12 : decode cX11_readings 12 = .ok (.ldc 214, 2) := by decide +kernel
theorem dX11_readings_14 : decode cX11_readings 14 = .ok (.invokespecial 166, 3) := by decide +kernel
theorem dX11_readings_17 : decode cX11_readings 17 = .ok (.athrow, 1) := by decide +kernel
theorem dX11_readings_18 : decode cX11_readings 18 = .ok (.aload_n 0, 1) := by decide +kernel
theorem dX11_readings_19 : decode cX11_readings 19 = .ok (.invokevirtual 216, 3) := by decide +kernel
theorem dX11_readings_22 : decode cX11_readings 22 = .ok (.aload_n 0, 1) := by decide +kernel
theorem dX11_readings_23 : decode cX11_readings 23 = .ok (.getfield 66, 3) := by decide +kernel
theorem dX11_readings_26 : decode cX11_readings 26 = .ok (.iload_n 1, 1) := by decide +kernel
theorem dX11_readings_27 : decode cX11_readings 27 = .ok (.invokevirtual 319, 3) := by decide +kernel
theorem dX11_readings_30 : decode cX11_readings 30 = .ok (.ireturn, 1) := by decide +kernel
theorem dX11_reading_0 : decode cX11_reading 0 = .ok (.aload_n 0, 1) := by decide +kernel
theorem dX11_reading_1 : decode cX11_reading 1 = .ok (.iload_n 1, 1) := by decide +kernel
theorem dX11_reading_2 : decode cX11_reading 2 = .ok (.invokevirtual 211, 3) := by decide +kernel
theorem dX11_reading_5 : decode cX11_reading 5 = .ok (.ifCond .ne 13, 3) := by decide +kernel
theorem dX11_reading_8 : decode cX11_reading 8 = .ok (.new 162, 3) := by decide +kernel
theorem dX11_reading_11 : decode cX11_reading 11 = .ok (.dup, 1) := by decide +kernel
theorem dX11_reading_12 : decode cX11_reading 12 = .ok (.ldc 214, 2) := by decide +kernel
theorem dX11_reading_14 : decode cX11_reading 14 = .ok (.invokespecial 166, 3) := by decide +kernel
theorem dX11_reading_17 : decode cX11_reading 17 = .ok (.athrow, 1) := by decide +kernel
theorem dX11_reading_18 : decode cX11_reading 18 = .ok (.aload_n 0, 1) := by decide +kernel
theorem dX11_reading_19 : decode cX11_reading 19 = .ok (.invokevirtual 216, 3) := by decide +kernel
theorem dX11_reading_22 : decode cX11_reading 22 = .ok (.aload_n 0, 1) := by decide +kernel
theorem dX11_reading_23 : decode cX11_reading 23 = .ok (.getfield 66, 3) := by decide +kernel
theorem dX11_reading_26 : decode cX11_reading 26 = .ok (.iload_n 1, 1) := by decide +kernel
theorem dX11_reading_27 : decode cX11_reading 27 = .ok (.invokevirtual 322, 3) := by decide +kernel
theorem dX11_reading_30 : decode cX11_reading 30 = .ok (.ireturn, 1) := by decide +kernel
theorem dX11_split_0 : decode cX11_split 0 = .ok (.aload_n 0, 1) := by decide +kernel
theorem dX11_split_1 : decode cX11_split 1 = .ok (.iload_n 1, 1) := by decide +kernel
theorem dX11_split_2 : decode cX11_split 2 = .ok (.invokevirtual 211, 3) := by decide +kernel
theorem dX11_split_5 : decode cX11_split 5 = .ok (.ifCond .ne 13, 3) := by decide +kernel
theorem dX11_split_8 : decode cX11_split 8 = .ok (.new 162, 3) := by decide +kernel
theorem dX11_split_11 : decode cX11_split 11 = .ok (.dup, 1) := by decide +kernel
theorem dX11_split_12 : decode cX11_split 12 = .ok (.ldc 214, 2) := by decide +kernel
theorem dX11_split_14 : decode cX11_split 14 = .ok (.invokespecial 166, 3) := by decide +kernel
theorem dX11_split_17 : decode cX11_split 17 = .ok (.athrow, 1) := by decide +kernel
theorem dX11_split_18 : decode cX11_split 18 = .ok (.aload_n 0, 1) := by decide +kernel
theorem dX11_split_19 : decode cX11_split 19 = .ok (.getfield 49, 3) := by decide +kernel
theorem dX11_split_22 : decode cX11_split 22 = .ok (.iload_n 1, 1) := by decide +kernel
theorem dX11_split_23 : decode cX11_split 23 = .ok (.invokevirtual 325, 3) := by decide +kernel
theorem dX11_split_26 : decode cX11_split 26 = .ok (.istore_n 2, 1) := by decide +kernel
theorem dX11_split_27 : decode cX11_split 27 = .ok (.iconst 1, 1) := by decide +kernel
theorem dX11_split_28 : decode cX11_split 28 = .ok (.istore_n 3, 1) := by decide +kernel
theorem dX11_split_29 : decode cX11_split 29 = .ok (.iload_n 3, 1) := by decide +kernel
theorem dX11_split_30 : decode cX11_split 30 = .ok (.iload_n 2, 1) := by decide +kernel
theorem dX11_split_31 : decode cX11_split 31 = .ok (.if_icmp .ge 31, 3) := by decide +kernel
theorem dX11_split_34 : decode cX11_split 34 = .ok (.aload_n 0, 1) := by decide +kernel
theorem dX11_split_35 : decode cX11_split 35 = .ok (.iload_n 1, 1) := by decide +kernel
theorem dX11_split_36 : decode cX11_split 36 = .ok (.iconst 0, 1) := by decide +kernel
theorem dX11_split_37 : decode cX11_split 37 = .ok (.iload_n 3, 1) := by decide +kernel
theorem dX11_split_38 : decode cX11_split 38 = .ok (.invokevirtual 328, 3) := by decide +kernel
theorem dX11_split_41 : decode cX11_split 41 = .ok (.ifCond .eq 15, 3) := by decide +kernel
theorem dX11_split_44 : decode cX11_split 44 = .ok (.aload_n 0, 1) := by decide +kernel
theorem dX11_split_45 : decode cX11_split 45 = .ok (.iload_n 1, 1) := by decide +kernel
theorem dX11_split_46 : decode cX11_split 46 = .ok (.iload_n 3, 1) := by decide +kernel
theorem dX11_split_47 : decode cX11_split 47 = .ok (.iload_n 2, 1) := by decide +kernel
theorem dX11_split_48 : decode cX11_split 48 = .ok (.invokevirtual 328, 3) := by decide +kernel
theorem dX11_split_51 : decode cX11_split 51 = .ok (.ifCond .eq 5, 3) := by decide +kernel
theorem dX11_split_54 : decode cX11_split 54 = .ok (.iload_n 3, 1) := by decide +kernel
theorem dX11_split_55 : decode cX11_split 55 = .ok (.ireturn, 1) := by decide +kernel
theorem dX11_split_56 : decode cX11_split 56 = .ok (.iinc 3 1, 3) := by decide +kernel
theorem dX11_split_59 : decode cX11_split 59 = .ok (.goto (-30), 3) := by decide +kernel
theorem dX11_split_62 : decode cX11_split 62 = .ok (.iconst (-1), 1) := by decide +kernel
theorem dX11_split_63 : decode cX11_split 63 = .ok (.ireturn, 1) := by decide +kernel
theorem dX11_mistakes_0 : decode cX11_mistakes 0 = .ok (.aload_n 0, 1) := by decide +kernel
theorem dX11_mistakes_1 : decode cX11_mistakes 1 = .ok (.invokevirtual 216, 3) := by decide +kernel
theorem dX11_mistakes_4 : decode cX11_mistakes 4 = .ok (.aload_n 0, 1) := by decide +kernel
theorem dX11_mistakes_5 : decode cX11_mistakes 5 = .ok (.getfield 66, 3) := by decide +kernel
theorem dX11_mistakes_8 : decode cX11_mistakes 8 = .ok (.invokevirtual 331, 3) := by decide +kernel
theorem dX11_mistakes_11 : decode cX11_mistakes 11 = .ok (.ireturn, 1) := by decide +kernel
theorem dX11_mistakeKind_0 : decode cX11_mistakeKind 0 = .ok (.aload_n 0, 1) := by decide +kernel
theorem dX11_mistakeKind_1 : decode cX11_mistakeKind 1 = .ok (.invokevirtual 216, 3) := by decide +kernel
theorem dX11_mistakeKind_4 : decode cX11_mistakeKind 4 = .ok (.iload_n 1, 1) := by decide +kernel
theorem dX11_mistakeKind_5 : decode cX11_mistakeKind 5 = .ok (.iconst 0, 1) := by decide +kernel
theorem dX11_mistakeKind_6 : decode cX11_mistakeKind 6 = .ok (.aload_n 0, 1) := by decide +kernel
theorem dX11_mistakeKind_7 : decode cX11_mistakeKind 7 = .ok (.getfield 66, 3) := by decide +kernel
theorem dX11_mistakeKind_10 : decode cX11_mistakeKind 10 = .ok (.invokevirtual 331, 3) := by decide +kernel
theorem dX11_mistakeKind_13 : decode cX11_mistakeKind 13 = .ok (.iconst 1, 1) := by decide +kernel
theorem dX11_mistakeKind_14 : decode cX11_mistakeKind 14 = .ok (.isub, 1) := by decide +kernel
theorem dX11_mistakeKind_15 : decode cX11_mistakeKind 15 = .ok (.invokestatic 112, 3) := by decide +kernel
theorem dX11_mistakeKind_18 : decode cX11_mistakeKind 18 = .ok (.ifCond .ne 14, 3) := by decide +kernel
theorem dX11_mistakeKind_21 : decode cX11_mistakeKind 21 = .ok (.new 162, 3) := by decide +kernel
theorem dX11_mistakeKind_24 : decode cX11_mistakeKind 24 = .ok (.dup, 1) := by decide +kernel
theorem dX11_mistakeKind_25 : decode cX11_mistakeKind 25 = .ok (.ldc_w 334, 3) := by decide +kernel
theorem dX11_mistakeKind_28 : decode cX11_mistakeKind 28 = .ok (.invokespecial 166, 3) := by decide +kernel
theorem dX11_mistakeKind_31 : decode cX11_mistakeKind 31 = .ok (.athrow, 1) := by decide +kernel
theorem dX11_mistakeKind_32 : decode cX11_mistakeKind 32 = .ok (.aload_n 0, 1) := by decide +kernel
theorem dX11_mistakeKind_33 : decode cX11_mistakeKind 33 = .ok (.getfield 66, 3) := by decide +kernel
theorem dX11_mistakeKind_36 : decode cX11_mistakeKind 36 = .ok (.iload_n 1, 1) := by decide +kernel
theorem dX11_mistakeKind_37 : decode cX11_mistakeKind 37 = .ok (.invokevirtual 336, 3) := by decide +kernel
theorem dX11_mistakeKind_40 : decode cX11_mistakeKind 40 = .ok (.ireturn, 1) := by decide +kernel
theorem dX11_mistakeAt_0 : decode cX11_mistakeAt 0 = .ok (.aload_n 0, 1) := by decide +kernel
theorem dX11_mistakeAt_1 : decode cX11_mistakeAt 1 = .ok (.invokevirtual 216, 3) := by decide +kernel
theorem dX11_mistakeAt_4 : decode cX11_mistakeAt 4 = .ok (.iload_n 1, 1) := by decide +kernel
theorem dX11_mistakeAt_5 : decode cX11_mistakeAt 5 = .ok (.iconst 0, 1) := by decide +kernel
theorem dX11_mistakeAt_6 : decode cX11_mistakeAt 6 = .ok (.aload_n 0, 1) := by decide +kernel
theorem dX11_mistakeAt_7 : decode cX11_mistakeAt 7 = .ok (.getfield 66, 3) := by decide +kernel
theorem dX11_mistakeAt_10 : decode cX11_mistakeAt 10 = .ok (.invokevirtual 331, 3) := by decide +kernel
theorem dX11_mistakeAt_13 : decode cX11_mistakeAt 13 = .ok (.iconst 1, 1) := by decide +kernel
theorem dX11_mistakeAt_14 : decode cX11_mistakeAt 14 = .ok (.isub, 1) := by decide +kernel
theorem dX11_mistakeAt_15 : decode cX11_mistakeAt 15 = .ok (.invokestatic 112, 3) := by decide +kernel
theorem dX11_mistakeAt_18 : decode cX11_mistakeAt 18 = .ok (.ifCond .ne 14, 3) := by decide +kernel
theorem dX11_mistakeAt_21 : decode cX11_mistakeAt 21 = .ok (.new 162, 3) := by decide +kernel
theorem dX11_mistakeAt_24 : decode cX11_mistakeAt 24 = .ok (.dup, 1) := by decide +kernel
theorem dX11_mistakeAt_25 : decode cX11_mistakeAt 25 = .ok (.ldc_w 334, 3) := by decide +kernel
theorem dX11_mistakeAt_28 : decode cX11_mistakeAt 28 = .ok (.invokespecial 166, 3) := by decide +kernel
theorem dX11_mistakeAt_31 : decode cX11_mistakeAt 31 = .ok (.athrow, 1) := by decide +kernel
theorem dX11_mistakeAt_32 : decode cX11_mistakeAt 32 = .ok (.aload_n 0, 1) := by decide +kernel
theorem dX11_mistakeAt_33 : decode cX11_mistakeAt 33 = .ok (.getfield 66, 3) := by decide +kernel
theorem dX11_mistakeAt_36 : decode cX11_mistakeAt 36 = .ok (.iload_n 1, 1) := by decide +kernel
theorem dX11_mistakeAt_37 : decode cX11_mistakeAt 37 = .ok (.invokevirtual 339, 3) := by decide +kernel
theorem dX11_mistakeAt_40 : decode cX11_mistakeAt 40 = .ok (.ireturn, 1) := by decide +kernel
theorem dX11_suggestions_0 : decode cX11_suggestions 0 = .ok (.aload_n 0, 1) := by decide +kernel
theorem dX11_suggestions_1 : decode cX11_suggestions 1 = .ok (.iload_n 1, 1) := by decide +kernel
theorem dX11_suggestions_2 : decode cX11_suggestions 2 = .ok (.invokevirtual 211, 3) := by decide +kernel
theorem dX11_suggestions_5 : decode cX11_suggestions 5 = .ok (.ifCond .ne 13, 3) := by decide +kernel
theorem dX11_suggestions_8 : decode cX11_suggestions 8 = .ok (.new 162, 3) := by decide +kernel
theorem dX11_suggestions_11 : decode cX11_suggestions 11 = .ok (.dup, 1) := by decide +kernel
theorem dX11_suggestions_12 : decode cX11_suggestions 12 = .ok (.ldc 214, 2) := by decide +kernel
theorem dX11_suggestions_14 : decode cX11_suggestions 14 = .ok (.invokespecial 166, 3) := by decide +kernel
theorem dX11_suggestions_17 : decode cX11_suggestions 17 = .ok (.athrow, 1) := by decide +kernel
theorem dX11_suggestions_18 : decode cX11_suggestions 18 = .ok (.aload_n 0, 1) := by decide +kernel
theorem dX11_suggestions_19 : decode cX11_suggestions 19 = .ok (.iload_n 1, 1) := by decide +kernel
theorem dX11_suggestions_20 : decode cX11_suggestions 20 = .ok (.invokevirtual 342, 3) := by decide +kernel
theorem dX11_suggestions_23 : decode cX11_suggestions 23 = .ok (.aload_n 0, 1) := by decide +kernel
theorem dX11_suggestions_24 : decode cX11_suggestions 24 = .ok (.getfield 19, 3) := by decide +kernel
theorem dX11_suggestions_27 : decode cX11_suggestions 27 = .ok (.invokevirtual 345, 3) := by decide +kernel
theorem dX11_suggestions_30 : decode cX11_suggestions 30 = .ok (.ireturn, 1) := by decide +kernel
theorem dX11_suggestionsByAll_0 : decode cX11_suggestionsByAll 0 = .ok (.aload_n 0, 1) := by decide +kernel
theorem dX11_suggestionsByAll_1 : decode cX11_suggestionsByAll 1 = .ok (.iload_n 1, 1) := by decide +kernel
theorem dX11_suggestionsByAll_2 : decode cX11_suggestionsByAll 2 = .ok (.invokevirtual 211, 3) := by decide +kernel
theorem dX11_suggestionsByAll_5 : decode cX11_suggestionsByAll 5 = .ok (.ifCond .ne 13, 3) := by decide +kernel
theorem dX11_suggestionsByAll_8 : decode cX11_suggestionsByAll 8 = .ok (.new 162, 3) := by decide +kernel
theorem dX11_suggestionsByAll_11 : decode cX11_suggestionsByAll 11 = .ok (.dup, 1) := by decide +kernel
theorem dX11_suggestionsByAll_12 : decode cX11_suggestionsByAll 12 = .ok (.ldc 214, 2) := by decide +kernel
theorem dX11_suggestionsByAll_14 : decode cX11_suggestionsByAll 14 = .ok (.invokespecial 166, 3) := by decide +kernel
theorem dX11_suggestionsByAll_17 : decode cX11_suggestionsByAll 17 = .ok (.athrow, 1) := by decide +kernel
theorem dX11_suggestionsByAll_18 : decode cX11_suggestionsByAll 18 = .ok (.aload_n 0, 1) := by decide +kernel
theorem dX11_suggestionsByAll_19 : decode cX11_suggestionsByAll 19 = .ok (.getfield 19, 3) := by decide +kernel
theorem dX11_suggestionsByAll_22 : decode cX11_suggestionsByAll 22 = .ok (.aload_n 0, 1) := by decide +kernel
theorem dX11_suggestionsByAll_23 : decode cX11_suggestionsByAll 23 = .ok (.getfield 49, 3) := by decide +kernel
theorem dX11_suggestionsByAll_26 : decode cX11_suggestionsByAll 26 = .ok (.iload_n 1, 1) := by decide +kernel
theorem dX11_suggestionsByAll_27 : decode cX11_suggestionsByAll 27 = .ok (.aload_n 0, 1) := by decide +kernel
theorem dX11_suggestionsByAll_28 : decode cX11_suggestionsByAll 28 = .ok (.getfield 12, 3) := by decide +kernel
theorem dX11_suggestionsByAll_31 : decode cX11_suggestionsByAll 31 = .ok (.invokevirtual 348, 3) := by decide +kernel
theorem dX11_suggestionsByAll_34 : decode cX11_suggestionsByAll 34 = .ok (.bipush 100, 2) := by decide +kernel
theorem dX11_suggestionsByAll_36 : decode cX11_suggestionsByAll 36 = .ok (.invokevirtual 352, 3) := by decide +kernel
theorem dX11_suggestionsByAll_39 : decode cX11_suggestionsByAll 39 = .ok (.aload_n 0, 1) := by decide +kernel
theorem dX11_suggestionsByAll_40 : decode cX11_suggestionsByAll 40 = .ok (.iconst (-1), 1) := by decide +kernel
theorem dX11_suggestionsByAll_41 : decode cX11_suggestionsByAll 41 = .ok (.putfield 81, 3) := by decide +kernel
theorem dX11_suggestionsByAll_44 : decode cX11_suggestionsByAll 44 = .ok (.aload_n 0, 1) := by decide +kernel
theorem dX11_suggestionsByAll_45 : decode cX11_suggestionsByAll 45 = .ok (.getfield 19, 3) := by decide +kernel
theorem dX11_suggestionsByAll_48 : decode cX11_suggestionsByAll 48 = .ok (.invokevirtual 345, 3) := by decide +kernel
theorem dX11_suggestionsByAll_51 : decode cX11_suggestionsByAll 51 = .ok (.ireturn, 1) := by decide +kernel
theorem dX11_cost_0 : decode cX11_cost 0 = .ok (.aload_n 0, 1) := by decide +kernel
theorem dX11_cost_1 : decode cX11_cost 1 = .ok (.iload_n 1, 1) := by decide +kernel
theorem dX11_cost_2 : decode cX11_cost 2 = .ok (.iload_n 2, 1) := by decide +kernel
theorem dX11_cost_3 : decode cX11_cost 3 = .ok (.invokevirtual 356, 3) := by decide +kernel
theorem dX11_cost_6 : decode cX11_cost 6 = .ok (.ifCond .ne 14, 3) := by decide +kernel
theorem dX11_cost_9 : decode cX11_cost 9 = .ok (.new 162, 3) := by decide +kernel
theorem dX11_cost_12 : decode cX11_cost 12 = .ok (.dup, 1) := by decide +kernel
theorem dX11_cost_13 : decode cX11_cost 13 = .ok (.ldc_w 359, 3) := by decide +kernel
theorem dX11_cost_16 : decode cX11_cost 16 = .ok (.invokespecial 166, 3) := by decide +kernel
theorem dX11_cost_19 : decode cX11_cost 19 = .ok (.athrow, 1) := by decide +kernel
theorem dX11_cost_20 : decode cX11_cost 20 = .ok (.aload_n 0, 1) := by decide +kernel
theorem dX11_cost_21 : decode cX11_cost 21 = .ok (.getfield 19, 3) := by decide +kernel
theorem dX11_cost_24 : decode cX11_cost 24 = .ok (.iload_n 2, 1) := by decide +kernel
theorem dX11_cost_25 : decode cX11_cost 25 = .ok (.invokevirtual 361, 3) := by decide +kernel
theorem dX11_cost_28 : decode cX11_cost 28 = .ok (.ireturn, 1) := by decide +kernel
theorem dX11_suggested_0 : decode cX11_suggested 0 = .ok (.iload_n 3, 1) := by decide +kernel
theorem dX11_suggested_1 : decode cX11_suggested 1 = .ok (.ifCond .lt 12, 3) := by decide +kernel
theorem dX11_suggested_4 : decode cX11_suggested 4 = .ok (.aload_n 0, 1) := by decide +kernel
theorem dX11_suggested_5 : decode cX11_suggested 5 = .ok (.iload_n 1, 1) := by decide +kernel
theorem dX11_suggested_6 : decode cX11_suggested 6 = .ok (.iload_n 2, 1) := by decide +kernel
theorem dX11_suggested_7 : decode cX11_suggested 7 = .ok (.invokevirtual 356, 3) := by decide +kernel
theorem dX11_suggested_10 : decode cX11_suggested 10 = .ok (.ifCond .ne 14, 3) := by decide +kernel
theorem dX11_suggested_13 : decode cX11_suggested 13 = .ok (.new 162, 3) := by decide +kernel
theorem dX11_suggested_16 : decode cX11_suggested 16 = .ok (.dup, 1) := by decide +kernel
theorem dX11_suggested_17 : decode cX11_suggested 17 = .ok (.ldc_w 364, 3) := by decide +kernel
theorem dX11_suggested_20 : decode cX11_suggested 20 = .ok (.invokespecial 166, 3) := by decide +kernel
theorem dX11_suggested_23 : decode cX11_suggested 23 = .ok (.athrow, 1) := by decide +kernel
theorem dX11_suggested_24 : decode cX11_suggested 24 = .ok (.aload_n 0, 1) := by decide +kernel
theorem dX11_suggested_25 : decode cX11_suggested 25 = .ok (.getfield 19, 3) := by decide +kernel
theorem dX11_suggested_28 : decode cX11_suggested 28 = .ok (.iload_n 2, 1) := by decide +kernel
theorem dX11_suggested_29 : decode cX11_suggested 29 = .ok (.invokevirtual 366, 3) := by decide +kernel
theorem dX11_suggested_32 : decode cX11_suggested 32 = .ok (.istore 4, 2) := by decide +kernel
theorem dX11_suggested_34 : decode cX11_suggested 34 = .ok (.iload_n 3, 1) := by decide +kernel
theorem dX11_suggested_35 : decode cX11_suggested 35 = .ok (.iload 4, 2) := by decide +kernel
theorem dX11_suggested_37 : decode cX11_suggested 37 = .ok (.invokestatic 95, 3) := by decide +kernel
theorem dX11_suggested_40 : decode cX11_suggested 40 = .ok (.if_icmp .ge 16, 3) := by decide +kernel
theorem dX11_suggested_43 : decode cX11_suggested 43 = .ok (.bipush 97, 2) := by decide +kernel
theorem dX11_suggested_45 : decode cX11_suggested 45 = .ok (.iload 4, 2) := by decide +kernel
theorem dX11_suggested_47 : decode cX11_suggested 47 = .ok (.iload_n 3, 1) := by decide +kernel
theorem dX11_suggested_48 : decode cX11_suggested 48 = .ok (.invokestatic 369, 3) := by decide +kernel
theorem dX11_suggested_51 : decode cX11_suggested 51 = .ok (.iadd, 1) := by decide +kernel
theorem dX11_suggested_52 : decode cX11_suggested 52 = .ok (.i2c, 1) := by decide +kernel
theorem dX11_suggested_53 : decode cX11_suggested 53 = .ok (.goto 5, 3) := by decide +kernel
theorem dX11_suggested_56 : decode cX11_suggested 56 = .ok (.bipush 32, 2) := by decide +kernel
theorem dX11_suggested_58 : decode cX11_suggested 58 = .ok (.ireturn, 1) := by decide +kernel
theorem dX11_made_0 : decode cX11_made 0 = .ok (.aload_n 0, 1) := by decide +kernel
theorem dX11_made_1 : decode cX11_made 1 = .ok (.getfield 12, 3) := by decide +kernel
theorem dX11_made_4 : decode cX11_made 4 = .ok (.invokevirtual 372, 3) := by decide +kernel
theorem dX11_made_7 : decode cX11_made 7 = .ok (.ireturn, 1) := by decide +kernel
theorem dX11_takeDraft_0 : decode cX11_takeDraft 0 = .ok (.aload_n 0, 1) := by decide +kernel
theorem dX11_takeDraft_1 : decode cX11_takeDraft 1 = .ok (.getfield 77, 3) := by decide +kernel
theorem dX11_takeDraft_4 : decode cX11_takeDraft 4 = .ok (.istore_n 1, 1) := by decide +kernel
theorem dX11_takeDraft_5 : decode cX11_takeDraft 5 = .ok (.aload_n 0, 1) := by decide +kernel
theorem dX11_takeDraft_6 : decode cX11_takeDraft 6 = .ok (.iconst 1, 1) := by decide +kernel
theorem dX11_takeDraft_7 : decode cX11_takeDraft 7 = .ok (.putfield 77, 3) := by decide +kernel
theorem dX11_takeDraft_10 : decode cX11_takeDraft 10 = .ok (.iload_n 1, 1) := by decide +kernel
theorem dX11_takeDraft_11 : decode cX11_takeDraft 11 = .ok (.ireturn, 1) := by decide +kernel
theorem dX11_forgetAnswers_0 : decode cX11_forgetAnswers 0 = .ok (.aload_n 0, 1) := by decide +kernel
theorem dX11_forgetAnswers_1 : decode cX11_forgetAnswers 1 = .ok (.iconst 0, 1) := by decide +kernel
theorem dX11_forgetAnswers_2 : decode cX11_forgetAnswers 2 = .ok (.putfield 375, 3) := by decide +kernel
theorem dX11_forgetAnswers_5 : decode cX11_forgetAnswers 5 = .ok (.aload_n 0, 1) := by decide +kernel
theorem dX11_forgetAnswers_6 : decode cX11_forgetAnswers 6 = .ok (.iconst (-1), 1) := by decide +kernel
theorem dX11_forgetAnswers_7 : decode cX11_forgetAnswers 7 = .ok (.putfield 81, 3) := by decide +kernel
theorem dX11_forgetAnswers_10 : decode cX11_forgetAnswers 10 = .ok (.return_, 1) := by decide +kernel
theorem dX11_checkEdit_0 : decode cX11_checkEdit 0 = .ok (.aload_n 0, 1) := by decide +kernel
theorem dX11_checkEdit_1 : decode cX11_checkEdit 1 = .ok (.getfield 49, 3) := by decide +kernel
theorem dX11_checkEdit_4 : decode cX11_checkEdit 4 = .ok (.invokevirtual 378, 3) := by decide +kernel
theorem dX11_checkEdit_7 : decode cX11_checkEdit 7 = .ok (.aload_n 0, 1) := by decide +kernel
theorem dX11_checkEdit_8 : decode cX11_checkEdit 8 = .ok (.invokevirtual 139, 3) := by decide +kernel
theorem dX11_checkEdit_11 : decode cX11_checkEdit 11 = .ok (.aload_n 0, 1) := by decide +kernel
theorem dX11_checkEdit_12 : decode cX11_checkEdit 12 = .ok (.getfield 49, 3) := by decide +kernel
theorem dX11_checkEdit_15 : decode cX11_checkEdit 15 = .ok (.aload_n 0, 1) := by decide +kernel
theorem dX11_checkEdit_16 : decode cX11_checkEdit 16 = .ok (.getfield 53, 3) := by decide +kernel
theorem dX11_checkEdit_19 : decode cX11_checkEdit 19 = .ok (.invokevirtual 381, 3) := by decide +kernel
theorem dX11_checkEdit_22 : decode cX11_checkEdit 22 = .ok (.ireturn, 1) := by decide +kernel
theorem dX11_proofread_0 : decode cX11_proofread 0 = .ok (.aload_n 0, 1) := by decide +kernel
theorem dX11_proofread_1 : decode cX11_proofread 1 = .ok (.getfield 375, 3) := by decide +kernel
theorem dX11_proofread_4 : decode cX11_proofread 4 = .ok (.ifCond .eq 4, 3) := by decide +kernel
theorem dX11_proofread_7 : decode cX11_proofread 7 = .ok (.return_, 1) := by decide +kernel
theorem dX11_proofread_8 : decode cX11_proofread 8 = .ok (.iconst 0, 1) := by decide +kernel
theorem dX11_proofread_9 : decode cX11_proofread 9 = .ok (.istore_n 1, 1) := by decide +kernel
theorem dX11_proofread_10 : decode cX11_proofread 10 = .ok (.iload_n 1, 1) := by decide +kernel
theorem dX11_proofread_11 : decode cX11_proofread 11 = .ok (.aload_n 0, 1) := by decide +kernel
theorem dX11_proofread_12 : decode cX11_proofread 12 = .ok (.getfield 49, 3) := by decide +kernel
theorem dX11_proofread_15 : decode cX11_proofread 15 = .ok (.invokevirtual 313, 3) := by decide +kernel
theorem dX11_proofread_18 : decode cX11_proofread 18 = .ok (.if_icmp .ge 32, 3) := by decide +kernel
theorem dX11_proofread_21 : decode cX11_proofread 21 = .ok (.aload_n 0, 1) := by decide +kernel
theorem dX11_proofread_22 : decode cX11_proofread 22 = .ok (.getfield 66, 3) := by decide +kernel
theorem dX11_proofread_25 : decode cX11_proofread 25 = .ok (.iload_n 1, 1) := by decide +kernel
theorem dX11_proofread_26 : decode cX11_proofread 26 = .ok (.aload_n 0, 1) := by decide +kernel
theorem dX11_proofread_27 : decode cX11_proofread 27 = .ok (.getfield 12, 3) := by decide +kernel
theorem dX11_proofread_30 : decode cX11_proofread 30 = .ok (.aload_n 0, 1) := by decide +kernel
theorem dX11_proofread_31 : decode cX11_proofread 31 = .ok (.getfield 49, 3) := by decide +kernel
theorem dX11_proofread_34 : decode cX11_proofread 34 = .ok (.iload_n 1, 1) := by decide +kernel
theorem dX11_proofread_35 : decode cX11_proofread 35 = .ok (.invokevirtual 219, 3) := by decide +kernel
theorem dX11_proofread_38 : decode cX11_proofread 38 = .ok (.invokevirtual 385, 3) := by decide +kernel
theorem dX11_proofread_41 : decode cX11_proofread 41 = .ok (.invokevirtual 388, 3) := by decide +kernel
theorem dX11_proofread_44 : decode cX11_proofread 44 = .ok (.iinc 1 1, 3) := by decide +kernel
theorem dX11_proofread_47 : decode cX11_proofread 47 = .ok (.goto (-37), 3) := by decide +kernel
theorem dX11_proofread_50 : decode cX11_proofread 50 = .ok (.aload_n 0, 1) := by decide +kernel
theorem dX11_proofread_51 : decode cX11_proofread 51 = .ok (.getfield 66, 3) := by decide +kernel
theorem dX11_proofread_54 : decode cX11_proofread 54 = .ok (.aload_n 0, 1) := by decide +kernel
theorem dX11_proofread_55 : decode cX11_proofread 55 = .ok (.getfield 49, 3) := by decide +kernel
theorem dX11_proofread_58 : decode cX11_proofread 58 = .ok (.aload_n 0, 1) := by decide +kernel
theorem dX11_proofread_59 : decode cX11_proofread 59 = .ok (.getfield 26, 3) := by decide +kernel
theorem dX11_proofread_62 : decode cX11_proofread 62 = .ok (.aload_n 0, 1) := by decide +kernel
theorem dX11_proofread_63 : decode cX11_proofread 63 = .ok (.getfield 33, 3) := by decide +kernel
theorem dX11_proofread_66 : decode cX11_proofread 66 = .ok (.invokevirtual 391, 3) := by decide +kernel
theorem dX11_proofread_69 : decode cX11_proofread 69 = .ok (.aload_n 0, 1) := by decide +kernel
theorem dX11_proofread_70 : decode cX11_proofread 70 = .ok (.iconst 1, 1) := by decide +kernel
theorem dX11_proofread_71 : decode cX11_proofread 71 = .ok (.putfield 375, 3) := by decide +kernel
theorem dX11_proofread_74 : decode cX11_proofread 74 = .ok (.return_, 1) := by decide +kernel
theorem dX11_listSuggestions_0 : decode cX11_listSuggestions 0 = .ok (.aload_n 0, 1) := by decide +kernel
theorem dX11_listSuggestions_1 : decode cX11_listSuggestions 1 = .ok (.getfield 81, 3) := by decide +kernel
theorem dX11_listSuggestions_4 : decode cX11_listSuggestions 4 = .ok (.iload_n 1, 1) := by decide +kernel
theorem dX11_listSuggestions_5 : decode cX11_listSuggestions 5 = .ok (.if_icmp .eq 28, 3) := by decide +kernel
theorem dX11_listSuggestions_8 : decode cX11_listSuggestions 8 = .ok (.aload_n 0, 1) := by decide +kernel
theorem dX11_listSuggestions_9 : decode cX11_listSuggestions 9 = .ok (.getfield 19, 3) := by decide +kernel
theorem dX11_listSuggestions_12 : decode cX11_listSuggestions 12 = .ok (.aload_n 0, 1) := by decide +kernel
theorem dX11_listSuggestions_13 : decode cX11_listSuggestions 13 = .ok (.getfield 49, 3) := by decide +kernel
theorem dX11_listSuggestions_16 : decode cX11_listSuggestions 16 = .ok (.iload_n 1, 1) := by decide +kernel
theorem dX11_listSuggestions_17 : decode cX11_listSuggestions 17 = .ok (.aload_n 0, 1) := by decide +kernel
theorem dX11_listSuggestions_18 : decode cX11_listSuggestions 18 = .ok (.getfield 12, 3) := by decide +kernel
theorem dX11_listSuggestions_21 : decode cX11_listSuggestions 21 = .ok (.invokevirtual 348, 3) := by decide +kernel
theorem dX11_listSuggestions_24 : decode cX11_listSuggestions 24 = .ok (.iconst 2, 1) := by decide +kernel
theorem dX11_listSuggestions_25 : decode cX11_listSuggestions 25 = .ok (.invokevirtual 352, 3) := by decide +kernel
theorem dX11_listSuggestions_28 : decode cX11_listSuggestions 28 = .ok (.aload_n 0, 1) := by decide +kernel
theorem dX11_listSuggestions_29 : decode cX11_listSuggestions 29 = .ok (.iload_n 1, 1) := by decide +kernel
theorem dX11_listSuggestions_30 : decode cX11_listSuggestions 30 = .ok (.putfield 81, 3) := by decide +kernel
theorem dX11_listSuggestions_33 : decode cX11_listSuggestions 33 = .ok (.return_, 1) := by decide +kernel
theorem dX11_hasWord_0 : decode cX11_hasWord 0 = .ok (.iload_n 1, 1) := by decide +kernel
theorem dX11_hasWord_1 : decode cX11_hasWord 1 = .ok (.iconst 0, 1) := by decide +kernel
theorem dX11_hasWord_2 : decode cX11_hasWord 2 = .ok (.aload_n 0, 1) := by decide +kernel
theorem dX11_hasWord_3 : decode cX11_hasWord 3 = .ok (.getfield 49, 3) := by decide +kernel
theorem dX11_hasWord_6 : decode cX11_hasWord 6 = .ok (.invokevirtual 313, 3) := by decide +kernel
theorem dX11_hasWord_9 : decode cX11_hasWord 9 = .ok (.iconst 1, 1) := by decide +kernel
theorem dX11_hasWord_10 : decode cX11_hasWord 10 = .ok (.isub, 1) := by decide +kernel
theorem dX11_hasWord_11 : decode cX11_hasWord 11 = .ok (.invokestatic 112, 3) := by decide +kernel
theorem dX11_hasWord_14 : decode cX11_hasWord 14 = .ok (.ireturn, 1) := by decide +kernel
theorem dX11_hasSuggestion_0 : decode cX11_hasSuggestion 0 = .ok (.aload_n 0, 1) := by decide +kernel
theorem dX11_hasSuggestion_1 : decode cX11_hasSuggestion 1 = .ok (.iload_n 1, 1) := by decide +kernel
theorem dX11_hasSuggestion_2 : decode cX11_hasSuggestion 2 = .ok (.invokevirtual 211, 3) := by decide +kernel
theorem dX11_hasSuggestion_5 : decode cX11_hasSuggestion 5 = .ok (.ifCond .ne 5, 3) := by decide +kernel
theorem dX11_hasSuggestion_8 : decode cX11_hasSuggestion 8 = .ok (.iconst 0, 1) := by decide +kernel
theorem dX11_hasSuggestion_9 : decode cX11_hasSuggestion 9 = .ok (.ireturn, 1) := by decide +kernel
theorem dX11_hasSuggestion_10 : decode cX11_hasSuggestion 10 = .ok (.aload_n 0, 1) := by decide +kernel
theorem dX11_hasSuggestion_11 : decode cX11_hasSuggestion 11 = .ok (.iload_n 1, 1) := by decide +kernel
theorem dX11_hasSuggestion_12 : decode cX11_hasSuggestion 12 = .ok (.invokevirtual 342, 3) := by decide +kernel
theorem dX11_hasSuggestion_15 : decode cX11_hasSuggestion 15 = .ok (.iload_n 2, 1) := by decide +kernel
theorem dX11_hasSuggestion_16 : decode cX11_hasSuggestion 16 = .ok (.iconst 0, 1) := by decide +kernel
theorem dX11_hasSuggestion_17 : decode cX11_hasSuggestion 17 = .ok (.aload_n 0, 1) := by decide +kernel
theorem dX11_hasSuggestion_18 : decode cX11_hasSuggestion 18 = .ok (.getfield 19, 3) := by decide +kernel
theorem dX11_hasSuggestion_21 : decode cX11_hasSuggestion 21 = .ok (.invokevirtual 345, 3) := by decide +kernel
theorem dX11_hasSuggestion_24 : decode cX11_hasSuggestion 24 = .ok (.iconst 1, 1) := by decide +kernel
theorem dX11_hasSuggestion_25 : decode cX11_hasSuggestion 25 = .ok (.isub, 1) := by decide +kernel
theorem dX11_hasSuggestion_26 : decode cX11_hasSuggestion 26 = .ok (.invokestatic 112, 3) := by decide +kernel
theorem dX11_hasSuggestion_29 : decode cX11_hasSuggestion 29 = .ok (.ireturn, 1) := by decide +kernel
theorem dX11_isRightPart_0 : decode cX11_isRightPart 0 = .ok (.aload_n 0, 1) := by decide +kernel
theorem dX11_isRightPart_1 : decode cX11_isRightPart 1 = .ok (.getfield 12, 3) := by decide +kernel
theorem dX11_isRightPart_4 : decode cX11_isRightPart 4 = .ok (.aload_n 0, 1) := by decide +kernel
theorem dX11_isRightPart_5 : decode cX11_isRightPart 5 = .ok (.getfield 49, 3) := by decide +kernel
theorem dX11_isRightPart_8 : decode cX11_isRightPart 8 = .ok (.iload_n 1, 1) := by decide +kernel
theorem dX11_isRightPart_9 : decode cX11_isRightPart 9 = .ok (.iload_n 2, 1) := by decide +kernel
theorem dX11_isRightPart_10 : decode cX11_isRightPart 10 = .ok (.iload_n 3, 1) := by decide +kernel
theorem dX11_isRightPart_11 : decode cX11_isRightPart 11 = .ok (.invokevirtual 395, 3) := by decide +kernel
theorem dX11_isRightPart_14 : decode cX11_isRightPart 14 = .ok (.invokevirtual 385, 3) := by decide +kernel
theorem dX11_isRightPart_17 : decode cX11_isRightPart 17 = .ok (.ifCond .eq 7, 3) := by decide +kernel
theorem dX11_isRightPart_20 : decode cX11_isRightPart 20 = .ok (.iconst 1, 1) := by decide +kernel
theorem dX11_isRightPart_21 : decode cX11_isRightPart 21 = .ok (.goto 4, 3) := by decide +kernel
theorem dX11_isRightPart_24 : decode cX11_isRightPart 24 = .ok (.iconst 0, 1) := by decide +kernel
theorem dX11_isRightPart_25 : decode cX11_isRightPart 25 = .ok (.ireturn, 1) := by decide +kernel
theorem dX11_changeOnce_0 : decode cX11_changeOnce 0 = .ok (.iconst 0, 1) := by decide +kernel
theorem dX11_changeOnce_1 : decode cX11_changeOnce 1 = .ok (.istore_n 1, 1) := by decide +kernel
theorem dX11_changeOnce_2 : decode cX11_changeOnce 2 = .ok (.iload_n 1, 1) := by decide +kernel
theorem dX11_changeOnce_3 : decode cX11_changeOnce 3 = .ok (.aload_n 0, 1) := by decide +kernel
theorem dX11_changeOnce_4 : decode cX11_changeOnce 4 = .ok (.getfield 49, 3) := by decide +kernel
theorem dX11_changeOnce_7 : decode cX11_changeOnce 7 = .ok (.invokevirtual 313, 3) := by decide +kernel
theorem dX11_changeOnce_10 : decode cX11_changeOnce 10 = .ok (.if_icmp .ge 49, 3) := by decide +kernel
theorem dX11_changeOnce_13 : decode cX11_changeOnce 13 = .ok (.aload_n 0, 1) := by decide +kernel
theorem dX11_changeOnce_14 : decode cX11_changeOnce 14 = .ok (.getfield 66, 3) := by decide +kernel
theorem dX11_changeOnce_17 : decode cX11_changeOnce 17 = .ok (.iload_n 1, 1) := by decide +kernel
theorem dX11_changeOnce_18 : decode cX11_changeOnce 18 = .ok (.invokevirtual 222, 3) := by decide +kernel
theorem dX11_changeOnce_21 : decode cX11_changeOnce 21 = .ok (.ifCond .ne 32, 3) := by decide +kernel
theorem dX11_changeOnce_24 : decode cX11_changeOnce 24 = .ok (.aload_n 0, 1) := by decide +kernel
theorem dX11_changeOnce_25 : decode cX11_changeOnce 25 = .ok (.iload_n 1, 1) := by decide +kernel
theorem dX11_changeOnce_26 : decode cX11_changeOnce 26 = .ok (.invokevirtual 342, 3) := by decide +kernel
theorem dX11_changeOnce_29 : decode cX11_changeOnce 29 = .ok (.aload_n 0, 1) := by decide +kernel
theorem dX11_changeOnce_30 : decode cX11_changeOnce 30 = .ok (.getfield 19, 3) := by decide +kernel
theorem dX11_changeOnce_33 : decode cX11_changeOnce 33 = .ok (.invokevirtual 345, 3) := by decide +kernel
theorem dX11_changeOnce_36 : decode cX11_changeOnce 36 = .ok (.ifCond .le 17, 3) := by decide +kernel
theorem dX11_changeOnce_39 : decode cX11_changeOnce 39 = .ok (.aload_n 0, 1) := by decide +kernel
theorem dX11_changeOnce_40 : decode cX11_changeOnce 40 = .ok (.iload_n 1, 1) := by decide +kernel
theorem dX11_changeOnce_41 : decode cX11_changeOnce 41 = .ok (.aload_n 0, 1) := by decide +kernel
theorem dX11_changeOnce_42 : decode cX11_changeOnce 42 = .ok (.getfield 19, 3) := by decide +kernel
theorem dX11_changeOnce_45 : decode cX11_changeOnce 45 = .ok (.iconst 0, 1) := by decide +kernel
theorem dX11_changeOnce_46 : decode cX11_changeOnce 46 = .ok (.invokevirtual 366, 3) := by decide +kernel
theorem dX11_changeOnce_49 : decode cX11_changeOnce 49 = .ok (.invokevirtual 398, 3) := by decide +kernel
theorem dX11_changeOnce_52 : decode cX11_changeOnce 52 = .ok (.ireturn, 1) := by decide +kernel
theorem dX11_changeOnce_53 : decode cX11_changeOnce 53 = .ok (.iinc 1 1, 3) := by decide +kernel
theorem dX11_changeOnce_56 : decode cX11_changeOnce 56 = .ok (.goto (-54), 3) := by decide +kernel
theorem dX11_changeOnce_59 : decode cX11_changeOnce 59 = .ok (.iconst 0, 1) := by decide +kernel
theorem dX11_changeOnce_60 : decode cX11_changeOnce 60 = .ok (.istore_n 1, 1) := by decide +kernel
theorem dX11_changeOnce_61 : decode cX11_changeOnce 61 = .ok (.iload_n 1, 1) := by decide +kernel
theorem dX11_changeOnce_62 : decode cX11_changeOnce 62 = .ok (.aload_n 0, 1) := by decide +kernel
theorem dX11_changeOnce_63 : decode cX11_changeOnce 63 = .ok (.getfield 49, 3) := by decide +kernel
theorem dX11_changeOnce_66 : decode cX11_changeOnce 66 = .ok (.invokevirtual 313, 3) := by decide +kernel
theorem dX11_changeOnce_69 : decode cX11_changeOnce 69 = .ok (.if_icmp .ge 44, 3) := by decide +kernel
theorem dX11_changeOnce_72 : decode cX11_changeOnce 72 = .ok (.aload_n 0, 1) := by decide +kernel
theorem dX11_changeOnce_73 : decode cX11_changeOnce 73 = .ok (.getfield 33, 3) := by decide +kernel
theorem dX11_changeOnce_76 : decode cX11_changeOnce 76 = .ok (.aload_n 0, 1) := by decide +kernel
theorem dX11_changeOnce_77 : decode cX11_changeOnce 77 = .ok (.getfield 66, 3) := by decide +kernel
theorem dX11_changeOnce_80 : decode cX11_changeOnce 80 = .ok (.iload_n 1, 1) := by decide +kernel
theorem dX11_changeOnce_81 : decode cX11_changeOnce 81 = .ok (.invokevirtual 401, 3) := by decide +kernel
theorem dX11_changeOnce_84 : decode cX11_changeOnce 84 = .ok (.invokestatic 404, 3) := by decide +kernel
theorem dX11_changeOnce_87 : decode cX11_changeOnce 87 = .ok (.astore_n 2, 1) := by decide +kernel
theorem dX11_changeOnce_88 : decode cX11_changeOnce 88 = .ok (.aload_n 2, 1) := by decide +kernel
theorem dX11_changeOnce_89 : decode cX11_changeOnce 89 = .ok (.ifnull 18, 3) := by decide +kernel
theorem dX11_changeOnce_92 : decode cX11_changeOnce 92 = .ok (.aload_n 0, 1) := by decide +kernel
theorem dX11_changeOnce_93 : decode cX11_changeOnce 93 = .ok (.iload_n 1, 1) := by decide +kernel
theorem dX11_changeOnce_94 : decode cX11_changeOnce 94 = .ok (.aload_n 2, 1) := by decide +kernel
theorem dX11_changeOnce_95 : decode cX11_changeOnce 95 = .ok (.getfield 408, 3) := by decide +kernel
theorem dX11_changeOnce_98 : decode cX11_changeOnce 98 = .ok (.iadd, 1) := by decide +kernel
theorem dX11_changeOnce_99 : decode cX11_changeOnce 99 = .ok (.aload_n 2, 1) := by decide +kernel
theorem dX11_changeOnce_100 : decode cX11_changeOnce 100 = .ok (.getfield 411, 3) := by decide +kernel
theorem dX11_changeOnce_103 : decode cX11_changeOnce 103 = .ok (.invokevirtual 398, 3) := by decide +kernel
theorem dX11_changeOnce_106 : decode cX11_changeOnce 106 = .ok (.ireturn, 1) := by decide +kernel
theorem dX11_changeOnce_107 : decode cX11_changeOnce 107 = .ok (.iinc 1 1, 3) := by decide +kernel
theorem dX11_changeOnce_110 : decode cX11_changeOnce 110 = .ok (.goto (-49), 3) := by decide +kernel
theorem dX11_changeOnce_113 : decode cX11_changeOnce 113 = .ok (.iconst 0, 1) := by decide +kernel
theorem dX11_changeOnce_114 : decode cX11_changeOnce 114 = .ok (.ireturn, 1) := by decide +kernel
theorem dX11_changeWord_0 : decode cX11_changeWord 0 = .ok (.aload_n 0, 1) := by decide +kernel
theorem dX11_changeWord_1 : decode cX11_changeWord 1 = .ok (.getfield 49, 3) := by decide +kernel
theorem dX11_changeWord_4 : decode cX11_changeWord 4 = .ok (.invokevirtual 271, 3) := by decide +kernel
theorem dX11_changeWord_7 : decode cX11_changeWord 7 = .ok (.aload_n 0, 1) := by decide +kernel
theorem dX11_changeWord_8 : decode cX11_changeWord 8 = .ok (.getfield 49, 3) := by decide +kernel
theorem dX11_changeWord_11 : decode cX11_changeWord 11 = .ok (.iload_n 1, 1) := by decide +kernel
theorem dX11_changeWord_12 : decode cX11_changeWord 12 = .ok (.invokevirtual 325, 3) := by decide +kernel
theorem dX11_changeWord_15 : decode cX11_changeWord 15 = .ok (.isub, 1) := by decide +kernel
theorem dX11_changeWord_16 : decode cX11_changeWord 16 = .ok (.iload_n 2, 1) := by decide +kernel
theorem dX11_changeWord_17 : decode cX11_changeWord 17 = .ok (.invokestatic 95, 3) := by decide +kernel
theorem dX11_changeWord_20 : decode cX11_changeWord 20 = .ok (.iadd, 1) := by decide +kernel
theorem dX11_changeWord_21 : decode cX11_changeWord 21 = .ok (.bipush 100, 2) := by decide +kernel
theorem dX11_changeWord_23 : decode cX11_changeWord 23 = .ok (.if_icmp .le 5, 3) := by decide +kernel
theorem dX11_changeWord_26 : decode cX11_changeWord 26 = .ok (.iconst 0, 1) := by decide +kernel
theorem dX11_changeWord_27 : decode cX11_changeWord 27 = .ok (.ireturn, 1) := by decide +kernel
theorem dX11_changeWord_28 : decode cX11_changeWord 28 = .ok (.aload_n 0, 1) := by decide +kernel
theorem dX11_changeWord_29 : decode cX11_changeWord 29 = .ok (.getfield 49, 3) := by decide +kernel
theorem dX11_changeWord_32 : decode cX11_changeWord 32 = .ok (.iload_n 1, 1) := by decide +kernel
theorem dX11_changeWord_33 : decode cX11_changeWord 33 = .ok (.iload_n 2, 1) := by decide +kernel
theorem dX11_changeWord_34 : decode cX11_changeWord 34 = .ok (.invokevirtual 414, 3) := by decide +kernel
theorem dX11_changeWord_37 : decode cX11_changeWord 37 = .ok (.aload_n 0, 1) := by decide +kernel
theorem dX11_changeWord_38 : decode cX11_changeWord 38 = .ok (.getfield 49, 3) := by decide +kernel
theorem dX11_changeWord_41 : decode cX11_changeWord 41 = .ok (.invokevirtual 378, 3) := by decide +kernel
theorem dX11_changeWord_44 : decode cX11_changeWord 44 = .ok (.aload_n 0, 1) := by decide +kernel
theorem dX11_changeWord_45 : decode cX11_changeWord 45 = .ok (.invokevirtual 139, 3) := by decide +kernel
theorem dX11_changeWord_48 : decode cX11_changeWord 48 = .ok (.iconst 1, 1) := by decide +kernel
theorem dX11_changeWord_49 : decode cX11_changeWord 49 = .ok (.ireturn, 1) := by decide +kernel
theorem dX11_styleNumbered_0 : decode cX11_styleNumbered 0 = .ok (.iload_n 1, 1) := by decide +kernel
theorem dX11_styleNumbered_1 : decode cX11_styleNumbered 1 = .ok (.iconst 0, 1) := by decide +kernel
theorem dX11_styleNumbered_2 : decode cX11_styleNumbered 2 = .ok (.aload_n 0, 1) := by decide +kernel
theorem dX11_styleNumbered_3 : decode cX11_styleNumbered 3 = .ok (.invokeinterface 255 1, 5) := by decide +kernel
theorem dX11_styleNumbered_8 : decode cX11_styleNumbered 8 = .ok (.iconst 1, 1) := by decide +kernel
theorem dX11_styleNumbered_9 : decode cX11_styleNumbered 9 = .ok (.isub, 1) := by decide +kernel
theorem dX11_styleNumbered_10 : decode cX11_styleNumbered 10 = .ok (.invokestatic 112, 3) := by decide +kernel
theorem dX11_styleNumbered_13 : decode cX11_styleNumbered 13 = .ok (.ifCond .eq 16, 3) := by decide +kernel
theorem dX11_styleNumbered_16 : decode cX11_styleNumbered 16 = .ok (.aload_n 0, 1) := by decide +kernel
theorem dX11_styleNumbered_17 : decode cX11_styleNumbered 17 = .ok (.iload_n 1, 1) := by decide +kernel
theorem dX11_styleNumbered_18 : decode cX11_styleNumbered 18 = .ok (.invokeinterface 417 2, 5) := by decide +kernel
theorem dX11_styleNumbered_23 : decode cX11_styleNumbered 23 = .ok (.checkcast 70, 3) := by decide +kernel
theorem dX11_styleNumbered_26 : decode cX11_styleNumbered 26 = .ok (.goto 4, 3) := by decide +kernel
theorem dX11_styleNumbered_29 : decode cX11_styleNumbered 29 = .ok (.aconst_null, 1) := by decide +kernel
theorem dX11_styleNumbered_30 : decode cX11_styleNumbered 30 = .ok (.areturn, 1) := by decide +kernel
theorem dX11_isIn_0 : decode cX11_isIn 0 = .ok (.iload_n 0, 1) := by decide +kernel
theorem dX11_isIn_1 : decode cX11_isIn 1 = .ok (.iload_n 1, 1) := by decide +kernel
theorem dX11_isIn_2 : decode cX11_isIn 2 = .ok (.if_icmp .lt 12, 3) := by decide +kernel
theorem dX11_isIn_5 : decode cX11_isIn 5 = .ok (.iload_n 0, 1) := by decide +kernel
theorem dX11_isIn_6 : decode cX11_isIn 6 = .ok (.iload_n 2, 1) := by decide +kernel
theorem dX11_isIn_7 : decode cX11_isIn 7 = .ok (.if_icmp .gt 7, 3) := by decide +kernel
theorem dX11_isIn_10 : decode cX11_isIn 10 = .ok (.iconst 1, 1) := by decide +kernel
theorem dX11_isIn_11 : decode cX11_isIn 11 = .ok (.goto 4, 3) := by decide +kernel
theorem dX11_isIn_14 : decode cX11_isIn 14 = .ok (.iconst 0, 1) := by decide +kernel
theorem dX11_isIn_15 : decode cX11_isIn 15 = .ok (.ireturn, 1) := by decide +kernel
theorem dX11_isLetter_0 : decode cX11_isLetter 0 = .ok (.iload_n 0, 1) := by decide +kernel
theorem dX11_isLetter_1 : decode cX11_isLetter 1 = .ok (.bipush 97, 2) := by decide +kernel
theorem dX11_isLetter_3 : decode cX11_isLetter 3 = .ok (.bipush 104, 2) := by decide +kernel
theorem dX11_isLetter_5 : decode cX11_isLetter 5 = .ok (.invokestatic 112, 3) := by decide +kernel
theorem dX11_isLetter_8 : decode cX11_isLetter 8 = .ok (.ireturn, 1) := by decide +kernel
theorem dX11_isSign_0 : decode cX11_isSign 0 = .ok (.iload_n 0, 1) := by decide +kernel
theorem dX11_isSign_1 : decode cX11_isSign 1 = .ok (.invokestatic 84, 3) := by decide +kernel
theorem dX11_isSign_4 : decode cX11_isSign 4 = .ok (.ifCond .ne 27, 3) := by decide +kernel
theorem dX11_isSign_7 : decode cX11_isSign 7 = .ok (.iload_n 0, 1) := by decide +kernel
theorem dX11_isSign_8 : decode cX11_isSign 8 = .ok (.bipush 32, 2) := by decide +kernel
theorem dX11_isSign_10 : decode cX11_isSign 10 = .ok (.if_icmp .eq 21, 3) := by decide +kernel
theorem dX11_isSign_13 : decode cX11_isSign 13 = .ok (.iload_n 0, 1) := by decide +kernel
theorem dX11_isSign_14 : decode cX11_isSign 14 = .ok (.bipush 46, 2) := by decide +kernel
theorem dX11_isSign_16 : decode cX11_isSign 16 = .ok (.if_icmp .eq 15, 3) := by decide +kernel
theorem dX11_isSign_19 : decode cX11_isSign 19 = .ok (.iload_n 0, 1) := by decide +kernel
theorem dX11_isSign_20 : decode cX11_isSign 20 = .ok (.bipush 60, 2) := by decide +kernel
theorem dX11_isSign_22 : decode cX11_isSign 22 = .ok (.if_icmp .eq 9, 3) := by decide +kernel
theorem dX11_isSign_25 : decode cX11_isSign 25 = .ok (.iload_n 0, 1) := by decide +kernel
theorem dX11_isSign_26 : decode cX11_isSign 26 = .ok (.bipush 62, 2) := by decide +kernel
theorem dX11_isSign_28 : decode cX11_isSign 28 = .ok (.if_icmp .ne 7, 3) := by decide +kernel
theorem dX11_isSign_31 : decode cX11_isSign 31 = .ok (.iconst 1, 1) := by decide +kernel
theorem dX11_isSign_32 : decode cX11_isSign 32 = .ok (.goto 4, 3) := by decide +kernel
theorem dX11_isSign_35 : decode cX11_isSign 35 = .ok (.iconst 0, 1) := by decide +kernel
theorem dX11_isSign_36 : decode cX11_isSign 36 = .ok (.ireturn, 1) := by decide +kernel
theorem dX11_isReading_0 : decode cX11_isReading 0 = .ok (.iload_n 0, 1) := by decide +kernel
theorem dX11_isReading_1 : decode cX11_isReading 1 = .ok (.iconst 0, 1) := by decide +kernel
theorem dX11_isReading_2 : decode cX11_isReading 2 = .ok (.iconst 3, 1) := by decide +kernel
theorem dX11_isReading_3 : decode cX11_isReading 3 = .ok (.invokestatic 112, 3) := by decide +kernel
theorem dX11_isReading_6 : decode cX11_isReading 6 = .ok (.ifCond .eq 16, 3) := by decide +kernel
theorem dX11_isReading_9 : decode cX11_isReading 9 = .ok (.iload_n 1, 1) := by decide +kernel
theorem dX11_isReading_10 : decode cX11_isReading 10 = .ok (.iconst 0, 1) := by decide +kernel
theorem dX11_isReading_11 : decode cX11_isReading 11 = .ok (.iconst 1, 1) := by decide +kernel
theorem dX11_isReading_12 : decode cX11_isReading 12 = .ok (.invokestatic 112, 3) := by decide +kernel
theorem dX11_isReading_15 : decode cX11_isReading 15 = .ok (.ifCond .eq 7, 3) := by decide +kernel
theorem dX11_isReading_18 : decode cX11_isReading 18 = .ok (.iconst 1, 1) := by decide +kernel
theorem dX11_isReading_19 : decode cX11_isReading 19 = .ok (.goto 4, 3) := by decide +kernel
theorem dX11_isReading_22 : decode cX11_isReading 22 = .ok (.iconst 0, 1) := by decide +kernel
theorem dX11_isReading_23 : decode cX11_isReading 23 = .ok (.ireturn, 1) := by decide +kernel
theorem dX11_readingOf_0 : decode cX11_readingOf 0 = .ok (.iconst 2, 1) := by decide +kernel
theorem dX11_readingOf_1 : decode cX11_readingOf 1 = .ok (.iload_n 0, 1) := by decide +kernel
theorem dX11_readingOf_2 : decode cX11_readingOf 2 = .ok (.imul, 1) := by decide +kernel
theorem dX11_readingOf_3 : decode cX11_readingOf 3 = .ok (.iload_n 1, 1) := by decide +kernel
theorem dX11_readingOf_4 : decode cX11_readingOf 4 = .ok (.iadd, 1) := by decide +kernel
theorem dX11_readingOf_5 : decode cX11_readingOf 5 = .ok (.ireturn, 1) := by decide +kernel
theorem dX11_sizeOf_0 : decode cX11_sizeOf 0 = .ok (.iconst 0, 1) := by decide +kernel
theorem dX11_sizeOf_1 : decode cX11_sizeOf 1 = .ok (.istore_n 1, 1) := by decide +kernel
theorem dX11_sizeOf_2 : decode cX11_sizeOf 2 = .ok (.iload_n 0, 1) := by decide +kernel
theorem dX11_sizeOf_3 : decode cX11_sizeOf 3 = .ok (.istore_n 2, 1) := by decide +kernel
theorem dX11_sizeOf_4 : decode cX11_sizeOf 4 = .ok (.iload_n 2, 1) := by decide +kernel
theorem dX11_sizeOf_5 : decode cX11_sizeOf 5 = .ok (.bipush 8, 2) := by decide +kernel
theorem dX11_sizeOf_7 : decode cX11_sizeOf 7 = .ok (.if_icmp .lt 19, 3) := by decide +kernel
theorem dX11_sizeOf_10 : decode cX11_sizeOf 10 = .ok (.iload_n 1, 1) := by decide +kernel
theorem dX11_sizeOf_11 : decode cX11_sizeOf 11 = .ok (.bipush 10, 2) := by decide +kernel
theorem dX11_sizeOf_13 : decode cX11_sizeOf 13 = .ok (.if_icmp .ge 13, 3) := by decide +kernel
theorem dX11_sizeOf_16 : decode cX11_sizeOf 16 = .ok (.iinc 1 1, 3) := by decide +kernel
theorem dX11_sizeOf_19 : decode cX11_sizeOf 19 = .ok (.iload_n 2, 1) := by decide +kernel
theorem dX11_sizeOf_20 : decode cX11_sizeOf 20 = .ok (.iconst 3, 1) := by decide +kernel
theorem dX11_sizeOf_21 : decode cX11_sizeOf 21 = .ok (.ishr, 1) := by decide +kernel
theorem dX11_sizeOf_22 : decode cX11_sizeOf 22 = .ok (.istore_n 2, 1) := by decide +kernel
theorem dX11_sizeOf_23 : decode cX11_sizeOf 23 = .ok (.goto (-19), 3) := by decide +kernel
theorem dX11_sizeOf_26 : decode cX11_sizeOf 26 = .ok (.iload_n 1, 1) := by decide +kernel
theorem dX11_sizeOf_27 : decode cX11_sizeOf 27 = .ok (.ireturn, 1) := by decide +kernel
theorem dX11_withLetter_0 : decode cX11_withLetter 0 = .ok (.iload_n 0, 1) := by decide +kernel
theorem dX11_withLetter_1 : decode cX11_withLetter 1 = .ok (.iconst 3, 1) := by decide +kernel
theorem dX11_withLetter_2 : decode cX11_withLetter 2 = .ok (.ishl, 1) := by decide +kernel
theorem dX11_withLetter_3 : decode cX11_withLetter 3 = .ok (.iload_n 1, 1) := by decide +kernel
theorem dX11_withLetter_4 : decode cX11_withLetter 4 = .ok (.ior, 1) := by decide +kernel
theorem dX11_withLetter_5 : decode cX11_withLetter 5 = .ok (.ireturn, 1) := by decide +kernel
theorem dX11_letterOf_0 : decode cX11_letterOf 0 = .ok (.iload_n 0, 1) := by decide +kernel
theorem dX11_letterOf_1 : decode cX11_letterOf 1 = .ok (.iconst 3, 1) := by decide +kernel
theorem dX11_letterOf_2 : decode cX11_letterOf 2 = .ok (.iload_n 0, 1) := by decide +kernel
theorem dX11_letterOf_3 : decode cX11_letterOf 3 = .ok (.invokestatic 95, 3) := by decide +kernel
theorem dX11_letterOf_6 : decode cX11_letterOf 6 = .ok (.iconst 1, 1) := by decide +kernel
theorem dX11_letterOf_7 : decode cX11_letterOf 7 = .ok (.isub, 1) := by decide +kernel
theorem dX11_letterOf_8 : decode cX11_letterOf 8 = .ok (.iload_n 1, 1) := by decide +kernel
theorem dX11_letterOf_9 : decode cX11_letterOf 9 = .ok (.isub, 1) := by decide +kernel
theorem dX11_letterOf_10 : decode cX11_letterOf 10 = .ok (.imul, 1) := by decide +kernel
theorem dX11_letterOf_11 : decode cX11_letterOf 11 = .ok (.ishr, 1) := by decide +kernel
theorem dX11_letterOf_12 : decode cX11_letterOf 12 = .ok (.bipush 7, 2) := by decide +kernel
theorem dX11_letterOf_14 : decode cX11_letterOf 14 = .ok (.iand, 1) := by decide +kernel
theorem dX11_letterOf_15 : decode cX11_letterOf 15 = .ok (.ireturn, 1) := by decide +kernel
theorem dX11_partOf_0 : decode cX11_partOf 0 = .ok (.iconst 1, 1) := by decide +kernel
theorem dX11_partOf_1 : decode cX11_partOf 1 = .ok (.iconst 3, 1) := by decide +kernel
theorem dX11_partOf_2 : decode cX11_partOf 2 = .ok (.iload_n 2, 1) := by decide +kernel
theorem dX11_partOf_3 : decode cX11_partOf 3 = .ok (.iload_n 1, 1) := by decide +kernel
theorem dX11_partOf_4 : decode cX11_partOf 4 = .ok (.isub, 1) := by decide +kernel
theorem dX11_partOf_5 : decode cX11_partOf 5 = .ok (.imul, 1) := by decide +kernel
theorem dX11_partOf_6 : decode cX11_partOf 6 = .ok (.ishl, 1) := by decide +kernel
theorem dX11_partOf_7 : decode cX11_partOf 7 = .ok (.istore_n 3, 1) := by decide +kernel
theorem dX11_partOf_8 : decode cX11_partOf 8 = .ok (.iload_n 0, 1) := by decide +kernel
theorem dX11_partOf_9 : decode cX11_partOf 9 = .ok (.iconst 3, 1) := by decide +kernel
theorem dX11_partOf_10 : decode cX11_partOf 10 = .ok (.iload_n 0, 1) := by decide +kernel
theorem dX11_partOf_11 : decode cX11_partOf 11 = .ok (.invokestatic 95, 3) := by decide +kernel
theorem dX11_partOf_14 : decode cX11_partOf 14 = .ok (.iload_n 2, 1) := by decide +kernel
theorem dX11_partOf_15 : decode cX11_partOf 15 = .ok (.isub, 1) := by decide +kernel
theorem dX11_partOf_16 : decode cX11_partOf 16 = .ok (.imul, 1) := by decide +kernel
theorem dX11_partOf_17 : decode cX11_partOf 17 = .ok (.ishr, 1) := by decide +kernel
theorem dX11_partOf_18 : decode cX11_partOf 18 = .ok (.istore 4, 2) := by decide +kernel
theorem dX11_partOf_20 : decode cX11_partOf 20 = .ok (.iload_n 3, 1) := by decide +kernel
theorem dX11_partOf_21 : decode cX11_partOf 21 = .ok (.iload 4, 2) := by decide +kernel
theorem dX11_partOf_23 : decode cX11_partOf 23 = .ok (.iload_n 3, 1) := by decide +kernel
theorem dX11_partOf_24 : decode cX11_partOf 24 = .ok (.iconst 1, 1) := by decide +kernel
theorem dX11_partOf_25 : decode cX11_partOf 25 = .ok (.isub, 1) := by decide +kernel
theorem dX11_partOf_26 : decode cX11_partOf 26 = .ok (.iand, 1) := by decide +kernel
theorem dX11_partOf_27 : decode cX11_partOf 27 = .ok (.ior, 1) := by decide +kernel
theorem dX11_partOf_28 : decode cX11_partOf 28 = .ok (.ireturn, 1) := by decide +kernel
theorem dX11_joined_0 : decode cX11_joined 0 = .ok (.iconst 1, 1) := by decide +kernel
theorem dX11_joined_1 : decode cX11_joined 1 = .ok (.iconst 3, 1) := by decide +kernel
theorem dX11_joined_2 : decode cX11_joined 2 = .ok (.iload_n 1, 1) := by decide +kernel
theorem dX11_joined_3 : decode cX11_joined 3 = .ok (.invokestatic 95, 3) := by decide +kernel
theorem dX11_joined_6 : decode cX11_joined 6 = .ok (.imul, 1) := by decide +kernel
theorem dX11_joined_7 : decode cX11_joined 7 = .ok (.ishl, 1) := by decide +kernel
theorem dX11_joined_8 : decode cX11_joined 8 = .ok (.istore_n 2, 1) := by decide +kernel
theorem dX11_joined_9 : decode cX11_joined 9 = .ok (.iload_n 0, 1) := by decide +kernel
theorem dX11_joined_10 : decode cX11_joined 10 = .ok (.iload_n 2, 1) := by decide +kernel
theorem dX11_joined_11 : decode cX11_joined 11 = .ok (.imul, 1) := by decide +kernel
theorem dX11_joined_12 : decode cX11_joined 12 = .ok (.iload_n 1, 1) := by decide +kernel
theorem dX11_joined_13 : decode cX11_joined 13 = .ok (.iload_n 2, 1) := by decide +kernel
theorem dX11_joined_14 : decode cX11_joined 14 = .ok (.iconst 1, 1) := by decide +kernel
theorem dX11_joined_15 : decode cX11_joined 15 = .ok (.isub, 1) := by decide +kernel
theorem dX11_joined_16 : decode cX11_joined 16 = .ok (.iand, 1) := by decide +kernel
theorem dX11_joined_17 : decode cX11_joined 17 = .ok (.ior, 1) := by decide +kernel
theorem dX11_joined_18 : decode cX11_joined 18 = .ok (.ireturn, 1) := by decide +kernel
theorem dX12_init_0 : decode cX12_init 0 = .ok (.aload_n 0, 1) := by decide +kernel
theorem dX12_init_1 : decode cX12_init 1 = .ok (.invokespecial 1, 3) := by decide +kernel
theorem dX12_init_4 : decode cX12_init 4 = .ok (.aload_n 0, 1) := by decide +kernel
theorem dX12_init_5 : decode cX12_init 5 = .ok (.bipush 12, 2) := by decide +kernel
theorem dX12_init_7 : decode cX12_init 7 = .ok (.newarray .long, 2) := by decide +kernel
theorem dX12_init_9 : decode cX12_init 9 = .ok (.putfield 7, 3) := by decide +kernel
theorem dX12_init_12 : decode cX12_init 12 = .ok (.aload_n 0, 1) := by decide +kernel
theorem dX12_init_13 : decode cX12_init 13 = .ok (.bipush 12, 2) := by decide +kernel
theorem dX12_init_15 : decode cX12_init 15 = .ok (.newarray .int, 2) := by decide +kernel
theorem dX12_init_17 : decode cX12_init 17 = .ok (.putfield 13, 3) := by decide +kernel
theorem dX12_init_20 : decode cX12_init 20 = .ok (.aload_n 0, 1) := by decide +kernel
theorem dX12_init_21 : decode cX12_init 21 = .ok (.bipush 12, 2) := by decide +kernel
theorem dX12_init_23 : decode cX12_init 23 = .ok (.newarray .int, 2) := by decide +kernel
theorem dX12_init_25 : decode cX12_init 25 = .ok (.putfield 17, 3) := by decide +kernel
theorem dX12_init_28 : decode cX12_init 28 = .ok (.aload_n 0, 1) := by decide +kernel
theorem dX12_init_29 : decode cX12_init 29 = .ok (.bipush 12, 2) := by decide +kernel
theorem dX12_init_31 : decode cX12_init 31 = .ok (.newarray .int, 2) := by decide +kernel
theorem dX12_init_33 : decode cX12_init 33 = .ok (.putfield 20, 3) := by decide +kernel
theorem dX12_init_36 : decode cX12_init 36 = .ok (.aload_n 0, 1) := by decide +kernel
theorem dX12_init_37 : decode cX12_init 37 = .ok (.bipush 12, 2) := by decide +kernel
theorem dX12_init_39 : decode cX12_init 39 = .ok (.newarray .int, 2) := by decide +kernel
theorem dX12_init_41 : decode cX12_init 41 = .ok (.putfield 23, 3) := by decide +kernel
theorem dX12_init_44 : decode cX12_init 44 = .ok (.aload_n 0, 1) := by decide +kernel
theorem dX12_init_45 : decode cX12_init 45 = .ok (.bipush 8, 2) := by decide +kernel
theorem dX12_init_47 : decode cX12_init 47 = .ok (.newarray .int, 2) := by decide +kernel
theorem dX12_init_49 : decode cX12_init 49 = .ok (.putfield 26, 3) := by decide +kernel
theorem dX12_init_52 : decode cX12_init 52 = .ok (.aload_n 0, 1) := by decide +kernel
theorem dX12_init_53 : decode cX12_init 53 = .ok (.bipush 8, 2) := by decide +kernel
theorem dX12_init_55 : decode cX12_init 55 = .ok (.newarray .int, 2) := by decide +kernel
theorem dX12_init_57 : decode cX12_init 57 = .ok (.putfield 29, 3) := by decide +kernel
theorem dX12_init_60 : decode cX12_init 60 = .ok (.aload_n 0, 1) := by decide +kernel
theorem dX12_init_61 : decode cX12_init 61 = .ok (.bipush 8, 2) := by decide +kernel
theorem dX12_init_63 : decode cX12_init 63 = .ok (.newarray .int, 2) := by decide +kernel
theorem dX12_init_65 : decode cX12_init 65 = .ok (.putfield 32, 3) := by decide +kernel
theorem dX12_init_68 : decode cX12_init 68 = .ok (.aload_n 0, 1) := by decide +kernel
theorem dX12_init_69 : decode cX12_init 69 = .ok (.bipush 8, 2) := by decide +kernel
theorem dX12_init_71 : decode cX12_init 71 = .ok (.newarray .long, 2) := by decide +kernel
theorem dX12_init_73 : decode cX12_init 73 = .ok (.putfield 35, 3) := by decide +kernel
theorem dX12_init_76 : decode cX12_init 76 = .ok (.aload_n 0, 1) := by decide +kernel
theorem dX12_init_77 : decode cX12_init 77 = .ok (.bipush 8, 2) := by decide +kernel
theorem dX12_init_79 : decode cX12_init 79 = .ok (.newarray .int, 2) := by decide +kernel
theorem dX12_init_81 : decode cX12_init 81 = .ok (.putfield 38, 3) := by decide +kernel
theorem dX12_init_84 : decode cX12_init 84 = .ok (.aload_n 0, 1) := by decide +kernel
theorem dX12_init_85 : decode cX12_init 85 = .ok (.bipush 8, 2) := by decide +kernel
theorem dX12_init_87 : decode cX12_init 87 = .ok (.newarray .int, 2) := by decide +kernel
theorem dX12_init_89 : decode cX12_init 89 = .ok (.putfield 41, 3) := by decide +kernel
theorem dX12_init_92 : decode cX12_init 92 = .ok (.aload_n 0, 1) := by decide +kernel
theorem dX12_init_93 : decode cX12_init 93 = .ok (.bipush 8, 2) := by decide +kernel
theorem dX12_init_95 : decode cX12_init 95 = .ok (.newarray .int, 2) := by decide +kernel
theorem dX12_init_97 : decode cX12_init 97 = .ok (.putfield 44, 3) := by decide +kernel
theorem dX12_init_100 : decode cX12_init 100 = .ok (.aload_n 0, 1) := by decide +kernel
theorem dX12_init_101 : decode cX12_init 101 = .ok (.bipush 8, 2) := by decide +kernel
theorem dX12_init_103 : decode cX12_init 103 = .ok (.newarray .int, 2) := by decide +kernel
theorem dX12_init_105 : decode cX12_init 105 = .ok (.putfield 47, 3) := by decide +kernel
theorem dX12_init_108 : decode cX12_init 108 = .ok (.aload_n 0, 1) := by decide +kernel
theorem dX12_init_109 : decode cX12_init 109 = .ok (.bipush 81, 2) := by decide +kernel
theorem dX12_init_111 : decode cX12_init 111 = .ok (.newarray .int, 2) := by decide +kernel
theorem dX12_init_113 : decode cX12_init 113 = .ok (.putfield 50, 3) := by decide +kernel
theorem dX12_init_116 : decode cX12_init 116 = .ok (.aload_n 0, 1) := by decide +kernel
theorem dX12_init_117 : decode cX12_init 117 = .ok (.bipush 10, 2) := by decide +kernel
theorem dX12_init_119 : decode cX12_init 119 = .ok (.newarray .long, 2) := by decide +kernel
theorem dX12_init_121 : decode cX12_init 121 = .ok (.putfield 53, 3) := by decide +kernel
theorem dX12_init_124 : decode cX12_init 124 = .ok (.aload_n 0, 1) := by decide +kernel
theorem dX12_init_125 : decode cX12_init 125 = .ok (.bipush 10, 2) := by decide +kernel
theorem dX12_init_127 : decode cX12_init 127 = .ok (.newarray .int, 2) := by decide +kernel
theorem dX12_init_129 : decode cX12_init 129 = .ok (.putfield 56, 3) := by decide +kernel
theorem dX12_init_132 : decode cX12_init 132 = .ok (.aload_n 0, 1) := by decide +kernel
theorem dX12_init_133 : decode cX12_init 133 = .ok (.bipush 10, 2) := by decide +kernel
theorem dX12_init_135 : decode cX12_init 135 = .ok (.newarray .long, 2) := by decide +kernel
theorem dX12_init_137 : decode cX12_init 137 = .ok (.putfield 59, 3) := by decide +kernel
theorem dX12_init_140 : decode cX12_init 140 = .ok (.aload_n 0, 1) := by decide +kernel
theorem dX12_init_141 : decode cX12_init 141 = .ok (.sipush 1024, 3) := by decide +kernel
theorem dX12_init_144 : decode cX12_init 144 = .ok (.newarray .long, 2) := by decide +kernel
theorem dX12_init_146 : decode cX12_init 146 = .ok (.putfield 62, 3) := by decide +kernel
theorem dX12_init_149 : decode cX12_init 149 = .ok (.aload_n 0, 1) := by decide +kernel
theorem dX12_init_150 : decode cX12_init 150 = .ok (.sipush 1024, 3) := by decide +kernel
theorem dX12_init_153 : decode cX12_init 153 = .ok (.newarray .int, 2) := by decide +kernel
theorem dX12_init_155 : decode cX12_init 155 = .ok (.putfield 65, 3) := by decide +kernel
theorem dX12_init_158 : decode cX12_init 158 = .ok (.aload_n 0, 1) := by decide +kernel
theorem dX12_init_159 : decode cX12_init 159 = .ok (.bipush 16, 2) := by decide +kernel
theorem dX12_init_161 : decode cX12_init 161 = .ok (.newarray .int, 2) := by decide +kernel
theorem dX12_init_163 : decode cX12_init 163 = .ok (.putfield 68, 3) := by decide +kernel
theorem dX12_init_166 : decode cX12_init 166 = .ok (.aload_n 0, 1) := by decide +kernel
theorem dX12_init_167 : decode cX12_init 167 = .ok (.bipush 27, 2) := by decide +kernel
theorem dX12_init_169 : decode cX12_init 169 = .ok (.newarray .int, 2) := by decide +kernel
theorem dX12_init_171 : decode cX12_init 171 = .ok (.putfield 71, 3) := by decide +kernel
theorem dX12_init_174 : decode cX12_init 174 = .ok (.aload_n 0, 1) := by decide +kernel
theorem dX12_init_175 : decode cX12_init 175 = .ok (.bipush 27, 2) := by decide +kernel
theorem dX12_init_177 : decode cX12_init 177 = .ok (.newarray .long, 2) := by decide +kernel
theorem dX12_init_179 : decode cX12_init 179 = .ok (.putfield 74, 3) := by decide +kernel
theorem dX12_init_182 : decode cX12_init 182 = .ok (.aload_n 0, 1) := by decide +kernel
theorem dX12_init_183 : decode cX12_init 183 = .ok (.bipush 9, 2) := by decide +kernel
theorem dX12_init_185 : decode cX12_init 185 = .ok (.newarray .int, 2) := by decide +kernel
theorem dX12_init_187 : decode cX12_init 187 = .ok (.putfield 77, 3) := by decide +kernel
theorem dX12_init_190 : decode cX12_init 190 = .ok (.aload_n 0, 1) := by decide +kernel
theorem dX12_init_191 : decode cX12_init 191 = .ok (.bipush 9, 2) := by decide +kernel
theorem dX12_init_193 : decode cX12_init 193 = .ok (.newarray .int, 2) := by decide +kernel
theorem dX12_init_195 : decode cX12_init 195 = .ok (.putfield 80, 3) := by decide +kernel
theorem dX12_init_198 : decode cX12_init 198 = .ok (.aload_n 0, 1) := by decide +kernel
theorem dX12_init_199 : decode cX12_init 199 = .ok (.bipush 9, 2) := by decide +kernel
theorem dX12_init_201 : decode cX12_init 201 = .ok (.newarray .long, 2) := by decide +kernel
theorem dX12_init_203 : decode cX12_init 203 = .ok (.putfield 83, 3) := by decide +kernel
theorem dX12_init_206 : decode cX12_init 206 = .ok (.aload_n 0, 1) := by decide +kernel
theorem dX12_init_207 : decode cX12_init 207 = .ok (.bipush 100, 2) := by decide +kernel
theorem dX12_init_209 : decode cX12_init 209 = .ok (.newarray .int, 2) := by decide +kernel
theorem dX12_init_211 : decode cX12_init 211 = .ok (.putfield 86, 3) := by decide +kernel
theorem dX12_init_214 : decode cX12_init 214 = .ok (.aload_n 0, 1) := by decide +kernel
theorem dX12_init_215 : decode cX12_init 215 = .ok (.sipush 16384, 3) := by decide +kernel
theorem dX12_init_218 : decode cX12_init 218 = .ok (.newarray .long, 2) := by decide +kernel
theorem dX12_init_220 : decode cX12_init 220 = .ok (.putfield 89, 3) := by decide +kernel
theorem dX12_init_223 : decode cX12_init 223 = .ok (.aload_n 0, 1) := by decide +kernel
theorem dX12_init_224 : decode cX12_init 224 = .ok (.sipush 16384, 3) := by decide +kernel
theorem dX12_init_227 : decode cX12_init 227 = .ok (.newarray .int, 2) := by decide +kernel
theorem dX12_init_229 : decode cX12_init 229 = .ok (.putfield 92, 3) := by decide +kernel
theorem dX12_init_232 : decode cX12_init 232 = .ok (.aload_n 0, 1) := by decide +kernel
theorem dX12_init_233 : decode cX12_init 233 = .ok (.sipush 16384, 3) := by decide +kernel
theorem dX12_init_236 : decode cX12_init 236 = .ok (.newarray .int, 2) := by decide +kernel
theorem dX12_init_238 : decode cX12_init 238 = .ok (.putfield 95, 3) := by decide +kernel
theorem dX12_init_241 : decode cX12_init 241 = .ok (.aload_n 0, 1) := by decide +kernel
theorem dX12_init_242 : decode cX12_init 242 = .ok (.sipush 16384, 3) := by decide +kernel
theorem dX12_init_245 : decode cX12_init 245 = .ok (.newarray .int, 2) := by decide +kernel
theorem dX12_init_247 : decode cX12_init 247 = .ok (.putfield 98, 3) := by decide +kernel
theorem dX12_init_250 : decode cX12_init 250 = .ok (.aload_n 0, 1) := by decide +kernel
theorem dX12_init_251 : decode cX12_init 251 = .ok (.bipush 101, 2) := by decide +kernel
theorem dX12_init_253 : decode cX12_init 253 = .ok (.newarray .int, 2) := by decide +kernel
theorem dX12_init_255 : decode cX12_init 255 = .ok (.putfield 101, 3) := by decide +kernel
theorem dX12_init_258 : decode cX12_init 258 = .ok (.aload_n 0, 1) := by decide +kernel
theorem dX12_init_259 : decode cX12_init 259 = .ok (.bipush 101, 2) := by decide +kernel
theorem dX12_init_261 : decode cX12_init 261 = .ok (.newarray .int, 2) := by decide +kernel
theorem dX12_init_263 : decode cX12_init 263 = .ok (.putfield 104, 3) := by decide +kernel
theorem dX12_init_266 : decode cX12_init 266 = .ok (.aload_n 0, 1) := by decide +kernel
theorem dX12_init_267 : decode cX12_init 267 = .ok (.bipush 101, 2) := by decide +kernel
theorem dX12_init_269 : decode cX12_init 269 = .ok (.newarray .int, 2) := by decide +kernel
theorem dX12_init_271 : decode cX12_init 271 = .ok (.putfield 107, 3) := by decide +kernel
theorem dX12_init_274 : decode cX12_init 274 = .ok (.aload_n 0, 1) := by decide +kernel
theorem dX12_init_275 : decode cX12_init 275 = .ok (.bipush 101, 2) := by decide +kernel
theorem dX12_init_277 : decode cX12_init 277 = .ok (.newarray .long, 2) := by decide +kernel
theorem dX12_init_279 : decode cX12_init 279 = .ok (.putfield 110, 3) := by decide +kernel
theorem dX12_init_282 : decode cX12_init 282 = .ok (.aload_n 0, 1) := by decide +kernel
theorem dX12_init_283 : decode cX12_init 283 = .ok (.bipush 101, 2) := by decide +kernel
theorem dX12_init_285 : decode cX12_init 285 = .ok (.newarray .int, 2) := by decide +kernel
theorem dX12_init_287 : decode cX12_init 287 = .ok (.putfield 113, 3) := by decide +kernel
theorem dX12_init_290 : decode cX12_init 290 = .ok (.aload_n 0, 1) := by decide +kernel
theorem dX12_init_291 : decode cX12_init 291 = .ok (.bipush 101, 2) := by decide +kernel
theorem dX12_init_293 : decode cX12_init 293 = .ok (.newarray .int, 2) := by decide +kernel
theorem dX12_init_295 : decode cX12_init 295 = .ok (.putfield 116, 3) := by decide +kernel
theorem dX12_init_298 : decode cX12_init 298 = .ok (.aload_n 0, 1) := by decide +kernel
theorem dX12_init_299 : decode cX12_init 299 = .ok (.bipush 101, 2) := by decide +kernel
theorem dX12_init_301 : decode cX12_init 301 = .ok (.newarray .int, 2) := by decide +kernel
theorem dX12_init_303 : decode cX12_init 303 = .ok (.putfield 119, 3) := by decide +kernel
theorem dX12_init_306 : decode cX12_init 306 = .ok (.aload_n 0, 1) := by decide +kernel
theorem dX12_init_307 : decode cX12_init 307 = .ok (.bipush 101, 2) := by decide +kernel
theorem dX12_init_309 : decode cX12_init 309 = .ok (.newarray .int, 2) := by decide +kernel
theorem dX12_init_311 : decode cX12_init 311 = .ok (.putfield 122, 3) := by decide +kernel
theorem dX12_init_314 : decode cX12_init 314 = .ok (.aload_n 0, 1) := by decide +kernel
theorem dX12_init_315 : decode cX12_init 315 = .ok (.sipush 808, 3) := by decide +kernel
theorem dX12_init_318 : decode cX12_init 318 = .ok (.newarray .int, 2) := by decide +kernel
theorem dX12_init_320 : decode cX12_init 320 = .ok (.putfield 125, 3) := by decide +kernel
theorem dX12_init_323 : decode cX12_init 323 = .ok (.aload_n 0, 1) := by decide +kernel
theorem dX12_init_324 : decode cX12_init 324 = .ok (.sipush 169, 3) := by decide +kernel
theorem dX12_init_327 : decode cX12_init 327 = .ok (.newarray .int, 2) := by decide +kernel
theorem dX12_init_329 : decode cX12_init 329 = .ok (.putfield 128, 3) := by decide +kernel
theorem dX12_init_332 : decode cX12_init 332 = .ok (.aload_n 0, 1) := by decide +kernel
theorem dX12_init_333 : decode cX12_init 333 = .ok (.bipush 13, 2) := by decide +kernel
theorem dX12_init_335 : decode cX12_init 335 = .ok (.newarray .int, 2) := by decide +kernel
theorem dX12_init_337 : decode cX12_init 337 = .ok (.putfield 131, 3) := by decide +kernel
theorem dX12_init_340 : decode cX12_init 340 = .ok (.aload_n 0, 1) := by decide +kernel
theorem dX12_init_341 : decode cX12_init 341 = .ok (.sipush 8200, 3) := by decide +kernel
theorem dX12_init_344 : decode cX12_init 344 = .ok (.newarray .long, 2) := by decide +kernel
theorem dX12_init_346 : decode cX12_init 346 = .ok (.putfield 134, 3) := by decide +kernel
theorem dX12_init_349 : decode cX12_init 349 = .ok (.aload_n 0, 1) := by decide +kernel
theorem dX12_init_350 : decode cX12_init 350 = .ok (.sipush 8200, 3) := by decide +kernel
theorem dX12_init_353 : decode cX12_init 353 = .ok (.newarray .int, 2) := by decide +kernel
theorem dX12_init_355 : decode cX12_init 355 = .ok (.putfield 137, 3) := by decide +kernel
theorem dX12_init_358 : decode cX12_init 358 = .ok (.aload_n 0, 1) := by decide +kernel
theorem dX12_init_359 : decode cX12_init 359 = .ok (.bipush 100, 2) := by decide +kernel
theorem dX12_init_361 : decode cX12_init 361 = .ok (.newarray .int, 2) := by decide +kernel
theorem dX12_init_363 : decode cX12_init 363 = .ok (.putfield 140, 3) := by decide +kernel
theorem dX12_init_366 : decode cX12_init 366 = .ok (.aload_n 0, 1) := by decide +kernel
theorem dX12_init_367 : decode cX12_init 367 = .ok (.sipush 2121, 3) := by decide +kernel
theorem dX12_init_370 : decode cX12_init 370 = .ok (.newarray .int, 2) := by decide +kernel
theorem dX12_init_372 : decode cX12_init 372 = .ok (.putfield 143, 3) := by decide +kernel
theorem dX12_init_375 : decode cX12_init 375 = .ok (.return_, 1) := by decide +kernel
theorem dX12_thrown_0 : decode cX12_thrown 0 = .ok (.aload_n 0, 1) := by decide +kernel
theorem dX12_thrown_1 : decode cX12_thrown 1 = .ok (.getfield 146, 3) := by decide +kernel
theorem dX12_thrown_4 : decode cX12_thrown 4 = .ok (.ireturn, 1) := by decide +kernel
theorem dX12_in_0 : decode cX12_in 0 = .ok (.iload_n 0, 1) := by decide +kernel
theorem dX12_in_1 : decode cX12_in 1 = .ok (.iload_n 1, 1) := by decide +kernel
theorem dX12_in_2 : decode cX12_in 2 = .ok (.if_icmp .lt 12, 3) := by decide +kernel
theorem dX12_in_5 : decode cX12_in 5 = .ok (.iload_n 0, 1) := by decide +kernel
theorem dX12_in_6 : decode cX12_in 6 = .ok (.iload_n 2, 1) := by decide +kernel
theorem dX12_in_7 : decode cX12_in 7 = .ok (.if_icmp .gt 7, 3) := by decide +kernel
theorem dX12_in_10 : decode cX12_in 10 = .ok (.iconst 1, 1) := by decide +kernel
theorem dX12_in_11 : decode cX12_in 11 = .ok (.goto 4, 3) := by decide +kernel
theorem dX12_in_14 : decode cX12_in 14 = .ok (.iconst 0, 1) := by decide +kernel
theorem dX12_in_15 : decode cX12_in 15 = .ok (.ireturn, 1) := by decide +kernel
theorem dX12_lengthOf_0 : decode cX12_lengthOf 0 = .ok (.iconst 0, 1) := by decide +kernel
theorem dX12_lengthOf_1 : decode cX12_lengthOf 1 = .ok (.istore_n 2, 1) := by decide +kernel
theorem dX12_lengthOf_2 : decode cX12_lengthOf 2 = .ok (.lload_n 0, 1) := by decide +kernel
theorem dX12_lengthOf_3 : decode cX12_lengthOf 3 = .ok (.lstore_n 3, 1) := by decide +kernel
theorem dX12_lengthOf_4 : decode cX12_lengthOf 4 = .ok (.lload_n 3, 1) := by decide +kernel
theorem dX12_lengthOf_5 : decode cX12_lengthOf 5 = .ok (.lconst 0, 1) := by decide +kernel
theorem dX12_lengthOf_6 : decode cX12_lengthOf 6 = .ok (.lcmp, 1) := by decide +kernel
theorem dX12_lengthOf_7 : decode cX12_lengthOf 7 = .ok (.ifCond .le 13, 3) := by decide +kernel
theorem dX12_lengthOf_10 : decode cX12_lengthOf 10 = .ok (.iinc 2 1, 3) := by decide +kernel
theorem dX12_lengthOf_13 : decode cX12_lengthOf 13 = .ok (.lload_n 3, 1) := by decide +kernel
theorem dX12_lengthOf_14 : decode cX12_lengthOf 14 = .ok (.iconst 4, 1) := by decide +kernel
theorem dX12_lengthOf_15 : decode cX12_lengthOf 15 = .ok (.lshr, 1) := by decide +kernel
theorem dX12_lengthOf_16 : decode cX12_lengthOf 16 = .ok (.lstore_n 3, 1) := by decide +kernel
theorem dX12_lengthOf_17 : decode cX12_lengthOf 17 = .ok (.goto (-13), 3) := by decide +kernel
theorem dX12_lengthOf_20 : decode cX12_lengthOf 20 = .ok (.iload_n 2, 1) := by decide +kernel
theorem dX12_lengthOf_21 : decode cX12_lengthOf 21 = .ok (.ireturn, 1) := by decide +kernel
theorem dX12_lastOf_0 : decode cX12_lastOf 0 = .ok (.lload_n 0, 1) := by decide +kernel
theorem dX12_lastOf_1 : decode cX12_lastOf 1 = .ok (.ldc2_w 150, 3) := by decide +kernel
theorem dX12_lastOf_4 : decode cX12_lastOf 4 = .ok (.land, 1) := by decide +kernel
theorem dX12_lastOf_5 : decode cX12_lastOf 5 = .ok (.l2i, 1) := by decide +kernel
theorem dX12_lastOf_6 : decode cX12_lastOf 6 = .ok (.ireturn, 1) := by decide +kernel
theorem dX12_firstOf_0 : decode cX12_firstOf 0 = .ok (.lload_n 0, 1) := by decide +kernel
theorem dX12_firstOf_1 : decode cX12_firstOf 1 = .ok (.iconst 4, 1) := by decide +kernel
theorem dX12_firstOf_2 : decode cX12_firstOf 2 = .ok (.lload_n 0, 1) := by decide +kernel
theorem dX12_firstOf_3 : decode cX12_firstOf 3 = .ok (.invokestatic 152, 3) := by decide +kernel
theorem dX12_firstOf_6 : decode cX12_firstOf 6 = .ok (.iconst 1, 1) := by decide +kernel
theorem dX12_firstOf_7 : decode cX12_firstOf 7 = .ok (.isub, 1) := by decide +kernel
theorem dX12_firstOf_8 : decode cX12_firstOf 8 = .ok (.imul, 1) := by decide +kernel
theorem dX12_firstOf_9 : decode cX12_firstOf 9 = .ok (.lshr, 1) := by decide +kernel
theorem dX12_firstOf_10 : decode cX12_firstOf 10 = .ok (.l2i, 1) := by decide +kernel
theorem dX12_firstOf_11 : decode cX12_firstOf 11 = .ok (.ireturn, 1) := by decide +kernel
theorem dX12_both_0 : decode cX12_both 0 = .ok (.lload_n 0, 1) := by decide +kernel
theorem dX12_both_1 : decode cX12_both 1 = .ok (.iconst 4, 1) := by decide +kernel
theorem dX12_both_2 : decode cX12_both 2 = .ok (.lload_n 2, 1) := by decide +kernel
theorem dX12_both_3 : decode cX12_both 3 = .ok (.invokestatic 152, 3) := by decide +kernel
theorem dX12_both_6 : decode cX12_both 6 = .ok (.imul, 1) := by decide +kernel
theorem dX12_both_7 : decode cX12_both 7 = .ok (.lshl, 1) := by decide +kernel
theorem dX12_both_8 : decode cX12_both 8 = .ok (.lload_n 2, 1) := by decide +kernel
theorem dX12_both_9 : decode cX12_both 9 = .ok (.lor, 1) := by decide +kernel
theorem dX12_both_10 : decode cX12_both 10 = .ok (.lreturn, 1) := by decide +kernel
theorem dX12_part_0 : decode cX12_part 0 = .ok (.lload_n 0, 1) := by decide +kernel
theorem dX12_part_1 : decode cX12_part 1 = .ok (.iconst 4, 1) := by decide +kernel
theorem dX12_part_2 : decode cX12_part 2 = .ok (.lload_n 0, 1) := by decide +kernel
theorem dX12_part_3 : decode cX12_part 3 = .ok (.invokestatic 152, 3) := by decide +kernel
theorem dX12_part_6 : decode cX12_part 6 = .ok (.iload_n 3, 1) := by decide +kernel
theorem dX12_part_7 : decode cX12_part 7 = .ok (.isub, 1) := by decide +kernel
theorem dX12_part_8 : decode cX12_part 8 = .ok (.imul, 1) := by decide +kernel
theorem dX12_part_9 : decode cX12_part 9 = .ok (.lshr, 1) := by decide +kernel
theorem dX12_part_10 : decode cX12_part 10 = .ok (.lstore 4, 2) := by decide +kernel
theorem dX12_part_12 : decode cX12_part 12 = .ok (.lload 4, 2) := by decide +kernel
theorem dX12_part_14 : decode cX12_part 14 = .ok (.lconst 1, 1) := by decide +kernel
theorem dX12_part_15 : decode cX12_part 15 = .ok (.iconst 4, 1) := by decide +kernel
theorem dX12_part_16 : decode cX12_part 16 = .ok (.iload_n 3, 1) := by decide +kernel
theorem dX12_part_17 : decode cX12_part 17 = .ok (.iload_n 2, 1) := by decide +kernel
theorem dX12_part_18 : decode cX12_part 18 = .ok (.isub, 1) := by decide +kernel
theorem dX12_part_19 : decode cX12_part 19 = .ok (.imul, 1) := by decide +kernel
theorem dX12_part_20 : decode cX12_part 20 = .ok (.lshl, 1) := by decide +kernel
theorem dX12_part_21 : decode cX12_part 21 = .ok (.lconst 1, 1) := by decide +kernel
theorem dX12_part_22 : decode cX12_part 22 = .ok (.lsub, 1) := by decide +kernel
theorem dX12_part_23 : decode cX12_part 23 = .ok (.land, 1) := by decide +kernel
theorem dX12_part_24 : decode cX12_part 24 = .ok (.lreturn, 1) := by decide +kernel
theorem dX12_letter_0 : decode cX12_letter 0 = .ok (.aload_n 0, 1) := by decide +kernel
theorem dX12_letter_1 : decode cX12_letter 1 = .ok (.iload_n 1, 1) := by decide +kernel
theorem dX12_letter_2 : decode cX12_letter 2 = .ok (.bipush 97, 2) := by decide +kernel
theorem dX12_letter_4 : decode cX12_letter 4 = .ok (.bipush 104, 2) := by decide +kernel
theorem dX12_letter_6 : decode cX12_letter 6 = .ok (.invokestatic 156, 3) := by decide +kernel
theorem dX12_letter_9 : decode cX12_letter 9 = .ok (.ifCond .ne 7, 3) := by decide +kernel
theorem dX12_letter_12 : decode cX12_letter 12 = .ok (.iconst 1, 1) := by decide +kernel
theorem dX12_letter_13 : decode cX12_letter 13 = .ok (.goto 20, 3) := by decide +kernel
theorem dX12_letter_16 : decode cX12_letter 16 = .ok (.aload_n 0, 1) := by decide +kernel
theorem dX12_letter_17 : decode cX12_letter 17 = .ok (.getfield 160, 3) := by decide +kernel
theorem dX12_letter_20 : decode cX12_letter 20 = .ok (.invokestatic 152, 3) := by decide +kernel
theorem dX12_letter_23 : decode cX12_letter 23 = .ok (.bipush 10, 2) := by decide +kernel
theorem dX12_letter_25 : decode cX12_letter 25 = .ok (.if_icmp .ne 7, 3) := by decide +kernel
theorem dX12_letter_28 : decode cX12_letter 28 = .ok (.iconst 2, 1) := by decide +kernel
theorem dX12_letter_29 : decode cX12_letter 29 = .ok (.goto 4, 3) := by decide +kernel
theorem dX12_letter_32 : decode cX12_letter 32 = .ok (.iconst 0, 1) := by decide +kernel
theorem dX12_letter_33 : decode cX12_letter 33 = .ok (.putfield 146, 3) := by decide +kernel
theorem dX12_letter_36 : decode cX12_letter 36 = .ok (.aload_n 0, 1) := by decide +kernel
theorem dX12_letter_37 : decode cX12_letter 37 = .ok (.getfield 146, 3) := by decide +kernel
theorem dX12_letter_40 : decode cX12_letter 40 = .ok (.ifCond .le 5, 3) := by decide +kernel
theorem dX12_letter_43 : decode cX12_letter 43 = .ok (.iconst 0, 1) := by decide +kernel
theorem dX12_letter_44 : decode cX12_letter 44 = .ok (.ireturn, 1) := by decide +kernel
theorem dX12_letter_45 : decode cX12_letter 45 = .ok (.aload_n 0, 1) := by decide +kernel
theorem dX12_letter_46 : decode cX12_letter 46 = .ok (.aload_n 0, 1) := by decide +kernel
theorem dX12_letter_47 : decode cX12_letter 47 = .ok (.getfield 160, 3) := by decide +kernel
theorem dX12_letter_50 : decode cX12_letter 50 = .ok (.iconst 4, 1) := by decide +kernel
theorem dX12_letter_51 : decode cX12_letter 51 = .ok (.lshl, 1) := by decide +kernel
theorem dX12_letter_52 : decode cX12_letter 52 = .ok (.iload_n 1, 1) := by decide +kernel
theorem dX12_letter_53 : decode cX12_letter 53 = .ok (.bipush 97, 2) := by decide +kernel
theorem dX12_letter_55 : decode cX12_letter 55 = .ok (.isub, 1) := by decide +kernel
theorem dX12_letter_56 : decode cX12_letter 56 = .ok (.iconst 1, 1) := by decide +kernel
theorem dX12_letter_57 : decode cX12_letter 57 = .ok (.iadd, 1) := by decide +kernel
theorem dX12_letter_58 : decode cX12_letter 58 = .ok (.i2l, 1) := by decide +kernel
theorem dX12_letter_59 : decode cX12_letter 59 = .ok (.lor, 1) := by decide +kernel
theorem dX12_letter_60 : decode cX12_letter 60 = .ok (.putfield 160, 3) := by decide +kernel
theorem dX12_letter_63 : decode cX12_letter 63 = .ok (.aload_n 0, 1) := by decide +kernel
theorem dX12_letter_64 : decode cX12_letter 64 = .ok (.getfield 160, 3) := by decide +kernel
theorem dX12_letter_67 : decode cX12_letter 67 = .ok (.invokestatic 152, 3) := by decide +kernel
theorem dX12_letter_70 : decode cX12_letter 70 = .ok (.ireturn, 1) := by decide +kernel
theorem dX12_scrap_0 : decode cX12_scrap 0 = .ok (.aload_n 0, 1) := by decide +kernel
theorem dX12_scrap_1 : decode cX12_scrap 1 = .ok (.iconst 0, 1) := by decide +kernel
theorem dX12_scrap_2 : decode cX12_scrap 2 = .ok (.putfield 146, 3) := by decide +kernel
theorem dX12_scrap_5 : decode cX12_scrap 5 = .ok (.aload_n 0, 1) := by decide +kernel
theorem dX12_scrap_6 : decode cX12_scrap 6 = .ok (.getfield 160, 3) := by decide +kernel
theorem dX12_scrap_9 : decode cX12_scrap 9 = .ok (.invokestatic 152, 3) := by decide +kernel
theorem dX12_scrap_12 : decode cX12_scrap 12 = .ok (.istore_n 1, 1) := by decide +kernel
theorem dX12_scrap_13 : decode cX12_scrap 13 = .ok (.aload_n 0, 1) := by decide +kernel
theorem dX12_scrap_14 : decode cX12_scrap 14 = .ok (.lconst 0, 1) := by decide +kernel
theorem dX12_scrap_15 : decode cX12_scrap 15 = .ok (.putfield 160, 3) := by decide +kernel
theorem dX12_scrap_18 : decode cX12_scrap 18 = .ok (.iload_n 1, 1) := by decide +kernel
theorem dX12_scrap_19 : decode cX12_scrap 19 = .ok (.ireturn, 1) := by decide +kernel
theorem dX12_stem_0 : decode cX12_stem 0 = .ok (.aload_n 0, 1) := by decide +kernel
theorem dX12_stem_1 : decode cX12_stem 1 = .ok (.iload_n 1, 1) := by decide +kernel
theorem dX12_stem_2 : decode cX12_stem 2 = .ok (.iconst 0, 1) := by decide +kernel
theorem dX12_stem_3 : decode cX12_stem 3 = .ok (.bipush 63, 2) := by decide +kernel
theorem dX12_stem_5 : decode cX12_stem 5 = .ok (.invokestatic 156, 3) := by decide +kernel
theorem dX12_stem_8 : decode cX12_stem 8 = .ok (.ifCond .eq 32, 3) := by decide +kernel
theorem dX12_stem_11 : decode cX12_stem 11 = .ok (.iload_n 2, 1) := by decide +kernel
theorem dX12_stem_12 : decode cX12_stem 12 = .ok (.iconst 0, 1) := by decide +kernel
theorem dX12_stem_13 : decode cX12_stem 13 = .ok (.iconst 3, 1) := by decide +kernel
theorem dX12_stem_14 : decode cX12_stem 14 = .ok (.invokestatic 156, 3) := by decide +kernel
theorem dX12_stem_17 : decode cX12_stem 17 = .ok (.ifCond .eq 23, 3) := by decide +kernel
theorem dX12_stem_20 : decode cX12_stem 20 = .ok (.iload_n 3, 1) := by decide +kernel
theorem dX12_stem_21 : decode cX12_stem 21 = .ok (.iconst 0, 1) := by decide +kernel
theorem dX12_stem_22 : decode cX12_stem 22 = .ok (.iconst 1, 1) := by decide +kernel
theorem dX12_stem_23 : decode cX12_stem 23 = .ok (.invokestatic 156, 3) := by decide +kernel
theorem dX12_stem_26 : decode cX12_stem 26 = .ok (.ifCond .eq 14, 3) := by decide +kernel
theorem dX12_stem_29 : decode cX12_stem 29 = .ok (.iload 4, 2) := by decide +kernel
theorem dX12_stem_31 : decode cX12_stem 31 = .ok (.iconst 0, 1) := by decide +kernel
theorem dX12_stem_32 : decode cX12_stem 32 = .ok (.bipush 7, 2) := by decide +kernel
theorem dX12_stem_34 : decode cX12_stem 34 = .ok (.invokestatic 156, 3) := by decide +kernel
theorem dX12_stem_37 : decode cX12_stem 37 = .ok (.ifCond .ne 7, 3) := by decide +kernel
theorem dX12_stem_40 : decode cX12_stem 40 = .ok (.iconst 1, 1) := by decide +kernel
theorem dX12_stem_41 : decode cX12_stem 41 = .ok (.goto 26, 3) := by decide +kernel
theorem dX12_stem_44 : decode cX12_stem 44 = .ok (.aload_n 0, 1) := by decide +kernel
theorem dX12_stem_45 : decode cX12_stem 45 = .ok (.getfield 160, 3) := by decide +kernel
theorem dX12_stem_48 : decode cX12_stem 48 = .ok (.lconst 0, 1) := by decide +kernel
theorem dX12_stem_49 : decode cX12_stem 49 = .ok (.lcmp, 1) := by decide +kernel
theorem dX12_stem_50 : decode cX12_stem 50 = .ok (.ifCond .eq 12, 3) := by decide +kernel
theorem dX12_stem_53 : decode cX12_stem 53 = .ok (.aload_n 0, 1) := by decide +kernel
theorem dX12_stem_54 : decode cX12_stem 54 = .ok (.getfield 164, 3) := by decide +kernel
theorem dX12_stem_57 : decode cX12_stem 57 = .ok (.bipush 12, 2) := by decide +kernel
theorem dX12_stem_59 : decode cX12_stem 59 = .ok (.if_icmp .ne 7, 3) := by decide +kernel
theorem dX12_stem_62 : decode cX12_stem 62 = .ok (.iconst 2, 1) := by decide +kernel
theorem dX12_stem_63 : decode cX12_stem 63 = .ok (.goto 4, 3) := by decide +kernel
theorem dX12_stem_66 : decode cX12_stem 66 = .ok (.iconst 0, 1) := by decide +kernel
theorem dX12_stem_67 : decode cX12_stem 67 = .ok (.putfield 146, 3) := by decide +kernel
theorem dX12_stem_70 : decode cX12_stem 70 = .ok (.aload_n 0, 1) := by decide +kernel
theorem dX12_stem_71 : decode cX12_stem 71 = .ok (.getfield 146, 3) := by decide +kernel
theorem dX12_stem_74 : decode cX12_stem 74 = .ok (.ifCond .le 5, 3) := by decide +kernel
theorem dX12_stem_77 : decode cX12_stem 77 = .ok (.iconst 0, 1) := by decide +kernel
theorem dX12_stem_78 : decode cX12_stem 78 = .ok (.ireturn, 1) := by decide +kernel
theorem dX12_stem_79 : decode cX12_stem 79 = .ok (.aload_n 0, 1) := by decide +kernel
theorem dX12_stem_80 : decode cX12_stem 80 = .ok (.getfield 7, 3) := by decide +kernel
theorem dX12_stem_83 : decode cX12_stem 83 = .ok (.aload_n 0, 1) := by decide +kernel
theorem dX12_stem_84 : decode cX12_stem 84 = .ok (.getfield 164, 3) := by decide +kernel
theorem dX12_stem_87 : decode cX12_stem 87 = .ok (.aload_n 0, 1) := by decide +kernel
theorem dX12_stem_88 : decode cX12_stem 88 = .ok (.getfield 160, 3) := by decide +kernel
theorem dX12_stem_91 : decode cX12_stem 91 = .ok (.lastore, 1) := by decide +kernel
theorem dX12_stem_92 : decode cX12_stem 92 = .ok (.aload_n 0, 1) := by decide +kernel
theorem dX12_stem_93 : decode cX12_stem 93 = .ok (.getfield 13, 3) := by decide +kernel
theorem dX12_stem_96 : decode cX12_stem 96 = .ok (.aload_n 0, 1) := by decide +kernel
theorem dX12_stem_97 : decode cX12_stem 97 = .ok (.getfield 164, 3) := by decide +kernel
theorem dX12_stem_100 : decode cX12_stem 100 = .ok (.iload_n 1, 1) := by decide +kernel
theorem dX12_stem_101 : decode cX12_stem 101 = .ok (.iastore, 1) := by decide +kernel
theorem dX12_stem_102 : decode cX12_stem 102 = .ok (.aload_n 0, 1) := by decide +kernel
theorem dX12_stem_103 : decode cX12_stem 103 = .ok (.getfield 17, 3) := by decide +kernel
theorem dX12_stem_106 : decode cX12_stem 106 = .ok (.aload_n 0, 1) := by decide +kernel
theorem dX12_stem_107 : decode cX12_stem 107 = .ok (.getfield 164, 3) := by decide +kernel
theorem dX12_stem_110 : decode cX12_stem 110 = .ok (.iload_n 2, 1) := by decide +kernel
theorem dX12_stem_111 : decode cX12_stem 111 = .ok (.iastore, 1) := by decide +kernel
theorem dX12_stem_112 : decode cX12_stem 112 = .ok (.aload_n 0, 1) := by decide +kernel
theorem dX12_stem_113 : decode cX12_stem 113 = .ok (.getfield 20, 3) := by decide +kernel
theorem dX12_stem_116 : decode cX12_stem 116 = .ok (.aload_n 0, 1) := by decide +kernel
theorem dX12_stem_117 : decode cX12_stem 117 = .ok (.getfield 164, 3) := by decide +kernel
theorem dX12_stem_120 : decode cX12_stem 120 = .ok (.iload_n 3, 1) := by decide +kernel
theorem dX12_stem_121 : decode cX12_stem 121 = .ok (.iastore, 1) := by decide +kernel
theorem dX12_stem_122 : decode cX12_stem 122 = .ok (.aload_n 0, 1) := by decide +kernel
theorem dX12_stem_123 : decode cX12_stem 123 = .ok (.getfield 23, 3) := by decide +kernel
theorem dX12_stem_126 : decode cX12_stem 126 = .ok (.aload_n 0, 1) := by decide +kernel
theorem dX12_stem_127 : decode cX12_stem 127 = .ok (.getfield 164, 3) := by decide +kernel
theorem dX12_stem_130 : decode cX12_stem 130 = .ok (.iload 4, 2) := by decide +kernel
theorem dX12_stem_132 : decode cX12_stem 132 = .ok (.iastore, 1) := by decide +kernel
theorem dX12_stem_133 : decode cX12_stem 133 = .ok (.aload_n 0, 1) := by decide +kernel
theorem dX12_stem_134 : decode cX12_stem 134 = .ok (.dup, 1) := by decide +kernel
theorem dX12_stem_135 : decode cX12_stem 135 = .ok (.getfield 164, 3) := by decide +kernel
theorem dX12_stem_138 : decode cX12_stem 138 = .ok (.iconst 1, 1) := by decide +kernel
theorem dX12_stem_139 : decode cX12_stem 139 = .ok (.iadd, 1) := by decide +kernel
theorem dX12_stem_140 : decode cX12_stem 140 = .ok (.putfield 164, 3) := by decide +kernel
theorem dX12_stem_143 : decode cX12_stem 143 = .ok (.aload_n 0, 1) := by decide +kernel
theorem dX12_stem_144 : decode cX12_stem 144 = .ok (.lconst 0, 1) := by decide +kernel
theorem dX12_stem_145 : decode cX12_stem 145 = .ok (.putfield 160, 3) := by decide +kernel
theorem dX12_stem_148 : decode cX12_stem 148 = .ok (.aload_n 0, 1) := by decide +kernel
theorem dX12_stem_149 : decode cX12_stem 149 = .ok (.iconst 0, 1) := by decide +kernel
theorem dX12_stem_150 : decode cX12_stem 150 = .ok (.putfield 167, 3) := by decide +kernel
theorem dX12_stem_153 : decode cX12_stem 153 = .ok (.aload_n 0, 1) := by decide +kernel
theorem dX12_stem_154 : decode cX12_stem 154 = .ok (.getfield 164, 3) := by decide +kernel
theorem dX12_stem_157 : decode cX12_stem 157 = .ok (.iconst 1, 1) := by decide +kernel
theorem dX12_stem_158 : decode cX12_stem 158 = .ok (.isub, 1) := by decide +kernel
theorem dX12_stem_159 : decode cX12_stem 159 = .ok (.ireturn, 1) := by decide +kernel
theorem dX12_rule_0 : decode cX12_rule 0 = .ok (.iload_n 1, 1) := by decide +kernel
theorem dX12_rule_1 : decode cX12_rule 1 = .ok (.iconst 0, 1) := by decide +kernel
theorem dX12_rule_2 : decode cX12_rule 2 = .ok (.iconst 5, 1) := by decide +kernel
theorem dX12_rule_3 : decode cX12_rule 3 = .ok (.invokestatic 156, 3) := by decide +kernel
theorem dX12_rule_6 : decode cX12_rule 6 = .ok (.ifCond .eq 55, 3) := by decide +kernel
theorem dX12_rule_9 : decode cX12_rule 9 = .ok (.iload_n 3, 1) := by decide +kernel
theorem dX12_rule_10 : decode cX12_rule 10 = .ok (.iconst 0, 1) := by decide +kernel
theorem dX12_rule_11 : decode cX12_rule 11 = .ok (.iconst 2, 1) := by decide +kernel
theorem dX12_rule_12 : decode cX12_rule 12 = .ok (.invokestatic 156, 3) := by decide +kernel
theorem dX12_rule_15 : decode cX12_rule 15 = .ok (.ifCond .eq 46, 3) := by decide +kernel
theorem dX12_rule_18 : decode cX12_rule 18 = .ok (.iload 4, 2) := by decide +kernel
theorem dX12_rule_20 : decode cX12_rule 20 = .ok (.bipush 32, 2) := by decide +kernel
theorem dX12_rule_22 : decode cX12_rule 22 = .ok (.if_icmp .eq 15, 3) := by decide +kernel
theorem dX12_rule_25 : decode cX12_rule 25 = .ok (.iload 4, 2) := by decide +kernel
theorem dX12_rule_27 : decode cX12_rule 27 = .ok (.bipush 97, 2) := by decide +kernel
theorem dX12_rule_29 : decode cX12_rule 29 = .ok (.bipush 104, 2) := by decide +kernel
theorem dX12_rule_31 : decode cX12_rule 31 = .ok (.invokestatic 156, 3) := by decide +kernel
theorem dX12_rule_34 : decode cX12_rule 34 = .ok (.ifCond .eq 27, 3) := by decide +kernel
theorem dX12_rule_37 : decode cX12_rule 37 = .ok (.iload 5, 2) := by decide +kernel
theorem dX12_rule_39 : decode cX12_rule 39 = .ok (.iconst (-1), 1) := by decide +kernel
theorem dX12_rule_40 : decode cX12_rule 40 = .ok (.iconst 3, 1) := by decide +kernel
theorem dX12_rule_41 : decode cX12_rule 41 = .ok (.invokestatic 156, 3) := by decide +kernel
theorem dX12_rule_44 : decode cX12_rule 44 = .ok (.ifCond .eq 17, 3) := by decide +kernel
theorem dX12_rule_47 : decode cX12_rule 47 = .ok (.iload 6, 2) := by decide +kernel
theorem dX12_rule_49 : decode cX12_rule 49 = .ok (.iconst (-1), 1) := by decide +kernel
theorem dX12_rule_50 : decode cX12_rule 50 = .ok (.iconst 1, 1) := by decide +kernel
theorem dX12_rule_51 : decode cX12_rule 51 = .ok (.invokestatic 156, 3) := by decide +kernel
theorem dX12_rule_54 : decode cX12_rule 54 = .ok (.ifCond .eq 7, 3) := by decide +kernel
theorem dX12_rule_57 : decode cX12_rule 57 = .ok (.iconst 1, 1) := by decide +kernel
theorem dX12_rule_58 : decode cX12_rule 58 = .ok (.goto 4, 3) := by decide +kernel
theorem dX12_rule_61 : decode cX12_rule 61 = .ok (.iconst 0, 1) := by decide +kernel
theorem dX12_rule_62 : decode cX12_rule 62 = .ok (.istore 7, 2) := by decide +kernel
theorem dX12_rule_64 : decode cX12_rule 64 = .ok (.aload_n 0, 1) := by decide +kernel
theorem dX12_rule_65 : decode cX12_rule 65 = .ok (.iload 7, 2) := by decide +kernel
theorem dX12_rule_67 : decode cX12_rule 67 = .ok (.ifCond .ne 7, 3) := by decide +kernel
theorem dX12_rule_70 : decode cX12_rule 70 = .ok (.iconst 1, 1) := by decide +kernel
theorem dX12_rule_71 : decode cX12_rule 71 = .ok (.goto 41, 3) := by decide +kernel
theorem dX12_rule_74 : decode cX12_rule 74 = .ok (.aload_n 0, 1) := by decide +kernel
theorem dX12_rule_75 : decode cX12_rule 75 = .ok (.getfield 160, 3) := by decide +kernel
theorem dX12_rule_78 : decode cX12_rule 78 = .ok (.invokestatic 152, 3) := by decide +kernel
theorem dX12_rule_81 : decode cX12_rule 81 = .ok (.iconst 4, 1) := by decide +kernel
theorem dX12_rule_82 : decode cX12_rule 82 = .ok (.if_icmp .gt 25, 3) := by decide +kernel
theorem dX12_rule_85 : decode cX12_rule 85 = .ok (.aload_n 0, 1) := by decide +kernel
theorem dX12_rule_86 : decode cX12_rule 86 = .ok (.getfield 160, 3) := by decide +kernel
theorem dX12_rule_89 : decode cX12_rule 89 = .ok (.lconst 0, 1) := by decide +kernel
theorem dX12_rule_90 : decode cX12_rule 90 = .ok (.lcmp, 1) := by decide +kernel
theorem dX12_rule_91 : decode cX12_rule 91 = .ok (.ifCond .ne 7, 3) := by decide +kernel
theorem dX12_rule_94 : decode cX12_rule 94 = .ok (.iload_n 3, 1) := by decide +kernel
theorem dX12_rule_95 : decode cX12_rule 95 = .ok (.ifCond .eq 12, 3) := by decide +kernel
theorem dX12_rule_98 : decode cX12_rule 98 = .ok (.aload_n 0, 1) := by decide +kernel
theorem dX12_rule_99 : decode cX12_rule 99 = .ok (.getfield 171, 3) := by decide +kernel
theorem dX12_rule_102 : decode cX12_rule 102 = .ok (.bipush 8, 2) := by decide +kernel
theorem dX12_rule_104 : decode cX12_rule 104 = .ok (.if_icmp .ne 7, 3) := by decide +kernel
theorem dX12_rule_107 : decode cX12_rule 107 = .ok (.iconst 2, 1) := by decide +kernel
theorem dX12_rule_108 : decode cX12_rule 108 = .ok (.goto 4, 3) := by decide +kernel
theorem dX12_rule_111 : decode cX12_rule 111 = .ok (.iconst 0, 1) := by decide +kernel
theorem dX12_rule_112 : decode cX12_rule 112 = .ok (.putfield 146, 3) := by decide +kernel
theorem dX12_rule_115 : decode cX12_rule 115 = .ok (.aload_n 0, 1) := by decide +kernel
theorem dX12_rule_116 : decode cX12_rule 116 = .ok (.getfield 146, 3) := by decide +kernel
theorem dX12_rule_119 : decode cX12_rule 119 = .ok (.ifCond .le 5, 3) := by decide +kernel
theorem dX12_rule_122 : decode cX12_rule 122 = .ok (.iconst 0, 1) := by decide +kernel
theorem dX12_rule_123 : decode cX12_rule 123 = .ok (.ireturn, 1) := by decide +kernel
theorem dX12_rule_124 : decode cX12_rule 124 = .ok (.aload_n 0, 1) := by decide +kernel
theorem dX12_rule_125 : decode cX12_rule 125 = .ok (.getfield 26, 3) := by decide +kernel
theorem dX12_rule_128 : decode cX12_rule 128 = .ok (.aload_n 0, 1) := by decide +kernel
theorem dX12_rule_129 : decode cX12_rule 129 = .ok (.getfield 171, 3) := by decide +kernel
theorem dX12_rule_132 : decode cX12_rule 132 = .ok (.iload_n 1, 1) := by decide +kernel
theorem dX12_rule_133 : decode cX12_rule 133 = .ok (.iastore, 1) := by decide +kernel
theorem dX12_rule_134 : decode cX12_rule 134 = .ok (.aload_n 0, 1) := by decide +kernel
theorem dX12_rule_135 : decode cX12_rule 135 = .ok (.getfield 29, 3) := by decide +kernel
theorem dX12_rule_138 : decode cX12_rule 138 = .ok (.aload_n 0, 1) := by decide +kernel
theorem dX12_rule_139 : decode cX12_rule 139 = .ok (.getfield 171, 3) := by decide +kernel
theorem dX12_rule_142 : decode cX12_rule 142 = .ok (.iload_n 2, 1) := by decide +kernel
theorem dX12_rule_143 : decode cX12_rule 143 = .ok (.ifCond .eq 7, 3) := by decide +kernel
theorem dX12_rule_146 : decode cX12_rule 146 = .ok (.iconst 1, 1) := by decide +kernel
theorem dX12_rule_147 : decode cX12_rule 147 = .ok (.goto 4, 3) := by decide +kernel
theorem dX12_rule_150 : decode cX12_rule 150 = .ok (.iconst 0, 1) := by decide +kernel
theorem dX12_rule_151 : decode cX12_rule 151 = .ok (.iastore, 1) := by decide +kernel
theorem dX12_rule_152 : decode cX12_rule 152 = .ok (.aload_n 0, 1) := by decide +kernel
theorem dX12_rule_153 : decode cX12_rule 153 = .ok (.getfield 32, 3) := by decide +kernel
theorem dX12_rule_156 : decode cX12_rule 156 = .ok (.aload_n 0, 1) := by decide +kernel
theorem dX12_rule_157 : decode cX12_rule 157 = .ok (.getfield 171, 3) := by decide +kernel
theorem dX12_rule_160 : decode cX12_rule 160 = .ok (.iload_n 3, 1) := by decide +kernel
theorem dX12_rule_161 : decode cX12_rule 161 = .ok (.iastore, 1) := by decide +kernel
theorem dX12_rule_162 : decode cX12_rule 162 = .ok (.aload_n 0, 1) := by decide +kernel
theorem dX12_rule_163 : decode cX12_rule 163 = .ok (.getfield 35, 3) := by decide +kernel
theorem dX12_rule_166 : decode cX12_rule 166 = .ok (.aload_n 0, 1) := by decide +kernel
theorem dX12_rule_167 : decode cX12_rule 167 = .ok (.getfield 171, 3) := by decide +kernel
theorem dX12_rule_170 : decode cX12_rule 170 = .ok (.aload_n 0, 1) := by decide +kernel
theorem dX12_rule_171 : decode cX12_rule 171 = .ok (.getfield 160, 3) := by decide +kernel
theorem dX12_rule_174 : decode cX12_rule 174 = .ok (.lastore, 1) := by decide +kernel
theorem dX12_rule_175 : decode cX12_rule 175 = .ok (.aload_n 0, 1) := by decide +kernel
theorem dX12_rule_176 : decode cX12_rule 176 = .ok (.getfield 38, 3) := by decide +kernel
theorem dX12_rule_179 : decode cX12_rule 179 = .ok (.aload_n 0, 1) := by decide +kernel
theorem dX12_rule_180 : decode cX12_rule 180 = .ok (.getfield 171, 3) := by decide +kernel
theorem dX12_rule_183 : decode cX12_rule 183 = .ok (.iload 4, 2) := by decide +kernel
theorem dX12_rule_185 : decode cX12_rule 185 = .ok (.bipush 32, 2) := by decide +kernel
theorem dX12_rule_187 : decode cX12_rule 187 = .ok (.if_icmp .ne 7, 3) := by decide +kernel
theorem dX12_rule_190 : decode cX12_rule 190 = .ok (.iconst 0, 1) := by decide +kernel
theorem dX12_rule_191 : decode cX12_rule 191 = .ok (.goto 10, 3) := by decide +kernel
theorem dX12_rule_194 : decode cX12_rule 194 = .ok (.iload 4, 2) := by decide +kernel
theorem dX12_rule_196 : decode cX12_rule 196 = .ok (.bipush 97, 2) := by decide +kernel
theorem dX12_rule_198 : decode cX12_rule 198 = .ok (.isub, 1) := by decide +kernel
theorem dX12_rule_199 : decode cX12_rule 199 = .ok (.iconst 1, 1) := by decide +kernel
theorem dX12_rule_200 : decode cX12_rule 200 = .ok (.iadd, 1) := by decide +kernel
theorem dX12_rule_201 : decode cX12_rule 201 = .ok (.iastore, 1) := by decide +kernel
theorem dX12_rule_202 : decode cX12_rule 202 = .ok (.aload_n 0, 1) := by decide +kernel
theorem dX12_rule_203 : decode cX12_rule 203 = .ok (.getfield 41, 3) := by decide +kernel
theorem dX12_rule_206 : decode cX12_rule 206 = .ok (.aload_n 0, 1) := by decide +kernel
theorem dX12_rule_207 : decode cX12_rule 207 = .ok (.getfield 171, 3) := by decide +kernel
theorem dX12_rule_210 : decode cX12_rule 210 = .ok (.iload 5, 2) := by decide +kernel
theorem dX12_rule_212 : decode cX12_rule 212 = .ok (.iastore, 1) := by decide +kernel
theorem dX12_rule_213 : decode cX12_rule 213 = .ok (.aload_n 0, 1) := by decide +kernel
theorem dX12_rule_214 : decode cX12_rule 214 = .ok (.getfield 44, 3) := by decide +kernel
theorem dX12_rule_217 : decode cX12_rule 217 = .ok (.aload_n 0, 1) := by decide +kernel
theorem dX12_rule_218 : decode cX12_rule 218 = .ok (.getfield 171, 3) := by decide +kernel
theorem dX12_rule_221 : decode cX12_rule 221 = .ok (.iload 6, 2) := by decide +kernel
theorem dX12_rule_223 : decode cX12_rule 223 = .ok (.iastore, 1) := by decide +kernel
theorem dX12_rule_224 : decode cX12_rule 224 = .ok (.aload_n 0, 1) := by decide +kernel
theorem dX12_rule_225 : decode cX12_rule 225 = .ok (.dup, 1) := by decide +kernel
theorem dX12_rule_226 : decode cX12_rule 226 = .ok (.getfield 171, 3) := by decide +kernel
theorem dX12_rule_229 : decode cX12_rule 229 = .ok (.iconst 1, 1) := by decide +kernel
theorem dX12_rule_230 : decode cX12_rule 230 = .ok (.iadd, 1) := by decide +kernel
theorem dX12_rule_231 : decode cX12_rule 231 = .ok (.putfield 171, 3) := by decide +kernel
theorem dX12_rule_234 : decode cX12_rule 234 = .ok (.aload_n 0, 1) := by decide +kernel
theorem dX12_rule_235 : decode cX12_rule 235 = .ok (.lconst 0, 1) := by decide +kernel
theorem dX12_rule_236 : decode cX12_rule 236 = .ok (.putfield 160, 3) := by decide +kernel
theorem dX12_rule_239 : decode cX12_rule 239 = .ok (.aload_n 0, 1) := by decide +kernel
theorem dX12_rule_240 : decode cX12_rule 240 = .ok (.iconst 0, 1) := by decide +kernel
theorem dX12_rule_241 : decode cX12_rule 241 = .ok (.putfield 167, 3) := by decide +kernel
theorem dX12_rule_244 : decode cX12_rule 244 = .ok (.aload_n 0, 1) := by decide +kernel
theorem dX12_rule_245 : decode cX12_rule 245 = .ok (.getfield 171, 3) := by decide +kernel
theorem dX12_rule_248 : decode cX12_rule 248 = .ok (.iconst 1, 1) := by decide +kernel
theorem dX12_rule_249 : decode cX12_rule 249 = .ok (.isub, 1) := by decide +kernel
theorem dX12_rule_250 : decode cX12_rule 250 = .ok (.ireturn, 1) := by decide +kernel
theorem dX12_more_0 : decode cX12_more 0 = .ok (.aload_n 0, 1) := by decide +kernel
theorem dX12_more_1 : decode cX12_more 1 = .ok (.iload_n 1, 1) := by decide +kernel
theorem dX12_more_2 : decode cX12_more 2 = .ok (.iconst 0, 1) := by decide +kernel
theorem dX12_more_3 : decode cX12_more 3 = .ok (.aload_n 0, 1) := by decide +kernel
theorem dX12_more_4 : decode cX12_more 4 = .ok (.getfield 171, 3) := by decide +kernel
theorem dX12_more_7 : decode cX12_more 7 = .ok (.iconst 1, 1) := by decide +kernel
theorem dX12_more_8 : decode cX12_more 8 = .ok (.isub, 1) := by decide +kernel
theorem dX12_more_9 : decode cX12_more 9 = .ok (.invokestatic 156, 3) := by decide +kernel
theorem dX12_more_12 : decode cX12_more 12 = .ok (.ifCond .ne 7, 3) := by decide +kernel
theorem dX12_more_15 : decode cX12_more 15 = .ok (.iconst 1, 1) := by decide +kernel
theorem dX12_more_16 : decode cX12_more 16 = .ok (.goto 31, 3) := by decide +kernel
theorem dX12_more_19 : decode cX12_more 19 = .ok (.iload_n 2, 1) := by decide +kernel
theorem dX12_more_20 : decode cX12_more 20 = .ok (.iconst 0, 1) := by decide +kernel
theorem dX12_more_21 : decode cX12_more 21 = .ok (.bipush 63, 2) := by decide +kernel
theorem dX12_more_23 : decode cX12_more 23 = .ok (.invokestatic 156, 3) := by decide +kernel
theorem dX12_more_26 : decode cX12_more 26 = .ok (.ifCond .ne 7, 3) := by decide +kernel
theorem dX12_more_29 : decode cX12_more 29 = .ok (.iconst 2, 1) := by decide +kernel
theorem dX12_more_30 : decode cX12_more 30 = .ok (.goto 17, 3) := by decide +kernel
theorem dX12_more_33 : decode cX12_more 33 = .ok (.aload_n 0, 1) := by decide +kernel
theorem dX12_more_34 : decode cX12_more 34 = .ok (.getfield 29, 3) := by decide +kernel
theorem dX12_more_37 : decode cX12_more 37 = .ok (.iload_n 1, 1) := by decide +kernel
theorem dX12_more_38 : decode cX12_more 38 = .ok (.iaload, 1) := by decide +kernel
theorem dX12_more_39 : decode cX12_more 39 = .ok (.ifCond .ne 7, 3) := by decide +kernel
theorem dX12_more_42 : decode cX12_more 42 = .ok (.iconst 3, 1) := by decide +kernel
theorem dX12_more_43 : decode cX12_more 43 = .ok (.goto 4, 3) := by decide +kernel
theorem dX12_more_46 : decode cX12_more 46 = .ok (.iconst 0, 1) := by decide +kernel
theorem dX12_more_47 : decode cX12_more 47 = .ok (.putfield 146, 3) := by decide +kernel
theorem dX12_more_50 : decode cX12_more 50 = .ok (.aload_n 0, 1) := by decide +kernel
theorem dX12_more_51 : decode cX12_more 51 = .ok (.getfield 146, 3) := by decide +kernel
theorem dX12_more_54 : decode cX12_more 54 = .ok (.ifCond .le 5, 3) := by decide +kernel
theorem dX12_more_57 : decode cX12_more 57 = .ok (.iconst 0, 1) := by decide +kernel
theorem dX12_more_58 : decode cX12_more 58 = .ok (.ireturn, 1) := by decide +kernel
theorem dX12_more_59 : decode cX12_more 59 = .ok (.aload_n 0, 1) := by decide +kernel
theorem dX12_more_60 : decode cX12_more 60 = .ok (.getfield 47, 3) := by decide +kernel
theorem dX12_more_63 : decode cX12_more 63 = .ok (.iload_n 1, 1) := by decide +kernel
theorem dX12_more_64 : decode cX12_more 64 = .ok (.iaload, 1) := by decide +kernel
theorem dX12_more_65 : decode cX12_more 65 = .ok (.istore_n 3, 1) := by decide +kernel
theorem dX12_more_66 : decode cX12_more 66 = .ok (.aload_n 0, 1) := by decide +kernel
theorem dX12_more_67 : decode cX12_more 67 = .ok (.getfield 47, 3) := by decide +kernel
theorem dX12_more_70 : decode cX12_more 70 = .ok (.iload_n 1, 1) := by decide +kernel
theorem dX12_more_71 : decode cX12_more 71 = .ok (.iload_n 2, 1) := by decide +kernel
theorem dX12_more_72 : decode cX12_more 72 = .ok (.iastore, 1) := by decide +kernel
theorem dX12_more_73 : decode cX12_more 73 = .ok (.aload_n 0, 1) := by decide +kernel
theorem dX12_more_74 : decode cX12_more 74 = .ok (.iconst 0, 1) := by decide +kernel
theorem dX12_more_75 : decode cX12_more 75 = .ok (.putfield 167, 3) := by decide +kernel
theorem dX12_more_78 : decode cX12_more 78 = .ok (.iload_n 3, 1) := by decide +kernel
theorem dX12_more_79 : decode cX12_more 79 = .ok (.ireturn, 1) := by decide +kernel
theorem dX12_sound_0 : decode cX12_sound 0 = .ok (.aload_n 0, 1) := by decide +kernel
theorem dX12_sound_1 : decode cX12_sound 1 = .ok (.iload_n 1, 1) := by decide +kernel
theorem dX12_sound_2 : decode cX12_sound 2 = .ok (.bipush 97, 2) := by decide +kernel
theorem dX12_sound_4 : decode cX12_sound 4 = .ok (.bipush 104, 2) := by decide +kernel
theorem dX12_sound_6 : decode cX12_sound 6 = .ok (.invokestatic 156, 3) := by decide +kernel
theorem dX12_sound_9 : decode cX12_sound 9 = .ok (.ifCond .eq 19, 3) := by decide +kernel
theorem dX12_sound_12 : decode cX12_sound 12 = .ok (.iload_n 2, 1) := by decide +kernel
theorem dX12_sound_13 : decode cX12_sound 13 = .ok (.bipush 97, 2) := by decide +kernel
theorem dX12_sound_15 : decode cX12_sound 15 = .ok (.bipush 104, 2) := by decide +kernel
theorem dX12_sound_17 : decode cX12_sound 17 = .ok (.invokestatic 156, 3) := by decide +kernel
theorem dX12_sound_20 : decode cX12_sound 20 = .ok (.ifCond .eq 8, 3) := by decide +kernel
theorem dX12_sound_23 : decode cX12_sound 23 = .ok (.iload_n 1, 1) := by decide +kernel
theorem dX12_sound_24 : decode cX12_sound 24 = .ok (.iload_n 2, 1) := by decide +kernel
theorem dX12_sound_25 : decode cX12_sound 25 = .ok (.if_icmp .ne 7, 3) := by decide +kernel
theorem dX12_sound_28 : decode cX12_sound 28 = .ok (.iconst 1, 1) := by decide +kernel
theorem dX12_sound_29 : decode cX12_sound 29 = .ok (.goto 4, 3) := by decide +kernel
theorem dX12_sound_32 : decode cX12_sound 32 = .ok (.iconst 0, 1) := by decide +kernel
theorem dX12_sound_33 : decode cX12_sound 33 = .ok (.putfield 146, 3) := by decide +kernel
theorem dX12_sound_36 : decode cX12_sound 36 = .ok (.aload_n 0, 1) := by decide +kernel
theorem dX12_sound_37 : decode cX12_sound 37 = .ok (.getfield 146, 3) := by decide +kernel
theorem dX12_sound_40 : decode cX12_sound 40 = .ok (.ifCond .le 5, 3) := by decide +kernel
theorem dX12_sound_43 : decode cX12_sound 43 = .ok (.iconst 0, 1) := by decide +kernel
theorem dX12_sound_44 : decode cX12_sound 44 = .ok (.ireturn, 1) := by decide +kernel
theorem dX12_sound_45 : decode cX12_sound 45 = .ok (.iload_n 1, 1) := by decide +kernel
theorem dX12_sound_46 : decode cX12_sound 46 = .ok (.bipush 97, 2) := by decide +kernel
theorem dX12_sound_48 : decode cX12_sound 48 = .ok (.isub, 1) := by decide +kernel
theorem dX12_sound_49 : decode cX12_sound 49 = .ok (.iconst 1, 1) := by decide +kernel
theorem dX12_sound_50 : decode cX12_sound 50 = .ok (.iadd, 1) := by decide +kernel
theorem dX12_sound_51 : decode cX12_sound 51 = .ok (.istore_n 3, 1) := by decide +kernel
theorem dX12_sound_52 : decode cX12_sound 52 = .ok (.iload_n 2, 1) := by decide +kernel
theorem dX12_sound_53 : decode cX12_sound 53 = .ok (.bipush 97, 2) := by decide +kernel
theorem dX12_sound_55 : decode cX12_sound 55 = .ok (.isub, 1) := by decide +kernel
theorem dX12_sound_56 : decode cX12_sound 56 = .ok (.iconst 1, 1) := by decide +kernel
theorem dX12_sound_57 : decode cX12_sound 57 = .ok (.iadd, 1) := by decide +kernel
theorem dX12_sound_58 : decode cX12_sound 58 = .ok (.istore 4, 2) := by decide +kernel
theorem dX12_sound_60 : decode cX12_sound 60 = .ok (.aload_n 0, 1) := by decide +kernel
theorem dX12_sound_61 : decode cX12_sound 61 = .ok (.getfield 50, 3) := by decide +kernel
theorem dX12_sound_64 : decode cX12_sound 64 = .ok (.bipush 9, 2) := by decide +kernel
theorem dX12_sound_66 : decode cX12_sound 66 = .ok (.iload_n 3, 1) := by decide +kernel
theorem dX12_sound_67 : decode cX12_sound 67 = .ok (.imul, 1) := by decide +kernel
theorem dX12_sound_68 : decode cX12_sound 68 = .ok (.iload 4, 2) := by decide +kernel
theorem dX12_sound_70 : decode cX12_sound 70 = .ok (.iadd, 1) := by decide +kernel
theorem dX12_sound_71 : decode cX12_sound 71 = .ok (.iaload, 1) := by decide +kernel
theorem dX12_sound_72 : decode cX12_sound 72 = .ok (.ifCond .ne 7, 3) := by decide +kernel
theorem dX12_sound_75 : decode cX12_sound 75 = .ok (.iconst 1, 1) := by decide +kernel
theorem dX12_sound_76 : decode cX12_sound 76 = .ok (.goto 4, 3) := by decide +kernel
theorem dX12_sound_79 : decode cX12_sound 79 = .ok (.iconst 0, 1) := by decide +kernel
theorem dX12_sound_80 : decode cX12_sound 80 = .ok (.istore 5, 2) := by decide +kernel
theorem dX12_sound_82 : decode cX12_sound 82 = .ok (.aload_n 0, 1) := by decide +kernel
theorem dX12_sound_83 : decode cX12_sound 83 = .ok (.getfield 50, 3) := by decide +kernel
theorem dX12_sound_86 : decode cX12_sound 86 = .ok (.bipush 9, 2) := by decide +kernel
theorem dX12_sound_88 : decode cX12_sound 88 = .ok (.iload_n 3, 1) := by decide +kernel
theorem dX12_sound_89 : decode cX12_sound 89 = .ok (.imul, 1) := by decide +kernel
theorem dX12_sound_90 : decode cX12_sound 90 = .ok (.iload 4, 2) := by decide +kernel
theorem dX12_sound_92 : decode cX12_sound 92 = .ok (.iadd, 1) := by decide +kernel
theorem dX12_sound_93 : decode cX12_sound 93 = .ok (.iconst 1, 1) := by decide +kernel
theorem dX12_sound_94 : decode cX12_sound 94 = .ok (.iastore, 1) := by decide +kernel
theorem dX12_sound_95 : decode cX12_sound 95 = .ok (.aload_n 0, 1) := by decide +kernel
theorem dX12_sound_96 : decode cX12_sound 96 = .ok (.getfield 50, 3) := by decide +kernel
theorem dX12_sound_99 : decode cX12_sound 99 = .ok (.bipush 9, 2) := by decide +kernel
theorem dX12_sound_101 : decode cX12_sound 101 = .ok (.iload 4, 2) := by decide +kernel
theorem dX12_sound_103 : decode cX12_sound 103 = .ok (.imul, 1) := by decide +kernel
theorem dX12_sound_104 : decode cX12_sound 104 = .ok (.iload_n 3, 1) := by decide +kernel
theorem dX12_sound_105 : decode cX12_sound 105 = .ok (.iadd, 1) := by decide +kernel
theorem dX12_sound_106 : decode cX12_sound 106 = .ok (.iconst 1, 1) := by decide +kernel
theorem dX12_sound_107 : decode cX12_sound 107 = .ok (.iastore, 1) := by decide +kernel
theorem dX12_sound_108 : decode cX12_sound 108 = .ok (.iload 5, 2) := by decide +kernel
theorem dX12_sound_110 : decode cX12_sound 110 = .ok (.ireturn, 1) := by decide +kernel
theorem dX12_uses_0 : decode cX12_uses 0 = .ok (.lload_n 1, 1) := by decide +kernel
theorem dX12_uses_1 : decode cX12_uses 1 = .ok (.invokestatic 152, 3) := by decide +kernel
theorem dX12_uses_4 : decode cX12_uses 4 = .ok (.istore 4, 2) := by decide +kernel
theorem dX12_uses_6 : decode cX12_uses 6 = .ok (.iload 4, 2) := by decide +kernel
theorem dX12_uses_8 : decode cX12_uses 8 = .ok (.aload_n 0, 1) := by decide +kernel
theorem dX12_uses_9 : decode cX12_uses 9 = .ok (.getfield 32, 3) := by decide +kernel
theorem dX12_uses_12 : decode cX12_uses 12 = .ok (.iload_n 3, 1) := by decide +kernel
theorem dX12_uses_13 : decode cX12_uses 13 = .ok (.iaload, 1) := by decide +kernel
theorem dX12_uses_14 : decode cX12_uses 14 = .ok (.isub, 1) := by decide +kernel
theorem dX12_uses_15 : decode cX12_uses 15 = .ok (.istore 5, 2) := by decide +kernel
theorem dX12_uses_17 : decode cX12_uses 17 = .ok (.aload_n 0, 1) := by decide +kernel
theorem dX12_uses_18 : decode cX12_uses 18 = .ok (.getfield 29, 3) := by decide +kernel
theorem dX12_uses_21 : decode cX12_uses 21 = .ok (.iload_n 3, 1) := by decide +kernel
theorem dX12_uses_22 : decode cX12_uses 22 = .ok (.iaload, 1) := by decide +kernel
theorem dX12_uses_23 : decode cX12_uses 23 = .ok (.iconst 1, 1) := by decide +kernel
theorem dX12_uses_24 : decode cX12_uses 24 = .ok (.if_icmp .ne 10, 3) := by decide +kernel
theorem dX12_uses_27 : decode cX12_uses 27 = .ok (.lload_n 1, 1) := by decide +kernel
theorem dX12_uses_28 : decode cX12_uses 28 = .ok (.invokestatic 174, 3) := by decide +kernel
theorem dX12_uses_31 : decode cX12_uses 31 = .ok (.goto 7, 3) := by decide +kernel
theorem dX12_uses_34 : decode cX12_uses 34 = .ok (.lload_n 1, 1) := by decide +kernel
theorem dX12_uses_35 : decode cX12_uses 35 = .ok (.invokestatic 177, 3) := by decide +kernel
theorem dX12_uses_38 : decode cX12_uses 38 = .ok (.istore 6, 2) := by decide +kernel
theorem dX12_uses_40 : decode cX12_uses 40 = .ok (.iload 5, 2) := by decide +kernel
theorem dX12_uses_42 : decode cX12_uses 42 = .ok (.ifCond .le 40, 3) := by decide +kernel
theorem dX12_uses_45 : decode cX12_uses 45 = .ok (.aload_n 0, 1) := by decide +kernel
theorem dX12_uses_46 : decode cX12_uses 46 = .ok (.getfield 38, 3) := by decide +kernel
theorem dX12_uses_49 : decode cX12_uses 49 = .ok (.iload_n 3, 1) := by decide +kernel
theorem dX12_uses_50 : decode cX12_uses 50 = .ok (.iaload, 1) := by decide +kernel
theorem dX12_uses_51 : decode cX12_uses 51 = .ok (.ifCond .le 14, 3) := by decide +kernel
theorem dX12_uses_54 : decode cX12_uses 54 = .ok (.aload_n 0, 1) := by decide +kernel
theorem dX12_uses_55 : decode cX12_uses 55 = .ok (.getfield 38, 3) := by decide +kernel
theorem dX12_uses_58 : decode cX12_uses 58 = .ok (.iload_n 3, 1) := by decide +kernel
theorem dX12_uses_59 : decode cX12_uses 59 = .ok (.iaload, 1) := by decide +kernel
theorem dX12_uses_60 : decode cX12_uses 60 = .ok (.iload 6, 2) := by decide +kernel
theorem dX12_uses_62 : decode cX12_uses 62 = .ok (.if_icmp .ne 20, 3) := by decide +kernel
theorem dX12_uses_65 : decode cX12_uses 65 = .ok (.iload 5, 2) := by decide +kernel
theorem dX12_uses_67 : decode cX12_uses 67 = .ok (.aload_n 0, 1) := by decide +kernel
theorem dX12_uses_68 : decode cX12_uses 68 = .ok (.getfield 35, 3) := by decide +kernel
theorem dX12_uses_71 : decode cX12_uses 71 = .ok (.iload_n 3, 1) := by decide +kernel
theorem dX12_uses_72 : decode cX12_uses 72 = .ok (.laload, 1) := by decide +kernel
theorem dX12_uses_73 : decode cX12_uses 73 = .ok (.invokestatic 152, 3) := by decide +kernel
theorem dX12_uses_76 : decode cX12_uses 76 = .ok (.iadd, 1) := by decide +kernel
theorem dX12_uses_77 : decode cX12_uses 77 = .ok (.bipush 10, 2) := by decide +kernel
theorem dX12_uses_79 : decode cX12_uses 79 = .ok (.if_icmp .le 5, 3) := by decide +kernel
theorem dX12_uses_82 : decode cX12_uses 82 = .ok (.lconst 0, 1) := by decide +kernel
theorem dX12_uses_83 : decode cX12_uses 83 = .ok (.lreturn, 1) := by decide +kernel
theorem dX12_uses_84 : decode cX12_uses 84 = .ok (.aload_n 0, 1) := by decide +kernel
theorem dX12_uses_85 : decode cX12_uses 85 = .ok (.getfield 29, 3) := by decide +kernel
theorem dX12_uses_88 : decode cX12_uses 88 = .ok (.iload_n 3, 1) := by decide +kernel
theorem dX12_uses_89 : decode cX12_uses 89 = .ok (.iaload, 1) := by decide +kernel
theorem dX12_uses_90 : decode cX12_uses 90 = .ok (.iconst 1, 1) := by decide +kernel
theorem dX12_uses_91 : decode cX12_uses 91 = .ok (.if_icmp .ne 25, 3) := by decide +kernel
theorem dX12_uses_94 : decode cX12_uses 94 = .ok (.lload_n 1, 1) := by decide +kernel
theorem dX12_uses_95 : decode cX12_uses 95 = .ok (.iconst 4, 1) := by decide +kernel
theorem dX12_uses_96 : decode cX12_uses 96 = .ok (.aload_n 0, 1) := by decide +kernel
theorem dX12_uses_97 : decode cX12_uses 97 = .ok (.getfield 32, 3) := by decide +kernel
theorem dX12_uses_100 : decode cX12_uses 100 = .ok (.iload_n 3, 1) := by decide +kernel
theorem dX12_uses_101 : decode cX12_uses 101 = .ok (.iaload, 1) := by decide +kernel
theorem dX12_uses_102 : decode cX12_uses 102 = .ok (.imul, 1) := by decide +kernel
theorem dX12_uses_103 : decode cX12_uses 103 = .ok (.lshr, 1) := by decide +kernel
theorem dX12_uses_104 : decode cX12_uses 104 = .ok (.aload_n 0, 1) := by decide +kernel
theorem dX12_uses_105 : decode cX12_uses 105 = .ok (.getfield 35, 3) := by decide +kernel
theorem dX12_uses_108 : decode cX12_uses 108 = .ok (.iload_n 3, 1) := by decide +kernel
theorem dX12_uses_109 : decode cX12_uses 109 = .ok (.laload, 1) := by decide +kernel
theorem dX12_uses_110 : decode cX12_uses 110 = .ok (.invokestatic 180, 3) := by decide +kernel
theorem dX12_uses_113 : decode cX12_uses 113 = .ok (.goto 24, 3) := by decide +kernel
theorem dX12_uses_116 : decode cX12_uses 116 = .ok (.aload_n 0, 1) := by decide +kernel
theorem dX12_uses_117 : decode cX12_uses 117 = .ok (.getfield 35, 3) := by decide +kernel
theorem dX12_uses_120 : decode cX12_uses 120 = .ok (.iload_n 3, 1) := by decide +kernel
theorem dX12_uses_121 : decode cX12_uses 121 = .ok (.laload, 1) := by decide +kernel
theorem dX12_uses_122 : decode cX12_uses 122 = .ok (.lload_n 1, 1) := by decide +kernel
theorem dX12_uses_123 : decode cX12_uses 123 = .ok (.aload_n 0, 1) := by decide +kernel
theorem dX12_uses_124 : decode cX12_uses 124 = .ok (.getfield 32, 3) := by decide +kernel
theorem dX12_uses_127 : decode cX12_uses 127 = .ok (.iload_n 3, 1) := by decide +kernel
theorem dX12_uses_128 : decode cX12_uses 128 = .ok (.iaload, 1) := by decide +kernel
theorem dX12_uses_129 : decode cX12_uses 129 = .ok (.iload 4, 2) := by decide +kernel
theorem dX12_uses_131 : decode cX12_uses 131 = .ok (.invokestatic 184, 3) := by decide +kernel
theorem dX12_uses_134 : decode cX12_uses 134 = .ok (.invokestatic 180, 3) := by decide +kernel
theorem dX12_uses_137 : decode cX12_uses 137 = .ok (.lreturn, 1) := by decide +kernel
theorem dX12_slotOf_0 : decode cX12_slotOf 0 = .ok (.lload_n 1, 1) := by decide +kernel
theorem dX12_slotOf_1 : decode cX12_slotOf 1 = .ok (.ldc2_w 188, 3) := by decide +kernel
theorem dX12_slotOf_4 : decode cX12_slotOf 4 = .ok (.lmul, 1) := by decide +kernel
theorem dX12_slotOf_5 : decode cX12_slotOf 5 = .ok (.lload_n 1, 1) := by decide +kernel
theorem dX12_slotOf_6 : decode cX12_slotOf 6 = .ok (.bipush 17, 2) := by decide +kernel
theorem dX12_slotOf_8 : decode cX12_slotOf 8 = .ok (.lshr, 1) := by decide +kernel
theorem dX12_slotOf_9 : decode cX12_slotOf 9 = .ok (.ladd, 1) := by decide +kernel
theorem dX12_slotOf_10 : decode cX12_slotOf 10 = .ok (.ldc2_w 190, 3) := by decide +kernel
theorem dX12_slotOf_13 : decode cX12_slotOf 13 = .ok (.land, 1) := by decide +kernel
theorem dX12_slotOf_14 : decode cX12_slotOf 14 = .ok (.l2i, 1) := by decide +kernel
theorem dX12_slotOf_15 : decode cX12_slotOf 15 = .ok (.istore_n 3, 1) := by decide +kernel
theorem dX12_slotOf_16 : decode cX12_slotOf 16 = .ok (.aload_n 0, 1) := by decide +kernel
theorem dX12_slotOf_17 : decode cX12_slotOf 17 = .ok (.getfield 89, 3) := by decide +kernel
theorem dX12_slotOf_20 : decode cX12_slotOf 20 = .ok (.iload_n 3, 1) := by decide +kernel
theorem dX12_slotOf_21 : decode cX12_slotOf 21 = .ok (.laload, 1) := by decide +kernel
theorem dX12_slotOf_22 : decode cX12_slotOf 22 = .ok (.lconst 0, 1) := by decide +kernel
theorem dX12_slotOf_23 : decode cX12_slotOf 23 = .ok (.lcmp, 1) := by decide +kernel
theorem dX12_slotOf_24 : decode cX12_slotOf 24 = .ok (.ifCond .eq 25, 3) := by decide +kernel
theorem dX12_slotOf_27 : decode cX12_slotOf 27 = .ok (.aload_n 0, 1) := by decide +kernel
theorem dX12_slotOf_28 : decode cX12_slotOf 28 = .ok (.getfield 89, 3) := by decide +kernel
theorem dX12_slotOf_31 : decode cX12_slotOf 31 = .ok (.iload_n 3, 1) := by decide +kernel
theorem dX12_slotOf_32 : decode cX12_slotOf 32 = .ok (.laload, 1) := by decide +kernel
theorem dX12_slotOf_33 : decode cX12_slotOf 33 = .ok (.lload_n 1, 1) := by decide +kernel
theorem dX12_slotOf_34 : decode cX12_slotOf 34 = .ok (.lcmp, 1) := by decide +kernel
theorem dX12_slotOf_35 : decode cX12_slotOf 35 = .ok (.ifCond .eq 14, 3) := by decide +kernel
theorem dX12_slotOf_38 : decode cX12_slotOf 38 = .ok (.iload_n 3, 1) := by decide +kernel
theorem dX12_slotOf_39 : decode cX12_slotOf 39 = .ok (.iconst 1, 1) := by decide +kernel
theorem dX12_slotOf_40 : decode cX12_slotOf 40 = .ok (.iadd, 1) := by decide +kernel
theorem dX12_slotOf_41 : decode cX12_slotOf 41 = .ok (.sipush 16383, 3) := by decide +kernel
theorem dX12_slotOf_44 : decode cX12_slotOf 44 = .ok (.iand, 1) := by decide +kernel
theorem dX12_slotOf_45 : decode cX12_slotOf 45 = .ok (.istore_n 3, 1) := by decide +kernel
theorem dX12_slotOf_46 : decode cX12_slotOf 46 = .ok (.goto (-30), 3) := by decide +kernel
theorem dX12_slotOf_49 : decode cX12_slotOf 49 = .ok (.iload_n 3, 1) := by decide +kernel
theorem dX12_slotOf_50 : decode cX12_slotOf 50 = .ok (.ireturn, 1) := by decide +kernel
theorem dX12_keeps_0 : decode cX12_keeps 0 = .ok (.aload_n 0, 1) := by decide +kernel
theorem dX12_keeps_1 : decode cX12_keeps 1 = .ok (.lload_n 1, 1) := by decide +kernel
theorem dX12_keeps_2 : decode cX12_keeps 2 = .ok (.invokevirtual 192, 3) := by decide +kernel
theorem dX12_keeps_5 : decode cX12_keeps 5 = .ok (.istore 6, 2) := by decide +kernel
theorem dX12_keeps_7 : decode cX12_keeps 7 = .ok (.iconst 1, 1) := by decide +kernel
theorem dX12_keeps_8 : decode cX12_keeps 8 = .ok (.iconst 2, 1) := by decide +kernel
theorem dX12_keeps_9 : decode cX12_keeps 9 = .ok (.iload_n 3, 1) := by decide +kernel
theorem dX12_keeps_10 : decode cX12_keeps 10 = .ok (.imul, 1) := by decide +kernel
theorem dX12_keeps_11 : decode cX12_keeps 11 = .ok (.iload 4, 2) := by decide +kernel
theorem dX12_keeps_13 : decode cX12_keeps 13 = .ok (.iadd, 1) := by decide +kernel
theorem dX12_keeps_14 : decode cX12_keeps 14 = .ok (.ishl, 1) := by decide +kernel
theorem dX12_keeps_15 : decode cX12_keeps 15 = .ok (.istore 7, 2) := by decide +kernel
theorem dX12_keeps_17 : decode cX12_keeps 17 = .ok (.aload_n 0, 1) := by decide +kernel
theorem dX12_keeps_18 : decode cX12_keeps 18 = .ok (.dup, 1) := by decide +kernel
theorem dX12_keeps_19 : decode cX12_keeps 19 = .ok (.getfield 195, 3) := by decide +kernel
theorem dX12_keeps_22 : decode cX12_keeps 22 = .ok (.aload_n 0, 1) := by decide +kernel
theorem dX12_keeps_23 : decode cX12_keeps 23 = .ok (.getfield 89, 3) := by decide +kernel
theorem dX12_keeps_26 : decode cX12_keeps 26 = .ok (.iload 6, 2) := by decide +kernel
theorem dX12_keeps_28 : decode cX12_keeps 28 = .ok (.laload, 1) := by decide +kernel
theorem dX12_keeps_29 : decode cX12_keeps 29 = .ok (.lconst 0, 1) := by decide +kernel
theorem dX12_keeps_30 : decode cX12_keeps 30 = .ok (.lcmp, 1) := by decide +kernel
theorem dX12_keeps_31 : decode cX12_keeps 31 = .ok (.ifCond .ne 7, 3) := by decide +kernel
theorem dX12_keeps_34 : decode cX12_keeps 34 = .ok (.iconst 1, 1) := by decide +kernel
theorem dX12_keeps_35 : decode cX12_keeps 35 = .ok (.goto 4, 3) := by decide +kernel
theorem dX12_keeps_38 : decode cX12_keeps 38 = .ok (.iconst 0, 1) := by decide +kernel
theorem dX12_keeps_39 : decode cX12_keeps 39 = .ok (.iadd, 1) := by decide +kernel
theorem dX12_keeps_40 : decode cX12_keeps 40 = .ok (.putfield 195, 3) := by decide +kernel
theorem dX12_keeps_43 : decode cX12_keeps 43 = .ok (.aload_n 0, 1) := by decide +kernel
theorem dX12_keeps_44 : decode cX12_keeps 44 = .ok (.getfield 89, 3) := by decide +kernel
theorem dX12_keeps_47 : decode cX12_keeps 47 = .ok (.iload 6, 2) := by decide +kernel
theorem dX12_keeps_49 : decode cX12_keeps 49 = .ok (.lload_n 1, 1) := by decide +kernel
theorem dX12_keeps_50 : decode cX12_keeps 50 = .ok (.lastore, 1) := by decide +kernel
theorem dX12_keeps_51 : decode cX12_keeps 51 = .ok (.aload_n 0, 1) := by decide +kernel
theorem dX12_keeps_52 : decode cX12_keeps 52 = .ok (.getfield 92, 3) := by decide +kernel
theorem dX12_keeps_55 : decode cX12_keeps 55 = .ok (.iload 6, 2) := by decide +kernel
theorem dX12_keeps_57 : decode cX12_keeps 57 = .ok (.dup2, 1) := by decide +kernel
theorem dX12_keeps_58 : decode cX12_keeps 58 = .ok (.iaload, 1) := by decide +kernel
theorem dX12_keeps_59 : decode cX12_keeps 59 = .ok (.iload 5, 2) := by decide +kernel
theorem dX12_keeps_61 : decode cX12_keeps 61 = .ok (.iconst 2, 1) := by decide +kernel
theorem dX12_keeps_62 : decode cX12_keeps 62 = .ok (.iand, 1) := by decide +kernel
theorem dX12_keeps_63 : decode cX12_keeps 63 = .ok (.ifCond .ne 8, 3) := by decide +kernel
theorem dX12_keeps_66 : decode cX12_keeps 66 = .ok (.iload 7, 2) := by decide +kernel
theorem dX12_keeps_68 : decode cX12_keeps 68 = .ok (.goto 4, 3) := by decide +kernel
theorem dX12_keeps_71 : decode cX12_keeps 71 = .ok (.iconst 0, 1) := by decide +kernel
theorem dX12_keeps_72 : decode cX12_keeps 72 = .ok (.ior, 1) := by decide +kernel
theorem dX12_keeps_73 : decode cX12_keeps 73 = .ok (.iastore, 1) := by decide +kernel
theorem dX12_keeps_74 : decode cX12_keeps 74 = .ok (.aload_n 0, 1) := by decide +kernel
theorem dX12_keeps_75 : decode cX12_keeps 75 = .ok (.getfield 95, 3) := by decide +kernel
theorem dX12_keeps_78 : decode cX12_keeps 78 = .ok (.iload 6, 2) := by decide +kernel
theorem dX12_keeps_80 : decode cX12_keeps 80 = .ok (.dup2, 1) := by decide +kernel
theorem dX12_keeps_81 : decode cX12_keeps 81 = .ok (.iaload, 1) := by decide +kernel
theorem dX12_keeps_82 : decode cX12_keeps 82 = .ok (.iload 5, 2) := by decide +kernel
theorem dX12_keeps_84 : decode cX12_keeps 84 = .ok (.bipush 6, 2) := by decide +kernel
theorem dX12_keeps_86 : decode cX12_keeps 86 = .ok (.iand, 1) := by decide +kernel
theorem dX12_keeps_87 : decode cX12_keeps 87 = .ok (.ifCond .eq 8, 3) := by decide +kernel
theorem dX12_keeps_90 : decode cX12_keeps 90 = .ok (.iload 7, 2) := by decide +kernel
theorem dX12_keeps_92 : decode cX12_keeps 92 = .ok (.goto 4, 3) := by decide +kernel
theorem dX12_keeps_95 : decode cX12_keeps 95 = .ok (.iconst 0, 1) := by decide +kernel
theorem dX12_keeps_96 : decode cX12_keeps 96 = .ok (.ior, 1) := by decide +kernel
theorem dX12_keeps_97 : decode cX12_keeps 97 = .ok (.iastore, 1) := by decide +kernel
theorem dX12_keeps_98 : decode cX12_keeps 98 = .ok (.aload_n 0, 1) := by decide +kernel
theorem dX12_keeps_99 : decode cX12_keeps 99 = .ok (.getfield 98, 3) := by decide +kernel
theorem dX12_keeps_102 : decode cX12_keeps 102 = .ok (.iload 6, 2) := by decide +kernel
theorem dX12_keeps_104 : decode cX12_keeps 104 = .ok (.dup2, 1) := by decide +kernel
theorem dX12_keeps_105 : decode cX12_keeps 105 = .ok (.iaload, 1) := by decide +kernel
theorem dX12_keeps_106 : decode cX12_keeps 106 = .ok (.iload 5, 2) := by decide +kernel
theorem dX12_keeps_108 : decode cX12_keeps 108 = .ok (.iconst 3, 1) := by decide +kernel
theorem dX12_keeps_109 : decode cX12_keeps 109 = .ok (.iand, 1) := by decide +kernel
theorem dX12_keeps_110 : decode cX12_keeps 110 = .ok (.ifCond .ne 7, 3) := by decide +kernel
theorem dX12_keeps_113 : decode cX12_keeps 113 = .ok (.iconst 1, 1) := by decide +kernel
theorem dX12_keeps_114 : decode cX12_keeps 114 = .ok (.goto 4, 3) := by decide +kernel
theorem dX12_keeps_117 : decode cX12_keeps 117 = .ok (.iconst 0, 1) := by decide +kernel
theorem dX12_keeps_118 : decode cX12_keeps 118 = .ok (.ior, 1) := by decide +kernel
theorem dX12_keeps_119 : decode cX12_keeps 119 = .ok (.iastore, 1) := by decide +kernel
theorem dX12_keeps_120 : decode cX12_keeps 120 = .ok (.return_, 1) := by decide +kernel
theorem dX12_begins_0 : decode cX12_begins 0 = .ok (.aload_n 0, 1) := by decide +kernel
theorem dX12_begins_1 : decode cX12_begins 1 = .ok (.lload_n 1, 1) := by decide +kernel
theorem dX12_begins_2 : decode cX12_begins 2 = .ok (.iload 4, 2) := by decide +kernel
theorem dX12_begins_4 : decode cX12_begins 4 = .ok (.iload 5, 2) := by decide +kernel
theorem dX12_begins_6 : decode cX12_begins 6 = .ok (.aload_n 0, 1) := by decide +kernel
theorem dX12_begins_7 : decode cX12_begins 7 = .ok (.getfield 23, 3) := by decide +kernel
theorem dX12_begins_10 : decode cX12_begins 10 = .ok (.iload_n 3, 1) := by decide +kernel
theorem dX12_begins_11 : decode cX12_begins 11 = .ok (.iaload, 1) := by decide +kernel
theorem dX12_begins_12 : decode cX12_begins 12 = .ok (.invokevirtual 198, 3) := by decide +kernel
theorem dX12_begins_15 : decode cX12_begins 15 = .ok (.iconst 0, 1) := by decide +kernel
theorem dX12_begins_16 : decode cX12_begins 16 = .ok (.istore 6, 2) := by decide +kernel
theorem dX12_begins_18 : decode cX12_begins 18 = .ok (.iload 6, 2) := by decide +kernel
theorem dX12_begins_20 : decode cX12_begins 20 = .ok (.aload_n 0, 1) := by decide +kernel
theorem dX12_begins_21 : decode cX12_begins 21 = .ok (.getfield 171, 3) := by decide +kernel
theorem dX12_begins_24 : decode cX12_begins 24 = .ok (.if_icmp .ge 117, 3) := by decide +kernel
theorem dX12_begins_27 : decode cX12_begins 27 = .ok (.aload_n 0, 1) := by decide +kernel
theorem dX12_begins_28 : decode cX12_begins 28 = .ok (.getfield 29, 3) := by decide +kernel
theorem dX12_begins_31 : decode cX12_begins 31 = .ok (.iload 6, 2) := by decide +kernel
theorem dX12_begins_33 : decode cX12_begins 33 = .ok (.iaload, 1) := by decide +kernel
theorem dX12_begins_34 : decode cX12_begins 34 = .ok (.ifCond .ne 33, 3) := by decide +kernel
theorem dX12_begins_37 : decode cX12_begins 37 = .ok (.aload_n 0, 1) := by decide +kernel
theorem dX12_begins_38 : decode cX12_begins 38 = .ok (.getfield 13, 3) := by decide +kernel
theorem dX12_begins_41 : decode cX12_begins 41 = .ok (.iload_n 3, 1) := by decide +kernel
theorem dX12_begins_42 : decode cX12_begins 42 = .ok (.iaload, 1) := by decide +kernel
theorem dX12_begins_43 : decode cX12_begins 43 = .ok (.aload_n 0, 1) := by decide +kernel
theorem dX12_begins_44 : decode cX12_begins 44 = .ok (.getfield 26, 3) := by decide +kernel
theorem dX12_begins_47 : decode cX12_begins 47 = .ok (.iload 6, 2) := by decide +kernel
theorem dX12_begins_49 : decode cX12_begins 49 = .ok (.iaload, 1) := by decide +kernel
theorem dX12_begins_50 : decode cX12_begins 50 = .ok (.ishr, 1) := by decide +kernel
theorem dX12_begins_51 : decode cX12_begins 51 = .ok (.iconst 1, 1) := by decide +kernel
theorem dX12_begins_52 : decode cX12_begins 52 = .ok (.iand, 1) := by decide +kernel
theorem dX12_begins_53 : decode cX12_begins 53 = .ok (.iconst 1, 1) := by decide +kernel
theorem dX12_begins_54 : decode cX12_begins 54 = .ok (.if_icmp .ne 13, 3) := by decide +kernel
theorem dX12_begins_57 : decode cX12_begins 57 = .ok (.aload_n 0, 1) := by decide +kernel
theorem dX12_begins_58 : decode cX12_begins 58 = .ok (.lload_n 1, 1) := by decide +kernel
theorem dX12_begins_59 : decode cX12_begins 59 = .ok (.iload 6, 2) := by decide +kernel
theorem dX12_begins_61 : decode cX12_begins 61 = .ok (.invokevirtual 202, 3) := by decide +kernel
theorem dX12_begins_64 : decode cX12_begins 64 = .ok (.goto 4, 3) := by decide +kernel
theorem dX12_begins_67 : decode cX12_begins 67 = .ok (.lconst 0, 1) := by decide +kernel
theorem dX12_begins_68 : decode cX12_begins 68 = .ok (.lstore 7, 2) := by decide +kernel
theorem dX12_begins_70 : decode cX12_begins 70 = .ok (.lload 7, 2) := by decide +kernel
theorem dX12_begins_72 : decode cX12_begins 72 = .ok (.lconst 0, 1) := by decide +kernel
theorem dX12_begins_73 : decode cX12_begins 73 = .ok (.lcmp, 1) := by decide +kernel
theorem dX12_begins_74 : decode cX12_begins 74 = .ok (.ifCond .le 61, 3) := by decide +kernel
theorem dX12_begins_77 : decode cX12_begins 77 = .ok (.aload_n 0, 1) := by decide +kernel
theorem dX12_begins_78 : decode cX12_begins 78 = .ok (.lload 7, 2) := by decide +kernel
theorem dX12_begins_80 : decode cX12_begins 80 = .ok (.aload_n 0, 1) := by decide +kernel
theorem dX12_begins_81 : decode cX12_begins 81 = .ok (.getfield 41, 3) := by decide +kernel
theorem dX12_begins_84 : decode cX12_begins 84 = .ok (.iload 6, 2) := by decide +kernel
theorem dX12_begins_86 : decode cX12_begins 86 = .ok (.iaload, 1) := by decide +kernel
theorem dX12_begins_87 : decode cX12_begins 87 = .ok (.iconst (-1), 1) := by decide +kernel
theorem dX12_begins_88 : decode cX12_begins 88 = .ok (.if_icmp .ne 8, 3) := by decide +kernel
theorem dX12_begins_91 : decode cX12_begins 91 = .ok (.iload 4, 2) := by decide +kernel
theorem dX12_begins_93 : decode cX12_begins 93 = .ok (.goto 10, 3) := by decide +kernel
theorem dX12_begins_96 : decode cX12_begins 96 = .ok (.aload_n 0, 1) := by decide +kernel
theorem dX12_begins_97 : decode cX12_begins 97 = .ok (.getfield 41, 3) := by decide +kernel
theorem dX12_begins_100 : decode cX12_begins 100 = .ok (.iload 6, 2) := by decide +kernel
theorem dX12_begins_102 : decode cX12_begins 102 = .ok (.iaload, 1) := by decide +kernel
theorem dX12_begins_103 : decode cX12_begins 103 = .ok (.aload_n 0, 1) := by decide +kernel
theorem dX12_begins_104 : decode cX12_begins 104 = .ok (.getfield 44, 3) := by decide +kernel
theorem dX12_begins_107 : decode cX12_begins 107 = .ok (.iload 6, 2) := by decide +kernel
theorem dX12_begins_109 : decode cX12_begins 109 = .ok (.iaload, 1) := by decide +kernel
theorem dX12_begins_110 : decode cX12_begins 110 = .ok (.iconst (-1), 1) := by decide +kernel
theorem dX12_begins_111 : decode cX12_begins 111 = .ok (.if_icmp .ne 8, 3) := by decide +kernel
theorem dX12_begins_114 : decode cX12_begins 114 = .ok (.iload 5, 2) := by decide +kernel
theorem dX12_begins_116 : decode cX12_begins 116 = .ok (.goto 10, 3) := by decide +kernel
theorem dX12_begins_119 : decode cX12_begins 119 = .ok (.aload_n 0, 1) := by decide +kernel
theorem dX12_begins_120 : decode cX12_begins 120 = .ok (.getfield 44, 3) := by decide +kernel
theorem dX12_begins_123 : decode cX12_begins 123 = .ok (.iload 6, 2) := by decide +kernel
theorem dX12_begins_125 : decode cX12_begins 125 = .ok (.iaload, 1) := by decide +kernel
theorem dX12_begins_126 : decode cX12_begins 126 = .ok (.aload_n 0, 1) := by decide +kernel
theorem dX12_begins_127 : decode cX12_begins 127 = .ok (.getfield 23, 3) := by decide +kernel
theorem dX12_begins_130 : decode cX12_begins 130 = .ok (.iload_n 3, 1) := by decide +kernel
theorem dX12_begins_131 : decode cX12_begins 131 = .ok (.iaload, 1) := by decide +kernel
theorem dX12_begins_132 : decode cX12_begins 132 = .ok (.invokevirtual 198, 3) := by decide +kernel
theorem dX12_begins_135 : decode cX12_begins 135 = .ok (.iinc 6 1, 3) := by decide +kernel
theorem dX12_begins_138 : decode cX12_begins 138 = .ok (.goto (-120), 3) := by decide +kernel
theorem dX12_begins_141 : decode cX12_begins 141 = .ok (.return_, 1) := by decide +kernel
theorem dX12_endings_0 : decode cX12_endings 0 = .ok (.iconst 0, 1) := by decide +kernel
theorem dX12_endings_1 : decode cX12_endings 1 = .ok (.istore 8, 2) := by decide +kernel
theorem dX12_endings_3 : decode cX12_endings 3 = .ok (.iload 8, 2) := by decide +kernel
theorem dX12_endings_5 : decode cX12_endings 5 = .ok (.aload_n 0, 1) := by decide +kernel
theorem dX12_endings_6 : decode cX12_endings 6 = .ok (.getfield 171, 3) := by decide +kernel
theorem dX12_endings_9 : decode cX12_endings 9 = .ok (.if_icmp .ge 246, 3) := by decide +kernel
theorem dX12_endings_12 : decode cX12_endings 12 = .ok (.aload_n 0, 1) := by decide +kernel
theorem dX12_endings_13 : decode cX12_endings 13 = .ok (.getfield 29, 3) := by decide +kernel
theorem dX12_endings_16 : decode cX12_endings 16 = .ok (.iload 8, 2) := by decide +kernel
theorem dX12_endings_18 : decode cX12_endings 18 = .ok (.iaload, 1) := by decide +kernel
theorem dX12_endings_19 : decode cX12_endings 19 = .ok (.iconst 1, 1) := by decide +kernel
theorem dX12_endings_20 : decode cX12_endings 20 = .ok (.if_icmp .ne 29, 3) := by decide +kernel
theorem dX12_endings_23 : decode cX12_endings 23 = .ok (.iload 4, 2) := by decide +kernel
theorem dX12_endings_25 : decode cX12_endings 25 = .ok (.aload_n 0, 1) := by decide +kernel
theorem dX12_endings_26 : decode cX12_endings 26 = .ok (.getfield 26, 3) := by decide +kernel
theorem dX12_endings_29 : decode cX12_endings 29 = .ok (.iload 8, 2) := by decide +kernel
theorem dX12_endings_31 : decode cX12_endings 31 = .ok (.iaload, 1) := by decide +kernel
theorem dX12_endings_32 : decode cX12_endings 32 = .ok (.ishr, 1) := by decide +kernel
theorem dX12_endings_33 : decode cX12_endings 33 = .ok (.iconst 1, 1) := by decide +kernel
theorem dX12_endings_34 : decode cX12_endings 34 = .ok (.iand, 1) := by decide +kernel
theorem dX12_endings_35 : decode cX12_endings 35 = .ok (.iconst 1, 1) := by decide +kernel
theorem dX12_endings_36 : decode cX12_endings 36 = .ok (.if_icmp .ne 13, 3) := by decide +kernel
theorem dX12_endings_39 : decode cX12_endings 39 = .ok (.aload_n 0, 1) := by decide +kernel
theorem dX12_endings_40 : decode cX12_endings 40 = .ok (.lload_n 1, 1) := by decide +kernel
theorem dX12_endings_41 : decode cX12_endings 41 = .ok (.iload 8, 2) := by decide +kernel
theorem dX12_endings_43 : decode cX12_endings 43 = .ok (.invokevirtual 202, 3) := by decide +kernel
theorem dX12_endings_46 : decode cX12_endings 46 = .ok (.goto 4, 3) := by decide +kernel
theorem dX12_endings_49 : decode cX12_endings 49 = .ok (.lconst 0, 1) := by decide +kernel
theorem dX12_endings_50 : decode cX12_endings 50 = .ok (.lstore 9, 2) := by decide +kernel
theorem dX12_endings_52 : decode cX12_endings 52 = .ok (.lload 9, 2) := by decide +kernel
theorem dX12_endings_54 : decode cX12_endings 54 = .ok (.lconst 0, 1) := by decide +kernel
theorem dX12_endings_55 : decode cX12_endings 55 = .ok (.lcmp, 1) := by decide +kernel
theorem dX12_endings_56 : decode cX12_endings 56 = .ok (.ifCond .le 193, 3) := by decide +kernel
theorem dX12_endings_59 : decode cX12_endings 59 = .ok (.aload_n 0, 1) := by decide +kernel
theorem dX12_endings_60 : decode cX12_endings 60 = .ok (.getfield 41, 3) := by decide +kernel
theorem dX12_endings_63 : decode cX12_endings 63 = .ok (.iload 8, 2) := by decide +kernel
theorem dX12_endings_65 : decode cX12_endings 65 = .ok (.iaload, 1) := by decide +kernel
theorem dX12_endings_66 : decode cX12_endings 66 = .ok (.iconst (-1), 1) := by decide +kernel
theorem dX12_endings_67 : decode cX12_endings 67 = .ok (.if_icmp .ne 8, 3) := by decide +kernel
theorem dX12_endings_70 : decode cX12_endings 70 = .ok (.iload 5, 2) := by decide +kernel
theorem dX12_endings_72 : decode cX12_endings 72 = .ok (.goto 10, 3) := by decide +kernel
theorem dX12_endings_75 : decode cX12_endings 75 = .ok (.aload_n 0, 1) := by decide +kernel
theorem dX12_endings_76 : decode cX12_endings 76 = .ok (.getfield 41, 3) := by decide +kernel
theorem dX12_endings_79 : decode cX12_endings 79 = .ok (.iload 8, 2) := by decide +kernel
theorem dX12_endings_81 : decode cX12_endings 81 = .ok (.iaload, 1) := by decide +kernel
theorem dX12_endings_82 : decode cX12_endings 82 = .ok (.istore 11, 2) := by decide +kernel
theorem dX12_endings_84 : decode cX12_endings 84 = .ok (.aload_n 0, 1) := by decide +kernel
theorem dX12_endings_85 : decode cX12_endings 85 = .ok (.getfield 44, 3) := by decide +kernel
theorem dX12_endings_88 : decode cX12_endings 88 = .ok (.iload 8, 2) := by decide +kernel
theorem dX12_endings_90 : decode cX12_endings 90 = .ok (.iaload, 1) := by decide +kernel
theorem dX12_endings_91 : decode cX12_endings 91 = .ok (.iconst (-1), 1) := by decide +kernel
theorem dX12_endings_92 : decode cX12_endings 92 = .ok (.if_icmp .ne 8, 3) := by decide +kernel
theorem dX12_endings_95 : decode cX12_endings 95 = .ok (.iload 6, 2) := by decide +kernel
theorem dX12_endings_97 : decode cX12_endings 97 = .ok (.goto 10, 3) := by decide +kernel
theorem dX12_endings_100 : decode cX12_endings 100 = .ok (.aload_n 0, 1) := by decide +kernel
theorem dX12_endings_101 : decode cX12_endings 101 = .ok (.getfield 44, 3) := by decide +kernel
theorem dX12_endings_104 : decode cX12_endings 104 = .ok (.iload 8, 2) := by decide +kernel
theorem dX12_endings_106 : decode cX12_endings 106 = .ok (.iaload, 1) := by decide +kernel
theorem dX12_endings_107 : decode cX12_endings 107 = .ok (.istore 12, 2) := by decide +kernel
theorem dX12_endings_109 : decode cX12_endings 109 = .ok (.aload_n 0, 1) := by decide +kernel
theorem dX12_endings_110 : decode cX12_endings 110 = .ok (.lload 9, 2) := by decide +kernel
theorem dX12_endings_112 : decode cX12_endings 112 = .ok (.iload_n 3, 1) := by decide +kernel
theorem dX12_endings_113 : decode cX12_endings 113 = .ok (.iload 11, 2) := by decide +kernel
theorem dX12_endings_115 : decode cX12_endings 115 = .ok (.iload 12, 2) := by decide +kernel
theorem dX12_endings_117 : decode cX12_endings 117 = .ok (.invokevirtual 206, 3) := by decide +kernel
theorem dX12_endings_120 : decode cX12_endings 120 = .ok (.iconst 0, 1) := by decide +kernel
theorem dX12_endings_121 : decode cX12_endings 121 = .ok (.istore 13, 2) := by decide +kernel
theorem dX12_endings_123 : decode cX12_endings 123 = .ok (.iload 13, 2) := by decide +kernel
theorem dX12_endings_125 : decode cX12_endings 125 = .ok (.aload_n 0, 1) := by decide +kernel
theorem dX12_endings_126 : decode cX12_endings 126 = .ok (.getfield 171, 3) := by decide +kernel
theorem dX12_endings_129 : decode cX12_endings 129 = .ok (.if_icmp .ge 120, 3) := by decide +kernel
theorem dX12_endings_132 : decode cX12_endings 132 = .ok (.iload 7, 2) := by decide +kernel
theorem dX12_endings_134 : decode cX12_endings 134 = .ok (.ifCond .eq 115, 3) := by decide +kernel
theorem dX12_endings_137 : decode cX12_endings 137 = .ok (.aload_n 0, 1) := by decide +kernel
theorem dX12_endings_138 : decode cX12_endings 138 = .ok (.getfield 29, 3) := by decide +kernel
theorem dX12_endings_141 : decode cX12_endings 141 = .ok (.iload 13, 2) := by decide +kernel
theorem dX12_endings_143 : decode cX12_endings 143 = .ok (.iaload, 1) := by decide +kernel
theorem dX12_endings_144 : decode cX12_endings 144 = .ok (.iconst 1, 1) := by decide +kernel
theorem dX12_endings_145 : decode cX12_endings 145 = .ok (.if_icmp .ne 35, 3) := by decide +kernel
theorem dX12_endings_148 : decode cX12_endings 148 = .ok (.aload_n 0, 1) := by decide +kernel
theorem dX12_endings_149 : decode cX12_endings 149 = .ok (.getfield 47, 3) := by decide +kernel
theorem dX12_endings_152 : decode cX12_endings 152 = .ok (.iload 8, 2) := by decide +kernel
theorem dX12_endings_154 : decode cX12_endings 154 = .ok (.iaload, 1) := by decide +kernel
theorem dX12_endings_155 : decode cX12_endings 155 = .ok (.aload_n 0, 1) := by decide +kernel
theorem dX12_endings_156 : decode cX12_endings 156 = .ok (.getfield 26, 3) := by decide +kernel
theorem dX12_endings_159 : decode cX12_endings 159 = .ok (.iload 13, 2) := by decide +kernel
theorem dX12_endings_161 : decode cX12_endings 161 = .ok (.iaload, 1) := by decide +kernel
theorem dX12_endings_162 : decode cX12_endings 162 = .ok (.ishr, 1) := by decide +kernel
theorem dX12_endings_163 : decode cX12_endings 163 = .ok (.iconst 1, 1) := by decide +kernel
theorem dX12_endings_164 : decode cX12_endings 164 = .ok (.iand, 1) := by decide +kernel
theorem dX12_endings_165 : decode cX12_endings 165 = .ok (.iconst 1, 1) := by decide +kernel
theorem dX12_endings_166 : decode cX12_endings 166 = .ok (.if_icmp .ne 14, 3) := by decide +kernel
theorem dX12_endings_169 : decode cX12_endings 169 = .ok (.aload_n 0, 1) := by decide +kernel
theorem dX12_endings_170 : decode cX12_endings 170 = .ok (.lload 9, 2) := by decide +kernel
theorem dX12_endings_172 : decode cX12_endings 172 = .ok (.iload 13, 2) := by decide +kernel
theorem dX12_endings_174 : decode cX12_endings 174 = .ok (.invokevirtual 202, 3) := by decide +kernel
theorem dX12_endings_177 : decode cX12_endings 177 = .ok (.goto 4, 3) := by decide +kernel
theorem dX12_endings_180 : decode cX12_endings 180 = .ok (.lconst 0, 1) := by decide +kernel
theorem dX12_endings_181 : decode cX12_endings 181 = .ok (.lstore 14, 2) := by decide +kernel
theorem dX12_endings_183 : decode cX12_endings 183 = .ok (.lload 14, 2) := by decide +kernel
theorem dX12_endings_185 : decode cX12_endings 185 = .ok (.lconst 0, 1) := by decide +kernel
theorem dX12_endings_186 : decode cX12_endings 186 = .ok (.lcmp, 1) := by decide +kernel
theorem dX12_endings_187 : decode cX12_endings 187 = .ok (.ifCond .le 56, 3) := by decide +kernel
theorem dX12_endings_190 : decode cX12_endings 190 = .ok (.aload_n 0, 1) := by decide +kernel
theorem dX12_endings_191 : decode cX12_endings 191 = .ok (.lload 14, 2) := by decide +kernel
theorem dX12_endings_193 : decode cX12_endings 193 = .ok (.iload_n 3, 1) := by decide +kernel
theorem dX12_endings_194 : decode cX12_endings 194 = .ok (.aload_n 0, 1) := by decide +kernel
theorem dX12_endings_195 : decode cX12_endings 195 = .ok (.getfield 41, 3) := by decide +kernel
theorem dX12_endings_198 : decode cX12_endings 198 = .ok (.iload 13, 2) := by decide +kernel
theorem dX12_endings_200 : decode cX12_endings 200 = .ok (.iaload, 1) := by decide +kernel
theorem dX12_endings_201 : decode cX12_endings 201 = .ok (.iconst (-1), 1) := by decide +kernel
theorem dX12_endings_202 : decode cX12_endings 202 = .ok (.if_icmp .ne 8, 3) := by decide +kernel
theorem dX12_endings_205 : decode cX12_endings 205 = .ok (.iload 11, 2) := by decide +kernel
theorem dX12_endings_207 : decode cX12_endings 207 = .ok (.goto 10, 3) := by decide +kernel
theorem dX12_endings_210 : decode cX12_endings 210 = .ok (.aload_n 0, 1) := by decide +kernel
theorem dX12_endings_211 : decode cX12_endings 211 = .ok (.getfield 41, 3) := by decide +kernel
theorem dX12_endings_214 : decode cX12_endings 214 = .ok (.iload 13, 2) := by decide +kernel
theorem dX12_endings_216 : decode cX12_endings 216 = .ok (.iaload, 1) := by decide +kernel
theorem dX12_endings_217 : decode cX12_endings 217 = .ok (.aload_n 0, 1) := by decide +kernel
theorem dX12_endings_218 : decode cX12_endings 218 = .ok (.getfield 44, 3) := by decide +kernel
theorem dX12_endings_221 : decode cX12_endings 221 = .ok (.iload 13, 2) := by decide +kernel
theorem dX12_endings_223 : decode cX12_endings 223 = .ok (.iaload, 1) := by decide +kernel
theorem dX12_endings_224 : decode cX12_endings 224 = .ok (.iconst (-1), 1) := by decide +kernel
theorem dX12_endings_225 : decode cX12_endings 225 = .ok (.if_icmp .ne 8, 3) := by decide +kernel
theorem dX12_endings_228 : decode cX12_endings 228 = .ok (.iload 12, 2) := by decide +kernel
theorem dX12_endings_230 : decode cX12_endings 230 = .ok (.goto 10, 3) := by decide +kernel
theorem dX12_endings_233 : decode cX12_endings 233 = .ok (.aload_n 0, 1) := by decide +kernel
theorem dX12_endings_234 : decode cX12_endings 234 = .ok (.getfield 44, 3) := by decide +kernel
theorem dX12_endings_237 : decode cX12_endings 237 = .ok (.iload 13, 2) := by decide +kernel
theorem dX12_endings_239 : decode cX12_endings 239 = .ok (.iaload, 1) := by decide +kernel
theorem dX12_endings_240 : decode cX12_endings 240 = .ok (.invokevirtual 206, 3) := by decide +kernel
theorem dX12_endings_243 : decode cX12_endings 243 = .ok (.iinc 13 1, 3) := by decide +kernel
theorem dX12_endings_246 : decode cX12_endings 246 = .ok (.goto (-123), 3) := by decide +kernel
theorem dX12_endings_249 : decode cX12_endings 249 = .ok (.iinc 8 1, 3) := by decide +kernel
theorem dX12_endings_252 : decode cX12_endings 252 = .ok (.goto (-249), 3) := by decide +kernel
theorem dX12_endings_255 : decode cX12_endings 255 = .ok (.return_, 1) := by decide +kernel
theorem dX12_makes_0 : decode cX12_makes 0 = .ok (.aload_n 0, 1) := by decide +kernel
theorem dX12_makes_1 : decode cX12_makes 1 = .ok (.getfield 167, 3) := by decide +kernel
theorem dX12_makes_4 : decode cX12_makes 4 = .ok (.ifCond .eq 4, 3) := by decide +kernel
theorem dX12_makes_7 : decode cX12_makes 7 = .ok (.return_, 1) := by decide +kernel
theorem dX12_makes_8 : decode cX12_makes 8 = .ok (.iconst 0, 1) := by decide +kernel
theorem dX12_makes_9 : decode cX12_makes 9 = .ok (.istore_n 1, 1) := by decide +kernel
theorem dX12_makes_10 : decode cX12_makes 10 = .ok (.iload_n 1, 1) := by decide +kernel
theorem dX12_makes_11 : decode cX12_makes 11 = .ok (.sipush 16384, 3) := by decide +kernel
theorem dX12_makes_14 : decode cX12_makes 14 = .ok (.if_icmp .ge 37, 3) := by decide +kernel
theorem dX12_makes_17 : decode cX12_makes 17 = .ok (.aload_n 0, 1) := by decide +kernel
theorem dX12_makes_18 : decode cX12_makes 18 = .ok (.getfield 89, 3) := by decide +kernel
theorem dX12_makes_21 : decode cX12_makes 21 = .ok (.iload_n 1, 1) := by decide +kernel
theorem dX12_makes_22 : decode cX12_makes 22 = .ok (.lconst 0, 1) := by decide +kernel
theorem dX12_makes_23 : decode cX12_makes 23 = .ok (.lastore, 1) := by decide +kernel
theorem dX12_makes_24 : decode cX12_makes 24 = .ok (.aload_n 0, 1) := by decide +kernel
theorem dX12_makes_25 : decode cX12_makes 25 = .ok (.getfield 92, 3) := by decide +kernel
theorem dX12_makes_28 : decode cX12_makes 28 = .ok (.iload_n 1, 1) := by decide +kernel
theorem dX12_makes_29 : decode cX12_makes 29 = .ok (.iconst 0, 1) := by decide +kernel
theorem dX12_makes_30 : decode cX12_makes 30 = .ok (.iastore, 1) := by decide +kernel
theorem dX12_makes_31 : decode cX12_makes 31 = .ok (.aload_n 0, 1) := by decide +kernel
theorem dX12_makes_32 : decode cX12_makes 32 = .ok (.getfield 95, 3) := by decide +kernel
theorem dX12_makes_35 : decode cX12_makes 35 = .ok (.iload_n 1, 1) := by decide +kernel
theorem dX12_makes_36 : decode cX12_makes 36 = .ok (.iconst 0, 1) := by decide +kernel
theorem dX12_makes_37 : decode cX12_makes 37 = .ok (.iastore, 1) := by decide +kernel
theorem dX12_makes_38 : decode cX12_makes 38 = .ok (.aload_n 0, 1) := by decide +kernel
theorem dX12_makes_39 : decode cX12_makes 39 = .ok (.getfield 98, 3) := by decide +kernel
theorem dX12_makes_42 : decode cX12_makes 42 = .ok (.iload_n 1, 1) := by decide +kernel
theorem dX12_makes_43 : decode cX12_makes 43 = .ok (.iconst 0, 1) := by decide +kernel
theorem dX12_makes_44 : decode cX12_makes 44 = .ok (.iastore, 1) := by decide +kernel
theorem dX12_makes_45 : decode cX12_makes 45 = .ok (.iinc 1 1, 3) := by decide +kernel
theorem dX12_makes_48 : decode cX12_makes 48 = .ok (.goto (-38), 3) := by decide +kernel
theorem dX12_makes_51 : decode cX12_makes 51 = .ok (.aload_n 0, 1) := by decide +kernel
theorem dX12_makes_52 : decode cX12_makes 52 = .ok (.iconst 0, 1) := by decide +kernel
theorem dX12_makes_53 : decode cX12_makes 53 = .ok (.putfield 195, 3) := by decide +kernel
theorem dX12_makes_56 : decode cX12_makes 56 = .ok (.iconst 0, 1) := by decide +kernel
theorem dX12_makes_57 : decode cX12_makes 57 = .ok (.istore_n 1, 1) := by decide +kernel
theorem dX12_makes_58 : decode cX12_makes 58 = .ok (.iload_n 1, 1) := by decide +kernel
theorem dX12_makes_59 : decode cX12_makes 59 = .ok (.aload_n 0, 1) := by decide +kernel
theorem dX12_makes_60 : decode cX12_makes 60 = .ok (.getfield 164, 3) := by decide +kernel
theorem dX12_makes_63 : decode cX12_makes 63 = .ok (.if_icmp .ge 62, 3) := by decide +kernel
theorem dX12_makes_66 : decode cX12_makes 66 = .ok (.aload_n 0, 1) := by decide +kernel
theorem dX12_makes_67 : decode cX12_makes 67 = .ok (.aload_n 0, 1) := by decide +kernel
theorem dX12_makes_68 : decode cX12_makes 68 = .ok (.getfield 7, 3) := by decide +kernel
theorem dX12_makes_71 : decode cX12_makes 71 = .ok (.iload_n 1, 1) := by decide +kernel
theorem dX12_makes_72 : decode cX12_makes 72 = .ok (.laload, 1) := by decide +kernel
theorem dX12_makes_73 : decode cX12_makes 73 = .ok (.iload_n 1, 1) := by decide +kernel
theorem dX12_makes_74 : decode cX12_makes 74 = .ok (.aload_n 0, 1) := by decide +kernel
theorem dX12_makes_75 : decode cX12_makes 75 = .ok (.getfield 17, 3) := by decide +kernel
theorem dX12_makes_78 : decode cX12_makes 78 = .ok (.iload_n 1, 1) := by decide +kernel
theorem dX12_makes_79 : decode cX12_makes 79 = .ok (.iaload, 1) := by decide +kernel
theorem dX12_makes_80 : decode cX12_makes 80 = .ok (.aload_n 0, 1) := by decide +kernel
theorem dX12_makes_81 : decode cX12_makes 81 = .ok (.getfield 20, 3) := by decide +kernel
theorem dX12_makes_84 : decode cX12_makes 84 = .ok (.iload_n 1, 1) := by decide +kernel
theorem dX12_makes_85 : decode cX12_makes 85 = .ok (.iaload, 1) := by decide +kernel
theorem dX12_makes_86 : decode cX12_makes 86 = .ok (.invokevirtual 206, 3) := by decide +kernel
theorem dX12_makes_89 : decode cX12_makes 89 = .ok (.aload_n 0, 1) := by decide +kernel
theorem dX12_makes_90 : decode cX12_makes 90 = .ok (.aload_n 0, 1) := by decide +kernel
theorem dX12_makes_91 : decode cX12_makes 91 = .ok (.getfield 7, 3) := by decide +kernel
theorem dX12_makes_94 : decode cX12_makes 94 = .ok (.iload_n 1, 1) := by decide +kernel
theorem dX12_makes_95 : decode cX12_makes 95 = .ok (.laload, 1) := by decide +kernel
theorem dX12_makes_96 : decode cX12_makes 96 = .ok (.iload_n 1, 1) := by decide +kernel
theorem dX12_makes_97 : decode cX12_makes 97 = .ok (.aload_n 0, 1) := by decide +kernel
theorem dX12_makes_98 : decode cX12_makes 98 = .ok (.getfield 13, 3) := by decide +kernel
theorem dX12_makes_101 : decode cX12_makes 101 = .ok (.iload_n 1, 1) := by decide +kernel
theorem dX12_makes_102 : decode cX12_makes 102 = .ok (.iaload, 1) := by decide +kernel
theorem dX12_makes_103 : decode cX12_makes 103 = .ok (.aload_n 0, 1) := by decide +kernel
theorem dX12_makes_104 : decode cX12_makes 104 = .ok (.getfield 17, 3) := by decide +kernel
theorem dX12_makes_107 : decode cX12_makes 107 = .ok (.iload_n 1, 1) := by decide +kernel
theorem dX12_makes_108 : decode cX12_makes 108 = .ok (.iaload, 1) := by decide +kernel
theorem dX12_makes_109 : decode cX12_makes 109 = .ok (.aload_n 0, 1) := by decide +kernel
theorem dX12_makes_110 : decode cX12_makes 110 = .ok (.getfield 20, 3) := by decide +kernel
theorem dX12_makes_113 : decode cX12_makes 113 = .ok (.iload_n 1, 1) := by decide +kernel
theorem dX12_makes_114 : decode cX12_makes 114 = .ok (.iaload, 1) := by decide +kernel
theorem dX12_makes_115 : decode cX12_makes 115 = .ok (.iconst 1, 1) := by decide +kernel
theorem dX12_makes_116 : decode cX12_makes 116 = .ok (.invokevirtual 208, 3) := by decide +kernel
theorem dX12_makes_119 : decode cX12_makes 119 = .ok (.iinc 1 1, 3) := by decide +kernel
theorem dX12_makes_122 : decode cX12_makes 122 = .ok (.goto (-64), 3) := by decide +kernel
theorem dX12_makes_125 : decode cX12_makes 125 = .ok (.aload_n 0, 1) := by decide +kernel
theorem dX12_makes_126 : decode cX12_makes 126 = .ok (.iconst 1, 1) := by decide +kernel
theorem dX12_makes_127 : decode cX12_makes 127 = .ok (.putfield 167, 3) := by decide +kernel
theorem dX12_makes_130 : decode cX12_makes 130 = .ok (.return_, 1) := by decide +kernel
theorem dX12_ownOf_0 : decode cX12_ownOf 0 = .ok (.iconst 0, 1) := by decide +kernel
theorem dX12_ownOf_1 : decode cX12_ownOf 1 = .ok (.istore_n 3, 1) := by decide +kernel
theorem dX12_ownOf_2 : decode cX12_ownOf 2 = .ok (.iload_n 3, 1) := by decide +kernel
theorem dX12_ownOf_3 : decode cX12_ownOf 3 = .ok (.aload_n 0, 1) := by decide +kernel
theorem dX12_ownOf_4 : decode cX12_ownOf 4 = .ok (.getfield 212, 3) := by decide +kernel
theorem dX12_ownOf_7 : decode cX12_ownOf 7 = .ok (.if_icmp .ge 22, 3) := by decide +kernel
theorem dX12_ownOf_10 : decode cX12_ownOf 10 = .ok (.aload_n 0, 1) := by decide +kernel
theorem dX12_ownOf_11 : decode cX12_ownOf 11 = .ok (.getfield 53, 3) := by decide +kernel
theorem dX12_ownOf_14 : decode cX12_ownOf 14 = .ok (.iload_n 3, 1) := by decide +kernel
theorem dX12_ownOf_15 : decode cX12_ownOf 15 = .ok (.laload, 1) := by decide +kernel
theorem dX12_ownOf_16 : decode cX12_ownOf 16 = .ok (.lload_n 1, 1) := by decide +kernel
theorem dX12_ownOf_17 : decode cX12_ownOf 17 = .ok (.lcmp, 1) := by decide +kernel
theorem dX12_ownOf_18 : decode cX12_ownOf 18 = .ok (.ifCond .ne 5, 3) := by decide +kernel
theorem dX12_ownOf_21 : decode cX12_ownOf 21 = .ok (.iload_n 3, 1) := by decide +kernel
theorem dX12_ownOf_22 : decode cX12_ownOf 22 = .ok (.ireturn, 1) := by decide +kernel
theorem dX12_ownOf_23 : decode cX12_ownOf 23 = .ok (.iinc 3 1, 3) := by decide +kernel
theorem dX12_ownOf_26 : decode cX12_ownOf 26 = .ok (.goto (-24), 3) := by decide +kernel
theorem dX12_ownOf_29 : decode cX12_ownOf 29 = .ok (.iconst (-1), 1) := by decide +kernel
theorem dX12_ownOf_30 : decode cX12_ownOf 30 = .ok (.ireturn, 1) := by decide +kernel
theorem dX12_barOf_0 : decode cX12_barOf 0 = .ok (.iconst 0, 1) := by decide +kernel
theorem dX12_barOf_1 : decode cX12_barOf 1 = .ok (.istore_n 3, 1) := by decide +kernel
theorem dX12_barOf_2 : decode cX12_barOf 2 = .ok (.iload_n 3, 1) := by decide +kernel
theorem dX12_barOf_3 : decode cX12_barOf 3 = .ok (.aload_n 0, 1) := by decide +kernel
theorem dX12_barOf_4 : decode cX12_barOf 4 = .ok (.getfield 215, 3) := by decide +kernel
theorem dX12_barOf_7 : decode cX12_barOf 7 = .ok (.if_icmp .ge 22, 3) := by decide +kernel
theorem dX12_barOf_10 : decode cX12_barOf 10 = .ok (.aload_n 0, 1) := by decide +kernel
theorem dX12_barOf_11 : decode cX12_barOf 11 = .ok (.getfield 59, 3) := by decide +kernel
theorem dX12_barOf_14 : decode cX12_barOf 14 = .ok (.iload_n 3, 1) := by decide +kernel
theorem dX12_barOf_15 : decode cX12_barOf 15 = .ok (.laload, 1) := by decide +kernel
theorem dX12_barOf_16 : decode cX12_barOf 16 = .ok (.lload_n 1, 1) := by decide +kernel
theorem dX12_barOf_17 : decode cX12_barOf 17 = .ok (.lcmp, 1) := by decide +kernel
theorem dX12_barOf_18 : decode cX12_barOf 18 = .ok (.ifCond .ne 5, 3) := by decide +kernel
theorem dX12_barOf_21 : decode cX12_barOf 21 = .ok (.iload_n 3, 1) := by decide +kernel
theorem dX12_barOf_22 : decode cX12_barOf 22 = .ok (.ireturn, 1) := by decide +kernel
theorem dX12_barOf_23 : decode cX12_barOf 23 = .ok (.iinc 3 1, 3) := by decide +kernel
theorem dX12_barOf_26 : decode cX12_barOf 26 = .ok (.goto (-24), 3) := by decide +kernel
theorem dX12_barOf_29 : decode cX12_barOf 29 = .ok (.iconst (-1), 1) := by decide +kernel
theorem dX12_barOf_30 : decode cX12_barOf 30 = .ok (.ireturn, 1) := by decide +kernel
theorem dX12_inJoins_0 : decode cX12_inJoins 0 = .ok (.aload_n 0, 1) := by decide +kernel
theorem dX12_inJoins_1 : decode cX12_inJoins 1 = .ok (.getfield 95, 3) := by decide +kernel
theorem dX12_inJoins_4 : decode cX12_inJoins 4 = .ok (.aload_n 0, 1) := by decide +kernel
theorem dX12_inJoins_5 : decode cX12_inJoins 5 = .ok (.lload_n 1, 1) := by decide +kernel
theorem dX12_inJoins_6 : decode cX12_inJoins 6 = .ok (.invokevirtual 192, 3) := by decide +kernel
theorem dX12_inJoins_9 : decode cX12_inJoins 9 = .ok (.iaload, 1) := by decide +kernel
theorem dX12_inJoins_10 : decode cX12_inJoins 10 = .ok (.ireturn, 1) := by decide +kernel
theorem dX12_meets_0 : decode cX12_meets 0 = .ok (.lload_n 0, 1) := by decide +kernel
theorem dX12_meets_1 : decode cX12_meets 1 = .ok (.invokestatic 174, 3) := by decide +kernel
theorem dX12_meets_4 : decode cX12_meets 4 = .ok (.lload_n 2, 1) := by decide +kernel
theorem dX12_meets_5 : decode cX12_meets 5 = .ok (.invokestatic 177, 3) := by decide +kernel
theorem dX12_meets_8 : decode cX12_meets 8 = .ok (.if_icmp .ne 7, 3) := by decide +kernel
theorem dX12_meets_11 : decode cX12_meets 11 = .ok (.iconst 1, 1) := by decide +kernel
theorem dX12_meets_12 : decode cX12_meets 12 = .ok (.goto 4, 3) := by decide +kernel
theorem dX12_meets_15 : decode cX12_meets 15 = .ok (.iconst 0, 1) := by decide +kernel
theorem dX12_meets_16 : decode cX12_meets 16 = .ok (.ireturn, 1) := by decide +kernel
theorem dX12_joinsOf_0 : decode cX12_joinsOf 0 = .ok (.lload_n 1, 1) := by decide +kernel
theorem dX12_joinsOf_1 : decode cX12_joinsOf 1 = .ok (.invokestatic 152, 3) := by decide +kernel
theorem dX12_joinsOf_4 : decode cX12_joinsOf 4 = .ok (.istore_n 3, 1) := by decide +kernel
theorem dX12_joinsOf_5 : decode cX12_joinsOf 5 = .ok (.iconst 0, 1) := by decide +kernel
theorem dX12_joinsOf_6 : decode cX12_joinsOf 6 = .ok (.istore 4, 2) := by decide +kernel
theorem dX12_joinsOf_8 : decode cX12_joinsOf 8 = .ok (.iconst 2, 1) := by decide +kernel
theorem dX12_joinsOf_9 : decode cX12_joinsOf 9 = .ok (.istore 5, 2) := by decide +kernel
theorem dX12_joinsOf_11 : decode cX12_joinsOf 11 = .ok (.iload 5, 2) := by decide +kernel
theorem dX12_joinsOf_13 : decode cX12_joinsOf 13 = .ok (.iload_n 3, 1) := by decide +kernel
theorem dX12_joinsOf_14 : decode cX12_joinsOf 14 = .ok (.iconst 2, 1) := by decide +kernel
theorem dX12_joinsOf_15 : decode cX12_joinsOf 15 = .ok (.isub, 1) := by decide +kernel
theorem dX12_joinsOf_16 : decode cX12_joinsOf 16 = .ok (.if_icmp .gt 161, 3) := by decide +kernel
theorem dX12_joinsOf_19 : decode cX12_joinsOf 19 = .ok (.lload_n 1, 1) := by decide +kernel
theorem dX12_joinsOf_20 : decode cX12_joinsOf 20 = .ok (.iconst 0, 1) := by decide +kernel
theorem dX12_joinsOf_21 : decode cX12_joinsOf 21 = .ok (.iload 5, 2) := by decide +kernel
theorem dX12_joinsOf_23 : decode cX12_joinsOf 23 = .ok (.invokestatic 184, 3) := by decide +kernel
theorem dX12_joinsOf_26 : decode cX12_joinsOf 26 = .ok (.lstore 6, 2) := by decide +kernel
theorem dX12_joinsOf_28 : decode cX12_joinsOf 28 = .ok (.lload_n 1, 1) := by decide +kernel
theorem dX12_joinsOf_29 : decode cX12_joinsOf 29 = .ok (.iload 5, 2) := by decide +kernel
theorem dX12_joinsOf_31 : decode cX12_joinsOf 31 = .ok (.iload_n 3, 1) := by decide +kernel
theorem dX12_joinsOf_32 : decode cX12_joinsOf 32 = .ok (.invokestatic 184, 3) := by decide +kernel
theorem dX12_joinsOf_35 : decode cX12_joinsOf 35 = .ok (.lstore 8, 2) := by decide +kernel
theorem dX12_joinsOf_37 : decode cX12_joinsOf 37 = .ok (.aload_n 0, 1) := by decide +kernel
theorem dX12_joinsOf_38 : decode cX12_joinsOf 38 = .ok (.lload 6, 2) := by decide +kernel
theorem dX12_joinsOf_40 : decode cX12_joinsOf 40 = .ok (.invokevirtual 218, 3) := by decide +kernel
theorem dX12_joinsOf_43 : decode cX12_joinsOf 43 = .ok (.ifCond .eq 7, 3) := by decide +kernel
theorem dX12_joinsOf_46 : decode cX12_joinsOf 46 = .ok (.iconst 1, 1) := by decide +kernel
theorem dX12_joinsOf_47 : decode cX12_joinsOf 47 = .ok (.goto 4, 3) := by decide +kernel
theorem dX12_joinsOf_50 : decode cX12_joinsOf 50 = .ok (.iconst 0, 1) := by decide +kernel
theorem dX12_joinsOf_51 : decode cX12_joinsOf 51 = .ok (.istore 10, 2) := by decide +kernel
theorem dX12_joinsOf_53 : decode cX12_joinsOf 53 = .ok (.iload 4, 2) := by decide +kernel
theorem dX12_joinsOf_55 : decode cX12_joinsOf 55 = .ok (.iload 10, 2) := by decide +kernel
theorem dX12_joinsOf_57 : decode cX12_joinsOf 57 = .ok (.ifCond .eq 22, 3) := by decide +kernel
theorem dX12_joinsOf_60 : decode cX12_joinsOf 60 = .ok (.lload 6, 2) := by decide +kernel
theorem dX12_joinsOf_62 : decode cX12_joinsOf 62 = .ok (.lload 8, 2) := by decide +kernel
theorem dX12_joinsOf_64 : decode cX12_joinsOf 64 = .ok (.invokestatic 221, 3) := by decide +kernel
theorem dX12_joinsOf_67 : decode cX12_joinsOf 67 = .ok (.ifCond .ne 12, 3) := by decide +kernel
theorem dX12_joinsOf_70 : decode cX12_joinsOf 70 = .ok (.aload_n 0, 1) := by decide +kernel
theorem dX12_joinsOf_71 : decode cX12_joinsOf 71 = .ok (.lload 8, 2) := by decide +kernel
theorem dX12_joinsOf_73 : decode cX12_joinsOf 73 = .ok (.invokevirtual 218, 3) := by decide +kernel
theorem dX12_joinsOf_76 : decode cX12_joinsOf 76 = .ok (.goto 4, 3) := by decide +kernel
theorem dX12_joinsOf_79 : decode cX12_joinsOf 79 = .ok (.iconst 0, 1) := by decide +kernel
theorem dX12_joinsOf_80 : decode cX12_joinsOf 80 = .ok (.ior, 1) := by decide +kernel
theorem dX12_joinsOf_81 : decode cX12_joinsOf 81 = .ok (.istore 4, 2) := by decide +kernel
theorem dX12_joinsOf_83 : decode cX12_joinsOf 83 = .ok (.iload 5, 2) := by decide +kernel
theorem dX12_joinsOf_85 : decode cX12_joinsOf 85 = .ok (.iconst 2, 1) := by decide +kernel
theorem dX12_joinsOf_86 : decode cX12_joinsOf 86 = .ok (.iadd, 1) := by decide +kernel
theorem dX12_joinsOf_87 : decode cX12_joinsOf 87 = .ok (.istore 11, 2) := by decide +kernel
theorem dX12_joinsOf_89 : decode cX12_joinsOf 89 = .ok (.iload 11, 2) := by decide +kernel
theorem dX12_joinsOf_91 : decode cX12_joinsOf 91 = .ok (.iload_n 3, 1) := by decide +kernel
theorem dX12_joinsOf_92 : decode cX12_joinsOf 92 = .ok (.iconst 2, 1) := by decide +kernel
theorem dX12_joinsOf_93 : decode cX12_joinsOf 93 = .ok (.isub, 1) := by decide +kernel
theorem dX12_joinsOf_94 : decode cX12_joinsOf 94 = .ok (.if_icmp .gt 77, 3) := by decide +kernel
theorem dX12_joinsOf_97 : decode cX12_joinsOf 97 = .ok (.iload 10, 2) := by decide +kernel
theorem dX12_joinsOf_99 : decode cX12_joinsOf 99 = .ok (.ifCond .eq 72, 3) := by decide +kernel
theorem dX12_joinsOf_102 : decode cX12_joinsOf 102 = .ok (.lload_n 1, 1) := by decide +kernel
theorem dX12_joinsOf_103 : decode cX12_joinsOf 103 = .ok (.iload 5, 2) := by decide +kernel
theorem dX12_joinsOf_105 : decode cX12_joinsOf 105 = .ok (.iload 11, 2) := by decide +kernel
theorem dX12_joinsOf_107 : decode cX12_joinsOf 107 = .ok (.invokestatic 184, 3) := by decide +kernel
theorem dX12_joinsOf_110 : decode cX12_joinsOf 110 = .ok (.lstore 12, 2) := by decide +kernel
theorem dX12_joinsOf_112 : decode cX12_joinsOf 112 = .ok (.lload_n 1, 1) := by decide +kernel
theorem dX12_joinsOf_113 : decode cX12_joinsOf 113 = .ok (.iload 11, 2) := by decide +kernel
theorem dX12_joinsOf_115 : decode cX12_joinsOf 115 = .ok (.iload_n 3, 1) := by decide +kernel
theorem dX12_joinsOf_116 : decode cX12_joinsOf 116 = .ok (.invokestatic 184, 3) := by decide +kernel
theorem dX12_joinsOf_119 : decode cX12_joinsOf 119 = .ok (.lstore 14, 2) := by decide +kernel
theorem dX12_joinsOf_121 : decode cX12_joinsOf 121 = .ok (.iload 4, 2) := by decide +kernel
theorem dX12_joinsOf_123 : decode cX12_joinsOf 123 = .ok (.aload_n 0, 1) := by decide +kernel
theorem dX12_joinsOf_124 : decode cX12_joinsOf 124 = .ok (.lload 12, 2) := by decide +kernel
theorem dX12_joinsOf_126 : decode cX12_joinsOf 126 = .ok (.invokevirtual 218, 3) := by decide +kernel
theorem dX12_joinsOf_129 : decode cX12_joinsOf 129 = .ok (.ifCond .eq 32, 3) := by decide +kernel
theorem dX12_joinsOf_132 : decode cX12_joinsOf 132 = .ok (.lload 6, 2) := by decide +kernel
theorem dX12_joinsOf_134 : decode cX12_joinsOf 134 = .ok (.lload 12, 2) := by decide +kernel
theorem dX12_joinsOf_136 : decode cX12_joinsOf 136 = .ok (.invokestatic 221, 3) := by decide +kernel
theorem dX12_joinsOf_139 : decode cX12_joinsOf 139 = .ok (.ifCond .ne 22, 3) := by decide +kernel
theorem dX12_joinsOf_142 : decode cX12_joinsOf 142 = .ok (.lload 12, 2) := by decide +kernel
theorem dX12_joinsOf_144 : decode cX12_joinsOf 144 = .ok (.lload 14, 2) := by decide +kernel
theorem dX12_joinsOf_146 : decode cX12_joinsOf 146 = .ok (.invokestatic 221, 3) := by decide +kernel
theorem dX12_joinsOf_149 : decode cX12_joinsOf 149 = .ok (.ifCond .ne 12, 3) := by decide +kernel
theorem dX12_joinsOf_152 : decode cX12_joinsOf 152 = .ok (.aload_n 0, 1) := by decide +kernel
theorem dX12_joinsOf_153 : decode cX12_joinsOf 153 = .ok (.lload 14, 2) := by decide +kernel
theorem dX12_joinsOf_155 : decode cX12_joinsOf 155 = .ok (.invokevirtual 218, 3) := by decide +kernel
theorem dX12_joinsOf_158 : decode cX12_joinsOf 158 = .ok (.goto 4, 3) := by decide +kernel
theorem dX12_joinsOf_161 : decode cX12_joinsOf 161 = .ok (.iconst 0, 1) := by decide +kernel
theorem dX12_joinsOf_162 : decode cX12_joinsOf 162 = .ok (.ior, 1) := by decide +kernel
theorem dX12_joinsOf_163 : decode cX12_joinsOf 163 = .ok (.istore 4, 2) := by decide +kernel
theorem dX12_joinsOf_165 : decode cX12_joinsOf 165 = .ok (.iinc 11 1, 3) := by decide +kernel
theorem dX12_joinsOf_168 : decode cX12_joinsOf 168 = .ok (.goto (-79), 3) := by decide +kernel
theorem dX12_joinsOf_171 : decode cX12_joinsOf 171 = .ok (.iinc 5 1, 3) := by decide +kernel
theorem dX12_joinsOf_174 : decode cX12_joinsOf 174 = .ok (.goto (-163), 3) := by decide +kernel
theorem dX12_joinsOf_177 : decode cX12_joinsOf 177 = .ok (.iload 4, 2) := by decide +kernel
theorem dX12_joinsOf_179 : decode cX12_joinsOf 179 = .ok (.ireturn, 1) := by decide +kernel
theorem dX12_readingsOf_0 : decode cX12_readingsOf 0 = .ok (.lload_n 1, 1) := by decide +kernel
theorem dX12_readingsOf_1 : decode cX12_readingsOf 1 = .ok (.lconst 0, 1) := by decide +kernel
theorem dX12_readingsOf_2 : decode cX12_readingsOf 2 = .ok (.lcmp, 1) := by decide +kernel
theorem dX12_readingsOf_3 : decode cX12_readingsOf 3 = .ok (.ifCond .eq 12, 3) := by decide +kernel
theorem dX12_readingsOf_6 : decode cX12_readingsOf 6 = .ok (.aload_n 0, 1) := by decide +kernel
theorem dX12_readingsOf_7 : decode cX12_readingsOf 7 = .ok (.lload_n 1, 1) := by decide +kernel
theorem dX12_readingsOf_8 : decode cX12_readingsOf 8 = .ok (.invokevirtual 225, 3) := by decide +kernel
theorem dX12_readingsOf_11 : decode cX12_readingsOf 11 = .ok (.iconst (-1), 1) := by decide +kernel
theorem dX12_readingsOf_12 : decode cX12_readingsOf 12 = .ok (.if_icmp .eq 5, 3) := by decide +kernel
theorem dX12_readingsOf_15 : decode cX12_readingsOf 15 = .ok (.iconst 0, 1) := by decide +kernel
theorem dX12_readingsOf_16 : decode cX12_readingsOf 16 = .ok (.ireturn, 1) := by decide +kernel
theorem dX12_readingsOf_17 : decode cX12_readingsOf 17 = .ok (.aload_n 0, 1) := by decide +kernel
theorem dX12_readingsOf_18 : decode cX12_readingsOf 18 = .ok (.lload_n 1, 1) := by decide +kernel
theorem dX12_readingsOf_19 : decode cX12_readingsOf 19 = .ok (.invokevirtual 228, 3) := by decide +kernel
theorem dX12_readingsOf_22 : decode cX12_readingsOf 22 = .ok (.istore_n 3, 1) := by decide +kernel
theorem dX12_readingsOf_23 : decode cX12_readingsOf 23 = .ok (.iload_n 3, 1) := by decide +kernel
theorem dX12_readingsOf_24 : decode cX12_readingsOf 24 = .ok (.iconst (-1), 1) := by decide +kernel
theorem dX12_readingsOf_25 : decode cX12_readingsOf 25 = .ok (.if_icmp .ne 7, 3) := by decide +kernel
theorem dX12_readingsOf_28 : decode cX12_readingsOf 28 = .ok (.iconst 0, 1) := by decide +kernel
theorem dX12_readingsOf_29 : decode cX12_readingsOf 29 = .ok (.goto 11, 3) := by decide +kernel
theorem dX12_readingsOf_32 : decode cX12_readingsOf 32 = .ok (.iconst 1, 1) := by decide +kernel
theorem dX12_readingsOf_33 : decode cX12_readingsOf 33 = .ok (.aload_n 0, 1) := by decide +kernel
theorem dX12_readingsOf_34 : decode cX12_readingsOf 34 = .ok (.getfield 56, 3) := by decide +kernel
theorem dX12_readingsOf_37 : decode cX12_readingsOf 37 = .ok (.iload_n 3, 1) := by decide +kernel
theorem dX12_readingsOf_38 : decode cX12_readingsOf 38 = .ok (.iaload, 1) := by decide +kernel
theorem dX12_readingsOf_39 : decode cX12_readingsOf 39 = .ok (.ishl, 1) := by decide +kernel
theorem dX12_readingsOf_40 : decode cX12_readingsOf 40 = .ok (.aload_n 0, 1) := by decide +kernel
theorem dX12_readingsOf_41 : decode cX12_readingsOf 41 = .ok (.getfield 92, 3) := by decide +kernel
theorem dX12_readingsOf_44 : decode cX12_readingsOf 44 = .ok (.aload_n 0, 1) := by decide +kernel
theorem dX12_readingsOf_45 : decode cX12_readingsOf 45 = .ok (.lload_n 1, 1) := by decide +kernel
theorem dX12_readingsOf_46 : decode cX12_readingsOf 46 = .ok (.invokevirtual 192, 3) := by decide +kernel
theorem dX12_readingsOf_49 : decode cX12_readingsOf 49 = .ok (.iaload, 1) := by decide +kernel
theorem dX12_readingsOf_50 : decode cX12_readingsOf 50 = .ok (.ior, 1) := by decide +kernel
theorem dX12_readingsOf_51 : decode cX12_readingsOf 51 = .ok (.aload_n 0, 1) := by decide +kernel
theorem dX12_readingsOf_52 : decode cX12_readingsOf 52 = .ok (.lload_n 1, 1) := by decide +kernel
theorem dX12_readingsOf_53 : decode cX12_readingsOf 53 = .ok (.invokevirtual 231, 3) := by decide +kernel
theorem dX12_readingsOf_56 : decode cX12_readingsOf 56 = .ok (.ior, 1) := by decide +kernel
theorem dX12_readingsOf_57 : decode cX12_readingsOf 57 = .ok (.ireturn, 1) := by decide +kernel
theorem dX12_own_0 : decode cX12_own 0 = .ok (.aload_n 0, 1) := by decide +kernel
theorem dX12_own_1 : decode cX12_own 1 = .ok (.iload_n 1, 1) := by decide +kernel
theorem dX12_own_2 : decode cX12_own 2 = .ok (.iconst 0, 1) := by decide +kernel
theorem dX12_own_3 : decode cX12_own 3 = .ok (.iconst 3, 1) := by decide +kernel
theorem dX12_own_4 : decode cX12_own 4 = .ok (.invokestatic 156, 3) := by decide +kernel
theorem dX12_own_7 : decode cX12_own 7 = .ok (.ifCond .eq 12, 3) := by decide +kernel
theorem dX12_own_10 : decode cX12_own 10 = .ok (.iload_n 2, 1) := by decide +kernel
theorem dX12_own_11 : decode cX12_own 11 = .ok (.iconst 0, 1) := by decide +kernel
theorem dX12_own_12 : decode cX12_own 12 = .ok (.iconst 1, 1) := by decide +kernel
theorem dX12_own_13 : decode cX12_own 13 = .ok (.invokestatic 156, 3) := by decide +kernel
theorem dX12_own_16 : decode cX12_own 16 = .ok (.ifCond .ne 7, 3) := by decide +kernel
theorem dX12_own_19 : decode cX12_own 19 = .ok (.iconst 1, 1) := by decide +kernel
theorem dX12_own_20 : decode cX12_own 20 = .ok (.goto 38, 3) := by decide +kernel
theorem dX12_own_23 : decode cX12_own 23 = .ok (.aload_n 0, 1) := by decide +kernel
theorem dX12_own_24 : decode cX12_own 24 = .ok (.getfield 160, 3) := by decide +kernel
theorem dX12_own_27 : decode cX12_own 27 = .ok (.lconst 0, 1) := by decide +kernel
theorem dX12_own_28 : decode cX12_own 28 = .ok (.lcmp, 1) := by decide +kernel
theorem dX12_own_29 : decode cX12_own 29 = .ok (.ifCond .eq 24, 3) := by decide +kernel
theorem dX12_own_32 : decode cX12_own 32 = .ok (.aload_n 0, 1) := by decide +kernel
theorem dX12_own_33 : decode cX12_own 33 = .ok (.getfield 212, 3) := by decide +kernel
theorem dX12_own_36 : decode cX12_own 36 = .ok (.bipush 10, 2) := by decide +kernel
theorem dX12_own_38 : decode cX12_own 38 = .ok (.if_icmp .ne 19, 3) := by decide +kernel
theorem dX12_own_41 : decode cX12_own 41 = .ok (.aload_n 0, 1) := by decide +kernel
theorem dX12_own_42 : decode cX12_own 42 = .ok (.aload_n 0, 1) := by decide +kernel
theorem dX12_own_43 : decode cX12_own 43 = .ok (.getfield 160, 3) := by decide +kernel
theorem dX12_own_46 : decode cX12_own 46 = .ok (.invokevirtual 228, 3) := by decide +kernel
theorem dX12_own_49 : decode cX12_own 49 = .ok (.iconst (-1), 1) := by decide +kernel
theorem dX12_own_50 : decode cX12_own 50 = .ok (.if_icmp .ne 7, 3) := by decide +kernel
theorem dX12_own_53 : decode cX12_own 53 = .ok (.iconst 2, 1) := by decide +kernel
theorem dX12_own_54 : decode cX12_own 54 = .ok (.goto 4, 3) := by decide +kernel
theorem dX12_own_57 : decode cX12_own 57 = .ok (.iconst 0, 1) := by decide +kernel
theorem dX12_own_58 : decode cX12_own 58 = .ok (.putfield 146, 3) := by decide +kernel
theorem dX12_own_61 : decode cX12_own 61 = .ok (.aload_n 0, 1) := by decide +kernel
theorem dX12_own_62 : decode cX12_own 62 = .ok (.getfield 146, 3) := by decide +kernel
theorem dX12_own_65 : decode cX12_own 65 = .ok (.ifCond .le 5, 3) := by decide +kernel
theorem dX12_own_68 : decode cX12_own 68 = .ok (.iconst 0, 1) := by decide +kernel
theorem dX12_own_69 : decode cX12_own 69 = .ok (.ireturn, 1) := by decide +kernel
theorem dX12_own_70 : decode cX12_own 70 = .ok (.aload_n 0, 1) := by decide +kernel
theorem dX12_own_71 : decode cX12_own 71 = .ok (.aload_n 0, 1) := by decide +kernel
theorem dX12_own_72 : decode cX12_own 72 = .ok (.getfield 160, 3) := by decide +kernel
theorem dX12_own_75 : decode cX12_own 75 = .ok (.iconst 2, 1) := by decide +kernel
theorem dX12_own_76 : decode cX12_own 76 = .ok (.iload_n 1, 1) := by decide +kernel
theorem dX12_own_77 : decode cX12_own 77 = .ok (.imul, 1) := by decide +kernel
theorem dX12_own_78 : decode cX12_own 78 = .ok (.iload_n 2, 1) := by decide +kernel
theorem dX12_own_79 : decode cX12_own 79 = .ok (.iadd, 1) := by decide +kernel
theorem dX12_own_80 : decode cX12_own 80 = .ok (.invokevirtual 234, 3) := by decide +kernel
theorem dX12_own_83 : decode cX12_own 83 = .ok (.aload_n 0, 1) := by decide +kernel
theorem dX12_own_84 : decode cX12_own 84 = .ok (.aload_n 0, 1) := by decide +kernel
theorem dX12_own_85 : decode cX12_own 85 = .ok (.getfield 160, 3) := by decide +kernel
theorem dX12_own_88 : decode cX12_own 88 = .ok (.invokevirtual 225, 3) := by decide +kernel
theorem dX12_own_91 : decode cX12_own 91 = .ok (.istore_n 3, 1) := by decide +kernel
theorem dX12_own_92 : decode cX12_own 92 = .ok (.iload_n 3, 1) := by decide +kernel
theorem dX12_own_93 : decode cX12_own 93 = .ok (.iconst (-1), 1) := by decide +kernel
theorem dX12_own_94 : decode cX12_own 94 = .ok (.if_icmp .eq 28, 3) := by decide +kernel
theorem dX12_own_97 : decode cX12_own 97 = .ok (.aload_n 0, 1) := by decide +kernel
theorem dX12_own_98 : decode cX12_own 98 = .ok (.dup, 1) := by decide +kernel
theorem dX12_own_99 : decode cX12_own 99 = .ok (.getfield 215, 3) := by decide +kernel
theorem dX12_own_102 : decode cX12_own 102 = .ok (.iconst 1, 1) := by decide +kernel
theorem dX12_own_103 : decode cX12_own 103 = .ok (.isub, 1) := by decide +kernel
theorem dX12_own_104 : decode cX12_own 104 = .ok (.putfield 215, 3) := by decide +kernel
theorem dX12_own_107 : decode cX12_own 107 = .ok (.aload_n 0, 1) := by decide +kernel
theorem dX12_own_108 : decode cX12_own 108 = .ok (.getfield 59, 3) := by decide +kernel
theorem dX12_own_111 : decode cX12_own 111 = .ok (.iload_n 3, 1) := by decide +kernel
theorem dX12_own_112 : decode cX12_own 112 = .ok (.aload_n 0, 1) := by decide +kernel
theorem dX12_own_113 : decode cX12_own 113 = .ok (.getfield 59, 3) := by decide +kernel
theorem dX12_own_116 : decode cX12_own 116 = .ok (.aload_n 0, 1) := by decide +kernel
theorem dX12_own_117 : decode cX12_own 117 = .ok (.getfield 215, 3) := by decide +kernel
theorem dX12_own_120 : decode cX12_own 120 = .ok (.laload, 1) := by decide +kernel
theorem dX12_own_121 : decode cX12_own 121 = .ok (.lastore, 1) := by decide +kernel
theorem dX12_own_122 : decode cX12_own 122 = .ok (.aload_n 0, 1) := by decide +kernel
theorem dX12_own_123 : decode cX12_own 123 = .ok (.lconst 0, 1) := by decide +kernel
theorem dX12_own_124 : decode cX12_own 124 = .ok (.putfield 160, 3) := by decide +kernel
theorem dX12_own_127 : decode cX12_own 127 = .ok (.aload_n 0, 1) := by decide +kernel
theorem dX12_own_128 : decode cX12_own 128 = .ok (.getfield 212, 3) := by decide +kernel
theorem dX12_own_131 : decode cX12_own 131 = .ok (.ireturn, 1) := by decide +kernel
theorem dX12_owns_0 : decode cX12_owns 0 = .ok (.aload_n 0, 1) := by decide +kernel
theorem dX12_owns_1 : decode cX12_owns 1 = .ok (.lload_n 1, 1) := by decide +kernel
theorem dX12_owns_2 : decode cX12_owns 2 = .ok (.invokevirtual 228, 3) := by decide +kernel
theorem dX12_owns_5 : decode cX12_owns 5 = .ok (.istore 4, 2) := by decide +kernel
theorem dX12_owns_7 : decode cX12_owns 7 = .ok (.iload 4, 2) := by decide +kernel
theorem dX12_owns_9 : decode cX12_owns 9 = .ok (.iconst (-1), 1) := by decide +kernel
theorem dX12_owns_10 : decode cX12_owns 10 = .ok (.if_icmp .ne 10, 3) := by decide +kernel
theorem dX12_owns_13 : decode cX12_owns 13 = .ok (.aload_n 0, 1) := by decide +kernel
theorem dX12_owns_14 : decode cX12_owns 14 = .ok (.getfield 212, 3) := by decide +kernel
theorem dX12_owns_17 : decode cX12_owns 17 = .ok (.goto 5, 3) := by decide +kernel
theorem dX12_owns_20 : decode cX12_owns 20 = .ok (.iload 4, 2) := by decide +kernel
theorem dX12_owns_22 : decode cX12_owns 22 = .ok (.istore 4, 2) := by decide +kernel
theorem dX12_owns_24 : decode cX12_owns 24 = .ok (.aload_n 0, 1) := by decide +kernel
theorem dX12_owns_25 : decode cX12_owns 25 = .ok (.dup, 1) := by decide +kernel
theorem dX12_owns_26 : decode cX12_owns 26 = .ok (.getfield 212, 3) := by decide +kernel
theorem dX12_owns_29 : decode cX12_owns 29 = .ok (.iload 4, 2) := by decide +kernel
theorem dX12_owns_31 : decode cX12_owns 31 = .ok (.aload_n 0, 1) := by decide +kernel
theorem dX12_owns_32 : decode cX12_owns 32 = .ok (.getfield 212, 3) := by decide +kernel
theorem dX12_owns_35 : decode cX12_owns 35 = .ok (.if_icmp .ne 7, 3) := by decide +kernel
theorem dX12_owns_38 : decode cX12_owns 38 = .ok (.iconst 1, 1) := by decide +kernel
theorem dX12_owns_39 : decode cX12_owns 39 = .ok (.goto 4, 3) := by decide +kernel
theorem dX12_owns_42 : decode cX12_owns 42 = .ok (.iconst 0, 1) := by decide +kernel
theorem dX12_owns_43 : decode cX12_owns 43 = .ok (.iadd, 1) := by decide +kernel
theorem dX12_owns_44 : decode cX12_owns 44 = .ok (.putfield 212, 3) := by decide +kernel
theorem dX12_owns_47 : decode cX12_owns 47 = .ok (.aload_n 0, 1) := by decide +kernel
theorem dX12_owns_48 : decode cX12_owns 48 = .ok (.getfield 53, 3) := by decide +kernel
theorem dX12_owns_51 : decode cX12_owns 51 = .ok (.iload 4, 2) := by decide +kernel
theorem dX12_owns_53 : decode cX12_owns 53 = .ok (.lload_n 1, 1) := by decide +kernel
theorem dX12_owns_54 : decode cX12_owns 54 = .ok (.lastore, 1) := by decide +kernel
theorem dX12_owns_55 : decode cX12_owns 55 = .ok (.aload_n 0, 1) := by decide +kernel
theorem dX12_owns_56 : decode cX12_owns 56 = .ok (.getfield 56, 3) := by decide +kernel
theorem dX12_owns_59 : decode cX12_owns 59 = .ok (.iload 4, 2) := by decide +kernel
theorem dX12_owns_61 : decode cX12_owns 61 = .ok (.iload_n 3, 1) := by decide +kernel
theorem dX12_owns_62 : decode cX12_owns 62 = .ok (.iastore, 1) := by decide +kernel
theorem dX12_owns_63 : decode cX12_owns 63 = .ok (.return_, 1) := by decide +kernel
theorem dX12_bar_0 : decode cX12_bar 0 = .ok (.aload_n 0, 1) := by decide +kernel
theorem dX12_bar_1 : decode cX12_bar 1 = .ok (.aload_n 0, 1) := by decide +kernel
theorem dX12_bar_2 : decode cX12_bar 2 = .ok (.getfield 160, 3) := by decide +kernel
theorem dX12_bar_5 : decode cX12_bar 5 = .ok (.lconst 0, 1) := by decide +kernel
theorem dX12_bar_6 : decode cX12_bar 6 = .ok (.lcmp, 1) := by decide +kernel
theorem dX12_bar_7 : decode cX12_bar 7 = .ok (.ifCond .eq 24, 3) := by decide +kernel
theorem dX12_bar_10 : decode cX12_bar 10 = .ok (.aload_n 0, 1) := by decide +kernel
theorem dX12_bar_11 : decode cX12_bar 11 = .ok (.getfield 215, 3) := by decide +kernel
theorem dX12_bar_14 : decode cX12_bar 14 = .ok (.bipush 10, 2) := by decide +kernel
theorem dX12_bar_16 : decode cX12_bar 16 = .ok (.if_icmp .ne 19, 3) := by decide +kernel
theorem dX12_bar_19 : decode cX12_bar 19 = .ok (.aload_n 0, 1) := by decide +kernel
theorem dX12_bar_20 : decode cX12_bar 20 = .ok (.aload_n 0, 1) := by decide +kernel
theorem dX12_bar_21 : decode cX12_bar 21 = .ok (.getfield 160, 3) := by decide +kernel
theorem dX12_bar_24 : decode cX12_bar 24 = .ok (.invokevirtual 225, 3) := by decide +kernel
theorem dX12_bar_27 : decode cX12_bar 27 = .ok (.iconst (-1), 1) := by decide +kernel
theorem dX12_bar_28 : decode cX12_bar 28 = .ok (.if_icmp .ne 7, 3) := by decide +kernel
theorem dX12_bar_31 : decode cX12_bar 31 = .ok (.iconst 1, 1) := by decide +kernel
theorem dX12_bar_32 : decode cX12_bar 32 = .ok (.goto 4, 3) := by decide +kernel
theorem dX12_bar_35 : decode cX12_bar 35 = .ok (.iconst 0, 1) := by decide +kernel
theorem dX12_bar_36 : decode cX12_bar 36 = .ok (.putfield 146, 3) := by decide +kernel
theorem dX12_bar_39 : decode cX12_bar 39 = .ok (.aload_n 0, 1) := by decide +kernel
theorem dX12_bar_40 : decode cX12_bar 40 = .ok (.getfield 146, 3) := by decide +kernel
theorem dX12_bar_43 : decode cX12_bar 43 = .ok (.ifCond .le 5, 3) := by decide +kernel
theorem dX12_bar_46 : decode cX12_bar 46 = .ok (.iconst 0, 1) := by decide +kernel
theorem dX12_bar_47 : decode cX12_bar 47 = .ok (.ireturn, 1) := by decide +kernel
theorem dX12_bar_48 : decode cX12_bar 48 = .ok (.aload_n 0, 1) := by decide +kernel
theorem dX12_bar_49 : decode cX12_bar 49 = .ok (.aload_n 0, 1) := by decide +kernel
theorem dX12_bar_50 : decode cX12_bar 50 = .ok (.getfield 160, 3) := by decide +kernel
theorem dX12_bar_53 : decode cX12_bar 53 = .ok (.invokevirtual 225, 3) := by decide +kernel
theorem dX12_bar_56 : decode cX12_bar 56 = .ok (.iconst (-1), 1) := by decide +kernel
theorem dX12_bar_57 : decode cX12_bar 57 = .ok (.if_icmp .ne 26, 3) := by decide +kernel
theorem dX12_bar_60 : decode cX12_bar 60 = .ok (.aload_n 0, 1) := by decide +kernel
theorem dX12_bar_61 : decode cX12_bar 61 = .ok (.getfield 59, 3) := by decide +kernel
theorem dX12_bar_64 : decode cX12_bar 64 = .ok (.aload_n 0, 1) := by decide +kernel
theorem dX12_bar_65 : decode cX12_bar 65 = .ok (.getfield 215, 3) := by decide +kernel
theorem dX12_bar_68 : decode cX12_bar 68 = .ok (.aload_n 0, 1) := by decide +kernel
theorem dX12_bar_69 : decode cX12_bar 69 = .ok (.getfield 160, 3) := by decide +kernel
theorem dX12_bar_72 : decode cX12_bar 72 = .ok (.lastore, 1) := by decide +kernel
theorem dX12_bar_73 : decode cX12_bar 73 = .ok (.aload_n 0, 1) := by decide +kernel
theorem dX12_bar_74 : decode cX12_bar 74 = .ok (.dup, 1) := by decide +kernel
theorem dX12_bar_75 : decode cX12_bar 75 = .ok (.getfield 215, 3) := by decide +kernel
theorem dX12_bar_78 : decode cX12_bar 78 = .ok (.iconst 1, 1) := by decide +kernel
theorem dX12_bar_79 : decode cX12_bar 79 = .ok (.iadd, 1) := by decide +kernel
theorem dX12_bar_80 : decode cX12_bar 80 = .ok (.putfield 215, 3) := by decide +kernel
theorem dX12_bar_83 : decode cX12_bar 83 = .ok (.aload_n 0, 1) := by decide +kernel
theorem dX12_bar_84 : decode cX12_bar 84 = .ok (.aload_n 0, 1) := by decide +kernel
theorem dX12_bar_85 : decode cX12_bar 85 = .ok (.getfield 160, 3) := by decide +kernel
theorem dX12_bar_88 : decode cX12_bar 88 = .ok (.invokevirtual 228, 3) := by decide +kernel
theorem dX12_bar_91 : decode cX12_bar 91 = .ok (.istore_n 1, 1) := by decide +kernel
theorem dX12_bar_92 : decode cX12_bar 92 = .ok (.iload_n 1, 1) := by decide +kernel
theorem dX12_bar_93 : decode cX12_bar 93 = .ok (.iconst (-1), 1) := by decide +kernel
theorem dX12_bar_94 : decode cX12_bar 94 = .ok (.if_icmp .eq 43, 3) := by decide +kernel
theorem dX12_bar_97 : decode cX12_bar 97 = .ok (.aload_n 0, 1) := by decide +kernel
theorem dX12_bar_98 : decode cX12_bar 98 = .ok (.dup, 1) := by decide +kernel
theorem dX12_bar_99 : decode cX12_bar 99 = .ok (.getfield 212, 3) := by decide +kernel
theorem dX12_bar_102 : decode cX12_bar 102 = .ok (.iconst 1, 1) := by decide +kernel
theorem dX12_bar_103 : decode cX12_bar 103 = .ok (.isub, 1) := by decide +kernel
theorem dX12_bar_104 : decode cX12_bar 104 = .ok (.putfield 212, 3) := by decide +kernel
theorem dX12_bar_107 : decode cX12_bar 107 = .ok (.aload_n 0, 1) := by decide +kernel
theorem dX12_bar_108 : decode cX12_bar 108 = .ok (.getfield 53, 3) := by decide +kernel
theorem dX12_bar_111 : decode cX12_bar 111 = .ok (.iload_n 1, 1) := by decide +kernel
theorem dX12_bar_112 : decode cX12_bar 112 = .ok (.aload_n 0, 1) := by decide +kernel
theorem dX12_bar_113 : decode cX12_bar 113 = .ok (.getfield 53, 3) := by decide +kernel
theorem dX12_bar_116 : decode cX12_bar 116 = .ok (.aload_n 0, 1) := by decide +kernel
theorem dX12_bar_117 : decode cX12_bar 117 = .ok (.getfield 212, 3) := by decide +kernel
theorem dX12_bar_120 : decode cX12_bar 120 = .ok (.laload, 1) := by decide +kernel
theorem dX12_bar_121 : decode cX12_bar 121 = .ok (.lastore, 1) := by decide +kernel
theorem dX12_bar_122 : decode cX12_bar 122 = .ok (.aload_n 0, 1) := by decide +kernel
theorem dX12_bar_123 : decode cX12_bar 123 = .ok (.getfield 56, 3) := by decide +kernel
theorem dX12_bar_126 : decode cX12_bar 126 = .ok (.iload_n 1, 1) := by decide +kernel
theorem dX12_bar_127 : decode cX12_bar 127 = .ok (.aload_n 0, 1) := by decide +kernel
theorem dX12_bar_128 : decode cX12_bar 128 = .ok (.getfield 56, 3) := by decide +kernel
theorem dX12_bar_131 : decode cX12_bar 131 = .ok (.aload_n 0, 1) := by decide +kernel
theorem dX12_bar_132 : decode cX12_bar 132 = .ok (.getfield 212, 3) := by decide +kernel
theorem dX12_bar_135 : decode cX12_bar 135 = .ok (.iaload, 1) := by decide +kernel
theorem dX12_bar_136 : decode cX12_bar 136 = .ok (.iastore, 1) := by decide +kernel
theorem dX12_bar_137 : decode cX12_bar 137 = .ok (.aload_n 0, 1) := by decide +kernel
theorem dX12_bar_138 : decode cX12_bar 138 = .ok (.lconst 0, 1) := by decide +kernel
theorem dX12_bar_139 : decode cX12_bar 139 = .ok (.putfield 160, 3) := by decide +kernel
theorem dX12_bar_142 : decode cX12_bar 142 = .ok (.aload_n 0, 1) := by decide +kernel
theorem dX12_bar_143 : decode cX12_bar 143 = .ok (.getfield 215, 3) := by decide +kernel
theorem dX12_bar_146 : decode cX12_bar 146 = .ok (.ireturn, 1) := by decide +kernel
theorem dX12_ignore_0 : decode cX12_ignore 0 = .ok (.aload_n 0, 1) := by decide +kernel
theorem dX12_ignore_1 : decode cX12_ignore 1 = .ok (.iload_n 1, 1) := by decide +kernel
theorem dX12_ignore_2 : decode cX12_ignore 2 = .ok (.invokevirtual 238, 3) := by decide +kernel
theorem dX12_ignore_5 : decode cX12_ignore 5 = .ok (.ifCond .ne 5, 3) := by decide +kernel
theorem dX12_ignore_8 : decode cX12_ignore 8 = .ok (.iconst 0, 1) := by decide +kernel
theorem dX12_ignore_9 : decode cX12_ignore 9 = .ok (.ireturn, 1) := by decide +kernel
theorem dX12_ignore_10 : decode cX12_ignore 10 = .ok (.aload_n 0, 1) := by decide +kernel
theorem dX12_ignore_11 : decode cX12_ignore 11 = .ok (.aload_n 0, 1) := by decide +kernel
theorem dX12_ignore_12 : decode cX12_ignore 12 = .ok (.getfield 113, 3) := by decide +kernel
theorem dX12_ignore_15 : decode cX12_ignore 15 = .ok (.iload_n 1, 1) := by decide +kernel
theorem dX12_ignore_16 : decode cX12_ignore 16 = .ok (.iaload, 1) := by decide +kernel
theorem dX12_ignore_17 : decode cX12_ignore 17 = .ok (.ifCond .ne 28, 3) := by decide +kernel
theorem dX12_ignore_20 : decode cX12_ignore 20 = .ok (.aload_n 0, 1) := by decide +kernel
theorem dX12_ignore_21 : decode cX12_ignore 21 = .ok (.getfield 110, 3) := by decide +kernel
theorem dX12_ignore_24 : decode cX12_ignore 24 = .ok (.iload_n 1, 1) := by decide +kernel
theorem dX12_ignore_25 : decode cX12_ignore 25 = .ok (.laload, 1) := by decide +kernel
theorem dX12_ignore_26 : decode cX12_ignore 26 = .ok (.lconst 0, 1) := by decide +kernel
theorem dX12_ignore_27 : decode cX12_ignore 27 = .ok (.lcmp, 1) := by decide +kernel
theorem dX12_ignore_28 : decode cX12_ignore 28 = .ok (.ifCond .eq 17, 3) := by decide +kernel
theorem dX12_ignore_31 : decode cX12_ignore 31 = .ok (.aload_n 0, 1) := by decide +kernel
theorem dX12_ignore_32 : decode cX12_ignore 32 = .ok (.aload_n 0, 1) := by decide +kernel
theorem dX12_ignore_33 : decode cX12_ignore 33 = .ok (.getfield 110, 3) := by decide +kernel
theorem dX12_ignore_36 : decode cX12_ignore 36 = .ok (.iload_n 1, 1) := by decide +kernel
theorem dX12_ignore_37 : decode cX12_ignore 37 = .ok (.laload, 1) := by decide +kernel
theorem dX12_ignore_38 : decode cX12_ignore 38 = .ok (.invokevirtual 225, 3) := by decide +kernel
theorem dX12_ignore_41 : decode cX12_ignore 41 = .ok (.iconst (-1), 1) := by decide +kernel
theorem dX12_ignore_42 : decode cX12_ignore 42 = .ok (.if_icmp .eq 7, 3) := by decide +kernel
theorem dX12_ignore_45 : decode cX12_ignore 45 = .ok (.iconst 2, 1) := by decide +kernel
theorem dX12_ignore_46 : decode cX12_ignore 46 = .ok (.goto 4, 3) := by decide +kernel
theorem dX12_ignore_49 : decode cX12_ignore 49 = .ok (.iconst 0, 1) := by decide +kernel
theorem dX12_ignore_50 : decode cX12_ignore 50 = .ok (.putfield 146, 3) := by decide +kernel
theorem dX12_ignore_53 : decode cX12_ignore 53 = .ok (.aload_n 0, 1) := by decide +kernel
theorem dX12_ignore_54 : decode cX12_ignore 54 = .ok (.getfield 146, 3) := by decide +kernel
theorem dX12_ignore_57 : decode cX12_ignore 57 = .ok (.ifCond .le 5, 3) := by decide +kernel
theorem dX12_ignore_60 : decode cX12_ignore 60 = .ok (.iconst 0, 1) := by decide +kernel
theorem dX12_ignore_61 : decode cX12_ignore 61 = .ok (.ireturn, 1) := by decide +kernel
theorem dX12_ignore_62 : decode cX12_ignore 62 = .ok (.iconst 0, 1) := by decide +kernel
theorem dX12_ignore_63 : decode cX12_ignore 63 = .ok (.istore_n 2, 1) := by decide +kernel
theorem dX12_ignore_64 : decode cX12_ignore 64 = .ok (.iload_n 2, 1) := by decide +kernel
theorem dX12_ignore_65 : decode cX12_ignore 65 = .ok (.aload_n 0, 1) := by decide +kernel
theorem dX12_ignore_66 : decode cX12_ignore 66 = .ok (.getfield 242, 3) := by decide +kernel
theorem dX12_ignore_69 : decode cX12_ignore 69 = .ok (.if_icmp .ge 25, 3) := by decide +kernel
theorem dX12_ignore_72 : decode cX12_ignore 72 = .ok (.aload_n 0, 1) := by decide +kernel
theorem dX12_ignore_73 : decode cX12_ignore 73 = .ok (.getfield 62, 3) := by decide +kernel
theorem dX12_ignore_76 : decode cX12_ignore 76 = .ok (.iload_n 2, 1) := by decide +kernel
theorem dX12_ignore_77 : decode cX12_ignore 77 = .ok (.laload, 1) := by decide +kernel
theorem dX12_ignore_78 : decode cX12_ignore 78 = .ok (.aload_n 0, 1) := by decide +kernel
theorem dX12_ignore_79 : decode cX12_ignore 79 = .ok (.getfield 110, 3) := by decide +kernel
theorem dX12_ignore_82 : decode cX12_ignore 82 = .ok (.iload_n 1, 1) := by decide +kernel
theorem dX12_ignore_83 : decode cX12_ignore 83 = .ok (.laload, 1) := by decide +kernel
theorem dX12_ignore_84 : decode cX12_ignore 84 = .ok (.lcmp, 1) := by decide +kernel
theorem dX12_ignore_85 : decode cX12_ignore 85 = .ok (.ifCond .eq 9, 3) := by decide +kernel
theorem dX12_ignore_88 : decode cX12_ignore 88 = .ok (.iinc 2 1, 3) := by decide +kernel
theorem dX12_ignore_91 : decode cX12_ignore 91 = .ok (.goto (-27), 3) := by decide +kernel
theorem dX12_ignore_94 : decode cX12_ignore 94 = .ok (.iload_n 2, 1) := by decide +kernel
theorem dX12_ignore_95 : decode cX12_ignore 95 = .ok (.aload_n 0, 1) := by decide +kernel
theorem dX12_ignore_96 : decode cX12_ignore 96 = .ok (.getfield 242, 3) := by decide +kernel
theorem dX12_ignore_99 : decode cX12_ignore 99 = .ok (.if_icmp .ne 32, 3) := by decide +kernel
theorem dX12_ignore_102 : decode cX12_ignore 102 = .ok (.aload_n 0, 1) := by decide +kernel
theorem dX12_ignore_103 : decode cX12_ignore 103 = .ok (.getfield 62, 3) := by decide +kernel
theorem dX12_ignore_106 : decode cX12_ignore 106 = .ok (.iload_n 2, 1) := by decide +kernel
theorem dX12_ignore_107 : decode cX12_ignore 107 = .ok (.aload_n 0, 1) := by decide +kernel
theorem dX12_ignore_108 : decode cX12_ignore 108 = .ok (.getfield 110, 3) := by decide +kernel
theorem dX12_ignore_111 : decode cX12_ignore 111 = .ok (.iload_n 1, 1) := by decide +kernel
theorem dX12_ignore_112 : decode cX12_ignore 112 = .ok (.laload, 1) := by decide +kernel
theorem dX12_ignore_113 : decode cX12_ignore 113 = .ok (.lastore, 1) := by decide +kernel
theorem dX12_ignore_114 : decode cX12_ignore 114 = .ok (.aload_n 0, 1) := by decide +kernel
theorem dX12_ignore_115 : decode cX12_ignore 115 = .ok (.getfield 65, 3) := by decide +kernel
theorem dX12_ignore_118 : decode cX12_ignore 118 = .ok (.iload_n 2, 1) := by decide +kernel
theorem dX12_ignore_119 : decode cX12_ignore 119 = .ok (.iconst 0, 1) := by decide +kernel
theorem dX12_ignore_120 : decode cX12_ignore 120 = .ok (.iastore, 1) := by decide +kernel
theorem dX12_ignore_121 : decode cX12_ignore 121 = .ok (.aload_n 0, 1) := by decide +kernel
theorem dX12_ignore_122 : decode cX12_ignore 122 = .ok (.dup, 1) := by decide +kernel
theorem dX12_ignore_123 : decode cX12_ignore 123 = .ok (.getfield 242, 3) := by decide +kernel
theorem dX12_ignore_126 : decode cX12_ignore 126 = .ok (.iconst 1, 1) := by decide +kernel
theorem dX12_ignore_127 : decode cX12_ignore 127 = .ok (.iadd, 1) := by decide +kernel
theorem dX12_ignore_128 : decode cX12_ignore 128 = .ok (.putfield 242, 3) := by decide +kernel
theorem dX12_ignore_131 : decode cX12_ignore 131 = .ok (.aload_n 0, 1) := by decide +kernel
theorem dX12_ignore_132 : decode cX12_ignore 132 = .ok (.getfield 65, 3) := by decide +kernel
theorem dX12_ignore_135 : decode cX12_ignore 135 = .ok (.iload_n 2, 1) := by decide +kernel
theorem dX12_ignore_136 : decode cX12_ignore 136 = .ok (.dup2, 1) := by decide +kernel
theorem dX12_ignore_137 : decode cX12_ignore 137 = .ok (.iaload, 1) := by decide +kernel
theorem dX12_ignore_138 : decode cX12_ignore 138 = .ok (.iconst 1, 1) := by decide +kernel
theorem dX12_ignore_139 : decode cX12_ignore 139 = .ok (.iadd, 1) := by decide +kernel
theorem dX12_ignore_140 : decode cX12_ignore 140 = .ok (.iastore, 1) := by decide +kernel
theorem dX12_ignore_141 : decode cX12_ignore 141 = .ok (.aload_n 0, 1) := by decide +kernel
theorem dX12_ignore_142 : decode cX12_ignore 142 = .ok (.getfield 65, 3) := by decide +kernel
theorem dX12_ignore_145 : decode cX12_ignore 145 = .ok (.iload_n 2, 1) := by decide +kernel
theorem dX12_ignore_146 : decode cX12_ignore 146 = .ok (.iaload, 1) := by decide +kernel
theorem dX12_ignore_147 : decode cX12_ignore 147 = .ok (.iconst 3, 1) := by decide +kernel
theorem dX12_ignore_148 : decode cX12_ignore 148 = .ok (.if_icmp .lt 30, 3) := by decide +kernel
theorem dX12_ignore_151 : decode cX12_ignore 151 = .ok (.aload_n 0, 1) := by decide +kernel
theorem dX12_ignore_152 : decode cX12_ignore 152 = .ok (.getfield 212, 3) := by decide +kernel
theorem dX12_ignore_155 : decode cX12_ignore 155 = .ok (.bipush 10, 2) := by decide +kernel
theorem dX12_ignore_157 : decode cX12_ignore 157 = .ok (.if_icmp .ge 21, 3) := by decide +kernel
theorem dX12_ignore_160 : decode cX12_ignore 160 = .ok (.aload_n 0, 1) := by decide +kernel
theorem dX12_ignore_161 : decode cX12_ignore 161 = .ok (.aload_n 0, 1) := by decide +kernel
theorem dX12_ignore_162 : decode cX12_ignore 162 = .ok (.getfield 110, 3) := by decide +kernel
theorem dX12_ignore_165 : decode cX12_ignore 165 = .ok (.iload_n 1, 1) := by decide +kernel
theorem dX12_ignore_166 : decode cX12_ignore 166 = .ok (.laload, 1) := by decide +kernel
theorem dX12_ignore_167 : decode cX12_ignore 167 = .ok (.iconst 0, 1) := by decide +kernel
theorem dX12_ignore_168 : decode cX12_ignore 168 = .ok (.invokevirtual 234, 3) := by decide +kernel
theorem dX12_ignore_171 : decode cX12_ignore 171 = .ok (.aload_n 0, 1) := by decide +kernel
theorem dX12_ignore_172 : decode cX12_ignore 172 = .ok (.getfield 65, 3) := by decide +kernel
theorem dX12_ignore_175 : decode cX12_ignore 175 = .ok (.iload_n 2, 1) := by decide +kernel
theorem dX12_ignore_176 : decode cX12_ignore 176 = .ok (.iconst 0, 1) := by decide +kernel
theorem dX12_ignore_177 : decode cX12_ignore 177 = .ok (.iastore, 1) := by decide +kernel
theorem dX12_ignore_178 : decode cX12_ignore 178 = .ok (.aload_n 0, 1) := by decide +kernel
theorem dX12_ignore_179 : decode cX12_ignore 179 = .ok (.getfield 65, 3) := by decide +kernel
theorem dX12_ignore_182 : decode cX12_ignore 182 = .ok (.iload_n 2, 1) := by decide +kernel
theorem dX12_ignore_183 : decode cX12_ignore 183 = .ok (.iaload, 1) := by decide +kernel
theorem dX12_ignore_184 : decode cX12_ignore 184 = .ok (.ireturn, 1) := by decide +kernel
theorem dX12_tell_0 : decode cX12_tell 0 = .ok (.aload_n 0, 1) := by decide +kernel
theorem dX12_tell_1 : decode cX12_tell 1 = .ok (.iload_n 1, 1) := by decide +kernel
theorem dX12_tell_2 : decode cX12_tell 2 = .ok (.iconst 0, 1) := by decide +kernel
theorem dX12_tell_3 : decode cX12_tell 3 = .ok (.iconst 3, 1) := by decide +kernel
theorem dX12_tell_4 : decode cX12_tell 4 = .ok (.invokestatic 156, 3) := by decide +kernel
theorem dX12_tell_7 : decode cX12_tell 7 = .ok (.ifCond .eq 25, 3) := by decide +kernel
theorem dX12_tell_10 : decode cX12_tell 10 = .ok (.iload_n 2, 1) := by decide +kernel
theorem dX12_tell_11 : decode cX12_tell 11 = .ok (.iconst 0, 1) := by decide +kernel
theorem dX12_tell_12 : decode cX12_tell 12 = .ok (.iconst 3, 1) := by decide +kernel
theorem dX12_tell_13 : decode cX12_tell 13 = .ok (.invokestatic 156, 3) := by decide +kernel
theorem dX12_tell_16 : decode cX12_tell 16 = .ok (.ifCond .eq 16, 3) := by decide +kernel
theorem dX12_tell_19 : decode cX12_tell 19 = .ok (.iload_n 3, 1) := by decide +kernel
theorem dX12_tell_20 : decode cX12_tell 20 = .ok (.iconst 0, 1) := by decide +kernel
theorem dX12_tell_21 : decode cX12_tell 21 = .ok (.iconst 2, 1) := by decide +kernel
theorem dX12_tell_22 : decode cX12_tell 22 = .ok (.invokestatic 156, 3) := by decide +kernel
theorem dX12_tell_25 : decode cX12_tell 25 = .ok (.ifCond .eq 7, 3) := by decide +kernel
theorem dX12_tell_28 : decode cX12_tell 28 = .ok (.iconst 0, 1) := by decide +kernel
theorem dX12_tell_29 : decode cX12_tell 29 = .ok (.goto 4, 3) := by decide +kernel
theorem dX12_tell_32 : decode cX12_tell 32 = .ok (.iconst 1, 1) := by decide +kernel
theorem dX12_tell_33 : decode cX12_tell 33 = .ok (.putfield 146, 3) := by decide +kernel
theorem dX12_tell_36 : decode cX12_tell 36 = .ok (.aload_n 0, 1) := by decide +kernel
theorem dX12_tell_37 : decode cX12_tell 37 = .ok (.getfield 146, 3) := by decide +kernel
theorem dX12_tell_40 : decode cX12_tell 40 = .ok (.ifCond .le 5, 3) := by decide +kernel
theorem dX12_tell_43 : decode cX12_tell 43 = .ok (.iconst 0, 1) := by decide +kernel
theorem dX12_tell_44 : decode cX12_tell 44 = .ok (.ireturn, 1) := by decide +kernel
theorem dX12_tell_45 : decode cX12_tell 45 = .ok (.aload_n 0, 1) := by decide +kernel
theorem dX12_tell_46 : decode cX12_tell 46 = .ok (.getfield 68, 3) := by decide +kernel
theorem dX12_tell_49 : decode cX12_tell 49 = .ok (.iconst 4, 1) := by decide +kernel
theorem dX12_tell_50 : decode cX12_tell 50 = .ok (.iload_n 1, 1) := by decide +kernel
theorem dX12_tell_51 : decode cX12_tell 51 = .ok (.imul, 1) := by decide +kernel
theorem dX12_tell_52 : decode cX12_tell 52 = .ok (.iload_n 2, 1) := by decide +kernel
theorem dX12_tell_53 : decode cX12_tell 53 = .ok (.iadd, 1) := by decide +kernel
theorem dX12_tell_54 : decode cX12_tell 54 = .ok (.iaload, 1) := by decide +kernel
theorem dX12_tell_55 : decode cX12_tell 55 = .ok (.istore 4, 2) := by decide +kernel
theorem dX12_tell_57 : decode cX12_tell 57 = .ok (.aload_n 0, 1) := by decide +kernel
theorem dX12_tell_58 : decode cX12_tell 58 = .ok (.getfield 68, 3) := by decide +kernel
theorem dX12_tell_61 : decode cX12_tell 61 = .ok (.iconst 4, 1) := by decide +kernel
theorem dX12_tell_62 : decode cX12_tell 62 = .ok (.iload_n 1, 1) := by decide +kernel
theorem dX12_tell_63 : decode cX12_tell 63 = .ok (.imul, 1) := by decide +kernel
theorem dX12_tell_64 : decode cX12_tell 64 = .ok (.iload_n 2, 1) := by decide +kernel
theorem dX12_tell_65 : decode cX12_tell 65 = .ok (.iadd, 1) := by decide +kernel
theorem dX12_tell_66 : decode cX12_tell 66 = .ok (.iload_n 3, 1) := by decide +kernel
theorem dX12_tell_67 : decode cX12_tell 67 = .ok (.iastore, 1) := by decide +kernel
theorem dX12_tell_68 : decode cX12_tell 68 = .ok (.iload 4, 2) := by decide +kernel
theorem dX12_tell_70 : decode cX12_tell 70 = .ok (.ireturn, 1) := by decide +kernel
theorem dX12_item_0 : decode cX12_item 0 = .ok (.aload_n 0, 1) := by decide +kernel
theorem dX12_item_1 : decode cX12_item 1 = .ok (.iload_n 1, 1) := by decide +kernel
theorem dX12_item_2 : decode cX12_item 2 = .ok (.iconst (-1), 1) := by decide +kernel
theorem dX12_item_3 : decode cX12_item 3 = .ok (.iconst 3, 1) := by decide +kernel
theorem dX12_item_4 : decode cX12_item 4 = .ok (.invokestatic 156, 3) := by decide +kernel
theorem dX12_item_7 : decode cX12_item 7 = .ok (.ifCond .ne 7, 3) := by decide +kernel
theorem dX12_item_10 : decode cX12_item 10 = .ok (.iconst 1, 1) := by decide +kernel
theorem dX12_item_11 : decode cX12_item 11 = .ok (.goto 33, 3) := by decide +kernel
theorem dX12_item_14 : decode cX12_item 14 = .ok (.aload_n 0, 1) := by decide +kernel
theorem dX12_item_15 : decode cX12_item 15 = .ok (.getfield 77, 3) := by decide +kernel
theorem dX12_item_18 : decode cX12_item 18 = .ok (.bipush 8, 2) := by decide +kernel
theorem dX12_item_20 : decode cX12_item 20 = .ok (.iaload, 1) := by decide +kernel
theorem dX12_item_21 : decode cX12_item 21 = .ok (.iconst 3, 1) := by decide +kernel
theorem dX12_item_22 : decode cX12_item 22 = .ok (.if_icmp .eq 17, 3) := by decide +kernel
theorem dX12_item_25 : decode cX12_item 25 = .ok (.iload_n 1, 1) := by decide +kernel
theorem dX12_item_26 : decode cX12_item 26 = .ok (.iconst (-1), 1) := by decide +kernel
theorem dX12_item_27 : decode cX12_item 27 = .ok (.if_icmp .ne 16, 3) := by decide +kernel
theorem dX12_item_30 : decode cX12_item 30 = .ok (.aload_n 0, 1) := by decide +kernel
theorem dX12_item_31 : decode cX12_item 31 = .ok (.getfield 160, 3) := by decide +kernel
theorem dX12_item_34 : decode cX12_item 34 = .ok (.lconst 0, 1) := by decide +kernel
theorem dX12_item_35 : decode cX12_item 35 = .ok (.lcmp, 1) := by decide +kernel
theorem dX12_item_36 : decode cX12_item 36 = .ok (.ifCond .ne 7, 3) := by decide +kernel
theorem dX12_item_39 : decode cX12_item 39 = .ok (.iconst 2, 1) := by decide +kernel
theorem dX12_item_40 : decode cX12_item 40 = .ok (.goto 4, 3) := by decide +kernel
theorem dX12_item_43 : decode cX12_item 43 = .ok (.iconst 0, 1) := by decide +kernel
theorem dX12_item_44 : decode cX12_item 44 = .ok (.putfield 146, 3) := by decide +kernel
theorem dX12_item_47 : decode cX12_item 47 = .ok (.aload_n 0, 1) := by decide +kernel
theorem dX12_item_48 : decode cX12_item 48 = .ok (.getfield 146, 3) := by decide +kernel
theorem dX12_item_51 : decode cX12_item 51 = .ok (.ifCond .le 5, 3) := by decide +kernel
theorem dX12_item_54 : decode cX12_item 54 = .ok (.iconst 0, 1) := by decide +kernel
theorem dX12_item_55 : decode cX12_item 55 = .ok (.ireturn, 1) := by decide +kernel
theorem dX12_item_56 : decode cX12_item 56 = .ok (.aload_n 0, 1) := by decide +kernel
theorem dX12_item_57 : decode cX12_item 57 = .ok (.getfield 71, 3) := by decide +kernel
theorem dX12_item_60 : decode cX12_item 60 = .ok (.bipush 24, 2) := by decide +kernel
theorem dX12_item_62 : decode cX12_item 62 = .ok (.aload_n 0, 1) := by decide +kernel
theorem dX12_item_63 : decode cX12_item 63 = .ok (.getfield 77, 3) := by decide +kernel
theorem dX12_item_66 : decode cX12_item 66 = .ok (.bipush 8, 2) := by decide +kernel
theorem dX12_item_68 : decode cX12_item 68 = .ok (.iaload, 1) := by decide +kernel
theorem dX12_item_69 : decode cX12_item 69 = .ok (.iadd, 1) := by decide +kernel
theorem dX12_item_70 : decode cX12_item 70 = .ok (.iload_n 1, 1) := by decide +kernel
theorem dX12_item_71 : decode cX12_item 71 = .ok (.iconst 1, 1) := by decide +kernel
theorem dX12_item_72 : decode cX12_item 72 = .ok (.iadd, 1) := by decide +kernel
theorem dX12_item_73 : decode cX12_item 73 = .ok (.iastore, 1) := by decide +kernel
theorem dX12_item_74 : decode cX12_item 74 = .ok (.aload_n 0, 1) := by decide +kernel
theorem dX12_item_75 : decode cX12_item 75 = .ok (.getfield 74, 3) := by decide +kernel
theorem dX12_item_78 : decode cX12_item 78 = .ok (.bipush 24, 2) := by decide +kernel
theorem dX12_item_80 : decode cX12_item 80 = .ok (.aload_n 0, 1) := by decide +kernel
theorem dX12_item_81 : decode cX12_item 81 = .ok (.getfield 77, 3) := by decide +kernel
theorem dX12_item_84 : decode cX12_item 84 = .ok (.bipush 8, 2) := by decide +kernel
theorem dX12_item_86 : decode cX12_item 86 = .ok (.iaload, 1) := by decide +kernel
theorem dX12_item_87 : decode cX12_item 87 = .ok (.iadd, 1) := by decide +kernel
theorem dX12_item_88 : decode cX12_item 88 = .ok (.iload_n 1, 1) := by decide +kernel
theorem dX12_item_89 : decode cX12_item 89 = .ok (.iconst (-1), 1) := by decide +kernel
theorem dX12_item_90 : decode cX12_item 90 = .ok (.if_icmp .ne 10, 3) := by decide +kernel
theorem dX12_item_93 : decode cX12_item 93 = .ok (.aload_n 0, 1) := by decide +kernel
theorem dX12_item_94 : decode cX12_item 94 = .ok (.getfield 160, 3) := by decide +kernel
theorem dX12_item_97 : decode cX12_item 97 = .ok (.goto 4, 3) := by decide +kernel
theorem dX12_item_100 : decode cX12_item 100 = .ok (.lconst 0, 1) := by decide +kernel
theorem dX12_item_101 : decode cX12_item 101 = .ok (.lastore, 1) := by decide +kernel
theorem dX12_item_102 : decode cX12_item 102 = .ok (.aload_n 0, 1) := by decide +kernel
theorem dX12_item_103 : decode cX12_item 103 = .ok (.iload_n 1, 1) := by decide +kernel
theorem dX12_item_104 : decode cX12_item 104 = .ok (.iconst (-1), 1) := by decide +kernel
theorem dX12_item_105 : decode cX12_item 105 = .ok (.if_icmp .ne 7, 3) := by decide +kernel
theorem dX12_item_108 : decode cX12_item 108 = .ok (.lconst 0, 1) := by decide +kernel
theorem dX12_item_109 : decode cX12_item 109 = .ok (.goto 7, 3) := by decide +kernel
theorem dX12_item_112 : decode cX12_item 112 = .ok (.aload_n 0, 1) := by decide +kernel
theorem dX12_item_113 : decode cX12_item 113 = .ok (.getfield 160, 3) := by decide +kernel
theorem dX12_item_116 : decode cX12_item 116 = .ok (.putfield 160, 3) := by decide +kernel
theorem dX12_item_119 : decode cX12_item 119 = .ok (.aload_n 0, 1) := by decide +kernel
theorem dX12_item_120 : decode cX12_item 120 = .ok (.getfield 77, 3) := by decide +kernel
theorem dX12_item_123 : decode cX12_item 123 = .ok (.bipush 8, 2) := by decide +kernel
theorem dX12_item_125 : decode cX12_item 125 = .ok (.dup2, 1) := by decide +kernel
theorem dX12_item_126 : decode cX12_item 126 = .ok (.iaload, 1) := by decide +kernel
theorem dX12_item_127 : decode cX12_item 127 = .ok (.iconst 1, 1) := by decide +kernel
theorem dX12_item_128 : decode cX12_item 128 = .ok (.iadd, 1) := by decide +kernel
theorem dX12_item_129 : decode cX12_item 129 = .ok (.iastore, 1) := by decide +kernel
theorem dX12_item_130 : decode cX12_item 130 = .ok (.aload_n 0, 1) := by decide +kernel
theorem dX12_item_131 : decode cX12_item 131 = .ok (.getfield 77, 3) := by decide +kernel
theorem dX12_item_134 : decode cX12_item 134 = .ok (.bipush 8, 2) := by decide +kernel
theorem dX12_item_136 : decode cX12_item 136 = .ok (.iaload, 1) := by decide +kernel
theorem dX12_item_137 : decode cX12_item 137 = .ok (.ireturn, 1) := by decide +kernel
theorem dX12_style_0 : decode cX12_style 0 = .ok (.aload_n 0, 1) := by decide +kernel
theorem dX12_style_1 : decode cX12_style 1 = .ok (.aload_n 0, 1) := by decide +kernel
theorem dX12_style_2 : decode cX12_style 2 = .ok (.getfield 77, 3) := by decide +kernel
theorem dX12_style_5 : decode cX12_style 5 = .ok (.bipush 8, 2) := by decide +kernel
theorem dX12_style_7 : decode cX12_style 7 = .ok (.iaload, 1) := by decide +kernel
theorem dX12_style_8 : decode cX12_style 8 = .ok (.ifCond .eq 21, 3) := by decide +kernel
theorem dX12_style_11 : decode cX12_style 11 = .ok (.aload_n 0, 1) := by decide +kernel
theorem dX12_style_12 : decode cX12_style 12 = .ok (.getfield 160, 3) := by decide +kernel
theorem dX12_style_15 : decode cX12_style 15 = .ok (.lconst 0, 1) := by decide +kernel
theorem dX12_style_16 : decode cX12_style 16 = .ok (.lcmp, 1) := by decide +kernel
theorem dX12_style_17 : decode cX12_style 17 = .ok (.ifCond .eq 12, 3) := by decide +kernel
theorem dX12_style_20 : decode cX12_style 20 = .ok (.aload_n 0, 1) := by decide +kernel
theorem dX12_style_21 : decode cX12_style 21 = .ok (.getfield 245, 3) := by decide +kernel
theorem dX12_style_24 : decode cX12_style 24 = .ok (.bipush 8, 2) := by decide +kernel
theorem dX12_style_26 : decode cX12_style 26 = .ok (.if_icmp .ne 7, 3) := by decide +kernel
theorem dX12_style_29 : decode cX12_style 29 = .ok (.iconst 1, 1) := by decide +kernel
theorem dX12_style_30 : decode cX12_style 30 = .ok (.goto 25, 3) := by decide +kernel
theorem dX12_style_33 : decode cX12_style 33 = .ok (.iload_n 1, 1) := by decide +kernel
theorem dX12_style_34 : decode cX12_style 34 = .ok (.iconst 0, 1) := by decide +kernel
theorem dX12_style_35 : decode cX12_style 35 = .ok (.aload_n 0, 1) := by decide +kernel
theorem dX12_style_36 : decode cX12_style 36 = .ok (.getfield 77, 3) := by decide +kernel
theorem dX12_style_39 : decode cX12_style 39 = .ok (.bipush 8, 2) := by decide +kernel
theorem dX12_style_41 : decode cX12_style 41 = .ok (.iaload, 1) := by decide +kernel
theorem dX12_style_42 : decode cX12_style 42 = .ok (.iconst 1, 1) := by decide +kernel
theorem dX12_style_43 : decode cX12_style 43 = .ok (.isub, 1) := by decide +kernel
theorem dX12_style_44 : decode cX12_style 44 = .ok (.invokestatic 156, 3) := by decide +kernel
theorem dX12_style_47 : decode cX12_style 47 = .ok (.ifCond .ne 7, 3) := by decide +kernel
theorem dX12_style_50 : decode cX12_style 50 = .ok (.iconst 2, 1) := by decide +kernel
theorem dX12_style_51 : decode cX12_style 51 = .ok (.goto 4, 3) := by decide +kernel
theorem dX12_style_54 : decode cX12_style 54 = .ok (.iconst 0, 1) := by decide +kernel
theorem dX12_style_55 : decode cX12_style 55 = .ok (.putfield 146, 3) := by decide +kernel
theorem dX12_style_58 : decode cX12_style 58 = .ok (.aload_n 0, 1) := by decide +kernel
theorem dX12_style_59 : decode cX12_style 59 = .ok (.getfield 146, 3) := by decide +kernel
theorem dX12_style_62 : decode cX12_style 62 = .ok (.ifCond .le 5, 3) := by decide +kernel
theorem dX12_style_65 : decode cX12_style 65 = .ok (.iconst 0, 1) := by decide +kernel
theorem dX12_style_66 : decode cX12_style 66 = .ok (.ireturn, 1) := by decide +kernel
theorem dX12_style_67 : decode cX12_style 67 = .ok (.iconst 0, 1) := by decide +kernel
theorem dX12_style_68 : decode cX12_style 68 = .ok (.istore_n 2, 1) := by decide +kernel
theorem dX12_style_69 : decode cX12_style 69 = .ok (.iload_n 2, 1) := by decide +kernel
theorem dX12_style_70 : decode cX12_style 70 = .ok (.iconst 3, 1) := by decide +kernel
theorem dX12_style_71 : decode cX12_style 71 = .ok (.if_icmp .ge 53, 3) := by decide +kernel
theorem dX12_style_74 : decode cX12_style 74 = .ok (.aload_n 0, 1) := by decide +kernel
theorem dX12_style_75 : decode cX12_style 75 = .ok (.getfield 71, 3) := by decide +kernel
theorem dX12_style_78 : decode cX12_style 78 = .ok (.iconst 3, 1) := by decide +kernel
theorem dX12_style_79 : decode cX12_style 79 = .ok (.aload_n 0, 1) := by decide +kernel
theorem dX12_style_80 : decode cX12_style 80 = .ok (.getfield 245, 3) := by decide +kernel
theorem dX12_style_83 : decode cX12_style 83 = .ok (.imul, 1) := by decide +kernel
theorem dX12_style_84 : decode cX12_style 84 = .ok (.iload_n 2, 1) := by decide +kernel
theorem dX12_style_85 : decode cX12_style 85 = .ok (.iadd, 1) := by decide +kernel
theorem dX12_style_86 : decode cX12_style 86 = .ok (.aload_n 0, 1) := by decide +kernel
theorem dX12_style_87 : decode cX12_style 87 = .ok (.getfield 71, 3) := by decide +kernel
theorem dX12_style_90 : decode cX12_style 90 = .ok (.bipush 24, 2) := by decide +kernel
theorem dX12_style_92 : decode cX12_style 92 = .ok (.iload_n 2, 1) := by decide +kernel
theorem dX12_style_93 : decode cX12_style 93 = .ok (.iadd, 1) := by decide +kernel
theorem dX12_style_94 : decode cX12_style 94 = .ok (.iaload, 1) := by decide +kernel
theorem dX12_style_95 : decode cX12_style 95 = .ok (.iastore, 1) := by decide +kernel
theorem dX12_style_96 : decode cX12_style 96 = .ok (.aload_n 0, 1) := by decide +kernel
theorem dX12_style_97 : decode cX12_style 97 = .ok (.getfield 74, 3) := by decide +kernel
theorem dX12_style_100 : decode cX12_style 100 = .ok (.iconst 3, 1) := by decide +kernel
theorem dX12_style_101 : decode cX12_style 101 = .ok (.aload_n 0, 1) := by decide +kernel
theorem dX12_style_102 : decode cX12_style 102 = .ok (.getfield 245, 3) := by decide +kernel
theorem dX12_style_105 : decode cX12_style 105 = .ok (.imul, 1) := by decide +kernel
theorem dX12_style_106 : decode cX12_style 106 = .ok (.iload_n 2, 1) := by decide +kernel
theorem dX12_style_107 : decode cX12_style 107 = .ok (.iadd, 1) := by decide +kernel
theorem dX12_style_108 : decode cX12_style 108 = .ok (.aload_n 0, 1) := by decide +kernel
theorem dX12_style_109 : decode cX12_style 109 = .ok (.getfield 74, 3) := by decide +kernel
theorem dX12_style_112 : decode cX12_style 112 = .ok (.bipush 24, 2) := by decide +kernel
theorem dX12_style_114 : decode cX12_style 114 = .ok (.iload_n 2, 1) := by decide +kernel
theorem dX12_style_115 : decode cX12_style 115 = .ok (.iadd, 1) := by decide +kernel
theorem dX12_style_116 : decode cX12_style 116 = .ok (.laload, 1) := by decide +kernel
theorem dX12_style_117 : decode cX12_style 117 = .ok (.lastore, 1) := by decide +kernel
theorem dX12_style_118 : decode cX12_style 118 = .ok (.iinc 2 1, 3) := by decide +kernel
theorem dX12_style_121 : decode cX12_style 121 = .ok (.goto (-52), 3) := by decide +kernel
theorem dX12_style_124 : decode cX12_style 124 = .ok (.aload_n 0, 1) := by decide +kernel
theorem dX12_style_125 : decode cX12_style 125 = .ok (.getfield 77, 3) := by decide +kernel
theorem dX12_style_128 : decode cX12_style 128 = .ok (.aload_n 0, 1) := by decide +kernel
theorem dX12_style_129 : decode cX12_style 129 = .ok (.getfield 245, 3) := by decide +kernel
theorem dX12_style_132 : decode cX12_style 132 = .ok (.aload_n 0, 1) := by decide +kernel
theorem dX12_style_133 : decode cX12_style 133 = .ok (.getfield 77, 3) := by decide +kernel
theorem dX12_style_136 : decode cX12_style 136 = .ok (.bipush 8, 2) := by decide +kernel
theorem dX12_style_138 : decode cX12_style 138 = .ok (.iaload, 1) := by decide +kernel
theorem dX12_style_139 : decode cX12_style 139 = .ok (.iastore, 1) := by decide +kernel
theorem dX12_style_140 : decode cX12_style 140 = .ok (.aload_n 0, 1) := by decide +kernel
theorem dX12_style_141 : decode cX12_style 141 = .ok (.getfield 80, 3) := by decide +kernel
theorem dX12_style_144 : decode cX12_style 144 = .ok (.aload_n 0, 1) := by decide +kernel
theorem dX12_style_145 : decode cX12_style 145 = .ok (.getfield 245, 3) := by decide +kernel
theorem dX12_style_148 : decode cX12_style 148 = .ok (.iload_n 1, 1) := by decide +kernel
theorem dX12_style_149 : decode cX12_style 149 = .ok (.iastore, 1) := by decide +kernel
theorem dX12_style_150 : decode cX12_style 150 = .ok (.aload_n 0, 1) := by decide +kernel
theorem dX12_style_151 : decode cX12_style 151 = .ok (.getfield 83, 3) := by decide +kernel
theorem dX12_style_154 : decode cX12_style 154 = .ok (.aload_n 0, 1) := by decide +kernel
theorem dX12_style_155 : decode cX12_style 155 = .ok (.getfield 245, 3) := by decide +kernel
theorem dX12_style_158 : decode cX12_style 158 = .ok (.aload_n 0, 1) := by decide +kernel
theorem dX12_style_159 : decode cX12_style 159 = .ok (.getfield 160, 3) := by decide +kernel
theorem dX12_style_162 : decode cX12_style 162 = .ok (.lastore, 1) := by decide +kernel
theorem dX12_style_163 : decode cX12_style 163 = .ok (.aload_n 0, 1) := by decide +kernel
theorem dX12_style_164 : decode cX12_style 164 = .ok (.dup, 1) := by decide +kernel
theorem dX12_style_165 : decode cX12_style 165 = .ok (.getfield 245, 3) := by decide +kernel
theorem dX12_style_168 : decode cX12_style 168 = .ok (.iconst 1, 1) := by decide +kernel
theorem dX12_style_169 : decode cX12_style 169 = .ok (.iadd, 1) := by decide +kernel
theorem dX12_style_170 : decode cX12_style 170 = .ok (.putfield 245, 3) := by decide +kernel
theorem dX12_style_173 : decode cX12_style 173 = .ok (.aload_n 0, 1) := by decide +kernel
theorem dX12_style_174 : decode cX12_style 174 = .ok (.getfield 77, 3) := by decide +kernel
theorem dX12_style_177 : decode cX12_style 177 = .ok (.bipush 8, 2) := by decide +kernel
theorem dX12_style_179 : decode cX12_style 179 = .ok (.iconst 0, 1) := by decide +kernel
theorem dX12_style_180 : decode cX12_style 180 = .ok (.iastore, 1) := by decide +kernel
theorem dX12_style_181 : decode cX12_style 181 = .ok (.aload_n 0, 1) := by decide +kernel
theorem dX12_style_182 : decode cX12_style 182 = .ok (.lconst 0, 1) := by decide +kernel
theorem dX12_style_183 : decode cX12_style 183 = .ok (.putfield 160, 3) := by decide +kernel
theorem dX12_style_186 : decode cX12_style 186 = .ok (.aload_n 0, 1) := by decide +kernel
theorem dX12_style_187 : decode cX12_style 187 = .ok (.getfield 245, 3) := by decide +kernel
theorem dX12_style_190 : decode cX12_style 190 = .ok (.iconst 1, 1) := by decide +kernel
theorem dX12_style_191 : decode cX12_style 191 = .ok (.isub, 1) := by decide +kernel
theorem dX12_style_192 : decode cX12_style 192 = .ok (.ireturn, 1) := by decide +kernel
theorem dX12_isLetter_0 : decode cX12_isLetter 0 = .ok (.iload_n 0, 1) := by decide +kernel
theorem dX12_isLetter_1 : decode cX12_isLetter 1 = .ok (.bipush 97, 2) := by decide +kernel
theorem dX12_isLetter_3 : decode cX12_isLetter 3 = .ok (.bipush 104, 2) := by decide +kernel
theorem dX12_isLetter_5 : decode cX12_isLetter 5 = .ok (.invokestatic 156, 3) := by decide +kernel
theorem dX12_isLetter_8 : decode cX12_isLetter 8 = .ok (.ireturn, 1) := by decide +kernel
theorem dX12_finds_0 : decode cX12_finds 0 = .ok (.aload_n 0, 1) := by decide +kernel
theorem dX12_finds_1 : decode cX12_finds 1 = .ok (.iconst 0, 1) := by decide +kernel
theorem dX12_finds_2 : decode cX12_finds 2 = .ok (.putfield 248, 3) := by decide +kernel
theorem dX12_finds_5 : decode cX12_finds 5 = .ok (.iconst 0, 1) := by decide +kernel
theorem dX12_finds_6 : decode cX12_finds 6 = .ok (.istore_n 1, 1) := by decide +kernel
theorem dX12_finds_7 : decode cX12_finds 7 = .ok (.iconst 0, 1) := by decide +kernel
theorem dX12_finds_8 : decode cX12_finds 8 = .ok (.istore_n 2, 1) := by decide +kernel
theorem dX12_finds_9 : decode cX12_finds 9 = .ok (.iconst 0, 1) := by decide +kernel
theorem dX12_finds_10 : decode cX12_finds 10 = .ok (.istore_n 3, 1) := by decide +kernel
theorem dX12_finds_11 : decode cX12_finds 11 = .ok (.iconst 0, 1) := by decide +kernel
theorem dX12_finds_12 : decode cX12_finds 12 = .ok (.istore 4, 2) := by decide +kernel
theorem dX12_finds_14 : decode cX12_finds 14 = .ok (.iload 4, 2) := by decide +kernel
theorem dX12_finds_16 : decode cX12_finds 16 = .ok (.aload_n 0, 1) := by decide +kernel
theorem dX12_finds_17 : decode cX12_finds 17 = .ok (.getfield 251, 3) := by decide +kernel
theorem dX12_finds_20 : decode cX12_finds 20 = .ok (.if_icmp .ge 234, 3) := by decide +kernel
theorem dX12_finds_23 : decode cX12_finds 23 = .ok (.aload_n 0, 1) := by decide +kernel
theorem dX12_finds_24 : decode cX12_finds 24 = .ok (.getfield 86, 3) := by decide +kernel
theorem dX12_finds_27 : decode cX12_finds 27 = .ok (.iload 4, 2) := by decide +kernel
theorem dX12_finds_29 : decode cX12_finds 29 = .ok (.iaload, 1) := by decide +kernel
theorem dX12_finds_30 : decode cX12_finds 30 = .ok (.istore 5, 2) := by decide +kernel
theorem dX12_finds_32 : decode cX12_finds 32 = .ok (.iload_n 2, 1) := by decide +kernel
theorem dX12_finds_33 : decode cX12_finds 33 = .ok (.istore 6, 2) := by decide +kernel
theorem dX12_finds_35 : decode cX12_finds 35 = .ok (.iload_n 2, 1) := by decide +kernel
theorem dX12_finds_36 : decode cX12_finds 36 = .ok (.ifCond .ne 10, 3) := by decide +kernel
theorem dX12_finds_39 : decode cX12_finds 39 = .ok (.iload 5, 2) := by decide +kernel
theorem dX12_finds_41 : decode cX12_finds 41 = .ok (.bipush 60, 2) := by decide +kernel
theorem dX12_finds_43 : decode cX12_finds 43 = .ok (.if_icmp .ne 7, 3) := by decide +kernel
theorem dX12_finds_46 : decode cX12_finds 46 = .ok (.iconst 1, 1) := by decide +kernel
theorem dX12_finds_47 : decode cX12_finds 47 = .ok (.goto 4, 3) := by decide +kernel
theorem dX12_finds_50 : decode cX12_finds 50 = .ok (.iconst 0, 1) := by decide +kernel
theorem dX12_finds_51 : decode cX12_finds 51 = .ok (.istore_n 2, 1) := by decide +kernel
theorem dX12_finds_52 : decode cX12_finds 52 = .ok (.iload_n 2, 1) := by decide +kernel
theorem dX12_finds_53 : decode cX12_finds 53 = .ok (.ifCond .ne 15, 3) := by decide +kernel
theorem dX12_finds_56 : decode cX12_finds 56 = .ok (.iload 5, 2) := by decide +kernel
theorem dX12_finds_58 : decode cX12_finds 58 = .ok (.invokestatic 254, 3) := by decide +kernel
theorem dX12_finds_61 : decode cX12_finds 61 = .ok (.ifCond .eq 7, 3) := by decide +kernel
theorem dX12_finds_64 : decode cX12_finds 64 = .ok (.iconst 1, 1) := by decide +kernel
theorem dX12_finds_65 : decode cX12_finds 65 = .ok (.goto 4, 3) := by decide +kernel
theorem dX12_finds_68 : decode cX12_finds 68 = .ok (.iconst 0, 1) := by decide +kernel
theorem dX12_finds_69 : decode cX12_finds 69 = .ok (.istore 7, 2) := by decide +kernel
theorem dX12_finds_71 : decode cX12_finds 71 = .ok (.iload 7, 2) := by decide +kernel
theorem dX12_finds_73 : decode cX12_finds 73 = .ok (.ifCond .eq 58, 3) := by decide +kernel
theorem dX12_finds_76 : decode cX12_finds 76 = .ok (.iload_n 3, 1) := by decide +kernel
theorem dX12_finds_77 : decode cX12_finds 77 = .ok (.ifCond .ne 54, 3) := by decide +kernel
theorem dX12_finds_80 : decode cX12_finds 80 = .ok (.aload_n 0, 1) := by decide +kernel
theorem dX12_finds_81 : decode cX12_finds 81 = .ok (.getfield 101, 3) := by decide +kernel
theorem dX12_finds_84 : decode cX12_finds 84 = .ok (.aload_n 0, 1) := by decide +kernel
theorem dX12_finds_85 : decode cX12_finds 85 = .ok (.getfield 248, 3) := by decide +kernel
theorem dX12_finds_88 : decode cX12_finds 88 = .ok (.iload 4, 2) := by decide +kernel
theorem dX12_finds_90 : decode cX12_finds 90 = .ok (.iastore, 1) := by decide +kernel
theorem dX12_finds_91 : decode cX12_finds 91 = .ok (.aload_n 0, 1) := by decide +kernel
theorem dX12_finds_92 : decode cX12_finds 92 = .ok (.getfield 104, 3) := by decide +kernel
theorem dX12_finds_95 : decode cX12_finds 95 = .ok (.aload_n 0, 1) := by decide +kernel
theorem dX12_finds_96 : decode cX12_finds 96 = .ok (.getfield 248, 3) := by decide +kernel
theorem dX12_finds_99 : decode cX12_finds 99 = .ok (.iconst 0, 1) := by decide +kernel
theorem dX12_finds_100 : decode cX12_finds 100 = .ok (.iastore, 1) := by decide +kernel
theorem dX12_finds_101 : decode cX12_finds 101 = .ok (.aload_n 0, 1) := by decide +kernel
theorem dX12_finds_102 : decode cX12_finds 102 = .ok (.getfield 107, 3) := by decide +kernel
theorem dX12_finds_105 : decode cX12_finds 105 = .ok (.aload_n 0, 1) := by decide +kernel
theorem dX12_finds_106 : decode cX12_finds 106 = .ok (.getfield 248, 3) := by decide +kernel
theorem dX12_finds_109 : decode cX12_finds 109 = .ok (.iload_n 1, 1) := by decide +kernel
theorem dX12_finds_110 : decode cX12_finds 110 = .ok (.iastore, 1) := by decide +kernel
theorem dX12_finds_111 : decode cX12_finds 111 = .ok (.aload_n 0, 1) := by decide +kernel
theorem dX12_finds_112 : decode cX12_finds 112 = .ok (.getfield 110, 3) := by decide +kernel
theorem dX12_finds_115 : decode cX12_finds 115 = .ok (.aload_n 0, 1) := by decide +kernel
theorem dX12_finds_116 : decode cX12_finds 116 = .ok (.getfield 248, 3) := by decide +kernel
theorem dX12_finds_119 : decode cX12_finds 119 = .ok (.lconst 0, 1) := by decide +kernel
theorem dX12_finds_120 : decode cX12_finds 120 = .ok (.lastore, 1) := by decide +kernel
theorem dX12_finds_121 : decode cX12_finds 121 = .ok (.aload_n 0, 1) := by decide +kernel
theorem dX12_finds_122 : decode cX12_finds 122 = .ok (.dup, 1) := by decide +kernel
theorem dX12_finds_123 : decode cX12_finds 123 = .ok (.getfield 248, 3) := by decide +kernel
theorem dX12_finds_126 : decode cX12_finds 126 = .ok (.iconst 1, 1) := by decide +kernel
theorem dX12_finds_127 : decode cX12_finds 127 = .ok (.iadd, 1) := by decide +kernel
theorem dX12_finds_128 : decode cX12_finds 128 = .ok (.putfield 248, 3) := by decide +kernel
theorem dX12_finds_131 : decode cX12_finds 131 = .ok (.iload 7, 2) := by decide +kernel
theorem dX12_finds_133 : decode cX12_finds 133 = .ok (.ifCond .eq 71, 3) := by decide +kernel
theorem dX12_finds_136 : decode cX12_finds 136 = .ok (.aload_n 0, 1) := by decide +kernel
theorem dX12_finds_137 : decode cX12_finds 137 = .ok (.getfield 104, 3) := by decide +kernel
theorem dX12_finds_140 : decode cX12_finds 140 = .ok (.aload_n 0, 1) := by decide +kernel
theorem dX12_finds_141 : decode cX12_finds 141 = .ok (.getfield 248, 3) := by decide +kernel
theorem dX12_finds_144 : decode cX12_finds 144 = .ok (.iconst 1, 1) := by decide +kernel
theorem dX12_finds_145 : decode cX12_finds 145 = .ok (.isub, 1) := by decide +kernel
theorem dX12_finds_146 : decode cX12_finds 146 = .ok (.dup2, 1) := by decide +kernel
theorem dX12_finds_147 : decode cX12_finds 147 = .ok (.iaload, 1) := by decide +kernel
theorem dX12_finds_148 : decode cX12_finds 148 = .ok (.iconst 1, 1) := by decide +kernel
theorem dX12_finds_149 : decode cX12_finds 149 = .ok (.iadd, 1) := by decide +kernel
theorem dX12_finds_150 : decode cX12_finds 150 = .ok (.iastore, 1) := by decide +kernel
theorem dX12_finds_151 : decode cX12_finds 151 = .ok (.aload_n 0, 1) := by decide +kernel
theorem dX12_finds_152 : decode cX12_finds 152 = .ok (.getfield 110, 3) := by decide +kernel
theorem dX12_finds_155 : decode cX12_finds 155 = .ok (.aload_n 0, 1) := by decide +kernel
theorem dX12_finds_156 : decode cX12_finds 156 = .ok (.getfield 248, 3) := by decide +kernel
theorem dX12_finds_159 : decode cX12_finds 159 = .ok (.iconst 1, 1) := by decide +kernel
theorem dX12_finds_160 : decode cX12_finds 160 = .ok (.isub, 1) := by decide +kernel
theorem dX12_finds_161 : decode cX12_finds 161 = .ok (.aload_n 0, 1) := by decide +kernel
theorem dX12_finds_162 : decode cX12_finds 162 = .ok (.getfield 104, 3) := by decide +kernel
theorem dX12_finds_165 : decode cX12_finds 165 = .ok (.aload_n 0, 1) := by decide +kernel
theorem dX12_finds_166 : decode cX12_finds 166 = .ok (.getfield 248, 3) := by decide +kernel
theorem dX12_finds_169 : decode cX12_finds 169 = .ok (.iconst 1, 1) := by decide +kernel
theorem dX12_finds_170 : decode cX12_finds 170 = .ok (.isub, 1) := by decide +kernel
theorem dX12_finds_171 : decode cX12_finds 171 = .ok (.iaload, 1) := by decide +kernel
theorem dX12_finds_172 : decode cX12_finds 172 = .ok (.bipush 10, 2) := by decide +kernel
theorem dX12_finds_174 : decode cX12_finds 174 = .ok (.if_icmp .le 7, 3) := by decide +kernel
theorem dX12_finds_177 : decode cX12_finds 177 = .ok (.lconst 0, 1) := by decide +kernel
theorem dX12_finds_178 : decode cX12_finds 178 = .ok (.goto 25, 3) := by decide +kernel
theorem dX12_finds_181 : decode cX12_finds 181 = .ok (.aload_n 0, 1) := by decide +kernel
theorem dX12_finds_182 : decode cX12_finds 182 = .ok (.getfield 110, 3) := by decide +kernel
theorem dX12_finds_185 : decode cX12_finds 185 = .ok (.aload_n 0, 1) := by decide +kernel
theorem dX12_finds_186 : decode cX12_finds 186 = .ok (.getfield 248, 3) := by decide +kernel
theorem dX12_finds_189 : decode cX12_finds 189 = .ok (.iconst 1, 1) := by decide +kernel
theorem dX12_finds_190 : decode cX12_finds 190 = .ok (.isub, 1) := by decide +kernel
theorem dX12_finds_191 : decode cX12_finds 191 = .ok (.laload, 1) := by decide +kernel
theorem dX12_finds_192 : decode cX12_finds 192 = .ok (.iconst 4, 1) := by decide +kernel
theorem dX12_finds_193 : decode cX12_finds 193 = .ok (.lshl, 1) := by decide +kernel
theorem dX12_finds_194 : decode cX12_finds 194 = .ok (.iload 5, 2) := by decide +kernel
theorem dX12_finds_196 : decode cX12_finds 196 = .ok (.bipush 97, 2) := by decide +kernel
theorem dX12_finds_198 : decode cX12_finds 198 = .ok (.isub, 1) := by decide +kernel
theorem dX12_finds_199 : decode cX12_finds 199 = .ok (.iconst 1, 1) := by decide +kernel
theorem dX12_finds_200 : decode cX12_finds 200 = .ok (.iadd, 1) := by decide +kernel
theorem dX12_finds_201 : decode cX12_finds 201 = .ok (.i2l, 1) := by decide +kernel
theorem dX12_finds_202 : decode cX12_finds 202 = .ok (.lor, 1) := by decide +kernel
theorem dX12_finds_203 : decode cX12_finds 203 = .ok (.lastore, 1) := by decide +kernel
theorem dX12_finds_204 : decode cX12_finds 204 = .ok (.iload 7, 2) := by decide +kernel
theorem dX12_finds_206 : decode cX12_finds 206 = .ok (.istore_n 3, 1) := by decide +kernel
theorem dX12_finds_207 : decode cX12_finds 207 = .ok (.iload_n 1, 1) := by decide +kernel
theorem dX12_finds_208 : decode cX12_finds 208 = .ok (.iload_n 2, 1) := by decide +kernel
theorem dX12_finds_209 : decode cX12_finds 209 = .ok (.ifCond .ne 14, 3) := by decide +kernel
theorem dX12_finds_212 : decode cX12_finds 212 = .ok (.iload 5, 2) := by decide +kernel
theorem dX12_finds_214 : decode cX12_finds 214 = .ok (.bipush 46, 2) := by decide +kernel
theorem dX12_finds_216 : decode cX12_finds 216 = .ok (.if_icmp .ne 7, 3) := by decide +kernel
theorem dX12_finds_219 : decode cX12_finds 219 = .ok (.iconst 1, 1) := by decide +kernel
theorem dX12_finds_220 : decode cX12_finds 220 = .ok (.goto 4, 3) := by decide +kernel
theorem dX12_finds_223 : decode cX12_finds 223 = .ok (.iconst 0, 1) := by decide +kernel
theorem dX12_finds_224 : decode cX12_finds 224 = .ok (.iadd, 1) := by decide +kernel
theorem dX12_finds_225 : decode cX12_finds 225 = .ok (.istore_n 1, 1) := by decide +kernel
theorem dX12_finds_226 : decode cX12_finds 226 = .ok (.iload_n 2, 1) := by decide +kernel
theorem dX12_finds_227 : decode cX12_finds 227 = .ok (.ifCond .eq 19, 3) := by decide +kernel
theorem dX12_finds_230 : decode cX12_finds 230 = .ok (.iload 6, 2) := by decide +kernel
theorem dX12_finds_232 : decode cX12_finds 232 = .ok (.ifCond .eq 10, 3) := by decide +kernel
theorem dX12_finds_235 : decode cX12_finds 235 = .ok (.iload 5, 2) := by decide +kernel
theorem dX12_finds_237 : decode cX12_finds 237 = .ok (.bipush 62, 2) := by decide +kernel
theorem dX12_finds_239 : decode cX12_finds 239 = .ok (.if_icmp .eq 7, 3) := by decide +kernel
theorem dX12_finds_242 : decode cX12_finds 242 = .ok (.iconst 1, 1) := by decide +kernel
theorem dX12_finds_243 : decode cX12_finds 243 = .ok (.goto 4, 3) := by decide +kernel
theorem dX12_finds_246 : decode cX12_finds 246 = .ok (.iconst 0, 1) := by decide +kernel
theorem dX12_finds_247 : decode cX12_finds 247 = .ok (.istore_n 2, 1) := by decide +kernel
theorem dX12_finds_248 : decode cX12_finds 248 = .ok (.iinc 4 1, 3) := by decide +kernel
theorem dX12_finds_251 : decode cX12_finds 251 = .ok (.goto (-237), 3) := by decide +kernel
theorem dX12_finds_254 : decode cX12_finds 254 = .ok (.return_, 1) := by decide +kernel
theorem dX12_breaks_0 : decode cX12_breaks 0 = .ok (.aload_n 0, 1) := by decide +kernel
theorem dX12_breaks_1 : decode cX12_breaks 1 = .ok (.getfield 68, 3) := by decide +kernel
theorem dX12_breaks_4 : decode cX12_breaks 4 = .ok (.iconst 4, 1) := by decide +kernel
theorem dX12_breaks_5 : decode cX12_breaks 5 = .ok (.iload_n 1, 1) := by decide +kernel
theorem dX12_breaks_6 : decode cX12_breaks 6 = .ok (.iconst 2, 1) := by decide +kernel
theorem dX12_breaks_7 : decode cX12_breaks 7 = .ok (.idiv, 1) := by decide +kernel
theorem dX12_breaks_8 : decode cX12_breaks 8 = .ok (.imul, 1) := by decide +kernel
theorem dX12_breaks_9 : decode cX12_breaks 9 = .ok (.iload_n 2, 1) := by decide +kernel
theorem dX12_breaks_10 : decode cX12_breaks 10 = .ok (.iconst 2, 1) := by decide +kernel
theorem dX12_breaks_11 : decode cX12_breaks 11 = .ok (.idiv, 1) := by decide +kernel
theorem dX12_breaks_12 : decode cX12_breaks 12 = .ok (.iadd, 1) := by decide +kernel
theorem dX12_breaks_13 : decode cX12_breaks 13 = .ok (.iaload, 1) := by decide +kernel
theorem dX12_breaks_14 : decode cX12_breaks 14 = .ok (.istore_n 3, 1) := by decide +kernel
theorem dX12_breaks_15 : decode cX12_breaks 15 = .ok (.iload_n 3, 1) := by decide +kernel
theorem dX12_breaks_16 : decode cX12_breaks 16 = .ok (.iconst 2, 1) := by decide +kernel
theorem dX12_breaks_17 : decode cX12_breaks 17 = .ok (.if_icmp .eq 17, 3) := by decide +kernel
theorem dX12_breaks_20 : decode cX12_breaks 20 = .ok (.iload_n 3, 1) := by decide +kernel
theorem dX12_breaks_21 : decode cX12_breaks 21 = .ok (.iconst 1, 1) := by decide +kernel
theorem dX12_breaks_22 : decode cX12_breaks 22 = .ok (.if_icmp .ne 16, 3) := by decide +kernel
theorem dX12_breaks_25 : decode cX12_breaks 25 = .ok (.iload_n 1, 1) := by decide +kernel
theorem dX12_breaks_26 : decode cX12_breaks 26 = .ok (.iconst 2, 1) := by decide +kernel
theorem dX12_breaks_27 : decode cX12_breaks 27 = .ok (.irem, 1) := by decide +kernel
theorem dX12_breaks_28 : decode cX12_breaks 28 = .ok (.iload_n 2, 1) := by decide +kernel
theorem dX12_breaks_29 : decode cX12_breaks 29 = .ok (.iconst 2, 1) := by decide +kernel
theorem dX12_breaks_30 : decode cX12_breaks 30 = .ok (.irem, 1) := by decide +kernel
theorem dX12_breaks_31 : decode cX12_breaks 31 = .ok (.if_icmp .eq 7, 3) := by decide +kernel
theorem dX12_breaks_34 : decode cX12_breaks 34 = .ok (.iconst 1, 1) := by decide +kernel
theorem dX12_breaks_35 : decode cX12_breaks 35 = .ok (.goto 4, 3) := by decide +kernel
theorem dX12_breaks_38 : decode cX12_breaks 38 = .ok (.iconst 0, 1) := by decide +kernel
theorem dX12_breaks_39 : decode cX12_breaks 39 = .ok (.ireturn, 1) := by decide +kernel
theorem dX12_has_0 : decode cX12_has 0 = .ok (.aload_n 0, 1) := by decide +kernel
theorem dX12_has_1 : decode cX12_has 1 = .ok (.getfield 113, 3) := by decide +kernel
theorem dX12_has_4 : decode cX12_has 4 = .ok (.iload_n 1, 1) := by decide +kernel
theorem dX12_has_5 : decode cX12_has 5 = .ok (.iaload, 1) := by decide +kernel
theorem dX12_has_6 : decode cX12_has 6 = .ok (.iload_n 2, 1) := by decide +kernel
theorem dX12_has_7 : decode cX12_has 7 = .ok (.ishr, 1) := by decide +kernel
theorem dX12_has_8 : decode cX12_has 8 = .ok (.iconst 1, 1) := by decide +kernel
theorem dX12_has_9 : decode cX12_has 9 = .ok (.iand, 1) := by decide +kernel
theorem dX12_has_10 : decode cX12_has 10 = .ok (.iconst 1, 1) := by decide +kernel
theorem dX12_has_11 : decode cX12_has 11 = .ok (.if_icmp .ne 7, 3) := by decide +kernel
theorem dX12_has_14 : decode cX12_has 14 = .ok (.iconst 1, 1) := by decide +kernel
theorem dX12_has_15 : decode cX12_has 15 = .ok (.goto 4, 3) := by decide +kernel
theorem dX12_has_18 : decode cX12_has 18 = .ok (.iconst 0, 1) := by decide +kernel
theorem dX12_has_19 : decode cX12_has 19 = .ok (.ireturn, 1) := by decide +kernel
theorem dX12_isNext_0 : decode cX12_isNext 0 = .ok (.iload_n 1, 1) := by decide +kernel
theorem dX12_isNext_1 : decode cX12_isNext 1 = .ok (.iconst 1, 1) := by decide +kernel
theorem dX12_isNext_2 : decode cX12_isNext 2 = .ok (.iadd, 1) := by decide +kernel
theorem dX12_isNext_3 : decode cX12_isNext 3 = .ok (.aload_n 0, 1) := by decide +kernel
theorem dX12_isNext_4 : decode cX12_isNext 4 = .ok (.getfield 248, 3) := by decide +kernel
theorem dX12_isNext_7 : decode cX12_isNext 7 = .ok (.if_icmp .ge 24, 3) := by decide +kernel
theorem dX12_isNext_10 : decode cX12_isNext 10 = .ok (.aload_n 0, 1) := by decide +kernel
theorem dX12_isNext_11 : decode cX12_isNext 11 = .ok (.getfield 107, 3) := by decide +kernel
theorem dX12_isNext_14 : decode cX12_isNext 14 = .ok (.iload_n 1, 1) := by decide +kernel
theorem dX12_isNext_15 : decode cX12_isNext 15 = .ok (.iconst 1, 1) := by decide +kernel
theorem dX12_isNext_16 : decode cX12_isNext 16 = .ok (.iadd, 1) := by decide +kernel
theorem dX12_isNext_17 : decode cX12_isNext 17 = .ok (.iaload, 1) := by decide +kernel
theorem dX12_isNext_18 : decode cX12_isNext 18 = .ok (.aload_n 0, 1) := by decide +kernel
theorem dX12_isNext_19 : decode cX12_isNext 19 = .ok (.getfield 107, 3) := by decide +kernel
theorem dX12_isNext_22 : decode cX12_isNext 22 = .ok (.iload_n 1, 1) := by decide +kernel
theorem dX12_isNext_23 : decode cX12_isNext 23 = .ok (.iaload, 1) := by decide +kernel
theorem dX12_isNext_24 : decode cX12_isNext 24 = .ok (.if_icmp .ne 7, 3) := by decide +kernel
theorem dX12_isNext_27 : decode cX12_isNext 27 = .ok (.iconst 1, 1) := by decide +kernel
theorem dX12_isNext_28 : decode cX12_isNext 28 = .ok (.goto 4, 3) := by decide +kernel
theorem dX12_isNext_31 : decode cX12_isNext 31 = .ok (.iconst 0, 1) := by decide +kernel
theorem dX12_isNext_32 : decode cX12_isNext 32 = .ok (.ireturn, 1) := by decide +kernel
theorem dX12_fewestFrom_0 : decode cX12_fewestFrom 0 = .ok (.aload_n 0, 1) := by decide +kernel
theorem dX12_fewestFrom_1 : decode cX12_fewestFrom 1 = .ok (.iload_n 1, 1) := by decide +kernel
theorem dX12_fewestFrom_2 : decode cX12_fewestFrom 2 = .ok (.invokevirtual 257, 3) := by decide +kernel
theorem dX12_fewestFrom_5 : decode cX12_fewestFrom 5 = .ok (.ifCond .ne 5, 3) := by decide +kernel
theorem dX12_fewestFrom_8 : decode cX12_fewestFrom 8 = .ok (.iconst 0, 1) := by decide +kernel
theorem dX12_fewestFrom_9 : decode cX12_fewestFrom 9 = .ok (.ireturn, 1) := by decide +kernel
theorem dX12_fewestFrom_10 : decode cX12_fewestFrom 10 = .ok (.iconst (-1), 1) := by decide +kernel
theorem dX12_fewestFrom_11 : decode cX12_fewestFrom 11 = .ok (.istore_n 3, 1) := by decide +kernel
theorem dX12_fewestFrom_12 : decode cX12_fewestFrom 12 = .ok (.iconst 0, 1) := by decide +kernel
theorem dX12_fewestFrom_13 : decode cX12_fewestFrom 13 = .ok (.istore 4, 2) := by decide +kernel
theorem dX12_fewestFrom_15 : decode cX12_fewestFrom 15 = .ok (.iload 4, 2) := by decide +kernel
theorem dX12_fewestFrom_17 : decode cX12_fewestFrom 17 = .ok (.bipush 8, 2) := by decide +kernel
theorem dX12_fewestFrom_19 : decode cX12_fewestFrom 19 = .ok (.if_icmp .ge 77, 3) := by decide +kernel
theorem dX12_fewestFrom_22 : decode cX12_fewestFrom 22 = .ok (.aload_n 0, 1) := by decide +kernel
theorem dX12_fewestFrom_23 : decode cX12_fewestFrom 23 = .ok (.iload_n 1, 1) := by decide +kernel
theorem dX12_fewestFrom_24 : decode cX12_fewestFrom 24 = .ok (.iconst 1, 1) := by decide +kernel
theorem dX12_fewestFrom_25 : decode cX12_fewestFrom 25 = .ok (.iadd, 1) := by decide +kernel
theorem dX12_fewestFrom_26 : decode cX12_fewestFrom 26 = .ok (.iload 4, 2) := by decide +kernel
theorem dX12_fewestFrom_28 : decode cX12_fewestFrom 28 = .ok (.invokevirtual 260, 3) := by decide +kernel
theorem dX12_fewestFrom_31 : decode cX12_fewestFrom 31 = .ok (.ifCond .eq 59, 3) := by decide +kernel
theorem dX12_fewestFrom_34 : decode cX12_fewestFrom 34 = .ok (.aload_n 0, 1) := by decide +kernel
theorem dX12_fewestFrom_35 : decode cX12_fewestFrom 35 = .ok (.getfield 125, 3) := by decide +kernel
theorem dX12_fewestFrom_38 : decode cX12_fewestFrom 38 = .ok (.bipush 8, 2) := by decide +kernel
theorem dX12_fewestFrom_40 : decode cX12_fewestFrom 40 = .ok (.iload_n 1, 1) := by decide +kernel
theorem dX12_fewestFrom_41 : decode cX12_fewestFrom 41 = .ok (.iconst 1, 1) := by decide +kernel
theorem dX12_fewestFrom_42 : decode cX12_fewestFrom 42 = .ok (.iadd, 1) := by decide +kernel
theorem dX12_fewestFrom_43 : decode cX12_fewestFrom 43 = .ok (.imul, 1) := by decide +kernel
theorem dX12_fewestFrom_44 : decode cX12_fewestFrom 44 = .ok (.iload 4, 2) := by decide +kernel
theorem dX12_fewestFrom_46 : decode cX12_fewestFrom 46 = .ok (.iadd, 1) := by decide +kernel
theorem dX12_fewestFrom_47 : decode cX12_fewestFrom 47 = .ok (.iaload, 1) := by decide +kernel
theorem dX12_fewestFrom_48 : decode cX12_fewestFrom 48 = .ok (.iload_n 2, 1) := by decide +kernel
theorem dX12_fewestFrom_49 : decode cX12_fewestFrom 49 = .ok (.bipush 8, 2) := by decide +kernel
theorem dX12_fewestFrom_51 : decode cX12_fewestFrom 51 = .ok (.if_icmp .ge 17, 3) := by decide +kernel
theorem dX12_fewestFrom_54 : decode cX12_fewestFrom 54 = .ok (.aload_n 0, 1) := by decide +kernel
theorem dX12_fewestFrom_55 : decode cX12_fewestFrom 55 = .ok (.iload_n 2, 1) := by decide +kernel
theorem dX12_fewestFrom_56 : decode cX12_fewestFrom 56 = .ok (.iload 4, 2) := by decide +kernel
theorem dX12_fewestFrom_58 : decode cX12_fewestFrom 58 = .ok (.invokevirtual 264, 3) := by decide +kernel
theorem dX12_fewestFrom_61 : decode cX12_fewestFrom 61 = .ok (.ifCond .eq 7, 3) := by decide +kernel
theorem dX12_fewestFrom_64 : decode cX12_fewestFrom 64 = .ok (.iconst 1, 1) := by decide +kernel
theorem dX12_fewestFrom_65 : decode cX12_fewestFrom 65 = .ok (.goto 4, 3) := by decide +kernel
theorem dX12_fewestFrom_68 : decode cX12_fewestFrom 68 = .ok (.iconst 0, 1) := by decide +kernel
theorem dX12_fewestFrom_69 : decode cX12_fewestFrom 69 = .ok (.iadd, 1) := by decide +kernel
theorem dX12_fewestFrom_70 : decode cX12_fewestFrom 70 = .ok (.istore 5, 2) := by decide +kernel
theorem dX12_fewestFrom_72 : decode cX12_fewestFrom 72 = .ok (.iload_n 3, 1) := by decide +kernel
theorem dX12_fewestFrom_73 : decode cX12_fewestFrom 73 = .ok (.iconst (-1), 1) := by decide +kernel
theorem dX12_fewestFrom_74 : decode cX12_fewestFrom 74 = .ok (.if_icmp .eq 9, 3) := by decide +kernel
theorem dX12_fewestFrom_77 : decode cX12_fewestFrom 77 = .ok (.iload 5, 2) := by decide +kernel
theorem dX12_fewestFrom_79 : decode cX12_fewestFrom 79 = .ok (.iload_n 3, 1) := by decide +kernel
theorem dX12_fewestFrom_80 : decode cX12_fewestFrom 80 = .ok (.if_icmp .ge 8, 3) := by decide +kernel
theorem dX12_fewestFrom_83 : decode cX12_fewestFrom 83 = .ok (.iload 5, 2) := by decide +kernel
theorem dX12_fewestFrom_85 : decode cX12_fewestFrom 85 = .ok (.goto 4, 3) := by decide +kernel
theorem dX12_fewestFrom_88 : decode cX12_fewestFrom 88 = .ok (.iload_n 3, 1) := by decide +kernel
theorem dX12_fewestFrom_89 : decode cX12_fewestFrom 89 = .ok (.istore_n 3, 1) := by decide +kernel
theorem dX12_fewestFrom_90 : decode cX12_fewestFrom 90 = .ok (.iinc 4 1, 3) := by decide +kernel
theorem dX12_fewestFrom_93 : decode cX12_fewestFrom 93 = .ok (.goto (-78), 3) := by decide +kernel
theorem dX12_fewestFrom_96 : decode cX12_fewestFrom 96 = .ok (.iload_n 3, 1) := by decide +kernel
theorem dX12_fewestFrom_97 : decode cX12_fewestFrom 97 = .ok (.iconst (-1), 1) := by decide +kernel
theorem dX12_fewestFrom_98 : decode cX12_fewestFrom 98 = .ok (.if_icmp .ne 17, 3) := by decide +kernel
theorem dX12_fewestFrom_101 : decode cX12_fewestFrom 101 = .ok (.aload_n 0, 1) := by decide +kernel
theorem dX12_fewestFrom_102 : decode cX12_fewestFrom 102 = .ok (.getfield 125, 3) := by decide +kernel
theorem dX12_fewestFrom_105 : decode cX12_fewestFrom 105 = .ok (.bipush 8, 2) := by decide +kernel
theorem dX12_fewestFrom_107 : decode cX12_fewestFrom 107 = .ok (.iload_n 1, 1) := by decide +kernel
theorem dX12_fewestFrom_108 : decode cX12_fewestFrom 108 = .ok (.iconst 1, 1) := by decide +kernel
theorem dX12_fewestFrom_109 : decode cX12_fewestFrom 109 = .ok (.iadd, 1) := by decide +kernel
theorem dX12_fewestFrom_110 : decode cX12_fewestFrom 110 = .ok (.imul, 1) := by decide +kernel
theorem dX12_fewestFrom_111 : decode cX12_fewestFrom 111 = .ok (.iaload, 1) := by decide +kernel
theorem dX12_fewestFrom_112 : decode cX12_fewestFrom 112 = .ok (.goto 4, 3) := by decide +kernel
theorem dX12_fewestFrom_115 : decode cX12_fewestFrom 115 = .ok (.iload_n 3, 1) := by decide +kernel
theorem dX12_fewestFrom_116 : decode cX12_fewestFrom 116 = .ok (.ireturn, 1) := by decide +kernel
theorem dX12_chooses_0 : decode cX12_chooses 0 = .ok (.aload_n 0, 1) := by decide +kernel
theorem dX12_chooses_1 : decode cX12_chooses 1 = .ok (.getfield 248, 3) := by decide +kernel
theorem dX12_chooses_4 : decode cX12_chooses 4 = .ok (.iconst 1, 1) := by decide +kernel
theorem dX12_chooses_5 : decode cX12_chooses 5 = .ok (.isub, 1) := by decide +kernel
theorem dX12_chooses_6 : decode cX12_chooses 6 = .ok (.istore_n 1, 1) := by decide +kernel
theorem dX12_chooses_7 : decode cX12_chooses 7 = .ok (.iload_n 1, 1) := by decide +kernel
theorem dX12_chooses_8 : decode cX12_chooses 8 = .ok (.ifCond .lt 87, 3) := by decide +kernel
theorem dX12_chooses_11 : decode cX12_chooses 11 = .ok (.aload_n 0, 1) := by decide +kernel
theorem dX12_chooses_12 : decode cX12_chooses 12 = .ok (.getfield 113, 3) := by decide +kernel
theorem dX12_chooses_15 : decode cX12_chooses 15 = .ok (.iload_n 1, 1) := by decide +kernel
theorem dX12_chooses_16 : decode cX12_chooses 16 = .ok (.iaload, 1) := by decide +kernel
theorem dX12_chooses_17 : decode cX12_chooses 17 = .ok (.ifCond .ne 19, 3) := by decide +kernel
theorem dX12_chooses_20 : decode cX12_chooses 20 = .ok (.aload_n 0, 1) := by decide +kernel
theorem dX12_chooses_21 : decode cX12_chooses 21 = .ok (.getfield 125, 3) := by decide +kernel
theorem dX12_chooses_24 : decode cX12_chooses 24 = .ok (.bipush 8, 2) := by decide +kernel
theorem dX12_chooses_26 : decode cX12_chooses 26 = .ok (.iload_n 1, 1) := by decide +kernel
theorem dX12_chooses_27 : decode cX12_chooses 27 = .ok (.imul, 1) := by decide +kernel
theorem dX12_chooses_28 : decode cX12_chooses 28 = .ok (.aload_n 0, 1) := by decide +kernel
theorem dX12_chooses_29 : decode cX12_chooses 29 = .ok (.iload_n 1, 1) := by decide +kernel
theorem dX12_chooses_30 : decode cX12_chooses 30 = .ok (.bipush 8, 2) := by decide +kernel
theorem dX12_chooses_32 : decode cX12_chooses 32 = .ok (.invokevirtual 267, 3) := by decide +kernel
theorem dX12_chooses_35 : decode cX12_chooses 35 = .ok (.iastore, 1) := by decide +kernel
theorem dX12_chooses_36 : decode cX12_chooses 36 = .ok (.iconst 0, 1) := by decide +kernel
theorem dX12_chooses_37 : decode cX12_chooses 37 = .ok (.istore_n 2, 1) := by decide +kernel
theorem dX12_chooses_38 : decode cX12_chooses 38 = .ok (.iload_n 2, 1) := by decide +kernel
theorem dX12_chooses_39 : decode cX12_chooses 39 = .ok (.bipush 8, 2) := by decide +kernel
theorem dX12_chooses_41 : decode cX12_chooses 41 = .ok (.if_icmp .ge 48, 3) := by decide +kernel
theorem dX12_chooses_44 : decode cX12_chooses 44 = .ok (.aload_n 0, 1) := by decide +kernel
theorem dX12_chooses_45 : decode cX12_chooses 45 = .ok (.getfield 113, 3) := by decide +kernel
theorem dX12_chooses_48 : decode cX12_chooses 48 = .ok (.iload_n 1, 1) := by decide +kernel
theorem dX12_chooses_49 : decode cX12_chooses 49 = .ok (.iaload, 1) := by decide +kernel
theorem dX12_chooses_50 : decode cX12_chooses 50 = .ok (.ifCond .eq 39, 3) := by decide +kernel
theorem dX12_chooses_53 : decode cX12_chooses 53 = .ok (.aload_n 0, 1) := by decide +kernel
theorem dX12_chooses_54 : decode cX12_chooses 54 = .ok (.getfield 125, 3) := by decide +kernel
theorem dX12_chooses_57 : decode cX12_chooses 57 = .ok (.bipush 8, 2) := by decide +kernel
theorem dX12_chooses_59 : decode cX12_chooses 59 = .ok (.iload_n 1, 1) := by decide +kernel
theorem dX12_chooses_60 : decode cX12_chooses 60 = .ok (.imul, 1) := by decide +kernel
theorem dX12_chooses_61 : decode cX12_chooses 61 = .ok (.iload_n 2, 1) := by decide +kernel
theorem dX12_chooses_62 : decode cX12_chooses 62 = .ok (.iadd, 1) := by decide +kernel
theorem dX12_chooses_63 : decode cX12_chooses 63 = .ok (.aload_n 0, 1) := by decide +kernel
theorem dX12_chooses_64 : decode cX12_chooses 64 = .ok (.iload_n 1, 1) := by decide +kernel
theorem dX12_chooses_65 : decode cX12_chooses 65 = .ok (.iload_n 2, 1) := by decide +kernel
theorem dX12_chooses_66 : decode cX12_chooses 66 = .ok (.invokevirtual 260, 3) := by decide +kernel
theorem dX12_chooses_69 : decode cX12_chooses 69 = .ok (.ifCond .eq 12, 3) := by decide +kernel
theorem dX12_chooses_72 : decode cX12_chooses 72 = .ok (.aload_n 0, 1) := by decide +kernel
theorem dX12_chooses_73 : decode cX12_chooses 73 = .ok (.iload_n 1, 1) := by decide +kernel
theorem dX12_chooses_74 : decode cX12_chooses 74 = .ok (.iload_n 2, 1) := by decide +kernel
theorem dX12_chooses_75 : decode cX12_chooses 75 = .ok (.invokevirtual 267, 3) := by decide +kernel
theorem dX12_chooses_78 : decode cX12_chooses 78 = .ok (.goto 4, 3) := by decide +kernel
theorem dX12_chooses_81 : decode cX12_chooses 81 = .ok (.iconst 0, 1) := by decide +kernel
theorem dX12_chooses_82 : decode cX12_chooses 82 = .ok (.iastore, 1) := by decide +kernel
theorem dX12_chooses_83 : decode cX12_chooses 83 = .ok (.iinc 2 1, 3) := by decide +kernel
theorem dX12_chooses_86 : decode cX12_chooses 86 = .ok (.goto (-48), 3) := by decide +kernel
theorem dX12_chooses_89 : decode cX12_chooses 89 = .ok (.iinc 1 (-1), 3) := by decide +kernel
theorem dX12_chooses_92 : decode cX12_chooses 92 = .ok (.goto (-85), 3) := by decide +kernel
theorem dX12_chooses_95 : decode cX12_chooses 95 = .ok (.iconst 0, 1) := by decide +kernel
theorem dX12_chooses_96 : decode cX12_chooses 96 = .ok (.istore_n 1, 1) := by decide +kernel
theorem dX12_chooses_97 : decode cX12_chooses 97 = .ok (.iload_n 1, 1) := by decide +kernel
theorem dX12_chooses_98 : decode cX12_chooses 98 = .ok (.aload_n 0, 1) := by decide +kernel
theorem dX12_chooses_99 : decode cX12_chooses 99 = .ok (.getfield 248, 3) := by decide +kernel
theorem dX12_chooses_102 : decode cX12_chooses 102 = .ok (.if_icmp .ge 165, 3) := by decide +kernel
theorem dX12_chooses_105 : decode cX12_chooses 105 = .ok (.iload_n 1, 1) := by decide +kernel
theorem dX12_chooses_106 : decode cX12_chooses 106 = .ok (.ifCond .le 31, 3) := by decide +kernel
theorem dX12_chooses_109 : decode cX12_chooses 109 = .ok (.aload_n 0, 1) := by decide +kernel
theorem dX12_chooses_110 : decode cX12_chooses 110 = .ok (.getfield 107, 3) := by decide +kernel
theorem dX12_chooses_113 : decode cX12_chooses 113 = .ok (.iload_n 1, 1) := by decide +kernel
theorem dX12_chooses_114 : decode cX12_chooses 114 = .ok (.iconst 1, 1) := by decide +kernel
theorem dX12_chooses_115 : decode cX12_chooses 115 = .ok (.isub, 1) := by decide +kernel
theorem dX12_chooses_116 : decode cX12_chooses 116 = .ok (.iaload, 1) := by decide +kernel
theorem dX12_chooses_117 : decode cX12_chooses 117 = .ok (.aload_n 0, 1) := by decide +kernel
theorem dX12_chooses_118 : decode cX12_chooses 118 = .ok (.getfield 107, 3) := by decide +kernel
theorem dX12_chooses_121 : decode cX12_chooses 121 = .ok (.iload_n 1, 1) := by decide +kernel
theorem dX12_chooses_122 : decode cX12_chooses 122 = .ok (.iaload, 1) := by decide +kernel
theorem dX12_chooses_123 : decode cX12_chooses 123 = .ok (.if_icmp .ne 14, 3) := by decide +kernel
theorem dX12_chooses_126 : decode cX12_chooses 126 = .ok (.aload_n 0, 1) := by decide +kernel
theorem dX12_chooses_127 : decode cX12_chooses 127 = .ok (.getfield 116, 3) := by decide +kernel
theorem dX12_chooses_130 : decode cX12_chooses 130 = .ok (.iload_n 1, 1) := by decide +kernel
theorem dX12_chooses_131 : decode cX12_chooses 131 = .ok (.iconst 1, 1) := by decide +kernel
theorem dX12_chooses_132 : decode cX12_chooses 132 = .ok (.isub, 1) := by decide +kernel
theorem dX12_chooses_133 : decode cX12_chooses 133 = .ok (.iaload, 1) := by decide +kernel
theorem dX12_chooses_134 : decode cX12_chooses 134 = .ok (.goto 4, 3) := by decide +kernel
theorem dX12_chooses_137 : decode cX12_chooses 137 = .ok (.iconst (-1), 1) := by decide +kernel
theorem dX12_chooses_138 : decode cX12_chooses 138 = .ok (.istore_n 2, 1) := by decide +kernel
theorem dX12_chooses_139 : decode cX12_chooses 139 = .ok (.iconst (-1), 1) := by decide +kernel
theorem dX12_chooses_140 : decode cX12_chooses 140 = .ok (.istore_n 3, 1) := by decide +kernel
theorem dX12_chooses_141 : decode cX12_chooses 141 = .ok (.iconst 0, 1) := by decide +kernel
theorem dX12_chooses_142 : decode cX12_chooses 142 = .ok (.istore 4, 2) := by decide +kernel
theorem dX12_chooses_144 : decode cX12_chooses 144 = .ok (.iconst 0, 1) := by decide +kernel
theorem dX12_chooses_145 : decode cX12_chooses 145 = .ok (.istore 5, 2) := by decide +kernel
theorem dX12_chooses_147 : decode cX12_chooses 147 = .ok (.iload 5, 2) := by decide +kernel
theorem dX12_chooses_149 : decode cX12_chooses 149 = .ok (.bipush 8, 2) := by decide +kernel
theorem dX12_chooses_151 : decode cX12_chooses 151 = .ok (.if_icmp .ge 73, 3) := by decide +kernel
theorem dX12_chooses_154 : decode cX12_chooses 154 = .ok (.aload_n 0, 1) := by decide +kernel
theorem dX12_chooses_155 : decode cX12_chooses 155 = .ok (.getfield 125, 3) := by decide +kernel
theorem dX12_chooses_158 : decode cX12_chooses 158 = .ok (.bipush 8, 2) := by decide +kernel
theorem dX12_chooses_160 : decode cX12_chooses 160 = .ok (.iload_n 1, 1) := by decide +kernel
theorem dX12_chooses_161 : decode cX12_chooses 161 = .ok (.imul, 1) := by decide +kernel
theorem dX12_chooses_162 : decode cX12_chooses 162 = .ok (.iload 5, 2) := by decide +kernel
theorem dX12_chooses_164 : decode cX12_chooses 164 = .ok (.iadd, 1) := by decide +kernel
theorem dX12_chooses_165 : decode cX12_chooses 165 = .ok (.iaload, 1) := by decide +kernel
theorem dX12_chooses_166 : decode cX12_chooses 166 = .ok (.iload_n 2, 1) := by decide +kernel
theorem dX12_chooses_167 : decode cX12_chooses 167 = .ok (.iconst (-1), 1) := by decide +kernel
theorem dX12_chooses_168 : decode cX12_chooses 168 = .ok (.if_icmp .eq 17, 3) := by decide +kernel
theorem dX12_chooses_171 : decode cX12_chooses 171 = .ok (.aload_n 0, 1) := by decide +kernel
theorem dX12_chooses_172 : decode cX12_chooses 172 = .ok (.iload_n 2, 1) := by decide +kernel
theorem dX12_chooses_173 : decode cX12_chooses 173 = .ok (.iload 5, 2) := by decide +kernel
theorem dX12_chooses_175 : decode cX12_chooses 175 = .ok (.invokevirtual 264, 3) := by decide +kernel
theorem dX12_chooses_178 : decode cX12_chooses 178 = .ok (.ifCond .eq 7, 3) := by decide +kernel
theorem dX12_chooses_181 : decode cX12_chooses 181 = .ok (.iconst 1, 1) := by decide +kernel
theorem dX12_chooses_182 : decode cX12_chooses 182 = .ok (.goto 4, 3) := by decide +kernel
theorem dX12_chooses_185 : decode cX12_chooses 185 = .ok (.iconst 0, 1) := by decide +kernel
theorem dX12_chooses_186 : decode cX12_chooses 186 = .ok (.iadd, 1) := by decide +kernel
theorem dX12_chooses_187 : decode cX12_chooses 187 = .ok (.istore 6, 2) := by decide +kernel
theorem dX12_chooses_189 : decode cX12_chooses 189 = .ok (.aload_n 0, 1) := by decide +kernel
theorem dX12_chooses_190 : decode cX12_chooses 190 = .ok (.iload_n 1, 1) := by decide +kernel
theorem dX12_chooses_191 : decode cX12_chooses 191 = .ok (.iload 5, 2) := by decide +kernel
theorem dX12_chooses_193 : decode cX12_chooses 193 = .ok (.invokevirtual 260, 3) := by decide +kernel
theorem dX12_chooses_196 : decode cX12_chooses 196 = .ok (.ifCond .eq 22, 3) := by decide +kernel
theorem dX12_chooses_199 : decode cX12_chooses 199 = .ok (.iload_n 3, 1) := by decide +kernel
theorem dX12_chooses_200 : decode cX12_chooses 200 = .ok (.iconst (-1), 1) := by decide +kernel
theorem dX12_chooses_201 : decode cX12_chooses 201 = .ok (.if_icmp .eq 10, 3) := by decide +kernel
theorem dX12_chooses_204 : decode cX12_chooses 204 = .ok (.iload 6, 2) := by decide +kernel
theorem dX12_chooses_206 : decode cX12_chooses 206 = .ok (.iload 4, 2) := by decide +kernel
theorem dX12_chooses_208 : decode cX12_chooses 208 = .ok (.if_icmp .ge 10, 3) := by decide +kernel
theorem dX12_chooses_211 : decode cX12_chooses 211 = .ok (.iload 5, 2) := by decide +kernel
theorem dX12_chooses_213 : decode cX12_chooses 213 = .ok (.istore_n 3, 1) := by decide +kernel
theorem dX12_chooses_214 : decode cX12_chooses 214 = .ok (.iload 6, 2) := by decide +kernel
theorem dX12_chooses_216 : decode cX12_chooses 216 = .ok (.istore 4, 2) := by decide +kernel
theorem dX12_chooses_218 : decode cX12_chooses 218 = .ok (.iinc 5 1, 3) := by decide +kernel
theorem dX12_chooses_221 : decode cX12_chooses 221 = .ok (.goto (-74), 3) := by decide +kernel
theorem dX12_chooses_224 : decode cX12_chooses 224 = .ok (.aload_n 0, 1) := by decide +kernel
theorem dX12_chooses_225 : decode cX12_chooses 225 = .ok (.getfield 116, 3) := by decide +kernel
theorem dX12_chooses_228 : decode cX12_chooses 228 = .ok (.iload_n 1, 1) := by decide +kernel
theorem dX12_chooses_229 : decode cX12_chooses 229 = .ok (.iload_n 3, 1) := by decide +kernel
theorem dX12_chooses_230 : decode cX12_chooses 230 = .ok (.iastore, 1) := by decide +kernel
theorem dX12_chooses_231 : decode cX12_chooses 231 = .ok (.aload_n 0, 1) := by decide +kernel
theorem dX12_chooses_232 : decode cX12_chooses 232 = .ok (.getfield 119, 3) := by decide +kernel
theorem dX12_chooses_235 : decode cX12_chooses 235 = .ok (.iload_n 1, 1) := by decide +kernel
theorem dX12_chooses_236 : decode cX12_chooses 236 = .ok (.iload_n 3, 1) := by decide +kernel
theorem dX12_chooses_237 : decode cX12_chooses 237 = .ok (.iconst (-1), 1) := by decide +kernel
theorem dX12_chooses_238 : decode cX12_chooses 238 = .ok (.if_icmp .eq 21, 3) := by decide +kernel
theorem dX12_chooses_241 : decode cX12_chooses 241 = .ok (.iload_n 2, 1) := by decide +kernel
theorem dX12_chooses_242 : decode cX12_chooses 242 = .ok (.iconst (-1), 1) := by decide +kernel
theorem dX12_chooses_243 : decode cX12_chooses 243 = .ok (.if_icmp .eq 16, 3) := by decide +kernel
theorem dX12_chooses_246 : decode cX12_chooses 246 = .ok (.aload_n 0, 1) := by decide +kernel
theorem dX12_chooses_247 : decode cX12_chooses 247 = .ok (.iload_n 2, 1) := by decide +kernel
theorem dX12_chooses_248 : decode cX12_chooses 248 = .ok (.iload_n 3, 1) := by decide +kernel
theorem dX12_chooses_249 : decode cX12_chooses 249 = .ok (.invokevirtual 264, 3) := by decide +kernel
theorem dX12_chooses_252 : decode cX12_chooses 252 = .ok (.ifCond .eq 7, 3) := by decide +kernel
theorem dX12_chooses_255 : decode cX12_chooses 255 = .ok (.iconst 1, 1) := by decide +kernel
theorem dX12_chooses_256 : decode cX12_chooses 256 = .ok (.goto 4, 3) := by decide +kernel
theorem dX12_chooses_259 : decode cX12_chooses 259 = .ok (.iconst 0, 1) := by decide +kernel
theorem dX12_chooses_260 : decode cX12_chooses 260 = .ok (.iastore, 1) := by decide +kernel
theorem dX12_chooses_261 : decode cX12_chooses 261 = .ok (.iinc 1 1, 3) := by decide +kernel
theorem dX12_chooses_264 : decode cX12_chooses 264 = .ok (.goto (-167), 3) := by decide +kernel
theorem dX12_chooses_267 : decode cX12_chooses 267 = .ok (.return_, 1) := by decide +kernel
theorem dX12_fits_0 : decode cX12_fits 0 = .ok (.iload_n 2, 1) := by decide +kernel
theorem dX12_fits_1 : decode cX12_fits 1 = .ok (.aload_n 0, 1) := by decide +kernel
theorem dX12_fits_2 : decode cX12_fits 2 = .ok (.getfield 77, 3) := by decide +kernel
theorem dX12_fits_5 : decode cX12_fits 5 = .ok (.iload_n 1, 1) := by decide +kernel
theorem dX12_fits_6 : decode cX12_fits 6 = .ok (.iaload, 1) := by decide +kernel
theorem dX12_fits_7 : decode cX12_fits 7 = .ok (.iadd, 1) := by decide +kernel
theorem dX12_fits_8 : decode cX12_fits 8 = .ok (.aload_n 0, 1) := by decide +kernel
theorem dX12_fits_9 : decode cX12_fits 9 = .ok (.getfield 248, 3) := by decide +kernel
theorem dX12_fits_12 : decode cX12_fits 12 = .ok (.if_icmp .gt 7, 3) := by decide +kernel
theorem dX12_fits_15 : decode cX12_fits 15 = .ok (.iconst 1, 1) := by decide +kernel
theorem dX12_fits_16 : decode cX12_fits 16 = .ok (.goto 4, 3) := by decide +kernel
theorem dX12_fits_19 : decode cX12_fits 19 = .ok (.iconst 0, 1) := by decide +kernel
theorem dX12_fits_20 : decode cX12_fits 20 = .ok (.istore_n 3, 1) := by decide +kernel
theorem dX12_fits_21 : decode cX12_fits 21 = .ok (.iconst 0, 1) := by decide +kernel
theorem dX12_fits_22 : decode cX12_fits 22 = .ok (.istore 4, 2) := by decide +kernel
theorem dX12_fits_24 : decode cX12_fits 24 = .ok (.iload 4, 2) := by decide +kernel
theorem dX12_fits_26 : decode cX12_fits 26 = .ok (.aload_n 0, 1) := by decide +kernel
theorem dX12_fits_27 : decode cX12_fits 27 = .ok (.getfield 77, 3) := by decide +kernel
theorem dX12_fits_30 : decode cX12_fits 30 = .ok (.iload_n 1, 1) := by decide +kernel
theorem dX12_fits_31 : decode cX12_fits 31 = .ok (.iaload, 1) := by decide +kernel
theorem dX12_fits_32 : decode cX12_fits 32 = .ok (.if_icmp .ge 114, 3) := by decide +kernel
theorem dX12_fits_35 : decode cX12_fits 35 = .ok (.iload_n 3, 1) := by decide +kernel
theorem dX12_fits_36 : decode cX12_fits 36 = .ok (.ifCond .eq 110, 3) := by decide +kernel
theorem dX12_fits_39 : decode cX12_fits 39 = .ok (.aload_n 0, 1) := by decide +kernel
theorem dX12_fits_40 : decode cX12_fits 40 = .ok (.getfield 71, 3) := by decide +kernel
theorem dX12_fits_43 : decode cX12_fits 43 = .ok (.iconst 3, 1) := by decide +kernel
theorem dX12_fits_44 : decode cX12_fits 44 = .ok (.iload_n 1, 1) := by decide +kernel
theorem dX12_fits_45 : decode cX12_fits 45 = .ok (.imul, 1) := by decide +kernel
theorem dX12_fits_46 : decode cX12_fits 46 = .ok (.iload 4, 2) := by decide +kernel
theorem dX12_fits_48 : decode cX12_fits 48 = .ok (.iadd, 1) := by decide +kernel
theorem dX12_fits_49 : decode cX12_fits 49 = .ok (.iaload, 1) := by decide +kernel
theorem dX12_fits_50 : decode cX12_fits 50 = .ok (.iconst 1, 1) := by decide +kernel
theorem dX12_fits_51 : decode cX12_fits 51 = .ok (.isub, 1) := by decide +kernel
theorem dX12_fits_52 : decode cX12_fits 52 = .ok (.istore 5, 2) := by decide +kernel
theorem dX12_fits_54 : decode cX12_fits 54 = .ok (.aload_n 0, 1) := by decide +kernel
theorem dX12_fits_55 : decode cX12_fits 55 = .ok (.getfield 107, 3) := by decide +kernel
theorem dX12_fits_58 : decode cX12_fits 58 = .ok (.iload_n 2, 1) := by decide +kernel
theorem dX12_fits_59 : decode cX12_fits 59 = .ok (.iload 4, 2) := by decide +kernel
theorem dX12_fits_61 : decode cX12_fits 61 = .ok (.iadd, 1) := by decide +kernel
theorem dX12_fits_62 : decode cX12_fits 62 = .ok (.iaload, 1) := by decide +kernel
theorem dX12_fits_63 : decode cX12_fits 63 = .ok (.aload_n 0, 1) := by decide +kernel
theorem dX12_fits_64 : decode cX12_fits 64 = .ok (.getfield 107, 3) := by decide +kernel
theorem dX12_fits_67 : decode cX12_fits 67 = .ok (.iload_n 2, 1) := by decide +kernel
theorem dX12_fits_68 : decode cX12_fits 68 = .ok (.iaload, 1) := by decide +kernel
theorem dX12_fits_69 : decode cX12_fits 69 = .ok (.if_icmp .ne 69, 3) := by decide +kernel
theorem dX12_fits_72 : decode cX12_fits 72 = .ok (.iload 5, 2) := by decide +kernel
theorem dX12_fits_74 : decode cX12_fits 74 = .ok (.iconst (-1), 1) := by decide +kernel
theorem dX12_fits_75 : decode cX12_fits 75 = .ok (.if_icmp .ne 30, 3) := by decide +kernel
theorem dX12_fits_78 : decode cX12_fits 78 = .ok (.aload_n 0, 1) := by decide +kernel
theorem dX12_fits_79 : decode cX12_fits 79 = .ok (.getfield 110, 3) := by decide +kernel
theorem dX12_fits_82 : decode cX12_fits 82 = .ok (.iload_n 2, 1) := by decide +kernel
theorem dX12_fits_83 : decode cX12_fits 83 = .ok (.iload 4, 2) := by decide +kernel
theorem dX12_fits_85 : decode cX12_fits 85 = .ok (.iadd, 1) := by decide +kernel
theorem dX12_fits_86 : decode cX12_fits 86 = .ok (.laload, 1) := by decide +kernel
theorem dX12_fits_87 : decode cX12_fits 87 = .ok (.aload_n 0, 1) := by decide +kernel
theorem dX12_fits_88 : decode cX12_fits 88 = .ok (.getfield 74, 3) := by decide +kernel
theorem dX12_fits_91 : decode cX12_fits 91 = .ok (.iconst 3, 1) := by decide +kernel
theorem dX12_fits_92 : decode cX12_fits 92 = .ok (.iload_n 1, 1) := by decide +kernel
theorem dX12_fits_93 : decode cX12_fits 93 = .ok (.imul, 1) := by decide +kernel
theorem dX12_fits_94 : decode cX12_fits 94 = .ok (.iload 4, 2) := by decide +kernel
theorem dX12_fits_96 : decode cX12_fits 96 = .ok (.iadd, 1) := by decide +kernel
theorem dX12_fits_97 : decode cX12_fits 97 = .ok (.laload, 1) := by decide +kernel
theorem dX12_fits_98 : decode cX12_fits 98 = .ok (.lcmp, 1) := by decide +kernel
theorem dX12_fits_99 : decode cX12_fits 99 = .ok (.ifCond .ne 39, 3) := by decide +kernel
theorem dX12_fits_102 : decode cX12_fits 102 = .ok (.goto 32, 3) := by decide +kernel
theorem dX12_fits_105 : decode cX12_fits 105 = .ok (.aload_n 0, 1) := by decide +kernel
theorem dX12_fits_106 : decode cX12_fits 106 = .ok (.getfield 116, 3) := by decide +kernel
theorem dX12_fits_109 : decode cX12_fits 109 = .ok (.iload_n 2, 1) := by decide +kernel
theorem dX12_fits_110 : decode cX12_fits 110 = .ok (.iload 4, 2) := by decide +kernel
theorem dX12_fits_112 : decode cX12_fits 112 = .ok (.iadd, 1) := by decide +kernel
theorem dX12_fits_113 : decode cX12_fits 113 = .ok (.iaload, 1) := by decide +kernel
theorem dX12_fits_114 : decode cX12_fits 114 = .ok (.iconst (-1), 1) := by decide +kernel
theorem dX12_fits_115 : decode cX12_fits 115 = .ok (.if_icmp .eq 23, 3) := by decide +kernel
theorem dX12_fits_118 : decode cX12_fits 118 = .ok (.aload_n 0, 1) := by decide +kernel
theorem dX12_fits_119 : decode cX12_fits 119 = .ok (.getfield 116, 3) := by decide +kernel
theorem dX12_fits_122 : decode cX12_fits 122 = .ok (.iload_n 2, 1) := by decide +kernel
theorem dX12_fits_123 : decode cX12_fits 123 = .ok (.iload 4, 2) := by decide +kernel
theorem dX12_fits_125 : decode cX12_fits 125 = .ok (.iadd, 1) := by decide +kernel
theorem dX12_fits_126 : decode cX12_fits 126 = .ok (.iaload, 1) := by decide +kernel
theorem dX12_fits_127 : decode cX12_fits 127 = .ok (.iconst 2, 1) := by decide +kernel
theorem dX12_fits_128 : decode cX12_fits 128 = .ok (.idiv, 1) := by decide +kernel
theorem dX12_fits_129 : decode cX12_fits 129 = .ok (.iload 5, 2) := by decide +kernel
theorem dX12_fits_131 : decode cX12_fits 131 = .ok (.if_icmp .ne 7, 3) := by decide +kernel
theorem dX12_fits_134 : decode cX12_fits 134 = .ok (.iconst 1, 1) := by decide +kernel
theorem dX12_fits_135 : decode cX12_fits 135 = .ok (.goto 4, 3) := by decide +kernel
theorem dX12_fits_138 : decode cX12_fits 138 = .ok (.iconst 0, 1) := by decide +kernel
theorem dX12_fits_139 : decode cX12_fits 139 = .ok (.istore_n 3, 1) := by decide +kernel
theorem dX12_fits_140 : decode cX12_fits 140 = .ok (.iinc 4 1, 3) := by decide +kernel
theorem dX12_fits_143 : decode cX12_fits 143 = .ok (.goto (-119), 3) := by decide +kernel
theorem dX12_fits_146 : decode cX12_fits 146 = .ok (.iload_n 3, 1) := by decide +kernel
theorem dX12_fits_147 : decode cX12_fits 147 = .ok (.ireturn, 1) := by decide +kernel
theorem dX12_takesStyles_0 : decode cX12_takesStyles 0 = .ok (.iconst 0, 1) := by decide +kernel
theorem dX12_takesStyles_1 : decode cX12_takesStyles 1 = .ok (.istore_n 1, 1) := by decide +kernel
theorem dX12_takesStyles_2 : decode cX12_takesStyles 2 = .ok (.iconst 0, 1) := by decide +kernel
theorem dX12_takesStyles_3 : decode cX12_takesStyles 3 = .ok (.istore_n 2, 1) := by decide +kernel
theorem dX12_takesStyles_4 : decode cX12_takesStyles 4 = .ok (.iload_n 2, 1) := by decide +kernel
theorem dX12_takesStyles_5 : decode cX12_takesStyles 5 = .ok (.aload_n 0, 1) := by decide +kernel
theorem dX12_takesStyles_6 : decode cX12_takesStyles 6 = .ok (.getfield 248, 3) := by decide +kernel
theorem dX12_takesStyles_9 : decode cX12_takesStyles 9 = .ok (.if_icmp .ge 16, 3) := by decide +kernel
theorem dX12_takesStyles_12 : decode cX12_takesStyles 12 = .ok (.aload_n 0, 1) := by decide +kernel
theorem dX12_takesStyles_13 : decode cX12_takesStyles 13 = .ok (.getfield 122, 3) := by decide +kernel
theorem dX12_takesStyles_16 : decode cX12_takesStyles 16 = .ok (.iload_n 2, 1) := by decide +kernel
theorem dX12_takesStyles_17 : decode cX12_takesStyles 17 = .ok (.iconst 0, 1) := by decide +kernel
theorem dX12_takesStyles_18 : decode cX12_takesStyles 18 = .ok (.iastore, 1) := by decide +kernel
theorem dX12_takesStyles_19 : decode cX12_takesStyles 19 = .ok (.iinc 2 1, 3) := by decide +kernel
theorem dX12_takesStyles_22 : decode cX12_takesStyles 22 = .ok (.goto (-18), 3) := by decide +kernel
theorem dX12_takesStyles_25 : decode cX12_takesStyles 25 = .ok (.iload_n 1, 1) := by decide +kernel
theorem dX12_takesStyles_26 : decode cX12_takesStyles 26 = .ok (.aload_n 0, 1) := by decide +kernel
theorem dX12_takesStyles_27 : decode cX12_takesStyles 27 = .ok (.getfield 248, 3) := by decide +kernel
theorem dX12_takesStyles_30 : decode cX12_takesStyles 30 = .ok (.if_icmp .ge 73, 3) := by decide +kernel
theorem dX12_takesStyles_33 : decode cX12_takesStyles 33 = .ok (.iconst 0, 1) := by decide +kernel
theorem dX12_takesStyles_34 : decode cX12_takesStyles 34 = .ok (.istore_n 2, 1) := by decide +kernel
theorem dX12_takesStyles_35 : decode cX12_takesStyles 35 = .ok (.iload_n 2, 1) := by decide +kernel
theorem dX12_takesStyles_36 : decode cX12_takesStyles 36 = .ok (.aload_n 0, 1) := by decide +kernel
theorem dX12_takesStyles_37 : decode cX12_takesStyles 37 = .ok (.getfield 245, 3) := by decide +kernel
theorem dX12_takesStyles_40 : decode cX12_takesStyles 40 = .ok (.if_icmp .ge 18, 3) := by decide +kernel
theorem dX12_takesStyles_43 : decode cX12_takesStyles 43 = .ok (.aload_n 0, 1) := by decide +kernel
theorem dX12_takesStyles_44 : decode cX12_takesStyles 44 = .ok (.iload_n 2, 1) := by decide +kernel
theorem dX12_takesStyles_45 : decode cX12_takesStyles 45 = .ok (.iload_n 1, 1) := by decide +kernel
theorem dX12_takesStyles_46 : decode cX12_takesStyles 46 = .ok (.invokevirtual 271, 3) := by decide +kernel
theorem dX12_takesStyles_49 : decode cX12_takesStyles 49 = .ok (.ifCond .ne 9, 3) := by decide +kernel
theorem dX12_takesStyles_52 : decode cX12_takesStyles 52 = .ok (.iinc 2 1, 3) := by decide +kernel
theorem dX12_takesStyles_55 : decode cX12_takesStyles 55 = .ok (.goto (-20), 3) := by decide +kernel
theorem dX12_takesStyles_58 : decode cX12_takesStyles 58 = .ok (.aload_n 0, 1) := by decide +kernel
theorem dX12_takesStyles_59 : decode cX12_takesStyles 59 = .ok (.getfield 122, 3) := by decide +kernel
theorem dX12_takesStyles_62 : decode cX12_takesStyles 62 = .ok (.iload_n 1, 1) := by decide +kernel
theorem dX12_takesStyles_63 : decode cX12_takesStyles 63 = .ok (.iload_n 2, 1) := by decide +kernel
theorem dX12_takesStyles_64 : decode cX12_takesStyles 64 = .ok (.aload_n 0, 1) := by decide +kernel
theorem dX12_takesStyles_65 : decode cX12_takesStyles 65 = .ok (.getfield 245, 3) := by decide +kernel
theorem dX12_takesStyles_68 : decode cX12_takesStyles 68 = .ok (.if_icmp .ge 9, 3) := by decide +kernel
theorem dX12_takesStyles_71 : decode cX12_takesStyles 71 = .ok (.iload_n 2, 1) := by decide +kernel
theorem dX12_takesStyles_72 : decode cX12_takesStyles 72 = .ok (.iconst 1, 1) := by decide +kernel
theorem dX12_takesStyles_73 : decode cX12_takesStyles 73 = .ok (.iadd, 1) := by decide +kernel
theorem dX12_takesStyles_74 : decode cX12_takesStyles 74 = .ok (.goto 4, 3) := by decide +kernel
theorem dX12_takesStyles_77 : decode cX12_takesStyles 77 = .ok (.iconst 0, 1) := by decide +kernel
theorem dX12_takesStyles_78 : decode cX12_takesStyles 78 = .ok (.iastore, 1) := by decide +kernel
theorem dX12_takesStyles_79 : decode cX12_takesStyles 79 = .ok (.iload_n 1, 1) := by decide +kernel
theorem dX12_takesStyles_80 : decode cX12_takesStyles 80 = .ok (.iload_n 2, 1) := by decide +kernel
theorem dX12_takesStyles_81 : decode cX12_takesStyles 81 = .ok (.aload_n 0, 1) := by decide +kernel
theorem dX12_takesStyles_82 : decode cX12_takesStyles 82 = .ok (.getfield 245, 3) := by decide +kernel
theorem dX12_takesStyles_85 : decode cX12_takesStyles 85 = .ok (.if_icmp .ge 12, 3) := by decide +kernel
theorem dX12_takesStyles_88 : decode cX12_takesStyles 88 = .ok (.aload_n 0, 1) := by decide +kernel
theorem dX12_takesStyles_89 : decode cX12_takesStyles 89 = .ok (.getfield 77, 3) := by decide +kernel
theorem dX12_takesStyles_92 : decode cX12_takesStyles 92 = .ok (.iload_n 2, 1) := by decide +kernel
theorem dX12_takesStyles_93 : decode cX12_takesStyles 93 = .ok (.iaload, 1) := by decide +kernel
theorem dX12_takesStyles_94 : decode cX12_takesStyles 94 = .ok (.goto 4, 3) := by decide +kernel
theorem dX12_takesStyles_97 : decode cX12_takesStyles 97 = .ok (.iconst 1, 1) := by decide +kernel
theorem dX12_takesStyles_98 : decode cX12_takesStyles 98 = .ok (.iadd, 1) := by decide +kernel
theorem dX12_takesStyles_99 : decode cX12_takesStyles 99 = .ok (.istore_n 1, 1) := by decide +kernel
theorem dX12_takesStyles_100 : decode cX12_takesStyles 100 = .ok (.goto (-75), 3) := by decide +kernel
theorem dX12_takesStyles_103 : decode cX12_takesStyles 103 = .ok (.return_, 1) := by decide +kernel
theorem dX12_reads_0 : decode cX12_reads 0 = .ok (.aload_n 0, 1) := by decide +kernel
theorem dX12_reads_1 : decode cX12_reads 1 = .ok (.invokevirtual 274, 3) := by decide +kernel
theorem dX12_reads_4 : decode cX12_reads 4 = .ok (.aload_n 0, 1) := by decide +kernel
theorem dX12_reads_5 : decode cX12_reads 5 = .ok (.invokevirtual 277, 3) := by decide +kernel
theorem dX12_reads_8 : decode cX12_reads 8 = .ok (.iconst 0, 1) := by decide +kernel
theorem dX12_reads_9 : decode cX12_reads 9 = .ok (.istore_n 1, 1) := by decide +kernel
theorem dX12_reads_10 : decode cX12_reads 10 = .ok (.iload_n 1, 1) := by decide +kernel
theorem dX12_reads_11 : decode cX12_reads 11 = .ok (.aload_n 0, 1) := by decide +kernel
theorem dX12_reads_12 : decode cX12_reads 12 = .ok (.getfield 248, 3) := by decide +kernel
theorem dX12_reads_15 : decode cX12_reads 15 = .ok (.if_icmp .ge 25, 3) := by decide +kernel
theorem dX12_reads_18 : decode cX12_reads 18 = .ok (.aload_n 0, 1) := by decide +kernel
theorem dX12_reads_19 : decode cX12_reads 19 = .ok (.getfield 113, 3) := by decide +kernel
theorem dX12_reads_22 : decode cX12_reads 22 = .ok (.iload_n 1, 1) := by decide +kernel
theorem dX12_reads_23 : decode cX12_reads 23 = .ok (.aload_n 0, 1) := by decide +kernel
theorem dX12_reads_24 : decode cX12_reads 24 = .ok (.aload_n 0, 1) := by decide +kernel
theorem dX12_reads_25 : decode cX12_reads 25 = .ok (.getfield 110, 3) := by decide +kernel
theorem dX12_reads_28 : decode cX12_reads 28 = .ok (.iload_n 1, 1) := by decide +kernel
theorem dX12_reads_29 : decode cX12_reads 29 = .ok (.laload, 1) := by decide +kernel
theorem dX12_reads_30 : decode cX12_reads 30 = .ok (.invokevirtual 280, 3) := by decide +kernel
theorem dX12_reads_33 : decode cX12_reads 33 = .ok (.iastore, 1) := by decide +kernel
theorem dX12_reads_34 : decode cX12_reads 34 = .ok (.iinc 1 1, 3) := by decide +kernel
theorem dX12_reads_37 : decode cX12_reads 37 = .ok (.goto (-27), 3) := by decide +kernel
theorem dX12_reads_40 : decode cX12_reads 40 = .ok (.aload_n 0, 1) := by decide +kernel
theorem dX12_reads_41 : decode cX12_reads 41 = .ok (.invokevirtual 283, 3) := by decide +kernel
theorem dX12_reads_44 : decode cX12_reads 44 = .ok (.aload_n 0, 1) := by decide +kernel
theorem dX12_reads_45 : decode cX12_reads 45 = .ok (.invokevirtual 286, 3) := by decide +kernel
theorem dX12_reads_48 : decode cX12_reads 48 = .ok (.return_, 1) := by decide +kernel
theorem dX12_hasWord_0 : decode cX12_hasWord 0 = .ok (.aload_n 0, 1) := by decide +kernel
theorem dX12_hasWord_1 : decode cX12_hasWord 1 = .ok (.invokevirtual 289, 3) := by decide +kernel
theorem dX12_hasWord_4 : decode cX12_hasWord 4 = .ok (.aload_n 0, 1) := by decide +kernel
theorem dX12_hasWord_5 : decode cX12_hasWord 5 = .ok (.iload_n 1, 1) := by decide +kernel
theorem dX12_hasWord_6 : decode cX12_hasWord 6 = .ok (.iconst 0, 1) := by decide +kernel
theorem dX12_hasWord_7 : decode cX12_hasWord 7 = .ok (.aload_n 0, 1) := by decide +kernel
theorem dX12_hasWord_8 : decode cX12_hasWord 8 = .ok (.getfield 248, 3) := by decide +kernel
theorem dX12_hasWord_11 : decode cX12_hasWord 11 = .ok (.iconst 1, 1) := by decide +kernel
theorem dX12_hasWord_12 : decode cX12_hasWord 12 = .ok (.isub, 1) := by decide +kernel
theorem dX12_hasWord_13 : decode cX12_hasWord 13 = .ok (.invokestatic 156, 3) := by decide +kernel
theorem dX12_hasWord_16 : decode cX12_hasWord 16 = .ok (.ifCond .eq 7, 3) := by decide +kernel
theorem dX12_hasWord_19 : decode cX12_hasWord 19 = .ok (.iconst 0, 1) := by decide +kernel
theorem dX12_hasWord_20 : decode cX12_hasWord 20 = .ok (.goto 4, 3) := by decide +kernel
theorem dX12_hasWord_23 : decode cX12_hasWord 23 = .ok (.iconst 1, 1) := by decide +kernel
theorem dX12_hasWord_24 : decode cX12_hasWord 24 = .ok (.putfield 146, 3) := by decide +kernel
theorem dX12_hasWord_27 : decode cX12_hasWord 27 = .ok (.aload_n 0, 1) := by decide +kernel
theorem dX12_hasWord_28 : decode cX12_hasWord 28 = .ok (.getfield 146, 3) := by decide +kernel
theorem dX12_hasWord_31 : decode cX12_hasWord 31 = .ok (.ifCond .ne 7, 3) := by decide +kernel
theorem dX12_hasWord_34 : decode cX12_hasWord 34 = .ok (.iconst 1, 1) := by decide +kernel
theorem dX12_hasWord_35 : decode cX12_hasWord 35 = .ok (.goto 4, 3) := by decide +kernel
theorem dX12_hasWord_38 : decode cX12_hasWord 38 = .ok (.iconst 0, 1) := by decide +kernel
theorem dX12_hasWord_39 : decode cX12_hasWord 39 = .ok (.ireturn, 1) := by decide +kernel
theorem dX12_remembers_0 : decode cX12_remembers 0 = .ok (.aload_n 0, 1) := by decide +kernel
theorem dX12_remembers_1 : decode cX12_remembers 1 = .ok (.aload_n 0, 1) := by decide +kernel
theorem dX12_remembers_2 : decode cX12_remembers 2 = .ok (.getfield 251, 3) := by decide +kernel
theorem dX12_remembers_5 : decode cX12_remembers 5 = .ok (.putfield 292, 3) := by decide +kernel
theorem dX12_remembers_8 : decode cX12_remembers 8 = .ok (.iconst 0, 1) := by decide +kernel
theorem dX12_remembers_9 : decode cX12_remembers 9 = .ok (.istore_n 1, 1) := by decide +kernel
theorem dX12_remembers_10 : decode cX12_remembers 10 = .ok (.iload_n 1, 1) := by decide +kernel
theorem dX12_remembers_11 : decode cX12_remembers 11 = .ok (.aload_n 0, 1) := by decide +kernel
theorem dX12_remembers_12 : decode cX12_remembers 12 = .ok (.getfield 251, 3) := by decide +kernel
theorem dX12_remembers_15 : decode cX12_remembers 15 = .ok (.if_icmp .ge 21, 3) := by decide +kernel
theorem dX12_remembers_18 : decode cX12_remembers 18 = .ok (.aload_n 0, 1) := by decide +kernel
theorem dX12_remembers_19 : decode cX12_remembers 19 = .ok (.getfield 140, 3) := by decide +kernel
theorem dX12_remembers_22 : decode cX12_remembers 22 = .ok (.iload_n 1, 1) := by decide +kernel
theorem dX12_remembers_23 : decode cX12_remembers 23 = .ok (.aload_n 0, 1) := by decide +kernel
theorem dX12_remembers_24 : decode cX12_remembers 24 = .ok (.getfield 86, 3) := by decide +kernel
theorem dX12_remembers_27 : decode cX12_remembers 27 = .ok (.iload_n 1, 1) := by decide +kernel
theorem dX12_remembers_28 : decode cX12_remembers 28 = .ok (.iaload, 1) := by decide +kernel
theorem dX12_remembers_29 : decode cX12_remembers 29 = .ok (.iastore, 1) := by decide +kernel
theorem dX12_remembers_30 : decode cX12_remembers 30 = .ok (.iinc 1 1, 3) := by decide +kernel
theorem dX12_remembers_33 : decode cX12_remembers 33 = .ok (.goto (-23), 3) := by decide +kernel
theorem dX12_remembers_36 : decode cX12_remembers 36 = .ok (.return_, 1) := by decide +kernel
theorem dX12_endOf_0 : decode cX12_endOf 0 = .ok (.iconst 0, 1) := by decide +kernel
theorem dX12_endOf_1 : decode cX12_endOf 1 = .ok (.istore_n 3, 1) := by decide +kernel
theorem dX12_endOf_2 : decode cX12_endOf 2 = .ok (.iload_n 2, 1) := by decide +kernel
theorem dX12_endOf_3 : decode cX12_endOf 3 = .ok (.istore 4, 2) := by decide +kernel
theorem dX12_endOf_5 : decode cX12_endOf 5 = .ok (.iload 4, 2) := by decide +kernel
theorem dX12_endOf_7 : decode cX12_endOf 7 = .ok (.iload_n 1, 1) := by decide +kernel
theorem dX12_endOf_8 : decode cX12_endOf 8 = .ok (.if_icmp .ge 73, 3) := by decide +kernel
theorem dX12_endOf_11 : decode cX12_endOf 11 = .ok (.iload_n 3, 1) := by decide +kernel
theorem dX12_endOf_12 : decode cX12_endOf 12 = .ok (.istore 5, 2) := by decide +kernel
theorem dX12_endOf_14 : decode cX12_endOf 14 = .ok (.iload_n 3, 1) := by decide +kernel
theorem dX12_endOf_15 : decode cX12_endOf 15 = .ok (.ifCond .ne 12, 3) := by decide +kernel
theorem dX12_endOf_18 : decode cX12_endOf 18 = .ok (.aload_n 0, 1) := by decide +kernel
theorem dX12_endOf_19 : decode cX12_endOf 19 = .ok (.iload 4, 2) := by decide +kernel
theorem dX12_endOf_21 : decode cX12_endOf 21 = .ok (.iaload, 1) := by decide +kernel
theorem dX12_endOf_22 : decode cX12_endOf 22 = .ok (.bipush 60, 2) := by decide +kernel
theorem dX12_endOf_24 : decode cX12_endOf 24 = .ok (.if_icmp .ne 7, 3) := by decide +kernel
theorem dX12_endOf_27 : decode cX12_endOf 27 = .ok (.iconst 1, 1) := by decide +kernel
theorem dX12_endOf_28 : decode cX12_endOf 28 = .ok (.goto 4, 3) := by decide +kernel
theorem dX12_endOf_31 : decode cX12_endOf 31 = .ok (.iconst 0, 1) := by decide +kernel
theorem dX12_endOf_32 : decode cX12_endOf 32 = .ok (.istore_n 3, 1) := by decide +kernel
theorem dX12_endOf_33 : decode cX12_endOf 33 = .ok (.iload_n 3, 1) := by decide +kernel
theorem dX12_endOf_34 : decode cX12_endOf 34 = .ok (.ifCond .ne 17, 3) := by decide +kernel
theorem dX12_endOf_37 : decode cX12_endOf 37 = .ok (.aload_n 0, 1) := by decide +kernel
theorem dX12_endOf_38 : decode cX12_endOf 38 = .ok (.iload 4, 2) := by decide +kernel
theorem dX12_endOf_40 : decode cX12_endOf 40 = .ok (.iaload, 1) := by decide +kernel
theorem dX12_endOf_41 : decode cX12_endOf 41 = .ok (.bipush 46, 2) := by decide +kernel
theorem dX12_endOf_43 : decode cX12_endOf 43 = .ok (.if_icmp .ne 8, 3) := by decide +kernel
theorem dX12_endOf_46 : decode cX12_endOf 46 = .ok (.iload 4, 2) := by decide +kernel
theorem dX12_endOf_48 : decode cX12_endOf 48 = .ok (.iconst 1, 1) := by decide +kernel
theorem dX12_endOf_49 : decode cX12_endOf 49 = .ok (.iadd, 1) := by decide +kernel
theorem dX12_endOf_50 : decode cX12_endOf 50 = .ok (.ireturn, 1) := by decide +kernel
theorem dX12_endOf_51 : decode cX12_endOf 51 = .ok (.iload_n 3, 1) := by decide +kernel
theorem dX12_endOf_52 : decode cX12_endOf 52 = .ok (.ifCond .eq 21, 3) := by decide +kernel
theorem dX12_endOf_55 : decode cX12_endOf 55 = .ok (.iload 5, 2) := by decide +kernel
theorem dX12_endOf_57 : decode cX12_endOf 57 = .ok (.ifCond .eq 12, 3) := by decide +kernel
theorem dX12_endOf_60 : decode cX12_endOf 60 = .ok (.aload_n 0, 1) := by decide +kernel
theorem dX12_endOf_61 : decode cX12_endOf 61 = .ok (.iload 4, 2) := by decide +kernel
theorem dX12_endOf_63 : decode cX12_endOf 63 = .ok (.iaload, 1) := by decide +kernel
theorem dX12_endOf_64 : decode cX12_endOf 64 = .ok (.bipush 62, 2) := by decide +kernel
theorem dX12_endOf_66 : decode cX12_endOf 66 = .ok (.if_icmp .eq 7, 3) := by decide +kernel
theorem dX12_endOf_69 : decode cX12_endOf 69 = .ok (.iconst 1, 1) := by decide +kernel
theorem dX12_endOf_70 : decode cX12_endOf 70 = .ok (.goto 4, 3) := by decide +kernel
theorem dX12_endOf_73 : decode cX12_endOf 73 = .ok (.iconst 0, 1) := by decide +kernel
theorem dX12_endOf_74 : decode cX12_endOf 74 = .ok (.istore_n 3, 1) := by decide +kernel
theorem dX12_endOf_75 : decode cX12_endOf 75 = .ok (.iinc 4 1, 3) := by decide +kernel
theorem dX12_endOf_78 : decode cX12_endOf 78 = .ok (.goto (-73), 3) := by decide +kernel
theorem dX12_endOf_81 : decode cX12_endOf 81 = .ok (.iload 4, 2) := by decide +kernel
theorem dX12_endOf_83 : decode cX12_endOf 83 = .ok (.ireturn, 1) := by decide +kernel
theorem dX12_like_0 : decode cX12_like 0 = .ok (.iconst 0, 1) := by decide +kernel
theorem dX12_like_1 : decode cX12_like 1 = .ok (.istore 6, 2) := by decide +kernel
theorem dX12_like_3 : decode cX12_like 3 = .ok (.iconst 0, 1) := by decide +kernel
theorem dX12_like_4 : decode cX12_like 4 = .ok (.istore 7, 2) := by decide +kernel
theorem dX12_like_6 : decode cX12_like 6 = .ok (.iload 7, 2) := by decide +kernel
theorem dX12_like_8 : decode cX12_like 8 = .ok (.iload_n 2, 1) := by decide +kernel
theorem dX12_like_9 : decode cX12_like 9 = .ok (.if_icmp .ge 111, 3) := by decide +kernel
theorem dX12_like_12 : decode cX12_like 12 = .ok (.iload 7, 2) := by decide +kernel
theorem dX12_like_14 : decode cX12_like 14 = .ok (.iload_n 3, 1) := by decide +kernel
theorem dX12_like_15 : decode cX12_like 15 = .ok (.if_icmp .ge 105, 3) := by decide +kernel
theorem dX12_like_18 : decode cX12_like 18 = .ok (.aload_n 1, 1) := by decide +kernel
theorem dX12_like_19 : decode cX12_like 19 = .ok (.iload_n 2, 1) := by decide +kernel
theorem dX12_like_20 : decode cX12_like 20 = .ok (.iload 7, 2) := by decide +kernel
theorem dX12_like_22 : decode cX12_like 22 = .ok (.invokestatic 295, 3) := by decide +kernel
theorem dX12_like_25 : decode cX12_like 25 = .ok (.istore 8, 2) := by decide +kernel
theorem dX12_like_27 : decode cX12_like 27 = .ok (.iload 8, 2) := by decide +kernel
theorem dX12_like_29 : decode cX12_like 29 = .ok (.iload 7, 2) := by decide +kernel
theorem dX12_like_31 : decode cX12_like 31 = .ok (.isub, 1) := by decide +kernel
theorem dX12_like_32 : decode cX12_like 32 = .ok (.iload 5, 2) := by decide +kernel
theorem dX12_like_34 : decode cX12_like 34 = .ok (.iload 4, 2) := by decide +kernel
theorem dX12_like_36 : decode cX12_like 36 = .ok (.isub, 1) := by decide +kernel
theorem dX12_like_37 : decode cX12_like 37 = .ok (.if_icmp .ne 7, 3) := by decide +kernel
theorem dX12_like_40 : decode cX12_like 40 = .ok (.iconst 1, 1) := by decide +kernel
theorem dX12_like_41 : decode cX12_like 41 = .ok (.goto 4, 3) := by decide +kernel
theorem dX12_like_44 : decode cX12_like 44 = .ok (.iconst 0, 1) := by decide +kernel
theorem dX12_like_45 : decode cX12_like 45 = .ok (.istore 9, 2) := by decide +kernel
theorem dX12_like_47 : decode cX12_like 47 = .ok (.iconst 0, 1) := by decide +kernel
theorem dX12_like_48 : decode cX12_like 48 = .ok (.istore 10, 2) := by decide +kernel
theorem dX12_like_50 : decode cX12_like 50 = .ok (.iload 10, 2) := by decide +kernel
theorem dX12_like_52 : decode cX12_like 52 = .ok (.iload 5, 2) := by decide +kernel
theorem dX12_like_54 : decode cX12_like 54 = .ok (.iload 4, 2) := by decide +kernel
theorem dX12_like_56 : decode cX12_like 56 = .ok (.isub, 1) := by decide +kernel
theorem dX12_like_57 : decode cX12_like 57 = .ok (.if_icmp .ge 41, 3) := by decide +kernel
theorem dX12_like_60 : decode cX12_like 60 = .ok (.iload 9, 2) := by decide +kernel
theorem dX12_like_62 : decode cX12_like 62 = .ok (.ifCond .eq 36, 3) := by decide +kernel
theorem dX12_like_65 : decode cX12_like 65 = .ok (.aload_n 1, 1) := by decide +kernel
theorem dX12_like_66 : decode cX12_like 66 = .ok (.iload 7, 2) := by decide +kernel
theorem dX12_like_68 : decode cX12_like 68 = .ok (.iload 10, 2) := by decide +kernel
theorem dX12_like_70 : decode cX12_like 70 = .ok (.iadd, 1) := by decide +kernel
theorem dX12_like_71 : decode cX12_like 71 = .ok (.iaload, 1) := by decide +kernel
theorem dX12_like_72 : decode cX12_like 72 = .ok (.aload_n 0, 1) := by decide +kernel
theorem dX12_like_73 : decode cX12_like 73 = .ok (.getfield 86, 3) := by decide +kernel
theorem dX12_like_76 : decode cX12_like 76 = .ok (.iload 4, 2) := by decide +kernel
theorem dX12_like_78 : decode cX12_like 78 = .ok (.iload 10, 2) := by decide +kernel
theorem dX12_like_80 : decode cX12_like 80 = .ok (.iadd, 1) := by decide +kernel
theorem dX12_like_81 : decode cX12_like 81 = .ok (.iaload, 1) := by decide +kernel
theorem dX12_like_82 : decode cX12_like 82 = .ok (.if_icmp .ne 7, 3) := by decide +kernel
theorem dX12_like_85 : decode cX12_like 85 = .ok (.iconst 1, 1) := by decide +kernel
theorem dX12_like_86 : decode cX12_like 86 = .ok (.goto 4, 3) := by decide +kernel
theorem dX12_like_89 : decode cX12_like 89 = .ok (.iconst 0, 1) := by decide +kernel
theorem dX12_like_90 : decode cX12_like 90 = .ok (.istore 9, 2) := by decide +kernel
theorem dX12_like_92 : decode cX12_like 92 = .ok (.iinc 10 1, 3) := by decide +kernel
theorem dX12_like_95 : decode cX12_like 95 = .ok (.goto (-45), 3) := by decide +kernel
theorem dX12_like_98 : decode cX12_like 98 = .ok (.iload 6, 2) := by decide +kernel
theorem dX12_like_100 : decode cX12_like 100 = .ok (.iload 9, 2) := by decide +kernel
theorem dX12_like_102 : decode cX12_like 102 = .ok (.ifCond .eq 7, 3) := by decide +kernel
theorem dX12_like_105 : decode cX12_like 105 = .ok (.iconst 1, 1) := by decide +kernel
theorem dX12_like_106 : decode cX12_like 106 = .ok (.goto 4, 3) := by decide +kernel
theorem dX12_like_109 : decode cX12_like 109 = .ok (.iconst 0, 1) := by decide +kernel
theorem dX12_like_110 : decode cX12_like 110 = .ok (.iadd, 1) := by decide +kernel
theorem dX12_like_111 : decode cX12_like 111 = .ok (.istore 6, 2) := by decide +kernel
theorem dX12_like_113 : decode cX12_like 113 = .ok (.iload 8, 2) := by decide +kernel
theorem dX12_like_115 : decode cX12_like 115 = .ok (.istore 7, 2) := by decide +kernel
theorem dX12_like_117 : decode cX12_like 117 = .ok (.goto (-111), 3) := by decide +kernel
theorem dX12_like_120 : decode cX12_like 120 = .ok (.iload 6, 2) := by decide +kernel
theorem dX12_like_122 : decode cX12_like 122 = .ok (.ireturn, 1) := by decide +kernel
theorem dX12_checks_0 : decode cX12_checks 0 = .ok (.aload_n 0, 1) := by decide +kernel
theorem dX12_checks_1 : decode cX12_checks 1 = .ok (.invokevirtual 277, 3) := by decide +kernel
theorem dX12_checks_4 : decode cX12_checks 4 = .ok (.iconst 0, 1) := by decide +kernel
theorem dX12_checks_5 : decode cX12_checks 5 = .ok (.istore_n 1, 1) := by decide +kernel
theorem dX12_checks_6 : decode cX12_checks 6 = .ok (.iconst 0, 1) := by decide +kernel
theorem dX12_checks_7 : decode cX12_checks 7 = .ok (.istore_n 2, 1) := by decide +kernel
theorem dX12_checks_8 : decode cX12_checks 8 = .ok (.iload_n 2, 1) := by decide +kernel
theorem dX12_checks_9 : decode cX12_checks 9 = .ok (.aload_n 0, 1) := by decide +kernel
theorem dX12_checks_10 : decode cX12_checks 10 = .ok (.getfield 251, 3) := by decide +kernel
theorem dX12_checks_13 : decode cX12_checks 13 = .ok (.if_icmp .ge 112, 3) := by decide +kernel
theorem dX12_checks_16 : decode cX12_checks 16 = .ok (.aload_n 0, 1) := by decide +kernel
theorem dX12_checks_17 : decode cX12_checks 17 = .ok (.getfield 86, 3) := by decide +kernel
theorem dX12_checks_20 : decode cX12_checks 20 = .ok (.aload_n 0, 1) := by decide +kernel
theorem dX12_checks_21 : decode cX12_checks 21 = .ok (.getfield 251, 3) := by decide +kernel
theorem dX12_checks_24 : decode cX12_checks 24 = .ok (.iload_n 2, 1) := by decide +kernel
theorem dX12_checks_25 : decode cX12_checks 25 = .ok (.invokestatic 295, 3) := by decide +kernel
theorem dX12_checks_28 : decode cX12_checks 28 = .ok (.istore_n 3, 1) := by decide +kernel
theorem dX12_checks_29 : decode cX12_checks 29 = .ok (.aload_n 0, 1) := by decide +kernel
theorem dX12_checks_30 : decode cX12_checks 30 = .ok (.aload_n 0, 1) := by decide +kernel
theorem dX12_checks_31 : decode cX12_checks 31 = .ok (.getfield 86, 3) := by decide +kernel
theorem dX12_checks_34 : decode cX12_checks 34 = .ok (.aload_n 0, 1) := by decide +kernel
theorem dX12_checks_35 : decode cX12_checks 35 = .ok (.getfield 251, 3) := by decide +kernel
theorem dX12_checks_38 : decode cX12_checks 38 = .ok (.iload_n 3, 1) := by decide +kernel
theorem dX12_checks_39 : decode cX12_checks 39 = .ok (.iload_n 2, 1) := by decide +kernel
theorem dX12_checks_40 : decode cX12_checks 40 = .ok (.iload_n 3, 1) := by decide +kernel
theorem dX12_checks_41 : decode cX12_checks 41 = .ok (.invokevirtual 299, 3) := by decide +kernel
theorem dX12_checks_44 : decode cX12_checks 44 = .ok (.aload_n 0, 1) := by decide +kernel
theorem dX12_checks_45 : decode cX12_checks 45 = .ok (.aload_n 0, 1) := by decide +kernel
theorem dX12_checks_46 : decode cX12_checks 46 = .ok (.getfield 140, 3) := by decide +kernel
theorem dX12_checks_49 : decode cX12_checks 49 = .ok (.aload_n 0, 1) := by decide +kernel
theorem dX12_checks_50 : decode cX12_checks 50 = .ok (.getfield 292, 3) := by decide +kernel
theorem dX12_checks_53 : decode cX12_checks 53 = .ok (.aload_n 0, 1) := by decide +kernel
theorem dX12_checks_54 : decode cX12_checks 54 = .ok (.getfield 292, 3) := by decide +kernel
theorem dX12_checks_57 : decode cX12_checks 57 = .ok (.iload_n 2, 1) := by decide +kernel
theorem dX12_checks_58 : decode cX12_checks 58 = .ok (.iload_n 3, 1) := by decide +kernel
theorem dX12_checks_59 : decode cX12_checks 59 = .ok (.invokevirtual 299, 3) := by decide +kernel
theorem dX12_checks_62 : decode cX12_checks 62 = .ok (.if_icmp .le 7, 3) := by decide +kernel
theorem dX12_checks_65 : decode cX12_checks 65 = .ok (.iconst 1, 1) := by decide +kernel
theorem dX12_checks_66 : decode cX12_checks 66 = .ok (.goto 4, 3) := by decide +kernel
theorem dX12_checks_69 : decode cX12_checks 69 = .ok (.iconst 0, 1) := by decide +kernel
theorem dX12_checks_70 : decode cX12_checks 70 = .ok (.istore 4, 2) := by decide +kernel
theorem dX12_checks_72 : decode cX12_checks 72 = .ok (.iconst 0, 1) := by decide +kernel
theorem dX12_checks_73 : decode cX12_checks 73 = .ok (.istore 5, 2) := by decide +kernel
theorem dX12_checks_75 : decode cX12_checks 75 = .ok (.iload 5, 2) := by decide +kernel
theorem dX12_checks_77 : decode cX12_checks 77 = .ok (.aload_n 0, 1) := by decide +kernel
theorem dX12_checks_78 : decode cX12_checks 78 = .ok (.getfield 248, 3) := by decide +kernel
theorem dX12_checks_81 : decode cX12_checks 81 = .ok (.if_icmp .ge 39, 3) := by decide +kernel
theorem dX12_checks_84 : decode cX12_checks 84 = .ok (.iload_n 1, 1) := by decide +kernel
theorem dX12_checks_85 : decode cX12_checks 85 = .ok (.iload 4, 2) := by decide +kernel
theorem dX12_checks_87 : decode cX12_checks 87 = .ok (.ifCond .eq 24, 3) := by decide +kernel
theorem dX12_checks_90 : decode cX12_checks 90 = .ok (.aload_n 0, 1) := by decide +kernel
theorem dX12_checks_91 : decode cX12_checks 91 = .ok (.getfield 101, 3) := by decide +kernel
theorem dX12_checks_94 : decode cX12_checks 94 = .ok (.iload 5, 2) := by decide +kernel
theorem dX12_checks_96 : decode cX12_checks 96 = .ok (.iaload, 1) := by decide +kernel
theorem dX12_checks_97 : decode cX12_checks 97 = .ok (.iload_n 2, 1) := by decide +kernel
theorem dX12_checks_98 : decode cX12_checks 98 = .ok (.iload_n 3, 1) := by decide +kernel
theorem dX12_checks_99 : decode cX12_checks 99 = .ok (.iconst 1, 1) := by decide +kernel
theorem dX12_checks_100 : decode cX12_checks 100 = .ok (.isub, 1) := by decide +kernel
theorem dX12_checks_101 : decode cX12_checks 101 = .ok (.invokestatic 156, 3) := by decide +kernel
theorem dX12_checks_104 : decode cX12_checks 104 = .ok (.ifCond .eq 7, 3) := by decide +kernel
theorem dX12_checks_107 : decode cX12_checks 107 = .ok (.iconst 1, 1) := by decide +kernel
theorem dX12_checks_108 : decode cX12_checks 108 = .ok (.goto 4, 3) := by decide +kernel
theorem dX12_checks_111 : decode cX12_checks 111 = .ok (.iconst 0, 1) := by decide +kernel
theorem dX12_checks_112 : decode cX12_checks 112 = .ok (.iadd, 1) := by decide +kernel
theorem dX12_checks_113 : decode cX12_checks 113 = .ok (.istore_n 1, 1) := by decide +kernel
theorem dX12_checks_114 : decode cX12_checks 114 = .ok (.iinc 5 1, 3) := by decide +kernel
theorem dX12_checks_117 : decode cX12_checks 117 = .ok (.goto (-42), 3) := by decide +kernel
theorem dX12_checks_120 : decode cX12_checks 120 = .ok (.iload_n 3, 1) := by decide +kernel
theorem dX12_checks_121 : decode cX12_checks 121 = .ok (.istore_n 2, 1) := by decide +kernel
theorem dX12_checks_122 : decode cX12_checks 122 = .ok (.goto (-114), 3) := by decide +kernel
theorem dX12_checks_125 : decode cX12_checks 125 = .ok (.iload_n 1, 1) := by decide +kernel
theorem dX12_checks_126 : decode cX12_checks 126 = .ok (.ireturn, 1) := by decide +kernel
theorem dX12_put_0 : decode cX12_put 0 = .ok (.iload_n 2, 1) := by decide +kernel
theorem dX12_put_1 : decode cX12_put 1 = .ok (.invokestatic 254, 3) := by decide +kernel
theorem dX12_put_4 : decode cX12_put 4 = .ok (.ifCond .ne 27, 3) := by decide +kernel
theorem dX12_put_7 : decode cX12_put 7 = .ok (.iload_n 2, 1) := by decide +kernel
theorem dX12_put_8 : decode cX12_put 8 = .ok (.bipush 32, 2) := by decide +kernel
theorem dX12_put_10 : decode cX12_put 10 = .ok (.if_icmp .eq 21, 3) := by decide +kernel
theorem dX12_put_13 : decode cX12_put 13 = .ok (.iload_n 2, 1) := by decide +kernel
theorem dX12_put_14 : decode cX12_put 14 = .ok (.bipush 46, 2) := by decide +kernel
theorem dX12_put_16 : decode cX12_put 16 = .ok (.if_icmp .eq 15, 3) := by decide +kernel
theorem dX12_put_19 : decode cX12_put 19 = .ok (.iload_n 2, 1) := by decide +kernel
theorem dX12_put_20 : decode cX12_put 20 = .ok (.bipush 60, 2) := by decide +kernel
theorem dX12_put_22 : decode cX12_put 22 = .ok (.if_icmp .eq 9, 3) := by decide +kernel
theorem dX12_put_25 : decode cX12_put 25 = .ok (.iload_n 2, 1) := by decide +kernel
theorem dX12_put_26 : decode cX12_put 26 = .ok (.bipush 62, 2) := by decide +kernel
theorem dX12_put_28 : decode cX12_put 28 = .ok (.if_icmp .ne 7, 3) := by decide +kernel
theorem dX12_put_31 : decode cX12_put 31 = .ok (.iconst 1, 1) := by decide +kernel
theorem dX12_put_32 : decode cX12_put 32 = .ok (.goto 4, 3) := by decide +kernel
theorem dX12_put_35 : decode cX12_put 35 = .ok (.iconst 0, 1) := by decide +kernel
theorem dX12_put_36 : decode cX12_put 36 = .ok (.istore_n 3, 1) := by decide +kernel
theorem dX12_put_37 : decode cX12_put 37 = .ok (.aload_n 0, 1) := by decide +kernel
theorem dX12_put_38 : decode cX12_put 38 = .ok (.iload_n 1, 1) := by decide +kernel
theorem dX12_put_39 : decode cX12_put 39 = .ok (.iconst 0, 1) := by decide +kernel
theorem dX12_put_40 : decode cX12_put 40 = .ok (.aload_n 0, 1) := by decide +kernel
theorem dX12_put_41 : decode cX12_put 41 = .ok (.getfield 251, 3) := by decide +kernel
theorem dX12_put_44 : decode cX12_put 44 = .ok (.invokestatic 156, 3) := by decide +kernel
theorem dX12_put_47 : decode cX12_put 47 = .ok (.ifCond .ne 7, 3) := by decide +kernel
theorem dX12_put_50 : decode cX12_put 50 = .ok (.iconst 1, 1) := by decide +kernel
theorem dX12_put_51 : decode cX12_put 51 = .ok (.goto 25, 3) := by decide +kernel
theorem dX12_put_54 : decode cX12_put 54 = .ok (.iload_n 3, 1) := by decide +kernel
theorem dX12_put_55 : decode cX12_put 55 = .ok (.ifCond .ne 7, 3) := by decide +kernel
theorem dX12_put_58 : decode cX12_put 58 = .ok (.iconst 2, 1) := by decide +kernel
theorem dX12_put_59 : decode cX12_put 59 = .ok (.goto 17, 3) := by decide +kernel
theorem dX12_put_62 : decode cX12_put 62 = .ok (.aload_n 0, 1) := by decide +kernel
theorem dX12_put_63 : decode cX12_put 63 = .ok (.getfield 251, 3) := by decide +kernel
theorem dX12_put_66 : decode cX12_put 66 = .ok (.bipush 100, 2) := by decide +kernel
theorem dX12_put_68 : decode cX12_put 68 = .ok (.if_icmp .ne 7, 3) := by decide +kernel
theorem dX12_put_71 : decode cX12_put 71 = .ok (.iconst 3, 1) := by decide +kernel
theorem dX12_put_72 : decode cX12_put 72 = .ok (.goto 4, 3) := by decide +kernel
theorem dX12_put_75 : decode cX12_put 75 = .ok (.iconst 0, 1) := by decide +kernel
theorem dX12_put_76 : decode cX12_put 76 = .ok (.putfield 146, 3) := by decide +kernel
theorem dX12_put_79 : decode cX12_put 79 = .ok (.aload_n 0, 1) := by decide +kernel
theorem dX12_put_80 : decode cX12_put 80 = .ok (.getfield 146, 3) := by decide +kernel
theorem dX12_put_83 : decode cX12_put 83 = .ok (.ifCond .le 5, 3) := by decide +kernel
theorem dX12_put_86 : decode cX12_put 86 = .ok (.iconst 0, 1) := by decide +kernel
theorem dX12_put_87 : decode cX12_put 87 = .ok (.ireturn, 1) := by decide +kernel
theorem dX12_put_88 : decode cX12_put 88 = .ok (.aload_n 0, 1) := by decide +kernel
theorem dX12_put_89 : decode cX12_put 89 = .ok (.invokevirtual 303, 3) := by decide +kernel
theorem dX12_put_92 : decode cX12_put 92 = .ok (.aload_n 0, 1) := by decide +kernel
theorem dX12_put_93 : decode cX12_put 93 = .ok (.getfield 251, 3) := by decide +kernel
theorem dX12_put_96 : decode cX12_put 96 = .ok (.istore 4, 2) := by decide +kernel
theorem dX12_put_98 : decode cX12_put 98 = .ok (.iload 4, 2) := by decide +kernel
theorem dX12_put_100 : decode cX12_put 100 = .ok (.iload_n 1, 1) := by decide +kernel
theorem dX12_put_101 : decode cX12_put 101 = .ok (.if_icmp .le 25, 3) := by decide +kernel
theorem dX12_put_104 : decode cX12_put 104 = .ok (.aload_n 0, 1) := by decide +kernel
theorem dX12_put_105 : decode cX12_put 105 = .ok (.getfield 86, 3) := by decide +kernel
theorem dX12_put_108 : decode cX12_put 108 = .ok (.iload 4, 2) := by decide +kernel
theorem dX12_put_110 : decode cX12_put 110 = .ok (.aload_n 0, 1) := by decide +kernel
theorem dX12_put_111 : decode cX12_put 111 = .ok (.getfield 86, 3) := by decide +kernel
theorem dX12_put_114 : decode cX12_put 114 = .ok (.iload 4, 2) := by decide +kernel
theorem dX12_put_116 : decode cX12_put 116 = .ok (.iconst 1, 1) := by decide +kernel
theorem dX12_put_117 : decode cX12_put 117 = .ok (.isub, 1) := by decide +kernel
theorem dX12_put_118 : decode cX12_put 118 = .ok (.iaload, 1) := by decide +kernel
theorem dX12_put_119 : decode cX12_put 119 = .ok (.iastore, 1) := by decide +kernel
theorem dX12_put_120 : decode cX12_put 120 = .ok (.iinc 4 (-1), 3) := by decide +kernel
theorem dX12_put_123 : decode cX12_put 123 = .ok (.goto (-25), 3) := by decide +kernel
theorem dX12_put_126 : decode cX12_put 126 = .ok (.aload_n 0, 1) := by decide +kernel
theorem dX12_put_127 : decode cX12_put 127 = .ok (.getfield 86, 3) := by decide +kernel
theorem dX12_put_130 : decode cX12_put 130 = .ok (.iload_n 1, 1) := by decide +kernel
theorem dX12_put_131 : decode cX12_put 131 = .ok (.iload_n 2, 1) := by decide +kernel
theorem dX12_put_132 : decode cX12_put 132 = .ok (.iastore, 1) := by decide +kernel
theorem dX12_put_133 : decode cX12_put 133 = .ok (.aload_n 0, 1) := by decide +kernel
theorem dX12_put_134 : decode cX12_put 134 = .ok (.dup, 1) := by decide +kernel
theorem dX12_put_135 : decode cX12_put 135 = .ok (.getfield 251, 3) := by decide +kernel
theorem dX12_put_138 : decode cX12_put 138 = .ok (.iconst 1, 1) := by decide +kernel
theorem dX12_put_139 : decode cX12_put 139 = .ok (.iadd, 1) := by decide +kernel
theorem dX12_put_140 : decode cX12_put 140 = .ok (.putfield 251, 3) := by decide +kernel
theorem dX12_put_143 : decode cX12_put 143 = .ok (.aload_n 0, 1) := by decide +kernel
theorem dX12_put_144 : decode cX12_put 144 = .ok (.invokevirtual 306, 3) := by decide +kernel
theorem dX12_put_147 : decode cX12_put 147 = .ok (.ireturn, 1) := by decide +kernel
theorem dX12_take_0 : decode cX12_take 0 = .ok (.aload_n 0, 1) := by decide +kernel
theorem dX12_take_1 : decode cX12_take 1 = .ok (.iload_n 1, 1) := by decide +kernel
theorem dX12_take_2 : decode cX12_take 2 = .ok (.iconst 0, 1) := by decide +kernel
theorem dX12_take_3 : decode cX12_take 3 = .ok (.aload_n 0, 1) := by decide +kernel
theorem dX12_take_4 : decode cX12_take 4 = .ok (.getfield 251, 3) := by decide +kernel
theorem dX12_take_7 : decode cX12_take 7 = .ok (.iconst 1, 1) := by decide +kernel
theorem dX12_take_8 : decode cX12_take 8 = .ok (.isub, 1) := by decide +kernel
theorem dX12_take_9 : decode cX12_take 9 = .ok (.invokestatic 156, 3) := by decide +kernel
theorem dX12_take_12 : decode cX12_take 12 = .ok (.ifCond .eq 7, 3) := by decide +kernel
theorem dX12_take_15 : decode cX12_take 15 = .ok (.iconst 0, 1) := by decide +kernel
theorem dX12_take_16 : decode cX12_take 16 = .ok (.goto 4, 3) := by decide +kernel
theorem dX12_take_19 : decode cX12_take 19 = .ok (.iconst 1, 1) := by decide +kernel
theorem dX12_take_20 : decode cX12_take 20 = .ok (.putfield 146, 3) := by decide +kernel
theorem dX12_take_23 : decode cX12_take 23 = .ok (.aload_n 0, 1) := by decide +kernel
theorem dX12_take_24 : decode cX12_take 24 = .ok (.getfield 146, 3) := by decide +kernel
theorem dX12_take_27 : decode cX12_take 27 = .ok (.ifCond .le 5, 3) := by decide +kernel
theorem dX12_take_30 : decode cX12_take 30 = .ok (.iconst 0, 1) := by decide +kernel
theorem dX12_take_31 : decode cX12_take 31 = .ok (.ireturn, 1) := by decide +kernel
theorem dX12_take_32 : decode cX12_take 32 = .ok (.aload_n 0, 1) := by decide +kernel
theorem dX12_take_33 : decode cX12_take 33 = .ok (.invokevirtual 303, 3) := by decide +kernel
theorem dX12_take_36 : decode cX12_take 36 = .ok (.aload_n 0, 1) := by decide +kernel
theorem dX12_take_37 : decode cX12_take 37 = .ok (.dup, 1) := by decide +kernel
theorem dX12_take_38 : decode cX12_take 38 = .ok (.getfield 251, 3) := by decide +kernel
theorem dX12_take_41 : decode cX12_take 41 = .ok (.iconst 1, 1) := by decide +kernel
theorem dX12_take_42 : decode cX12_take 42 = .ok (.isub, 1) := by decide +kernel
theorem dX12_take_43 : decode cX12_take 43 = .ok (.putfield 251, 3) := by decide +kernel
theorem dX12_take_46 : decode cX12_take 46 = .ok (.iload_n 1, 1) := by decide +kernel
theorem dX12_take_47 : decode cX12_take 47 = .ok (.istore_n 2, 1) := by decide +kernel
theorem dX12_take_48 : decode cX12_take 48 = .ok (.iload_n 2, 1) := by decide +kernel
theorem dX12_take_49 : decode cX12_take 49 = .ok (.aload_n 0, 1) := by decide +kernel
theorem dX12_take_50 : decode cX12_take 50 = .ok (.getfield 251, 3) := by decide +kernel
theorem dX12_take_53 : decode cX12_take 53 = .ok (.if_icmp .ge 23, 3) := by decide +kernel
theorem dX12_take_56 : decode cX12_take 56 = .ok (.aload_n 0, 1) := by decide +kernel
theorem dX12_take_57 : decode cX12_take 57 = .ok (.getfield 86, 3) := by decide +kernel
theorem dX12_take_60 : decode cX12_take 60 = .ok (.iload_n 2, 1) := by decide +kernel
theorem dX12_take_61 : decode cX12_take 61 = .ok (.aload_n 0, 1) := by decide +kernel
theorem dX12_take_62 : decode cX12_take 62 = .ok (.getfield 86, 3) := by decide +kernel
theorem dX12_take_65 : decode cX12_take 65 = .ok (.iload_n 2, 1) := by decide +kernel
theorem dX12_take_66 : decode cX12_take 66 = .ok (.iconst 1, 1) := by decide +kernel
theorem dX12_take_67 : decode cX12_take 67 = .ok (.iadd, 1) := by decide +kernel
theorem dX12_take_68 : decode cX12_take 68 = .ok (.iaload, 1) := by decide +kernel
theorem dX12_take_69 : decode cX12_take 69 = .ok (.iastore, 1) := by decide +kernel
theorem dX12_take_70 : decode cX12_take 70 = .ok (.iinc 2 1, 3) := by decide +kernel
theorem dX12_take_73 : decode cX12_take 73 = .ok (.goto (-25), 3) := by decide +kernel
theorem dX12_take_76 : decode cX12_take 76 = .ok (.aload_n 0, 1) := by decide +kernel
theorem dX12_take_77 : decode cX12_take 77 = .ok (.invokevirtual 306, 3) := by decide +kernel
theorem dX12_take_80 : decode cX12_take 80 = .ok (.ireturn, 1) := by decide +kernel
theorem dX12_least_0 : decode cX12_least 0 = .ok (.iload_n 0, 1) := by decide +kernel
theorem dX12_least_1 : decode cX12_least 1 = .ok (.iload_n 1, 1) := by decide +kernel
theorem dX12_least_2 : decode cX12_least 2 = .ok (.if_icmp .ge 7, 3) := by decide +kernel
theorem dX12_least_5 : decode cX12_least 5 = .ok (.iload_n 0, 1) := by decide +kernel
theorem dX12_least_6 : decode cX12_least 6 = .ok (.goto 4, 3) := by decide +kernel
theorem dX12_least_9 : decode cX12_least 9 = .ok (.iload_n 1, 1) := by decide +kernel
theorem dX12_least_10 : decode cX12_least 10 = .ok (.ireturn, 1) := by decide +kernel
theorem dX12_costOf_0 : decode cX12_costOf 0 = .ok (.lload_n 2, 1) := by decide +kernel
theorem dX12_costOf_1 : decode cX12_costOf 1 = .ok (.invokestatic 152, 3) := by decide +kernel
theorem dX12_costOf_4 : decode cX12_costOf 4 = .ok (.istore 4, 2) := by decide +kernel
theorem dX12_costOf_6 : decode cX12_costOf 6 = .ok (.iconst 0, 1) := by decide +kernel
theorem dX12_costOf_7 : decode cX12_costOf 7 = .ok (.istore 5, 2) := by decide +kernel
theorem dX12_costOf_9 : decode cX12_costOf 9 = .ok (.iload 5, 2) := by decide +kernel
theorem dX12_costOf_11 : decode cX12_costOf 11 = .ok (.iload_n 1, 1) := by decide +kernel
theorem dX12_costOf_12 : decode cX12_costOf 12 = .ok (.if_icmp .gt 306, 3) := by decide +kernel
theorem dX12_costOf_15 : decode cX12_costOf 15 = .ok (.iconst 0, 1) := by decide +kernel
theorem dX12_costOf_16 : decode cX12_costOf 16 = .ok (.istore 6, 2) := by decide +kernel
theorem dX12_costOf_18 : decode cX12_costOf 18 = .ok (.iload 6, 2) := by decide +kernel
theorem dX12_costOf_20 : decode cX12_costOf 20 = .ok (.iload 4, 2) := by decide +kernel
theorem dX12_costOf_22 : decode cX12_costOf 22 = .ok (.if_icmp .gt 290, 3) := by decide +kernel
theorem dX12_costOf_25 : decode cX12_costOf 25 = .ok (.iload 5, 2) := by decide +kernel
theorem dX12_costOf_27 : decode cX12_costOf 27 = .ok (.ifCond .ne 10, 3) := by decide +kernel
theorem dX12_costOf_30 : decode cX12_costOf 30 = .ok (.iconst 2, 1) := by decide +kernel
theorem dX12_costOf_31 : decode cX12_costOf 31 = .ok (.iload 6, 2) := by decide +kernel
theorem dX12_costOf_33 : decode cX12_costOf 33 = .ok (.imul, 1) := by decide +kernel
theorem dX12_costOf_34 : decode cX12_costOf 34 = .ok (.goto 17, 3) := by decide +kernel
theorem dX12_costOf_37 : decode cX12_costOf 37 = .ok (.iload 6, 2) := by decide +kernel
theorem dX12_costOf_39 : decode cX12_costOf 39 = .ok (.ifCond .ne 10, 3) := by decide +kernel
theorem dX12_costOf_42 : decode cX12_costOf 42 = .ok (.iconst 2, 1) := by decide +kernel
theorem dX12_costOf_43 : decode cX12_costOf 43 = .ok (.iload 5, 2) := by decide +kernel
theorem dX12_costOf_45 : decode cX12_costOf 45 = .ok (.imul, 1) := by decide +kernel
theorem dX12_costOf_46 : decode cX12_costOf 46 = .ok (.goto 5, 3) := by decide +kernel
theorem dX12_costOf_49 : decode cX12_costOf 49 = .ok (.bipush 99, 2) := by decide +kernel
theorem dX12_costOf_51 : decode cX12_costOf 51 = .ok (.istore 7, 2) := by decide +kernel
theorem dX12_costOf_53 : decode cX12_costOf 53 = .ok (.iload 5, 2) := by decide +kernel
theorem dX12_costOf_55 : decode cX12_costOf 55 = .ok (.ifCond .le 236, 3) := by decide +kernel
theorem dX12_costOf_58 : decode cX12_costOf 58 = .ok (.iload 6, 2) := by decide +kernel
theorem dX12_costOf_60 : decode cX12_costOf 60 = .ok (.ifCond .le 231, 3) := by decide +kernel
theorem dX12_costOf_63 : decode cX12_costOf 63 = .ok (.aload_n 0, 1) := by decide +kernel
theorem dX12_costOf_64 : decode cX12_costOf 64 = .ok (.getfield 131, 3) := by decide +kernel
theorem dX12_costOf_67 : decode cX12_costOf 67 = .ok (.iload 5, 2) := by decide +kernel
theorem dX12_costOf_69 : decode cX12_costOf 69 = .ok (.iaload, 1) := by decide +kernel
theorem dX12_costOf_70 : decode cX12_costOf 70 = .ok (.istore 8, 2) := by decide +kernel
theorem dX12_costOf_72 : decode cX12_costOf 72 = .ok (.lload_n 2, 1) := by decide +kernel
theorem dX12_costOf_73 : decode cX12_costOf 73 = .ok (.iconst 4, 1) := by decide +kernel
theorem dX12_costOf_74 : decode cX12_costOf 74 = .ok (.iload 4, 2) := by decide +kernel
theorem dX12_costOf_76 : decode cX12_costOf 76 = .ok (.iload 6, 2) := by decide +kernel
theorem dX12_costOf_78 : decode cX12_costOf 78 = .ok (.isub, 1) := by decide +kernel
theorem dX12_costOf_79 : decode cX12_costOf 79 = .ok (.imul, 1) := by decide +kernel
theorem dX12_costOf_80 : decode cX12_costOf 80 = .ok (.lshr, 1) := by decide +kernel
theorem dX12_costOf_81 : decode cX12_costOf 81 = .ok (.ldc2_w 150, 3) := by decide +kernel
theorem dX12_costOf_84 : decode cX12_costOf 84 = .ok (.land, 1) := by decide +kernel
theorem dX12_costOf_85 : decode cX12_costOf 85 = .ok (.l2i, 1) := by decide +kernel
theorem dX12_costOf_86 : decode cX12_costOf 86 = .ok (.istore 9, 2) := by decide +kernel
theorem dX12_costOf_88 : decode cX12_costOf 88 = .ok (.iload 8, 2) := by decide +kernel
theorem dX12_costOf_90 : decode cX12_costOf 90 = .ok (.iload 9, 2) := by decide +kernel
theorem dX12_costOf_92 : decode cX12_costOf 92 = .ok (.if_icmp .ne 7, 3) := by decide +kernel
theorem dX12_costOf_95 : decode cX12_costOf 95 = .ok (.iconst 0, 1) := by decide +kernel
theorem dX12_costOf_96 : decode cX12_costOf 96 = .ok (.goto 43, 3) := by decide +kernel
theorem dX12_costOf_99 : decode cX12_costOf 99 = .ok (.iload 8, 2) := by decide +kernel
theorem dX12_costOf_101 : decode cX12_costOf 101 = .ok (.iload 9, 2) := by decide +kernel
theorem dX12_costOf_103 : decode cX12_costOf 103 = .ok (.isub, 1) := by decide +kernel
theorem dX12_costOf_104 : decode cX12_costOf 104 = .ok (.iconst 1, 1) := by decide +kernel
theorem dX12_costOf_105 : decode cX12_costOf 105 = .ok (.if_icmp .eq 29, 3) := by decide +kernel
theorem dX12_costOf_108 : decode cX12_costOf 108 = .ok (.iload 9, 2) := by decide +kernel
theorem dX12_costOf_110 : decode cX12_costOf 110 = .ok (.iload 8, 2) := by decide +kernel
theorem dX12_costOf_112 : decode cX12_costOf 112 = .ok (.isub, 1) := by decide +kernel
theorem dX12_costOf_113 : decode cX12_costOf 113 = .ok (.iconst 1, 1) := by decide +kernel
theorem dX12_costOf_114 : decode cX12_costOf 114 = .ok (.if_icmp .eq 20, 3) := by decide +kernel
theorem dX12_costOf_117 : decode cX12_costOf 117 = .ok (.aload_n 0, 1) := by decide +kernel
theorem dX12_costOf_118 : decode cX12_costOf 118 = .ok (.getfield 50, 3) := by decide +kernel
theorem dX12_costOf_121 : decode cX12_costOf 121 = .ok (.bipush 9, 2) := by decide +kernel
theorem dX12_costOf_123 : decode cX12_costOf 123 = .ok (.iload 8, 2) := by decide +kernel
theorem dX12_costOf_125 : decode cX12_costOf 125 = .ok (.imul, 1) := by decide +kernel
theorem dX12_costOf_126 : decode cX12_costOf 126 = .ok (.iload 9, 2) := by decide +kernel
theorem dX12_costOf_128 : decode cX12_costOf 128 = .ok (.iadd, 1) := by decide +kernel
theorem dX12_costOf_129 : decode cX12_costOf 129 = .ok (.iaload, 1) := by decide +kernel
theorem dX12_costOf_130 : decode cX12_costOf 130 = .ok (.iconst 1, 1) := by decide +kernel
theorem dX12_costOf_131 : decode cX12_costOf 131 = .ok (.if_icmp .ne 7, 3) := by decide +kernel
theorem dX12_costOf_134 : decode cX12_costOf 134 = .ok (.iconst 1, 1) := by decide +kernel
theorem dX12_costOf_135 : decode cX12_costOf 135 = .ok (.goto 4, 3) := by decide +kernel
theorem dX12_costOf_138 : decode cX12_costOf 138 = .ok (.iconst 2, 1) := by decide +kernel
theorem dX12_costOf_139 : decode cX12_costOf 139 = .ok (.istore 10, 2) := by decide +kernel
theorem dX12_costOf_141 : decode cX12_costOf 141 = .ok (.aload_n 0, 1) := by decide +kernel
theorem dX12_costOf_142 : decode cX12_costOf 142 = .ok (.getfield 128, 3) := by decide +kernel
theorem dX12_costOf_145 : decode cX12_costOf 145 = .ok (.bipush 13, 2) := by decide +kernel
theorem dX12_costOf_147 : decode cX12_costOf 147 = .ok (.iload 5, 2) := by decide +kernel
theorem dX12_costOf_149 : decode cX12_costOf 149 = .ok (.iconst 1, 1) := by decide +kernel
theorem dX12_costOf_150 : decode cX12_costOf 150 = .ok (.isub, 1) := by decide +kernel
theorem dX12_costOf_151 : decode cX12_costOf 151 = .ok (.imul, 1) := by decide +kernel
theorem dX12_costOf_152 : decode cX12_costOf 152 = .ok (.iload 6, 2) := by decide +kernel
theorem dX12_costOf_154 : decode cX12_costOf 154 = .ok (.iadd, 1) := by decide +kernel
theorem dX12_costOf_155 : decode cX12_costOf 155 = .ok (.iconst 1, 1) := by decide +kernel
theorem dX12_costOf_156 : decode cX12_costOf 156 = .ok (.isub, 1) := by decide +kernel
theorem dX12_costOf_157 : decode cX12_costOf 157 = .ok (.iaload, 1) := by decide +kernel
theorem dX12_costOf_158 : decode cX12_costOf 158 = .ok (.iload 10, 2) := by decide +kernel
theorem dX12_costOf_160 : decode cX12_costOf 160 = .ok (.iadd, 1) := by decide +kernel
theorem dX12_costOf_161 : decode cX12_costOf 161 = .ok (.iconst 2, 1) := by decide +kernel
theorem dX12_costOf_162 : decode cX12_costOf 162 = .ok (.aload_n 0, 1) := by decide +kernel
theorem dX12_costOf_163 : decode cX12_costOf 163 = .ok (.getfield 128, 3) := by decide +kernel
theorem dX12_costOf_166 : decode cX12_costOf 166 = .ok (.bipush 13, 2) := by decide +kernel
theorem dX12_costOf_168 : decode cX12_costOf 168 = .ok (.iload 5, 2) := by decide +kernel
theorem dX12_costOf_170 : decode cX12_costOf 170 = .ok (.iconst 1, 1) := by decide +kernel
theorem dX12_costOf_171 : decode cX12_costOf 171 = .ok (.isub, 1) := by decide +kernel
theorem dX12_costOf_172 : decode cX12_costOf 172 = .ok (.imul, 1) := by decide +kernel
theorem dX12_costOf_173 : decode cX12_costOf 173 = .ok (.iload 6, 2) := by decide +kernel
theorem dX12_costOf_175 : decode cX12_costOf 175 = .ok (.iadd, 1) := by decide +kernel
theorem dX12_costOf_176 : decode cX12_costOf 176 = .ok (.iaload, 1) := by decide +kernel
theorem dX12_costOf_177 : decode cX12_costOf 177 = .ok (.aload_n 0, 1) := by decide +kernel
theorem dX12_costOf_178 : decode cX12_costOf 178 = .ok (.getfield 128, 3) := by decide +kernel
theorem dX12_costOf_181 : decode cX12_costOf 181 = .ok (.bipush 13, 2) := by decide +kernel
theorem dX12_costOf_183 : decode cX12_costOf 183 = .ok (.iload 5, 2) := by decide +kernel
theorem dX12_costOf_185 : decode cX12_costOf 185 = .ok (.imul, 1) := by decide +kernel
theorem dX12_costOf_186 : decode cX12_costOf 186 = .ok (.iload 6, 2) := by decide +kernel
theorem dX12_costOf_188 : decode cX12_costOf 188 = .ok (.iadd, 1) := by decide +kernel
theorem dX12_costOf_189 : decode cX12_costOf 189 = .ok (.iconst 1, 1) := by decide +kernel
theorem dX12_costOf_190 : decode cX12_costOf 190 = .ok (.isub, 1) := by decide +kernel
theorem dX12_costOf_191 : decode cX12_costOf 191 = .ok (.iaload, 1) := by decide +kernel
theorem dX12_costOf_192 : decode cX12_costOf 192 = .ok (.invokestatic 310, 3) := by decide +kernel
theorem dX12_costOf_195 : decode cX12_costOf 195 = .ok (.iadd, 1) := by decide +kernel
theorem dX12_costOf_196 : decode cX12_costOf 196 = .ok (.invokestatic 310, 3) := by decide +kernel
theorem dX12_costOf_199 : decode cX12_costOf 199 = .ok (.istore 7, 2) := by decide +kernel
theorem dX12_costOf_201 : decode cX12_costOf 201 = .ok (.iload 5, 2) := by decide +kernel
theorem dX12_costOf_203 : decode cX12_costOf 203 = .ok (.iconst 1, 1) := by decide +kernel
theorem dX12_costOf_204 : decode cX12_costOf 204 = .ok (.if_icmp .le 48, 3) := by decide +kernel
theorem dX12_costOf_207 : decode cX12_costOf 207 = .ok (.iload 6, 2) := by decide +kernel
theorem dX12_costOf_209 : decode cX12_costOf 209 = .ok (.iconst 1, 1) := by decide +kernel
theorem dX12_costOf_210 : decode cX12_costOf 210 = .ok (.if_icmp .le 42, 3) := by decide +kernel
theorem dX12_costOf_213 : decode cX12_costOf 213 = .ok (.iload 8, 2) := by decide +kernel
theorem dX12_costOf_215 : decode cX12_costOf 215 = .ok (.lload_n 2, 1) := by decide +kernel
theorem dX12_costOf_216 : decode cX12_costOf 216 = .ok (.iconst 4, 1) := by decide +kernel
theorem dX12_costOf_217 : decode cX12_costOf 217 = .ok (.iload 4, 2) := by decide +kernel
theorem dX12_costOf_219 : decode cX12_costOf 219 = .ok (.iload 6, 2) := by decide +kernel
theorem dX12_costOf_221 : decode cX12_costOf 221 = .ok (.isub, 1) := by decide +kernel
theorem dX12_costOf_222 : decode cX12_costOf 222 = .ok (.iconst 1, 1) := by decide +kernel
theorem dX12_costOf_223 : decode cX12_costOf 223 = .ok (.iadd, 1) := by decide +kernel
theorem dX12_costOf_224 : decode cX12_costOf 224 = .ok (.imul, 1) := by decide +kernel
theorem dX12_costOf_225 : decode cX12_costOf 225 = .ok (.lshr, 1) := by decide +kernel
theorem dX12_costOf_226 : decode cX12_costOf 226 = .ok (.ldc2_w 150, 3) := by decide +kernel
theorem dX12_costOf_229 : decode cX12_costOf 229 = .ok (.land, 1) := by decide +kernel
theorem dX12_costOf_230 : decode cX12_costOf 230 = .ok (.l2i, 1) := by decide +kernel
theorem dX12_costOf_231 : decode cX12_costOf 231 = .ok (.if_icmp .ne 21, 3) := by decide +kernel
theorem dX12_costOf_234 : decode cX12_costOf 234 = .ok (.aload_n 0, 1) := by decide +kernel
theorem dX12_costOf_235 : decode cX12_costOf 235 = .ok (.getfield 131, 3) := by decide +kernel
theorem dX12_costOf_238 : decode cX12_costOf 238 = .ok (.iload 5, 2) := by decide +kernel
theorem dX12_costOf_240 : decode cX12_costOf 240 = .ok (.iconst 1, 1) := by decide +kernel
theorem dX12_costOf_241 : decode cX12_costOf 241 = .ok (.isub, 1) := by decide +kernel
theorem dX12_costOf_242 : decode cX12_costOf 242 = .ok (.iaload, 1) := by decide +kernel
theorem dX12_costOf_243 : decode cX12_costOf 243 = .ok (.iload 9, 2) := by decide +kernel
theorem dX12_costOf_245 : decode cX12_costOf 245 = .ok (.if_icmp .ne 7, 3) := by decide +kernel
theorem dX12_costOf_248 : decode cX12_costOf 248 = .ok (.iconst 1, 1) := by decide +kernel
theorem dX12_costOf_249 : decode cX12_costOf 249 = .ok (.goto 4, 3) := by decide +kernel
theorem dX12_costOf_252 : decode cX12_costOf 252 = .ok (.iconst 0, 1) := by decide +kernel
theorem dX12_costOf_253 : decode cX12_costOf 253 = .ok (.istore 11, 2) := by decide +kernel
theorem dX12_costOf_255 : decode cX12_costOf 255 = .ok (.iload 11, 2) := by decide +kernel
theorem dX12_costOf_257 : decode cX12_costOf 257 = .ok (.ifCond .eq 30, 3) := by decide +kernel
theorem dX12_costOf_260 : decode cX12_costOf 260 = .ok (.iload 7, 2) := by decide +kernel
theorem dX12_costOf_262 : decode cX12_costOf 262 = .ok (.aload_n 0, 1) := by decide +kernel
theorem dX12_costOf_263 : decode cX12_costOf 263 = .ok (.getfield 128, 3) := by decide +kernel
theorem dX12_costOf_266 : decode cX12_costOf 266 = .ok (.bipush 13, 2) := by decide +kernel
theorem dX12_costOf_268 : decode cX12_costOf 268 = .ok (.iload 5, 2) := by decide +kernel
theorem dX12_costOf_270 : decode cX12_costOf 270 = .ok (.iconst 2, 1) := by decide +kernel
theorem dX12_costOf_271 : decode cX12_costOf 271 = .ok (.isub, 1) := by decide +kernel
theorem dX12_costOf_272 : decode cX12_costOf 272 = .ok (.imul, 1) := by decide +kernel
theorem dX12_costOf_273 : decode cX12_costOf 273 = .ok (.iload 6, 2) := by decide +kernel
theorem dX12_costOf_275 : decode cX12_costOf 275 = .ok (.iadd, 1) := by decide +kernel
theorem dX12_costOf_276 : decode cX12_costOf 276 = .ok (.iconst 2, 1) := by decide +kernel
theorem dX12_costOf_277 : decode cX12_costOf 277 = .ok (.isub, 1) := by decide +kernel
theorem dX12_costOf_278 : decode cX12_costOf 278 = .ok (.iaload, 1) := by decide +kernel
theorem dX12_costOf_279 : decode cX12_costOf 279 = .ok (.iconst 1, 1) := by decide +kernel
theorem dX12_costOf_280 : decode cX12_costOf 280 = .ok (.iadd, 1) := by decide +kernel
theorem dX12_costOf_281 : decode cX12_costOf 281 = .ok (.invokestatic 310, 3) := by decide +kernel
theorem dX12_costOf_284 : decode cX12_costOf 284 = .ok (.goto 5, 3) := by decide +kernel
theorem dX12_costOf_287 : decode cX12_costOf 287 = .ok (.iload 7, 2) := by decide +kernel
theorem dX12_costOf_289 : decode cX12_costOf 289 = .ok (.istore 7, 2) := by decide +kernel
theorem dX12_costOf_291 : decode cX12_costOf 291 = .ok (.aload_n 0, 1) := by decide +kernel
theorem dX12_costOf_292 : decode cX12_costOf 292 = .ok (.getfield 128, 3) := by decide +kernel
theorem dX12_costOf_295 : decode cX12_costOf 295 = .ok (.bipush 13, 2) := by decide +kernel
theorem dX12_costOf_297 : decode cX12_costOf 297 = .ok (.iload 5, 2) := by decide +kernel
theorem dX12_costOf_299 : decode cX12_costOf 299 = .ok (.imul, 1) := by decide +kernel
theorem dX12_costOf_300 : decode cX12_costOf 300 = .ok (.iload 6, 2) := by decide +kernel
theorem dX12_costOf_302 : decode cX12_costOf 302 = .ok (.iadd, 1) := by decide +kernel
theorem dX12_costOf_303 : decode cX12_costOf 303 = .ok (.iload 7, 2) := by decide +kernel
theorem dX12_costOf_305 : decode cX12_costOf 305 = .ok (.iastore, 1) := by decide +kernel
theorem dX12_costOf_306 : decode cX12_costOf 306 = .ok (.iinc 6 1, 3) := by decide +kernel
theorem dX12_costOf_309 : decode cX12_costOf 309 = .ok (.goto (-291), 3) := by decide +kernel
theorem dX12_costOf_312 : decode cX12_costOf 312 = .ok (.iinc 5 1, 3) := by decide +kernel
theorem dX12_costOf_315 : decode cX12_costOf 315 = .ok (.goto (-306), 3) := by decide +kernel
theorem dX12_costOf_318 : decode cX12_costOf 318 = .ok (.aload_n 0, 1) := by decide +kernel
theorem dX12_costOf_319 : decode cX12_costOf 319 = .ok (.getfield 128, 3) := by decide +kernel
theorem dX12_costOf_322 : decode cX12_costOf 322 = .ok (.bipush 13, 2) := by decide +kernel
theorem dX12_costOf_324 : decode cX12_costOf 324 = .ok (.iload_n 1, 1) := by decide +kernel
theorem dX12_costOf_325 : decode cX12_costOf 325 = .ok (.imul, 1) := by decide +kernel
theorem dX12_costOf_326 : decode cX12_costOf 326 = .ok (.iload 4, 2) := by decide +kernel
theorem dX12_costOf_328 : decode cX12_costOf 328 = .ok (.iadd, 1) := by decide +kernel
theorem dX12_costOf_329 : decode cX12_costOf 329 = .ok (.iaload, 1) := by decide +kernel
theorem dX12_costOf_330 : decode cX12_costOf 330 = .ok (.ireturn, 1) := by decide +kernel
theorem dX12_offers_0 : decode cX12_offers 0 = .ok (.lload_n 2, 1) := by decide +kernel
theorem dX12_offers_1 : decode cX12_offers 1 = .ok (.aload_n 0, 1) := by decide +kernel
theorem dX12_offers_2 : decode cX12_offers 2 = .ok (.getfield 110, 3) := by decide +kernel
theorem dX12_offers_5 : decode cX12_offers 5 = .ok (.iload_n 1, 1) := by decide +kernel
theorem dX12_offers_6 : decode cX12_offers 6 = .ok (.laload, 1) := by decide +kernel
theorem dX12_offers_7 : decode cX12_offers 7 = .ok (.lcmp, 1) := by decide +kernel
theorem dX12_offers_8 : decode cX12_offers 8 = .ok (.ifCond .eq 34, 3) := by decide +kernel
theorem dX12_offers_11 : decode cX12_offers 11 = .ok (.aload_n 0, 1) := by decide +kernel
theorem dX12_offers_12 : decode cX12_offers 12 = .ok (.lload_n 2, 1) := by decide +kernel
theorem dX12_offers_13 : decode cX12_offers 13 = .ok (.invokevirtual 225, 3) := by decide +kernel
theorem dX12_offers_16 : decode cX12_offers 16 = .ok (.iconst (-1), 1) := by decide +kernel
theorem dX12_offers_17 : decode cX12_offers 17 = .ok (.if_icmp .ne 25, 3) := by decide +kernel
theorem dX12_offers_20 : decode cX12_offers 20 = .ok (.lload_n 2, 1) := by decide +kernel
theorem dX12_offers_21 : decode cX12_offers 21 = .ok (.invokestatic 152, 3) := by decide +kernel
theorem dX12_offers_24 : decode cX12_offers 24 = .ok (.aload_n 0, 1) := by decide +kernel
theorem dX12_offers_25 : decode cX12_offers 25 = .ok (.getfield 104, 3) := by decide +kernel
theorem dX12_offers_28 : decode cX12_offers 28 = .ok (.iload_n 1, 1) := by decide +kernel
theorem dX12_offers_29 : decode cX12_offers 29 = .ok (.iaload, 1) := by decide +kernel
theorem dX12_offers_30 : decode cX12_offers 30 = .ok (.isub, 1) := by decide +kernel
theorem dX12_offers_31 : decode cX12_offers 31 = .ok (.invokestatic 313, 3) := by decide +kernel
theorem dX12_offers_34 : decode cX12_offers 34 = .ok (.iconst 2, 1) := by decide +kernel
theorem dX12_offers_35 : decode cX12_offers 35 = .ok (.if_icmp .gt 7, 3) := by decide +kernel
theorem dX12_offers_38 : decode cX12_offers 38 = .ok (.iconst 1, 1) := by decide +kernel
theorem dX12_offers_39 : decode cX12_offers 39 = .ok (.goto 4, 3) := by decide +kernel
theorem dX12_offers_42 : decode cX12_offers 42 = .ok (.iconst 0, 1) := by decide +kernel
theorem dX12_offers_43 : decode cX12_offers 43 = .ok (.istore 4, 2) := by decide +kernel
theorem dX12_offers_45 : decode cX12_offers 45 = .ok (.iload 4, 2) := by decide +kernel
theorem dX12_offers_47 : decode cX12_offers 47 = .ok (.ifCond .eq 17, 3) := by decide +kernel
theorem dX12_offers_50 : decode cX12_offers 50 = .ok (.aload_n 0, 1) := by decide +kernel
theorem dX12_offers_51 : decode cX12_offers 51 = .ok (.aload_n 0, 1) := by decide +kernel
theorem dX12_offers_52 : decode cX12_offers 52 = .ok (.getfield 104, 3) := by decide +kernel
theorem dX12_offers_55 : decode cX12_offers 55 = .ok (.iload_n 1, 1) := by decide +kernel
theorem dX12_offers_56 : decode cX12_offers 56 = .ok (.iaload, 1) := by decide +kernel
theorem dX12_offers_57 : decode cX12_offers 57 = .ok (.lload_n 2, 1) := by decide +kernel
theorem dX12_offers_58 : decode cX12_offers 58 = .ok (.invokevirtual 317, 3) := by decide +kernel
theorem dX12_offers_61 : decode cX12_offers 61 = .ok (.goto 5, 3) := by decide +kernel
theorem dX12_offers_64 : decode cX12_offers 64 = .ok (.bipush 99, 2) := by decide +kernel
theorem dX12_offers_66 : decode cX12_offers 66 = .ok (.istore 5, 2) := by decide +kernel
theorem dX12_offers_68 : decode cX12_offers 68 = .ok (.iload 5, 2) := by decide +kernel
theorem dX12_offers_70 : decode cX12_offers 70 = .ok (.iconst 4, 1) := by decide +kernel
theorem dX12_offers_71 : decode cX12_offers 71 = .ok (.if_icmp .gt 34, 3) := by decide +kernel
theorem dX12_offers_74 : decode cX12_offers 74 = .ok (.aload_n 0, 1) := by decide +kernel
theorem dX12_offers_75 : decode cX12_offers 75 = .ok (.getfield 134, 3) := by decide +kernel
theorem dX12_offers_78 : decode cX12_offers 78 = .ok (.aload_n 0, 1) := by decide +kernel
theorem dX12_offers_79 : decode cX12_offers 79 = .ok (.getfield 321, 3) := by decide +kernel
theorem dX12_offers_82 : decode cX12_offers 82 = .ok (.lload_n 2, 1) := by decide +kernel
theorem dX12_offers_83 : decode cX12_offers 83 = .ok (.lastore, 1) := by decide +kernel
theorem dX12_offers_84 : decode cX12_offers 84 = .ok (.aload_n 0, 1) := by decide +kernel
theorem dX12_offers_85 : decode cX12_offers 85 = .ok (.getfield 137, 3) := by decide +kernel
theorem dX12_offers_88 : decode cX12_offers 88 = .ok (.aload_n 0, 1) := by decide +kernel
theorem dX12_offers_89 : decode cX12_offers 89 = .ok (.getfield 321, 3) := by decide +kernel
theorem dX12_offers_92 : decode cX12_offers 92 = .ok (.iload 5, 2) := by decide +kernel
theorem dX12_offers_94 : decode cX12_offers 94 = .ok (.iastore, 1) := by decide +kernel
theorem dX12_offers_95 : decode cX12_offers 95 = .ok (.aload_n 0, 1) := by decide +kernel
theorem dX12_offers_96 : decode cX12_offers 96 = .ok (.dup, 1) := by decide +kernel
theorem dX12_offers_97 : decode cX12_offers 97 = .ok (.getfield 321, 3) := by decide +kernel
theorem dX12_offers_100 : decode cX12_offers 100 = .ok (.iconst 1, 1) := by decide +kernel
theorem dX12_offers_101 : decode cX12_offers 101 = .ok (.iadd, 1) := by decide +kernel
theorem dX12_offers_102 : decode cX12_offers 102 = .ok (.putfield 321, 3) := by decide +kernel
theorem dX12_offers_105 : decode cX12_offers 105 = .ok (.return_, 1) := by decide +kernel
theorem dX12_away_0 : decode cX12_away 0 = .ok (.iload_n 0, 1) := by decide +kernel
theorem dX12_away_1 : decode cX12_away 1 = .ok (.ifCond .ge 8, 3) := by decide +kernel
theorem dX12_away_4 : decode cX12_away 4 = .ok (.iload_n 0, 1) := by decide +kernel
theorem dX12_away_5 : decode cX12_away 5 = .ok (.ineg, 1) := by decide +kernel
theorem dX12_away_6 : decode cX12_away 6 = .ok (.goto 4, 3) := by decide +kernel
theorem dX12_away_9 : decode cX12_away 9 = .ok (.iload_n 0, 1) := by decide +kernel
theorem dX12_away_10 : decode cX12_away 10 = .ok (.ireturn, 1) := by decide +kernel
theorem dX12_isAhead_0 : decode cX12_isAhead 0 = .ok (.iload_n 1, 1) := by decide +kernel
theorem dX12_isAhead_1 : decode cX12_isAhead 1 = .ok (.aload_n 0, 1) := by decide +kernel
theorem dX12_isAhead_2 : decode cX12_isAhead 2 = .ok (.getfield 137, 3) := by decide +kernel
theorem dX12_isAhead_5 : decode cX12_isAhead 5 = .ok (.iload 4, 2) := by decide +kernel
theorem dX12_isAhead_7 : decode cX12_isAhead 7 = .ok (.iaload, 1) := by decide +kernel
theorem dX12_isAhead_8 : decode cX12_isAhead 8 = .ok (.if_icmp .lt 26, 3) := by decide +kernel
theorem dX12_isAhead_11 : decode cX12_isAhead 11 = .ok (.iload_n 1, 1) := by decide +kernel
theorem dX12_isAhead_12 : decode cX12_isAhead 12 = .ok (.aload_n 0, 1) := by decide +kernel
theorem dX12_isAhead_13 : decode cX12_isAhead 13 = .ok (.getfield 137, 3) := by decide +kernel
theorem dX12_isAhead_16 : decode cX12_isAhead 16 = .ok (.iload 4, 2) := by decide +kernel
theorem dX12_isAhead_18 : decode cX12_isAhead 18 = .ok (.iaload, 1) := by decide +kernel
theorem dX12_isAhead_19 : decode cX12_isAhead 19 = .ok (.if_icmp .ne 19, 3) := by decide +kernel
theorem dX12_isAhead_22 : decode cX12_isAhead 22 = .ok (.lload_n 2, 1) := by decide +kernel
theorem dX12_isAhead_23 : decode cX12_isAhead 23 = .ok (.aload_n 0, 1) := by decide +kernel
theorem dX12_isAhead_24 : decode cX12_isAhead 24 = .ok (.getfield 134, 3) := by decide +kernel
theorem dX12_isAhead_27 : decode cX12_isAhead 27 = .ok (.iload 4, 2) := by decide +kernel
theorem dX12_isAhead_29 : decode cX12_isAhead 29 = .ok (.laload, 1) := by decide +kernel
theorem dX12_isAhead_30 : decode cX12_isAhead 30 = .ok (.lcmp, 1) := by decide +kernel
theorem dX12_isAhead_31 : decode cX12_isAhead 31 = .ok (.ifCond .ge 7, 3) := by decide +kernel
theorem dX12_isAhead_34 : decode cX12_isAhead 34 = .ok (.iconst 1, 1) := by decide +kernel
theorem dX12_isAhead_35 : decode cX12_isAhead 35 = .ok (.goto 4, 3) := by decide +kernel
theorem dX12_isAhead_38 : decode cX12_isAhead 38 = .ok (.iconst 0, 1) := by decide +kernel
theorem dX12_isAhead_39 : decode cX12_isAhead 39 = .ok (.ireturn, 1) := by decide +kernel
theorem dX12_suggests_0 : decode cX12_suggests 0 = .ok (.aload_n 0, 1) := by decide +kernel
theorem dX12_suggests_1 : decode cX12_suggests 1 = .ok (.iconst 0, 1) := by decide +kernel
theorem dX12_suggests_2 : decode cX12_suggests 2 = .ok (.putfield 321, 3) := by decide +kernel
theorem dX12_suggests_5 : decode cX12_suggests 5 = .ok (.aload_n 0, 1) := by decide +kernel
theorem dX12_suggests_6 : decode cX12_suggests 6 = .ok (.getfield 104, 3) := by decide +kernel
theorem dX12_suggests_9 : decode cX12_suggests 9 = .ok (.iload_n 1, 1) := by decide +kernel
theorem dX12_suggests_10 : decode cX12_suggests 10 = .ok (.iaload, 1) := by decide +kernel
theorem dX12_suggests_11 : decode cX12_suggests 11 = .ok (.bipush 12, 2) := by decide +kernel
theorem dX12_suggests_13 : decode cX12_suggests 13 = .ok (.if_icmp .le 4, 3) := by decide +kernel
theorem dX12_suggests_16 : decode cX12_suggests 16 = .ok (.return_, 1) := by decide +kernel
theorem dX12_suggests_17 : decode cX12_suggests 17 = .ok (.iconst 0, 1) := by decide +kernel
theorem dX12_suggests_18 : decode cX12_suggests 18 = .ok (.istore_n 2, 1) := by decide +kernel
theorem dX12_suggests_19 : decode cX12_suggests 19 = .ok (.iload_n 2, 1) := by decide +kernel
theorem dX12_suggests_20 : decode cX12_suggests 20 = .ok (.aload_n 0, 1) := by decide +kernel
theorem dX12_suggests_21 : decode cX12_suggests 21 = .ok (.getfield 104, 3) := by decide +kernel
theorem dX12_suggests_24 : decode cX12_suggests 24 = .ok (.iload_n 1, 1) := by decide +kernel
theorem dX12_suggests_25 : decode cX12_suggests 25 = .ok (.iaload, 1) := by decide +kernel
theorem dX12_suggests_26 : decode cX12_suggests 26 = .ok (.if_icmp .ge 35, 3) := by decide +kernel
theorem dX12_suggests_29 : decode cX12_suggests 29 = .ok (.aload_n 0, 1) := by decide +kernel
theorem dX12_suggests_30 : decode cX12_suggests 30 = .ok (.getfield 131, 3) := by decide +kernel
theorem dX12_suggests_33 : decode cX12_suggests 33 = .ok (.iload_n 2, 1) := by decide +kernel
theorem dX12_suggests_34 : decode cX12_suggests 34 = .ok (.iconst 1, 1) := by decide +kernel
theorem dX12_suggests_35 : decode cX12_suggests 35 = .ok (.iadd, 1) := by decide +kernel
theorem dX12_suggests_36 : decode cX12_suggests 36 = .ok (.aload_n 0, 1) := by decide +kernel
theorem dX12_suggests_37 : decode cX12_suggests 37 = .ok (.getfield 86, 3) := by decide +kernel
theorem dX12_suggests_40 : decode cX12_suggests 40 = .ok (.aload_n 0, 1) := by decide +kernel
theorem dX12_suggests_41 : decode cX12_suggests 41 = .ok (.getfield 101, 3) := by decide +kernel
theorem dX12_suggests_44 : decode cX12_suggests 44 = .ok (.iload_n 1, 1) := by decide +kernel
theorem dX12_suggests_45 : decode cX12_suggests 45 = .ok (.iaload, 1) := by decide +kernel
theorem dX12_suggests_46 : decode cX12_suggests 46 = .ok (.iload_n 2, 1) := by decide +kernel
theorem dX12_suggests_47 : decode cX12_suggests 47 = .ok (.iadd, 1) := by decide +kernel
theorem dX12_suggests_48 : decode cX12_suggests 48 = .ok (.iaload, 1) := by decide +kernel
theorem dX12_suggests_49 : decode cX12_suggests 49 = .ok (.bipush 97, 2) := by decide +kernel
theorem dX12_suggests_51 : decode cX12_suggests 51 = .ok (.isub, 1) := by decide +kernel
theorem dX12_suggests_52 : decode cX12_suggests 52 = .ok (.iconst 1, 1) := by decide +kernel
theorem dX12_suggests_53 : decode cX12_suggests 53 = .ok (.iadd, 1) := by decide +kernel
theorem dX12_suggests_54 : decode cX12_suggests 54 = .ok (.iastore, 1) := by decide +kernel
theorem dX12_suggests_55 : decode cX12_suggests 55 = .ok (.iinc 2 1, 3) := by decide +kernel
theorem dX12_suggests_58 : decode cX12_suggests 58 = .ok (.goto (-39), 3) := by decide +kernel
theorem dX12_suggests_61 : decode cX12_suggests 61 = .ok (.iconst 0, 1) := by decide +kernel
theorem dX12_suggests_62 : decode cX12_suggests 62 = .ok (.istore_n 2, 1) := by decide +kernel
theorem dX12_suggests_63 : decode cX12_suggests 63 = .ok (.iload_n 2, 1) := by decide +kernel
theorem dX12_suggests_64 : decode cX12_suggests 64 = .ok (.sipush 16384, 3) := by decide +kernel
theorem dX12_suggests_67 : decode cX12_suggests 67 = .ok (.if_icmp .ge 55, 3) := by decide +kernel
theorem dX12_suggests_70 : decode cX12_suggests 70 = .ok (.aload_n 0, 1) := by decide +kernel
theorem dX12_suggests_71 : decode cX12_suggests 71 = .ok (.getfield 89, 3) := by decide +kernel
theorem dX12_suggests_74 : decode cX12_suggests 74 = .ok (.iload_n 2, 1) := by decide +kernel
theorem dX12_suggests_75 : decode cX12_suggests 75 = .ok (.laload, 1) := by decide +kernel
theorem dX12_suggests_76 : decode cX12_suggests 76 = .ok (.lconst 0, 1) := by decide +kernel
theorem dX12_suggests_77 : decode cX12_suggests 77 = .ok (.lcmp, 1) := by decide +kernel
theorem dX12_suggests_78 : decode cX12_suggests 78 = .ok (.ifCond .eq 38, 3) := by decide +kernel
theorem dX12_suggests_81 : decode cX12_suggests 81 = .ok (.aload_n 0, 1) := by decide +kernel
theorem dX12_suggests_82 : decode cX12_suggests 82 = .ok (.getfield 98, 3) := by decide +kernel
theorem dX12_suggests_85 : decode cX12_suggests 85 = .ok (.iload_n 2, 1) := by decide +kernel
theorem dX12_suggests_86 : decode cX12_suggests 86 = .ok (.iaload, 1) := by decide +kernel
theorem dX12_suggests_87 : decode cX12_suggests 87 = .ok (.iconst 1, 1) := by decide +kernel
theorem dX12_suggests_88 : decode cX12_suggests 88 = .ok (.if_icmp .ne 28, 3) := by decide +kernel
theorem dX12_suggests_91 : decode cX12_suggests 91 = .ok (.aload_n 0, 1) := by decide +kernel
theorem dX12_suggests_92 : decode cX12_suggests 92 = .ok (.aload_n 0, 1) := by decide +kernel
theorem dX12_suggests_93 : decode cX12_suggests 93 = .ok (.getfield 89, 3) := by decide +kernel
theorem dX12_suggests_96 : decode cX12_suggests 96 = .ok (.iload_n 2, 1) := by decide +kernel
theorem dX12_suggests_97 : decode cX12_suggests 97 = .ok (.laload, 1) := by decide +kernel
theorem dX12_suggests_98 : decode cX12_suggests 98 = .ok (.invokevirtual 228, 3) := by decide +kernel
theorem dX12_suggests_101 : decode cX12_suggests 101 = .ok (.iconst (-1), 1) := by decide +kernel
theorem dX12_suggests_102 : decode cX12_suggests 102 = .ok (.if_icmp .ne 14, 3) := by decide +kernel
theorem dX12_suggests_105 : decode cX12_suggests 105 = .ok (.aload_n 0, 1) := by decide +kernel
theorem dX12_suggests_106 : decode cX12_suggests 106 = .ok (.iload_n 1, 1) := by decide +kernel
theorem dX12_suggests_107 : decode cX12_suggests 107 = .ok (.aload_n 0, 1) := by decide +kernel
theorem dX12_suggests_108 : decode cX12_suggests 108 = .ok (.getfield 89, 3) := by decide +kernel
theorem dX12_suggests_111 : decode cX12_suggests 111 = .ok (.iload_n 2, 1) := by decide +kernel
theorem dX12_suggests_112 : decode cX12_suggests 112 = .ok (.laload, 1) := by decide +kernel
theorem dX12_suggests_113 : decode cX12_suggests 113 = .ok (.invokevirtual 324, 3) := by decide +kernel
theorem dX12_suggests_116 : decode cX12_suggests 116 = .ok (.iinc 2 1, 3) := by decide +kernel
theorem dX12_suggests_119 : decode cX12_suggests 119 = .ok (.goto (-56), 3) := by decide +kernel
theorem dX12_suggests_122 : decode cX12_suggests 122 = .ok (.iconst 0, 1) := by decide +kernel
theorem dX12_suggests_123 : decode cX12_suggests 123 = .ok (.istore_n 2, 1) := by decide +kernel
theorem dX12_suggests_124 : decode cX12_suggests 124 = .ok (.iload_n 2, 1) := by decide +kernel
theorem dX12_suggests_125 : decode cX12_suggests 125 = .ok (.aload_n 0, 1) := by decide +kernel
theorem dX12_suggests_126 : decode cX12_suggests 126 = .ok (.getfield 212, 3) := by decide +kernel
theorem dX12_suggests_129 : decode cX12_suggests 129 = .ok (.if_icmp .ge 20, 3) := by decide +kernel
theorem dX12_suggests_132 : decode cX12_suggests 132 = .ok (.aload_n 0, 1) := by decide +kernel
theorem dX12_suggests_133 : decode cX12_suggests 133 = .ok (.iload_n 1, 1) := by decide +kernel
theorem dX12_suggests_134 : decode cX12_suggests 134 = .ok (.aload_n 0, 1) := by decide +kernel
theorem dX12_suggests_135 : decode cX12_suggests 135 = .ok (.getfield 53, 3) := by decide +kernel
theorem dX12_suggests_138 : decode cX12_suggests 138 = .ok (.iload_n 2, 1) := by decide +kernel
theorem dX12_suggests_139 : decode cX12_suggests 139 = .ok (.laload, 1) := by decide +kernel
theorem dX12_suggests_140 : decode cX12_suggests 140 = .ok (.invokevirtual 324, 3) := by decide +kernel
theorem dX12_suggests_143 : decode cX12_suggests 143 = .ok (.iinc 2 1, 3) := by decide +kernel
theorem dX12_suggests_146 : decode cX12_suggests 146 = .ok (.goto (-22), 3) := by decide +kernel
theorem dX12_suggests_149 : decode cX12_suggests 149 = .ok (.sipush 1093, 3) := by decide +kernel
theorem dX12_suggests_152 : decode cX12_suggests 152 = .ok (.istore_n 2, 1) := by decide +kernel
theorem dX12_suggests_153 : decode cX12_suggests 153 = .ok (.iload_n 2, 1) := by decide +kernel
theorem dX12_suggests_154 : decode cX12_suggests 154 = .ok (.ifCond .le 125, 3) := by decide +kernel
theorem dX12_suggests_157 : decode cX12_suggests 157 = .ok (.iload_n 2, 1) := by decide +kernel
theorem dX12_suggests_158 : decode cX12_suggests 158 = .ok (.istore_n 3, 1) := by decide +kernel
theorem dX12_suggests_159 : decode cX12_suggests 159 = .ok (.iload_n 3, 1) := by decide +kernel
theorem dX12_suggests_160 : decode cX12_suggests 160 = .ok (.aload_n 0, 1) := by decide +kernel
theorem dX12_suggests_161 : decode cX12_suggests 161 = .ok (.getfield 321, 3) := by decide +kernel
theorem dX12_suggests_164 : decode cX12_suggests 164 = .ok (.if_icmp .ge 108, 3) := by decide +kernel
theorem dX12_suggests_167 : decode cX12_suggests 167 = .ok (.aload_n 0, 1) := by decide +kernel
theorem dX12_suggests_168 : decode cX12_suggests 168 = .ok (.getfield 134, 3) := by decide +kernel
theorem dX12_suggests_171 : decode cX12_suggests 171 = .ok (.iload_n 3, 1) := by decide +kernel
theorem dX12_suggests_172 : decode cX12_suggests 172 = .ok (.laload, 1) := by decide +kernel
theorem dX12_suggests_173 : decode cX12_suggests 173 = .ok (.lstore 4, 2) := by decide +kernel
theorem dX12_suggests_175 : decode cX12_suggests 175 = .ok (.aload_n 0, 1) := by decide +kernel
theorem dX12_suggests_176 : decode cX12_suggests 176 = .ok (.getfield 137, 3) := by decide +kernel
theorem dX12_suggests_179 : decode cX12_suggests 179 = .ok (.iload_n 3, 1) := by decide +kernel
theorem dX12_suggests_180 : decode cX12_suggests 180 = .ok (.iaload, 1) := by decide +kernel
theorem dX12_suggests_181 : decode cX12_suggests 181 = .ok (.istore 6, 2) := by decide +kernel
theorem dX12_suggests_183 : decode cX12_suggests 183 = .ok (.iload_n 3, 1) := by decide +kernel
theorem dX12_suggests_184 : decode cX12_suggests 184 = .ok (.istore 7, 2) := by decide +kernel
theorem dX12_suggests_186 : decode cX12_suggests 186 = .ok (.iload 7, 2) := by decide +kernel
theorem dX12_suggests_188 : decode cX12_suggests 188 = .ok (.iload_n 2, 1) := by decide +kernel
theorem dX12_suggests_189 : decode cX12_suggests 189 = .ok (.if_icmp .lt 59, 3) := by decide +kernel
theorem dX12_suggests_192 : decode cX12_suggests 192 = .ok (.aload_n 0, 1) := by decide +kernel
theorem dX12_suggests_193 : decode cX12_suggests 193 = .ok (.iload 6, 2) := by decide +kernel
theorem dX12_suggests_195 : decode cX12_suggests 195 = .ok (.lload 4, 2) := by decide +kernel
theorem dX12_suggests_197 : decode cX12_suggests 197 = .ok (.iload 7, 2) := by decide +kernel
theorem dX12_suggests_199 : decode cX12_suggests 199 = .ok (.iload_n 2, 1) := by decide +kernel
theorem dX12_suggests_200 : decode cX12_suggests 200 = .ok (.isub, 1) := by decide +kernel
theorem dX12_suggests_201 : decode cX12_suggests 201 = .ok (.invokevirtual 328, 3) := by decide +kernel
theorem dX12_suggests_204 : decode cX12_suggests 204 = .ok (.ifCond .eq 44, 3) := by decide +kernel
theorem dX12_suggests_207 : decode cX12_suggests 207 = .ok (.aload_n 0, 1) := by decide +kernel
theorem dX12_suggests_208 : decode cX12_suggests 208 = .ok (.getfield 134, 3) := by decide +kernel
theorem dX12_suggests_211 : decode cX12_suggests 211 = .ok (.iload 7, 2) := by decide +kernel
theorem dX12_suggests_213 : decode cX12_suggests 213 = .ok (.aload_n 0, 1) := by decide +kernel
theorem dX12_suggests_214 : decode cX12_suggests 214 = .ok (.getfield 134, 3) := by decide +kernel
theorem dX12_suggests_217 : decode cX12_suggests 217 = .ok (.iload 7, 2) := by decide +kernel
theorem dX12_suggests_219 : decode cX12_suggests 219 = .ok (.iload_n 2, 1) := by decide +kernel
theorem dX12_suggests_220 : decode cX12_suggests 220 = .ok (.isub, 1) := by decide +kernel
theorem dX12_suggests_221 : decode cX12_suggests 221 = .ok (.laload, 1) := by decide +kernel
theorem dX12_suggests_222 : decode cX12_suggests 222 = .ok (.lastore, 1) := by decide +kernel
theorem dX12_suggests_223 : decode cX12_suggests 223 = .ok (.aload_n 0, 1) := by decide +kernel
theorem dX12_suggests_224 : decode cX12_suggests 224 = .ok (.getfield 137, 3) := by decide +kernel
theorem dX12_suggests_227 : decode cX12_suggests 227 = .ok (.iload 7, 2) := by decide +kernel
theorem dX12_suggests_229 : decode cX12_suggests 229 = .ok (.aload_n 0, 1) := by decide +kernel
theorem dX12_suggests_230 : decode cX12_suggests 230 = .ok (.getfield 137, 3) := by decide +kernel
theorem dX12_suggests_233 : decode cX12_suggests 233 = .ok (.iload 7, 2) := by decide +kernel
theorem dX12_suggests_235 : decode cX12_suggests 235 = .ok (.iload_n 2, 1) := by decide +kernel
theorem dX12_suggests_236 : decode cX12_suggests 236 = .ok (.isub, 1) := by decide +kernel
theorem dX12_suggests_237 : decode cX12_suggests 237 = .ok (.iaload, 1) := by decide +kernel
theorem dX12_suggests_238 : decode cX12_suggests 238 = .ok (.iastore, 1) := by decide +kernel
theorem dX12_suggests_239 : decode cX12_suggests 239 = .ok (.iload 7, 2) := by decide +kernel
theorem dX12_suggests_241 : decode cX12_suggests 241 = .ok (.iload_n 2, 1) := by decide +kernel
theorem dX12_suggests_242 : decode cX12_suggests 242 = .ok (.isub, 1) := by decide +kernel
theorem dX12_suggests_243 : decode cX12_suggests 243 = .ok (.istore 7, 2) := by decide +kernel
theorem dX12_suggests_245 : decode cX12_suggests 245 = .ok (.goto (-59), 3) := by decide +kernel
theorem dX12_suggests_248 : decode cX12_suggests 248 = .ok (.aload_n 0, 1) := by decide +kernel
theorem dX12_suggests_249 : decode cX12_suggests 249 = .ok (.getfield 134, 3) := by decide +kernel
theorem dX12_suggests_252 : decode cX12_suggests 252 = .ok (.iload 7, 2) := by decide +kernel
theorem dX12_suggests_254 : decode cX12_suggests 254 = .ok (.lload 4, 2) := by decide +kernel
theorem dX12_suggests_256 : decode cX12_suggests 256 = .ok (.lastore, 1) := by decide +kernel
theorem dX12_suggests_257 : decode cX12_suggests 257 = .ok (.aload_n 0, 1) := by decide +kernel
theorem dX12_suggests_258 : decode cX12_suggests 258 = .ok (.getfield 137, 3) := by decide +kernel
theorem dX12_suggests_261 : decode cX12_suggests 261 = .ok (.iload 7, 2) := by decide +kernel
theorem dX12_suggests_263 : decode cX12_suggests 263 = .ok (.iload 6, 2) := by decide +kernel
theorem dX12_suggests_265 : decode cX12_suggests 265 = .ok (.iastore, 1) := by decide +kernel
theorem dX12_suggests_266 : decode cX12_suggests 266 = .ok (.iinc 3 1, 3) := by decide +kernel
theorem dX12_suggests_269 : decode cX12_suggests 269 = .ok (.goto (-110), 3) := by decide +kernel
theorem dX12_suggests_272 : decode cX12_suggests 272 = .ok (.iload_n 2, 1) := by decide +kernel
theorem dX12_suggests_273 : decode cX12_suggests 273 = .ok (.iconst 3, 1) := by decide +kernel
theorem dX12_suggests_274 : decode cX12_suggests 274 = .ok (.idiv, 1) := by decide +kernel
theorem dX12_suggests_275 : decode cX12_suggests 275 = .ok (.istore_n 2, 1) := by decide +kernel
theorem dX12_suggests_276 : decode cX12_suggests 276 = .ok (.goto (-123), 3) := by decide +kernel
theorem dX12_suggests_279 : decode cX12_suggests 279 = .ok (.return_, 1) := by decide +kernel
theorem dX12_changes_0 : decode cX12_changes 0 = .ok (.lload_n 2, 1) := by decide +kernel
theorem dX12_changes_1 : decode cX12_changes 1 = .ok (.invokestatic 152, 3) := by decide +kernel
theorem dX12_changes_4 : decode cX12_changes 4 = .ok (.aload_n 0, 1) := by decide +kernel
theorem dX12_changes_5 : decode cX12_changes 5 = .ok (.getfield 104, 3) := by decide +kernel
theorem dX12_changes_8 : decode cX12_changes 8 = .ok (.iload_n 1, 1) := by decide +kernel
theorem dX12_changes_9 : decode cX12_changes 9 = .ok (.iaload, 1) := by decide +kernel
theorem dX12_changes_10 : decode cX12_changes 10 = .ok (.isub, 1) := by decide +kernel
theorem dX12_changes_11 : decode cX12_changes 11 = .ok (.istore 4, 2) := by decide +kernel
theorem dX12_changes_13 : decode cX12_changes 13 = .ok (.aload_n 0, 1) := by decide +kernel
theorem dX12_changes_14 : decode cX12_changes 14 = .ok (.getfield 251, 3) := by decide +kernel
theorem dX12_changes_17 : decode cX12_changes 17 = .ok (.iload 4, 2) := by decide +kernel
theorem dX12_changes_19 : decode cX12_changes 19 = .ok (.iadd, 1) := by decide +kernel
theorem dX12_changes_20 : decode cX12_changes 20 = .ok (.bipush 100, 2) := by decide +kernel
theorem dX12_changes_22 : decode cX12_changes 22 = .ok (.if_icmp .le 5, 3) := by decide +kernel
theorem dX12_changes_25 : decode cX12_changes 25 = .ok (.iconst 0, 1) := by decide +kernel
theorem dX12_changes_26 : decode cX12_changes 26 = .ok (.ireturn, 1) := by decide +kernel
theorem dX12_changes_27 : decode cX12_changes 27 = .ok (.aload_n 0, 1) := by decide +kernel
theorem dX12_changes_28 : decode cX12_changes 28 = .ok (.invokevirtual 303, 3) := by decide +kernel
theorem dX12_changes_31 : decode cX12_changes 31 = .ok (.aload_n 0, 1) := by decide +kernel
theorem dX12_changes_32 : decode cX12_changes 32 = .ok (.getfield 101, 3) := by decide +kernel
theorem dX12_changes_35 : decode cX12_changes 35 = .ok (.iload_n 1, 1) := by decide +kernel
theorem dX12_changes_36 : decode cX12_changes 36 = .ok (.iaload, 1) := by decide +kernel
theorem dX12_changes_37 : decode cX12_changes 37 = .ok (.aload_n 0, 1) := by decide +kernel
theorem dX12_changes_38 : decode cX12_changes 38 = .ok (.getfield 104, 3) := by decide +kernel
theorem dX12_changes_41 : decode cX12_changes 41 = .ok (.iload_n 1, 1) := by decide +kernel
theorem dX12_changes_42 : decode cX12_changes 42 = .ok (.iaload, 1) := by decide +kernel
theorem dX12_changes_43 : decode cX12_changes 43 = .ok (.iadd, 1) := by decide +kernel
theorem dX12_changes_44 : decode cX12_changes 44 = .ok (.istore 5, 2) := by decide +kernel
theorem dX12_changes_46 : decode cX12_changes 46 = .ok (.iload 5, 2) := by decide +kernel
theorem dX12_changes_48 : decode cX12_changes 48 = .ok (.istore 6, 2) := by decide +kernel
theorem dX12_changes_50 : decode cX12_changes 50 = .ok (.iload 6, 2) := by decide +kernel
theorem dX12_changes_52 : decode cX12_changes 52 = .ok (.aload_n 0, 1) := by decide +kernel
theorem dX12_changes_53 : decode cX12_changes 53 = .ok (.getfield 292, 3) := by decide +kernel
theorem dX12_changes_56 : decode cX12_changes 56 = .ok (.if_icmp .ge 26, 3) := by decide +kernel
theorem dX12_changes_59 : decode cX12_changes 59 = .ok (.aload_n 0, 1) := by decide +kernel
theorem dX12_changes_60 : decode cX12_changes 60 = .ok (.getfield 86, 3) := by decide +kernel
theorem dX12_changes_63 : decode cX12_changes 63 = .ok (.iload 6, 2) := by decide +kernel
theorem dX12_changes_65 : decode cX12_changes 65 = .ok (.iload 4, 2) := by decide +kernel
theorem dX12_changes_67 : decode cX12_changes 67 = .ok (.iadd, 1) := by decide +kernel
theorem dX12_changes_68 : decode cX12_changes 68 = .ok (.aload_n 0, 1) := by decide +kernel
theorem dX12_changes_69 : decode cX12_changes 69 = .ok (.getfield 140, 3) := by decide +kernel
theorem dX12_changes_72 : decode cX12_changes 72 = .ok (.iload 6, 2) := by decide +kernel
theorem dX12_changes_74 : decode cX12_changes 74 = .ok (.iaload, 1) := by decide +kernel
theorem dX12_changes_75 : decode cX12_changes 75 = .ok (.iastore, 1) := by decide +kernel
theorem dX12_changes_76 : decode cX12_changes 76 = .ok (.iinc 6 1, 3) := by decide +kernel
theorem dX12_changes_79 : decode cX12_changes 79 = .ok (.goto (-29), 3) := by decide +kernel
theorem dX12_changes_82 : decode cX12_changes 82 = .ok (.iconst 0, 1) := by decide +kernel
theorem dX12_changes_83 : decode cX12_changes 83 = .ok (.istore 6, 2) := by decide +kernel
theorem dX12_changes_85 : decode cX12_changes 85 = .ok (.iload 6, 2) := by decide +kernel
theorem dX12_changes_87 : decode cX12_changes 87 = .ok (.lload_n 2, 1) := by decide +kernel
theorem dX12_changes_88 : decode cX12_changes 88 = .ok (.invokestatic 152, 3) := by decide +kernel
theorem dX12_changes_91 : decode cX12_changes 91 = .ok (.if_icmp .ge 44, 3) := by decide +kernel
theorem dX12_changes_94 : decode cX12_changes 94 = .ok (.aload_n 0, 1) := by decide +kernel
theorem dX12_changes_95 : decode cX12_changes 95 = .ok (.getfield 86, 3) := by decide +kernel
theorem dX12_changes_98 : decode cX12_changes 98 = .ok (.aload_n 0, 1) := by decide +kernel
theorem dX12_changes_99 : decode cX12_changes 99 = .ok (.getfield 101, 3) := by decide +kernel
theorem dX12_changes_102 : decode cX12_changes 102 = .ok (.iload_n 1, 1) := by decide +kernel
theorem dX12_changes_103 : decode cX12_changes 103 = .ok (.iaload, 1) := by decide +kernel
theorem dX12_changes_104 : decode cX12_changes 104 = .ok (.iload 6, 2) := by decide +kernel
theorem dX12_changes_106 : decode cX12_changes 106 = .ok (.iadd, 1) := by decide +kernel
theorem dX12_changes_107 : decode cX12_changes 107 = .ok (.bipush 96, 2) := by decide +kernel
theorem dX12_changes_109 : decode cX12_changes 109 = .ok (.lload_n 2, 1) := by decide +kernel
theorem dX12_changes_110 : decode cX12_changes 110 = .ok (.iconst 4, 1) := by decide +kernel
theorem dX12_changes_111 : decode cX12_changes 111 = .ok (.lload_n 2, 1) := by decide +kernel
theorem dX12_changes_112 : decode cX12_changes 112 = .ok (.invokestatic 152, 3) := by decide +kernel
theorem dX12_changes_115 : decode cX12_changes 115 = .ok (.iconst 1, 1) := by decide +kernel
theorem dX12_changes_116 : decode cX12_changes 116 = .ok (.isub, 1) := by decide +kernel
theorem dX12_changes_117 : decode cX12_changes 117 = .ok (.iload 6, 2) := by decide +kernel
theorem dX12_changes_119 : decode cX12_changes 119 = .ok (.isub, 1) := by decide +kernel
theorem dX12_changes_120 : decode cX12_changes 120 = .ok (.imul, 1) := by decide +kernel
theorem dX12_changes_121 : decode cX12_changes 121 = .ok (.lshr, 1) := by decide +kernel
theorem dX12_changes_122 : decode cX12_changes 122 = .ok (.ldc2_w 150, 3) := by decide +kernel
theorem dX12_changes_125 : decode cX12_changes 125 = .ok (.land, 1) := by decide +kernel
theorem dX12_changes_126 : decode cX12_changes 126 = .ok (.l2i, 1) := by decide +kernel
theorem dX12_changes_127 : decode cX12_changes 127 = .ok (.iadd, 1) := by decide +kernel
theorem dX12_changes_128 : decode cX12_changes 128 = .ok (.iastore, 1) := by decide +kernel
theorem dX12_changes_129 : decode cX12_changes 129 = .ok (.iinc 6 1, 3) := by decide +kernel
theorem dX12_changes_132 : decode cX12_changes 132 = .ok (.goto (-47), 3) := by decide +kernel
theorem dX12_changes_135 : decode cX12_changes 135 = .ok (.aload_n 0, 1) := by decide +kernel
theorem dX12_changes_136 : decode cX12_changes 136 = .ok (.dup, 1) := by decide +kernel
theorem dX12_changes_137 : decode cX12_changes 137 = .ok (.getfield 251, 3) := by decide +kernel
theorem dX12_changes_140 : decode cX12_changes 140 = .ok (.iload 4, 2) := by decide +kernel
theorem dX12_changes_142 : decode cX12_changes 142 = .ok (.iadd, 1) := by decide +kernel
theorem dX12_changes_143 : decode cX12_changes 143 = .ok (.putfield 251, 3) := by decide +kernel
theorem dX12_changes_146 : decode cX12_changes 146 = .ok (.iconst 1, 1) := by decide +kernel
theorem dX12_changes_147 : decode cX12_changes 147 = .ok (.ireturn, 1) := by decide +kernel
theorem dX12_correctsOnce_0 : decode cX12_correctsOnce 0 = .ok (.aload_n 0, 1) := by decide +kernel
theorem dX12_correctsOnce_1 : decode cX12_correctsOnce 1 = .ok (.invokevirtual 289, 3) := by decide +kernel
theorem dX12_correctsOnce_4 : decode cX12_correctsOnce 4 = .ok (.iconst 0, 1) := by decide +kernel
theorem dX12_correctsOnce_5 : decode cX12_correctsOnce 5 = .ok (.istore_n 1, 1) := by decide +kernel
theorem dX12_correctsOnce_6 : decode cX12_correctsOnce 6 = .ok (.iload_n 1, 1) := by decide +kernel
theorem dX12_correctsOnce_7 : decode cX12_correctsOnce 7 = .ok (.aload_n 0, 1) := by decide +kernel
theorem dX12_correctsOnce_8 : decode cX12_correctsOnce 8 = .ok (.getfield 248, 3) := by decide +kernel
theorem dX12_correctsOnce_11 : decode cX12_correctsOnce 11 = .ok (.if_icmp .ge 42, 3) := by decide +kernel
theorem dX12_correctsOnce_14 : decode cX12_correctsOnce 14 = .ok (.aload_n 0, 1) := by decide +kernel
theorem dX12_correctsOnce_15 : decode cX12_correctsOnce 15 = .ok (.getfield 113, 3) := by decide +kernel
theorem dX12_correctsOnce_18 : decode cX12_correctsOnce 18 = .ok (.iload_n 1, 1) := by decide +kernel
theorem dX12_correctsOnce_19 : decode cX12_correctsOnce 19 = .ok (.iaload, 1) := by decide +kernel
theorem dX12_correctsOnce_20 : decode cX12_correctsOnce 20 = .ok (.ifCond .ne 27, 3) := by decide +kernel
theorem dX12_correctsOnce_23 : decode cX12_correctsOnce 23 = .ok (.aload_n 0, 1) := by decide +kernel
theorem dX12_correctsOnce_24 : decode cX12_correctsOnce 24 = .ok (.iload_n 1, 1) := by decide +kernel
theorem dX12_correctsOnce_25 : decode cX12_correctsOnce 25 = .ok (.invokevirtual 332, 3) := by decide +kernel
theorem dX12_correctsOnce_28 : decode cX12_correctsOnce 28 = .ok (.aload_n 0, 1) := by decide +kernel
theorem dX12_correctsOnce_29 : decode cX12_correctsOnce 29 = .ok (.getfield 321, 3) := by decide +kernel
theorem dX12_correctsOnce_32 : decode cX12_correctsOnce 32 = .ok (.ifCond .le 15, 3) := by decide +kernel
theorem dX12_correctsOnce_35 : decode cX12_correctsOnce 35 = .ok (.aload_n 0, 1) := by decide +kernel
theorem dX12_correctsOnce_36 : decode cX12_correctsOnce 36 = .ok (.iload_n 1, 1) := by decide +kernel
theorem dX12_correctsOnce_37 : decode cX12_correctsOnce 37 = .ok (.aload_n 0, 1) := by decide +kernel
theorem dX12_correctsOnce_38 : decode cX12_correctsOnce 38 = .ok (.getfield 134, 3) := by decide +kernel
theorem dX12_correctsOnce_41 : decode cX12_correctsOnce 41 = .ok (.iconst 0, 1) := by decide +kernel
theorem dX12_correctsOnce_42 : decode cX12_correctsOnce 42 = .ok (.laload, 1) := by decide +kernel
theorem dX12_correctsOnce_43 : decode cX12_correctsOnce 43 = .ok (.invokevirtual 336, 3) := by decide +kernel
theorem dX12_correctsOnce_46 : decode cX12_correctsOnce 46 = .ok (.ireturn, 1) := by decide +kernel
theorem dX12_correctsOnce_47 : decode cX12_correctsOnce 47 = .ok (.iinc 1 1, 3) := by decide +kernel
theorem dX12_correctsOnce_50 : decode cX12_correctsOnce 50 = .ok (.goto (-44), 3) := by decide +kernel
theorem dX12_correctsOnce_53 : decode cX12_correctsOnce 53 = .ok (.iconst 0, 1) := by decide +kernel
theorem dX12_correctsOnce_54 : decode cX12_correctsOnce 54 = .ok (.istore_n 1, 1) := by decide +kernel
theorem dX12_correctsOnce_55 : decode cX12_correctsOnce 55 = .ok (.iload_n 1, 1) := by decide +kernel
theorem dX12_correctsOnce_56 : decode cX12_correctsOnce 56 = .ok (.aload_n 0, 1) := by decide +kernel
theorem dX12_correctsOnce_57 : decode cX12_correctsOnce 57 = .ok (.getfield 248, 3) := by decide +kernel
theorem dX12_correctsOnce_60 : decode cX12_correctsOnce 60 = .ok (.if_icmp .ge 51, 3) := by decide +kernel
theorem dX12_correctsOnce_63 : decode cX12_correctsOnce 63 = .ok (.aload_n 0, 1) := by decide +kernel
theorem dX12_correctsOnce_64 : decode cX12_correctsOnce 64 = .ok (.getfield 122, 3) := by decide +kernel
theorem dX12_correctsOnce_67 : decode cX12_correctsOnce 67 = .ok (.iload_n 1, 1) := by decide +kernel
theorem dX12_correctsOnce_68 : decode cX12_correctsOnce 68 = .ok (.iaload, 1) := by decide +kernel
theorem dX12_correctsOnce_69 : decode cX12_correctsOnce 69 = .ok (.ifCond .le 36, 3) := by decide +kernel
theorem dX12_correctsOnce_72 : decode cX12_correctsOnce 72 = .ok (.aload_n 0, 1) := by decide +kernel
theorem dX12_correctsOnce_73 : decode cX12_correctsOnce 73 = .ok (.iload_n 1, 1) := by decide +kernel
theorem dX12_correctsOnce_74 : decode cX12_correctsOnce 74 = .ok (.aload_n 0, 1) := by decide +kernel
theorem dX12_correctsOnce_75 : decode cX12_correctsOnce 75 = .ok (.getfield 80, 3) := by decide +kernel
theorem dX12_correctsOnce_78 : decode cX12_correctsOnce 78 = .ok (.aload_n 0, 1) := by decide +kernel
theorem dX12_correctsOnce_79 : decode cX12_correctsOnce 79 = .ok (.getfield 122, 3) := by decide +kernel
theorem dX12_correctsOnce_82 : decode cX12_correctsOnce 82 = .ok (.iload_n 1, 1) := by decide +kernel
theorem dX12_correctsOnce_83 : decode cX12_correctsOnce 83 = .ok (.iaload, 1) := by decide +kernel
theorem dX12_correctsOnce_84 : decode cX12_correctsOnce 84 = .ok (.iconst 1, 1) := by decide +kernel
theorem dX12_correctsOnce_85 : decode cX12_correctsOnce 85 = .ok (.isub, 1) := by decide +kernel
theorem dX12_correctsOnce_86 : decode cX12_correctsOnce 86 = .ok (.iaload, 1) := by decide +kernel
theorem dX12_correctsOnce_87 : decode cX12_correctsOnce 87 = .ok (.iadd, 1) := by decide +kernel
theorem dX12_correctsOnce_88 : decode cX12_correctsOnce 88 = .ok (.aload_n 0, 1) := by decide +kernel
theorem dX12_correctsOnce_89 : decode cX12_correctsOnce 89 = .ok (.getfield 83, 3) := by decide +kernel
theorem dX12_correctsOnce_92 : decode cX12_correctsOnce 92 = .ok (.aload_n 0, 1) := by decide +kernel
theorem dX12_correctsOnce_93 : decode cX12_correctsOnce 93 = .ok (.getfield 122, 3) := by decide +kernel
theorem dX12_correctsOnce_96 : decode cX12_correctsOnce 96 = .ok (.iload_n 1, 1) := by decide +kernel
theorem dX12_correctsOnce_97 : decode cX12_correctsOnce 97 = .ok (.iaload, 1) := by decide +kernel
theorem dX12_correctsOnce_98 : decode cX12_correctsOnce 98 = .ok (.iconst 1, 1) := by decide +kernel
theorem dX12_correctsOnce_99 : decode cX12_correctsOnce 99 = .ok (.isub, 1) := by decide +kernel
theorem dX12_correctsOnce_100 : decode cX12_correctsOnce 100 = .ok (.laload, 1) := by decide +kernel
theorem dX12_correctsOnce_101 : decode cX12_correctsOnce 101 = .ok (.invokevirtual 336, 3) := by decide +kernel
theorem dX12_correctsOnce_104 : decode cX12_correctsOnce 104 = .ok (.ireturn, 1) := by decide +kernel
theorem dX12_correctsOnce_105 : decode cX12_correctsOnce 105 = .ok (.iinc 1 1, 3) := by decide +kernel
theorem dX12_correctsOnce_108 : decode cX12_correctsOnce 108 = .ok (.goto (-53), 3) := by decide +kernel
theorem dX12_correctsOnce_111 : decode cX12_correctsOnce 111 = .ok (.iconst 0, 1) := by decide +kernel
theorem dX12_correctsOnce_112 : decode cX12_correctsOnce 112 = .ok (.ireturn, 1) := by decide +kernel
theorem dX12_keepsState_0 : decode cX12_keepsState 0 = .ok (.aload_n 0, 1) := by decide +kernel
theorem dX12_keepsState_1 : decode cX12_keepsState 1 = .ok (.getfield 143, 3) := by decide +kernel
theorem dX12_keepsState_4 : decode cX12_keepsState 4 = .ok (.bipush 101, 2) := by decide +kernel
theorem dX12_keepsState_6 : decode cX12_keepsState 6 = .ok (.iload_n 1, 1) := by decide +kernel
theorem dX12_keepsState_7 : decode cX12_keepsState 7 = .ok (.imul, 1) := by decide +kernel
theorem dX12_keepsState_8 : decode cX12_keepsState 8 = .ok (.aload_n 0, 1) := by decide +kernel
theorem dX12_keepsState_9 : decode cX12_keepsState 9 = .ok (.getfield 251, 3) := by decide +kernel
theorem dX12_keepsState_12 : decode cX12_keepsState 12 = .ok (.iastore, 1) := by decide +kernel
theorem dX12_keepsState_13 : decode cX12_keepsState 13 = .ok (.iconst 0, 1) := by decide +kernel
theorem dX12_keepsState_14 : decode cX12_keepsState 14 = .ok (.istore_n 2, 1) := by decide +kernel
theorem dX12_keepsState_15 : decode cX12_keepsState 15 = .ok (.iload_n 2, 1) := by decide +kernel
theorem dX12_keepsState_16 : decode cX12_keepsState 16 = .ok (.aload_n 0, 1) := by decide +kernel
theorem dX12_keepsState_17 : decode cX12_keepsState 17 = .ok (.getfield 251, 3) := by decide +kernel
theorem dX12_keepsState_20 : decode cX12_keepsState 20 = .ok (.if_icmp .ge 28, 3) := by decide +kernel
theorem dX12_keepsState_23 : decode cX12_keepsState 23 = .ok (.aload_n 0, 1) := by decide +kernel
theorem dX12_keepsState_24 : decode cX12_keepsState 24 = .ok (.getfield 143, 3) := by decide +kernel
theorem dX12_keepsState_27 : decode cX12_keepsState 27 = .ok (.bipush 101, 2) := by decide +kernel
theorem dX12_keepsState_29 : decode cX12_keepsState 29 = .ok (.iload_n 1, 1) := by decide +kernel
theorem dX12_keepsState_30 : decode cX12_keepsState 30 = .ok (.imul, 1) := by decide +kernel
theorem dX12_keepsState_31 : decode cX12_keepsState 31 = .ok (.iconst 1, 1) := by decide +kernel
theorem dX12_keepsState_32 : decode cX12_keepsState 32 = .ok (.iadd, 1) := by decide +kernel
theorem dX12_keepsState_33 : decode cX12_keepsState 33 = .ok (.iload_n 2, 1) := by decide +kernel
theorem dX12_keepsState_34 : decode cX12_keepsState 34 = .ok (.iadd, 1) := by decide +kernel
theorem dX12_keepsState_35 : decode cX12_keepsState 35 = .ok (.aload_n 0, 1) := by decide +kernel
theorem dX12_keepsState_36 : decode cX12_keepsState 36 = .ok (.getfield 86, 3) := by decide +kernel
theorem dX12_keepsState_39 : decode cX12_keepsState 39 = .ok (.iload_n 2, 1) := by decide +kernel
theorem dX12_keepsState_40 : decode cX12_keepsState 40 = .ok (.iaload, 1) := by decide +kernel
theorem dX12_keepsState_41 : decode cX12_keepsState 41 = .ok (.iastore, 1) := by decide +kernel
theorem dX12_keepsState_42 : decode cX12_keepsState 42 = .ok (.iinc 2 1, 3) := by decide +kernel
theorem dX12_keepsState_45 : decode cX12_keepsState 45 = .ok (.goto (-30), 3) := by decide +kernel
theorem dX12_keepsState_48 : decode cX12_keepsState 48 = .ok (.return_, 1) := by decide +kernel
theorem dX12_isState_0 : decode cX12_isState 0 = .ok (.aload_n 0, 1) := by decide +kernel
theorem dX12_isState_1 : decode cX12_isState 1 = .ok (.getfield 143, 3) := by decide +kernel
theorem dX12_isState_4 : decode cX12_isState 4 = .ok (.bipush 101, 2) := by decide +kernel
theorem dX12_isState_6 : decode cX12_isState 6 = .ok (.iload_n 1, 1) := by decide +kernel
theorem dX12_isState_7 : decode cX12_isState 7 = .ok (.imul, 1) := by decide +kernel
theorem dX12_isState_8 : decode cX12_isState 8 = .ok (.iaload, 1) := by decide +kernel
theorem dX12_isState_9 : decode cX12_isState 9 = .ok (.aload_n 0, 1) := by decide +kernel
theorem dX12_isState_10 : decode cX12_isState 10 = .ok (.getfield 251, 3) := by decide +kernel
theorem dX12_isState_13 : decode cX12_isState 13 = .ok (.if_icmp .ne 7, 3) := by decide +kernel
theorem dX12_isState_16 : decode cX12_isState 16 = .ok (.iconst 1, 1) := by decide +kernel
theorem dX12_isState_17 : decode cX12_isState 17 = .ok (.goto 4, 3) := by decide +kernel
theorem dX12_isState_20 : decode cX12_isState 20 = .ok (.iconst 0, 1) := by decide +kernel
theorem dX12_isState_21 : decode cX12_isState 21 = .ok (.istore_n 2, 1) := by decide +kernel
theorem dX12_isState_22 : decode cX12_isState 22 = .ok (.iconst 0, 1) := by decide +kernel
theorem dX12_isState_23 : decode cX12_isState 23 = .ok (.istore_n 3, 1) := by decide +kernel
theorem dX12_isState_24 : decode cX12_isState 24 = .ok (.iload_n 3, 1) := by decide +kernel
theorem dX12_isState_25 : decode cX12_isState 25 = .ok (.aload_n 0, 1) := by decide +kernel
theorem dX12_isState_26 : decode cX12_isState 26 = .ok (.getfield 251, 3) := by decide +kernel
theorem dX12_isState_29 : decode cX12_isState 29 = .ok (.if_icmp .ge 41, 3) := by decide +kernel
theorem dX12_isState_32 : decode cX12_isState 32 = .ok (.iload_n 2, 1) := by decide +kernel
theorem dX12_isState_33 : decode cX12_isState 33 = .ok (.ifCond .eq 37, 3) := by decide +kernel
theorem dX12_isState_36 : decode cX12_isState 36 = .ok (.aload_n 0, 1) := by decide +kernel
theorem dX12_isState_37 : decode cX12_isState 37 = .ok (.getfield 143, 3) := by decide +kernel
theorem dX12_isState_40 : decode cX12_isState 40 = .ok (.bipush 101, 2) := by decide +kernel
theorem dX12_isState_42 : decode cX12_isState 42 = .ok (.iload_n 1, 1) := by decide +kernel
theorem dX12_isState_43 : decode cX12_isState 43 = .ok (.imul, 1) := by decide +kernel
theorem dX12_isState_44 : decode cX12_isState 44 = .ok (.iconst 1, 1) := by decide +kernel
theorem dX12_isState_45 : decode cX12_isState 45 = .ok (.iadd, 1) := by decide +kernel
theorem dX12_isState_46 : decode cX12_isState 46 = .ok (.iload_n 3, 1) := by decide +kernel
theorem dX12_isState_47 : decode cX12_isState 47 = .ok (.iadd, 1) := by decide +kernel
theorem dX12_isState_48 : decode cX12_isState 48 = .ok (.iaload, 1) := by decide +kernel
theorem dX12_isState_49 : decode cX12_isState 49 = .ok (.aload_n 0, 1) := by decide +kernel
theorem dX12_isState_50 : decode cX12_isState 50 = .ok (.getfield 86, 3) := by decide +kernel
theorem dX12_isState_53 : decode cX12_isState 53 = .ok (.iload_n 3, 1) := by decide +kernel
theorem dX12_isState_54 : decode cX12_isState 54 = .ok (.iaload, 1) := by decide +kernel
theorem dX12_isState_55 : decode cX12_isState 55 = .ok (.if_icmp .ne 7, 3) := by decide +kernel
theorem dX12_isState_58 : decode cX12_isState 58 = .ok (.iconst 1, 1) := by decide +kernel
theorem dX12_isState_59 : decode cX12_isState 59 = .ok (.goto 4, 3) := by decide +kernel
theorem dX12_isState_62 : decode cX12_isState 62 = .ok (.iconst 0, 1) := by decide +kernel
theorem dX12_isState_63 : decode cX12_isState 63 = .ok (.istore_n 2, 1) := by decide +kernel
theorem dX12_isState_64 : decode cX12_isState 64 = .ok (.iinc 3 1, 3) := by decide +kernel
theorem dX12_isState_67 : decode cX12_isState 67 = .ok (.goto (-43), 3) := by decide +kernel
theorem dX12_isState_70 : decode cX12_isState 70 = .ok (.iload_n 2, 1) := by decide +kernel
theorem dX12_isState_71 : decode cX12_isState 71 = .ok (.ireturn, 1) := by decide +kernel
theorem dX12_correct_0 : decode cX12_correct 0 = .ok (.aload_n 0, 1) := by decide +kernel
theorem dX12_correct_1 : decode cX12_correct 1 = .ok (.iconst 0, 1) := by decide +kernel
theorem dX12_correct_2 : decode cX12_correct 2 = .ok (.putfield 146, 3) := by decide +kernel
theorem dX12_correct_5 : decode cX12_correct 5 = .ok (.aload_n 0, 1) := by decide +kernel
theorem dX12_correct_6 : decode cX12_correct 6 = .ok (.iconst 0, 1) := by decide +kernel
theorem dX12_correct_7 : decode cX12_correct 7 = .ok (.invokevirtual 339, 3) := by decide +kernel
theorem dX12_correct_10 : decode cX12_correct 10 = .ok (.iconst 1, 1) := by decide +kernel
theorem dX12_correct_11 : decode cX12_correct 11 = .ok (.istore_n 1, 1) := by decide +kernel
theorem dX12_correct_12 : decode cX12_correct 12 = .ok (.iload_n 1, 1) := by decide +kernel
theorem dX12_correct_13 : decode cX12_correct 13 = .ok (.bipush 20, 2) := by decide +kernel
theorem dX12_correct_15 : decode cX12_correct 15 = .ok (.if_icmp .gt 48, 3) := by decide +kernel
theorem dX12_correct_18 : decode cX12_correct 18 = .ok (.aload_n 0, 1) := by decide +kernel
theorem dX12_correct_19 : decode cX12_correct 19 = .ok (.invokevirtual 342, 3) := by decide +kernel
theorem dX12_correct_22 : decode cX12_correct 22 = .ok (.ifCond .ne 7, 3) := by decide +kernel
theorem dX12_correct_25 : decode cX12_correct 25 = .ok (.iload_n 1, 1) := by decide +kernel
theorem dX12_correct_26 : decode cX12_correct 26 = .ok (.iconst 1, 1) := by decide +kernel
theorem dX12_correct_27 : decode cX12_correct 27 = .ok (.isub, 1) := by decide +kernel
theorem dX12_correct_28 : decode cX12_correct 28 = .ok (.ireturn, 1) := by decide +kernel
theorem dX12_correct_29 : decode cX12_correct 29 = .ok (.iconst 0, 1) := by decide +kernel
theorem dX12_correct_30 : decode cX12_correct 30 = .ok (.istore_n 2, 1) := by decide +kernel
theorem dX12_correct_31 : decode cX12_correct 31 = .ok (.iload_n 2, 1) := by decide +kernel
theorem dX12_correct_32 : decode cX12_correct 32 = .ok (.iload_n 1, 1) := by decide +kernel
theorem dX12_correct_33 : decode cX12_correct 33 = .ok (.if_icmp .ge 19, 3) := by decide +kernel
theorem dX12_correct_36 : decode cX12_correct 36 = .ok (.aload_n 0, 1) := by decide +kernel
theorem dX12_correct_37 : decode cX12_correct 37 = .ok (.iload_n 2, 1) := by decide +kernel
theorem dX12_correct_38 : decode cX12_correct 38 = .ok (.invokevirtual 346, 3) := by decide +kernel
theorem dX12_correct_41 : decode cX12_correct 41 = .ok (.ifCond .eq 5, 3) := by decide +kernel
theorem dX12_correct_44 : decode cX12_correct 44 = .ok (.iconst (-1), 1) := by decide +kernel
theorem dX12_correct_45 : decode cX12_correct 45 = .ok (.ireturn, 1) := by decide +kernel
theorem dX12_correct_46 : decode cX12_correct 46 = .ok (.iinc 2 1, 3) := by decide +kernel
theorem dX12_correct_49 : decode cX12_correct 49 = .ok (.goto (-18), 3) := by decide +kernel
theorem dX12_correct_52 : decode cX12_correct 52 = .ok (.aload_n 0, 1) := by decide +kernel
theorem dX12_correct_53 : decode cX12_correct 53 = .ok (.iload_n 1, 1) := by decide +kernel
theorem dX12_correct_54 : decode cX12_correct 54 = .ok (.invokevirtual 339, 3) := by decide +kernel
theorem dX12_correct_57 : decode cX12_correct 57 = .ok (.iinc 1 1, 3) := by decide +kernel
theorem dX12_correct_60 : decode cX12_correct 60 = .ok (.goto (-48), 3) := by decide +kernel
theorem dX12_correct_63 : decode cX12_correct 63 = .ok (.bipush 20, 2) := by decide +kernel
theorem dX12_correct_65 : decode cX12_correct 65 = .ok (.ireturn, 1) := by decide +kernel
theorem dX12_length_0 : decode cX12_length 0 = .ok (.aload_n 0, 1) := by decide +kernel
theorem dX12_length_1 : decode cX12_length 1 = .ok (.iconst 0, 1) := by decide +kernel
theorem dX12_length_2 : decode cX12_length 2 = .ok (.putfield 146, 3) := by decide +kernel
theorem dX12_length_5 : decode cX12_length 5 = .ok (.aload_n 0, 1) := by decide +kernel
theorem dX12_length_6 : decode cX12_length 6 = .ok (.getfield 251, 3) := by decide +kernel
theorem dX12_length_9 : decode cX12_length 9 = .ok (.ireturn, 1) := by decide +kernel
theorem dX12_signAt_0 : decode cX12_signAt 0 = .ok (.aload_n 0, 1) := by decide +kernel
theorem dX12_signAt_1 : decode cX12_signAt 1 = .ok (.iload_n 1, 1) := by decide +kernel
theorem dX12_signAt_2 : decode cX12_signAt 2 = .ok (.iconst 0, 1) := by decide +kernel
theorem dX12_signAt_3 : decode cX12_signAt 3 = .ok (.aload_n 0, 1) := by decide +kernel
theorem dX12_signAt_4 : decode cX12_signAt 4 = .ok (.getfield 251, 3) := by decide +kernel
theorem dX12_signAt_7 : decode cX12_signAt 7 = .ok (.iconst 1, 1) := by decide +kernel
theorem dX12_signAt_8 : decode cX12_signAt 8 = .ok (.isub, 1) := by decide +kernel
theorem dX12_signAt_9 : decode cX12_signAt 9 = .ok (.invokestatic 156, 3) := by decide +kernel
theorem dX12_signAt_12 : decode cX12_signAt 12 = .ok (.ifCond .eq 7, 3) := by decide +kernel
theorem dX12_signAt_15 : decode cX12_signAt 15 = .ok (.iconst 0, 1) := by decide +kernel
theorem dX12_signAt_16 : decode cX12_signAt 16 = .ok (.goto 4, 3) := by decide +kernel
theorem dX12_signAt_19 : decode cX12_signAt 19 = .ok (.iconst 1, 1) := by decide +kernel
theorem dX12_signAt_20 : decode cX12_signAt 20 = .ok (.putfield 146, 3) := by decide +kernel
theorem dX12_signAt_23 : decode cX12_signAt 23 = .ok (.aload_n 0, 1) := by decide +kernel
theorem dX12_signAt_24 : decode cX12_signAt 24 = .ok (.getfield 146, 3) := by decide +kernel
theorem dX12_signAt_27 : decode cX12_signAt 27 = .ok (.ifCond .ne 13, 3) := by decide +kernel
theorem dX12_signAt_30 : decode cX12_signAt 30 = .ok (.aload_n 0, 1) := by decide +kernel
theorem dX12_signAt_31 : decode cX12_signAt 31 = .ok (.getfield 86, 3) := by decide +kernel
theorem dX12_signAt_34 : decode cX12_signAt 34 = .ok (.iload_n 1, 1) := by decide +kernel
theorem dX12_signAt_35 : decode cX12_signAt 35 = .ok (.iaload, 1) := by decide +kernel
theorem dX12_signAt_36 : decode cX12_signAt 36 = .ok (.i2c, 1) := by decide +kernel
theorem dX12_signAt_37 : decode cX12_signAt 37 = .ok (.goto 5, 3) := by decide +kernel
theorem dX12_signAt_40 : decode cX12_signAt 40 = .ok (.bipush 32, 2) := by decide +kernel
theorem dX12_signAt_42 : decode cX12_signAt 42 = .ok (.ireturn, 1) := by decide +kernel
theorem dX12_words_0 : decode cX12_words 0 = .ok (.aload_n 0, 1) := by decide +kernel
theorem dX12_words_1 : decode cX12_words 1 = .ok (.iconst 0, 1) := by decide +kernel
theorem dX12_words_2 : decode cX12_words 2 = .ok (.putfield 146, 3) := by decide +kernel
theorem dX12_words_5 : decode cX12_words 5 = .ok (.aload_n 0, 1) := by decide +kernel
theorem dX12_words_6 : decode cX12_words 6 = .ok (.invokevirtual 277, 3) := by decide +kernel
theorem dX12_words_9 : decode cX12_words 9 = .ok (.aload_n 0, 1) := by decide +kernel
theorem dX12_words_10 : decode cX12_words 10 = .ok (.getfield 248, 3) := by decide +kernel
theorem dX12_words_13 : decode cX12_words 13 = .ok (.ireturn, 1) := by decide +kernel
theorem dX12_wordAt_0 : decode cX12_wordAt 0 = .ok (.aload_n 0, 1) := by decide +kernel
theorem dX12_wordAt_1 : decode cX12_wordAt 1 = .ok (.iload_n 1, 1) := by decide +kernel
theorem dX12_wordAt_2 : decode cX12_wordAt 2 = .ok (.invokevirtual 238, 3) := by decide +kernel
theorem dX12_wordAt_5 : decode cX12_wordAt 5 = .ok (.ifCond .eq 12, 3) := by decide +kernel
theorem dX12_wordAt_8 : decode cX12_wordAt 8 = .ok (.aload_n 0, 1) := by decide +kernel
theorem dX12_wordAt_9 : decode cX12_wordAt 9 = .ok (.getfield 101, 3) := by decide +kernel
theorem dX12_wordAt_12 : decode cX12_wordAt 12 = .ok (.iload_n 1, 1) := by decide +kernel
theorem dX12_wordAt_13 : decode cX12_wordAt 13 = .ok (.iaload, 1) := by decide +kernel
theorem dX12_wordAt_14 : decode cX12_wordAt 14 = .ok (.goto 4, 3) := by decide +kernel
theorem dX12_wordAt_17 : decode cX12_wordAt 17 = .ok (.iconst 0, 1) := by decide +kernel
theorem dX12_wordAt_18 : decode cX12_wordAt 18 = .ok (.ireturn, 1) := by decide +kernel
theorem dX12_isRight_0 : decode cX12_isRight 0 = .ok (.aload_n 0, 1) := by decide +kernel
theorem dX12_isRight_1 : decode cX12_isRight 1 = .ok (.iload_n 1, 1) := by decide +kernel
theorem dX12_isRight_2 : decode cX12_isRight 2 = .ok (.invokevirtual 238, 3) := by decide +kernel
theorem dX12_isRight_5 : decode cX12_isRight 5 = .ok (.ifCond .eq 16, 3) := by decide +kernel
theorem dX12_isRight_8 : decode cX12_isRight 8 = .ok (.aload_n 0, 1) := by decide +kernel
theorem dX12_isRight_9 : decode cX12_isRight 9 = .ok (.getfield 113, 3) := by decide +kernel
theorem dX12_isRight_12 : decode cX12_isRight 12 = .ok (.iload_n 1, 1) := by decide +kernel
theorem dX12_isRight_13 : decode cX12_isRight 13 = .ok (.iaload, 1) := by decide +kernel
theorem dX12_isRight_14 : decode cX12_isRight 14 = .ok (.ifCond .eq 7, 3) := by decide +kernel
theorem dX12_isRight_17 : decode cX12_isRight 17 = .ok (.iconst 1, 1) := by decide +kernel
theorem dX12_isRight_18 : decode cX12_isRight 18 = .ok (.goto 4, 3) := by decide +kernel
theorem dX12_isRight_21 : decode cX12_isRight 21 = .ok (.iconst 0, 1) := by decide +kernel
theorem dX12_isRight_22 : decode cX12_isRight 22 = .ok (.ireturn, 1) := by decide +kernel
theorem dX12_readings_0 : decode cX12_readings 0 = .ok (.aload_n 0, 1) := by decide +kernel
theorem dX12_readings_1 : decode cX12_readings 1 = .ok (.iload_n 1, 1) := by decide +kernel
theorem dX12_readings_2 : decode cX12_readings 2 = .ok (.invokevirtual 238, 3) := by decide +kernel
theorem dX12_readings_5 : decode cX12_readings 5 = .ok (.ifCond .eq 12, 3) := by decide +kernel
theorem dX12_readings_8 : decode cX12_readings 8 = .ok (.aload_n 0, 1) := by decide +kernel
theorem dX12_readings_9 : decode cX12_readings 9 = .ok (.getfield 113, 3) := by decide +kernel
theorem dX12_readings_12 : decode cX12_readings 12 = .ok (.iload_n 1, 1) := by decide +kernel
theorem dX12_readings_13 : decode cX12_readings 13 = .ok (.iaload, 1) := by decide +kernel
theorem dX12_readings_14 : decode cX12_readings 14 = .ok (.goto 4, 3) := by decide +kernel
theorem dX12_readings_17 : decode cX12_readings 17 = .ok (.iconst 0, 1) := by decide +kernel
theorem dX12_readings_18 : decode cX12_readings 18 = .ok (.ireturn, 1) := by decide +kernel
theorem dX12_reading_0 : decode cX12_reading 0 = .ok (.aload_n 0, 1) := by decide +kernel
theorem dX12_reading_1 : decode cX12_reading 1 = .ok (.iload_n 1, 1) := by decide +kernel
theorem dX12_reading_2 : decode cX12_reading 2 = .ok (.invokevirtual 238, 3) := by decide +kernel
theorem dX12_reading_5 : decode cX12_reading 5 = .ok (.ifCond .eq 12, 3) := by decide +kernel
theorem dX12_reading_8 : decode cX12_reading 8 = .ok (.aload_n 0, 1) := by decide +kernel
theorem dX12_reading_9 : decode cX12_reading 9 = .ok (.getfield 116, 3) := by decide +kernel
theorem dX12_reading_12 : decode cX12_reading 12 = .ok (.iload_n 1, 1) := by decide +kernel
theorem dX12_reading_13 : decode cX12_reading 13 = .ok (.iaload, 1) := by decide +kernel
theorem dX12_reading_14 : decode cX12_reading 14 = .ok (.goto 4, 3) := by decide +kernel
theorem dX12_reading_17 : decode cX12_reading 17 = .ok (.iconst 0, 1) := by decide +kernel
theorem dX12_reading_18 : decode cX12_reading 18 = .ok (.ireturn, 1) := by decide +kernel
theorem dX12_numberOf_0 : decode cX12_numberOf 0 = .ok (.lconst 0, 1) := by decide +kernel
theorem dX12_numberOf_1 : decode cX12_numberOf 1 = .ok (.lstore_n 3, 1) := by decide +kernel
theorem dX12_numberOf_2 : decode cX12_numberOf 2 = .ok (.iload_n 1, 1) := by decide +kernel
theorem dX12_numberOf_3 : decode cX12_numberOf 3 = .ok (.istore 5, 2) := by decide +kernel
theorem dX12_numberOf_5 : decode cX12_numberOf 5 = .ok (.iload 5, 2) := by decide +kernel
theorem dX12_numberOf_7 : decode cX12_numberOf 7 = .ok (.iload_n 2, 1) := by decide +kernel
theorem dX12_numberOf_8 : decode cX12_numberOf 8 = .ok (.if_icmp .ge 35, 3) := by decide +kernel
theorem dX12_numberOf_11 : decode cX12_numberOf 11 = .ok (.iload_n 2, 1) := by decide +kernel
theorem dX12_numberOf_12 : decode cX12_numberOf 12 = .ok (.iload_n 1, 1) := by decide +kernel
theorem dX12_numberOf_13 : decode cX12_numberOf 13 = .ok (.isub, 1) := by decide +kernel
theorem dX12_numberOf_14 : decode cX12_numberOf 14 = .ok (.bipush 10, 2) := by decide +kernel
theorem dX12_numberOf_16 : decode cX12_numberOf 16 = .ok (.if_icmp .gt 27, 3) := by decide +kernel
theorem dX12_numberOf_19 : decode cX12_numberOf 19 = .ok (.lload_n 3, 1) := by decide +kernel
theorem dX12_numberOf_20 : decode cX12_numberOf 20 = .ok (.iconst 4, 1) := by decide +kernel
theorem dX12_numberOf_21 : decode cX12_numberOf 21 = .ok (.lshl, 1) := by decide +kernel
theorem dX12_numberOf_22 : decode cX12_numberOf 22 = .ok (.aload_n 0, 1) := by decide +kernel
theorem dX12_numberOf_23 : decode cX12_numberOf 23 = .ok (.getfield 86, 3) := by decide +kernel
theorem dX12_numberOf_26 : decode cX12_numberOf 26 = .ok (.iload 5, 2) := by decide +kernel
theorem dX12_numberOf_28 : decode cX12_numberOf 28 = .ok (.iaload, 1) := by decide +kernel
theorem dX12_numberOf_29 : decode cX12_numberOf 29 = .ok (.bipush 97, 2) := by decide +kernel
theorem dX12_numberOf_31 : decode cX12_numberOf 31 = .ok (.isub, 1) := by decide +kernel
theorem dX12_numberOf_32 : decode cX12_numberOf 32 = .ok (.iconst 1, 1) := by decide +kernel
theorem dX12_numberOf_33 : decode cX12_numberOf 33 = .ok (.iadd, 1) := by decide +kernel
theorem dX12_numberOf_34 : decode cX12_numberOf 34 = .ok (.i2l, 1) := by decide +kernel
theorem dX12_numberOf_35 : decode cX12_numberOf 35 = .ok (.lor, 1) := by decide +kernel
theorem dX12_numberOf_36 : decode cX12_numberOf 36 = .ok (.lstore_n 3, 1) := by decide +kernel
theorem dX12_numberOf_37 : decode cX12_numberOf 37 = .ok (.iinc 5 1, 3) := by decide +kernel
theorem dX12_numberOf_40 : decode cX12_numberOf 40 = .ok (.goto (-35), 3) := by decide +kernel
theorem dX12_numberOf_43 : decode cX12_numberOf 43 = .ok (.lload_n 3, 1) := by decide +kernel
theorem dX12_numberOf_44 : decode cX12_numberOf 44 = .ok (.lreturn, 1) := by decide +kernel
theorem dX12_split_0 : decode cX12_split 0 = .ok (.aload_n 0, 1) := by decide +kernel
theorem dX12_split_1 : decode cX12_split 1 = .ok (.iload_n 1, 1) := by decide +kernel
theorem dX12_split_2 : decode cX12_split 2 = .ok (.invokevirtual 238, 3) := by decide +kernel
theorem dX12_split_5 : decode cX12_split 5 = .ok (.ifCond .ne 5, 3) := by decide +kernel
theorem dX12_split_8 : decode cX12_split 8 = .ok (.iconst 0, 1) := by decide +kernel
theorem dX12_split_9 : decode cX12_split 9 = .ok (.ireturn, 1) := by decide +kernel
theorem dX12_split_10 : decode cX12_split 10 = .ok (.aload_n 0, 1) := by decide +kernel
theorem dX12_split_11 : decode cX12_split 11 = .ok (.getfield 101, 3) := by decide +kernel
theorem dX12_split_14 : decode cX12_split 14 = .ok (.iload_n 1, 1) := by decide +kernel
theorem dX12_split_15 : decode cX12_split 15 = .ok (.iaload, 1) := by decide +kernel
theorem dX12_split_16 : decode cX12_split 16 = .ok (.istore_n 2, 1) := by decide +kernel
theorem dX12_split_17 : decode cX12_split 17 = .ok (.iconst 1, 1) := by decide +kernel
theorem dX12_split_18 : decode cX12_split 18 = .ok (.istore_n 3, 1) := by decide +kernel
theorem dX12_split_19 : decode cX12_split 19 = .ok (.iload_n 3, 1) := by decide +kernel
theorem dX12_split_20 : decode cX12_split 20 = .ok (.aload_n 0, 1) := by decide +kernel
theorem dX12_split_21 : decode cX12_split 21 = .ok (.getfield 104, 3) := by decide +kernel
theorem dX12_split_24 : decode cX12_split 24 = .ok (.iload_n 1, 1) := by decide +kernel
theorem dX12_split_25 : decode cX12_split 25 = .ok (.iaload, 1) := by decide +kernel
theorem dX12_split_26 : decode cX12_split 26 = .ok (.if_icmp .ge 48, 3) := by decide +kernel
theorem dX12_split_29 : decode cX12_split 29 = .ok (.aload_n 0, 1) := by decide +kernel
theorem dX12_split_30 : decode cX12_split 30 = .ok (.aload_n 0, 1) := by decide +kernel
theorem dX12_split_31 : decode cX12_split 31 = .ok (.iload_n 2, 1) := by decide +kernel
theorem dX12_split_32 : decode cX12_split 32 = .ok (.iload_n 2, 1) := by decide +kernel
theorem dX12_split_33 : decode cX12_split 33 = .ok (.iload_n 3, 1) := by decide +kernel
theorem dX12_split_34 : decode cX12_split 34 = .ok (.iadd, 1) := by decide +kernel
theorem dX12_split_35 : decode cX12_split 35 = .ok (.invokevirtual 349, 3) := by decide +kernel
theorem dX12_split_38 : decode cX12_split 38 = .ok (.invokevirtual 280, 3) := by decide +kernel
theorem dX12_split_41 : decode cX12_split 41 = .ok (.ifCond .eq 27, 3) := by decide +kernel
theorem dX12_split_44 : decode cX12_split 44 = .ok (.aload_n 0, 1) := by decide +kernel
theorem dX12_split_45 : decode cX12_split 45 = .ok (.aload_n 0, 1) := by decide +kernel
theorem dX12_split_46 : decode cX12_split 46 = .ok (.iload_n 2, 1) := by decide +kernel
theorem dX12_split_47 : decode cX12_split 47 = .ok (.iload_n 3, 1) := by decide +kernel
theorem dX12_split_48 : decode cX12_split 48 = .ok (.iadd, 1) := by decide +kernel
theorem dX12_split_49 : decode cX12_split 49 = .ok (.iload_n 2, 1) := by decide +kernel
theorem dX12_split_50 : decode cX12_split 50 = .ok (.aload_n 0, 1) := by decide +kernel
theorem dX12_split_51 : decode cX12_split 51 = .ok (.getfield 104, 3) := by decide +kernel
theorem dX12_split_54 : decode cX12_split 54 = .ok (.iload_n 1, 1) := by decide +kernel
theorem dX12_split_55 : decode cX12_split 55 = .ok (.iaload, 1) := by decide +kernel
theorem dX12_split_56 : decode cX12_split 56 = .ok (.iadd, 1) := by decide +kernel
theorem dX12_split_57 : decode cX12_split 57 = .ok (.invokevirtual 349, 3) := by decide +kernel
theorem dX12_split_60 : decode cX12_split 60 = .ok (.invokevirtual 280, 3) := by decide +kernel
theorem dX12_split_63 : decode cX12_split 63 = .ok (.ifCond .eq 5, 3) := by decide +kernel
theorem dX12_split_66 : decode cX12_split 66 = .ok (.iload_n 3, 1) := by decide +kernel
theorem dX12_split_67 : decode cX12_split 67 = .ok (.ireturn, 1) := by decide +kernel
theorem dX12_split_68 : decode cX12_split 68 = .ok (.iinc 3 1, 3) := by decide +kernel
theorem dX12_split_71 : decode cX12_split 71 = .ok (.goto (-52), 3) := by decide +kernel
theorem dX12_split_74 : decode cX12_split 74 = .ok (.iconst (-1), 1) := by decide +kernel
theorem dX12_split_75 : decode cX12_split 75 = .ok (.ireturn, 1) := by decide +kernel
theorem dX12_mistakesOf_0 : decode cX12_mistakesOf 0 = .ok (.aload_n 0, 1) := by decide +kernel
theorem dX12_mistakesOf_1 : decode cX12_mistakesOf 1 = .ok (.getfield 113, 3) := by decide +kernel
theorem dX12_mistakesOf_4 : decode cX12_mistakesOf 4 = .ok (.iload_n 1, 1) := by decide +kernel
theorem dX12_mistakesOf_5 : decode cX12_mistakesOf 5 = .ok (.iaload, 1) := by decide +kernel
theorem dX12_mistakesOf_6 : decode cX12_mistakesOf 6 = .ok (.ifCond .ne 7, 3) := by decide +kernel
theorem dX12_mistakesOf_9 : decode cX12_mistakesOf 9 = .ok (.iconst 1, 1) := by decide +kernel
theorem dX12_mistakesOf_10 : decode cX12_mistakesOf 10 = .ok (.goto 4, 3) := by decide +kernel
theorem dX12_mistakesOf_13 : decode cX12_mistakesOf 13 = .ok (.iconst 0, 1) := by decide +kernel
theorem dX12_mistakesOf_14 : decode cX12_mistakesOf 14 = .ok (.aload_n 0, 1) := by decide +kernel
theorem dX12_mistakesOf_15 : decode cX12_mistakesOf 15 = .ok (.getfield 119, 3) := by decide +kernel
theorem dX12_mistakesOf_18 : decode cX12_mistakesOf 18 = .ok (.iload_n 1, 1) := by decide +kernel
theorem dX12_mistakesOf_19 : decode cX12_mistakesOf 19 = .ok (.iaload, 1) := by decide +kernel
theorem dX12_mistakesOf_20 : decode cX12_mistakesOf 20 = .ok (.iadd, 1) := by decide +kernel
theorem dX12_mistakesOf_21 : decode cX12_mistakesOf 21 = .ok (.aload_n 0, 1) := by decide +kernel
theorem dX12_mistakesOf_22 : decode cX12_mistakesOf 22 = .ok (.getfield 122, 3) := by decide +kernel
theorem dX12_mistakesOf_25 : decode cX12_mistakesOf 25 = .ok (.iload_n 1, 1) := by decide +kernel
theorem dX12_mistakesOf_26 : decode cX12_mistakesOf 26 = .ok (.iaload, 1) := by decide +kernel
theorem dX12_mistakesOf_27 : decode cX12_mistakesOf 27 = .ok (.ifCond .le 7, 3) := by decide +kernel
theorem dX12_mistakesOf_30 : decode cX12_mistakesOf 30 = .ok (.iconst 1, 1) := by decide +kernel
theorem dX12_mistakesOf_31 : decode cX12_mistakesOf 31 = .ok (.goto 4, 3) := by decide +kernel
theorem dX12_mistakesOf_34 : decode cX12_mistakesOf 34 = .ok (.iconst 0, 1) := by decide +kernel
theorem dX12_mistakesOf_35 : decode cX12_mistakesOf 35 = .ok (.iadd, 1) := by decide +kernel
theorem dX12_mistakesOf_36 : decode cX12_mistakesOf 36 = .ok (.ireturn, 1) := by decide +kernel
theorem dX12_mistakes_0 : decode cX12_mistakes 0 = .ok (.aload_n 0, 1) := by decide +kernel
theorem dX12_mistakes_1 : decode cX12_mistakes 1 = .ok (.iconst 0, 1) := by decide +kernel
theorem dX12_mistakes_2 : decode cX12_mistakes 2 = .ok (.putfield 146, 3) := by decide +kernel
theorem dX12_mistakes_5 : decode cX12_mistakes 5 = .ok (.aload_n 0, 1) := by decide +kernel
theorem dX12_mistakes_6 : decode cX12_mistakes 6 = .ok (.invokevirtual 289, 3) := by decide +kernel
theorem dX12_mistakes_9 : decode cX12_mistakes 9 = .ok (.iconst 0, 1) := by decide +kernel
theorem dX12_mistakes_10 : decode cX12_mistakes 10 = .ok (.istore_n 1, 1) := by decide +kernel
theorem dX12_mistakes_11 : decode cX12_mistakes 11 = .ok (.iconst 0, 1) := by decide +kernel
theorem dX12_mistakes_12 : decode cX12_mistakes 12 = .ok (.istore_n 2, 1) := by decide +kernel
theorem dX12_mistakes_13 : decode cX12_mistakes 13 = .ok (.iload_n 2, 1) := by decide +kernel
theorem dX12_mistakes_14 : decode cX12_mistakes 14 = .ok (.aload_n 0, 1) := by decide +kernel
theorem dX12_mistakes_15 : decode cX12_mistakes 15 = .ok (.getfield 248, 3) := by decide +kernel
theorem dX12_mistakes_18 : decode cX12_mistakes 18 = .ok (.if_icmp .ge 17, 3) := by decide +kernel
theorem dX12_mistakes_21 : decode cX12_mistakes 21 = .ok (.iload_n 1, 1) := by decide +kernel
theorem dX12_mistakes_22 : decode cX12_mistakes 22 = .ok (.aload_n 0, 1) := by decide +kernel
theorem dX12_mistakes_23 : decode cX12_mistakes 23 = .ok (.iload_n 2, 1) := by decide +kernel
theorem dX12_mistakes_24 : decode cX12_mistakes 24 = .ok (.invokevirtual 353, 3) := by decide +kernel
theorem dX12_mistakes_27 : decode cX12_mistakes 27 = .ok (.iadd, 1) := by decide +kernel
theorem dX12_mistakes_28 : decode cX12_mistakes 28 = .ok (.istore_n 1, 1) := by decide +kernel
theorem dX12_mistakes_29 : decode cX12_mistakes 29 = .ok (.iinc 2 1, 3) := by decide +kernel
theorem dX12_mistakes_32 : decode cX12_mistakes 32 = .ok (.goto (-19), 3) := by decide +kernel
theorem dX12_mistakes_35 : decode cX12_mistakes 35 = .ok (.iload_n 1, 1) := by decide +kernel
theorem dX12_mistakes_36 : decode cX12_mistakes 36 = .ok (.ireturn, 1) := by decide +kernel
theorem dX12_wordOf_0 : decode cX12_wordOf 0 = .ok (.aload_n 0, 1) := by decide +kernel
theorem dX12_wordOf_1 : decode cX12_wordOf 1 = .ok (.invokevirtual 289, 3) := by decide +kernel
theorem dX12_wordOf_4 : decode cX12_wordOf 4 = .ok (.aload_n 0, 1) := by decide +kernel
theorem dX12_wordOf_5 : decode cX12_wordOf 5 = .ok (.iload_n 1, 1) := by decide +kernel
theorem dX12_wordOf_6 : decode cX12_wordOf 6 = .ok (.putfield 321, 3) := by decide +kernel
theorem dX12_wordOf_9 : decode cX12_wordOf 9 = .ok (.iconst 0, 1) := by decide +kernel
theorem dX12_wordOf_10 : decode cX12_wordOf 10 = .ok (.istore_n 2, 1) := by decide +kernel
theorem dX12_wordOf_11 : decode cX12_wordOf 11 = .ok (.iload_n 2, 1) := by decide +kernel
theorem dX12_wordOf_12 : decode cX12_wordOf 12 = .ok (.aload_n 0, 1) := by decide +kernel
theorem dX12_wordOf_13 : decode cX12_wordOf 13 = .ok (.getfield 248, 3) := by decide +kernel
theorem dX12_wordOf_16 : decode cX12_wordOf 16 = .ok (.if_icmp .ge 46, 3) := by decide +kernel
theorem dX12_wordOf_19 : decode cX12_wordOf 19 = .ok (.iload_n 1, 1) := by decide +kernel
theorem dX12_wordOf_20 : decode cX12_wordOf 20 = .ok (.ifCond .lt 42, 3) := by decide +kernel
theorem dX12_wordOf_23 : decode cX12_wordOf 23 = .ok (.aload_n 0, 1) := by decide +kernel
theorem dX12_wordOf_24 : decode cX12_wordOf 24 = .ok (.getfield 321, 3) := by decide +kernel
theorem dX12_wordOf_27 : decode cX12_wordOf 27 = .ok (.aload_n 0, 1) := by decide +kernel
theorem dX12_wordOf_28 : decode cX12_wordOf 28 = .ok (.iload_n 2, 1) := by decide +kernel
theorem dX12_wordOf_29 : decode cX12_wordOf 29 = .ok (.invokevirtual 353, 3) := by decide +kernel
theorem dX12_wordOf_32 : decode cX12_wordOf 32 = .ok (.if_icmp .ge 10, 3) := by decide +kernel
theorem dX12_wordOf_35 : decode cX12_wordOf 35 = .ok (.aload_n 0, 1) := by decide +kernel
theorem dX12_wordOf_36 : decode cX12_wordOf 36 = .ok (.iconst 0, 1) := by decide +kernel
theorem dX12_wordOf_37 : decode cX12_wordOf 37 = .ok (.putfield 146, 3) := by decide +kernel
theorem dX12_wordOf_40 : decode cX12_wordOf 40 = .ok (.iload_n 2, 1) := by decide +kernel
theorem dX12_wordOf_41 : decode cX12_wordOf 41 = .ok (.ireturn, 1) := by decide +kernel
theorem dX12_wordOf_42 : decode cX12_wordOf 42 = .ok (.aload_n 0, 1) := by decide +kernel
theorem dX12_wordOf_43 : decode cX12_wordOf 43 = .ok (.dup, 1) := by decide +kernel
theorem dX12_wordOf_44 : decode cX12_wordOf 44 = .ok (.getfield 321, 3) := by decide +kernel
theorem dX12_wordOf_47 : decode cX12_wordOf 47 = .ok (.aload_n 0, 1) := by decide +kernel
theorem dX12_wordOf_48 : decode cX12_wordOf 48 = .ok (.iload_n 2, 1) := by decide +kernel
theorem dX12_wordOf_49 : decode cX12_wordOf 49 = .ok (.invokevirtual 353, 3) := by decide +kernel
theorem dX12_wordOf_52 : decode cX12_wordOf 52 = .ok (.isub, 1) := by decide +kernel
theorem dX12_wordOf_53 : decode cX12_wordOf 53 = .ok (.putfield 321, 3) := by decide +kernel
theorem dX12_wordOf_56 : decode cX12_wordOf 56 = .ok (.iinc 2 1, 3) := by decide +kernel
theorem dX12_wordOf_59 : decode cX12_wordOf 59 = .ok (.goto (-48), 3) := by decide +kernel
theorem dX12_wordOf_62 : decode cX12_wordOf 62 = .ok (.aload_n 0, 1) := by decide +kernel
theorem dX12_wordOf_63 : decode cX12_wordOf 63 = .ok (.iconst 1, 1) := by decide +kernel
theorem dX12_wordOf_64 : decode cX12_wordOf 64 = .ok (.putfield 146, 3) := by decide +kernel
theorem dX12_wordOf_67 : decode cX12_wordOf 67 = .ok (.iconst (-1), 1) := by decide +kernel
theorem dX12_wordOf_68 : decode cX12_wordOf 68 = .ok (.ireturn, 1) := by decide +kernel
theorem dX12_mistakeKind_0 : decode cX12_mistakeKind 0 = .ok (.aload_n 0, 1) := by decide +kernel
theorem dX12_mistakeKind_1 : decode cX12_mistakeKind 1 = .ok (.iload_n 1, 1) := by decide +kernel
theorem dX12_mistakeKind_2 : decode cX12_mistakeKind 2 = .ok (.invokevirtual 356, 3) := by decide +kernel
theorem dX12_mistakeKind_5 : decode cX12_mistakeKind 5 = .ok (.istore_n 2, 1) := by decide +kernel
theorem dX12_mistakeKind_6 : decode cX12_mistakeKind 6 = .ok (.aload_n 0, 1) := by decide +kernel
theorem dX12_mistakeKind_7 : decode cX12_mistakeKind 7 = .ok (.getfield 146, 3) := by decide +kernel
theorem dX12_mistakeKind_10 : decode cX12_mistakeKind 10 = .ok (.ifCond .le 5, 3) := by decide +kernel
theorem dX12_mistakeKind_13 : decode cX12_mistakeKind 13 = .ok (.iconst 0, 1) := by decide +kernel
theorem dX12_mistakeKind_14 : decode cX12_mistakeKind 14 = .ok (.ireturn, 1) := by decide +kernel
theorem dX12_mistakeKind_15 : decode cX12_mistakeKind 15 = .ok (.aload_n 0, 1) := by decide +kernel
theorem dX12_mistakeKind_16 : decode cX12_mistakeKind 16 = .ok (.getfield 321, 3) := by decide +kernel
theorem dX12_mistakeKind_19 : decode cX12_mistakeKind 19 = .ok (.istore_n 3, 1) := by decide +kernel
theorem dX12_mistakeKind_20 : decode cX12_mistakeKind 20 = .ok (.aload_n 0, 1) := by decide +kernel
theorem dX12_mistakeKind_21 : decode cX12_mistakeKind 21 = .ok (.getfield 113, 3) := by decide +kernel
theorem dX12_mistakeKind_24 : decode cX12_mistakeKind 24 = .ok (.iload_n 2, 1) := by decide +kernel
theorem dX12_mistakeKind_25 : decode cX12_mistakeKind 25 = .ok (.iaload, 1) := by decide +kernel
theorem dX12_mistakeKind_26 : decode cX12_mistakeKind 26 = .ok (.ifCond .ne 13, 3) := by decide +kernel
theorem dX12_mistakeKind_29 : decode cX12_mistakeKind 29 = .ok (.iload_n 3, 1) := by decide +kernel
theorem dX12_mistakeKind_30 : decode cX12_mistakeKind 30 = .ok (.ifCond .ne 7, 3) := by decide +kernel
theorem dX12_mistakeKind_33 : decode cX12_mistakeKind 33 = .ok (.iconst 0, 1) := by decide +kernel
theorem dX12_mistakeKind_34 : decode cX12_mistakeKind 34 = .ok (.goto 4, 3) := by decide +kernel
theorem dX12_mistakeKind_37 : decode cX12_mistakeKind 37 = .ok (.iconst 2, 1) := by decide +kernel
theorem dX12_mistakeKind_38 : decode cX12_mistakeKind 38 = .ok (.ireturn, 1) := by decide +kernel
theorem dX12_mistakeKind_39 : decode cX12_mistakeKind 39 = .ok (.aload_n 0, 1) := by decide +kernel
theorem dX12_mistakeKind_40 : decode cX12_mistakeKind 40 = .ok (.getfield 119, 3) := by decide +kernel
theorem dX12_mistakeKind_43 : decode cX12_mistakeKind 43 = .ok (.iload_n 2, 1) := by decide +kernel
theorem dX12_mistakeKind_44 : decode cX12_mistakeKind 44 = .ok (.iaload, 1) := by decide +kernel
theorem dX12_mistakeKind_45 : decode cX12_mistakeKind 45 = .ok (.iconst 1, 1) := by decide +kernel
theorem dX12_mistakeKind_46 : decode cX12_mistakeKind 46 = .ok (.if_icmp .ne 11, 3) := by decide +kernel
theorem dX12_mistakeKind_49 : decode cX12_mistakeKind 49 = .ok (.iload_n 3, 1) := by decide +kernel
theorem dX12_mistakeKind_50 : decode cX12_mistakeKind 50 = .ok (.ifCond .ne 7, 3) := by decide +kernel
theorem dX12_mistakeKind_53 : decode cX12_mistakeKind 53 = .ok (.iconst 1, 1) := by decide +kernel
theorem dX12_mistakeKind_54 : decode cX12_mistakeKind 54 = .ok (.goto 4, 3) := by decide +kernel
theorem dX12_mistakeKind_57 : decode cX12_mistakeKind 57 = .ok (.iconst 2, 1) := by decide +kernel
theorem dX12_mistakeKind_58 : decode cX12_mistakeKind 58 = .ok (.ireturn, 1) := by decide +kernel
theorem dX12_mistakeAt_0 : decode cX12_mistakeAt 0 = .ok (.aload_n 0, 1) := by decide +kernel
theorem dX12_mistakeAt_1 : decode cX12_mistakeAt 1 = .ok (.iload_n 1, 1) := by decide +kernel
theorem dX12_mistakeAt_2 : decode cX12_mistakeAt 2 = .ok (.invokevirtual 356, 3) := by decide +kernel
theorem dX12_mistakeAt_5 : decode cX12_mistakeAt 5 = .ok (.istore_n 2, 1) := by decide +kernel
theorem dX12_mistakeAt_6 : decode cX12_mistakeAt 6 = .ok (.aload_n 0, 1) := by decide +kernel
theorem dX12_mistakeAt_7 : decode cX12_mistakeAt 7 = .ok (.getfield 146, 3) := by decide +kernel
theorem dX12_mistakeAt_10 : decode cX12_mistakeAt 10 = .ok (.ifCond .le 7, 3) := by decide +kernel
theorem dX12_mistakeAt_13 : decode cX12_mistakeAt 13 = .ok (.iconst 0, 1) := by decide +kernel
theorem dX12_mistakeAt_14 : decode cX12_mistakeAt 14 = .ok (.goto 4, 3) := by decide +kernel
theorem dX12_mistakeAt_17 : decode cX12_mistakeAt 17 = .ok (.iload_n 2, 1) := by decide +kernel
theorem dX12_mistakeAt_18 : decode cX12_mistakeAt 18 = .ok (.ireturn, 1) := by decide +kernel
theorem dX12_suggestions_0 : decode cX12_suggestions 0 = .ok (.aload_n 0, 1) := by decide +kernel
theorem dX12_suggestions_1 : decode cX12_suggestions 1 = .ok (.iload_n 1, 1) := by decide +kernel
theorem dX12_suggestions_2 : decode cX12_suggestions 2 = .ok (.invokevirtual 238, 3) := by decide +kernel
theorem dX12_suggestions_5 : decode cX12_suggestions 5 = .ok (.ifCond .ne 5, 3) := by decide +kernel
theorem dX12_suggestions_8 : decode cX12_suggestions 8 = .ok (.iconst 0, 1) := by decide +kernel
theorem dX12_suggestions_9 : decode cX12_suggestions 9 = .ok (.ireturn, 1) := by decide +kernel
theorem dX12_suggestions_10 : decode cX12_suggestions 10 = .ok (.aload_n 0, 1) := by decide +kernel
theorem dX12_suggestions_11 : decode cX12_suggestions 11 = .ok (.iload_n 1, 1) := by decide +kernel
theorem dX12_suggestions_12 : decode cX12_suggestions 12 = .ok (.invokevirtual 332, 3) := by decide +kernel
theorem dX12_suggestions_15 : decode cX12_suggestions 15 = .ok (.aload_n 0, 1) := by decide +kernel
theorem dX12_suggestions_16 : decode cX12_suggestions 16 = .ok (.getfield 321, 3) := by decide +kernel
theorem dX12_suggestions_19 : decode cX12_suggestions 19 = .ok (.ireturn, 1) := by decide +kernel
theorem dX12_suggestionsByAll_0 : decode cX12_suggestionsByAll 0 = .ok (.aload_n 0, 1) := by decide +kernel
theorem dX12_suggestionsByAll_1 : decode cX12_suggestionsByAll 1 = .ok (.iload_n 1, 1) := by decide +kernel
theorem dX12_suggestionsByAll_2 : decode cX12_suggestionsByAll 2 = .ok (.invokevirtual 359, 3) := by decide +kernel
theorem dX12_suggestionsByAll_5 : decode cX12_suggestionsByAll 5 = .ok (.ireturn, 1) := by decide +kernel
theorem dX12_hasSuggestion_0 : decode cX12_hasSuggestion 0 = .ok (.aload_n 0, 1) := by decide +kernel
theorem dX12_hasSuggestion_1 : decode cX12_hasSuggestion 1 = .ok (.iload_n 1, 1) := by decide +kernel
theorem dX12_hasSuggestion_2 : decode cX12_hasSuggestion 2 = .ok (.invokevirtual 238, 3) := by decide +kernel
theorem dX12_hasSuggestion_5 : decode cX12_hasSuggestion 5 = .ok (.ifCond .eq 31, 3) := by decide +kernel
theorem dX12_hasSuggestion_8 : decode cX12_hasSuggestion 8 = .ok (.aload_n 0, 1) := by decide +kernel
theorem dX12_hasSuggestion_9 : decode cX12_hasSuggestion 9 = .ok (.iload_n 1, 1) := by decide +kernel
theorem dX12_hasSuggestion_10 : decode cX12_hasSuggestion 10 = .ok (.invokevirtual 332, 3) := by decide +kernel
theorem dX12_hasSuggestion_13 : decode cX12_hasSuggestion 13 = .ok (.aload_n 0, 1) := by decide +kernel
theorem dX12_hasSuggestion_14 : decode cX12_hasSuggestion 14 = .ok (.iload_n 2, 1) := by decide +kernel
theorem dX12_hasSuggestion_15 : decode cX12_hasSuggestion 15 = .ok (.iconst 0, 1) := by decide +kernel
theorem dX12_hasSuggestion_16 : decode cX12_hasSuggestion 16 = .ok (.aload_n 0, 1) := by decide +kernel
theorem dX12_hasSuggestion_17 : decode cX12_hasSuggestion 17 = .ok (.getfield 321, 3) := by decide +kernel
theorem dX12_hasSuggestion_20 : decode cX12_hasSuggestion 20 = .ok (.iconst 1, 1) := by decide +kernel
theorem dX12_hasSuggestion_21 : decode cX12_hasSuggestion 21 = .ok (.isub, 1) := by decide +kernel
theorem dX12_hasSuggestion_22 : decode cX12_hasSuggestion 22 = .ok (.invokestatic 156, 3) := by decide +kernel
theorem dX12_hasSuggestion_25 : decode cX12_hasSuggestion 25 = .ok (.ifCond .eq 7, 3) := by decide +kernel
theorem dX12_hasSuggestion_28 : decode cX12_hasSuggestion 28 = .ok (.iconst 0, 1) := by decide +kernel
theorem dX12_hasSuggestion_29 : decode cX12_hasSuggestion 29 = .ok (.goto 4, 3) := by decide +kernel
theorem dX12_hasSuggestion_32 : decode cX12_hasSuggestion 32 = .ok (.iconst 1, 1) := by decide +kernel
theorem dX12_hasSuggestion_33 : decode cX12_hasSuggestion 33 = .ok (.putfield 146, 3) := by decide +kernel
theorem dX12_hasSuggestion_36 : decode cX12_hasSuggestion 36 = .ok (.aload_n 0, 1) := by decide +kernel
theorem dX12_hasSuggestion_37 : decode cX12_hasSuggestion 37 = .ok (.getfield 146, 3) := by decide +kernel
theorem dX12_hasSuggestion_40 : decode cX12_hasSuggestion 40 = .ok (.ifCond .ne 7, 3) := by decide +kernel
theorem dX12_hasSuggestion_43 : decode cX12_hasSuggestion 43 = .ok (.iconst 1, 1) := by decide +kernel
theorem dX12_hasSuggestion_44 : decode cX12_hasSuggestion 44 = .ok (.goto 4, 3) := by decide +kernel
theorem dX12_hasSuggestion_47 : decode cX12_hasSuggestion 47 = .ok (.iconst 0, 1) := by decide +kernel
theorem dX12_hasSuggestion_48 : decode cX12_hasSuggestion 48 = .ok (.ireturn, 1) := by decide +kernel
theorem dX12_cost_0 : decode cX12_cost 0 = .ok (.aload_n 0, 1) := by decide +kernel
theorem dX12_cost_1 : decode cX12_cost 1 = .ok (.iload_n 1, 1) := by decide +kernel
theorem dX12_cost_2 : decode cX12_cost 2 = .ok (.iload_n 2, 1) := by decide +kernel
theorem dX12_cost_3 : decode cX12_cost 3 = .ok (.invokevirtual 362, 3) := by decide +kernel
theorem dX12_cost_6 : decode cX12_cost 6 = .ok (.ifCond .eq 12, 3) := by decide +kernel
theorem dX12_cost_9 : decode cX12_cost 9 = .ok (.aload_n 0, 1) := by decide +kernel
theorem dX12_cost_10 : decode cX12_cost 10 = .ok (.getfield 137, 3) := by decide +kernel
theorem dX12_cost_13 : decode cX12_cost 13 = .ok (.iload_n 2, 1) := by decide +kernel
theorem dX12_cost_14 : decode cX12_cost 14 = .ok (.iaload, 1) := by decide +kernel
theorem dX12_cost_15 : decode cX12_cost 15 = .ok (.goto 4, 3) := by decide +kernel
theorem dX12_cost_18 : decode cX12_cost 18 = .ok (.iconst 0, 1) := by decide +kernel
theorem dX12_cost_19 : decode cX12_cost 19 = .ok (.ireturn, 1) := by decide +kernel
theorem dX12_suggested_0 : decode cX12_suggested 0 = .ok (.aload_n 0, 1) := by decide +kernel
theorem dX12_suggested_1 : decode cX12_suggested 1 = .ok (.iload_n 1, 1) := by decide +kernel
theorem dX12_suggested_2 : decode cX12_suggested 2 = .ok (.iload_n 2, 1) := by decide +kernel
theorem dX12_suggested_3 : decode cX12_suggested 3 = .ok (.invokevirtual 362, 3) := by decide +kernel
theorem dX12_suggested_6 : decode cX12_suggested 6 = .ok (.ifCond .ne 6, 3) := by decide +kernel
theorem dX12_suggested_9 : decode cX12_suggested 9 = .ok (.bipush 32, 2) := by decide +kernel
theorem dX12_suggested_11 : decode cX12_suggested 11 = .ok (.ireturn, 1) := by decide +kernel
theorem dX12_suggested_12 : decode cX12_suggested 12 = .ok (.aload_n 0, 1) := by decide +kernel
theorem dX12_suggested_13 : decode cX12_suggested 13 = .ok (.iload_n 3, 1) := by decide +kernel
theorem dX12_suggested_14 : decode cX12_suggested 14 = .ok (.ifCond .ge 7, 3) := by decide +kernel
theorem dX12_suggested_17 : decode cX12_suggested 17 = .ok (.iconst 1, 1) := by decide +kernel
theorem dX12_suggested_18 : decode cX12_suggested 18 = .ok (.goto 4, 3) := by decide +kernel
theorem dX12_suggested_21 : decode cX12_suggested 21 = .ok (.iconst 0, 1) := by decide +kernel
theorem dX12_suggested_22 : decode cX12_suggested 22 = .ok (.putfield 146, 3) := by decide +kernel
theorem dX12_suggested_25 : decode cX12_suggested 25 = .ok (.aload_n 0, 1) := by decide +kernel
theorem dX12_suggested_26 : decode cX12_suggested 26 = .ok (.getfield 134, 3) := by decide +kernel
theorem dX12_suggested_29 : decode cX12_suggested 29 = .ok (.iload_n 2, 1) := by decide +kernel
theorem dX12_suggested_30 : decode cX12_suggested 30 = .ok (.laload, 1) := by decide +kernel
theorem dX12_suggested_31 : decode cX12_suggested 31 = .ok (.invokestatic 152, 3) := by decide +kernel
theorem dX12_suggested_34 : decode cX12_suggested 34 = .ok (.istore 4, 2) := by decide +kernel
theorem dX12_suggested_36 : decode cX12_suggested 36 = .ok (.aload_n 0, 1) := by decide +kernel
theorem dX12_suggested_37 : decode cX12_suggested 37 = .ok (.getfield 146, 3) := by decide +kernel
theorem dX12_suggested_40 : decode cX12_suggested 40 = .ok (.ifCond .gt 9, 3) := by decide +kernel
theorem dX12_suggested_43 : decode cX12_suggested 43 = .ok (.iload_n 3, 1) := by decide +kernel
theorem dX12_suggested_44 : decode cX12_suggested 44 = .ok (.iload 4, 2) := by decide +kernel
theorem dX12_suggested_46 : decode cX12_suggested 46 = .ok (.if_icmp .lt 8, 3) := by decide +kernel
theorem dX12_suggested_49 : decode cX12_suggested 49 = .ok (.bipush 32, 2) := by decide +kernel
theorem dX12_suggested_51 : decode cX12_suggested 51 = .ok (.goto 27, 3) := by decide +kernel
theorem dX12_suggested_54 : decode cX12_suggested 54 = .ok (.bipush 96, 2) := by decide +kernel
theorem dX12_suggested_56 : decode cX12_suggested 56 = .ok (.aload_n 0, 1) := by decide +kernel
theorem dX12_suggested_57 : decode cX12_suggested 57 = .ok (.getfield 134, 3) := by decide +kernel
theorem dX12_suggested_60 : decode cX12_suggested 60 = .ok (.iload_n 2, 1) := by decide +kernel
theorem dX12_suggested_61 : decode cX12_suggested 61 = .ok (.laload, 1) := by decide +kernel
theorem dX12_suggested_62 : decode cX12_suggested 62 = .ok (.iconst 4, 1) := by decide +kernel
theorem dX12_suggested_63 : decode cX12_suggested 63 = .ok (.iload 4, 2) := by decide +kernel
theorem dX12_suggested_65 : decode cX12_suggested 65 = .ok (.iconst 1, 1) := by decide +kernel
theorem dX12_suggested_66 : decode cX12_suggested 66 = .ok (.isub, 1) := by decide +kernel
theorem dX12_suggested_67 : decode cX12_suggested 67 = .ok (.iload_n 3, 1) := by decide +kernel
theorem dX12_suggested_68 : decode cX12_suggested 68 = .ok (.isub, 1) := by decide +kernel
theorem dX12_suggested_69 : decode cX12_suggested 69 = .ok (.imul, 1) := by decide +kernel
theorem dX12_suggested_70 : decode cX12_suggested 70 = .ok (.lshr, 1) := by decide +kernel
theorem dX12_suggested_71 : decode cX12_suggested 71 = .ok (.ldc2_w 150, 3) := by decide +kernel
theorem dX12_suggested_74 : decode cX12_suggested 74 = .ok (.land, 1) := by decide +kernel
theorem dX12_suggested_75 : decode cX12_suggested 75 = .ok (.l2i, 1) := by decide +kernel
theorem dX12_suggested_76 : decode cX12_suggested 76 = .ok (.iadd, 1) := by decide +kernel
theorem dX12_suggested_77 : decode cX12_suggested 77 = .ok (.i2c, 1) := by decide +kernel
theorem dX12_suggested_78 : decode cX12_suggested 78 = .ok (.ireturn, 1) := by decide +kernel
theorem dX12_made_0 : decode cX12_made 0 = .ok (.aload_n 0, 1) := by decide +kernel
theorem dX12_made_1 : decode cX12_made 1 = .ok (.iconst 0, 1) := by decide +kernel
theorem dX12_made_2 : decode cX12_made 2 = .ok (.putfield 146, 3) := by decide +kernel
theorem dX12_made_5 : decode cX12_made 5 = .ok (.aload_n 0, 1) := by decide +kernel
theorem dX12_made_6 : decode cX12_made 6 = .ok (.invokevirtual 274, 3) := by decide +kernel
theorem dX12_made_9 : decode cX12_made 9 = .ok (.aload_n 0, 1) := by decide +kernel
theorem dX12_made_10 : decode cX12_made 10 = .ok (.getfield 195, 3) := by decide +kernel
theorem dX12_made_13 : decode cX12_made 13 = .ok (.ireturn, 1) := by decide +kernel
theorem dJ9_abs_0f7a4_0 : decode cJ9_abs_0f7a4 0 = .ok (.iload_n 0, 1) := by decide +kernel
theorem dJ9_abs_0f7a4_1 : decode cJ9_abs_0f7a4 1 = .ok (.ifCond .ge 8, 3) := by decide +kernel
theorem dJ9_abs_0f7a4_4 : decode cJ9_abs_0f7a4 4 = .ok (.iload_n 0, 1) := by decide +kernel
theorem dJ9_abs_0f7a4_5 : decode cJ9_abs_0f7a4 5 = .ok (.ineg, 1) := by decide +kernel
theorem dJ9_abs_0f7a4_6 : decode cJ9_abs_0f7a4 6 = .ok (.goto 4, 3) := by decide +kernel
theorem dJ9_abs_0f7a4_9 : decode cJ9_abs_0f7a4 9 = .ok (.iload_n 0, 1) := by decide +kernel
theorem dJ9_abs_0f7a4_10 : decode cJ9_abs_0f7a4 10 = .ok (.ireturn, 1) := by decide +kernel
theorem dJ9_max_7cf53_0 : decode cJ9_max_7cf53 0 = .ok (.iload_n 0, 1) := by decide +kernel
theorem dJ9_max_7cf53_1 : decode cJ9_max_7cf53 1 = .ok (.iload_n 1, 1) := by decide +kernel
theorem dJ9_max_7cf53_2 : decode cJ9_max_7cf53 2 = .ok (.if_icmp .lt 7, 3) := by decide +kernel
theorem dJ9_max_7cf53_5 : decode cJ9_max_7cf53 5 = .ok (.iload_n 0, 1) := by decide +kernel
theorem dJ9_max_7cf53_6 : decode cJ9_max_7cf53 6 = .ok (.goto 4, 3) := by decide +kernel
theorem dJ9_max_7cf53_9 : decode cJ9_max_7cf53 9 = .ok (.iload_n 1, 1) := by decide +kernel
theorem dJ9_max_7cf53_10 : decode cJ9_max_7cf53 10 = .ok (.ireturn, 1) := by decide +kernel
theorem dJ9_min_7cf53_0 : decode cJ9_min_7cf53 0 = .ok (.iload_n 0, 1) := by decide +kernel
theorem dJ9_min_7cf53_1 : decode cJ9_min_7cf53 1 = .ok (.iload_n 1, 1) := by decide +kernel
theorem dJ9_min_7cf53_2 : decode cJ9_min_7cf53 2 = .ok (.if_icmp .gt 7, 3) := by decide +kernel
theorem dJ9_min_7cf53_5 : decode cJ9_min_7cf53 5 = .ok (.iload_n 0, 1) := by decide +kernel
theorem dJ9_min_7cf53_6 : decode cJ9_min_7cf53 6 = .ok (.goto 4, 3) := by decide +kernel
theorem dJ9_min_7cf53_9 : decode cJ9_min_7cf53 9 = .ok (.iload_n 1, 1) := by decide +kernel
theorem dJ9_min_7cf53_10 : decode cJ9_min_7cf53 10 = .ok (.ireturn, 1) := by decide +kernel
theorem dJxa1e45_init_da8c8_0 : decode cJxa1e45_init_da8c8 0 = .ok (.aload_n 0, 1) := by decide +kernel
theorem dJxa1e45_init_da8c8_1 : decode cJxa1e45_init_da8c8 1 = .ok (.invokespecial 1, 3) := by decide +kernel
theorem dJxa1e45_init_da8c8_4 : decode cJxa1e45_init_da8c8 4 = .ok (.return_, 1) := by decide +kernel
theorem dJxc12de_init_da8c8_0 : decode cJxc12de_init_da8c8 0 = .ok (.aload_n 0, 1) := by decide +kernel
theorem dJxc12de_init_da8c8_1 : decode cJxc12de_init_da8c8 1 = .ok (.invokespecial 1, 3) := by decide +kernel
theorem dJxc12de_init_da8c8_4 : decode cJxc12de_init_da8c8 4 = .ok (.aload_n 0, 1) := by decide +kernel
theorem dJxc12de_init_da8c8_5 : decode cJxc12de_init_da8c8 5 = .ok (.iconst 0, 1) := by decide +kernel
theorem dJxc12de_init_da8c8_6 : decode cJxc12de_init_da8c8 6 = .ok (.putfield 7, 3) := by decide +kernel
theorem dJxc12de_init_da8c8_9 : decode cJxc12de_init_da8c8 9 = .ok (.return_, 1) := by decide +kernel
theorem dJx4a65c_init_da8c8_0 : decode cJx4a65c_init_da8c8 0 = .ok (.aload_n 0, 1) := by decide +kernel
theorem dJx4a65c_init_da8c8_1 : decode cJx4a65c_init_da8c8 1 = .ok (.invokespecial 1, 3) := by decide +kernel
theorem dJx4a65c_init_da8c8_4 : decode cJx4a65c_init_da8c8 4 = .ok (.aload_n 0, 1) := by decide +kernel
theorem dJx4a65c_init_da8c8_5 : decode cJx4a65c_init_da8c8 5 = .ok (.getstatic 39, 3) := by decide +kernel
theorem dJx4a65c_init_da8c8_8 : decode cJx4a65c_init_da8c8 8 = .ok (.putfield 9, 3) := by decide +kernel
theorem dJx4a65c_init_da8c8_11 : decode cJx4a65c_init_da8c8 11 = .ok (.return_, 1) := by decide +kernel
theorem dJx4a65c_grow_92f84_0 : decode cJx4a65c_grow_92f84 0 = .ok (.aload_n 0, 1) := by decide +kernel
theorem dJx4a65c_grow_92f84_1 : decode cJx4a65c_grow_92f84 1 = .ok (.getfield 9, 3) := by decide +kernel
theorem dJx4a65c_grow_92f84_4 : decode cJx4a65c_grow_92f84 4 = .ok (.arraylength, 1) := by decide +kernel
theorem dJx4a65c_grow_92f84_5 : decode cJx4a65c_grow_92f84 5 = .ok (.istore_n 2, 1) := by decide +kernel
theorem dJx4a65c_grow_92f84_6 : decode cJx4a65c_grow_92f84 6 = .ok (.iload_n 2, 1) := by decide +kernel
theorem dJx4a65c_grow_92f84_7 : decode cJx4a65c_grow_92f84 7 = .ok (.ifCond .gt 13, 3) := by decide +kernel
theorem dJx4a65c_grow_92f84_10 : decode cJx4a65c_grow_92f84 10 = .ok (.aload_n 0, 1) := by decide +kernel
theorem dJx4a65c_grow_92f84_11 : decode cJx4a65c_grow_92f84 11 = .ok (.getfield 9, 3) := by decide +kernel
theorem dJx4a65c_grow_92f84_14 : decode cJx4a65c_grow_92f84 14 = .ok (.getstatic 39, 3) := by decide +kernel
theorem dJx4a65c_grow_92f84_17 : decode cJx4a65c_grow_92f84 17 = .ok (.if_acmp .eq 28, 3) := by decide +kernel
theorem dJx4a65c_grow_92f84_20 : decode cJx4a65c_grow_92f84 20 = .ok (.iload_n 2, 1) := by decide +kernel
theorem dJx4a65c_grow_92f84_21 : decode cJx4a65c_grow_92f84 21 = .ok (.iload_n 1, 1) := by decide +kernel
theorem dJx4a65c_grow_92f84_22 : decode cJx4a65c_grow_92f84 22 = .ok (.iload_n 2, 1) := by decide +kernel
theorem dJx4a65c_grow_92f84_23 : decode cJx4a65c_grow_92f84 23 = .ok (.isub, 1) := by decide +kernel
theorem dJx4a65c_grow_92f84_24 : decode cJx4a65c_grow_92f84 24 = .ok (.iload_n 2, 1) := by decide +kernel
theorem dJx4a65c_grow_92f84_25 : decode cJx4a65c_grow_92f84 25 = .ok (.iconst 1, 1) := by decide +kernel
theorem dJx4a65c_grow_92f84_26 : decode cJx4a65c_grow_92f84 26 = .ok (.ishr, 1) := by decide +kernel
theorem dJx4a65c_grow_92f84_27 : decode cJx4a65c_grow_92f84 27 = .ok (.invokestatic 73, 3) := by decide +kernel
theorem dJx4a65c_grow_92f84_30 : decode cJx4a65c_grow_92f84 30 = .ok (.istore_n 3, 1) := by decide +kernel
theorem dJx4a65c_grow_92f84_31 : decode cJx4a65c_grow_92f84 31 = .ok (.aload_n 0, 1) := by decide +kernel
theorem dJx4a65c_grow_92f84_32 : decode cJx4a65c_grow_92f84 32 = .ok (.aload_n 0, 1) := by decide +kernel
theorem dJx4a65c_grow_92f84_33 : decode cJx4a65c_grow_92f84 33 = .ok (.getfield 9, 3) := by decide +kernel
theorem dJx4a65c_grow_92f84_36 : decode cJx4a65c_grow_92f84 36 = .ok (.iload_n 3, 1) := by decide +kernel
theorem dJx4a65c_grow_92f84_37 : decode cJx4a65c_grow_92f84 37 = .ok (.invokestatic 66, 3) := by decide +kernel
theorem dJx4a65c_grow_92f84_40 : decode cJx4a65c_grow_92f84 40 = .ok (.dup_x1, 1) := by decide +kernel
theorem dJx4a65c_grow_92f84_41 : decode cJx4a65c_grow_92f84 41 = .ok (.putfield 9, 3) := by decide +kernel
theorem dJx4a65c_grow_92f84_44 : decode cJx4a65c_grow_92f84 44 = .ok (.areturn, 1) := by decide +kernel
theorem dJx4a65c_grow_92f84_45 : decode cJx4a65c_grow_92f84 45 = .ok (.aload_n 0, 1) := by decide +kernel
theorem dJx4a65c_grow_92f84_46 : decode cJx4a65c_grow_92f84 46 = .ok (.bipush 10, 2) := by decide +kernel
theorem dJx4a65c_grow_92f84_48 : decode cJx4a65c_grow_92f84 48 = .ok (.iload_n 1, 1) := by decide +kernel
theorem dJx4a65c_grow_92f84_49 : decode cJx4a65c_grow_92f84 49 = .ok (.invokestatic 79, 3) := by decide +kernel
theorem dJx4a65c_grow_92f84_52 : decode cJx4a65c_grow_92f84 52 = .ok (.anewarray 7, 3) := by decide +kernel
theorem dJx4a65c_grow_92f84_55 : decode cJx4a65c_grow_92f84 55 = .ok (.dup_x1, 1) := by decide +kernel
theorem dJx4a65c_grow_92f84_56 : decode cJx4a65c_grow_92f84 56 = .ok (.putfield 9, 3) := by decide +kernel
theorem dJx4a65c_grow_92f84_59 : decode cJx4a65c_grow_92f84 59 = .ok (.areturn, 1) := by decide +kernel
theorem dJx4a65c_grow_d5877_0 : decode cJx4a65c_grow_d5877 0 = .ok (.aload_n 0, 1) := by decide +kernel
theorem dJx4a65c_grow_d5877_1 : decode cJx4a65c_grow_d5877 1 = .ok (.aload_n 0, 1) := by decide +kernel
theorem dJx4a65c_grow_d5877_2 : decode cJx4a65c_grow_d5877 2 = .ok (.getfield 48, 3) := by decide +kernel
theorem dJx4a65c_grow_d5877_5 : decode cJx4a65c_grow_d5877 5 = .ok (.iconst 1, 1) := by decide +kernel
theorem dJx4a65c_grow_d5877_6 : decode cJx4a65c_grow_d5877 6 = .ok (.iadd, 1) := by decide +kernel
theorem dJx4a65c_grow_d5877_7 : decode cJx4a65c_grow_d5877 7 = .ok (.invokevirtual 69, 3) := by decide +kernel
theorem dJx4a65c_grow_d5877_10 : decode cJx4a65c_grow_d5877 10 = .ok (.areturn, 1) := by decide +kernel
theorem dJx4a65c_size_8abf5_0 : decode cJx4a65c_size_8abf5 0 = .ok (.aload_n 0, 1) := by decide +kernel
theorem dJx4a65c_size_8abf5_1 : decode cJx4a65c_size_8abf5 1 = .ok (.getfield 48, 3) := by decide +kernel
theorem dJx4a65c_size_8abf5_4 : decode cJx4a65c_size_8abf5 4 = .ok (.ireturn, 1) := by decide +kernel
theorem dJx4a65c_elementData_915e3_0 : decode cJx4a65c_elementData_915e3 0 = .ok (.aload_n 0, 1) := by decide +kernel
theorem dJx4a65c_elementData_915e3_1 : decode cJx4a65c_elementData_915e3 1 = .ok (.getfield 9, 3) := by decide +kernel
theorem dJx4a65c_elementData_915e3_4 : decode cJx4a65c_elementData_915e3 4 = .ok (.iload_n 1, 1) := by decide +kernel
theorem dJx4a65c_elementData_915e3_5 : decode cJx4a65c_elementData_915e3 5 = .ok (.aaload, 1) := by decide +kernel
theorem dJx4a65c_elementData_915e3_6 : decode cJx4a65c_elementData_915e3 6 = .ok (.areturn, 1) := by decide +kernel
theorem dJx4a65c_get_915e3_0 : decode cJx4a65c_get_915e3 0 = .ok (.iload_n 1, 1) := by decide +kernel
theorem dJx4a65c_get_915e3_1 : decode cJx4a65c_get_915e3 1 = .ok (.aload_n 0, 1) := by decide +kernel
theorem dJx4a65c_get_915e3_2 : decode cJx4a65c_get_915e3 2 = .ok (.getfield 48, 3) := by decide +kernel
theorem dJx4a65c_get_915e3_5 : decode cJx4a65c_get_915e3 5 = .ok (.invokestatic 118, 3) := by decide +kernel
theorem dJx4a65c_get_915e3_8 : decode cJx4a65c_get_915e3 8 = .ok (.pop, 1) := by decide +kernel
theorem dJx4a65c_get_915e3_9 : decode cJx4a65c_get_915e3 9 = .ok (.aload_n 0, 1) := by decide +kernel
theorem dJx4a65c_get_915e3_10 : decode cJx4a65c_get_915e3 10 = .ok (.iload_n 1, 1) := by decide +kernel
theorem dJx4a65c_get_915e3_11 : decode cJx4a65c_get_915e3 11 = .ok (.invokevirtual 123, 3) := by decide +kernel
theorem dJx4a65c_get_915e3_14 : decode cJx4a65c_get_915e3 14 = .ok (.areturn, 1) := by decide +kernel
theorem dJx4a65c_add_72be8_0 : decode cJx4a65c_add_72be8 0 = .ok (.iload_n 3, 1) := by decide +kernel
theorem dJx4a65c_add_72be8_1 : decode cJx4a65c_add_72be8 1 = .ok (.aload_n 2, 1) := by decide +kernel
theorem dJx4a65c_add_72be8_2 : decode cJx4a65c_add_72be8 2 = .ok (.arraylength, 1) := by decide +kernel
theorem dJx4a65c_add_72be8_3 : decode cJx4a65c_add_72be8 3 = .ok (.if_icmp .ne 8, 3) := by decide +kernel
theorem dJx4a65c_add_72be8_6 : decode cJx4a65c_add_72be8 6 = .ok (.aload_n 0, 1) := by decide +kernel
theorem dJx4a65c_add_72be8_7 : decode cJx4a65c_add_72be8 7 = .ok (.invokevirtual 129, 3) := by decide +kernel
theorem dJx4a65c_add_72be8_10 : decode cJx4a65c_add_72be8 10 = .ok (.astore_n 2, 1) := by decide +kernel
theorem dJx4a65c_add_72be8_11 : decode cJx4a65c_add_72be8 11 = .ok (.aload_n 2, 1) := by decide +kernel
theorem dJx4a65c_add_72be8_12 : decode cJx4a65c_add_72be8 12 = .ok (.iload_n 3, 1) := by decide +kernel
theorem dJx4a65c_add_72be8_13 : decode cJx4a65c_add_72be8 13 = .ok (.aload_n 1, 1) := by decide +kernel
theorem dJx4a65c_add_72be8_14 : decode cJx4a65c_add_72be8 14 = .ok (.aastore, 1) := by decide +kernel
theorem dJx4a65c_add_72be8_15 : decode cJx4a65c_add_72be8 15 = .ok (.aload_n 0, 1) := by decide +kernel
theorem dJx4a65c_add_72be8_16 : decode cJx4a65c_add_72be8 16 = .ok (.iload_n 3, 1) := by decide +kernel
theorem dJx4a65c_add_72be8_17 : decode cJx4a65c_add_72be8 17 = .ok (.iconst 1, 1) := by decide +kernel
theorem dJx4a65c_add_72be8_18 : decode cJx4a65c_add_72be8 18 = .ok (.iadd, 1) := by decide +kernel
theorem dJx4a65c_add_72be8_19 : decode cJx4a65c_add_72be8 19 = .ok (.putfield 48, 3) := by decide +kernel
theorem dJx4a65c_add_72be8_22 : decode cJx4a65c_add_72be8 22 = .ok (.return_, 1) := by decide +kernel
theorem dJx4a65c_add_9ea2d_0 : decode cJx4a65c_add_9ea2d 0 = .ok (.aload_n 0, 1) := by decide +kernel
theorem dJx4a65c_add_9ea2d_1 : decode cJx4a65c_add_9ea2d 1 = .ok (.dup, 1) := by decide +kernel
theorem dJx4a65c_add_9ea2d_2 : decode cJx4a65c_add_9ea2d 2 = .ok (.getfield 63, 3) := by decide +kernel
theorem dJx4a65c_add_9ea2d_5 : decode cJx4a65c_add_9ea2d 5 = .ok (.iconst 1, 1) := by decide +kernel
theorem dJx4a65c_add_9ea2d_6 : decode cJx4a65c_add_9ea2d 6 = .ok (.iadd, 1) := by decide +kernel
theorem dJx4a65c_add_9ea2d_7 : decode cJx4a65c_add_9ea2d 7 = .ok (.putfield 63, 3) := by decide +kernel
theorem dJx4a65c_add_9ea2d_10 : decode cJx4a65c_add_9ea2d 10 = .ok (.aload_n 0, 1) := by decide +kernel
theorem dJx4a65c_add_9ea2d_11 : decode cJx4a65c_add_9ea2d 11 = .ok (.aload_n 1, 1) := by decide +kernel
theorem dJx4a65c_add_9ea2d_12 : decode cJx4a65c_add_9ea2d 12 = .ok (.aload_n 0, 1) := by decide +kernel
theorem dJx4a65c_add_9ea2d_13 : decode cJx4a65c_add_9ea2d 13 = .ok (.getfield 9, 3) := by decide +kernel
theorem dJx4a65c_add_9ea2d_16 : decode cJx4a65c_add_9ea2d 16 = .ok (.aload_n 0, 1) := by decide +kernel
theorem dJx4a65c_add_9ea2d_17 : decode cJx4a65c_add_9ea2d 17 = .ok (.getfield 48, 3) := by decide +kernel
theorem dJx4a65c_add_9ea2d_20 : decode cJx4a65c_add_9ea2d 20 = .ok (.invokevirtual 131, 3) := by decide +kernel
theorem dJx4a65c_add_9ea2d_23 : decode cJx4a65c_add_9ea2d 23 = .ok (.iconst 1, 1) := by decide +kernel
theorem dJx4a65c_add_9ea2d_24 : decode cJx4a65c_add_9ea2d 24 = .ok (.ireturn, 1) := by decide +kernel
theorem dJ7_copyOf_1904c_0 : decode cJ7_copyOf_1904c 0 = .ok (.aload_n 0, 1) := by decide +kernel
theorem dJ7_copyOf_1904c_1 : decode cJ7_copyOf_1904c 1 = .ok (.iload_n 1, 1) := by decide +kernel
theorem dJ7_copyOf_1904c_2 : decode cJ7_copyOf_1904c 2 = .ok (.aload_n 0, 1) := by decide +kernel
theorem dJ7_copyOf_1904c_3 : decode cJ7_copyOf_1904c 3 = .ok (.invokevirtual 86, 3) := by decide +kernel
theorem dJ7_copyOf_1904c_6 : decode cJ7_copyOf_1904c 6 = .ok (.invokestatic 300, 3) := by decide +kernel
theorem dJ7_copyOf_1904c_9 : decode cJ7_copyOf_1904c 9 = .ok (.areturn, 1) := by decide +kernel
theorem dJ7_copyOf_6403c_0 : decode cJ7_copyOf_6403c 0 = .ok (.aload_n 2, 1) := by decide +kernel
theorem dJ7_copyOf_6403c_1 : decode cJ7_copyOf_6403c 1 = .ok (.ldc 110, 2) := by decide +kernel
theorem dJ7_copyOf_6403c_3 : decode cJ7_copyOf_6403c 3 = .ok (.if_acmp .ne 10, 3) := by decide +kernel
theorem dJ7_copyOf_6403c_6 : decode cJ7_copyOf_6403c 6 = .ok (.iload_n 1, 1) := by decide +kernel
theorem dJ7_copyOf_6403c_7 : decode cJ7_copyOf_6403c 7 = .ok (.anewarray 2, 3) := by decide +kernel
theorem dJ7_copyOf_6403c_10 : decode cJ7_copyOf_6403c 10 = .ok (.goto 14, 3) := by decide +kernel
theorem dJ7_copyOf_6403c_13 : decode cJ7_copyOf_6403c 13 = .ok (.aload_n 2, 1) := by decide +kernel
theorem dJ7_copyOf_6403c_14 : decode cJ7_copyOf_6403c 14 = .ok (.invokevirtual 90, 3) := by decide +kernel
theorem dJ7_copyOf_6403c_17 : decode cJ7_copyOf_6403c 17 = .ok (.iload_n 1, 1) := by decide +kernel
theorem dJ7_copyOf_6403c_18 : decode cJ7_copyOf_6403c 18 = .ok (.invokestatic 95, 3) := by decide +kernel
theorem dJ7_copyOf_6403c_21 : decode cJ7_copyOf_6403c 21 = .ok (.checkcast 110, 3) := by decide +kernel
theorem dJ7_copyOf_6403c_24 : decode cJ7_copyOf_6403c 24 = .ok (.astore_n 3, 1) := by decide +kernel
theorem dJ7_copyOf_6403c_25 : decode cJ7_copyOf_6403c 25 = .ok (.aload_n 0, 1) := by decide +kernel
theorem dJ7_copyOf_6403c_26 : decode cJ7_copyOf_6403c 26 = .ok (.iconst 0, 1) := by decide +kernel
theorem dJ7_copyOf_6403c_27 : decode cJ7_copyOf_6403c 27 = .ok (.aload_n 3, 1) := by decide +kernel
theorem dJ7_copyOf_6403c_28 : decode cJ7_copyOf_6403c 28 = .ok (.iconst 0, 1) := by decide +kernel
theorem dJ7_copyOf_6403c_29 : decode cJ7_copyOf_6403c 29 = .ok (.aload_n 0, 1) := by decide +kernel
theorem dJ7_copyOf_6403c_30 : decode cJ7_copyOf_6403c 30 = .ok (.arraylength, 1) := by decide +kernel
theorem dJ7_copyOf_6403c_31 : decode cJ7_copyOf_6403c 31 = .ok (.iload_n 1, 1) := by decide +kernel
theorem dJ7_copyOf_6403c_32 : decode cJ7_copyOf_6403c 32 = .ok (.invokestatic 304, 3) := by decide +kernel
theorem dJ7_copyOf_6403c_35 : decode cJ7_copyOf_6403c 35 = .ok (.invokestatic 150, 3) := by decide +kernel
theorem dJ7_copyOf_6403c_38 : decode cJ7_copyOf_6403c 38 = .ok (.aload_n 3, 1) := by decide +kernel
theorem dJ7_copyOf_6403c_39 : decode cJ7_copyOf_6403c 39 = .ok (.areturn, 1) := by decide +kernel
theorem dJ15_checkIndex_7cf53_0 : decode cJ15_checkIndex_7cf53 0 = .ok (.iload_n 0, 1) := by decide +kernel
theorem dJ15_checkIndex_7cf53_1 : decode cJ15_checkIndex_7cf53 1 = .ok (.iload_n 1, 1) := by decide +kernel
theorem dJ15_checkIndex_7cf53_2 : decode cJ15_checkIndex_7cf53 2 = .ok (.aconst_null, 1) := by decide +kernel
theorem dJ15_checkIndex_7cf53_3 : decode cJ15_checkIndex_7cf53 3 = .ok (.invokestatic 105, 3) := by decide +kernel
theorem dJ15_checkIndex_7cf53_6 : decode cJ15_checkIndex_7cf53 6 = .ok (.ireturn, 1) := by decide +kernel
theorem dJ8_newLength_cabcc_0 : decode cJ8_newLength_cabcc 0 = .ok (.iload_n 0, 1) := by decide +kernel
theorem dJ8_newLength_cabcc_1 : decode cJ8_newLength_cabcc 1 = .ok (.iload_n 1, 1) := by decide +kernel
theorem dJ8_newLength_cabcc_2 : decode cJ8_newLength_cabcc 2 = .ok (.iload_n 2, 1) := by decide +kernel
theorem dJ8_newLength_cabcc_3 : decode cJ8_newLength_cabcc 3 = .ok (.invokestatic 194, 3) := by decide +kernel
theorem dJ8_newLength_cabcc_6 : decode cJ8_newLength_cabcc 6 = .ok (.iadd, 1) := by decide +kernel
theorem dJ8_newLength_cabcc_7 : decode cJ8_newLength_cabcc 7 = .ok (.istore_n 3, 1) := by decide +kernel
theorem dJ8_newLength_cabcc_8 : decode cJ8_newLength_cabcc 8 = .ok (.iconst 0, 1) := by decide +kernel
theorem dJ8_newLength_cabcc_9 : decode cJ8_newLength_cabcc 9 = .ok (.iload_n 3, 1) := by decide +kernel
theorem dJ8_newLength_cabcc_10 : decode cJ8_newLength_cabcc 10 = .ok (.if_icmp .ge 11, 3) := by decide +kernel
theorem dJ8_newLength_cabcc_13 : decode cJ8_newLength_cabcc 13 = .ok (.iload_n 3, 1) := by decide +kernel
theorem dJ8_newLength_cabcc_14 : decode cJ8_newLength_cabcc 14 = .ok (.ldc 200, 2) := by decide +kernel
theorem dJ8_newLength_cabcc_16 : decode cJ8_newLength_cabcc 16 = .ok (.if_icmp .gt 5, 3) := by decide +kernel
theorem dJ8_newLength_cabcc_19 : decode cJ8_newLength_cabcc 19 = .ok (.iload_n 3, 1) := by decide +kernel
theorem dJ8_newLength_cabcc_20 : decode cJ8_newLength_cabcc 20 = .ok (.ireturn, 1) := by decide +kernel
theorem dJ8_newLength_cabcc_21 : decode cJ8_newLength_cabcc 21 = .ok (.iload_n 0, 1) := by decide +kernel
theorem dJ8_newLength_cabcc_22 : decode cJ8_newLength_cabcc 22 = .ok (.iload_n 1, 1) := by decide +kernel
theorem dJ8_newLength_cabcc_23 : decode cJ8_newLength_cabcc 23 = .ok (.invokestatic 201, 3) := by decide +kernel
theorem dJ8_newLength_cabcc_26 : decode cJ8_newLength_cabcc 26 = .ok (.ireturn, 1) := by decide +kernel
theorem dJ8_hugeLength_7cf53_0 : decode cJ8_hugeLength_7cf53 0 = .ok (.iload_n 0, 1) := by decide +kernel
theorem dJ8_hugeLength_7cf53_1 : decode cJ8_hugeLength_7cf53 1 = .ok (.iload_n 1, 1) := by decide +kernel
theorem dJ8_hugeLength_7cf53_2 : decode cJ8_hugeLength_7cf53 2 = .ok (.iadd, 1) := by decide +kernel
theorem dJ8_hugeLength_7cf53_3 : decode cJ8_hugeLength_7cf53 3 = .ok (.istore_n 2, 1) := by decide +kernel
theorem dJ8_hugeLength_7cf53_4 : decode cJ8_hugeLength_7cf53 4 = .ok (.iload_n 2, 1) := by decide +kernel
theorem dJ8_hugeLength_7cf53_5 : decode cJ8_hugeLength_7cf53 5 = .ok (.ifCond .ge 44, 3) := by decide +kernel
theorem dJ8_hugeLength_7cf53_8 : decode cJ8_hugeLength_7cf53 8 = .ok (.new 204, 3) := by decide +kernel
theorem dJ8_hugeLength_7cf53_11 : decode cJ8_hugeLength_7cf53 11 = .ok (.dup, 1) := by decide +kernel
theorem dJ8_hugeLength_7cf53_12 : decode cJ8_hugeLength_7cf53 12 = .ok (.new 89, 3) := by decide +kernel
theorem dJ8_hugeLength_7cf53_15 : decode cJ8_hugeLength_7cf53 15 = .ok (.dup, 1) := by decide +kernel
theorem dJ8_hugeLength_7cf53_16 : decode cJ8_hugeLength_7cf53 16 = .ok (.invokespecial 91, 3) := by decide +kernel
theorem dJ8_hugeLength_7cf53_19 : decode cJ8_hugeLength_7cf53 19 = .ok (.ldc 206, 2) := by decide +kernel
theorem dJ8_hugeLength_7cf53_21 : decode cJ8_hugeLength_7cf53 21 = .ok (.invokevirtual 94, 3) := by decide +kernel
theorem dJ8_hugeLength_7cf53_24 : decode cJ8_hugeLength_7cf53 24 = .ok (.iload_n 0, 1) := by decide +kernel
theorem dJ8_hugeLength_7cf53_25 : decode cJ8_hugeLength_7cf53 25 = .ok (.invokevirtual 98, 3) := by decide +kernel
theorem dJ8_hugeLength_7cf53_28 : decode cJ8_hugeLength_7cf53 28 = .ok (.ldc 208, 2) := by decide +kernel
theorem dJ8_hugeLength_7cf53_30 : decode cJ8_hugeLength_7cf53 30 = .ok (.invokevirtual 94, 3) := by decide +kernel
theorem dJ8_hugeLength_7cf53_33 : decode cJ8_hugeLength_7cf53 33 = .ok (.iload_n 1, 1) := by decide +kernel
theorem dJ8_hugeLength_7cf53_34 : decode cJ8_hugeLength_7cf53 34 = .ok (.invokevirtual 98, 3) := by decide +kernel
theorem dJ8_hugeLength_7cf53_37 : decode cJ8_hugeLength_7cf53 37 = .ok (.ldc 210, 2) := by decide +kernel
theorem dJ8_hugeLength_7cf53_39 : decode cJ8_hugeLength_7cf53 39 = .ok (.invokevirtual 94, 3) := by decide +kernel
theorem dJ8_hugeLength_7cf53_42 : decode cJ8_hugeLength_7cf53 42 = .ok (.invokevirtual 101, 3) := by decide +kernel
theorem dJ8_hugeLength_7cf53_45 : decode cJ8_hugeLength_7cf53 45 = .ok (.invokespecial 212, 3) := by decide +kernel
theorem dJ8_hugeLength_7cf53_48 : decode cJ8_hugeLength_7cf53 48 = .ok (.athrow, 1) := by decide +kernel
theorem dJ8_hugeLength_7cf53_49 : decode cJ8_hugeLength_7cf53 49 = .ok (.iload_n 2, 1) := by decide +kernel
theorem dJ8_hugeLength_7cf53_50 : decode cJ8_hugeLength_7cf53 50 = .ok (.ldc 200, 2) := by decide +kernel
theorem dJ8_hugeLength_7cf53_52 : decode cJ8_hugeLength_7cf53 52 = .ok (.if_icmp .gt 6, 3) := by decide +kernel
theorem dJ8_hugeLength_7cf53_55 : decode cJ8_hugeLength_7cf53 55 = .ok (.ldc 200, 2) := by decide +kernel
theorem dJ8_hugeLength_7cf53_57 : decode cJ8_hugeLength_7cf53 57 = .ok (.ireturn, 1) := by decide +kernel
theorem dJ8_hugeLength_7cf53_58 : decode cJ8_hugeLength_7cf53 58 = .ok (.iload_n 2, 1) := by decide +kernel
theorem dJ8_hugeLength_7cf53_59 : decode cJ8_hugeLength_7cf53 59 = .ok (.ireturn, 1) := by decide +kernel
theorem dJ3_checkIndex_8e157_0 : decode cJ3_checkIndex_8e157 0 = .ok (.iload_n 0, 1) := by decide +kernel
theorem dJ3_checkIndex_8e157_1 : decode cJ3_checkIndex_8e157 1 = .ok (.ifCond .lt 8, 3) := by decide +kernel
theorem dJ3_checkIndex_8e157_4 : decode cJ3_checkIndex_8e157 4 = .ok (.iload_n 0, 1) := by decide +kernel
theorem dJ3_checkIndex_8e157_5 : decode cJ3_checkIndex_8e157 5 = .ok (.iload_n 1, 1) := by decide +kernel
theorem dJ3_checkIndex_8e157_6 : decode cJ3_checkIndex_8e157 6 = .ok (.if_icmp .lt 10, 3) := by decide +kernel
theorem dJ3_checkIndex_8e157_9 : decode cJ3_checkIndex_8e157 9 = .ok (.aload_n 2, 1) := by decide +kernel
theorem dJ3_checkIndex_8e157_10 : decode cJ3_checkIndex_8e157 10 = .ok (.iload_n 0, 1) := by decide +kernel
theorem dJ3_checkIndex_8e157_11 : decode cJ3_checkIndex_8e157 11 = .ok (.iload_n 1, 1) := by decide +kernel
theorem dJ3_checkIndex_8e157_12 : decode cJ3_checkIndex_8e157 12 = .ok (.invokestatic 95, 3) := by decide +kernel
theorem dJ3_checkIndex_8e157_15 : decode cJ3_checkIndex_8e157 15 = .ok (.athrow, 1) := by decide +kernel
theorem dJ3_checkIndex_8e157_16 : decode cJ3_checkIndex_8e157 16 = .ok (.iload_n 0, 1) := by decide +kernel
theorem dJ3_checkIndex_8e157_17 : decode cJ3_checkIndex_8e157 17 = .ok (.ireturn, 1) := by decide +kernel
theorem dL_letter_0 : decode cL_letter 0 = .ok (.aload_n 2, 1) := by decide +kernel
theorem dL_letter_1 : decode cL_letter 1 = .ok (.iconst 0, 1) := by decide +kernel
theorem dL_letter_2 : decode cL_letter 2 = .ok (.aload_n 0, 1) := by decide +kernel
theorem dL_letter_3 : decode cL_letter 3 = .ok (.iload_n 1, 1) := by decide +kernel
theorem dL_letter_4 : decode cL_letter 4 = .ok (.invokevirtual 7, 3) := by decide +kernel
theorem dL_letter_7 : decode cL_letter 7 = .ok (.i2l, 1) := by decide +kernel
theorem dL_letter_8 : decode cL_letter 8 = .ok (.lastore, 1) := by decide +kernel
theorem dL_letter_9 : decode cL_letter 9 = .ok (.goto 9, 3) := by decide +kernel
theorem dL_letter_12 : decode cL_letter 12 = .ok (.astore_n 3, 1) := by decide +kernel
theorem dL_letter_13 : decode cL_letter 13 = .ok (.iconst 1, 1) := by decide +kernel
theorem dL_letter_14 : decode cL_letter 14 = .ok (.ireturn, 1) := by decide +kernel
theorem dL_letter_15 : decode cL_letter 15 = .ok (.astore_n 3, 1) := by decide +kernel
theorem dL_letter_16 : decode cL_letter 16 = .ok (.iconst 2, 1) := by decide +kernel
theorem dL_letter_17 : decode cL_letter 17 = .ok (.ireturn, 1) := by decide +kernel
theorem dL_letter_18 : decode cL_letter 18 = .ok (.iconst 0, 1) := by decide +kernel
theorem dL_letter_19 : decode cL_letter 19 = .ok (.ireturn, 1) := by decide +kernel
theorem dL_stem_0 : decode cL_stem 0 = .ok (.aload 5, 2) := by decide +kernel
theorem dL_stem_2 : decode cL_stem 2 = .ok (.iconst 0, 1) := by decide +kernel
theorem dL_stem_3 : decode cL_stem 3 = .ok (.aload_n 0, 1) := by decide +kernel
theorem dL_stem_4 : decode cL_stem 4 = .ok (.iload_n 1, 1) := by decide +kernel
theorem dL_stem_5 : decode cL_stem 5 = .ok (.iload_n 2, 1) := by decide +kernel
theorem dL_stem_6 : decode cL_stem 6 = .ok (.iload_n 3, 1) := by decide +kernel
theorem dL_stem_7 : decode cL_stem 7 = .ok (.iload 4, 2) := by decide +kernel
theorem dL_stem_9 : decode cL_stem 9 = .ok (.invokevirtual 17, 3) := by decide +kernel
theorem dL_stem_12 : decode cL_stem 12 = .ok (.i2l, 1) := by decide +kernel
theorem dL_stem_13 : decode cL_stem 13 = .ok (.lastore, 1) := by decide +kernel
theorem dL_stem_14 : decode cL_stem 14 = .ok (.goto 11, 3) := by decide +kernel
theorem dL_stem_17 : decode cL_stem 17 = .ok (.astore 6, 2) := by decide +kernel
theorem dL_stem_19 : decode cL_stem 19 = .ok (.iconst 1, 1) := by decide +kernel
theorem dL_stem_20 : decode cL_stem 20 = .ok (.ireturn, 1) := by decide +kernel
theorem dL_stem_21 : decode cL_stem 21 = .ok (.astore 6, 2) := by decide +kernel
theorem dL_stem_23 : decode cL_stem 23 = .ok (.iconst 2, 1) := by decide +kernel
theorem dL_stem_24 : decode cL_stem 24 = .ok (.ireturn, 1) := by decide +kernel
theorem dL_stem_25 : decode cL_stem 25 = .ok (.iconst 0, 1) := by decide +kernel
theorem dL_stem_26 : decode cL_stem 26 = .ok (.ireturn, 1) := by decide +kernel
theorem dL_rule_0 : decode cL_rule 0 = .ok (.aload 7, 2) := by decide +kernel
theorem dL_rule_2 : decode cL_rule 2 = .ok (.iconst 0, 1) := by decide +kernel
theorem dL_rule_3 : decode cL_rule 3 = .ok (.aload_n 0, 1) := by decide +kernel
theorem dL_rule_4 : decode cL_rule 4 = .ok (.iload_n 1, 1) := by decide +kernel
theorem dL_rule_5 : decode cL_rule 5 = .ok (.iload_n 2, 1) := by decide +kernel
theorem dL_rule_6 : decode cL_rule 6 = .ok (.iload_n 3, 1) := by decide +kernel
theorem dL_rule_7 : decode cL_rule 7 = .ok (.iload 4, 2) := by decide +kernel
theorem dL_rule_9 : decode cL_rule 9 = .ok (.iload 5, 2) := by decide +kernel
theorem dL_rule_11 : decode cL_rule 11 = .ok (.iload 6, 2) := by decide +kernel
theorem dL_rule_13 : decode cL_rule 13 = .ok (.invokevirtual 21, 3) := by decide +kernel
theorem dL_rule_16 : decode cL_rule 16 = .ok (.i2l, 1) := by decide +kernel
theorem dL_rule_17 : decode cL_rule 17 = .ok (.lastore, 1) := by decide +kernel
theorem dL_rule_18 : decode cL_rule 18 = .ok (.goto 11, 3) := by decide +kernel
theorem dL_rule_21 : decode cL_rule 21 = .ok (.astore 8, 2) := by decide +kernel
theorem dL_rule_23 : decode cL_rule 23 = .ok (.iconst 1, 1) := by decide +kernel
theorem dL_rule_24 : decode cL_rule 24 = .ok (.ireturn, 1) := by decide +kernel
theorem dL_rule_25 : decode cL_rule 25 = .ok (.astore 8, 2) := by decide +kernel
theorem dL_rule_27 : decode cL_rule 27 = .ok (.iconst 2, 1) := by decide +kernel
theorem dL_rule_28 : decode cL_rule 28 = .ok (.ireturn, 1) := by decide +kernel
theorem dL_rule_29 : decode cL_rule 29 = .ok (.iconst 0, 1) := by decide +kernel
theorem dL_rule_30 : decode cL_rule 30 = .ok (.ireturn, 1) := by decide +kernel
theorem dL_more_0 : decode cL_more 0 = .ok (.aload_n 3, 1) := by decide +kernel
theorem dL_more_1 : decode cL_more 1 = .ok (.iconst 0, 1) := by decide +kernel
theorem dL_more_2 : decode cL_more 2 = .ok (.aload_n 0, 1) := by decide +kernel
theorem dL_more_3 : decode cL_more 3 = .ok (.iload_n 1, 1) := by decide +kernel
theorem dL_more_4 : decode cL_more 4 = .ok (.iload_n 2, 1) := by decide +kernel
theorem dL_more_5 : decode cL_more 5 = .ok (.invokevirtual 25, 3) := by decide +kernel
theorem dL_more_8 : decode cL_more 8 = .ok (.i2l, 1) := by decide +kernel
theorem dL_more_9 : decode cL_more 9 = .ok (.lastore, 1) := by decide +kernel
theorem dL_more_10 : decode cL_more 10 = .ok (.goto 15, 3) := by decide +kernel
theorem dL_more_13 : decode cL_more 13 = .ok (.astore 4, 2) := by decide +kernel
theorem dL_more_15 : decode cL_more 15 = .ok (.iconst 1, 1) := by decide +kernel
theorem dL_more_16 : decode cL_more 16 = .ok (.ireturn, 1) := by decide +kernel
theorem dL_more_17 : decode cL_more 17 = .ok (.astore 4, 2) := by decide +kernel
theorem dL_more_19 : decode cL_more 19 = .ok (.iconst 2, 1) := by decide +kernel
theorem dL_more_20 : decode cL_more 20 = .ok (.ireturn, 1) := by decide +kernel
theorem dL_more_21 : decode cL_more 21 = .ok (.astore 4, 2) := by decide +kernel
theorem dL_more_23 : decode cL_more 23 = .ok (.iconst 3, 1) := by decide +kernel
theorem dL_more_24 : decode cL_more 24 = .ok (.ireturn, 1) := by decide +kernel
theorem dL_more_25 : decode cL_more 25 = .ok (.iconst 0, 1) := by decide +kernel
theorem dL_more_26 : decode cL_more 26 = .ok (.ireturn, 1) := by decide +kernel
theorem dL_sound_0 : decode cL_sound 0 = .ok (.aload_n 3, 1) := by decide +kernel
theorem dL_sound_1 : decode cL_sound 1 = .ok (.iconst 0, 1) := by decide +kernel
theorem dL_sound_2 : decode cL_sound 2 = .ok (.aload_n 0, 1) := by decide +kernel
theorem dL_sound_3 : decode cL_sound 3 = .ok (.iload_n 1, 1) := by decide +kernel
theorem dL_sound_4 : decode cL_sound 4 = .ok (.iload_n 2, 1) := by decide +kernel
theorem dL_sound_5 : decode cL_sound 5 = .ok (.invokevirtual 31, 3) := by decide +kernel
theorem dL_sound_8 : decode cL_sound 8 = .ok (.ifCond .eq 7, 3) := by decide +kernel
theorem dL_sound_11 : decode cL_sound 11 = .ok (.lconst 1, 1) := by decide +kernel
theorem dL_sound_12 : decode cL_sound 12 = .ok (.goto 4, 3) := by decide +kernel
theorem dL_sound_15 : decode cL_sound 15 = .ok (.lconst 0, 1) := by decide +kernel
theorem dL_sound_16 : decode cL_sound 16 = .ok (.lastore, 1) := by decide +kernel
theorem dL_sound_17 : decode cL_sound 17 = .ok (.goto 7, 3) := by decide +kernel
theorem dL_sound_20 : decode cL_sound 20 = .ok (.astore 4, 2) := by decide +kernel
theorem dL_sound_22 : decode cL_sound 22 = .ok (.iconst 1, 1) := by decide +kernel
theorem dL_sound_23 : decode cL_sound 23 = .ok (.ireturn, 1) := by decide +kernel
theorem dL_sound_24 : decode cL_sound 24 = .ok (.iconst 0, 1) := by decide +kernel
theorem dL_sound_25 : decode cL_sound 25 = .ok (.ireturn, 1) := by decide +kernel
theorem dL_own_0 : decode cL_own 0 = .ok (.aload_n 3, 1) := by decide +kernel
theorem dL_own_1 : decode cL_own 1 = .ok (.iconst 0, 1) := by decide +kernel
theorem dL_own_2 : decode cL_own 2 = .ok (.aload_n 0, 1) := by decide +kernel
theorem dL_own_3 : decode cL_own 3 = .ok (.iload_n 1, 1) := by decide +kernel
theorem dL_own_4 : decode cL_own 4 = .ok (.iload_n 2, 1) := by decide +kernel
theorem dL_own_5 : decode cL_own 5 = .ok (.invokevirtual 35, 3) := by decide +kernel
theorem dL_own_8 : decode cL_own 8 = .ok (.i2l, 1) := by decide +kernel
theorem dL_own_9 : decode cL_own 9 = .ok (.lastore, 1) := by decide +kernel
theorem dL_own_10 : decode cL_own 10 = .ok (.goto 11, 3) := by decide +kernel
theorem dL_own_13 : decode cL_own 13 = .ok (.astore 4, 2) := by decide +kernel
theorem dL_own_15 : decode cL_own 15 = .ok (.iconst 1, 1) := by decide +kernel
theorem dL_own_16 : decode cL_own 16 = .ok (.ireturn, 1) := by decide +kernel
theorem dL_own_17 : decode cL_own 17 = .ok (.astore 4, 2) := by decide +kernel
theorem dL_own_19 : decode cL_own 19 = .ok (.iconst 2, 1) := by decide +kernel
theorem dL_own_20 : decode cL_own 20 = .ok (.ireturn, 1) := by decide +kernel
theorem dL_own_21 : decode cL_own 21 = .ok (.iconst 0, 1) := by decide +kernel
theorem dL_own_22 : decode cL_own 22 = .ok (.ireturn, 1) := by decide +kernel
theorem dL_bar_0 : decode cL_bar 0 = .ok (.aload_n 1, 1) := by decide +kernel
theorem dL_bar_1 : decode cL_bar 1 = .ok (.iconst 0, 1) := by decide +kernel
theorem dL_bar_2 : decode cL_bar 2 = .ok (.aload_n 0, 1) := by decide +kernel
theorem dL_bar_3 : decode cL_bar 3 = .ok (.invokevirtual 38, 3) := by decide +kernel
theorem dL_bar_6 : decode cL_bar 6 = .ok (.i2l, 1) := by decide +kernel
theorem dL_bar_7 : decode cL_bar 7 = .ok (.lastore, 1) := by decide +kernel
theorem dL_bar_8 : decode cL_bar 8 = .ok (.goto 6, 3) := by decide +kernel
theorem dL_bar_11 : decode cL_bar 11 = .ok (.astore_n 2, 1) := by decide +kernel
theorem dL_bar_12 : decode cL_bar 12 = .ok (.iconst 1, 1) := by decide +kernel
theorem dL_bar_13 : decode cL_bar 13 = .ok (.ireturn, 1) := by decide +kernel
theorem dL_bar_14 : decode cL_bar 14 = .ok (.iconst 0, 1) := by decide +kernel
theorem dL_bar_15 : decode cL_bar 15 = .ok (.ireturn, 1) := by decide +kernel
theorem dL_ignore_0 : decode cL_ignore 0 = .ok (.aload_n 2, 1) := by decide +kernel
theorem dL_ignore_1 : decode cL_ignore 1 = .ok (.iconst 0, 1) := by decide +kernel
theorem dL_ignore_2 : decode cL_ignore 2 = .ok (.aload_n 0, 1) := by decide +kernel
theorem dL_ignore_3 : decode cL_ignore 3 = .ok (.iload_n 1, 1) := by decide +kernel
theorem dL_ignore_4 : decode cL_ignore 4 = .ok (.invokevirtual 42, 3) := by decide +kernel
theorem dL_ignore_7 : decode cL_ignore 7 = .ok (.i2l, 1) := by decide +kernel
theorem dL_ignore_8 : decode cL_ignore 8 = .ok (.lastore, 1) := by decide +kernel
theorem dL_ignore_9 : decode cL_ignore 9 = .ok (.goto 9, 3) := by decide +kernel
theorem dL_ignore_12 : decode cL_ignore 12 = .ok (.astore_n 3, 1) := by decide +kernel
theorem dL_ignore_13 : decode cL_ignore 13 = .ok (.iconst 1, 1) := by decide +kernel
theorem dL_ignore_14 : decode cL_ignore 14 = .ok (.ireturn, 1) := by decide +kernel
theorem dL_ignore_15 : decode cL_ignore 15 = .ok (.astore_n 3, 1) := by decide +kernel
theorem dL_ignore_16 : decode cL_ignore 16 = .ok (.iconst 2, 1) := by decide +kernel
theorem dL_ignore_17 : decode cL_ignore 17 = .ok (.ireturn, 1) := by decide +kernel
theorem dL_ignore_18 : decode cL_ignore 18 = .ok (.iconst 0, 1) := by decide +kernel
theorem dL_ignore_19 : decode cL_ignore 19 = .ok (.ireturn, 1) := by decide +kernel
theorem dL_tell_0 : decode cL_tell 0 = .ok (.aload 4, 2) := by decide +kernel
theorem dL_tell_2 : decode cL_tell 2 = .ok (.iconst 0, 1) := by decide +kernel
theorem dL_tell_3 : decode cL_tell 3 = .ok (.aload_n 0, 1) := by decide +kernel
theorem dL_tell_4 : decode cL_tell 4 = .ok (.iload_n 1, 1) := by decide +kernel
theorem dL_tell_5 : decode cL_tell 5 = .ok (.iload_n 2, 1) := by decide +kernel
theorem dL_tell_6 : decode cL_tell 6 = .ok (.iload_n 3, 1) := by decide +kernel
theorem dL_tell_7 : decode cL_tell 7 = .ok (.invokevirtual 46, 3) := by decide +kernel
theorem dL_tell_10 : decode cL_tell 10 = .ok (.i2l, 1) := by decide +kernel
theorem dL_tell_11 : decode cL_tell 11 = .ok (.lastore, 1) := by decide +kernel
theorem dL_tell_12 : decode cL_tell 12 = .ok (.goto 7, 3) := by decide +kernel
theorem dL_tell_15 : decode cL_tell 15 = .ok (.astore 5, 2) := by decide +kernel
theorem dL_tell_17 : decode cL_tell 17 = .ok (.iconst 1, 1) := by decide +kernel
theorem dL_tell_18 : decode cL_tell 18 = .ok (.ireturn, 1) := by decide +kernel
theorem dL_tell_19 : decode cL_tell 19 = .ok (.iconst 0, 1) := by decide +kernel
theorem dL_tell_20 : decode cL_tell 20 = .ok (.ireturn, 1) := by decide +kernel
theorem dL_item_0 : decode cL_item 0 = .ok (.aload_n 2, 1) := by decide +kernel
theorem dL_item_1 : decode cL_item 1 = .ok (.iconst 0, 1) := by decide +kernel
theorem dL_item_2 : decode cL_item 2 = .ok (.aload_n 0, 1) := by decide +kernel
theorem dL_item_3 : decode cL_item 3 = .ok (.iload_n 1, 1) := by decide +kernel
theorem dL_item_4 : decode cL_item 4 = .ok (.invokevirtual 50, 3) := by decide +kernel
theorem dL_item_7 : decode cL_item 7 = .ok (.i2l, 1) := by decide +kernel
theorem dL_item_8 : decode cL_item 8 = .ok (.lastore, 1) := by decide +kernel
theorem dL_item_9 : decode cL_item 9 = .ok (.goto 9, 3) := by decide +kernel
theorem dL_item_12 : decode cL_item 12 = .ok (.astore_n 3, 1) := by decide +kernel
theorem dL_item_13 : decode cL_item 13 = .ok (.iconst 1, 1) := by decide +kernel
theorem dL_item_14 : decode cL_item 14 = .ok (.ireturn, 1) := by decide +kernel
theorem dL_item_15 : decode cL_item 15 = .ok (.astore_n 3, 1) := by decide +kernel
theorem dL_item_16 : decode cL_item 16 = .ok (.iconst 2, 1) := by decide +kernel
theorem dL_item_17 : decode cL_item 17 = .ok (.ireturn, 1) := by decide +kernel
theorem dL_item_18 : decode cL_item 18 = .ok (.iconst 0, 1) := by decide +kernel
theorem dL_item_19 : decode cL_item 19 = .ok (.ireturn, 1) := by decide +kernel
theorem dL_style_0 : decode cL_style 0 = .ok (.aload_n 2, 1) := by decide +kernel
theorem dL_style_1 : decode cL_style 1 = .ok (.iconst 0, 1) := by decide +kernel
theorem dL_style_2 : decode cL_style 2 = .ok (.aload_n 0, 1) := by decide +kernel
theorem dL_style_3 : decode cL_style 3 = .ok (.iload_n 1, 1) := by decide +kernel
theorem dL_style_4 : decode cL_style 4 = .ok (.invokevirtual 53, 3) := by decide +kernel
theorem dL_style_7 : decode cL_style 7 = .ok (.i2l, 1) := by decide +kernel
theorem dL_style_8 : decode cL_style 8 = .ok (.lastore, 1) := by decide +kernel
theorem dL_style_9 : decode cL_style 9 = .ok (.goto 9, 3) := by decide +kernel
theorem dL_style_12 : decode cL_style 12 = .ok (.astore_n 3, 1) := by decide +kernel
theorem dL_style_13 : decode cL_style 13 = .ok (.iconst 1, 1) := by decide +kernel
theorem dL_style_14 : decode cL_style 14 = .ok (.ireturn, 1) := by decide +kernel
theorem dL_style_15 : decode cL_style 15 = .ok (.astore_n 3, 1) := by decide +kernel
theorem dL_style_16 : decode cL_style 16 = .ok (.iconst 2, 1) := by decide +kernel
theorem dL_style_17 : decode cL_style 17 = .ok (.ireturn, 1) := by decide +kernel
theorem dL_style_18 : decode cL_style 18 = .ok (.iconst 0, 1) := by decide +kernel
theorem dL_style_19 : decode cL_style 19 = .ok (.ireturn, 1) := by decide +kernel
theorem dL_put_0 : decode cL_put 0 = .ok (.aload_n 3, 1) := by decide +kernel
theorem dL_put_1 : decode cL_put 1 = .ok (.iconst 0, 1) := by decide +kernel
theorem dL_put_2 : decode cL_put 2 = .ok (.aload_n 0, 1) := by decide +kernel
theorem dL_put_3 : decode cL_put 3 = .ok (.iload_n 1, 1) := by decide +kernel
theorem dL_put_4 : decode cL_put 4 = .ok (.iload_n 2, 1) := by decide +kernel
theorem dL_put_5 : decode cL_put 5 = .ok (.invokevirtual 56, 3) := by decide +kernel
theorem dL_put_8 : decode cL_put 8 = .ok (.i2l, 1) := by decide +kernel
theorem dL_put_9 : decode cL_put 9 = .ok (.lastore, 1) := by decide +kernel
theorem dL_put_10 : decode cL_put 10 = .ok (.goto 15, 3) := by decide +kernel
theorem dL_put_13 : decode cL_put 13 = .ok (.astore 4, 2) := by decide +kernel
theorem dL_put_15 : decode cL_put 15 = .ok (.iconst 1, 1) := by decide +kernel
theorem dL_put_16 : decode cL_put 16 = .ok (.ireturn, 1) := by decide +kernel
theorem dL_put_17 : decode cL_put 17 = .ok (.astore 4, 2) := by decide +kernel
theorem dL_put_19 : decode cL_put 19 = .ok (.iconst 2, 1) := by decide +kernel
theorem dL_put_20 : decode cL_put 20 = .ok (.ireturn, 1) := by decide +kernel
theorem dL_put_21 : decode cL_put 21 = .ok (.astore 4, 2) := by decide +kernel
theorem dL_put_23 : decode cL_put 23 = .ok (.iconst 3, 1) := by decide +kernel
theorem dL_put_24 : decode cL_put 24 = .ok (.ireturn, 1) := by decide +kernel
theorem dL_put_25 : decode cL_put 25 = .ok (.iconst 0, 1) := by decide +kernel
theorem dL_put_26 : decode cL_put 26 = .ok (.ireturn, 1) := by decide +kernel
theorem dL_take_0 : decode cL_take 0 = .ok (.aload_n 2, 1) := by decide +kernel
theorem dL_take_1 : decode cL_take 1 = .ok (.iconst 0, 1) := by decide +kernel
theorem dL_take_2 : decode cL_take 2 = .ok (.aload_n 0, 1) := by decide +kernel
theorem dL_take_3 : decode cL_take 3 = .ok (.iload_n 1, 1) := by decide +kernel
theorem dL_take_4 : decode cL_take 4 = .ok (.invokevirtual 60, 3) := by decide +kernel
theorem dL_take_7 : decode cL_take 7 = .ok (.i2l, 1) := by decide +kernel
theorem dL_take_8 : decode cL_take 8 = .ok (.lastore, 1) := by decide +kernel
theorem dL_take_9 : decode cL_take 9 = .ok (.goto 6, 3) := by decide +kernel
theorem dL_take_12 : decode cL_take 12 = .ok (.astore_n 3, 1) := by decide +kernel
theorem dL_take_13 : decode cL_take 13 = .ok (.iconst 1, 1) := by decide +kernel
theorem dL_take_14 : decode cL_take 14 = .ok (.ireturn, 1) := by decide +kernel
theorem dL_take_15 : decode cL_take 15 = .ok (.iconst 0, 1) := by decide +kernel
theorem dL_take_16 : decode cL_take 16 = .ok (.ireturn, 1) := by decide +kernel
theorem dL_signAt_0 : decode cL_signAt 0 = .ok (.aload_n 2, 1) := by decide +kernel
theorem dL_signAt_1 : decode cL_signAt 1 = .ok (.iconst 0, 1) := by decide +kernel
theorem dL_signAt_2 : decode cL_signAt 2 = .ok (.aload_n 0, 1) := by decide +kernel
theorem dL_signAt_3 : decode cL_signAt 3 = .ok (.iload_n 1, 1) := by decide +kernel
theorem dL_signAt_4 : decode cL_signAt 4 = .ok (.invokevirtual 63, 3) := by decide +kernel
theorem dL_signAt_7 : decode cL_signAt 7 = .ok (.i2l, 1) := by decide +kernel
theorem dL_signAt_8 : decode cL_signAt 8 = .ok (.lastore, 1) := by decide +kernel
theorem dL_signAt_9 : decode cL_signAt 9 = .ok (.goto 6, 3) := by decide +kernel
theorem dL_signAt_12 : decode cL_signAt 12 = .ok (.astore_n 3, 1) := by decide +kernel
theorem dL_signAt_13 : decode cL_signAt 13 = .ok (.iconst 1, 1) := by decide +kernel
theorem dL_signAt_14 : decode cL_signAt 14 = .ok (.ireturn, 1) := by decide +kernel
theorem dL_signAt_15 : decode cL_signAt 15 = .ok (.iconst 0, 1) := by decide +kernel
theorem dL_signAt_16 : decode cL_signAt 16 = .ok (.ireturn, 1) := by decide +kernel
theorem dL_wordAt_0 : decode cL_wordAt 0 = .ok (.aload_n 2, 1) := by decide +kernel
theorem dL_wordAt_1 : decode cL_wordAt 1 = .ok (.iconst 0, 1) := by decide +kernel
theorem dL_wordAt_2 : decode cL_wordAt 2 = .ok (.aload_n 0, 1) := by decide +kernel
theorem dL_wordAt_3 : decode cL_wordAt 3 = .ok (.iload_n 1, 1) := by decide +kernel
theorem dL_wordAt_4 : decode cL_wordAt 4 = .ok (.invokevirtual 67, 3) := by decide +kernel
theorem dL_wordAt_7 : decode cL_wordAt 7 = .ok (.i2l, 1) := by decide +kernel
theorem dL_wordAt_8 : decode cL_wordAt 8 = .ok (.lastore, 1) := by decide +kernel
theorem dL_wordAt_9 : decode cL_wordAt 9 = .ok (.goto 6, 3) := by decide +kernel
theorem dL_wordAt_12 : decode cL_wordAt 12 = .ok (.astore_n 3, 1) := by decide +kernel
theorem dL_wordAt_13 : decode cL_wordAt 13 = .ok (.iconst 1, 1) := by decide +kernel
theorem dL_wordAt_14 : decode cL_wordAt 14 = .ok (.ireturn, 1) := by decide +kernel
theorem dL_wordAt_15 : decode cL_wordAt 15 = .ok (.iconst 0, 1) := by decide +kernel
theorem dL_wordAt_16 : decode cL_wordAt 16 = .ok (.ireturn, 1) := by decide +kernel
theorem dL_isRight_0 : decode cL_isRight 0 = .ok (.aload_n 2, 1) := by decide +kernel
theorem dL_isRight_1 : decode cL_isRight 1 = .ok (.iconst 0, 1) := by decide +kernel
theorem dL_isRight_2 : decode cL_isRight 2 = .ok (.aload_n 0, 1) := by decide +kernel
theorem dL_isRight_3 : decode cL_isRight 3 = .ok (.iload_n 1, 1) := by decide +kernel
theorem dL_isRight_4 : decode cL_isRight 4 = .ok (.invokevirtual 70, 3) := by decide +kernel
theorem dL_isRight_7 : decode cL_isRight 7 = .ok (.ifCond .eq 7, 3) := by decide +kernel
theorem dL_isRight_10 : decode cL_isRight 10 = .ok (.lconst 1, 1) := by decide +kernel
theorem dL_isRight_11 : decode cL_isRight 11 = .ok (.goto 4, 3) := by decide +kernel
theorem dL_isRight_14 : decode cL_isRight 14 = .ok (.lconst 0, 1) := by decide +kernel
theorem dL_isRight_15 : decode cL_isRight 15 = .ok (.lastore, 1) := by decide +kernel
theorem dL_isRight_16 : decode cL_isRight 16 = .ok (.goto 6, 3) := by decide +kernel
theorem dL_isRight_19 : decode cL_isRight 19 = .ok (.astore_n 3, 1) := by decide +kernel
theorem dL_isRight_20 : decode cL_isRight 20 = .ok (.iconst 1, 1) := by decide +kernel
theorem dL_isRight_21 : decode cL_isRight 21 = .ok (.ireturn, 1) := by decide +kernel
theorem dL_isRight_22 : decode cL_isRight 22 = .ok (.iconst 0, 1) := by decide +kernel
theorem dL_isRight_23 : decode cL_isRight 23 = .ok (.ireturn, 1) := by decide +kernel
theorem dL_readings_0 : decode cL_readings 0 = .ok (.aload_n 2, 1) := by decide +kernel
theorem dL_readings_1 : decode cL_readings 1 = .ok (.iconst 0, 1) := by decide +kernel
theorem dL_readings_2 : decode cL_readings 2 = .ok (.aload_n 0, 1) := by decide +kernel
theorem dL_readings_3 : decode cL_readings 3 = .ok (.iload_n 1, 1) := by decide +kernel
theorem dL_readings_4 : decode cL_readings 4 = .ok (.invokevirtual 74, 3) := by decide +kernel
theorem dL_readings_7 : decode cL_readings 7 = .ok (.i2l, 1) := by decide +kernel
theorem dL_readings_8 : decode cL_readings 8 = .ok (.lastore, 1) := by decide +kernel
theorem dL_readings_9 : decode cL_readings 9 = .ok (.goto 6, 3) := by decide +kernel
theorem dL_readings_12 : decode cL_readings 12 = .ok (.astore_n 3, 1) := by decide +kernel
theorem dL_readings_13 : decode cL_readings 13 = .ok (.iconst 1, 1) := by decide +kernel
theorem dL_readings_14 : decode cL_readings 14 = .ok (.ireturn, 1) := by decide +kernel
theorem dL_readings_15 : decode cL_readings 15 = .ok (.iconst 0, 1) := by decide +kernel
theorem dL_readings_16 : decode cL_readings 16 = .ok (.ireturn, 1) := by decide +kernel
theorem dL_reading_0 : decode cL_reading 0 = .ok (.aload_n 2, 1) := by decide +kernel
theorem dL_reading_1 : decode cL_reading 1 = .ok (.iconst 0, 1) := by decide +kernel
theorem dL_reading_2 : decode cL_reading 2 = .ok (.aload_n 0, 1) := by decide +kernel
theorem dL_reading_3 : decode cL_reading 3 = .ok (.iload_n 1, 1) := by decide +kernel
theorem dL_reading_4 : decode cL_reading 4 = .ok (.invokevirtual 77, 3) := by decide +kernel
theorem dL_reading_7 : decode cL_reading 7 = .ok (.i2l, 1) := by decide +kernel
theorem dL_reading_8 : decode cL_reading 8 = .ok (.lastore, 1) := by decide +kernel
theorem dL_reading_9 : decode cL_reading 9 = .ok (.goto 6, 3) := by decide +kernel
theorem dL_reading_12 : decode cL_reading 12 = .ok (.astore_n 3, 1) := by decide +kernel
theorem dL_reading_13 : decode cL_reading 13 = .ok (.iconst 1, 1) := by decide +kernel
theorem dL_reading_14 : decode cL_reading 14 = .ok (.ireturn, 1) := by decide +kernel
theorem dL_reading_15 : decode cL_reading 15 = .ok (.iconst 0, 1) := by decide +kernel
theorem dL_reading_16 : decode cL_reading 16 = .ok (.ireturn, 1) := by decide +kernel
theorem dL_split_0 : decode cL_split 0 = .ok (.aload_n 2, 1) := by decide +kernel
theorem dL_split_1 : decode cL_split 1 = .ok (.iconst 0, 1) := by decide +kernel
theorem dL_split_2 : decode cL_split 2 = .ok (.aload_n 0, 1) := by decide +kernel
theorem dL_split_3 : decode cL_split 3 = .ok (.iload_n 1, 1) := by decide +kernel
theorem dL_split_4 : decode cL_split 4 = .ok (.invokevirtual 80, 3) := by decide +kernel
theorem dL_split_7 : decode cL_split 7 = .ok (.i2l, 1) := by decide +kernel
theorem dL_split_8 : decode cL_split 8 = .ok (.lastore, 1) := by decide +kernel
theorem dL_split_9 : decode cL_split 9 = .ok (.goto 6, 3) := by decide +kernel
theorem dL_split_12 : decode cL_split 12 = .ok (.astore_n 3, 1) := by decide +kernel
theorem dL_split_13 : decode cL_split 13 = .ok (.iconst 1, 1) := by decide +kernel
theorem dL_split_14 : decode cL_split 14 = .ok (.ireturn, 1) := by decide +kernel
theorem dL_split_15 : decode cL_split 15 = .ok (.iconst 0, 1) := by decide +kernel
theorem dL_split_16 : decode cL_split 16 = .ok (.ireturn, 1) := by decide +kernel
theorem dL_mistakeKind_0 : decode cL_mistakeKind 0 = .ok (.aload_n 2, 1) := by decide +kernel
theorem dL_mistakeKind_1 : decode cL_mistakeKind 1 = .ok (.iconst 0, 1) := by decide +kernel
theorem dL_mistakeKind_2 : decode cL_mistakeKind 2 = .ok (.aload_n 0, 1) := by decide +kernel
theorem dL_mistakeKind_3 : decode cL_mistakeKind 3 = .ok (.iload_n 1, 1) := by decide +kernel
theorem dL_mistakeKind_4 : decode cL_mistakeKind 4 = .ok (.invokevirtual 83, 3) := by decide +kernel
theorem dL_mistakeKind_7 : decode cL_mistakeKind 7 = .ok (.i2l, 1) := by decide +kernel
theorem dL_mistakeKind_8 : decode cL_mistakeKind 8 = .ok (.lastore, 1) := by decide +kernel
theorem dL_mistakeKind_9 : decode cL_mistakeKind 9 = .ok (.goto 6, 3) := by decide +kernel
theorem dL_mistakeKind_12 : decode cL_mistakeKind 12 = .ok (.astore_n 3, 1) := by decide +kernel
theorem dL_mistakeKind_13 : decode cL_mistakeKind 13 = .ok (.iconst 1, 1) := by decide +kernel
theorem dL_mistakeKind_14 : decode cL_mistakeKind 14 = .ok (.ireturn, 1) := by decide +kernel
theorem dL_mistakeKind_15 : decode cL_mistakeKind 15 = .ok (.iconst 0, 1) := by decide +kernel
theorem dL_mistakeKind_16 : decode cL_mistakeKind 16 = .ok (.ireturn, 1) := by decide +kernel
theorem dL_mistakeAt_0 : decode cL_mistakeAt 0 = .ok (.aload_n 2, 1) := by decide +kernel
theorem dL_mistakeAt_1 : decode cL_mistakeAt 1 = .ok (.iconst 0, 1) := by decide +kernel
theorem dL_mistakeAt_2 : decode cL_mistakeAt 2 = .ok (.aload_n 0, 1) := by decide +kernel
theorem dL_mistakeAt_3 : decode cL_mistakeAt 3 = .ok (.iload_n 1, 1) := by decide +kernel
theorem dL_mistakeAt_4 : decode cL_mistakeAt 4 = .ok (.invokevirtual 86, 3) := by decide +kernel
theorem dL_mistakeAt_7 : decode cL_mistakeAt 7 = .ok (.i2l, 1) := by decide +kernel
theorem dL_mistakeAt_8 : decode cL_mistakeAt 8 = .ok (.lastore, 1) := by decide +kernel
theorem dL_mistakeAt_9 : decode cL_mistakeAt 9 = .ok (.goto 6, 3) := by decide +kernel
theorem dL_mistakeAt_12 : decode cL_mistakeAt 12 = .ok (.astore_n 3, 1) := by decide +kernel
theorem dL_mistakeAt_13 : decode cL_mistakeAt 13 = .ok (.iconst 1, 1) := by decide +kernel
theorem dL_mistakeAt_14 : decode cL_mistakeAt 14 = .ok (.ireturn, 1) := by decide +kernel
theorem dL_mistakeAt_15 : decode cL_mistakeAt 15 = .ok (.iconst 0, 1) := by decide +kernel
theorem dL_mistakeAt_16 : decode cL_mistakeAt 16 = .ok (.ireturn, 1) := by decide +kernel
theorem dL_suggestions_0 : decode cL_suggestions 0 = .ok (.aload_n 2, 1) := by decide +kernel
theorem dL_suggestions_1 : decode cL_suggestions 1 = .ok (.iconst 0, 1) := by decide +kernel
theorem dL_suggestions_2 : decode cL_suggestions 2 = .ok (.aload_n 0, 1) := by decide +kernel
theorem dL_suggestions_3 : decode cL_suggestions 3 = .ok (.iload_n 1, 1) := by decide +kernel
theorem dL_suggestions_4 : decode cL_suggestions 4 = .ok (.invokevirtual 89, 3) := by decide +kernel
theorem dL_suggestions_7 : decode cL_suggestions 7 = .ok (.i2l, 1) := by decide +kernel
theorem dL_suggestions_8 : decode cL_suggestions 8 = .ok (.lastore, 1) := by decide +kernel
theorem dL_suggestions_9 : decode cL_suggestions 9 = .ok (.goto 6, 3) := by decide +kernel
theorem dL_suggestions_12 : decode cL_suggestions 12 = .ok (.astore_n 3, 1) := by decide +kernel
theorem dL_suggestions_13 : decode cL_suggestions 13 = .ok (.iconst 1, 1) := by decide +kernel
theorem dL_suggestions_14 : decode cL_suggestions 14 = .ok (.ireturn, 1) := by decide +kernel
theorem dL_suggestions_15 : decode cL_suggestions 15 = .ok (.iconst 0, 1) := by decide +kernel
theorem dL_suggestions_16 : decode cL_suggestions 16 = .ok (.ireturn, 1) := by decide +kernel
theorem dL_suggestionsByAll_0 : decode cL_suggestionsByAll 0 = .ok (.aload_n 2, 1) := by decide +kernel
theorem dL_suggestionsByAll_1 : decode cL_suggestionsByAll 1 = .ok (.iconst 0, 1) := by decide +kernel
theorem dL_suggestionsByAll_2 : decode cL_suggestionsByAll 2 = .ok (.aload_n 0, 1) := by decide +kernel
theorem dL_suggestionsByAll_3 : decode cL_suggestionsByAll 3 = .ok (.iload_n 1, 1) := by decide +kernel
theorem dL_suggestionsByAll_4 : decode cL_suggestionsByAll 4 = .ok (.invokevirtual 92, 3) := by decide +kernel
theorem dL_suggestionsByAll_7 : decode cL_suggestionsByAll 7 = .ok (.i2l, 1) := by decide +kernel
theorem dL_suggestionsByAll_8 : decode cL_suggestionsByAll 8 = .ok (.lastore, 1) := by decide +kernel
theorem dL_suggestionsByAll_9 : decode cL_suggestionsByAll 9 = .ok (.goto 6, 3) := by decide +kernel
theorem dL_suggestionsByAll_12 : decode cL_suggestionsByAll 12 = .ok (.astore_n 3, 1) := by decide +kernel
theorem dL_suggestionsByAll_13 : decode cL_suggestionsByAll 13 = .ok (.iconst 1, 1) := by decide +kernel
theorem dL_suggestionsByAll_14 : decode cL_suggestionsByAll 14 = .ok (.ireturn, 1) := by decide +kernel
theorem dL_suggestionsByAll_15 : decode cL_suggestionsByAll 15 = .ok (.iconst 0, 1) := by decide +kernel
theorem dL_suggestionsByAll_16 : decode cL_suggestionsByAll 16 = .ok (.ireturn, 1) := by decide +kernel
theorem dL_cost_0 : decode cL_cost 0 = .ok (.aload_n 3, 1) := by decide +kernel
theorem dL_cost_1 : decode cL_cost 1 = .ok (.iconst 0, 1) := by decide +kernel
theorem dL_cost_2 : decode cL_cost 2 = .ok (.aload_n 0, 1) := by decide +kernel
theorem dL_cost_3 : decode cL_cost 3 = .ok (.iload_n 1, 1) := by decide +kernel
theorem dL_cost_4 : decode cL_cost 4 = .ok (.iload_n 2, 1) := by decide +kernel
theorem dL_cost_5 : decode cL_cost 5 = .ok (.invokevirtual 95, 3) := by decide +kernel
theorem dL_cost_8 : decode cL_cost 8 = .ok (.i2l, 1) := by decide +kernel
theorem dL_cost_9 : decode cL_cost 9 = .ok (.lastore, 1) := by decide +kernel
theorem dL_cost_10 : decode cL_cost 10 = .ok (.goto 7, 3) := by decide +kernel
theorem dL_cost_13 : decode cL_cost 13 = .ok (.astore 4, 2) := by decide +kernel
theorem dL_cost_15 : decode cL_cost 15 = .ok (.iconst 1, 1) := by decide +kernel
theorem dL_cost_16 : decode cL_cost 16 = .ok (.ireturn, 1) := by decide +kernel
theorem dL_cost_17 : decode cL_cost 17 = .ok (.iconst 0, 1) := by decide +kernel
theorem dL_cost_18 : decode cL_cost 18 = .ok (.ireturn, 1) := by decide +kernel
theorem dL_suggested_0 : decode cL_suggested 0 = .ok (.aload 4, 2) := by decide +kernel
theorem dL_suggested_2 : decode cL_suggested 2 = .ok (.iconst 0, 1) := by decide +kernel
theorem dL_suggested_3 : decode cL_suggested 3 = .ok (.aload_n 0, 1) := by decide +kernel
theorem dL_suggested_4 : decode cL_suggested 4 = .ok (.iload_n 1, 1) := by decide +kernel
theorem dL_suggested_5 : decode cL_suggested 5 = .ok (.iload_n 2, 1) := by decide +kernel
theorem dL_suggested_6 : decode cL_suggested 6 = .ok (.iload_n 3, 1) := by decide +kernel
theorem dL_suggested_7 : decode cL_suggested 7 = .ok (.invokevirtual 98, 3) := by decide +kernel
theorem dL_suggested_10 : decode cL_suggested 10 = .ok (.i2l, 1) := by decide +kernel
theorem dL_suggested_11 : decode cL_suggested 11 = .ok (.lastore, 1) := by decide +kernel
theorem dL_suggested_12 : decode cL_suggested 12 = .ok (.goto 7, 3) := by decide +kernel
theorem dL_suggested_15 : decode cL_suggested 15 = .ok (.astore 5, 2) := by decide +kernel
theorem dL_suggested_17 : decode cL_suggested 17 = .ok (.iconst 1, 1) := by decide +kernel
theorem dL_suggested_18 : decode cL_suggested 18 = .ok (.ireturn, 1) := by decide +kernel
theorem dL_suggested_19 : decode cL_suggested 19 = .ok (.iconst 0, 1) := by decide +kernel
theorem dL_suggested_20 : decode cL_suggested 20 = .ok (.ireturn, 1) := by decide +kernel
