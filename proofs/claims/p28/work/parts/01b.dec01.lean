theorem dX7_addCell_5 : decode cX7_addCell 5 = .ok (.getfield 20, 3) := by decide +kernel
theorem dX7_addCell_8 : decode cX7_addCell 8 = .ok (.arraylength, 1) := by decide +kernel
theorem dX7_addCell_9 : decode cX7_addCell 9 = .ok (.if_icmp .ge 35, 3) := by decide +kernel
theorem dX7_addCell_12 : decode cX7_addCell 12 = .ok (.aload_n 0, 1) := by decide +kernel
theorem dX7_addCell_13 : decode cX7_addCell 13 = .ok (.getfield 20, 3) := by decide +kernel
theorem dX7_addCell_16 : decode cX7_addCell 16 = .ok (.aload_n 0, 1) := by decide +kernel
theorem dX7_addCell_17 : decode cX7_addCell 17 = .ok (.getfield 31, 3) := by decide +kernel
theorem dX7_addCell_20 : decode cX7_addCell 20 = .ok (.iload_n 1, 1) := by decide +kernel
theorem dX7_addCell_21 : decode cX7_addCell 21 = .ok (.iastore, 1) := by decide +kernel
theorem dX7_addCell_22 : decode cX7_addCell 22 = .ok (.aload_n 0, 1) := by decide +kernel
theorem dX7_addCell_23 : decode cX7_addCell 23 = .ok (.dup, 1) := by decide +kernel
theorem dX7_addCell_24 : decode cX7_addCell 24 = .ok (.getfield 31, 3) := by decide +kernel
theorem dX7_addCell_27 : decode cX7_addCell 27 = .ok (.iconst 1, 1) := by decide +kernel
theorem dX7_addCell_28 : decode cX7_addCell 28 = .ok (.iadd, 1) := by decide +kernel
theorem dX7_addCell_29 : decode cX7_addCell 29 = .ok (.putfield 31, 3) := by decide +kernel
theorem dX7_addCell_32 : decode cX7_addCell 32 = .ok (.aload_n 0, 1) := by decide +kernel
theorem dX7_addCell_33 : decode cX7_addCell 33 = .ok (.dup, 1) := by decide +kernel
theorem dX7_addCell_34 : decode cX7_addCell 34 = .ok (.getfield 34, 3) := by decide +kernel
theorem dX7_addCell_37 : decode cX7_addCell 37 = .ok (.iconst 1, 1) := by decide +kernel
theorem dX7_addCell_38 : decode cX7_addCell 38 = .ok (.iload_n 1, 1) := by decide +kernel
theorem dX7_addCell_39 : decode cX7_addCell 39 = .ok (.ishl, 1) := by decide +kernel
theorem dX7_addCell_40 : decode cX7_addCell 40 = .ok (.ior, 1) := by decide +kernel
theorem dX7_addCell_41 : decode cX7_addCell 41 = .ok (.putfield 34, 3) := by decide +kernel
theorem dX7_addCell_44 : decode cX7_addCell 44 = .ok (.return_, 1) := by decide +kernel
theorem dX7_hasCell_0 : decode cX7_hasCell 0 = .ok (.aload_n 0, 1) := by decide +kernel
theorem dX7_hasCell_1 : decode cX7_hasCell 1 = .ok (.getfield 34, 3) := by decide +kernel
theorem dX7_hasCell_4 : decode cX7_hasCell 4 = .ok (.iload_n 1, 1) := by decide +kernel
theorem dX7_hasCell_5 : decode cX7_hasCell 5 = .ok (.ishr, 1) := by decide +kernel
theorem dX7_hasCell_6 : decode cX7_hasCell 6 = .ok (.iconst 1, 1) := by decide +kernel
theorem dX7_hasCell_7 : decode cX7_hasCell 7 = .ok (.iand, 1) := by decide +kernel
theorem dX7_hasCell_8 : decode cX7_hasCell 8 = .ok (.ifCond .eq 7, 3) := by decide +kernel
theorem dX7_hasCell_11 : decode cX7_hasCell 11 = .ok (.iconst 1, 1) := by decide +kernel
theorem dX7_hasCell_12 : decode cX7_hasCell 12 = .ok (.goto 4, 3) := by decide +kernel
theorem dX7_hasCell_15 : decode cX7_hasCell 15 = .ok (.iconst 0, 1) := by decide +kernel
theorem dX7_hasCell_16 : decode cX7_hasCell 16 = .ok (.ireturn, 1) := by decide +kernel
theorem dX7_isGivenOf_0 : decode cX7_isGivenOf 0 = .ok (.aload_n 0, 1) := by decide +kernel
theorem dX7_isGivenOf_1 : decode cX7_isGivenOf 1 = .ok (.getfield 15, 3) := by decide +kernel
theorem dX7_isGivenOf_4 : decode cX7_isGivenOf 4 = .ok (.getstatic 37, 3) := by decide +kernel
theorem dX7_isGivenOf_7 : decode cX7_isGivenOf 7 = .ok (.if_acmp .ne 15, 3) := by decide +kernel
theorem dX7_isGivenOf_10 : decode cX7_isGivenOf 10 = .ok (.aload_n 0, 1) := by decide +kernel
theorem dX7_isGivenOf_11 : decode cX7_isGivenOf 11 = .ok (.iload_n 1, 1) := by decide +kernel
theorem dX7_isGivenOf_12 : decode cX7_isGivenOf 12 = .ok (.invokevirtual 40, 3) := by decide +kernel
theorem dX7_isGivenOf_15 : decode cX7_isGivenOf 15 = .ok (.ifCond .eq 7, 3) := by decide +kernel
theorem dX7_isGivenOf_18 : decode cX7_isGivenOf 18 = .ok (.iconst 1, 1) := by decide +kernel
theorem dX7_isGivenOf_19 : decode cX7_isGivenOf 19 = .ok (.goto 4, 3) := by decide +kernel
theorem dX7_isGivenOf_22 : decode cX7_isGivenOf 22 = .ok (.iconst 0, 1) := by decide +kernel
theorem dX7_isGivenOf_23 : decode cX7_isGivenOf 23 = .ok (.ireturn, 1) := by decide +kernel
theorem dX7_cellOrNone_0 : decode cX7_cellOrNone 0 = .ok (.iload_n 1, 1) := by decide +kernel
theorem dX7_cellOrNone_1 : decode cX7_cellOrNone 1 = .ok (.ifCond .lt 20, 3) := by decide +kernel
theorem dX7_cellOrNone_4 : decode cX7_cellOrNone 4 = .ok (.iload_n 1, 1) := by decide +kernel
theorem dX7_cellOrNone_5 : decode cX7_cellOrNone 5 = .ok (.aload_n 0, 1) := by decide +kernel
theorem dX7_cellOrNone_6 : decode cX7_cellOrNone 6 = .ok (.getfield 31, 3) := by decide +kernel
theorem dX7_cellOrNone_9 : decode cX7_cellOrNone 9 = .ok (.if_icmp .ge 12, 3) := by decide +kernel
theorem dX7_cellOrNone_12 : decode cX7_cellOrNone 12 = .ok (.aload_n 0, 1) := by decide +kernel
theorem dX7_cellOrNone_13 : decode cX7_cellOrNone 13 = .ok (.getfield 20, 3) := by decide +kernel
theorem dX7_cellOrNone_16 : decode cX7_cellOrNone 16 = .ok (.iload_n 1, 1) := by decide +kernel
theorem dX7_cellOrNone_17 : decode cX7_cellOrNone 17 = .ok (.iaload, 1) := by decide +kernel
theorem dX7_cellOrNone_18 : decode cX7_cellOrNone 18 = .ok (.goto 4, 3) := by decide +kernel
theorem dX7_cellOrNone_21 : decode cX7_cellOrNone 21 = .ok (.iconst (-1), 1) := by decide +kernel
theorem dX7_cellOrNone_22 : decode cX7_cellOrNone 22 = .ok (.ireturn, 1) := by decide +kernel
theorem dX7_takeParts_0 : decode cX7_takeParts 0 = .ok (.aload_n 0, 1) := by decide +kernel
theorem dX7_takeParts_1 : decode cX7_takeParts 1 = .ok (.aload_n 1, 1) := by decide +kernel
theorem dX7_takeParts_2 : decode cX7_takeParts 2 = .ok (.getfield 24, 3) := by decide +kernel
theorem dX7_takeParts_5 : decode cX7_takeParts 5 = .ok (.putfield 24, 3) := by decide +kernel
theorem dX7_takeParts_8 : decode cX7_takeParts 8 = .ok (.aload_n 0, 1) := by decide +kernel
theorem dX7_takeParts_9 : decode cX7_takeParts 9 = .ok (.aload_n 1, 1) := by decide +kernel
theorem dX7_takeParts_10 : decode cX7_takeParts 10 = .ok (.getfield 28, 3) := by decide +kernel
theorem dX7_takeParts_13 : decode cX7_takeParts 13 = .ok (.putfield 28, 3) := by decide +kernel
theorem dX7_takeParts_16 : decode cX7_takeParts 16 = .ok (.iconst 0, 1) := by decide +kernel
theorem dX7_takeParts_17 : decode cX7_takeParts 17 = .ok (.istore_n 2, 1) := by decide +kernel
theorem dX7_takeParts_18 : decode cX7_takeParts 18 = .ok (.iload_n 2, 1) := by decide +kernel
theorem dX7_takeParts_19 : decode cX7_takeParts 19 = .ok (.aload_n 1, 1) := by decide +kernel
theorem dX7_takeParts_20 : decode cX7_takeParts 20 = .ok (.getfield 31, 3) := by decide +kernel
theorem dX7_takeParts_23 : decode cX7_takeParts 23 = .ok (.if_icmp .ge 19, 3) := by decide +kernel
theorem dX7_takeParts_26 : decode cX7_takeParts 26 = .ok (.aload_n 0, 1) := by decide +kernel
theorem dX7_takeParts_27 : decode cX7_takeParts 27 = .ok (.aload_n 1, 1) := by decide +kernel
theorem dX7_takeParts_28 : decode cX7_takeParts 28 = .ok (.getfield 20, 3) := by decide +kernel
theorem dX7_takeParts_31 : decode cX7_takeParts 31 = .ok (.iload_n 2, 1) := by decide +kernel
theorem dX7_takeParts_32 : decode cX7_takeParts 32 = .ok (.iaload, 1) := by decide +kernel
theorem dX7_takeParts_33 : decode cX7_takeParts 33 = .ok (.invokevirtual 44, 3) := by decide +kernel
theorem dX7_takeParts_36 : decode cX7_takeParts 36 = .ok (.iinc 2 1, 3) := by decide +kernel
theorem dX7_takeParts_39 : decode cX7_takeParts 39 = .ok (.goto (-21), 3) := by decide +kernel
theorem dX7_takeParts_42 : decode cX7_takeParts 42 = .ok (.return_, 1) := by decide +kernel
theorem dX7_moveCells_0 : decode cX7_moveCells 0 = .ok (.aload_n 0, 1) := by decide +kernel
theorem dX7_moveCells_1 : decode cX7_moveCells 1 = .ok (.iconst 0, 1) := by decide +kernel
theorem dX7_moveCells_2 : decode cX7_moveCells 2 = .ok (.putfield 34, 3) := by decide +kernel
theorem dX7_moveCells_5 : decode cX7_moveCells 5 = .ok (.iconst 0, 1) := by decide +kernel
theorem dX7_moveCells_6 : decode cX7_moveCells 6 = .ok (.istore_n 2, 1) := by decide +kernel
theorem dX7_moveCells_7 : decode cX7_moveCells 7 = .ok (.iload_n 2, 1) := by decide +kernel
theorem dX7_moveCells_8 : decode cX7_moveCells 8 = .ok (.aload_n 0, 1) := by decide +kernel
theorem dX7_moveCells_9 : decode cX7_moveCells 9 = .ok (.getfield 31, 3) := by decide +kernel
theorem dX7_moveCells_12 : decode cX7_moveCells 12 = .ok (.if_icmp .ge 40, 3) := by decide +kernel
theorem dX7_moveCells_15 : decode cX7_moveCells 15 = .ok (.aload_n 0, 1) := by decide +kernel
theorem dX7_moveCells_16 : decode cX7_moveCells 16 = .ok (.getfield 20, 3) := by decide +kernel
theorem dX7_moveCells_19 : decode cX7_moveCells 19 = .ok (.iload_n 2, 1) := by decide +kernel
theorem dX7_moveCells_20 : decode cX7_moveCells 20 = .ok (.aload_n 1, 1) := by decide +kernel
theorem dX7_moveCells_21 : decode cX7_moveCells 21 = .ok (.aload_n 0, 1) := by decide +kernel
theorem dX7_moveCells_22 : decode cX7_moveCells 22 = .ok (.getfield 20, 3) := by decide +kernel
theorem dX7_moveCells_25 : decode cX7_moveCells 25 = .ok (.iload_n 2, 1) := by decide +kernel
theorem dX7_moveCells_26 : decode cX7_moveCells 26 = .ok (.iaload, 1) := by decide +kernel
theorem dX7_moveCells_27 : decode cX7_moveCells 27 = .ok (.iaload, 1) := by decide +kernel
theorem dX7_moveCells_28 : decode cX7_moveCells 28 = .ok (.iastore, 1) := by decide +kernel
theorem dX7_moveCells_29 : decode cX7_moveCells 29 = .ok (.aload_n 0, 1) := by decide +kernel
theorem dX7_moveCells_30 : decode cX7_moveCells 30 = .ok (.dup, 1) := by decide +kernel
theorem dX7_moveCells_31 : decode cX7_moveCells 31 = .ok (.getfield 34, 3) := by decide +kernel
theorem dX7_moveCells_34 : decode cX7_moveCells 34 = .ok (.iconst 1, 1) := by decide +kernel
theorem dX7_moveCells_35 : decode cX7_moveCells 35 = .ok (.aload_n 0, 1) := by decide +kernel
theorem dX7_moveCells_36 : decode cX7_moveCells 36 = .ok (.getfield 20, 3) := by decide +kernel
theorem dX7_moveCells_39 : decode cX7_moveCells 39 = .ok (.iload_n 2, 1) := by decide +kernel
theorem dX7_moveCells_40 : decode cX7_moveCells 40 = .ok (.iaload, 1) := by decide +kernel
theorem dX7_moveCells_41 : decode cX7_moveCells 41 = .ok (.ishl, 1) := by decide +kernel
theorem dX7_moveCells_42 : decode cX7_moveCells 42 = .ok (.ior, 1) := by decide +kernel
theorem dX7_moveCells_43 : decode cX7_moveCells 43 = .ok (.putfield 34, 3) := by decide +kernel
theorem dX7_moveCells_46 : decode cX7_moveCells 46 = .ok (.iinc 2 1, 3) := by decide +kernel
theorem dX7_moveCells_49 : decode cX7_moveCells 49 = .ok (.goto (-42), 3) := by decide +kernel
theorem dX7_moveCells_52 : decode cX7_moveCells 52 = .ok (.return_, 1) := by decide +kernel
theorem dX7_isBroken_0 : decode cX7_isBroken 0 = .ok (.getstatic 48, 3) := by decide +kernel
theorem dX7_isBroken_3 : decode cX7_isBroken 3 = .ok (.aload_n 0, 1) := by decide +kernel
theorem dX7_isBroken_4 : decode cX7_isBroken 4 = .ok (.getfield 15, 3) := by decide +kernel
theorem dX7_isBroken_7 : decode cX7_isBroken 7 = .ok (.invokevirtual 53, 3) := by decide +kernel
theorem dX7_isBroken_10 : decode cX7_isBroken 10 = .ok (.iaload, 1) := by decide +kernel
theorem dX7_isBroken_11 : decode cX7_isBroken 11 = .ok (.tableswitch 121 1 11 #[57, 64, 71, 77, 77, 83, 89, 96, 103, 109, 115], 57) := by decide +kernel
theorem dX7_isBroken_68 : decode cX7_isBroken 68 = .ok (.aload_n 0, 1) := by decide +kernel
theorem dX7_isBroken_69 : decode cX7_isBroken 69 = .ok (.aload_n 1, 1) := by decide +kernel
theorem dX7_isBroken_70 : decode cX7_isBroken 70 = .ok (.iconst 1, 1) := by decide +kernel
theorem dX7_isBroken_71 : decode cX7_isBroken 71 = .ok (.invokevirtual 57, 3) := by decide +kernel
theorem dX7_isBroken_74 : decode cX7_isBroken 74 = .ok (.ireturn, 1) := by decide +kernel
theorem dX7_isBroken_75 : decode cX7_isBroken 75 = .ok (.aload_n 0, 1) := by decide +kernel
theorem dX7_isBroken_76 : decode cX7_isBroken 76 = .ok (.aload_n 1, 1) := by decide +kernel
theorem dX7_isBroken_77 : decode cX7_isBroken 77 = .ok (.iload_n 2, 1) := by decide +kernel
theorem dX7_isBroken_78 : decode cX7_isBroken 78 = .ok (.invokevirtual 61, 3) := by decide +kernel
theorem dX7_isBroken_81 : decode cX7_isBroken 81 = .ok (.ireturn, 1) := by decide +kernel
theorem dX7_isBroken_82 : decode cX7_isBroken 82 = .ok (.aload_n 0, 1) := by decide +kernel
theorem dX7_isBroken_83 : decode cX7_isBroken 83 = .ok (.aload_n 1, 1) := by decide +kernel
theorem dX7_isBroken_84 : decode cX7_isBroken 84 = .ok (.invokevirtual 65, 3) := by decide +kernel
theorem dX7_isBroken_87 : decode cX7_isBroken 87 = .ok (.ireturn, 1) := by decide +kernel
theorem dX7_isBroken_88 : decode cX7_isBroken 88 = .ok (.aload_n 0, 1) := by decide +kernel
theorem dX7_isBroken_89 : decode cX7_isBroken 89 = .ok (.aload_n 1, 1) := by decide +kernel
theorem dX7_isBroken_90 : decode cX7_isBroken 90 = .ok (.invokevirtual 69, 3) := by decide +kernel
theorem dX7_isBroken_93 : decode cX7_isBroken 93 = .ok (.ireturn, 1) := by decide +kernel
theorem dX7_isBroken_94 : decode cX7_isBroken 94 = .ok (.aload_n 0, 1) := by decide +kernel
theorem dX7_isBroken_95 : decode cX7_isBroken 95 = .ok (.aload_n 1, 1) := by decide +kernel
theorem dX7_isBroken_96 : decode cX7_isBroken 96 = .ok (.invokevirtual 72, 3) := by decide +kernel
theorem dX7_isBroken_99 : decode cX7_isBroken 99 = .ok (.ireturn, 1) := by decide +kernel
theorem dX7_isBroken_100 : decode cX7_isBroken 100 = .ok (.aload_n 0, 1) := by decide +kernel
theorem dX7_isBroken_101 : decode cX7_isBroken 101 = .ok (.aload_n 1, 1) := by decide +kernel
theorem dX7_isBroken_102 : decode cX7_isBroken 102 = .ok (.iconst 0, 1) := by decide +kernel
theorem dX7_isBroken_103 : decode cX7_isBroken 103 = .ok (.invokevirtual 75, 3) := by decide +kernel
theorem dX7_isBroken_106 : decode cX7_isBroken 106 = .ok (.ireturn, 1) := by decide +kernel
theorem dX7_isBroken_107 : decode cX7_isBroken 107 = .ok (.aload_n 0, 1) := by decide +kernel
theorem dX7_isBroken_108 : decode cX7_isBroken 108 = .ok (.aload_n 1, 1) := by decide +kernel
theorem dX7_isBroken_109 : decode cX7_isBroken 109 = .ok (.iconst 1, 1) := by decide +kernel
theorem dX7_isBroken_110 : decode cX7_isBroken 110 = .ok (.invokevirtual 75, 3) := by decide +kernel
theorem dX7_isBroken_113 : decode cX7_isBroken 113 = .ok (.ireturn, 1) := by decide +kernel
theorem dX7_isBroken_114 : decode cX7_isBroken 114 = .ok (.aload_n 0, 1) := by decide +kernel
theorem dX7_isBroken_115 : decode cX7_isBroken 115 = .ok (.aload_n 1, 1) := by decide +kernel
theorem dX7_isBroken_116 : decode cX7_isBroken 116 = .ok (.invokevirtual 78, 3) := by decide +kernel
theorem dX7_isBroken_119 : decode cX7_isBroken 119 = .ok (.ireturn, 1) := by decide +kernel
theorem dX7_isBroken_120 : decode cX7_isBroken 120 = .ok (.aload_n 0, 1) := by decide +kernel
theorem dX7_isBroken_121 : decode cX7_isBroken 121 = .ok (.aload_n 1, 1) := by decide +kernel
theorem dX7_isBroken_122 : decode cX7_isBroken 122 = .ok (.invokevirtual 81, 3) := by decide +kernel
theorem dX7_isBroken_125 : decode cX7_isBroken 125 = .ok (.ireturn, 1) := by decide +kernel
theorem dX7_isBroken_126 : decode cX7_isBroken 126 = .ok (.aload_n 0, 1) := by decide +kernel
theorem dX7_isBroken_127 : decode cX7_isBroken 127 = .ok (.aload_n 1, 1) := by decide +kernel
theorem dX7_isBroken_128 : decode cX7_isBroken 128 = .ok (.invokevirtual 84, 3) := by decide +kernel
theorem dX7_isBroken_131 : decode cX7_isBroken 131 = .ok (.ireturn, 1) := by decide +kernel
theorem dX7_isBroken_132 : decode cX7_isBroken 132 = .ok (.aload_n 0, 1) := by decide +kernel
theorem dX7_isBroken_133 : decode cX7_isBroken 133 = .ok (.aload_n 1, 1) := by decide +kernel
theorem dX7_isBroken_134 : decode cX7_isBroken 134 = .ok (.iconst 0, 1) := by decide +kernel
theorem dX7_isBroken_135 : decode cX7_isBroken 135 = .ok (.invokevirtual 57, 3) := by decide +kernel
theorem dX7_isBroken_138 : decode cX7_isBroken 138 = .ok (.ireturn, 1) := by decide +kernel
theorem dX7_hasPair_0 : decode cX7_hasPair 0 = .ok (.iconst 1, 1) := by decide +kernel
theorem dX7_hasPair_1 : decode cX7_hasPair 1 = .ok (.istore_n 3, 1) := by decide +kernel
theorem dX7_hasPair_2 : decode cX7_hasPair 2 = .ok (.iload_n 3, 1) := by decide +kernel
theorem dX7_hasPair_3 : decode cX7_hasPair 3 = .ok (.aload_n 0, 1) := by decide +kernel
theorem dX7_hasPair_4 : decode cX7_hasPair 4 = .ok (.getfield 31, 3) := by decide +kernel
theorem dX7_hasPair_7 : decode cX7_hasPair 7 = .ok (.if_icmp .ge 73, 3) := by decide +kernel
theorem dX7_hasPair_10 : decode cX7_hasPair 10 = .ok (.aload_n 1, 1) := by decide +kernel
theorem dX7_hasPair_11 : decode cX7_hasPair 11 = .ok (.aload_n 0, 1) := by decide +kernel
theorem dX7_hasPair_12 : decode cX7_hasPair 12 = .ok (.getfield 20, 3) := by decide +kernel
theorem dX7_hasPair_15 : decode cX7_hasPair 15 = .ok (.iload_n 3, 1) := by decide +kernel
theorem dX7_hasPair_16 : decode cX7_hasPair 16 = .ok (.iaload, 1) := by decide +kernel
theorem dX7_hasPair_17 : decode cX7_hasPair 17 = .ok (.iaload, 1) := by decide +kernel
theorem dX7_hasPair_18 : decode cX7_hasPair 18 = .ok (.istore 4, 2) := by decide +kernel
theorem dX7_hasPair_20 : decode cX7_hasPair 20 = .ok (.iconst 0, 1) := by decide +kernel
theorem dX7_hasPair_21 : decode cX7_hasPair 21 = .ok (.istore 5, 2) := by decide +kernel
theorem dX7_hasPair_23 : decode cX7_hasPair 23 = .ok (.iload 5, 2) := by decide +kernel
theorem dX7_hasPair_25 : decode cX7_hasPair 25 = .ok (.iload_n 3, 1) := by decide +kernel
theorem dX7_hasPair_26 : decode cX7_hasPair 26 = .ok (.if_icmp .ge 48, 3) := by decide +kernel
theorem dX7_hasPair_29 : decode cX7_hasPair 29 = .ok (.iload 4, 2) := by decide +kernel
theorem dX7_hasPair_31 : decode cX7_hasPair 31 = .ok (.ifCond .eq 43, 3) := by decide +kernel
theorem dX7_hasPair_34 : decode cX7_hasPair 34 = .ok (.aload_n 1, 1) := by decide +kernel
theorem dX7_hasPair_35 : decode cX7_hasPair 35 = .ok (.aload_n 0, 1) := by decide +kernel
theorem dX7_hasPair_36 : decode cX7_hasPair 36 = .ok (.getfield 20, 3) := by decide +kernel
theorem dX7_hasPair_39 : decode cX7_hasPair 39 = .ok (.iload 5, 2) := by decide +kernel
theorem dX7_hasPair_41 : decode cX7_hasPair 41 = .ok (.iaload, 1) := by decide +kernel
theorem dX7_hasPair_42 : decode cX7_hasPair 42 = .ok (.iaload, 1) := by decide +kernel
theorem dX7_hasPair_43 : decode cX7_hasPair 43 = .ok (.istore 6, 2) := by decide +kernel
theorem dX7_hasPair_45 : decode cX7_hasPair 45 = .ok (.iload 6, 2) := by decide +kernel
theorem dX7_hasPair_47 : decode cX7_hasPair 47 = .ok (.ifCond .eq 21, 3) := by decide +kernel
theorem dX7_hasPair_50 : decode cX7_hasPair 50 = .ok (.iload 6, 2) := by decide +kernel
theorem dX7_hasPair_52 : decode cX7_hasPair 52 = .ok (.iload 4, 2) := by decide +kernel
theorem dX7_hasPair_54 : decode cX7_hasPair 54 = .ok (.if_icmp .ne 7, 3) := by decide +kernel
theorem dX7_hasPair_57 : decode cX7_hasPair 57 = .ok (.iconst 1, 1) := by decide +kernel
theorem dX7_hasPair_58 : decode cX7_hasPair 58 = .ok (.goto 4, 3) := by decide +kernel
theorem dX7_hasPair_61 : decode cX7_hasPair 61 = .ok (.iconst 0, 1) := by decide +kernel
theorem dX7_hasPair_62 : decode cX7_hasPair 62 = .ok (.iload_n 2, 1) := by decide +kernel
theorem dX7_hasPair_63 : decode cX7_hasPair 63 = .ok (.if_icmp .ne 5, 3) := by decide +kernel
theorem dX7_hasPair_66 : decode cX7_hasPair 66 = .ok (.iconst 1, 1) := by decide +kernel
theorem dX7_hasPair_67 : decode cX7_hasPair 67 = .ok (.ireturn, 1) := by decide +kernel
theorem dX7_hasPair_68 : decode cX7_hasPair 68 = .ok (.iinc 5 1, 3) := by decide +kernel
theorem dX7_hasPair_71 : decode cX7_hasPair 71 = .ok (.goto (-48), 3) := by decide +kernel
theorem dX7_hasPair_74 : decode cX7_hasPair 74 = .ok (.iinc 3 1, 3) := by decide +kernel
theorem dX7_hasPair_77 : decode cX7_hasPair 77 = .ok (.goto (-75), 3) := by decide +kernel
theorem dX7_hasPair_80 : decode cX7_hasPair 80 = .ok (.iconst 0, 1) := by decide +kernel
theorem dX7_hasPair_81 : decode cX7_hasPair 81 = .ok (.ireturn, 1) := by decide +kernel
theorem dX7_breaksSum_0 : decode cX7_breaksSum 0 = .ok (.iconst 0, 1) := by decide +kernel
theorem dX7_breaksSum_1 : decode cX7_breaksSum 1 = .ok (.istore_n 3, 1) := by decide +kernel
theorem dX7_breaksSum_2 : decode cX7_breaksSum 2 = .ok (.iconst 0, 1) := by decide +kernel
theorem dX7_breaksSum_3 : decode cX7_breaksSum 3 = .ok (.istore 4, 2) := by decide +kernel
theorem dX7_breaksSum_5 : decode cX7_breaksSum 5 = .ok (.iconst 0, 1) := by decide +kernel
theorem dX7_breaksSum_6 : decode cX7_breaksSum 6 = .ok (.istore 5, 2) := by decide +kernel
theorem dX7_breaksSum_8 : decode cX7_breaksSum 8 = .ok (.iload 5, 2) := by decide +kernel
theorem dX7_breaksSum_10 : decode cX7_breaksSum 10 = .ok (.aload_n 0, 1) := by decide +kernel
theorem dX7_breaksSum_11 : decode cX7_breaksSum 11 = .ok (.getfield 31, 3) := by decide +kernel
theorem dX7_breaksSum_14 : decode cX7_breaksSum 14 = .ok (.if_icmp .ge 33, 3) := by decide +kernel
theorem dX7_breaksSum_17 : decode cX7_breaksSum 17 = .ok (.aload_n 1, 1) := by decide +kernel
theorem dX7_breaksSum_18 : decode cX7_breaksSum 18 = .ok (.aload_n 0, 1) := by decide +kernel
theorem dX7_breaksSum_19 : decode cX7_breaksSum 19 = .ok (.getfield 20, 3) := by decide +kernel
theorem dX7_breaksSum_22 : decode cX7_breaksSum 22 = .ok (.iload 5, 2) := by decide +kernel
theorem dX7_breaksSum_24 : decode cX7_breaksSum 24 = .ok (.iaload, 1) := by decide +kernel
theorem dX7_breaksSum_25 : decode cX7_breaksSum 25 = .ok (.iaload, 1) := by decide +kernel
theorem dX7_breaksSum_26 : decode cX7_breaksSum 26 = .ok (.istore 6, 2) := by decide +kernel
theorem dX7_breaksSum_28 : decode cX7_breaksSum 28 = .ok (.iload_n 3, 1) := by decide +kernel
theorem dX7_breaksSum_29 : decode cX7_breaksSum 29 = .ok (.iload 6, 2) := by decide +kernel
theorem dX7_breaksSum_31 : decode cX7_breaksSum 31 = .ok (.iadd, 1) := by decide +kernel
theorem dX7_breaksSum_32 : decode cX7_breaksSum 32 = .ok (.istore_n 3, 1) := by decide +kernel
theorem dX7_breaksSum_33 : decode cX7_breaksSum 33 = .ok (.iload 6, 2) := by decide +kernel
theorem dX7_breaksSum_35 : decode cX7_breaksSum 35 = .ok (.ifCond .ne 6, 3) := by decide +kernel
theorem dX7_breaksSum_38 : decode cX7_breaksSum 38 = .ok (.iinc 4 1, 3) := by decide +kernel
theorem dX7_breaksSum_41 : decode cX7_breaksSum 41 = .ok (.iinc 5 1, 3) := by decide +kernel
theorem dX7_breaksSum_44 : decode cX7_breaksSum 44 = .ok (.goto (-36), 3) := by decide +kernel
theorem dX7_breaksSum_47 : decode cX7_breaksSum 47 = .ok (.iload_n 3, 1) := by decide +kernel
theorem dX7_breaksSum_48 : decode cX7_breaksSum 48 = .ok (.iload 4, 2) := by decide +kernel
theorem dX7_breaksSum_50 : decode cX7_breaksSum 50 = .ok (.iadd, 1) := by decide +kernel
theorem dX7_breaksSum_51 : decode cX7_breaksSum 51 = .ok (.aload_n 0, 1) := by decide +kernel
theorem dX7_breaksSum_52 : decode cX7_breaksSum 52 = .ok (.getfield 24, 3) := by decide +kernel
theorem dX7_breaksSum_55 : decode cX7_breaksSum 55 = .ok (.if_icmp .gt 16, 3) := by decide +kernel
theorem dX7_breaksSum_58 : decode cX7_breaksSum 58 = .ok (.iload_n 3, 1) := by decide +kernel
theorem dX7_breaksSum_59 : decode cX7_breaksSum 59 = .ok (.iload_n 2, 1) := by decide +kernel
theorem dX7_breaksSum_60 : decode cX7_breaksSum 60 = .ok (.iload 4, 2) := by decide +kernel
theorem dX7_breaksSum_62 : decode cX7_breaksSum 62 = .ok (.imul, 1) := by decide +kernel
theorem dX7_breaksSum_63 : decode cX7_breaksSum 63 = .ok (.iadd, 1) := by decide +kernel
theorem dX7_breaksSum_64 : decode cX7_breaksSum 64 = .ok (.aload_n 0, 1) := by decide +kernel
theorem dX7_breaksSum_65 : decode cX7_breaksSum 65 = .ok (.getfield 24, 3) := by decide +kernel
theorem dX7_breaksSum_68 : decode cX7_breaksSum 68 = .ok (.if_icmp .ge 7, 3) := by decide +kernel
theorem dX7_breaksSum_71 : decode cX7_breaksSum 71 = .ok (.iconst 1, 1) := by decide +kernel
theorem dX7_breaksSum_72 : decode cX7_breaksSum 72 = .ok (.goto 4, 3) := by decide +kernel
theorem dX7_breaksSum_75 : decode cX7_breaksSum 75 = .ok (.iconst 0, 1) := by decide +kernel
theorem dX7_breaksSum_76 : decode cX7_breaksSum 76 = .ok (.ireturn, 1) := by decide +kernel
theorem dX7_breaksProduct_0 : decode cX7_breaksProduct 0 = .ok (.iconst 1, 1) := by decide +kernel
theorem dX7_breaksProduct_1 : decode cX7_breaksProduct 1 = .ok (.istore_n 2, 1) := by decide +kernel
theorem dX7_breaksProduct_2 : decode cX7_breaksProduct 2 = .ok (.iconst 0, 1) := by decide +kernel
theorem dX7_breaksProduct_3 : decode cX7_breaksProduct 3 = .ok (.istore_n 3, 1) := by decide +kernel
theorem dX7_breaksProduct_4 : decode cX7_breaksProduct 4 = .ok (.iconst 0, 1) := by decide +kernel
theorem dX7_breaksProduct_5 : decode cX7_breaksProduct 5 = .ok (.istore 4, 2) := by decide +kernel
theorem dX7_breaksProduct_7 : decode cX7_breaksProduct 7 = .ok (.iload 4, 2) := by decide +kernel
theorem dX7_breaksProduct_9 : decode cX7_breaksProduct 9 = .ok (.aload_n 0, 1) := by decide +kernel
theorem dX7_breaksProduct_10 : decode cX7_breaksProduct 10 = .ok (.getfield 31, 3) := by decide +kernel
theorem dX7_breaksProduct_13 : decode cX7_breaksProduct 13 = .ok (.if_icmp .ge 35, 3) := by decide +kernel
theorem dX7_breaksProduct_16 : decode cX7_breaksProduct 16 = .ok (.aload_n 1, 1) := by decide +kernel
theorem dX7_breaksProduct_17 : decode cX7_breaksProduct 17 = .ok (.aload_n 0, 1) := by decide +kernel
theorem dX7_breaksProduct_18 : decode cX7_breaksProduct 18 = .ok (.getfield 20, 3) := by decide +kernel
theorem dX7_breaksProduct_21 : decode cX7_breaksProduct 21 = .ok (.iload 4, 2) := by decide +kernel
theorem dX7_breaksProduct_23 : decode cX7_breaksProduct 23 = .ok (.iaload, 1) := by decide +kernel
theorem dX7_breaksProduct_24 : decode cX7_breaksProduct 24 = .ok (.iaload, 1) := by decide +kernel
theorem dX7_breaksProduct_25 : decode cX7_breaksProduct 25 = .ok (.istore 5, 2) := by decide +kernel
theorem dX7_breaksProduct_27 : decode cX7_breaksProduct 27 = .ok (.iload 5, 2) := by decide +kernel
theorem dX7_breaksProduct_29 : decode cX7_breaksProduct 29 = .ok (.ifCond .le 11, 3) := by decide +kernel
theorem dX7_breaksProduct_32 : decode cX7_breaksProduct 32 = .ok (.iload_n 2, 1) := by decide +kernel
theorem dX7_breaksProduct_33 : decode cX7_breaksProduct 33 = .ok (.iload 5, 2) := by decide +kernel
theorem dX7_breaksProduct_35 : decode cX7_breaksProduct 35 = .ok (.imul, 1) := by decide +kernel
theorem dX7_breaksProduct_36 : decode cX7_breaksProduct 36 = .ok (.istore_n 2, 1) := by decide +kernel
theorem dX7_breaksProduct_37 : decode cX7_breaksProduct 37 = .ok (.goto 5, 3) := by decide +kernel
theorem dX7_breaksProduct_40 : decode cX7_breaksProduct 40 = .ok (.iconst 1, 1) := by decide +kernel
theorem dX7_breaksProduct_41 : decode cX7_breaksProduct 41 = .ok (.istore_n 3, 1) := by decide +kernel
theorem dX7_breaksProduct_42 : decode cX7_breaksProduct 42 = .ok (.iinc 4 1, 3) := by decide +kernel
theorem dX7_breaksProduct_45 : decode cX7_breaksProduct 45 = .ok (.goto (-38), 3) := by decide +kernel
theorem dX7_breaksProduct_48 : decode cX7_breaksProduct 48 = .ok (.iload_n 2, 1) := by decide +kernel
theorem dX7_breaksProduct_49 : decode cX7_breaksProduct 49 = .ok (.iconst 1, 1) := by decide +kernel
theorem dX7_breaksProduct_50 : decode cX7_breaksProduct 50 = .ok (.if_icmp .lt 12, 3) := by decide +kernel
theorem dX7_breaksProduct_53 : decode cX7_breaksProduct 53 = .ok (.aload_n 0, 1) := by decide +kernel
theorem dX7_breaksProduct_54 : decode cX7_breaksProduct 54 = .ok (.getfield 24, 3) := by decide +kernel
theorem dX7_breaksProduct_57 : decode cX7_breaksProduct 57 = .ok (.iload_n 2, 1) := by decide +kernel
theorem dX7_breaksProduct_58 : decode cX7_breaksProduct 58 = .ok (.irem, 1) := by decide +kernel
theorem dX7_breaksProduct_59 : decode cX7_breaksProduct 59 = .ok (.ifCond .eq 5, 3) := by decide +kernel
theorem dX7_breaksProduct_62 : decode cX7_breaksProduct 62 = .ok (.iconst 1, 1) := by decide +kernel
theorem dX7_breaksProduct_63 : decode cX7_breaksProduct 63 = .ok (.ireturn, 1) := by decide +kernel
theorem dX7_breaksProduct_64 : decode cX7_breaksProduct 64 = .ok (.iload_n 3, 1) := by decide +kernel
theorem dX7_breaksProduct_65 : decode cX7_breaksProduct 65 = .ok (.ifCond .ne 15, 3) := by decide +kernel
theorem dX7_breaksProduct_68 : decode cX7_breaksProduct 68 = .ok (.iload_n 2, 1) := by decide +kernel
theorem dX7_breaksProduct_69 : decode cX7_breaksProduct 69 = .ok (.aload_n 0, 1) := by decide +kernel
theorem dX7_breaksProduct_70 : decode cX7_breaksProduct 70 = .ok (.getfield 24, 3) := by decide +kernel
theorem dX7_breaksProduct_73 : decode cX7_breaksProduct 73 = .ok (.if_icmp .eq 7, 3) := by decide +kernel
theorem dX7_breaksProduct_76 : decode cX7_breaksProduct 76 = .ok (.iconst 1, 1) := by decide +kernel
theorem dX7_breaksProduct_77 : decode cX7_breaksProduct 77 = .ok (.goto 4, 3) := by decide +kernel
theorem dX7_breaksProduct_80 : decode cX7_breaksProduct 80 = .ok (.iconst 0, 1) := by decide +kernel
theorem dX7_breaksProduct_81 : decode cX7_breaksProduct 81 = .ok (.ireturn, 1) := by decide +kernel
theorem dX7_breaksOrder_0 : decode cX7_breaksOrder 0 = .ok (.iconst 1, 1) := by decide +kernel
theorem dX7_breaksOrder_1 : decode cX7_breaksOrder 1 = .ok (.istore_n 2, 1) := by decide +kernel
theorem dX7_breaksOrder_2 : decode cX7_breaksOrder 2 = .ok (.iload_n 2, 1) := by decide +kernel
theorem dX7_breaksOrder_3 : decode cX7_breaksOrder 3 = .ok (.aload_n 0, 1) := by decide +kernel
theorem dX7_breaksOrder_4 : decode cX7_breaksOrder 4 = .ok (.getfield 31, 3) := by decide +kernel
theorem dX7_breaksOrder_7 : decode cX7_breaksOrder 7 = .ok (.if_icmp .ge 66, 3) := by decide +kernel
theorem dX7_breaksOrder_10 : decode cX7_breaksOrder 10 = .ok (.aload_n 1, 1) := by decide +kernel
theorem dX7_breaksOrder_11 : decode cX7_breaksOrder 11 = .ok (.aload_n 0, 1) := by decide +kernel
theorem dX7_breaksOrder_12 : decode cX7_breaksOrder 12 = .ok (.getfield 20, 3) := by decide +kernel
theorem dX7_breaksOrder_15 : decode cX7_breaksOrder 15 = .ok (.iload_n 2, 1) := by decide +kernel
theorem dX7_breaksOrder_16 : decode cX7_breaksOrder 16 = .ok (.iaload, 1) := by decide +kernel
theorem dX7_breaksOrder_17 : decode cX7_breaksOrder 17 = .ok (.iaload, 1) := by decide +kernel
theorem dX7_breaksOrder_18 : decode cX7_breaksOrder 18 = .ok (.istore_n 3, 1) := by decide +kernel
theorem dX7_breaksOrder_19 : decode cX7_breaksOrder 19 = .ok (.iconst 0, 1) := by decide +kernel
theorem dX7_breaksOrder_20 : decode cX7_breaksOrder 20 = .ok (.istore 4, 2) := by decide +kernel
theorem dX7_breaksOrder_22 : decode cX7_breaksOrder 22 = .ok (.iload 4, 2) := by decide +kernel
theorem dX7_breaksOrder_24 : decode cX7_breaksOrder 24 = .ok (.iload_n 2, 1) := by decide +kernel
theorem dX7_breaksOrder_25 : decode cX7_breaksOrder 25 = .ok (.if_icmp .ge 42, 3) := by decide +kernel
theorem dX7_breaksOrder_28 : decode cX7_breaksOrder 28 = .ok (.iload_n 3, 1) := by decide +kernel
theorem dX7_breaksOrder_29 : decode cX7_breaksOrder 29 = .ok (.ifCond .eq 38, 3) := by decide +kernel
theorem dX7_breaksOrder_32 : decode cX7_breaksOrder 32 = .ok (.aload_n 1, 1) := by decide +kernel
theorem dX7_breaksOrder_33 : decode cX7_breaksOrder 33 = .ok (.aload_n 0, 1) := by decide +kernel
theorem dX7_breaksOrder_34 : decode cX7_breaksOrder 34 = .ok (.getfield 20, 3) := by decide +kernel
theorem dX7_breaksOrder_37 : decode cX7_breaksOrder 37 = .ok (.iload 4, 2) := by decide +kernel
theorem dX7_breaksOrder_39 : decode cX7_breaksOrder 39 = .ok (.iaload, 1) := by decide +kernel
theorem dX7_breaksOrder_40 : decode cX7_breaksOrder 40 = .ok (.iaload, 1) := by decide +kernel
theorem dX7_breaksOrder_41 : decode cX7_breaksOrder 41 = .ok (.istore 5, 2) := by decide +kernel
theorem dX7_breaksOrder_43 : decode cX7_breaksOrder 43 = .ok (.iload 5, 2) := by decide +kernel
theorem dX7_breaksOrder_45 : decode cX7_breaksOrder 45 = .ok (.ifCond .eq 16, 3) := by decide +kernel
theorem dX7_breaksOrder_48 : decode cX7_breaksOrder 48 = .ok (.iload_n 3, 1) := by decide +kernel
theorem dX7_breaksOrder_49 : decode cX7_breaksOrder 49 = .ok (.iload 5, 2) := by decide +kernel
theorem dX7_breaksOrder_51 : decode cX7_breaksOrder 51 = .ok (.isub, 1) := by decide +kernel
theorem dX7_breaksOrder_52 : decode cX7_breaksOrder 52 = .ok (.iload_n 2, 1) := by decide +kernel
theorem dX7_breaksOrder_53 : decode cX7_breaksOrder 53 = .ok (.iload 4, 2) := by decide +kernel
theorem dX7_breaksOrder_55 : decode cX7_breaksOrder 55 = .ok (.isub, 1) := by decide +kernel
theorem dX7_breaksOrder_56 : decode cX7_breaksOrder 56 = .ok (.if_icmp .ge 5, 3) := by decide +kernel
theorem dX7_breaksOrder_59 : decode cX7_breaksOrder 59 = .ok (.iconst 1, 1) := by decide +kernel
theorem dX7_breaksOrder_60 : decode cX7_breaksOrder 60 = .ok (.ireturn, 1) := by decide +kernel
theorem dX7_breaksOrder_61 : decode cX7_breaksOrder 61 = .ok (.iinc 4 1, 3) := by decide +kernel
theorem dX7_breaksOrder_64 : decode cX7_breaksOrder 64 = .ok (.goto (-42), 3) := by decide +kernel
theorem dX7_breaksOrder_67 : decode cX7_breaksOrder 67 = .ok (.iinc 2 1, 3) := by decide +kernel
theorem dX7_breaksOrder_70 : decode cX7_breaksOrder 70 = .ok (.goto (-68), 3) := by decide +kernel
theorem dX7_breaksOrder_73 : decode cX7_breaksOrder 73 = .ok (.iconst 0, 1) := by decide +kernel
theorem dX7_breaksOrder_74 : decode cX7_breaksOrder 74 = .ok (.ireturn, 1) := by decide +kernel
theorem dX7_breaksSight_0 : decode cX7_breaksSight 0 = .ok (.iconst 0, 1) := by decide +kernel
theorem dX7_breaksSight_1 : decode cX7_breaksSight 1 = .ok (.istore_n 2, 1) := by decide +kernel
theorem dX7_breaksSight_2 : decode cX7_breaksSight 2 = .ok (.iconst 0, 1) := by decide +kernel
theorem dX7_breaksSight_3 : decode cX7_breaksSight 3 = .ok (.istore_n 3, 1) := by decide +kernel
theorem dX7_breaksSight_4 : decode cX7_breaksSight 4 = .ok (.iconst 0, 1) := by decide +kernel
theorem dX7_breaksSight_5 : decode cX7_breaksSight 5 = .ok (.istore 4, 2) := by decide +kernel
theorem dX7_breaksSight_7 : decode cX7_breaksSight 7 = .ok (.iload 4, 2) := by decide +kernel
theorem dX7_breaksSight_9 : decode cX7_breaksSight 9 = .ok (.aload_n 0, 1) := by decide +kernel
theorem dX7_breaksSight_10 : decode cX7_breaksSight 10 = .ok (.getfield 31, 3) := by decide +kernel
theorem dX7_breaksSight_13 : decode cX7_breaksSight 13 = .ok (.if_icmp .ge 39, 3) := by decide +kernel
theorem dX7_breaksSight_16 : decode cX7_breaksSight 16 = .ok (.aload_n 1, 1) := by decide +kernel
theorem dX7_breaksSight_17 : decode cX7_breaksSight 17 = .ok (.aload_n 0, 1) := by decide +kernel
theorem dX7_breaksSight_18 : decode cX7_breaksSight 18 = .ok (.getfield 20, 3) := by decide +kernel
theorem dX7_breaksSight_21 : decode cX7_breaksSight 21 = .ok (.iload 4, 2) := by decide +kernel
theorem dX7_breaksSight_23 : decode cX7_breaksSight 23 = .ok (.iaload, 1) := by decide +kernel
theorem dX7_breaksSight_24 : decode cX7_breaksSight 24 = .ok (.iaload, 1) := by decide +kernel
theorem dX7_breaksSight_25 : decode cX7_breaksSight 25 = .ok (.istore 5, 2) := by decide +kernel
theorem dX7_breaksSight_27 : decode cX7_breaksSight 27 = .ok (.iload 5, 2) := by decide +kernel
theorem dX7_breaksSight_29 : decode cX7_breaksSight 29 = .ok (.ifCond .ne 5, 3) := by decide +kernel
theorem dX7_breaksSight_32 : decode cX7_breaksSight 32 = .ok (.iconst 0, 1) := by decide +kernel
theorem dX7_breaksSight_33 : decode cX7_breaksSight 33 = .ok (.ireturn, 1) := by decide +kernel
theorem dX7_breaksSight_34 : decode cX7_breaksSight 34 = .ok (.iload 5, 2) := by decide +kernel
theorem dX7_breaksSight_36 : decode cX7_breaksSight 36 = .ok (.iload_n 3, 1) := by decide +kernel
theorem dX7_breaksSight_37 : decode cX7_breaksSight 37 = .ok (.if_icmp .le 9, 3) := by decide +kernel
theorem dX7_breaksSight_40 : decode cX7_breaksSight 40 = .ok (.iload 5, 2) := by decide +kernel
theorem dX7_breaksSight_42 : decode cX7_breaksSight 42 = .ok (.istore_n 3, 1) := by decide +kernel
theorem dX7_breaksSight_43 : decode cX7_breaksSight 43 = .ok (.iinc 2 1, 3) := by decide +kernel
theorem dX7_breaksSight_46 : decode cX7_breaksSight 46 = .ok (.iinc 4 1, 3) := by decide +kernel
theorem dX7_breaksSight_49 : decode cX7_breaksSight 49 = .ok (.goto (-42), 3) := by decide +kernel
theorem dX7_breaksSight_52 : decode cX7_breaksSight 52 = .ok (.iload_n 2, 1) := by decide +kernel
theorem dX7_breaksSight_53 : decode cX7_breaksSight 53 = .ok (.aload_n 0, 1) := by decide +kernel
theorem dX7_breaksSight_54 : decode cX7_breaksSight 54 = .ok (.getfield 24, 3) := by decide +kernel
theorem dX7_breaksSight_57 : decode cX7_breaksSight 57 = .ok (.if_icmp .eq 7, 3) := by decide +kernel
theorem dX7_breaksSight_60 : decode cX7_breaksSight 60 = .ok (.iconst 1, 1) := by decide +kernel
theorem dX7_breaksSight_61 : decode cX7_breaksSight 61 = .ok (.goto 4, 3) := by decide +kernel
theorem dX7_breaksSight_64 : decode cX7_breaksSight 64 = .ok (.iconst 0, 1) := by decide +kernel
theorem dX7_breaksSight_65 : decode cX7_breaksSight 65 = .ok (.ireturn, 1) := by decide +kernel
theorem dX7_hasRemainder_0 : decode cX7_hasRemainder 0 = .ok (.iconst 0, 1) := by decide +kernel
theorem dX7_hasRemainder_1 : decode cX7_hasRemainder 1 = .ok (.istore_n 3, 1) := by decide +kernel
theorem dX7_hasRemainder_2 : decode cX7_hasRemainder 2 = .ok (.iload_n 3, 1) := by decide +kernel
theorem dX7_hasRemainder_3 : decode cX7_hasRemainder 3 = .ok (.aload_n 0, 1) := by decide +kernel
theorem dX7_hasRemainder_4 : decode cX7_hasRemainder 4 = .ok (.getfield 31, 3) := by decide +kernel
theorem dX7_hasRemainder_7 : decode cX7_hasRemainder 7 = .ok (.if_icmp .ge 34, 3) := by decide +kernel
theorem dX7_hasRemainder_10 : decode cX7_hasRemainder 10 = .ok (.aload_n 1, 1) := by decide +kernel
theorem dX7_hasRemainder_11 : decode cX7_hasRemainder 11 = .ok (.aload_n 0, 1) := by decide +kernel
theorem dX7_hasRemainder_12 : decode cX7_hasRemainder 12 = .ok (.getfield 20, 3) := by decide +kernel
theorem dX7_hasRemainder_15 : decode cX7_hasRemainder 15 = .ok (.iload_n 3, 1) := by decide +kernel
theorem dX7_hasRemainder_16 : decode cX7_hasRemainder 16 = .ok (.iaload, 1) := by decide +kernel
theorem dX7_hasRemainder_17 : decode cX7_hasRemainder 17 = .ok (.iaload, 1) := by decide +kernel
theorem dX7_hasRemainder_18 : decode cX7_hasRemainder 18 = .ok (.istore 4, 2) := by decide +kernel
theorem dX7_hasRemainder_20 : decode cX7_hasRemainder 20 = .ok (.iload 4, 2) := by decide +kernel
theorem dX7_hasRemainder_22 : decode cX7_hasRemainder 22 = .ok (.ifCond .eq 13, 3) := by decide +kernel
theorem dX7_hasRemainder_25 : decode cX7_hasRemainder 25 = .ok (.iload 4, 2) := by decide +kernel
theorem dX7_hasRemainder_27 : decode cX7_hasRemainder 27 = .ok (.iconst 1, 1) := by decide +kernel
theorem dX7_hasRemainder_28 : decode cX7_hasRemainder 28 = .ok (.iand, 1) := by decide +kernel
theorem dX7_hasRemainder_29 : decode cX7_hasRemainder 29 = .ok (.iload_n 2, 1) := by decide +kernel
theorem dX7_hasRemainder_30 : decode cX7_hasRemainder 30 = .ok (.if_icmp .ne 5, 3) := by decide +kernel
theorem dX7_hasRemainder_33 : decode cX7_hasRemainder 33 = .ok (.iconst 1, 1) := by decide +kernel
theorem dX7_hasRemainder_34 : decode cX7_hasRemainder 34 = .ok (.ireturn, 1) := by decide +kernel
theorem dX7_hasRemainder_35 : decode cX7_hasRemainder 35 = .ok (.iinc 3 1, 3) := by decide +kernel
theorem dX7_hasRemainder_38 : decode cX7_hasRemainder 38 = .ok (.goto (-36), 3) := by decide +kernel
theorem dX7_hasRemainder_41 : decode cX7_hasRemainder 41 = .ok (.iconst 0, 1) := by decide +kernel
theorem dX7_hasRemainder_42 : decode cX7_hasRemainder 42 = .ok (.ireturn, 1) := by decide +kernel
theorem dX7_breaksCount_0 : decode cX7_breaksCount 0 = .ok (.iconst 0, 1) := by decide +kernel
theorem dX7_breaksCount_1 : decode cX7_breaksCount 1 = .ok (.istore_n 2, 1) := by decide +kernel
theorem dX7_breaksCount_2 : decode cX7_breaksCount 2 = .ok (.iconst 0, 1) := by decide +kernel
theorem dX7_breaksCount_3 : decode cX7_breaksCount 3 = .ok (.istore_n 3, 1) := by decide +kernel
theorem dX7_breaksCount_4 : decode cX7_breaksCount 4 = .ok (.iconst 0, 1) := by decide +kernel
theorem dX7_breaksCount_5 : decode cX7_breaksCount 5 = .ok (.istore 4, 2) := by decide +kernel
theorem dX7_breaksCount_7 : decode cX7_breaksCount 7 = .ok (.iload 4, 2) := by decide +kernel
theorem dX7_breaksCount_9 : decode cX7_breaksCount 9 = .ok (.aload_n 0, 1) := by decide +kernel
theorem dX7_breaksCount_10 : decode cX7_breaksCount 10 = .ok (.getfield 31, 3) := by decide +kernel
theorem dX7_breaksCount_13 : decode cX7_breaksCount 13 = .ok (.if_icmp .ge 43, 3) := by decide +kernel
theorem dX7_breaksCount_16 : decode cX7_breaksCount 16 = .ok (.aload_n 1, 1) := by decide +kernel
theorem dX7_breaksCount_17 : decode cX7_breaksCount 17 = .ok (.aload_n 0, 1) := by decide +kernel
theorem dX7_breaksCount_18 : decode cX7_breaksCount 18 = .ok (.getfield 20, 3) := by decide +kernel
theorem dX7_breaksCount_21 : decode cX7_breaksCount 21 = .ok (.iload 4, 2) := by decide +kernel
theorem dX7_breaksCount_23 : decode cX7_breaksCount 23 = .ok (.iaload, 1) := by decide +kernel
theorem dX7_breaksCount_24 : decode cX7_breaksCount 24 = .ok (.iaload, 1) := by decide +kernel
theorem dX7_breaksCount_25 : decode cX7_breaksCount 25 = .ok (.istore 5, 2) := by decide +kernel
theorem dX7_breaksCount_27 : decode cX7_breaksCount 27 = .ok (.iload 5, 2) := by decide +kernel
theorem dX7_breaksCount_29 : decode cX7_breaksCount 29 = .ok (.aload_n 0, 1) := by decide +kernel
theorem dX7_breaksCount_30 : decode cX7_breaksCount 30 = .ok (.getfield 24, 3) := by decide +kernel
theorem dX7_breaksCount_33 : decode cX7_breaksCount 33 = .ok (.if_icmp .ne 9, 3) := by decide +kernel
theorem dX7_breaksCount_36 : decode cX7_breaksCount 36 = .ok (.iinc 2 1, 3) := by decide +kernel
theorem dX7_breaksCount_39 : decode cX7_breaksCount 39 = .ok (.goto 11, 3) := by decide +kernel
theorem dX7_breaksCount_42 : decode cX7_breaksCount 42 = .ok (.iload 5, 2) := by decide +kernel
theorem dX7_breaksCount_44 : decode cX7_breaksCount 44 = .ok (.ifCond .ne 6, 3) := by decide +kernel
theorem dX7_breaksCount_47 : decode cX7_breaksCount 47 = .ok (.iinc 3 1, 3) := by decide +kernel
theorem dX7_breaksCount_50 : decode cX7_breaksCount 50 = .ok (.iinc 4 1, 3) := by decide +kernel
theorem dX7_breaksCount_53 : decode cX7_breaksCount 53 = .ok (.goto (-46), 3) := by decide +kernel
theorem dX7_breaksCount_56 : decode cX7_breaksCount 56 = .ok (.iload_n 2, 1) := by decide +kernel
theorem dX7_breaksCount_57 : decode cX7_breaksCount 57 = .ok (.aload_n 0, 1) := by decide +kernel
theorem dX7_breaksCount_58 : decode cX7_breaksCount 58 = .ok (.getfield 28, 3) := by decide +kernel
theorem dX7_breaksCount_61 : decode cX7_breaksCount 61 = .ok (.if_icmp .gt 13, 3) := by decide +kernel
theorem dX7_breaksCount_64 : decode cX7_breaksCount 64 = .ok (.iload_n 2, 1) := by decide +kernel
theorem dX7_breaksCount_65 : decode cX7_breaksCount 65 = .ok (.iload_n 3, 1) := by decide +kernel
theorem dX7_breaksCount_66 : decode cX7_breaksCount 66 = .ok (.iadd, 1) := by decide +kernel
theorem dX7_breaksCount_67 : decode cX7_breaksCount 67 = .ok (.aload_n 0, 1) := by decide +kernel
theorem dX7_breaksCount_68 : decode cX7_breaksCount 68 = .ok (.getfield 28, 3) := by decide +kernel
theorem dX7_breaksCount_71 : decode cX7_breaksCount 71 = .ok (.if_icmp .ge 7, 3) := by decide +kernel
theorem dX7_breaksCount_74 : decode cX7_breaksCount 74 = .ok (.iconst 1, 1) := by decide +kernel
theorem dX7_breaksCount_75 : decode cX7_breaksCount 75 = .ok (.goto 4, 3) := by decide +kernel
theorem dX7_breaksCount_78 : decode cX7_breaksCount 78 = .ok (.iconst 0, 1) := by decide +kernel
theorem dX7_breaksCount_79 : decode cX7_breaksCount 79 = .ok (.ireturn, 1) := by decide +kernel
theorem dX7_breaksIs_0 : decode cX7_breaksIs 0 = .ok (.iconst 0, 1) := by decide +kernel
theorem dX7_breaksIs_1 : decode cX7_breaksIs 1 = .ok (.istore_n 2, 1) := by decide +kernel
theorem dX7_breaksIs_2 : decode cX7_breaksIs 2 = .ok (.iload_n 2, 1) := by decide +kernel
theorem dX7_breaksIs_3 : decode cX7_breaksIs 3 = .ok (.aload_n 0, 1) := by decide +kernel
theorem dX7_breaksIs_4 : decode cX7_breaksIs 4 = .ok (.getfield 31, 3) := by decide +kernel
theorem dX7_breaksIs_7 : decode cX7_breaksIs 7 = .ok (.if_icmp .ge 32, 3) := by decide +kernel
theorem dX7_breaksIs_10 : decode cX7_breaksIs 10 = .ok (.aload_n 1, 1) := by decide +kernel
theorem dX7_breaksIs_11 : decode cX7_breaksIs 11 = .ok (.aload_n 0, 1) := by decide +kernel
theorem dX7_breaksIs_12 : decode cX7_breaksIs 12 = .ok (.getfield 20, 3) := by decide +kernel
theorem dX7_breaksIs_15 : decode cX7_breaksIs 15 = .ok (.iload_n 2, 1) := by decide +kernel
theorem dX7_breaksIs_16 : decode cX7_breaksIs 16 = .ok (.iaload, 1) := by decide +kernel
theorem dX7_breaksIs_17 : decode cX7_breaksIs 17 = .ok (.iaload, 1) := by decide +kernel
theorem dX7_breaksIs_18 : decode cX7_breaksIs 18 = .ok (.istore_n 3, 1) := by decide +kernel
theorem dX7_breaksIs_19 : decode cX7_breaksIs 19 = .ok (.iload_n 3, 1) := by decide +kernel
theorem dX7_breaksIs_20 : decode cX7_breaksIs 20 = .ok (.ifCond .eq 13, 3) := by decide +kernel
theorem dX7_breaksIs_23 : decode cX7_breaksIs 23 = .ok (.iload_n 3, 1) := by decide +kernel
theorem dX7_breaksIs_24 : decode cX7_breaksIs 24 = .ok (.aload_n 0, 1) := by decide +kernel
theorem dX7_breaksIs_25 : decode cX7_breaksIs 25 = .ok (.getfield 24, 3) := by decide +kernel
theorem dX7_breaksIs_28 : decode cX7_breaksIs 28 = .ok (.if_icmp .eq 5, 3) := by decide +kernel
theorem dX7_breaksIs_31 : decode cX7_breaksIs 31 = .ok (.iconst 1, 1) := by decide +kernel
theorem dX7_breaksIs_32 : decode cX7_breaksIs 32 = .ok (.ireturn, 1) := by decide +kernel
theorem dX7_breaksIs_33 : decode cX7_breaksIs 33 = .ok (.iinc 2 1, 3) := by decide +kernel
theorem dX7_breaksIs_36 : decode cX7_breaksIs 36 = .ok (.goto (-34), 3) := by decide +kernel
theorem dX7_breaksIs_39 : decode cX7_breaksIs 39 = .ok (.iconst 0, 1) := by decide +kernel
theorem dX7_breaksIs_40 : decode cX7_breaksIs 40 = .ok (.ireturn, 1) := by decide +kernel
theorem dX7_breaksApart_0 : decode cX7_breaksApart 0 = .ok (.iconst 1, 1) := by decide +kernel
theorem dX7_breaksApart_1 : decode cX7_breaksApart 1 = .ok (.istore_n 2, 1) := by decide +kernel
theorem dX7_breaksApart_2 : decode cX7_breaksApart 2 = .ok (.iload_n 2, 1) := by decide +kernel
theorem dX7_breaksApart_3 : decode cX7_breaksApart 3 = .ok (.aload_n 0, 1) := by decide +kernel
theorem dX7_breaksApart_4 : decode cX7_breaksApart 4 = .ok (.getfield 31, 3) := by decide +kernel
theorem dX7_breaksApart_7 : decode cX7_breaksApart 7 = .ok (.if_icmp .ge 69, 3) := by decide +kernel
theorem dX7_breaksApart_10 : decode cX7_breaksApart 10 = .ok (.aload_n 1, 1) := by decide +kernel
theorem dX7_breaksApart_11 : decode cX7_breaksApart 11 = .ok (.aload_n 0, 1) := by decide +kernel
theorem dX7_breaksApart_12 : decode cX7_breaksApart 12 = .ok (.getfield 20, 3) := by decide +kernel
theorem dX7_breaksApart_15 : decode cX7_breaksApart 15 = .ok (.iload_n 2, 1) := by decide +kernel
theorem dX7_breaksApart_16 : decode cX7_breaksApart 16 = .ok (.iconst 1, 1) := by decide +kernel
theorem dX7_breaksApart_17 : decode cX7_breaksApart 17 = .ok (.isub, 1) := by decide +kernel
theorem dX7_breaksApart_18 : decode cX7_breaksApart 18 = .ok (.iaload, 1) := by decide +kernel
theorem dX7_breaksApart_19 : decode cX7_breaksApart 19 = .ok (.iaload, 1) := by decide +kernel
theorem dX7_breaksApart_20 : decode cX7_breaksApart 20 = .ok (.istore_n 3, 1) := by decide +kernel
theorem dX7_breaksApart_21 : decode cX7_breaksApart 21 = .ok (.aload_n 1, 1) := by decide +kernel
theorem dX7_breaksApart_22 : decode cX7_breaksApart 22 = .ok (.aload_n 0, 1) := by decide +kernel
theorem dX7_breaksApart_23 : decode cX7_breaksApart 23 = .ok (.getfield 20, 3) := by decide +kernel
theorem dX7_breaksApart_26 : decode cX7_breaksApart 26 = .ok (.iload_n 2, 1) := by decide +kernel
theorem dX7_breaksApart_27 : decode cX7_breaksApart 27 = .ok (.iaload, 1) := by decide +kernel
theorem dX7_breaksApart_28 : decode cX7_breaksApart 28 = .ok (.iaload, 1) := by decide +kernel
theorem dX7_breaksApart_29 : decode cX7_breaksApart 29 = .ok (.istore 4, 2) := by decide +kernel
theorem dX7_breaksApart_31 : decode cX7_breaksApart 31 = .ok (.iload_n 3, 1) := by decide +kernel
theorem dX7_breaksApart_32 : decode cX7_breaksApart 32 = .ok (.iload 4, 2) := by decide +kernel
theorem dX7_breaksApart_34 : decode cX7_breaksApart 34 = .ok (.if_icmp .ge 10, 3) := by decide +kernel
theorem dX7_breaksApart_37 : decode cX7_breaksApart 37 = .ok (.iload 4, 2) := by decide +kernel
theorem dX7_breaksApart_39 : decode cX7_breaksApart 39 = .ok (.iload_n 3, 1) := by decide +kernel
theorem dX7_breaksApart_40 : decode cX7_breaksApart 40 = .ok (.isub, 1) := by decide +kernel
theorem dX7_breaksApart_41 : decode cX7_breaksApart 41 = .ok (.goto 7, 3) := by decide +kernel
theorem dX7_breaksApart_44 : decode cX7_breaksApart 44 = .ok (.iload_n 3, 1) := by decide +kernel
theorem dX7_breaksApart_45 : decode cX7_breaksApart 45 = .ok (.iload 4, 2) := by decide +kernel
theorem dX7_breaksApart_47 : decode cX7_breaksApart 47 = .ok (.isub, 1) := by decide +kernel
theorem dX7_breaksApart_48 : decode cX7_breaksApart 48 = .ok (.istore 5, 2) := by decide +kernel
theorem dX7_breaksApart_50 : decode cX7_breaksApart 50 = .ok (.iload_n 3, 1) := by decide +kernel
theorem dX7_breaksApart_51 : decode cX7_breaksApart 51 = .ok (.ifCond .eq 19, 3) := by decide +kernel
theorem dX7_breaksApart_54 : decode cX7_breaksApart 54 = .ok (.iload 4, 2) := by decide +kernel
theorem dX7_breaksApart_56 : decode cX7_breaksApart 56 = .ok (.ifCond .eq 14, 3) := by decide +kernel
theorem dX7_breaksApart_59 : decode cX7_breaksApart 59 = .ok (.iload 5, 2) := by decide +kernel
theorem dX7_breaksApart_61 : decode cX7_breaksApart 61 = .ok (.aload_n 0, 1) := by decide +kernel
theorem dX7_breaksApart_62 : decode cX7_breaksApart 62 = .ok (.getfield 24, 3) := by decide +kernel
theorem dX7_breaksApart_65 : decode cX7_breaksApart 65 = .ok (.if_icmp .ge 5, 3) := by decide +kernel
theorem dX7_breaksApart_68 : decode cX7_breaksApart 68 = .ok (.iconst 1, 1) := by decide +kernel
theorem dX7_breaksApart_69 : decode cX7_breaksApart 69 = .ok (.ireturn, 1) := by decide +kernel
theorem dX7_breaksApart_70 : decode cX7_breaksApart 70 = .ok (.iinc 2 1, 3) := by decide +kernel
theorem dX7_breaksApart_73 : decode cX7_breaksApart 73 = .ok (.goto (-71), 3) := by decide +kernel
theorem dX7_breaksApart_76 : decode cX7_breaksApart 76 = .ok (.iconst 0, 1) := by decide +kernel
theorem dX7_breaksApart_77 : decode cX7_breaksApart 77 = .ok (.ireturn, 1) := by decide +kernel
theorem dX8_init_0 : decode cX8_init 0 = .ok (.aload_n 0, 1) := by decide +kernel
theorem dX8_init_1 : decode cX8_init 1 = .ok (.invokespecial 3, 3) := by decide +kernel
theorem dX8_init_4 : decode cX8_init 4 = .ok (.aload_n 0, 1) := by decide +kernel
theorem dX8_init_5 : decode cX8_init 5 = .ok (.bipush 30, 2) := by decide +kernel
theorem dX8_init_7 : decode cX8_init 7 = .ok (.bipush 25, 2) := by decide +kernel
theorem dX8_init_9 : decode cX8_init 9 = .ok (.multianewarray 9 2, 4) := by decide +kernel
theorem dX8_init_13 : decode cX8_init 13 = .ok (.putfield 11, 3) := by decide +kernel
theorem dX8_init_16 : decode cX8_init 16 = .ok (.aload_n 0, 1) := by decide +kernel
theorem dX8_init_17 : decode cX8_init 17 = .ok (.bipush 25, 2) := by decide +kernel
theorem dX8_init_19 : decode cX8_init 19 = .ok (.newarray .int, 2) := by decide +kernel
theorem dX8_init_21 : decode cX8_init 21 = .ok (.putfield 16, 3) := by decide +kernel
theorem dX8_init_24 : decode cX8_init 24 = .ok (.aload_n 0, 1) := by decide +kernel
theorem dX8_init_25 : decode cX8_init 25 = .ok (.bipush 25, 2) := by decide +kernel
theorem dX8_init_27 : decode cX8_init 27 = .ok (.newarray .int, 2) := by decide +kernel
theorem dX8_init_29 : decode cX8_init 29 = .ok (.putfield 20, 3) := by decide +kernel
theorem dX8_init_32 : decode cX8_init 32 = .ok (.aload_n 0, 1) := by decide +kernel
theorem dX8_init_33 : decode cX8_init 33 = .ok (.bipush 25, 2) := by decide +kernel
theorem dX8_init_35 : decode cX8_init 35 = .ok (.newarray .int, 2) := by decide +kernel
theorem dX8_init_37 : decode cX8_init 37 = .ok (.putfield 23, 3) := by decide +kernel
theorem dX8_init_40 : decode cX8_init 40 = .ok (.return_, 1) := by decide +kernel
theorem dX8_findInGrid_0 : decode cX8_findInGrid 0 = .ok (.aload_n 0, 1) := by decide +kernel
theorem dX8_findInGrid_1 : decode cX8_findInGrid 1 = .ok (.iload_n 2, 1) := by decide +kernel
theorem dX8_findInGrid_2 : decode cX8_findInGrid 2 = .ok (.iconst (-1), 1) := by decide +kernel
theorem dX8_findInGrid_3 : decode cX8_findInGrid 3 = .ok (.invokevirtual 26, 3) := by decide +kernel
theorem dX8_findInGrid_6 : decode cX8_findInGrid 6 = .ok (.iconst 0, 1) := by decide +kernel
theorem dX8_findInGrid_7 : decode cX8_findInGrid 7 = .ok (.istore_n 3, 1) := by decide +kernel
theorem dX8_findInGrid_8 : decode cX8_findInGrid 8 = .ok (.iload_n 3, 1) := by decide +kernel
theorem dX8_findInGrid_9 : decode cX8_findInGrid 9 = .ok (.aload_n 1, 1) := by decide +kernel
theorem dX8_findInGrid_10 : decode cX8_findInGrid 10 = .ok (.invokevirtual 30, 3) := by decide +kernel
theorem dX8_findInGrid_13 : decode cX8_findInGrid 13 = .ok (.if_icmp .ge 21, 3) := by decide +kernel
theorem dX8_findInGrid_16 : decode cX8_findInGrid 16 = .ok (.aload_n 0, 1) := by decide +kernel
theorem dX8_findInGrid_17 : decode cX8_findInGrid 17 = .ok (.getfield 20, 3) := by decide +kernel
theorem dX8_findInGrid_20 : decode cX8_findInGrid 20 = .ok (.iload_n 3, 1) := by decide +kernel
theorem dX8_findInGrid_21 : decode cX8_findInGrid 21 = .ok (.aload_n 1, 1) := by decide +kernel
theorem dX8_findInGrid_22 : decode cX8_findInGrid 22 = .ok (.getfield 36, 3) := by decide +kernel
theorem dX8_findInGrid_25 : decode cX8_findInGrid 25 = .ok (.iload_n 3, 1) := by decide +kernel
theorem dX8_findInGrid_26 : decode cX8_findInGrid 26 = .ok (.iaload, 1) := by decide +kernel
theorem dX8_findInGrid_27 : decode cX8_findInGrid 27 = .ok (.iastore, 1) := by decide +kernel
theorem dX8_findInGrid_28 : decode cX8_findInGrid 28 = .ok (.iinc 3 1, 3) := by decide +kernel
theorem dX8_findInGrid_31 : decode cX8_findInGrid 31 = .ok (.goto (-23), 3) := by decide +kernel
theorem dX8_findInGrid_34 : decode cX8_findInGrid 34 = .ok (.aload_n 0, 1) := by decide +kernel
theorem dX8_findInGrid_35 : decode cX8_findInGrid 35 = .ok (.aload_n 1, 1) := by decide +kernel
theorem dX8_findInGrid_36 : decode cX8_findInGrid 36 = .ok (.iconst 0, 1) := by decide +kernel
theorem dX8_findInGrid_37 : decode cX8_findInGrid 37 = .ok (.invokestatic 39, 3) := by decide +kernel
theorem dX8_findInGrid_40 : decode cX8_findInGrid 40 = .ok (.pop, 1) := by decide +kernel
theorem dX8_findInGrid_41 : decode cX8_findInGrid 41 = .ok (.aload_n 0, 1) := by decide +kernel
theorem dX8_findInGrid_42 : decode cX8_findInGrid 42 = .ok (.getfield 43, 3) := by decide +kernel
theorem dX8_findInGrid_45 : decode cX8_findInGrid 45 = .ok (.ifCond .eq 7, 3) := by decide +kernel
theorem dX8_findInGrid_48 : decode cX8_findInGrid 48 = .ok (.iconst (-1), 1) := by decide +kernel
theorem dX8_findInGrid_49 : decode cX8_findInGrid 49 = .ok (.goto 7, 3) := by decide +kernel
theorem dX8_findInGrid_52 : decode cX8_findInGrid 52 = .ok (.aload_n 0, 1) := by decide +kernel
theorem dX8_findInGrid_53 : decode cX8_findInGrid 53 = .ok (.getfield 47, 3) := by decide +kernel
theorem dX8_findInGrid_56 : decode cX8_findInGrid 56 = .ok (.ireturn, 1) := by decide +kernel
theorem dX8_findsJustOne_0 : decode cX8_findsJustOne 0 = .ok (.aload_n 0, 1) := by decide +kernel
theorem dX8_findsJustOne_1 : decode cX8_findsJustOne 1 = .ok (.iconst 2, 1) := by decide +kernel
theorem dX8_findsJustOne_2 : decode cX8_findsJustOne 2 = .ok (.iload_n 2, 1) := by decide +kernel
theorem dX8_findsJustOne_3 : decode cX8_findsJustOne 3 = .ok (.invokevirtual 26, 3) := by decide +kernel
theorem dX8_findsJustOne_6 : decode cX8_findsJustOne 6 = .ok (.aload_n 0, 1) := by decide +kernel
theorem dX8_findsJustOne_7 : decode cX8_findsJustOne 7 = .ok (.aload_n 1, 1) := by decide +kernel
theorem dX8_findsJustOne_8 : decode cX8_findsJustOne 8 = .ok (.iconst 0, 1) := by decide +kernel
theorem dX8_findsJustOne_9 : decode cX8_findsJustOne 9 = .ok (.invokestatic 39, 3) := by decide +kernel
theorem dX8_findsJustOne_12 : decode cX8_findsJustOne 12 = .ok (.pop, 1) := by decide +kernel
theorem dX8_findsJustOne_13 : decode cX8_findsJustOne 13 = .ok (.aload_n 0, 1) := by decide +kernel
theorem dX8_findsJustOne_14 : decode cX8_findsJustOne 14 = .ok (.getfield 47, 3) := by decide +kernel
theorem dX8_findsJustOne_17 : decode cX8_findsJustOne 17 = .ok (.iconst 1, 1) := by decide +kernel
theorem dX8_findsJustOne_18 : decode cX8_findsJustOne 18 = .ok (.if_icmp .ne 7, 3) := by decide +kernel
theorem dX8_findsJustOne_21 : decode cX8_findsJustOne 21 = .ok (.iconst 1, 1) := by decide +kernel
theorem dX8_findsJustOne_22 : decode cX8_findsJustOne 22 = .ok (.goto 4, 3) := by decide +kernel
theorem dX8_findsJustOne_25 : decode cX8_findsJustOne 25 = .ok (.iconst 0, 1) := by decide +kernel
theorem dX8_findsJustOne_26 : decode cX8_findsJustOne 26 = .ok (.ireturn, 1) := by decide +kernel
theorem dX8_findsOneFrom_0 : decode cX8_findsOneFrom 0 = .ok (.aload_n 0, 1) := by decide +kernel
theorem dX8_findsOneFrom_1 : decode cX8_findsOneFrom 1 = .ok (.iconst 1, 1) := by decide +kernel
theorem dX8_findsOneFrom_2 : decode cX8_findsOneFrom 2 = .ok (.iconst (-1), 1) := by decide +kernel
theorem dX8_findsOneFrom_3 : decode cX8_findsOneFrom 3 = .ok (.invokevirtual 26, 3) := by decide +kernel
theorem dX8_findsOneFrom_6 : decode cX8_findsOneFrom 6 = .ok (.iconst 0, 1) := by decide +kernel
theorem dX8_findsOneFrom_7 : decode cX8_findsOneFrom 7 = .ok (.istore_n 3, 1) := by decide +kernel
theorem dX8_findsOneFrom_8 : decode cX8_findsOneFrom 8 = .ok (.iload_n 3, 1) := by decide +kernel
theorem dX8_findsOneFrom_9 : decode cX8_findsOneFrom 9 = .ok (.aload_n 1, 1) := by decide +kernel
theorem dX8_findsOneFrom_10 : decode cX8_findsOneFrom 10 = .ok (.invokevirtual 30, 3) := by decide +kernel
theorem dX8_findsOneFrom_13 : decode cX8_findsOneFrom 13 = .ok (.if_icmp .ge 18, 3) := by decide +kernel
theorem dX8_findsOneFrom_16 : decode cX8_findsOneFrom 16 = .ok (.aload_n 0, 1) := by decide +kernel
theorem dX8_findsOneFrom_17 : decode cX8_findsOneFrom 17 = .ok (.getfield 23, 3) := by decide +kernel
theorem dX8_findsOneFrom_20 : decode cX8_findsOneFrom 20 = .ok (.iload_n 3, 1) := by decide +kernel
theorem dX8_findsOneFrom_21 : decode cX8_findsOneFrom 21 = .ok (.aload_n 2, 1) := by decide +kernel
theorem dX8_findsOneFrom_22 : decode cX8_findsOneFrom 22 = .ok (.iload_n 3, 1) := by decide +kernel
theorem dX8_findsOneFrom_23 : decode cX8_findsOneFrom 23 = .ok (.iaload, 1) := by decide +kernel
theorem dX8_findsOneFrom_24 : decode cX8_findsOneFrom 24 = .ok (.iastore, 1) := by decide +kernel
theorem dX8_findsOneFrom_25 : decode cX8_findsOneFrom 25 = .ok (.iinc 3 1, 3) := by decide +kernel
theorem dX8_findsOneFrom_28 : decode cX8_findsOneFrom 28 = .ok (.goto (-20), 3) := by decide +kernel
theorem dX8_findsOneFrom_31 : decode cX8_findsOneFrom 31 = .ok (.aload_n 0, 1) := by decide +kernel
theorem dX8_findsOneFrom_32 : decode cX8_findsOneFrom 32 = .ok (.aload_n 1, 1) := by decide +kernel
theorem dX8_findsOneFrom_33 : decode cX8_findsOneFrom 33 = .ok (.iconst 0, 1) := by decide +kernel
theorem dX8_findsOneFrom_34 : decode cX8_findsOneFrom 34 = .ok (.invokestatic 39, 3) := by decide +kernel
theorem dX8_findsOneFrom_37 : decode cX8_findsOneFrom 37 = .ok (.pop, 1) := by decide +kernel
theorem dX8_findsOneFrom_38 : decode cX8_findsOneFrom 38 = .ok (.aload_n 0, 1) := by decide +kernel
theorem dX8_findsOneFrom_39 : decode cX8_findsOneFrom 39 = .ok (.getfield 47, 3) := by decide +kernel
theorem dX8_findsOneFrom_42 : decode cX8_findsOneFrom 42 = .ok (.iconst 1, 1) := by decide +kernel
theorem dX8_findsOneFrom_43 : decode cX8_findsOneFrom 43 = .ok (.if_icmp .ne 7, 3) := by decide +kernel
theorem dX8_findsOneFrom_46 : decode cX8_findsOneFrom 46 = .ok (.iconst 1, 1) := by decide +kernel
theorem dX8_findsOneFrom_47 : decode cX8_findsOneFrom 47 = .ok (.goto 4, 3) := by decide +kernel
theorem dX8_findsOneFrom_50 : decode cX8_findsOneFrom 50 = .ok (.iconst 0, 1) := by decide +kernel
theorem dX8_findsOneFrom_51 : decode cX8_findsOneFrom 51 = .ok (.ireturn, 1) := by decide +kernel
theorem dX8_begin_0 : decode cX8_begin 0 = .ok (.aload_n 0, 1) := by decide +kernel
theorem dX8_begin_1 : decode cX8_begin 1 = .ok (.iload_n 1, 1) := by decide +kernel
theorem dX8_begin_2 : decode cX8_begin 2 = .ok (.putfield 51, 3) := by decide +kernel
theorem dX8_begin_5 : decode cX8_begin 5 = .ok (.aload_n 0, 1) := by decide +kernel
theorem dX8_begin_6 : decode cX8_begin 6 = .ok (.iload_n 2, 1) := by decide +kernel
theorem dX8_begin_7 : decode cX8_begin 7 = .ok (.putfield 54, 3) := by decide +kernel
theorem dX8_begin_10 : decode cX8_begin 10 = .ok (.aload_n 0, 1) := by decide +kernel
theorem dX8_begin_11 : decode cX8_begin 11 = .ok (.iconst 0, 1) := by decide +kernel
theorem dX8_begin_12 : decode cX8_begin 12 = .ok (.putfield 47, 3) := by decide +kernel
theorem dX8_begin_15 : decode cX8_begin 15 = .ok (.aload_n 0, 1) := by decide +kernel
theorem dX8_begin_16 : decode cX8_begin 16 = .ok (.iconst 0, 1) := by decide +kernel
theorem dX8_begin_17 : decode cX8_begin 17 = .ok (.putfield 57, 3) := by decide +kernel
theorem dX8_begin_20 : decode cX8_begin 20 = .ok (.aload_n 0, 1) := by decide +kernel
theorem dX8_begin_21 : decode cX8_begin 21 = .ok (.iconst 0, 1) := by decide +kernel
theorem dX8_begin_22 : decode cX8_begin 22 = .ok (.putfield 43, 3) := by decide +kernel
theorem dX8_begin_25 : decode cX8_begin 25 = .ok (.iconst 0, 1) := by decide +kernel
theorem dX8_begin_26 : decode cX8_begin 26 = .ok (.istore_n 3, 1) := by decide +kernel
theorem dX8_begin_27 : decode cX8_begin 27 = .ok (.iload_n 3, 1) := by decide +kernel
theorem dX8_begin_28 : decode cX8_begin 28 = .ok (.bipush 25, 2) := by decide +kernel
theorem dX8_begin_30 : decode cX8_begin 30 = .ok (.if_icmp .ge 30, 3) := by decide +kernel
theorem dX8_begin_33 : decode cX8_begin 33 = .ok (.aload_n 0, 1) := by decide +kernel
theorem dX8_begin_34 : decode cX8_begin 34 = .ok (.getfield 16, 3) := by decide +kernel
theorem dX8_begin_37 : decode cX8_begin 37 = .ok (.iload_n 3, 1) := by decide +kernel
theorem dX8_begin_38 : decode cX8_begin 38 = .ok (.iconst 0, 1) := by decide +kernel
theorem dX8_begin_39 : decode cX8_begin 39 = .ok (.iastore, 1) := by decide +kernel
theorem dX8_begin_40 : decode cX8_begin 40 = .ok (.aload_n 0, 1) := by decide +kernel
theorem dX8_begin_41 : decode cX8_begin 41 = .ok (.getfield 20, 3) := by decide +kernel
theorem dX8_begin_44 : decode cX8_begin 44 = .ok (.iload_n 3, 1) := by decide +kernel
theorem dX8_begin_45 : decode cX8_begin 45 = .ok (.iconst 0, 1) := by decide +kernel
theorem dX8_begin_46 : decode cX8_begin 46 = .ok (.iastore, 1) := by decide +kernel
theorem dX8_begin_47 : decode cX8_begin 47 = .ok (.aload_n 0, 1) := by decide +kernel
theorem dX8_begin_48 : decode cX8_begin 48 = .ok (.getfield 23, 3) := by decide +kernel
theorem dX8_begin_51 : decode cX8_begin 51 = .ok (.iload_n 3, 1) := by decide +kernel
theorem dX8_begin_52 : decode cX8_begin 52 = .ok (.iconst 1, 1) := by decide +kernel
theorem dX8_begin_53 : decode cX8_begin 53 = .ok (.iastore, 1) := by decide +kernel
theorem dX8_begin_54 : decode cX8_begin 54 = .ok (.iinc 3 1, 3) := by decide +kernel
theorem dX8_begin_57 : decode cX8_begin 57 = .ok (.goto (-30), 3) := by decide +kernel
theorem dX8_begin_60 : decode cX8_begin 60 = .ok (.return_, 1) := by decide +kernel
theorem dX8_endsFrom_0 : decode cX8_endsFrom 0 = .ok (.iload_n 2, 1) := by decide +kernel
theorem dX8_endsFrom_1 : decode cX8_endsFrom 1 = .ok (.aload_n 1, 1) := by decide +kernel
theorem dX8_endsFrom_2 : decode cX8_endsFrom 2 = .ok (.invokevirtual 30, 3) := by decide +kernel
theorem dX8_endsFrom_5 : decode cX8_endsFrom 5 = .ok (.if_icmp .ge 9, 3) := by decide +kernel
theorem dX8_endsFrom_8 : decode cX8_endsFrom 8 = .ok (.iload_n 2, 1) := by decide +kernel
theorem dX8_endsFrom_9 : decode cX8_endsFrom 9 = .ok (.bipush 25, 2) := by decide +kernel
theorem dX8_endsFrom_11 : decode cX8_endsFrom 11 = .ok (.if_icmp .lt 24, 3) := by decide +kernel
theorem dX8_endsFrom_14 : decode cX8_endsFrom 14 = .ok (.aload_n 0, 1) := by decide +kernel
theorem dX8_endsFrom_15 : decode cX8_endsFrom 15 = .ok (.invokevirtual 60, 3) := by decide +kernel
theorem dX8_endsFrom_18 : decode cX8_endsFrom 18 = .ok (.aload_n 0, 1) := by decide +kernel
theorem dX8_endsFrom_19 : decode cX8_endsFrom 19 = .ok (.getfield 47, 3) := by decide +kernel
theorem dX8_endsFrom_22 : decode cX8_endsFrom 22 = .ok (.aload_n 0, 1) := by decide +kernel
theorem dX8_endsFrom_23 : decode cX8_endsFrom 23 = .ok (.getfield 51, 3) := by decide +kernel
theorem dX8_endsFrom_26 : decode cX8_endsFrom 26 = .ok (.if_icmp .lt 7, 3) := by decide +kernel
theorem dX8_endsFrom_29 : decode cX8_endsFrom 29 = .ok (.iconst 1, 1) := by decide +kernel
theorem dX8_endsFrom_30 : decode cX8_endsFrom 30 = .ok (.goto 4, 3) := by decide +kernel
theorem dX8_endsFrom_33 : decode cX8_endsFrom 33 = .ok (.iconst 0, 1) := by decide +kernel
theorem dX8_endsFrom_34 : decode cX8_endsFrom 34 = .ok (.ireturn, 1) := by decide +kernel
theorem dX8_endsFrom_35 : decode cX8_endsFrom 35 = .ok (.aload_n 0, 1) := by decide +kernel
theorem dX8_endsFrom_36 : decode cX8_endsFrom 36 = .ok (.getfield 20, 3) := by decide +kernel
theorem dX8_endsFrom_39 : decode cX8_endsFrom 39 = .ok (.iload_n 2, 1) := by decide +kernel
theorem dX8_endsFrom_40 : decode cX8_endsFrom 40 = .ok (.iaload, 1) := by decide +kernel
theorem dX8_endsFrom_41 : decode cX8_endsFrom 41 = .ok (.ifCond .ne 10, 3) := by decide +kernel
theorem dX8_endsFrom_44 : decode cX8_endsFrom 44 = .ok (.aload_n 1, 1) := by decide +kernel
theorem dX8_endsFrom_45 : decode cX8_endsFrom 45 = .ok (.getfield 63, 3) := by decide +kernel
theorem dX8_endsFrom_48 : decode cX8_endsFrom 48 = .ok (.goto 4, 3) := by decide +kernel
theorem dX8_endsFrom_51 : decode cX8_endsFrom 51 = .ok (.iconst 1, 1) := by decide +kernel
theorem dX8_endsFrom_52 : decode cX8_endsFrom 52 = .ok (.istore_n 3, 1) := by decide +kernel
theorem dX8_endsFrom_53 : decode cX8_endsFrom 53 = .ok (.iconst 0, 1) := by decide +kernel
theorem dX8_endsFrom_54 : decode cX8_endsFrom 54 = .ok (.istore 4, 2) := by decide +kernel
theorem dX8_endsFrom_56 : decode cX8_endsFrom 56 = .ok (.iload 4, 2) := by decide +kernel
theorem dX8_endsFrom_58 : decode cX8_endsFrom 58 = .ok (.iload_n 3, 1) := by decide +kernel
theorem dX8_endsFrom_59 : decode cX8_endsFrom 59 = .ok (.if_icmp .ge 81, 3) := by decide +kernel
theorem dX8_endsFrom_62 : decode cX8_endsFrom 62 = .ok (.aload_n 0, 1) := by decide +kernel
theorem dX8_endsFrom_63 : decode cX8_endsFrom 63 = .ok (.getfield 57, 3) := by decide +kernel
theorem dX8_endsFrom_66 : decode cX8_endsFrom 66 = .ok (.sipush 5000, 3) := by decide +kernel
theorem dX8_endsFrom_69 : decode cX8_endsFrom 69 = .ok (.if_icmp .lt 9, 3) := by decide +kernel
theorem dX8_endsFrom_72 : decode cX8_endsFrom 72 = .ok (.aload_n 0, 1) := by decide +kernel
theorem dX8_endsFrom_73 : decode cX8_endsFrom 73 = .ok (.invokevirtual 66, 3) := by decide +kernel
theorem dX8_endsFrom_76 : decode cX8_endsFrom 76 = .ok (.iconst 1, 1) := by decide +kernel
theorem dX8_endsFrom_77 : decode cX8_endsFrom 77 = .ok (.ireturn, 1) := by decide +kernel
theorem dX8_endsFrom_78 : decode cX8_endsFrom 78 = .ok (.aload_n 0, 1) := by decide +kernel
theorem dX8_endsFrom_79 : decode cX8_endsFrom 79 = .ok (.dup, 1) := by decide +kernel
theorem dX8_endsFrom_80 : decode cX8_endsFrom 80 = .ok (.getfield 57, 3) := by decide +kernel
theorem dX8_endsFrom_83 : decode cX8_endsFrom 83 = .ok (.iconst 1, 1) := by decide +kernel
theorem dX8_endsFrom_84 : decode cX8_endsFrom 84 = .ok (.iadd, 1) := by decide +kernel
theorem dX8_endsFrom_85 : decode cX8_endsFrom 85 = .ok (.putfield 57, 3) := by decide +kernel
theorem dX8_endsFrom_88 : decode cX8_endsFrom 88 = .ok (.aload_n 0, 1) := by decide +kernel
theorem dX8_endsFrom_89 : decode cX8_endsFrom 89 = .ok (.getfield 16, 3) := by decide +kernel
theorem dX8_endsFrom_92 : decode cX8_endsFrom 92 = .ok (.iload_n 2, 1) := by decide +kernel
theorem dX8_endsFrom_93 : decode cX8_endsFrom 93 = .ok (.aload_n 0, 1) := by decide +kernel
theorem dX8_endsFrom_94 : decode cX8_endsFrom 94 = .ok (.iload_n 2, 1) := by decide +kernel
theorem dX8_endsFrom_95 : decode cX8_endsFrom 95 = .ok (.iload 4, 2) := by decide +kernel
theorem dX8_endsFrom_97 : decode cX8_endsFrom 97 = .ok (.aload_n 1, 1) := by decide +kernel
theorem dX8_endsFrom_98 : decode cX8_endsFrom 98 = .ok (.getfield 63, 3) := by decide +kernel
theorem dX8_endsFrom_101 : decode cX8_endsFrom 101 = .ok (.invokevirtual 69, 3) := by decide +kernel
theorem dX8_endsFrom_104 : decode cX8_endsFrom 104 = .ok (.iastore, 1) := by decide +kernel
theorem dX8_endsFrom_105 : decode cX8_endsFrom 105 = .ok (.aload_n 1, 1) := by decide +kernel
theorem dX8_endsFrom_106 : decode cX8_endsFrom 106 = .ok (.iload_n 2, 1) := by decide +kernel
theorem dX8_endsFrom_107 : decode cX8_endsFrom 107 = .ok (.aload_n 0, 1) := by decide +kernel
theorem dX8_endsFrom_108 : decode cX8_endsFrom 108 = .ok (.getfield 16, 3) := by decide +kernel
theorem dX8_endsFrom_111 : decode cX8_endsFrom 111 = .ok (.aload_n 0, 1) := by decide +kernel
theorem dX8_endsFrom_112 : decode cX8_endsFrom 112 = .ok (.getfield 54, 3) := by decide +kernel
theorem dX8_endsFrom_115 : decode cX8_endsFrom 115 = .ok (.invokevirtual 73, 3) := by decide +kernel
theorem dX8_endsFrom_118 : decode cX8_endsFrom 118 = .ok (.ifCond .ne 16, 3) := by decide +kernel
theorem dX8_endsFrom_121 : decode cX8_endsFrom 121 = .ok (.aload_n 0, 1) := by decide +kernel
theorem dX8_endsFrom_122 : decode cX8_endsFrom 122 = .ok (.aload_n 1, 1) := by decide +kernel
theorem dX8_endsFrom_123 : decode cX8_endsFrom 123 = .ok (.iload_n 2, 1) := by decide +kernel
theorem dX8_endsFrom_124 : decode cX8_endsFrom 124 = .ok (.iconst 1, 1) := by decide +kernel
theorem dX8_endsFrom_125 : decode cX8_endsFrom 125 = .ok (.iadd, 1) := by decide +kernel
theorem dX8_endsFrom_126 : decode cX8_endsFrom 126 = .ok (.invokestatic 39, 3) := by decide +kernel
theorem dX8_endsFrom_129 : decode cX8_endsFrom 129 = .ok (.ifCond .eq 5, 3) := by decide +kernel
theorem dX8_endsFrom_132 : decode cX8_endsFrom 132 = .ok (.iconst 1, 1) := by decide +kernel
theorem dX8_endsFrom_133 : decode cX8_endsFrom 133 = .ok (.ireturn, 1) := by decide +kernel
theorem dX8_endsFrom_134 : decode cX8_endsFrom 134 = .ok (.iinc 4 1, 3) := by decide +kernel
theorem dX8_endsFrom_137 : decode cX8_endsFrom 137 = .ok (.goto (-81), 3) := by decide +kernel
theorem dX8_endsFrom_140 : decode cX8_endsFrom 140 = .ok (.aload_n 0, 1) := by decide +kernel
theorem dX8_endsFrom_141 : decode cX8_endsFrom 141 = .ok (.getfield 16, 3) := by decide +kernel
theorem dX8_endsFrom_144 : decode cX8_endsFrom 144 = .ok (.iload_n 2, 1) := by decide +kernel
theorem dX8_endsFrom_145 : decode cX8_endsFrom 145 = .ok (.iconst 0, 1) := by decide +kernel
theorem dX8_endsFrom_146 : decode cX8_endsFrom 146 = .ok (.iastore, 1) := by decide +kernel
theorem dX8_endsFrom_147 : decode cX8_endsFrom 147 = .ok (.iconst 0, 1) := by decide +kernel
theorem dX8_endsFrom_148 : decode cX8_endsFrom 148 = .ok (.ireturn, 1) := by decide +kernel
theorem dX8_choice_0 : decode cX8_choice 0 = .ok (.aload_n 0, 1) := by decide +kernel
theorem dX8_choice_1 : decode cX8_choice 1 = .ok (.getfield 20, 3) := by decide +kernel
theorem dX8_choice_4 : decode cX8_choice 4 = .ok (.iload_n 1, 1) := by decide +kernel
theorem dX8_choice_5 : decode cX8_choice 5 = .ok (.iaload, 1) := by decide +kernel
theorem dX8_choice_6 : decode cX8_choice 6 = .ok (.ifCond .eq 10, 3) := by decide +kernel
theorem dX8_choice_9 : decode cX8_choice 9 = .ok (.aload_n 0, 1) := by decide +kernel
theorem dX8_choice_10 : decode cX8_choice 10 = .ok (.getfield 20, 3) := by decide +kernel
theorem dX8_choice_13 : decode cX8_choice 13 = .ok (.iload_n 1, 1) := by decide +kernel
theorem dX8_choice_14 : decode cX8_choice 14 = .ok (.iaload, 1) := by decide +kernel
theorem dX8_choice_15 : decode cX8_choice 15 = .ok (.ireturn, 1) := by decide +kernel
theorem dX8_choice_16 : decode cX8_choice 16 = .ok (.aload_n 0, 1) := by decide +kernel
theorem dX8_choice_17 : decode cX8_choice 17 = .ok (.getfield 23, 3) := by decide +kernel
theorem dX8_choice_20 : decode cX8_choice 20 = .ok (.iload_n 1, 1) := by decide +kernel
theorem dX8_choice_21 : decode cX8_choice 21 = .ok (.iaload, 1) := by decide +kernel
theorem dX8_choice_22 : decode cX8_choice 22 = .ok (.iload_n 2, 1) := by decide +kernel
theorem dX8_choice_23 : decode cX8_choice 23 = .ok (.iadd, 1) := by decide +kernel
theorem dX8_choice_24 : decode cX8_choice 24 = .ok (.istore 4, 2) := by decide +kernel
theorem dX8_choice_26 : decode cX8_choice 26 = .ok (.iload 4, 2) := by decide +kernel
theorem dX8_choice_28 : decode cX8_choice 28 = .ok (.iload_n 3, 1) := by decide +kernel
theorem dX8_choice_29 : decode cX8_choice 29 = .ok (.if_icmp .le 10, 3) := by decide +kernel
theorem dX8_choice_32 : decode cX8_choice 32 = .ok (.iload 4, 2) := by decide +kernel
theorem dX8_choice_34 : decode cX8_choice 34 = .ok (.iload_n 3, 1) := by decide +kernel
theorem dX8_choice_35 : decode cX8_choice 35 = .ok (.isub, 1) := by decide +kernel
theorem dX8_choice_36 : decode cX8_choice 36 = .ok (.goto 5, 3) := by decide +kernel
theorem dX8_choice_39 : decode cX8_choice 39 = .ok (.iload 4, 2) := by decide +kernel
theorem dX8_choice_41 : decode cX8_choice 41 = .ok (.ireturn, 1) := by decide +kernel
theorem dX8_giveUp_0 : decode cX8_giveUp 0 = .ok (.aload_n 0, 1) := by decide +kernel
theorem dX8_giveUp_1 : decode cX8_giveUp 1 = .ok (.iconst 1, 1) := by decide +kernel
theorem dX8_giveUp_2 : decode cX8_giveUp 2 = .ok (.putfield 43, 3) := by decide +kernel
theorem dX8_giveUp_5 : decode cX8_giveUp 5 = .ok (.aload_n 0, 1) := by decide +kernel
theorem dX8_giveUp_6 : decode cX8_giveUp 6 = .ok (.iconst 0, 1) := by decide +kernel
theorem dX8_giveUp_7 : decode cX8_giveUp 7 = .ok (.putfield 47, 3) := by decide +kernel
theorem dX8_giveUp_10 : decode cX8_giveUp 10 = .ok (.return_, 1) := by decide +kernel
theorem dX8_keep_0 : decode cX8_keep 0 = .ok (.aload_n 0, 1) := by decide +kernel
theorem dX8_keep_1 : decode cX8_keep 1 = .ok (.getfield 47, 3) := by decide +kernel
theorem dX8_keep_4 : decode cX8_keep 4 = .ok (.aload_n 0, 1) := by decide +kernel
theorem dX8_keep_5 : decode cX8_keep 5 = .ok (.getfield 11, 3) := by decide +kernel
theorem dX8_keep_8 : decode cX8_keep 8 = .ok (.arraylength, 1) := by decide +kernel
theorem dX8_keep_9 : decode cX8_keep 9 = .ok (.if_icmp .ge 44, 3) := by decide +kernel
theorem dX8_keep_12 : decode cX8_keep 12 = .ok (.iconst 0, 1) := by decide +kernel
theorem dX8_keep_13 : decode cX8_keep 13 = .ok (.istore_n 1, 1) := by decide +kernel
theorem dX8_keep_14 : decode cX8_keep 14 = .ok (.iload_n 1, 1) := by decide +kernel
theorem dX8_keep_15 : decode cX8_keep 15 = .ok (.bipush 25, 2) := by decide +kernel
theorem dX8_keep_17 : decode cX8_keep 17 = .ok (.if_icmp .ge 26, 3) := by decide +kernel
theorem dX8_keep_20 : decode cX8_keep 20 = .ok (.aload_n 0, 1) := by decide +kernel
theorem dX8_keep_21 : decode cX8_keep 21 = .ok (.getfield 11, 3) := by decide +kernel
theorem dX8_keep_24 : decode cX8_keep 24 = .ok (.aload_n 0, 1) := by decide +kernel
theorem dX8_keep_25 : decode cX8_keep 25 = .ok (.getfield 47, 3) := by decide +kernel
theorem dX8_keep_28 : decode cX8_keep 28 = .ok (.aaload, 1) := by decide +kernel
theorem dX8_keep_29 : decode cX8_keep 29 = .ok (.iload_n 1, 1) := by decide +kernel
theorem dX8_keep_30 : decode cX8_keep 30 = .ok (.aload_n 0, 1) := by decide +kernel
theorem dX8_keep_31 : decode cX8_keep 31 = .ok (.getfield 16, 3) := by decide +kernel
theorem dX8_keep_34 : decode cX8_keep 34 = .ok (.iload_n 1, 1) := by decide +kernel
theorem dX8_keep_35 : decode cX8_keep 35 = .ok (.iaload, 1) := by decide +kernel
theorem dX8_keep_36 : decode cX8_keep 36 = .ok (.iastore, 1) := by decide +kernel
theorem dX8_keep_37 : decode cX8_keep 37 = .ok (.iinc 1 1, 3) := by decide +kernel
theorem dX8_keep_40 : decode cX8_keep 40 = .ok (.goto (-26), 3) := by decide +kernel
theorem dX8_keep_43 : decode cX8_keep 43 = .ok (.aload_n 0, 1) := by decide +kernel
theorem dX8_keep_44 : decode cX8_keep 44 = .ok (.dup, 1) := by decide +kernel
theorem dX8_keep_45 : decode cX8_keep 45 = .ok (.getfield 47, 3) := by decide +kernel
theorem dX8_keep_48 : decode cX8_keep 48 = .ok (.iconst 1, 1) := by decide +kernel
theorem dX8_keep_49 : decode cX8_keep 49 = .ok (.iadd, 1) := by decide +kernel
theorem dX8_keep_50 : decode cX8_keep 50 = .ok (.putfield 47, 3) := by decide +kernel
theorem dX8_keep_53 : decode cX8_keep 53 = .ok (.return_, 1) := by decide +kernel
theorem dX9_init_0 : decode cX9_init 0 = .ok (.aload_n 0, 1) := by decide +kernel
theorem dX9_init_1 : decode cX9_init 1 = .ok (.invokespecial 3, 3) := by decide +kernel
theorem dX9_init_4 : decode cX9_init 4 = .ok (.aload_n 0, 1) := by decide +kernel
theorem dX9_init_5 : decode cX9_init 5 = .ok (.sipush 1600, 3) := by decide +kernel
theorem dX9_init_8 : decode cX9_init 8 = .ok (.newarray .int, 2) := by decide +kernel
theorem dX9_init_10 : decode cX9_init 10 = .ok (.putfield 9, 3) := by decide +kernel
theorem dX9_init_13 : decode cX9_init 13 = .ok (.return_, 1) := by decide +kernel
theorem dX9_appendFour_0 : decode cX9_appendFour 0 = .ok (.bipush 24, 2) := by decide +kernel
theorem dX9_appendFour_2 : decode cX9_appendFour 2 = .ok (.istore_n 2, 1) := by decide +kernel
theorem dX9_appendFour_3 : decode cX9_appendFour 3 = .ok (.iload_n 2, 1) := by decide +kernel
theorem dX9_appendFour_4 : decode cX9_appendFour 4 = .ok (.ifCond .lt 47, 3) := by decide +kernel
theorem dX9_appendFour_7 : decode cX9_appendFour 7 = .ok (.aload_n 0, 1) := by decide +kernel
theorem dX9_appendFour_8 : decode cX9_appendFour 8 = .ok (.getfield 15, 3) := by decide +kernel
theorem dX9_appendFour_11 : decode cX9_appendFour 11 = .ok (.aload_n 0, 1) := by decide +kernel
theorem dX9_appendFour_12 : decode cX9_appendFour 12 = .ok (.getfield 9, 3) := by decide +kernel
theorem dX9_appendFour_15 : decode cX9_appendFour 15 = .ok (.arraylength, 1) := by decide +kernel
theorem dX9_appendFour_16 : decode cX9_appendFour 16 = .ok (.if_icmp .ge 35, 3) := by decide +kernel
theorem dX9_appendFour_19 : decode cX9_appendFour 19 = .ok (.aload_n 0, 1) := by decide +kernel
theorem dX9_appendFour_20 : decode cX9_appendFour 20 = .ok (.getfield 9, 3) := by decide +kernel
theorem dX9_appendFour_23 : decode cX9_appendFour 23 = .ok (.aload_n 0, 1) := by decide +kernel
theorem dX9_appendFour_24 : decode cX9_appendFour 24 = .ok (.getfield 15, 3) := by decide +kernel
theorem dX9_appendFour_27 : decode cX9_appendFour 27 = .ok (.iload_n 1, 1) := by decide +kernel
theorem dX9_appendFour_28 : decode cX9_appendFour 28 = .ok (.iload_n 2, 1) := by decide +kernel
theorem dX9_appendFour_29 : decode cX9_appendFour 29 = .ok (.ishr, 1) := by decide +kernel
theorem dX9_appendFour_30 : decode cX9_appendFour 30 = .ok (.sipush 255, 3) := by decide +kernel
theorem dX9_appendFour_33 : decode cX9_appendFour 33 = .ok (.iand, 1) := by decide +kernel
theorem dX9_appendFour_34 : decode cX9_appendFour 34 = .ok (.iastore, 1) := by decide +kernel
theorem dX9_appendFour_35 : decode cX9_appendFour 35 = .ok (.aload_n 0, 1) := by decide +kernel
theorem dX9_appendFour_36 : decode cX9_appendFour 36 = .ok (.dup, 1) := by decide +kernel
theorem dX9_appendFour_37 : decode cX9_appendFour 37 = .ok (.getfield 15, 3) := by decide +kernel
theorem dX9_appendFour_40 : decode cX9_appendFour 40 = .ok (.iconst 1, 1) := by decide +kernel
theorem dX9_appendFour_41 : decode cX9_appendFour 41 = .ok (.iadd, 1) := by decide +kernel
theorem dX9_appendFour_42 : decode cX9_appendFour 42 = .ok (.putfield 15, 3) := by decide +kernel
theorem dX9_appendFour_45 : decode cX9_appendFour 45 = .ok (.iinc 2 (-8), 3) := by decide +kernel
theorem dX9_appendFour_48 : decode cX9_appendFour 48 = .ok (.goto (-45), 3) := by decide +kernel
theorem dX9_appendFour_51 : decode cX9_appendFour 51 = .ok (.return_, 1) := by decide +kernel
theorem dX9_byteOrNone_0 : decode cX9_byteOrNone 0 = .ok (.iload_n 1, 1) := by decide +kernel
theorem dX9_byteOrNone_1 : decode cX9_byteOrNone 1 = .ok (.ifCond .lt 29, 3) := by decide +kernel
theorem dX9_byteOrNone_4 : decode cX9_byteOrNone 4 = .ok (.iload_n 1, 1) := by decide +kernel
theorem dX9_byteOrNone_5 : decode cX9_byteOrNone 5 = .ok (.aload_n 0, 1) := by decide +kernel
theorem dX9_byteOrNone_6 : decode cX9_byteOrNone 6 = .ok (.getfield 15, 3) := by decide +kernel
theorem dX9_byteOrNone_9 : decode cX9_byteOrNone 9 = .ok (.if_icmp .ge 21, 3) := by decide +kernel
theorem dX9_byteOrNone_12 : decode cX9_byteOrNone 12 = .ok (.iload_n 1, 1) := by decide +kernel
theorem dX9_byteOrNone_13 : decode cX9_byteOrNone 13 = .ok (.aload_n 0, 1) := by decide +kernel
theorem dX9_byteOrNone_14 : decode cX9_byteOrNone 14 = .ok (.getfield 9, 3) := by decide +kernel
theorem dX9_byteOrNone_17 : decode cX9_byteOrNone 17 = .ok (.arraylength, 1) := by decide +kernel
theorem dX9_byteOrNone_18 : decode cX9_byteOrNone 18 = .ok (.if_icmp .ge 12, 3) := by decide +kernel
theorem dX9_byteOrNone_21 : decode cX9_byteOrNone 21 = .ok (.aload_n 0, 1) := by decide +kernel
theorem dX9_byteOrNone_22 : decode cX9_byteOrNone 22 = .ok (.getfield 9, 3) := by decide +kernel
theorem dX9_byteOrNone_25 : decode cX9_byteOrNone 25 = .ok (.iload_n 1, 1) := by decide +kernel
theorem dX9_byteOrNone_26 : decode cX9_byteOrNone 26 = .ok (.iaload, 1) := by decide +kernel
theorem dX9_byteOrNone_27 : decode cX9_byteOrNone 27 = .ok (.goto 4, 3) := by decide +kernel
theorem dX9_byteOrNone_30 : decode cX9_byteOrNone 30 = .ok (.iconst (-1), 1) := by decide +kernel
theorem dX9_byteOrNone_31 : decode cX9_byteOrNone 31 = .ok (.ireturn, 1) := by decide +kernel
theorem dX10_init_0 : decode cX10_init 0 = .ok (.aload_n 0, 1) := by decide +kernel
theorem dX10_init_1 : decode cX10_init 1 = .ok (.invokespecial 3, 3) := by decide +kernel
theorem dX10_init_4 : decode cX10_init 4 = .ok (.aload_n 0, 1) := by decide +kernel
theorem dX10_init_5 : decode cX10_init 5 = .ok (.sipush 1601, 3) := by decide +kernel
theorem dX10_init_8 : decode cX10_init 8 = .ok (.newarray .int, 2) := by decide +kernel
theorem dX10_init_10 : decode cX10_init 10 = .ok (.putfield 9, 3) := by decide +kernel
theorem dX10_init_13 : decode cX10_init 13 = .ok (.aload_n 0, 1) := by decide +kernel
theorem dX10_init_14 : decode cX10_init 14 = .ok (.sipush 1601, 3) := by decide +kernel
theorem dX10_init_17 : decode cX10_init 17 = .ok (.newarray .int, 2) := by decide +kernel
theorem dX10_init_19 : decode cX10_init 19 = .ok (.putfield 15, 3) := by decide +kernel
theorem dX10_init_22 : decode cX10_init 22 = .ok (.aload_n 0, 1) := by decide +kernel
theorem dX10_init_23 : decode cX10_init 23 = .ok (.sipush 1601, 3) := by decide +kernel
theorem dX10_init_26 : decode cX10_init 26 = .ok (.newarray .int, 2) := by decide +kernel
theorem dX10_init_28 : decode cX10_init 28 = .ok (.putfield 18, 3) := by decide +kernel
theorem dX10_init_31 : decode cX10_init 31 = .ok (.return_, 1) := by decide +kernel
theorem dX10_typeAt_0 : decode cX10_typeAt 0 = .ok (.iload_n 1, 1) := by decide +kernel
theorem dX10_typeAt_1 : decode cX10_typeAt 1 = .ok (.ifCond .lt 20, 3) := by decide +kernel
theorem dX10_typeAt_4 : decode cX10_typeAt 4 = .ok (.iload_n 1, 1) := by decide +kernel
theorem dX10_typeAt_5 : decode cX10_typeAt 5 = .ok (.aload_n 0, 1) := by decide +kernel
theorem dX10_typeAt_6 : decode cX10_typeAt 6 = .ok (.getfield 21, 3) := by decide +kernel
theorem dX10_typeAt_9 : decode cX10_typeAt 9 = .ok (.if_icmp .ge 12, 3) := by decide +kernel
theorem dX10_typeAt_12 : decode cX10_typeAt 12 = .ok (.aload_n 0, 1) := by decide +kernel
theorem dX10_typeAt_13 : decode cX10_typeAt 13 = .ok (.getfield 9, 3) := by decide +kernel
theorem dX10_typeAt_16 : decode cX10_typeAt 16 = .ok (.iload_n 1, 1) := by decide +kernel
theorem dX10_typeAt_17 : decode cX10_typeAt 17 = .ok (.iaload, 1) := by decide +kernel
theorem dX10_typeAt_18 : decode cX10_typeAt 18 = .ok (.goto 4, 3) := by decide +kernel
theorem dX10_typeAt_21 : decode cX10_typeAt 21 = .ok (.iconst 0, 1) := by decide +kernel
theorem dX10_typeAt_22 : decode cX10_typeAt 22 = .ok (.ireturn, 1) := by decide +kernel
theorem dX10_startAt_0 : decode cX10_startAt 0 = .ok (.iload_n 1, 1) := by decide +kernel
theorem dX10_startAt_1 : decode cX10_startAt 1 = .ok (.ifCond .lt 20, 3) := by decide +kernel
theorem dX10_startAt_4 : decode cX10_startAt 4 = .ok (.iload_n 1, 1) := by decide +kernel
theorem dX10_startAt_5 : decode cX10_startAt 5 = .ok (.aload_n 0, 1) := by decide +kernel
theorem dX10_startAt_6 : decode cX10_startAt 6 = .ok (.getfield 21, 3) := by decide +kernel
theorem dX10_startAt_9 : decode cX10_startAt 9 = .ok (.if_icmp .ge 12, 3) := by decide +kernel
theorem dX10_startAt_12 : decode cX10_startAt 12 = .ok (.aload_n 0, 1) := by decide +kernel
theorem dX10_startAt_13 : decode cX10_startAt 13 = .ok (.getfield 15, 3) := by decide +kernel
theorem dX10_startAt_16 : decode cX10_startAt 16 = .ok (.iload_n 1, 1) := by decide +kernel
theorem dX10_startAt_17 : decode cX10_startAt 17 = .ok (.iaload, 1) := by decide +kernel
theorem dX10_startAt_18 : decode cX10_startAt 18 = .ok (.goto 4, 3) := by decide +kernel
theorem dX10_startAt_21 : decode cX10_startAt 21 = .ok (.iconst (-1), 1) := by decide +kernel
theorem dX10_startAt_22 : decode cX10_startAt 22 = .ok (.ireturn, 1) := by decide +kernel
theorem dX10_numberAt_0 : decode cX10_numberAt 0 = .ok (.iload_n 1, 1) := by decide +kernel
theorem dX10_numberAt_1 : decode cX10_numberAt 1 = .ok (.ifCond .lt 20, 3) := by decide +kernel
theorem dX10_numberAt_4 : decode cX10_numberAt 4 = .ok (.iload_n 1, 1) := by decide +kernel
theorem dX10_numberAt_5 : decode cX10_numberAt 5 = .ok (.aload_n 0, 1) := by decide +kernel
theorem dX10_numberAt_6 : decode cX10_numberAt 6 = .ok (.getfield 21, 3) := by decide +kernel
theorem dX10_numberAt_9 : decode cX10_numberAt 9 = .ok (.if_icmp .ge 12, 3) := by decide +kernel
theorem dX10_numberAt_12 : decode cX10_numberAt 12 = .ok (.aload_n 0, 1) := by decide +kernel
theorem dX10_numberAt_13 : decode cX10_numberAt 13 = .ok (.getfield 18, 3) := by decide +kernel
theorem dX10_numberAt_16 : decode cX10_numberAt 16 = .ok (.iload_n 1, 1) := by decide +kernel
theorem dX10_numberAt_17 : decode cX10_numberAt 17 = .ok (.iaload, 1) := by decide +kernel
theorem dX10_numberAt_18 : decode cX10_numberAt 18 = .ok (.goto 4, 3) := by decide +kernel
theorem dX10_numberAt_21 : decode cX10_numberAt 21 = .ok (.iconst (-1), 1) := by decide +kernel
theorem dX10_numberAt_22 : decode cX10_numberAt 22 = .ok (.ireturn, 1) := by decide +kernel
theorem dX10_split_0 : decode cX10_split 0 = .ok (.aload_n 0, 1) := by decide +kernel
theorem dX10_split_1 : decode cX10_split 1 = .ok (.iconst 0, 1) := by decide +kernel
theorem dX10_split_2 : decode cX10_split 2 = .ok (.putfield 21, 3) := by decide +kernel
theorem dX10_split_5 : decode cX10_split 5 = .ok (.aload_n 1, 1) := by decide +kernel
theorem dX10_split_6 : decode cX10_split 6 = .ok (.iconst 0, 1) := by decide +kernel
theorem dX10_split_7 : decode cX10_split 7 = .ok (.invokestatic 25, 3) := by decide +kernel
theorem dX10_split_10 : decode cX10_split 10 = .ok (.istore_n 2, 1) := by decide +kernel
theorem dX10_split_11 : decode cX10_split 11 = .ok (.iconst 0, 1) := by decide +kernel
theorem dX10_split_12 : decode cX10_split 12 = .ok (.istore_n 3, 1) := by decide +kernel
theorem dX10_split_13 : decode cX10_split 13 = .ok (.iload_n 3, 1) := by decide +kernel
theorem dX10_split_14 : decode cX10_split 14 = .ok (.sipush 1600, 3) := by decide +kernel
theorem dX10_split_17 : decode cX10_split 17 = .ok (.if_icmp .ge 145, 3) := by decide +kernel
theorem dX10_split_20 : decode cX10_split 20 = .ok (.iload_n 2, 1) := by decide +kernel
theorem dX10_split_21 : decode cX10_split 21 = .ok (.aload_n 1, 1) := by decide +kernel
theorem dX10_split_22 : decode cX10_split 22 = .ok (.getfield 29, 3) := by decide +kernel
theorem dX10_split_25 : decode cX10_split 25 = .ok (.if_icmp .ge 137, 3) := by decide +kernel
theorem dX10_split_28 : decode cX10_split 28 = .ok (.aload_n 1, 1) := by decide +kernel
theorem dX10_split_29 : decode cX10_split 29 = .ok (.iload_n 2, 1) := by decide +kernel
theorem dX10_split_30 : decode cX10_split 30 = .ok (.invokevirtual 34, 3) := by decide +kernel
theorem dX10_split_33 : decode cX10_split 33 = .ok (.istore 4, 2) := by decide +kernel
theorem dX10_split_35 : decode cX10_split 35 = .ok (.aload_n 1, 1) := by decide +kernel
theorem dX10_split_36 : decode cX10_split 36 = .ok (.iload_n 2, 1) := by decide +kernel
theorem dX10_split_37 : decode cX10_split 37 = .ok (.iconst 1, 1) := by decide +kernel
theorem dX10_split_38 : decode cX10_split 38 = .ok (.iadd, 1) := by decide +kernel
theorem dX10_split_39 : decode cX10_split 39 = .ok (.invokevirtual 34, 3) := by decide +kernel
theorem dX10_split_42 : decode cX10_split 42 = .ok (.istore 5, 2) := by decide +kernel
theorem dX10_split_44 : decode cX10_split 44 = .ok (.iload_n 2, 1) := by decide +kernel
theorem dX10_split_45 : decode cX10_split 45 = .ok (.iconst 1, 1) := by decide +kernel
theorem dX10_split_46 : decode cX10_split 46 = .ok (.iadd, 1) := by decide +kernel
theorem dX10_split_47 : decode cX10_split 47 = .ok (.istore 6, 2) := by decide +kernel
theorem dX10_split_49 : decode cX10_split 49 = .ok (.iload 4, 2) := by decide +kernel
theorem dX10_split_51 : decode cX10_split 51 = .ok (.invokestatic 38, 3) := by decide +kernel
theorem dX10_split_54 : decode cX10_split 54 = .ok (.ifCond .eq 14, 3) := by decide +kernel
theorem dX10_split_57 : decode cX10_split 57 = .ok (.aload_n 0, 1) := by decide +kernel
theorem dX10_split_58 : decode cX10_split 58 = .ok (.aload_n 1, 1) := by decide +kernel
theorem dX10_split_59 : decode cX10_split 59 = .ok (.iload_n 2, 1) := by decide +kernel
theorem dX10_split_60 : decode cX10_split 60 = .ok (.invokevirtual 42, 3) := by decide +kernel
theorem dX10_split_63 : decode cX10_split 63 = .ok (.istore 6, 2) := by decide +kernel
theorem dX10_split_65 : decode cX10_split 65 = .ok (.goto 84, 3) := by decide +kernel
theorem dX10_split_68 : decode cX10_split 68 = .ok (.iload 4, 2) := by decide +kernel
theorem dX10_split_70 : decode cX10_split 70 = .ok (.invokestatic 45, 3) := by decide +kernel
theorem dX10_split_73 : decode cX10_split 73 = .ok (.ifCond .eq 39, 3) := by decide +kernel
theorem dX10_split_76 : decode cX10_split 76 = .ok (.iload 5, 2) := by decide +kernel
theorem dX10_split_78 : decode cX10_split 78 = .ok (.invokestatic 38, 3) := by decide +kernel
theorem dX10_split_81 : decode cX10_split 81 = .ok (.ifCond .eq 31, 3) := by decide +kernel
theorem dX10_split_84 : decode cX10_split 84 = .ok (.aload_n 0, 1) := by decide +kernel
theorem dX10_split_85 : decode cX10_split 85 = .ok (.iconst 3, 1) := by decide +kernel
theorem dX10_split_86 : decode cX10_split 86 = .ok (.iload_n 2, 1) := by decide +kernel
theorem dX10_split_87 : decode cX10_split 87 = .ok (.bipush 10, 2) := by decide +kernel
theorem dX10_split_89 : decode cX10_split 89 = .ok (.iload 4, 2) := by decide +kernel
theorem dX10_split_91 : decode cX10_split 91 = .ok (.bipush 97, 2) := by decide +kernel
theorem dX10_split_93 : decode cX10_split 93 = .ok (.isub, 1) := by decide +kernel
theorem dX10_split_94 : decode cX10_split 94 = .ok (.imul, 1) := by decide +kernel
theorem dX10_split_95 : decode cX10_split 95 = .ok (.iload 5, 2) := by decide +kernel
theorem dX10_split_97 : decode cX10_split 97 = .ok (.iadd, 1) := by decide +kernel
theorem dX10_split_98 : decode cX10_split 98 = .ok (.bipush 48, 2) := by decide +kernel
theorem dX10_split_100 : decode cX10_split 100 = .ok (.isub, 1) := by decide +kernel
theorem dX10_split_101 : decode cX10_split 101 = .ok (.invokevirtual 48, 3) := by decide +kernel
theorem dX10_split_104 : decode cX10_split 104 = .ok (.iload_n 2, 1) := by decide +kernel
theorem dX10_split_105 : decode cX10_split 105 = .ok (.iconst 2, 1) := by decide +kernel
theorem dX10_split_106 : decode cX10_split 106 = .ok (.iadd, 1) := by decide +kernel
theorem dX10_split_107 : decode cX10_split 107 = .ok (.istore 6, 2) := by decide +kernel
theorem dX10_split_109 : decode cX10_split 109 = .ok (.goto 40, 3) := by decide +kernel
theorem dX10_split_112 : decode cX10_split 112 = .ok (.iload 4, 2) := by decide +kernel
theorem dX10_split_114 : decode cX10_split 114 = .ok (.invokestatic 45, 3) := by decide +kernel
theorem dX10_split_117 : decode cX10_split 117 = .ok (.ifCond .eq 14, 3) := by decide +kernel
theorem dX10_split_120 : decode cX10_split 120 = .ok (.aload_n 0, 1) := by decide +kernel
theorem dX10_split_121 : decode cX10_split 121 = .ok (.aload_n 1, 1) := by decide +kernel
theorem dX10_split_122 : decode cX10_split 122 = .ok (.iload_n 2, 1) := by decide +kernel
theorem dX10_split_123 : decode cX10_split 123 = .ok (.invokevirtual 52, 3) := by decide +kernel
theorem dX10_split_126 : decode cX10_split 126 = .ok (.istore 6, 2) := by decide +kernel
theorem dX10_split_128 : decode cX10_split 128 = .ok (.goto 21, 3) := by decide +kernel
theorem dX10_split_131 : decode cX10_split 131 = .ok (.aload_n 0, 1) := by decide +kernel
theorem dX10_split_132 : decode cX10_split 132 = .ok (.iload 4, 2) := by decide +kernel
theorem dX10_split_134 : decode cX10_split 134 = .ok (.bipush 59, 2) := by decide +kernel
theorem dX10_split_136 : decode cX10_split 136 = .ok (.if_icmp .ne 7, 3) := by decide +kernel
theorem dX10_split_139 : decode cX10_split 139 = .ok (.iconst 4, 1) := by decide +kernel
theorem dX10_split_140 : decode cX10_split 140 = .ok (.goto 4, 3) := by decide +kernel
theorem dX10_split_143 : decode cX10_split 143 = .ok (.iconst 5, 1) := by decide +kernel
theorem dX10_split_144 : decode cX10_split 144 = .ok (.iload_n 2, 1) := by decide +kernel
theorem dX10_split_145 : decode cX10_split 145 = .ok (.iconst (-1), 1) := by decide +kernel
theorem dX10_split_146 : decode cX10_split 146 = .ok (.invokevirtual 48, 3) := by decide +kernel
theorem dX10_split_149 : decode cX10_split 149 = .ok (.aload_n 1, 1) := by decide +kernel
theorem dX10_split_150 : decode cX10_split 150 = .ok (.iload 6, 2) := by decide +kernel
theorem dX10_split_152 : decode cX10_split 152 = .ok (.invokestatic 25, 3) := by decide +kernel
theorem dX10_split_155 : decode cX10_split 155 = .ok (.istore_n 2, 1) := by decide +kernel
theorem dX10_split_156 : decode cX10_split 156 = .ok (.iinc 3 1, 3) := by decide +kernel
theorem dX10_split_159 : decode cX10_split 159 = .ok (.goto (-146), 3) := by decide +kernel
theorem dX10_split_162 : decode cX10_split 162 = .ok (.aload_n 0, 1) := by decide +kernel
theorem dX10_split_163 : decode cX10_split 163 = .ok (.iconst 0, 1) := by decide +kernel
theorem dX10_split_164 : decode cX10_split 164 = .ok (.aload_n 1, 1) := by decide +kernel
theorem dX10_split_165 : decode cX10_split 165 = .ok (.getfield 29, 3) := by decide +kernel
theorem dX10_split_168 : decode cX10_split 168 = .ok (.iconst (-1), 1) := by decide +kernel
theorem dX10_split_169 : decode cX10_split 169 = .ok (.invokevirtual 48, 3) := by decide +kernel
theorem dX10_split_172 : decode cX10_split 172 = .ok (.return_, 1) := by decide +kernel
theorem dX10_add_0 : decode cX10_add 0 = .ok (.aload_n 0, 1) := by decide +kernel
theorem dX10_add_1 : decode cX10_add 1 = .ok (.getfield 21, 3) := by decide +kernel
theorem dX10_add_4 : decode cX10_add 4 = .ok (.aload_n 0, 1) := by decide +kernel
theorem dX10_add_5 : decode cX10_add 5 = .ok (.getfield 9, 3) := by decide +kernel
theorem dX10_add_8 : decode cX10_add 8 = .ok (.arraylength, 1) := by decide +kernel
theorem dX10_add_9 : decode cX10_add 9 = .ok (.if_icmp .ge 43, 3) := by decide +kernel
theorem dX10_add_12 : decode cX10_add 12 = .ok (.aload_n 0, 1) := by decide +kernel
theorem dX10_add_13 : decode cX10_add 13 = .ok (.getfield 9, 3) := by decide +kernel
theorem dX10_add_16 : decode cX10_add 16 = .ok (.aload_n 0, 1) := by decide +kernel
theorem dX10_add_17 : decode cX10_add 17 = .ok (.getfield 21, 3) := by decide +kernel
theorem dX10_add_20 : decode cX10_add 20 = .ok (.iload_n 1, 1) := by decide +kernel
theorem dX10_add_21 : decode cX10_add 21 = .ok (.iastore, 1) := by decide +kernel
theorem dX10_add_22 : decode cX10_add 22 = .ok (.aload_n 0, 1) := by decide +kernel
theorem dX10_add_23 : decode cX10_add 23 = .ok (.getfield 15, 3) := by decide +kernel
theorem dX10_add_26 : decode cX10_add 26 = .ok (.aload_n 0, 1) := by decide +kernel
theorem dX10_add_27 : decode cX10_add 27 = .ok (.getfield 21, 3) := by decide +kernel
theorem dX10_add_30 : decode cX10_add 30 = .ok (.iload_n 2, 1) := by decide +kernel
theorem dX10_add_31 : decode cX10_add 31 = .ok (.iastore, 1) := by decide +kernel
theorem dX10_add_32 : decode cX10_add 32 = .ok (.aload_n 0, 1) := by decide +kernel
theorem dX10_add_33 : decode cX10_add 33 = .ok (.getfield 18, 3) := by decide +kernel
theorem dX10_add_36 : decode cX10_add 36 = .ok (.aload_n 0, 1) := by decide +kernel
theorem dX10_add_37 : decode cX10_add 37 = .ok (.getfield 21, 3) := by decide +kernel
theorem dX10_add_40 : decode cX10_add 40 = .ok (.iload_n 3, 1) := by decide +kernel
theorem dX10_add_41 : decode cX10_add 41 = .ok (.iastore, 1) := by decide +kernel
theorem dX10_add_42 : decode cX10_add 42 = .ok (.aload_n 0, 1) := by decide +kernel
theorem dX10_add_43 : decode cX10_add 43 = .ok (.dup, 1) := by decide +kernel
theorem dX10_add_44 : decode cX10_add 44 = .ok (.getfield 21, 3) := by decide +kernel
theorem dX10_add_47 : decode cX10_add 47 = .ok (.iconst 1, 1) := by decide +kernel
theorem dX10_add_48 : decode cX10_add 48 = .ok (.iadd, 1) := by decide +kernel
theorem dX10_add_49 : decode cX10_add 49 = .ok (.putfield 21, 3) := by decide +kernel
theorem dX10_add_52 : decode cX10_add 52 = .ok (.return_, 1) := by decide +kernel
theorem dX10_addNumber_0 : decode cX10_addNumber 0 = .ok (.iload_n 2, 1) := by decide +kernel
theorem dX10_addNumber_1 : decode cX10_addNumber 1 = .ok (.istore_n 3, 1) := by decide +kernel
theorem dX10_addNumber_2 : decode cX10_addNumber 2 = .ok (.iconst 0, 1) := by decide +kernel
theorem dX10_addNumber_3 : decode cX10_addNumber 3 = .ok (.istore 4, 2) := by decide +kernel
theorem dX10_addNumber_5 : decode cX10_addNumber 5 = .ok (.iload_n 3, 1) := by decide +kernel
theorem dX10_addNumber_6 : decode cX10_addNumber 6 = .ok (.aload_n 1, 1) := by decide +kernel
theorem dX10_addNumber_7 : decode cX10_addNumber 7 = .ok (.getfield 29, 3) := by decide +kernel
theorem dX10_addNumber_10 : decode cX10_addNumber 10 = .ok (.if_icmp .ge 36, 3) := by decide +kernel
theorem dX10_addNumber_13 : decode cX10_addNumber 13 = .ok (.aload_n 1, 1) := by decide +kernel
theorem dX10_addNumber_14 : decode cX10_addNumber 14 = .ok (.iload_n 3, 1) := by decide +kernel
theorem dX10_addNumber_15 : decode cX10_addNumber 15 = .ok (.invokevirtual 34, 3) := by decide +kernel
theorem dX10_addNumber_18 : decode cX10_addNumber 18 = .ok (.invokestatic 38, 3) := by decide +kernel
theorem dX10_addNumber_21 : decode cX10_addNumber 21 = .ok (.ifCond .eq 25, 3) := by decide +kernel
theorem dX10_addNumber_24 : decode cX10_addNumber 24 = .ok (.iload 4, 2) := by decide +kernel
theorem dX10_addNumber_26 : decode cX10_addNumber 26 = .ok (.bipush 10, 2) := by decide +kernel
theorem dX10_addNumber_28 : decode cX10_addNumber 28 = .ok (.imul, 1) := by decide +kernel
theorem dX10_addNumber_29 : decode cX10_addNumber 29 = .ok (.aload_n 1, 1) := by decide +kernel
theorem dX10_addNumber_30 : decode cX10_addNumber 30 = .ok (.iload_n 3, 1) := by decide +kernel
theorem dX10_addNumber_31 : decode cX10_addNumber 31 = .ok (.invokevirtual 34, 3) := by decide +kernel
theorem dX10_addNumber_34 : decode cX10_addNumber 34 = .ok (.iadd, 1) := by decide +kernel
theorem dX10_addNumber_35 : decode cX10_addNumber 35 = .ok (.bipush 48, 2) := by decide +kernel
theorem dX10_addNumber_37 : decode cX10_addNumber 37 = .ok (.isub, 1) := by decide +kernel
theorem dX10_addNumber_38 : decode cX10_addNumber 38 = .ok (.istore 4, 2) := by decide +kernel
theorem dX10_addNumber_40 : decode cX10_addNumber 40 = .ok (.iinc 3 1, 3) := by decide +kernel
theorem dX10_addNumber_43 : decode cX10_addNumber 43 = .ok (.goto (-38), 3) := by decide +kernel
theorem dX10_addNumber_46 : decode cX10_addNumber 46 = .ok (.aload_n 0, 1) := by decide +kernel
theorem dX10_addNumber_47 : decode cX10_addNumber 47 = .ok (.iload_n 3, 1) := by decide +kernel
theorem dX10_addNumber_48 : decode cX10_addNumber 48 = .ok (.iload_n 2, 1) := by decide +kernel
theorem dX10_addNumber_49 : decode cX10_addNumber 49 = .ok (.isub, 1) := by decide +kernel
theorem dX10_addNumber_50 : decode cX10_addNumber 50 = .ok (.iconst 4, 1) := by decide +kernel
theorem dX10_addNumber_51 : decode cX10_addNumber 51 = .ok (.if_icmp .gt 7, 3) := by decide +kernel
theorem dX10_addNumber_54 : decode cX10_addNumber 54 = .ok (.iconst 2, 1) := by decide +kernel
theorem dX10_addNumber_55 : decode cX10_addNumber 55 = .ok (.goto 4, 3) := by decide +kernel
theorem dX10_addNumber_58 : decode cX10_addNumber 58 = .ok (.iconst 5, 1) := by decide +kernel
theorem dX10_addNumber_59 : decode cX10_addNumber 59 = .ok (.iload_n 2, 1) := by decide +kernel
theorem dX10_addNumber_60 : decode cX10_addNumber 60 = .ok (.iload 4, 2) := by decide +kernel
theorem dX10_addNumber_62 : decode cX10_addNumber 62 = .ok (.invokevirtual 48, 3) := by decide +kernel
theorem dX10_addNumber_65 : decode cX10_addNumber 65 = .ok (.iload_n 3, 1) := by decide +kernel
theorem dX10_addNumber_66 : decode cX10_addNumber 66 = .ok (.ireturn, 1) := by decide +kernel
theorem dX10_addWord_0 : decode cX10_addWord 0 = .ok (.iload_n 2, 1) := by decide +kernel
theorem dX10_addWord_1 : decode cX10_addWord 1 = .ok (.istore_n 3, 1) := by decide +kernel
theorem dX10_addWord_2 : decode cX10_addWord 2 = .ok (.iload_n 3, 1) := by decide +kernel
theorem dX10_addWord_3 : decode cX10_addWord 3 = .ok (.aload_n 1, 1) := by decide +kernel
theorem dX10_addWord_4 : decode cX10_addWord 4 = .ok (.getfield 29, 3) := by decide +kernel
theorem dX10_addWord_7 : decode cX10_addWord 7 = .ok (.if_icmp .ge 20, 3) := by decide +kernel
theorem dX10_addWord_10 : decode cX10_addWord 10 = .ok (.aload_n 1, 1) := by decide +kernel
theorem dX10_addWord_11 : decode cX10_addWord 11 = .ok (.iload_n 3, 1) := by decide +kernel
theorem dX10_addWord_12 : decode cX10_addWord 12 = .ok (.invokevirtual 34, 3) := by decide +kernel
theorem dX10_addWord_15 : decode cX10_addWord 15 = .ok (.invokestatic 45, 3) := by decide +kernel
theorem dX10_addWord_18 : decode cX10_addWord 18 = .ok (.ifCond .eq 9, 3) := by decide +kernel
theorem dX10_addWord_21 : decode cX10_addWord 21 = .ok (.iinc 3 1, 3) := by decide +kernel
theorem dX10_addWord_24 : decode cX10_addWord 24 = .ok (.goto (-22), 3) := by decide +kernel
theorem dX10_addWord_27 : decode cX10_addWord 27 = .ok (.iload_n 3, 1) := by decide +kernel
theorem dX10_addWord_28 : decode cX10_addWord 28 = .ok (.iload_n 2, 1) := by decide +kernel
theorem dX10_addWord_29 : decode cX10_addWord 29 = .ok (.isub, 1) := by decide +kernel
theorem dX10_addWord_30 : decode cX10_addWord 30 = .ok (.bipush 8, 2) := by decide +kernel
theorem dX10_addWord_32 : decode cX10_addWord 32 = .ok (.if_icmp .gt 12, 3) := by decide +kernel
theorem dX10_addWord_35 : decode cX10_addWord 35 = .ok (.aload_n 1, 1) := by decide +kernel
theorem dX10_addWord_36 : decode cX10_addWord 36 = .ok (.iload_n 2, 1) := by decide +kernel
theorem dX10_addWord_37 : decode cX10_addWord 37 = .ok (.iload_n 3, 1) := by decide +kernel
theorem dX10_addWord_38 : decode cX10_addWord 38 = .ok (.invokestatic 55, 3) := by decide +kernel
theorem dX10_addWord_41 : decode cX10_addWord 41 = .ok (.goto 4, 3) := by decide +kernel
theorem dX10_addWord_44 : decode cX10_addWord 44 = .ok (.iconst (-1), 1) := by decide +kernel
theorem dX10_addWord_45 : decode cX10_addWord 45 = .ok (.istore 4, 2) := by decide +kernel
theorem dX10_addWord_47 : decode cX10_addWord 47 = .ok (.aload_n 0, 1) := by decide +kernel
theorem dX10_addWord_48 : decode cX10_addWord 48 = .ok (.iload 4, 2) := by decide +kernel
theorem dX10_addWord_50 : decode cX10_addWord 50 = .ok (.iconst (-1), 1) := by decide +kernel
theorem dX10_addWord_51 : decode cX10_addWord 51 = .ok (.if_icmp .ne 7, 3) := by decide +kernel
theorem dX10_addWord_54 : decode cX10_addWord 54 = .ok (.iconst 5, 1) := by decide +kernel
theorem dX10_addWord_55 : decode cX10_addWord 55 = .ok (.goto 4, 3) := by decide +kernel
theorem dX10_addWord_58 : decode cX10_addWord 58 = .ok (.iconst 1, 1) := by decide +kernel
theorem dX10_addWord_59 : decode cX10_addWord 59 = .ok (.iload_n 2, 1) := by decide +kernel
theorem dX10_addWord_60 : decode cX10_addWord 60 = .ok (.iload 4, 2) := by decide +kernel
theorem dX10_addWord_62 : decode cX10_addWord 62 = .ok (.invokevirtual 48, 3) := by decide +kernel
theorem dX10_addWord_65 : decode cX10_addWord 65 = .ok (.iload_n 3, 1) := by decide +kernel
theorem dX10_addWord_66 : decode cX10_addWord 66 = .ok (.ireturn, 1) := by decide +kernel
theorem dX10_wordNumber_0 : decode cX10_wordNumber 0 = .ok (.iconst 0, 1) := by decide +kernel
theorem dX10_wordNumber_1 : decode cX10_wordNumber 1 = .ok (.istore_n 3, 1) := by decide +kernel
theorem dX10_wordNumber_2 : decode cX10_wordNumber 2 = .ok (.iload_n 3, 1) := by decide +kernel
theorem dX10_wordNumber_3 : decode cX10_wordNumber 3 = .ok (.getstatic 59, 3) := by decide +kernel
theorem dX10_wordNumber_6 : decode cX10_wordNumber 6 = .ok (.arraylength, 1) := by decide +kernel
theorem dX10_wordNumber_7 : decode cX10_wordNumber 7 = .ok (.if_icmp .ge 35, 3) := by decide +kernel
theorem dX10_wordNumber_10 : decode cX10_wordNumber 10 = .ok (.aload_n 0, 1) := by decide +kernel
theorem dX10_wordNumber_11 : decode cX10_wordNumber 11 = .ok (.iload_n 1, 1) := by decide +kernel
theorem dX10_wordNumber_12 : decode cX10_wordNumber 12 = .ok (.iload_n 2, 1) := by decide +kernel
theorem dX10_wordNumber_13 : decode cX10_wordNumber 13 = .ok (.getstatic 59, 3) := by decide +kernel
theorem dX10_wordNumber_16 : decode cX10_wordNumber 16 = .ok (.iload_n 3, 1) := by decide +kernel
theorem dX10_wordNumber_17 : decode cX10_wordNumber 17 = .ok (.aaload, 1) := by decide +kernel
theorem dX10_wordNumber_18 : decode cX10_wordNumber 18 = .ok (.getfield 65, 3) := by decide +kernel
theorem dX10_wordNumber_21 : decode cX10_wordNumber 21 = .ok (.invokestatic 69, 3) := by decide +kernel
theorem dX10_wordNumber_24 : decode cX10_wordNumber 24 = .ok (.ifCond .eq 12, 3) := by decide +kernel
theorem dX10_wordNumber_27 : decode cX10_wordNumber 27 = .ok (.getstatic 59, 3) := by decide +kernel
theorem dX10_wordNumber_30 : decode cX10_wordNumber 30 = .ok (.iload_n 3, 1) := by decide +kernel
theorem dX10_wordNumber_31 : decode cX10_wordNumber 31 = .ok (.aaload, 1) := by decide +kernel
theorem dX10_wordNumber_32 : decode cX10_wordNumber 32 = .ok (.getfield 73, 3) := by decide +kernel
theorem dX10_wordNumber_35 : decode cX10_wordNumber 35 = .ok (.ireturn, 1) := by decide +kernel
theorem dX10_wordNumber_36 : decode cX10_wordNumber 36 = .ok (.iinc 3 1, 3) := by decide +kernel
theorem dX10_wordNumber_39 : decode cX10_wordNumber 39 = .ok (.goto (-37), 3) := by decide +kernel
theorem dX10_wordNumber_42 : decode cX10_wordNumber 42 = .ok (.aload_n 0, 1) := by decide +kernel
theorem dX10_wordNumber_43 : decode cX10_wordNumber 43 = .ok (.iload_n 1, 1) := by decide +kernel
theorem dX10_wordNumber_44 : decode cX10_wordNumber 44 = .ok (.iload_n 2, 1) := by decide +kernel
theorem dX10_wordNumber_45 : decode cX10_wordNumber 45 = .ok (.ldc 76, 2) := by decide +kernel
theorem dX10_wordNumber_47 : decode cX10_wordNumber 47 = .ok (.invokestatic 69, 3) := by decide +kernel
theorem dX10_wordNumber_50 : decode cX10_wordNumber 50 = .ok (.ifCond .eq 6, 3) := by decide +kernel
theorem dX10_wordNumber_53 : decode cX10_wordNumber 53 = .ok (.bipush 12, 2) := by decide +kernel
theorem dX10_wordNumber_55 : decode cX10_wordNumber 55 = .ok (.ireturn, 1) := by decide +kernel
theorem dX10_wordNumber_56 : decode cX10_wordNumber 56 = .ok (.aload_n 0, 1) := by decide +kernel
theorem dX10_wordNumber_57 : decode cX10_wordNumber 57 = .ok (.iload_n 1, 1) := by decide +kernel
theorem dX10_wordNumber_58 : decode cX10_wordNumber 58 = .ok (.iload_n 2, 1) := by decide +kernel
theorem dX10_wordNumber_59 : decode cX10_wordNumber 59 = .ok (.ldc 78, 2) := by decide +kernel
theorem dX10_wordNumber_61 : decode cX10_wordNumber 61 = .ok (.invokestatic 69, 3) := by decide +kernel
theorem dX10_wordNumber_64 : decode cX10_wordNumber 64 = .ok (.ifCond .eq 6, 3) := by decide +kernel
theorem dX10_wordNumber_67 : decode cX10_wordNumber 67 = .ok (.bipush 13, 2) := by decide +kernel
theorem dX10_wordNumber_69 : decode cX10_wordNumber 69 = .ok (.ireturn, 1) := by decide +kernel
theorem dX10_wordNumber_70 : decode cX10_wordNumber 70 = .ok (.aload_n 0, 1) := by decide +kernel
theorem dX10_wordNumber_71 : decode cX10_wordNumber 71 = .ok (.iload_n 1, 1) := by decide +kernel
theorem dX10_wordNumber_72 : decode cX10_wordNumber 72 = .ok (.iload_n 2, 1) := by decide +kernel
theorem dX10_wordNumber_73 : decode cX10_wordNumber 73 = .ok (.ldc 80, 2) := by decide +kernel
theorem dX10_wordNumber_75 : decode cX10_wordNumber 75 = .ok (.invokestatic 69, 3) := by decide +kernel
theorem dX10_wordNumber_78 : decode cX10_wordNumber 78 = .ok (.ifCond .eq 8, 3) := by decide +kernel
theorem dX10_wordNumber_81 : decode cX10_wordNumber 81 = .ok (.bipush 14, 2) := by decide +kernel
theorem dX10_wordNumber_83 : decode cX10_wordNumber 83 = .ok (.goto 4, 3) := by decide +kernel
theorem dX10_wordNumber_86 : decode cX10_wordNumber 86 = .ok (.iconst (-1), 1) := by decide +kernel
theorem dX10_wordNumber_87 : decode cX10_wordNumber 87 = .ok (.ireturn, 1) := by decide +kernel
theorem dX10_isWord_0 : decode cX10_isWord 0 = .ok (.iload_n 2, 1) := by decide +kernel
theorem dX10_isWord_1 : decode cX10_isWord 1 = .ok (.iload_n 1, 1) := by decide +kernel
theorem dX10_isWord_2 : decode cX10_isWord 2 = .ok (.isub, 1) := by decide +kernel
theorem dX10_isWord_3 : decode cX10_isWord 3 = .ok (.aload_n 3, 1) := by decide +kernel
theorem dX10_isWord_4 : decode cX10_isWord 4 = .ok (.invokevirtual 82, 3) := by decide +kernel
theorem dX10_isWord_7 : decode cX10_isWord 7 = .ok (.if_icmp .eq 5, 3) := by decide +kernel
theorem dX10_isWord_10 : decode cX10_isWord 10 = .ok (.iconst 0, 1) := by decide +kernel
theorem dX10_isWord_11 : decode cX10_isWord 11 = .ok (.ireturn, 1) := by decide +kernel
theorem dX10_isWord_12 : decode cX10_isWord 12 = .ok (.iconst 0, 1) := by decide +kernel
theorem dX10_isWord_13 : decode cX10_isWord 13 = .ok (.istore 4, 2) := by decide +kernel
theorem dX10_isWord_15 : decode cX10_isWord 15 = .ok (.iload 4, 2) := by decide +kernel
theorem dX10_isWord_17 : decode cX10_isWord 17 = .ok (.aload_n 3, 1) := by decide +kernel
theorem dX10_isWord_18 : decode cX10_isWord 18 = .ok (.invokevirtual 82, 3) := by decide +kernel
theorem dX10_isWord_21 : decode cX10_isWord 21 = .ok (.if_icmp .ge 28, 3) := by decide +kernel
theorem dX10_isWord_24 : decode cX10_isWord 24 = .ok (.aload_n 0, 1) := by decide +kernel
theorem dX10_isWord_25 : decode cX10_isWord 25 = .ok (.iload_n 1, 1) := by decide +kernel
theorem dX10_isWord_26 : decode cX10_isWord 26 = .ok (.iload 4, 2) := by decide +kernel
theorem dX10_isWord_28 : decode cX10_isWord 28 = .ok (.iadd, 1) := by decide +kernel
theorem dX10_isWord_29 : decode cX10_isWord 29 = .ok (.invokevirtual 34, 3) := by decide +kernel
theorem dX10_isWord_32 : decode cX10_isWord 32 = .ok (.aload_n 3, 1) := by decide +kernel
theorem dX10_isWord_33 : decode cX10_isWord 33 = .ok (.iload 4, 2) := by decide +kernel
theorem dX10_isWord_35 : decode cX10_isWord 35 = .ok (.invokevirtual 87, 3) := by decide +kernel
theorem dX10_isWord_38 : decode cX10_isWord 38 = .ok (.if_icmp .eq 5, 3) := by decide +kernel
theorem dX10_isWord_41 : decode cX10_isWord 41 = .ok (.iconst 0, 1) := by decide +kernel
theorem dX10_isWord_42 : decode cX10_isWord 42 = .ok (.ireturn, 1) := by decide +kernel
theorem dX10_isWord_43 : decode cX10_isWord 43 = .ok (.iinc 4 1, 3) := by decide +kernel
theorem dX10_isWord_46 : decode cX10_isWord 46 = .ok (.goto (-31), 3) := by decide +kernel
theorem dX10_isWord_49 : decode cX10_isWord 49 = .ok (.iconst 1, 1) := by decide +kernel
theorem dX10_isWord_50 : decode cX10_isWord 50 = .ok (.ireturn, 1) := by decide +kernel
theorem dX10_skipBlanks_0 : decode cX10_skipBlanks 0 = .ok (.iload_n 1, 1) := by decide +kernel
theorem dX10_skipBlanks_1 : decode cX10_skipBlanks 1 = .ok (.istore_n 2, 1) := by decide +kernel
theorem dX10_skipBlanks_2 : decode cX10_skipBlanks 2 = .ok (.iload_n 2, 1) := by decide +kernel
theorem dX10_skipBlanks_3 : decode cX10_skipBlanks 3 = .ok (.aload_n 0, 1) := by decide +kernel
theorem dX10_skipBlanks_4 : decode cX10_skipBlanks 4 = .ok (.getfield 29, 3) := by decide +kernel
theorem dX10_skipBlanks_7 : decode cX10_skipBlanks 7 = .ok (.if_icmp .ge 20, 3) := by decide +kernel
theorem dX10_skipBlanks_10 : decode cX10_skipBlanks 10 = .ok (.aload_n 0, 1) := by decide +kernel
theorem dX10_skipBlanks_11 : decode cX10_skipBlanks 11 = .ok (.iload_n 2, 1) := by decide +kernel
theorem dX10_skipBlanks_12 : decode cX10_skipBlanks 12 = .ok (.invokevirtual 34, 3) := by decide +kernel
theorem dX10_skipBlanks_15 : decode cX10_skipBlanks 15 = .ok (.invokestatic 91, 3) := by decide +kernel
theorem dX10_skipBlanks_18 : decode cX10_skipBlanks 18 = .ok (.ifCond .eq 9, 3) := by decide +kernel
theorem dX10_skipBlanks_21 : decode cX10_skipBlanks 21 = .ok (.iinc 2 1, 3) := by decide +kernel
theorem dX10_skipBlanks_24 : decode cX10_skipBlanks 24 = .ok (.goto (-22), 3) := by decide +kernel
theorem dX10_skipBlanks_27 : decode cX10_skipBlanks 27 = .ok (.iload_n 2, 1) := by decide +kernel
theorem dX10_skipBlanks_28 : decode cX10_skipBlanks 28 = .ok (.ireturn, 1) := by decide +kernel
theorem dX10_isBlank_0 : decode cX10_isBlank 0 = .ok (.iload_n 0, 1) := by decide +kernel
theorem dX10_isBlank_1 : decode cX10_isBlank 1 = .ok (.bipush 32, 2) := by decide +kernel
theorem dX10_isBlank_3 : decode cX10_isBlank 3 = .ok (.if_icmp .eq 9, 3) := by decide +kernel
theorem dX10_isBlank_6 : decode cX10_isBlank 6 = .ok (.iload_n 0, 1) := by decide +kernel
theorem dX10_isBlank_7 : decode cX10_isBlank 7 = .ok (.bipush 10, 2) := by decide +kernel
theorem dX10_isBlank_9 : decode cX10_isBlank 9 = .ok (.if_icmp .ne 7, 3) := by decide +kernel
theorem dX10_isBlank_12 : decode cX10_isBlank 12 = .ok (.iconst 1, 1) := by decide +kernel
theorem dX10_isBlank_13 : decode cX10_isBlank 13 = .ok (.goto 4, 3) := by decide +kernel
theorem dX10_isBlank_16 : decode cX10_isBlank 16 = .ok (.iconst 0, 1) := by decide +kernel
theorem dX10_isBlank_17 : decode cX10_isBlank 17 = .ok (.ireturn, 1) := by decide +kernel
theorem dX10_isDigit_0 : decode cX10_isDigit 0 = .ok (.iload_n 0, 1) := by decide +kernel
theorem dX10_isDigit_1 : decode cX10_isDigit 1 = .ok (.bipush 48, 2) := by decide +kernel
theorem dX10_isDigit_3 : decode cX10_isDigit 3 = .ok (.if_icmp .lt 13, 3) := by decide +kernel
theorem dX10_isDigit_6 : decode cX10_isDigit 6 = .ok (.iload_n 0, 1) := by decide +kernel
theorem dX10_isDigit_7 : decode cX10_isDigit 7 = .ok (.bipush 57, 2) := by decide +kernel
theorem dX10_isDigit_9 : decode cX10_isDigit 9 = .ok (.if_icmp .gt 7, 3) := by decide +kernel
theorem dX10_isDigit_12 : decode cX10_isDigit 12 = .ok (.iconst 1, 1) := by decide +kernel
theorem dX10_isDigit_13 : decode cX10_isDigit 13 = .ok (.goto 4, 3) := by decide +kernel
theorem dX10_isDigit_16 : decode cX10_isDigit 16 = .ok (.iconst 0, 1) := by decide +kernel
theorem dX10_isDigit_17 : decode cX10_isDigit 17 = .ok (.ireturn, 1) := by decide +kernel
theorem dX10_isLetter_0 : decode cX10_isLetter 0 = .ok (.iload_n 0, 1) := by decide +kernel
theorem dX10_isLetter_1 : decode cX10_isLetter 1 = .ok (.bipush 97, 2) := by decide +kernel
theorem dX10_isLetter_3 : decode cX10_isLetter 3 = .ok (.if_icmp .lt 13, 3) := by decide +kernel
theorem dX10_isLetter_6 : decode cX10_isLetter 6 = .ok (.iload_n 0, 1) := by decide +kernel
theorem dX10_isLetter_7 : decode cX10_isLetter 7 = .ok (.bipush 122, 2) := by decide +kernel
theorem dX10_isLetter_9 : decode cX10_isLetter 9 = .ok (.if_icmp .gt 7, 3) := by decide +kernel
theorem dX10_isLetter_12 : decode cX10_isLetter 12 = .ok (.iconst 1, 1) := by decide +kernel
theorem dX10_isLetter_13 : decode cX10_isLetter 13 = .ok (.goto 4, 3) := by decide +kernel
theorem dX10_isLetter_16 : decode cX10_isLetter 16 = .ok (.iconst 0, 1) := by decide +kernel
theorem dX10_isLetter_17 : decode cX10_isLetter 17 = .ok (.ireturn, 1) := by decide +kernel
theorem dX11_init_0 : decode cX11_init 0 = .ok (.aload_n 0, 1) := by decide +kernel
theorem dX11_init_1 : decode cX11_init 1 = .ok (.invokespecial 1, 3) := by decide +kernel
theorem dX11_init_4 : decode cX11_init 4 = .ok (.aload_n 0, 1) := by decide +kernel
theorem dX11_init_5 : decode cX11_init 5 = .ok (.new 7, 3) := by decide +kernel
theorem dX11_init_8 : decode cX11_init 8 = .ok (.dup, 1) := by decide +kernel
theorem dX11_init_9 : decode cX11_init 9 = .ok (.invokespecial 9, 3) := by decide +kernel
theorem dX11_init_12 : decode cX11_init 12 = .ok (.putfield 10, 3) := by decide +kernel
theorem dX11_init_15 : decode cX11_init 15 = .ok (.aload_n 0, 1) := by decide +kernel
theorem dX11_init_16 : decode cX11_init 16 = .ok (.new 16, 3) := by decide +kernel
theorem dX11_init_19 : decode cX11_init 19 = .ok (.dup, 1) := by decide +kernel
theorem dX11_init_20 : decode cX11_init 20 = .ok (.invokespecial 18, 3) := by decide +kernel
theorem dX11_init_23 : decode cX11_init 23 = .ok (.putfield 19, 3) := by decide +kernel
theorem dX11_init_26 : decode cX11_init 26 = .ok (.aload_n 0, 1) := by decide +kernel
theorem dX11_init_27 : decode cX11_init 27 = .ok (.new 23, 3) := by decide +kernel
theorem dX11_init_30 : decode cX11_init 30 = .ok (.dup, 1) := by decide +kernel
theorem dX11_init_31 : decode cX11_init 31 = .ok (.invokespecial 25, 3) := by decide +kernel
theorem dX11_init_34 : decode cX11_init 34 = .ok (.putfield 26, 3) := by decide +kernel
theorem dX11_init_37 : decode cX11_init 37 = .ok (.aload_n 0, 1) := by decide +kernel
theorem dX11_init_38 : decode cX11_init 38 = .ok (.new 30, 3) := by decide +kernel
theorem dX11_init_41 : decode cX11_init 41 = .ok (.dup, 1) := by decide +kernel
theorem dX11_init_42 : decode cX11_init 42 = .ok (.invokespecial 32, 3) := by decide +kernel
theorem dX11_init_45 : decode cX11_init 45 = .ok (.putfield 33, 3) := by decide +kernel
theorem dX11_init_48 : decode cX11_init 48 = .ok (.aload_n 0, 1) := by decide +kernel
theorem dX11_init_49 : decode cX11_init 49 = .ok (.new 30, 3) := by decide +kernel
theorem dX11_init_52 : decode cX11_init 52 = .ok (.dup, 1) := by decide +kernel
theorem dX11_init_53 : decode cX11_init 53 = .ok (.invokespecial 32, 3) := by decide +kernel
theorem dX11_init_56 : decode cX11_init 56 = .ok (.putfield 37, 3) := by decide +kernel
theorem dX11_init_59 : decode cX11_init 59 = .ok (.aload_n 0, 1) := by decide +kernel
theorem dX11_init_60 : decode cX11_init 60 = .ok (.new 40, 3) := by decide +kernel
theorem dX11_init_63 : decode cX11_init 63 = .ok (.dup, 1) := by decide +kernel
theorem dX11_init_64 : decode cX11_init 64 = .ok (.invokespecial 42, 3) := by decide +kernel
theorem dX11_init_67 : decode cX11_init 67 = .ok (.putfield 43, 3) := by decide +kernel
theorem dX11_init_70 : decode cX11_init 70 = .ok (.aload_n 0, 1) := by decide +kernel
theorem dX11_init_71 : decode cX11_init 71 = .ok (.new 47, 3) := by decide +kernel
theorem dX11_init_74 : decode cX11_init 74 = .ok (.dup, 1) := by decide +kernel
theorem dX11_init_75 : decode cX11_init 75 = .ok (.invokespecial 49, 3) := by decide +kernel
theorem dX11_init_78 : decode cX11_init 78 = .ok (.putfield 50, 3) := by decide +kernel
theorem dX11_init_81 : decode cX11_init 81 = .ok (.aload_n 0, 1) := by decide +kernel
theorem dX11_init_82 : decode cX11_init 82 = .ok (.new 54, 3) := by decide +kernel
theorem dX11_init_85 : decode cX11_init 85 = .ok (.dup, 1) := by decide +kernel
theorem dX11_init_86 : decode cX11_init 86 = .ok (.invokespecial 56, 3) := by decide +kernel
theorem dX11_init_89 : decode cX11_init 89 = .ok (.putfield 57, 3) := by decide +kernel
theorem dX11_init_92 : decode cX11_init 92 = .ok (.aload_n 0, 1) := by decide +kernel
theorem dX11_init_93 : decode cX11_init 93 = .ok (.new 54, 3) := by decide +kernel
theorem dX11_init_96 : decode cX11_init 96 = .ok (.dup, 1) := by decide +kernel
theorem dX11_init_97 : decode cX11_init 97 = .ok (.invokespecial 56, 3) := by decide +kernel
theorem dX11_init_100 : decode cX11_init 100 = .ok (.putfield 61, 3) := by decide +kernel
theorem dX11_init_103 : decode cX11_init 103 = .ok (.return_, 1) := by decide +kernel
theorem dX11_feed_0 : decode cX11_feed 0 = .ok (.aload_n 0, 1) := by decide +kernel
theorem dX11_feed_1 : decode cX11_feed 1 = .ok (.getfield 10, 3) := by decide +kernel
theorem dX11_feed_4 : decode cX11_feed 4 = .ok (.getfield 64, 3) := by decide +kernel
theorem dX11_feed_7 : decode cX11_feed 7 = .ok (.bipush 20, 2) := by decide +kernel
theorem dX11_feed_9 : decode cX11_feed 9 = .ok (.iadd, 1) := by decide +kernel
theorem dX11_feed_10 : decode cX11_feed 10 = .ok (.sipush 1600, 3) := by decide +kernel
theorem dX11_feed_13 : decode cX11_feed 13 = .ok (.if_icmp .le 13, 3) := by decide +kernel
theorem dX11_feed_16 : decode cX11_feed 16 = .ok (.new 68, 3) := by decide +kernel
theorem dX11_feed_19 : decode cX11_feed 19 = .ok (.dup, 1) := by decide +kernel
theorem dX11_feed_20 : decode cX11_feed 20 = .ok (.ldc 70, 2) := by decide +kernel
theorem dX11_feed_22 : decode cX11_feed 22 = .ok (.invokespecial 72, 3) := by decide +kernel
theorem dX11_feed_25 : decode cX11_feed 25 = .ok (.athrow, 1) := by decide +kernel
theorem dX11_feed_26 : decode cX11_feed 26 = .ok (.aload_n 0, 1) := by decide +kernel
theorem dX11_feed_27 : decode cX11_feed 27 = .ok (.getfield 10, 3) := by decide +kernel
theorem dX11_feed_30 : decode cX11_feed 30 = .ok (.iload_n 1, 1) := by decide +kernel
theorem dX11_feed_31 : decode cX11_feed 31 = .ok (.invokevirtual 75, 3) := by decide +kernel
theorem dX11_feed_34 : decode cX11_feed 34 = .ok (.aload_n 0, 1) := by decide +kernel
theorem dX11_feed_35 : decode cX11_feed 35 = .ok (.getfield 10, 3) := by decide +kernel
theorem dX11_feed_38 : decode cX11_feed 38 = .ok (.iload_n 2, 1) := by decide +kernel
theorem dX11_feed_39 : decode cX11_feed 39 = .ok (.invokevirtual 75, 3) := by decide +kernel
theorem dX11_feed_42 : decode cX11_feed 42 = .ok (.aload_n 0, 1) := by decide +kernel
theorem dX11_feed_43 : decode cX11_feed 43 = .ok (.getfield 10, 3) := by decide +kernel
theorem dX11_feed_46 : decode cX11_feed 46 = .ok (.iload_n 3, 1) := by decide +kernel
theorem dX11_feed_47 : decode cX11_feed 47 = .ok (.invokevirtual 75, 3) := by decide +kernel
theorem dX11_feed_50 : decode cX11_feed 50 = .ok (.aload_n 0, 1) := by decide +kernel
theorem dX11_feed_51 : decode cX11_feed 51 = .ok (.getfield 10, 3) := by decide +kernel
theorem dX11_feed_54 : decode cX11_feed 54 = .ok (.iload 4, 2) := by decide +kernel
theorem dX11_feed_56 : decode cX11_feed 56 = .ok (.invokevirtual 75, 3) := by decide +kernel
theorem dX11_feed_59 : decode cX11_feed 59 = .ok (.aload_n 0, 1) := by decide +kernel
theorem dX11_feed_60 : decode cX11_feed 60 = .ok (.getfield 10, 3) := by decide +kernel
theorem dX11_feed_63 : decode cX11_feed 63 = .ok (.iload 5, 2) := by decide +kernel
theorem dX11_feed_65 : decode cX11_feed 65 = .ok (.invokevirtual 75, 3) := by decide +kernel
theorem dX11_feed_68 : decode cX11_feed 68 = .ok (.aload_n 0, 1) := by decide +kernel
theorem dX11_feed_69 : decode cX11_feed 69 = .ok (.getfield 10, 3) := by decide +kernel
theorem dX11_feed_72 : decode cX11_feed 72 = .ok (.getfield 64, 3) := by decide +kernel
theorem dX11_feed_75 : decode cX11_feed 75 = .ok (.ireturn, 1) := by decide +kernel
theorem dX11_trim_0 : decode cX11_trim 0 = .ok (.iload_n 1, 1) := by decide +kernel
theorem dX11_trim_1 : decode cX11_trim 1 = .ok (.ifCond .lt 14, 3) := by decide +kernel
theorem dX11_trim_4 : decode cX11_trim 4 = .ok (.iload_n 1, 1) := by decide +kernel
theorem dX11_trim_5 : decode cX11_trim 5 = .ok (.aload_n 0, 1) := by decide +kernel
theorem dX11_trim_6 : decode cX11_trim 6 = .ok (.getfield 10, 3) := by decide +kernel
theorem dX11_trim_9 : decode cX11_trim 9 = .ok (.getfield 64, 3) := by decide +kernel
theorem dX11_trim_12 : decode cX11_trim 12 = .ok (.if_icmp .le 13, 3) := by decide +kernel
theorem dX11_trim_15 : decode cX11_trim 15 = .ok (.new 79, 3) := by decide +kernel
theorem dX11_trim_18 : decode cX11_trim 18 = .ok (.dup, 1) := by decide +kernel
theorem dX11_trim_19 : decode cX11_trim 19 = .ok (.ldc 81, 2) := by decide +kernel
theorem dX11_trim_21 : decode cX11_trim 21 = .ok (.invokespecial 83, 3) := by decide +kernel
theorem dX11_trim_24 : decode cX11_trim 24 = .ok (.athrow, 1) := by decide +kernel
theorem dX11_trim_25 : decode cX11_trim 25 = .ok (.aload_n 0, 1) := by decide +kernel
theorem dX11_trim_26 : decode cX11_trim 26 = .ok (.getfield 10, 3) := by decide +kernel
theorem dX11_trim_29 : decode cX11_trim 29 = .ok (.iload_n 1, 1) := by decide +kernel
theorem dX11_trim_30 : decode cX11_trim 30 = .ok (.putfield 64, 3) := by decide +kernel
theorem dX11_trim_33 : decode cX11_trim 33 = .ok (.iload_n 1, 1) := by decide +kernel
theorem dX11_trim_34 : decode cX11_trim 34 = .ok (.ireturn, 1) := by decide +kernel
theorem dX11_compile_0 : decode cX11_compile 0 = .ok (.aload_n 0, 1) := by decide +kernel
theorem dX11_compile_1 : decode cX11_compile 1 = .ok (.getfield 19, 3) := by decide +kernel
theorem dX11_compile_4 : decode cX11_compile 4 = .ok (.aload_n 0, 1) := by decide +kernel
theorem dX11_compile_5 : decode cX11_compile 5 = .ok (.getfield 61, 3) := by decide +kernel
theorem dX11_compile_8 : decode cX11_compile 8 = .ok (.aload_n 0, 1) := by decide +kernel
theorem dX11_compile_9 : decode cX11_compile 9 = .ok (.getfield 10, 3) := by decide +kernel
theorem dX11_compile_12 : decode cX11_compile 12 = .ok (.invokevirtual 84, 3) := by decide +kernel
theorem dX11_compile_15 : decode cX11_compile 15 = .ok (.ifCond .eq 7, 3) := by decide +kernel
theorem dX11_compile_18 : decode cX11_compile 18 = .ok (.aload_n 0, 1) := by decide +kernel
theorem dX11_compile_19 : decode cX11_compile 19 = .ok (.invokevirtual 88, 3) := by decide +kernel
theorem dX11_compile_22 : decode cX11_compile 22 = .ok (.aload_n 0, 1) := by decide +kernel
theorem dX11_compile_23 : decode cX11_compile 23 = .ok (.getfield 10, 3) := by decide +kernel
theorem dX11_compile_26 : decode cX11_compile 26 = .ok (.iconst 0, 1) := by decide +kernel
theorem dX11_compile_27 : decode cX11_compile 27 = .ok (.putfield 64, 3) := by decide +kernel
theorem dX11_compile_30 : decode cX11_compile 30 = .ok (.aload_n 0, 1) := by decide +kernel
theorem dX11_compile_31 : decode cX11_compile 31 = .ok (.getfield 19, 3) := by decide +kernel
theorem dX11_compile_34 : decode cX11_compile 34 = .ok (.getfield 91, 3) := by decide +kernel
theorem dX11_compile_37 : decode cX11_compile 37 = .ok (.ireturn, 1) := by decide +kernel
theorem dX11_count_0 : decode cX11_count 0 = .ok (.iload_n 1, 1) := by decide +kernel
theorem dX11_count_1 : decode cX11_count 1 = .ok (.tableswitch 147 0 10 #[59, 67, 75, 83, 91, 99, 107, 115, 123, 131, 139], 59) := by decide +kernel
theorem dX11_count_60 : decode cX11_count 60 = .ok (.aload_n 0, 1) := by decide +kernel
theorem dX11_count_61 : decode cX11_count 61 = .ok (.getfield 57, 3) := by decide +kernel
theorem dX11_count_64 : decode cX11_count 64 = .ok (.getfield 97, 3) := by decide +kernel
theorem dX11_count_67 : decode cX11_count 67 = .ok (.ireturn, 1) := by decide +kernel
theorem dX11_count_68 : decode cX11_count 68 = .ok (.aload_n 0, 1) := by decide +kernel
theorem dX11_count_69 : decode cX11_count 69 = .ok (.getfield 57, 3) := by decide +kernel
theorem dX11_count_72 : decode cX11_count 72 = .ok (.getfield 100, 3) := by decide +kernel
theorem dX11_count_75 : decode cX11_count 75 = .ok (.ireturn, 1) := by decide +kernel
theorem dX11_count_76 : decode cX11_count 76 = .ok (.aload_n 0, 1) := by decide +kernel
theorem dX11_count_77 : decode cX11_count 77 = .ok (.getfield 57, 3) := by decide +kernel
theorem dX11_count_80 : decode cX11_count 80 = .ok (.getfield 103, 3) := by decide +kernel
theorem dX11_count_83 : decode cX11_count 83 = .ok (.ireturn, 1) := by decide +kernel
theorem dX11_count_84 : decode cX11_count 84 = .ok (.aload_n 0, 1) := by decide +kernel
theorem dX11_count_85 : decode cX11_count 85 = .ok (.getfield 57, 3) := by decide +kernel
theorem dX11_count_88 : decode cX11_count 88 = .ok (.getfield 106, 3) := by decide +kernel
theorem dX11_count_91 : decode cX11_count 91 = .ok (.ireturn, 1) := by decide +kernel
theorem dX11_count_92 : decode cX11_count 92 = .ok (.aload_n 0, 1) := by decide +kernel
theorem dX11_count_93 : decode cX11_count 93 = .ok (.getfield 57, 3) := by decide +kernel
theorem dX11_count_96 : decode cX11_count 96 = .ok (.invokevirtual 109, 3) := by decide +kernel
theorem dX11_count_99 : decode cX11_count 99 = .ok (.ireturn, 1) := by decide +kernel
theorem dX11_count_100 : decode cX11_count 100 = .ok (.aload_n 0, 1) := by decide +kernel
theorem dX11_count_101 : decode cX11_count 101 = .ok (.getfield 57, 3) := by decide +kernel
theorem dX11_count_104 : decode cX11_count 104 = .ok (.invokevirtual 113, 3) := by decide +kernel
theorem dX11_count_107 : decode cX11_count 107 = .ok (.ireturn, 1) := by decide +kernel
theorem dX11_count_108 : decode cX11_count 108 = .ok (.aload_n 0, 1) := by decide +kernel
theorem dX11_count_109 : decode cX11_count 109 = .ok (.getfield 57, 3) := by decide +kernel
theorem dX11_count_112 : decode cX11_count 112 = .ok (.invokevirtual 116, 3) := by decide +kernel
theorem dX11_count_115 : decode cX11_count 115 = .ok (.ireturn, 1) := by decide +kernel
theorem dX11_count_116 : decode cX11_count 116 = .ok (.aload_n 0, 1) := by decide +kernel
theorem dX11_count_117 : decode cX11_count 117 = .ok (.getfield 33, 3) := by decide +kernel
theorem dX11_count_120 : decode cX11_count 120 = .ok (.getfield 119, 3) := by decide +kernel
theorem dX11_count_123 : decode cX11_count 123 = .ok (.ireturn, 1) := by decide +kernel
theorem dX11_count_124 : decode cX11_count 124 = .ok (.aload_n 0, 1) := by decide +kernel
theorem dX11_count_125 : decode cX11_count 125 = .ok (.getfield 33, 3) := by decide +kernel
theorem dX11_count_128 : decode cX11_count 128 = .ok (.getfield 122, 3) := by decide +kernel
theorem dX11_count_131 : decode cX11_count 131 = .ok (.ireturn, 1) := by decide +kernel
theorem dX11_count_132 : decode cX11_count 132 = .ok (.aload_n 0, 1) := by decide +kernel
theorem dX11_count_133 : decode cX11_count 133 = .ok (.getfield 10, 3) := by decide +kernel
theorem dX11_count_136 : decode cX11_count 136 = .ok (.getfield 64, 3) := by decide +kernel
theorem dX11_count_139 : decode cX11_count 139 = .ok (.ireturn, 1) := by decide +kernel
theorem dX11_count_140 : decode cX11_count 140 = .ok (.aload_n 0, 1) := by decide +kernel
theorem dX11_count_141 : decode cX11_count 141 = .ok (.getfield 26, 3) := by decide +kernel
theorem dX11_count_144 : decode cX11_count 144 = .ok (.getfield 125, 3) := by decide +kernel
theorem dX11_count_147 : decode cX11_count 147 = .ok (.ireturn, 1) := by decide +kernel
theorem dX11_count_148 : decode cX11_count 148 = .ok (.new 126, 3) := by decide +kernel
theorem dX11_count_151 : decode cX11_count 151 = .ok (.dup, 1) := by decide +kernel
theorem dX11_count_152 : decode cX11_count 152 = .ok (.ldc 128, 2) := by decide +kernel
theorem dX11_count_154 : decode cX11_count 154 = .ok (.invokespecial 130, 3) := by decide +kernel
theorem dX11_count_157 : decode cX11_count 157 = .ok (.athrow, 1) := by decide +kernel
theorem dX11_rule_0 : decode cX11_rule 0 = .ok (.aload_n 0, 1) := by decide +kernel
theorem dX11_rule_1 : decode cX11_rule 1 = .ok (.iload_n 1, 1) := by decide +kernel
theorem dX11_rule_2 : decode cX11_rule 2 = .ok (.invokevirtual 131, 3) := by decide +kernel
theorem dX11_rule_5 : decode cX11_rule 5 = .ok (.aload_n 0, 1) := by decide +kernel
theorem dX11_rule_6 : decode cX11_rule 6 = .ok (.getfield 57, 3) := by decide +kernel
theorem dX11_rule_9 : decode cX11_rule 9 = .ok (.getfield 134, 3) := by decide +kernel
theorem dX11_rule_12 : decode cX11_rule 12 = .ok (.iload_n 1, 1) := by decide +kernel
theorem dX11_rule_13 : decode cX11_rule 13 = .ok (.aaload, 1) := by decide +kernel
theorem dX11_rule_14 : decode cX11_rule 14 = .ok (.astore_n 3, 1) := by decide +kernel
theorem dX11_rule_15 : decode cX11_rule 15 = .ok (.iload_n 2, 1) := by decide +kernel
theorem dX11_rule_16 : decode cX11_rule 16 = .ok (.tableswitch 114 0 9 #[56, 64, 69, 74, 79, 79, 79, 79, 79, 87], 56) := by decide +kernel
theorem dX11_rule_72 : decode cX11_rule 72 = .ok (.aload_n 3, 1) := by decide +kernel
theorem dX11_rule_73 : decode cX11_rule 73 = .ok (.getfield 138, 3) := by decide +kernel
theorem dX11_rule_76 : decode cX11_rule 76 = .ok (.getfield 144, 3) := by decide +kernel
theorem dX11_rule_79 : decode cX11_rule 79 = .ok (.ireturn, 1) := by decide +kernel
theorem dX11_rule_80 : decode cX11_rule 80 = .ok (.aload_n 3, 1) := by decide +kernel
theorem dX11_rule_81 : decode cX11_rule 81 = .ok (.getfield 149, 3) := by decide +kernel
theorem dX11_rule_84 : decode cX11_rule 84 = .ok (.ireturn, 1) := by decide +kernel
theorem dX11_rule_85 : decode cX11_rule 85 = .ok (.aload_n 3, 1) := by decide +kernel
theorem dX11_rule_86 : decode cX11_rule 86 = .ok (.getfield 150, 3) := by decide +kernel
theorem dX11_rule_89 : decode cX11_rule 89 = .ok (.ireturn, 1) := by decide +kernel
theorem dX11_rule_90 : decode cX11_rule 90 = .ok (.aload_n 3, 1) := by decide +kernel
theorem dX11_rule_91 : decode cX11_rule 91 = .ok (.getfield 153, 3) := by decide +kernel
theorem dX11_rule_94 : decode cX11_rule 94 = .ok (.ireturn, 1) := by decide +kernel
theorem dX11_rule_95 : decode cX11_rule 95 = .ok (.aload_n 3, 1) := by decide +kernel
theorem dX11_rule_96 : decode cX11_rule 96 = .ok (.iload_n 2, 1) := by decide +kernel
theorem dX11_rule_97 : decode cX11_rule 97 = .ok (.iconst 4, 1) := by decide +kernel
theorem dX11_rule_98 : decode cX11_rule 98 = .ok (.isub, 1) := by decide +kernel
theorem dX11_rule_99 : decode cX11_rule 99 = .ok (.invokevirtual 156, 3) := by decide +kernel
theorem dX11_rule_102 : decode cX11_rule 102 = .ok (.ireturn, 1) := by decide +kernel
theorem dX11_rule_103 : decode cX11_rule 103 = .ok (.aload_n 3, 1) := by decide +kernel
theorem dX11_rule_104 : decode cX11_rule 104 = .ok (.aload_n 0, 1) := by decide +kernel
theorem dX11_rule_105 : decode cX11_rule 105 = .ok (.getfield 57, 3) := by decide +kernel
theorem dX11_rule_108 : decode cX11_rule 108 = .ok (.getfield 160, 3) := by decide +kernel
theorem dX11_rule_111 : decode cX11_rule 111 = .ok (.aload_n 0, 1) := by decide +kernel
theorem dX11_rule_112 : decode cX11_rule 112 = .ok (.getfield 57, 3) := by decide +kernel
theorem dX11_rule_115 : decode cX11_rule 115 = .ok (.getfield 103, 3) := by decide +kernel
theorem dX11_rule_118 : decode cX11_rule 118 = .ok (.invokevirtual 164, 3) := by decide +kernel
theorem dX11_rule_121 : decode cX11_rule 121 = .ok (.ifCond .eq 7, 3) := by decide +kernel
theorem dX11_rule_124 : decode cX11_rule 124 = .ok (.iconst 1, 1) := by decide +kernel
theorem dX11_rule_125 : decode cX11_rule 125 = .ok (.goto 4, 3) := by decide +kernel
theorem dX11_rule_128 : decode cX11_rule 128 = .ok (.iconst 0, 1) := by decide +kernel
theorem dX11_rule_129 : decode cX11_rule 129 = .ok (.ireturn, 1) := by decide +kernel
theorem dX11_rule_130 : decode cX11_rule 130 = .ok (.new 126, 3) := by decide +kernel
theorem dX11_rule_133 : decode cX11_rule 133 = .ok (.dup, 1) := by decide +kernel
theorem dX11_rule_134 : decode cX11_rule 134 = .ok (.ldc 168, 2) := by decide +kernel
theorem dX11_rule_136 : decode cX11_rule 136 = .ok (.invokespecial 130, 3) := by decide +kernel
theorem dX11_rule_139 : decode cX11_rule 139 = .ok (.athrow, 1) := by decide +kernel
theorem dX11_drop_0 : decode cX11_drop 0 = .ok (.aload_n 0, 1) := by decide +kernel
theorem dX11_drop_1 : decode cX11_drop 1 = .ok (.iload_n 1, 1) := by decide +kernel
theorem dX11_drop_2 : decode cX11_drop 2 = .ok (.invokevirtual 131, 3) := by decide +kernel
theorem dX11_drop_5 : decode cX11_drop 5 = .ok (.aload_n 0, 1) := by decide +kernel
theorem dX11_drop_6 : decode cX11_drop 6 = .ok (.getfield 57, 3) := by decide +kernel
theorem dX11_drop_9 : decode cX11_drop 9 = .ok (.iload_n 1, 1) := by decide +kernel
theorem dX11_drop_10 : decode cX11_drop 10 = .ok (.invokevirtual 170, 3) := by decide +kernel
theorem dX11_drop_13 : decode cX11_drop 13 = .ok (.aload_n 0, 1) := by decide +kernel
theorem dX11_drop_14 : decode cX11_drop 14 = .ok (.getfield 57, 3) := by decide +kernel
theorem dX11_drop_17 : decode cX11_drop 17 = .ok (.getfield 106, 3) := by decide +kernel
theorem dX11_drop_20 : decode cX11_drop 20 = .ok (.ireturn, 1) := by decide +kernel
theorem dX11_write_0 : decode cX11_write 0 = .ok (.aload_n 0, 1) := by decide +kernel
theorem dX11_write_1 : decode cX11_write 1 = .ok (.invokevirtual 173, 3) := by decide +kernel
theorem dX11_write_4 : decode cX11_write 4 = .ok (.aload_n 0, 1) := by decide +kernel
theorem dX11_write_5 : decode cX11_write 5 = .ok (.getfield 26, 3) := by decide +kernel
theorem dX11_write_8 : decode cX11_write 8 = .ok (.aload_n 0, 1) := by decide +kernel
theorem dX11_write_9 : decode cX11_write 9 = .ok (.getfield 57, 3) := by decide +kernel
theorem dX11_write_12 : decode cX11_write 12 = .ok (.invokevirtual 176, 3) := by decide +kernel
theorem dX11_write_15 : decode cX11_write 15 = .ok (.aload_n 0, 1) := by decide +kernel
theorem dX11_write_16 : decode cX11_write 16 = .ok (.getfield 26, 3) := by decide +kernel
theorem dX11_write_19 : decode cX11_write 19 = .ok (.getfield 125, 3) := by decide +kernel
theorem dX11_write_22 : decode cX11_write 22 = .ok (.ireturn, 1) := by decide +kernel
theorem dX11_byteAt_0 : decode cX11_byteAt 0 = .ok (.iload_n 1, 1) := by decide +kernel
theorem dX11_byteAt_1 : decode cX11_byteAt 1 = .ok (.ifCond .lt 14, 3) := by decide +kernel
theorem dX11_byteAt_4 : decode cX11_byteAt 4 = .ok (.iload_n 1, 1) := by decide +kernel
theorem dX11_byteAt_5 : decode cX11_byteAt 5 = .ok (.aload_n 0, 1) := by decide +kernel
theorem dX11_byteAt_6 : decode cX11_byteAt 6 = .ok (.getfield 26, 3) := by decide +kernel
theorem dX11_byteAt_9 : decode cX11_byteAt 9 = .ok (.getfield 125, 3) := by decide +kernel
theorem dX11_byteAt_12 : decode cX11_byteAt 12 = .ok (.if_icmp .lt 13, 3) := by decide +kernel
theorem dX11_byteAt_15 : decode cX11_byteAt 15 = .ok (.new 126, 3) := by decide +kernel
theorem dX11_byteAt_18 : decode cX11_byteAt 18 = .ok (.dup, 1) := by decide +kernel
theorem dX11_byteAt_19 : decode cX11_byteAt 19 = .ok (.ldc 180, 2) := by decide +kernel
theorem dX11_byteAt_21 : decode cX11_byteAt 21 = .ok (.invokespecial 130, 3) := by decide +kernel
theorem dX11_byteAt_24 : decode cX11_byteAt 24 = .ok (.athrow, 1) := by decide +kernel
theorem dX11_byteAt_25 : decode cX11_byteAt 25 = .ok (.aload_n 0, 1) := by decide +kernel
theorem dX11_byteAt_26 : decode cX11_byteAt 26 = .ok (.getfield 26, 3) := by decide +kernel
theorem dX11_byteAt_29 : decode cX11_byteAt 29 = .ok (.getfield 182, 3) := by decide +kernel
theorem dX11_byteAt_32 : decode cX11_byteAt 32 = .ok (.iload_n 1, 1) := by decide +kernel
theorem dX11_byteAt_33 : decode cX11_byteAt 33 = .ok (.iaload, 1) := by decide +kernel
theorem dX11_byteAt_34 : decode cX11_byteAt 34 = .ok (.ireturn, 1) := by decide +kernel
theorem dX11_put_0 : decode cX11_put 0 = .ok (.aload_n 0, 1) := by decide +kernel
theorem dX11_put_1 : decode cX11_put 1 = .ok (.iload_n 1, 1) := by decide +kernel
theorem dX11_put_2 : decode cX11_put 2 = .ok (.invokevirtual 185, 3) := by decide +kernel
theorem dX11_put_5 : decode cX11_put 5 = .ok (.iload_n 2, 1) := by decide +kernel
theorem dX11_put_6 : decode cX11_put 6 = .ok (.ifCond .lt 14, 3) := by decide +kernel
theorem dX11_put_9 : decode cX11_put 9 = .ok (.iload_n 2, 1) := by decide +kernel
theorem dX11_put_10 : decode cX11_put 10 = .ok (.aload_n 0, 1) := by decide +kernel
theorem dX11_put_11 : decode cX11_put 11 = .ok (.getfield 57, 3) := by decide +kernel
theorem dX11_put_14 : decode cX11_put 14 = .ok (.getfield 103, 3) := by decide +kernel
theorem dX11_put_17 : decode cX11_put 17 = .ok (.if_icmp .le 13, 3) := by decide +kernel
theorem dX11_put_20 : decode cX11_put 20 = .ok (.new 79, 3) := by decide +kernel
theorem dX11_put_23 : decode cX11_put 23 = .ok (.dup, 1) := by decide +kernel
theorem dX11_put_24 : decode cX11_put 24 = .ok (.ldc 188, 2) := by decide +kernel
theorem dX11_put_26 : decode cX11_put 26 = .ok (.invokespecial 83, 3) := by decide +kernel
theorem dX11_put_29 : decode cX11_put 29 = .ok (.athrow, 1) := by decide +kernel
theorem dX11_put_30 : decode cX11_put 30 = .ok (.aload_n 0, 1) := by decide +kernel
theorem dX11_put_31 : decode cX11_put 31 = .ok (.getfield 57, 3) := by decide +kernel
theorem dX11_put_34 : decode cX11_put 34 = .ok (.getfield 160, 3) := by decide +kernel
theorem dX11_put_37 : decode cX11_put 37 = .ok (.iload_n 1, 1) := by decide +kernel
theorem dX11_put_38 : decode cX11_put 38 = .ok (.iaload, 1) := by decide +kernel
theorem dX11_put_39 : decode cX11_put 39 = .ok (.istore_n 3, 1) := by decide +kernel
theorem dX11_put_40 : decode cX11_put 40 = .ok (.aload_n 0, 1) := by decide +kernel
theorem dX11_put_41 : decode cX11_put 41 = .ok (.getfield 57, 3) := by decide +kernel
theorem dX11_put_44 : decode cX11_put 44 = .ok (.getfield 160, 3) := by decide +kernel
theorem dX11_put_47 : decode cX11_put 47 = .ok (.iload_n 1, 1) := by decide +kernel
theorem dX11_put_48 : decode cX11_put 48 = .ok (.iload_n 2, 1) := by decide +kernel
theorem dX11_put_49 : decode cX11_put 49 = .ok (.iastore, 1) := by decide +kernel
theorem dX11_put_50 : decode cX11_put 50 = .ok (.iload_n 3, 1) := by decide +kernel
theorem dX11_put_51 : decode cX11_put 51 = .ok (.ireturn, 1) := by decide +kernel
theorem dX11_value_0 : decode cX11_value 0 = .ok (.aload_n 0, 1) := by decide +kernel
theorem dX11_value_1 : decode cX11_value 1 = .ok (.iload_n 1, 1) := by decide +kernel
theorem dX11_value_2 : decode cX11_value 2 = .ok (.invokevirtual 185, 3) := by decide +kernel
theorem dX11_value_5 : decode cX11_value 5 = .ok (.aload_n 0, 1) := by decide +kernel
theorem dX11_value_6 : decode cX11_value 6 = .ok (.getfield 57, 3) := by decide +kernel
theorem dX11_value_9 : decode cX11_value 9 = .ok (.getfield 160, 3) := by decide +kernel
theorem dX11_value_12 : decode cX11_value 12 = .ok (.iload_n 1, 1) := by decide +kernel
theorem dX11_value_13 : decode cX11_value 13 = .ok (.iaload, 1) := by decide +kernel
theorem dX11_value_14 : decode cX11_value 14 = .ok (.ireturn, 1) := by decide +kernel
theorem dX11_search_0 : decode cX11_search 0 = .ok (.iload_n 1, 1) := by decide +kernel
theorem dX11_search_1 : decode cX11_search 1 = .ok (.iconst 1, 1) := by decide +kernel
theorem dX11_search_2 : decode cX11_search 2 = .ok (.if_icmp .lt 9, 3) := by decide +kernel
theorem dX11_search_5 : decode cX11_search 5 = .ok (.iload_n 1, 1) := by decide +kernel
theorem dX11_search_6 : decode cX11_search 6 = .ok (.bipush 30, 2) := by decide +kernel
theorem dX11_search_8 : decode cX11_search 8 = .ok (.if_icmp .le 13, 3) := by decide +kernel
theorem dX11_search_11 : decode cX11_search 11 = .ok (.new 79, 3) := by decide +kernel
theorem dX11_search_14 : decode cX11_search 14 = .ok (.dup, 1) := by decide +kernel
theorem dX11_search_15 : decode cX11_search 15 = .ok (.ldc 193, 2) := by decide +kernel
theorem dX11_search_17 : decode cX11_search 17 = .ok (.invokespecial 83, 3) := by decide +kernel
theorem dX11_search_20 : decode cX11_search 20 = .ok (.athrow, 1) := by decide +kernel
theorem dX11_search_21 : decode cX11_search 21 = .ok (.aload_n 0, 1) := by decide +kernel
theorem dX11_search_22 : decode cX11_search 22 = .ok (.invokevirtual 173, 3) := by decide +kernel
theorem dX11_search_25 : decode cX11_search 25 = .ok (.aload_n 0, 1) := by decide +kernel
theorem dX11_search_26 : decode cX11_search 26 = .ok (.getfield 33, 3) := by decide +kernel
theorem dX11_search_29 : decode cX11_search 29 = .ok (.aload_n 0, 1) := by decide +kernel
theorem dX11_search_30 : decode cX11_search 30 = .ok (.getfield 57, 3) := by decide +kernel
theorem dX11_search_33 : decode cX11_search 33 = .ok (.iload_n 1, 1) := by decide +kernel
theorem dX11_search_34 : decode cX11_search 34 = .ok (.invokevirtual 195, 3) := by decide +kernel
theorem dX11_search_37 : decode cX11_search 37 = .ok (.ireturn, 1) := by decide +kernel
theorem dX11_solution_0 : decode cX11_solution 0 = .ok (.iload_n 1, 1) := by decide +kernel
theorem dX11_solution_1 : decode cX11_solution 1 = .ok (.ifCond .lt 14, 3) := by decide +kernel
theorem dX11_solution_4 : decode cX11_solution 4 = .ok (.iload_n 1, 1) := by decide +kernel
theorem dX11_solution_5 : decode cX11_solution 5 = .ok (.aload_n 0, 1) := by decide +kernel
theorem dX11_solution_6 : decode cX11_solution 6 = .ok (.getfield 33, 3) := by decide +kernel
theorem dX11_solution_9 : decode cX11_solution 9 = .ok (.getfield 119, 3) := by decide +kernel
theorem dX11_solution_12 : decode cX11_solution 12 = .ok (.if_icmp .lt 13, 3) := by decide +kernel
theorem dX11_solution_15 : decode cX11_solution 15 = .ok (.new 126, 3) := by decide +kernel
theorem dX11_solution_18 : decode cX11_solution 18 = .ok (.dup, 1) := by decide +kernel
theorem dX11_solution_19 : decode cX11_solution 19 = .ok (.ldc 199, 2) := by decide +kernel
theorem dX11_solution_21 : decode cX11_solution 21 = .ok (.invokespecial 130, 3) := by decide +kernel
theorem dX11_solution_24 : decode cX11_solution 24 = .ok (.athrow, 1) := by decide +kernel
theorem dX11_solution_25 : decode cX11_solution 25 = .ok (.aload_n 0, 1) := by decide +kernel
theorem dX11_solution_26 : decode cX11_solution 26 = .ok (.iload_n 2, 1) := by decide +kernel
theorem dX11_solution_27 : decode cX11_solution 27 = .ok (.invokevirtual 185, 3) := by decide +kernel
theorem dX11_solution_30 : decode cX11_solution 30 = .ok (.aload_n 0, 1) := by decide +kernel
theorem dX11_solution_31 : decode cX11_solution 31 = .ok (.getfield 33, 3) := by decide +kernel
theorem dX11_solution_34 : decode cX11_solution 34 = .ok (.getfield 201, 3) := by decide +kernel
theorem dX11_solution_37 : decode cX11_solution 37 = .ok (.iload_n 1, 1) := by decide +kernel
theorem dX11_solution_38 : decode cX11_solution 38 = .ok (.aaload, 1) := by decide +kernel
theorem dX11_solution_39 : decode cX11_solution 39 = .ok (.iload_n 2, 1) := by decide +kernel
theorem dX11_solution_40 : decode cX11_solution 40 = .ok (.iaload, 1) := by decide +kernel
theorem dX11_solution_41 : decode cX11_solution 41 = .ok (.ireturn, 1) := by decide +kernel
theorem dX11_isNeeded_0 : decode cX11_isNeeded 0 = .ok (.aload_n 0, 1) := by decide +kernel
theorem dX11_isNeeded_1 : decode cX11_isNeeded 1 = .ok (.iload_n 1, 1) := by decide +kernel
theorem dX11_isNeeded_2 : decode cX11_isNeeded 2 = .ok (.invokevirtual 131, 3) := by decide +kernel
theorem dX11_isNeeded_5 : decode cX11_isNeeded 5 = .ok (.aload_n 0, 1) := by decide +kernel
theorem dX11_isNeeded_6 : decode cX11_isNeeded 6 = .ok (.getfield 37, 3) := by decide +kernel
theorem dX11_isNeeded_9 : decode cX11_isNeeded 9 = .ok (.aload_n 0, 1) := by decide +kernel
theorem dX11_isNeeded_10 : decode cX11_isNeeded 10 = .ok (.getfield 57, 3) := by decide +kernel
theorem dX11_isNeeded_13 : decode cX11_isNeeded 13 = .ok (.iconst (-1), 1) := by decide +kernel
theorem dX11_isNeeded_14 : decode cX11_isNeeded 14 = .ok (.invokevirtual 205, 3) := by decide +kernel
theorem dX11_isNeeded_17 : decode cX11_isNeeded 17 = .ok (.ifCond .eq 18, 3) := by decide +kernel
theorem dX11_isNeeded_20 : decode cX11_isNeeded 20 = .ok (.aload_n 0, 1) := by decide +kernel
theorem dX11_isNeeded_21 : decode cX11_isNeeded 21 = .ok (.getfield 37, 3) := by decide +kernel
theorem dX11_isNeeded_24 : decode cX11_isNeeded 24 = .ok (.aload_n 0, 1) := by decide +kernel
theorem dX11_isNeeded_25 : decode cX11_isNeeded 25 = .ok (.getfield 57, 3) := by decide +kernel
theorem dX11_isNeeded_28 : decode cX11_isNeeded 28 = .ok (.iload_n 1, 1) := by decide +kernel
theorem dX11_isNeeded_29 : decode cX11_isNeeded 29 = .ok (.invokevirtual 205, 3) := by decide +kernel
theorem dX11_isNeeded_32 : decode cX11_isNeeded 32 = .ok (.ifCond .ne 7, 3) := by decide +kernel
theorem dX11_isNeeded_35 : decode cX11_isNeeded 35 = .ok (.iconst 1, 1) := by decide +kernel
theorem dX11_isNeeded_36 : decode cX11_isNeeded 36 = .ok (.goto 4, 3) := by decide +kernel
theorem dX11_isNeeded_39 : decode cX11_isNeeded 39 = .ok (.iconst 0, 1) := by decide +kernel
theorem dX11_isNeeded_40 : decode cX11_isNeeded 40 = .ok (.ireturn, 1) := by decide +kernel
theorem dX11_look_0 : decode cX11_look 0 = .ok (.aload_n 0, 1) := by decide +kernel
theorem dX11_look_1 : decode cX11_look 1 = .ok (.getfield 43, 3) := by decide +kernel
theorem dX11_look_4 : decode cX11_look 4 = .ok (.aload_n 0, 1) := by decide +kernel
theorem dX11_look_5 : decode cX11_look 5 = .ok (.getfield 57, 3) := by decide +kernel
theorem dX11_look_8 : decode cX11_look 8 = .ok (.invokevirtual 209, 3) := by decide +kernel
theorem dX11_look_11 : decode cX11_look 11 = .ok (.aload_n 0, 1) := by decide +kernel
theorem dX11_look_12 : decode cX11_look 12 = .ok (.getfield 43, 3) := by decide +kernel
theorem dX11_look_15 : decode cX11_look 15 = .ok (.aload_n 0, 1) := by decide +kernel
theorem dX11_look_16 : decode cX11_look 16 = .ok (.getfield 57, 3) := by decide +kernel
theorem dX11_look_19 : decode cX11_look 19 = .ok (.invokevirtual 212, 3) := by decide +kernel
theorem dX11_look_22 : decode cX11_look 22 = .ok (.ireturn, 1) := by decide +kernel
theorem dX11_possible_0 : decode cX11_possible 0 = .ok (.aload_n 0, 1) := by decide +kernel
theorem dX11_possible_1 : decode cX11_possible 1 = .ok (.iload_n 1, 1) := by decide +kernel
theorem dX11_possible_2 : decode cX11_possible 2 = .ok (.invokevirtual 185, 3) := by decide +kernel
theorem dX11_possible_5 : decode cX11_possible 5 = .ok (.aload_n 0, 1) := by decide +kernel
theorem dX11_possible_6 : decode cX11_possible 6 = .ok (.getfield 43, 3) := by decide +kernel
theorem dX11_possible_9 : decode cX11_possible 9 = .ok (.getfield 216, 3) := by decide +kernel
theorem dX11_possible_12 : decode cX11_possible 12 = .ok (.iload_n 1, 1) := by decide +kernel
theorem dX11_possible_13 : decode cX11_possible 13 = .ok (.iaload, 1) := by decide +kernel
theorem dX11_possible_14 : decode cX11_possible 14 = .ok (.ireturn, 1) := by decide +kernel
theorem dX11_hint_0 : decode cX11_hint 0 = .ok (.iload_n 1, 1) := by decide +kernel
theorem dX11_hint_1 : decode cX11_hint 1 = .ok (.ifCond .lt 8, 3) := by decide +kernel
theorem dX11_hint_4 : decode cX11_hint 4 = .ok (.iload_n 1, 1) := by decide +kernel
theorem dX11_hint_5 : decode cX11_hint 5 = .ok (.iconst 3, 1) := by decide +kernel
theorem dX11_hint_6 : decode cX11_hint 6 = .ok (.if_icmp .le 13, 3) := by decide +kernel
theorem dX11_hint_9 : decode cX11_hint 9 = .ok (.new 126, 3) := by decide +kernel
theorem dX11_hint_12 : decode cX11_hint 12 = .ok (.dup, 1) := by decide +kernel
theorem dX11_hint_13 : decode cX11_hint 13 = .ok (.ldc 219, 2) := by decide +kernel
theorem dX11_hint_15 : decode cX11_hint 15 = .ok (.invokespecial 130, 3) := by decide +kernel
theorem dX11_hint_18 : decode cX11_hint 18 = .ok (.athrow, 1) := by decide +kernel
theorem dX11_hint_19 : decode cX11_hint 19 = .ok (.aload_n 0, 1) := by decide +kernel
theorem dX11_hint_20 : decode cX11_hint 20 = .ok (.getfield 43, 3) := by decide +kernel
theorem dX11_hint_23 : decode cX11_hint 23 = .ok (.aload_n 0, 1) := by decide +kernel
theorem dX11_hint_24 : decode cX11_hint 24 = .ok (.getfield 57, 3) := by decide +kernel
theorem dX11_hint_27 : decode cX11_hint 27 = .ok (.invokevirtual 221, 3) := by decide +kernel
theorem dX11_hint_30 : decode cX11_hint 30 = .ok (.ifCond .ne 5, 3) := by decide +kernel
theorem dX11_hint_33 : decode cX11_hint 33 = .ok (.iconst (-1), 1) := by decide +kernel
theorem dX11_hint_34 : decode cX11_hint 34 = .ok (.ireturn, 1) := by decide +kernel
theorem dX11_hint_35 : decode cX11_hint 35 = .ok (.iload_n 1, 1) := by decide +kernel
theorem dX11_hint_36 : decode cX11_hint 36 = .ok (.tableswitch 52 0 2 #[28, 36, 44], 28) := by decide +kernel
theorem dX11_hint_64 : decode cX11_hint 64 = .ok (.aload_n 0, 1) := by decide +kernel
theorem dX11_hint_65 : decode cX11_hint 65 = .ok (.getfield 43, 3) := by decide +kernel
theorem dX11_hint_68 : decode cX11_hint 68 = .ok (.getfield 225, 3) := by decide +kernel
theorem dX11_hint_71 : decode cX11_hint 71 = .ok (.ireturn, 1) := by decide +kernel
theorem dX11_hint_72 : decode cX11_hint 72 = .ok (.aload_n 0, 1) := by decide +kernel
theorem dX11_hint_73 : decode cX11_hint 73 = .ok (.getfield 43, 3) := by decide +kernel
theorem dX11_hint_76 : decode cX11_hint 76 = .ok (.getfield 228, 3) := by decide +kernel
theorem dX11_hint_79 : decode cX11_hint 79 = .ok (.ireturn, 1) := by decide +kernel
theorem dX11_hint_80 : decode cX11_hint 80 = .ok (.aload_n 0, 1) := by decide +kernel
theorem dX11_hint_81 : decode cX11_hint 81 = .ok (.getfield 43, 3) := by decide +kernel
theorem dX11_hint_84 : decode cX11_hint 84 = .ok (.getfield 231, 3) := by decide +kernel
theorem dX11_hint_87 : decode cX11_hint 87 = .ok (.ireturn, 1) := by decide +kernel
theorem dX11_hint_88 : decode cX11_hint 88 = .ok (.aload_n 0, 1) := by decide +kernel
theorem dX11_hint_89 : decode cX11_hint 89 = .ok (.getfield 43, 3) := by decide +kernel
theorem dX11_hint_92 : decode cX11_hint 92 = .ok (.getfield 234, 3) := by decide +kernel
theorem dX11_hint_95 : decode cX11_hint 95 = .ok (.ireturn, 1) := by decide +kernel
theorem dX11_reason_0 : decode cX11_reason 0 = .ok (.aload_n 0, 1) := by decide +kernel
theorem dX11_reason_1 : decode cX11_reason 1 = .ok (.getfield 43, 3) := by decide +kernel
theorem dX11_reason_4 : decode cX11_reason 4 = .ok (.aload_n 0, 1) := by decide +kernel
theorem dX11_reason_5 : decode cX11_reason 5 = .ok (.getfield 57, 3) := by decide +kernel
theorem dX11_reason_8 : decode cX11_reason 8 = .ok (.invokevirtual 241, 3) := by decide +kernel
theorem dX11_reason_11 : decode cX11_reason 11 = .ok (.ireturn, 1) := by decide +kernel
theorem dX11_reasoned_0 : decode cX11_reasoned 0 = .ok (.iload_n 1, 1) := by decide +kernel
theorem dX11_reasoned_1 : decode cX11_reasoned 1 = .ok (.tableswitch 73 0 3 #[31, 39, 47, 60], 31) := by decide +kernel
theorem dX11_reasoned_32 : decode cX11_reasoned 32 = .ok (.aload_n 0, 1) := by decide +kernel
theorem dX11_reasoned_33 : decode cX11_reasoned 33 = .ok (.getfield 43, 3) := by decide +kernel
theorem dX11_reasoned_36 : decode cX11_reasoned 36 = .ok (.getfield 244, 3) := by decide +kernel
theorem dX11_reasoned_39 : decode cX11_reasoned 39 = .ok (.ireturn, 1) := by decide +kernel
theorem dX11_reasoned_40 : decode cX11_reasoned 40 = .ok (.aload_n 0, 1) := by decide +kernel
theorem dX11_reasoned_41 : decode cX11_reasoned 41 = .ok (.getfield 43, 3) := by decide +kernel
theorem dX11_reasoned_44 : decode cX11_reasoned 44 = .ok (.getfield 247, 3) := by decide +kernel
theorem dX11_reasoned_47 : decode cX11_reasoned 47 = .ok (.ireturn, 1) := by decide +kernel
theorem dX11_reasoned_48 : decode cX11_reasoned 48 = .ok (.aload_n 0, 1) := by decide +kernel
theorem dX11_reasoned_49 : decode cX11_reasoned 49 = .ok (.getfield 43, 3) := by decide +kernel
theorem dX11_reasoned_52 : decode cX11_reasoned 52 = .ok (.aload_n 0, 1) := by decide +kernel
theorem dX11_reasoned_53 : decode cX11_reasoned 53 = .ok (.getfield 57, 3) := by decide +kernel
theorem dX11_reasoned_56 : decode cX11_reasoned 56 = .ok (.iconst 1, 1) := by decide +kernel
theorem dX11_reasoned_57 : decode cX11_reasoned 57 = .ok (.invokevirtual 250, 3) := by decide +kernel
theorem dX11_reasoned_60 : decode cX11_reasoned 60 = .ok (.ireturn, 1) := by decide +kernel
theorem dX11_reasoned_61 : decode cX11_reasoned 61 = .ok (.aload_n 0, 1) := by decide +kernel
theorem dX11_reasoned_62 : decode cX11_reasoned 62 = .ok (.getfield 43, 3) := by decide +kernel
theorem dX11_reasoned_65 : decode cX11_reasoned 65 = .ok (.aload_n 0, 1) := by decide +kernel
theorem dX11_reasoned_66 : decode cX11_reasoned 66 = .ok (.getfield 57, 3) := by decide +kernel
theorem dX11_reasoned_69 : decode cX11_reasoned 69 = .ok (.iconst 0, 1) := by decide +kernel
theorem dX11_reasoned_70 : decode cX11_reasoned 70 = .ok (.invokevirtual 250, 3) := by decide +kernel
theorem dX11_reasoned_73 : decode cX11_reasoned 73 = .ok (.ireturn, 1) := by decide +kernel
theorem dX11_reasoned_74 : decode cX11_reasoned 74 = .ok (.new 126, 3) := by decide +kernel
theorem dX11_reasoned_77 : decode cX11_reasoned 77 = .ok (.dup, 1) := by decide +kernel
theorem dX11_reasoned_78 : decode cX11_reasoned 78 = .ok (.ldc 253, 2) := by decide +kernel
theorem dX11_reasoned_80 : decode cX11_reasoned 80 = .ok (.invokespecial 130, 3) := by decide +kernel
theorem dX11_reasoned_83 : decode cX11_reasoned 83 = .ok (.athrow, 1) := by decide +kernel
theorem dX11_make_0 : decode cX11_make 0 = .ok (.iload_n 1, 1) := by decide +kernel
theorem dX11_make_1 : decode cX11_make 1 = .ok (.ifCond .lt 9, 3) := by decide +kernel
theorem dX11_make_4 : decode cX11_make 4 = .ok (.iload_n 1, 1) := by decide +kernel
theorem dX11_make_5 : decode cX11_make 5 = .ok (.ldc 255, 2) := by decide +kernel
theorem dX11_make_7 : decode cX11_make 7 = .ok (.if_icmp .le 14, 3) := by decide +kernel
theorem dX11_make_10 : decode cX11_make 10 = .ok (.new 79, 3) := by decide +kernel
theorem dX11_make_13 : decode cX11_make 13 = .ok (.dup, 1) := by decide +kernel
theorem dX11_make_14 : decode cX11_make 14 = .ok (.ldc_w 256, 3) := by decide +kernel
theorem dX11_make_17 : decode cX11_make 17 = .ok (.invokespecial 83, 3) := by decide +kernel
theorem dX11_make_20 : decode cX11_make 20 = .ok (.athrow, 1) := by decide +kernel
theorem dX11_make_21 : decode cX11_make 21 = .ok (.aload_n 0, 1) := by decide +kernel
theorem dX11_make_22 : decode cX11_make 22 = .ok (.invokevirtual 173, 3) := by decide +kernel
theorem dX11_make_25 : decode cX11_make 25 = .ok (.aload_n 0, 1) := by decide +kernel
theorem dX11_make_26 : decode cX11_make 26 = .ok (.getfield 50, 3) := by decide +kernel
theorem dX11_make_29 : decode cX11_make 29 = .ok (.aload_n 0, 1) := by decide +kernel
theorem dX11_make_30 : decode cX11_make 30 = .ok (.getfield 61, 3) := by decide +kernel
theorem dX11_make_33 : decode cX11_make 33 = .ok (.aload_n 0, 1) := by decide +kernel
theorem dX11_make_34 : decode cX11_make 34 = .ok (.getfield 57, 3) := by decide +kernel
theorem dX11_make_37 : decode cX11_make 37 = .ok (.aload_n 0, 1) := by decide +kernel
theorem dX11_make_38 : decode cX11_make 38 = .ok (.getfield 37, 3) := by decide +kernel
theorem dX11_make_41 : decode cX11_make 41 = .ok (.iload_n 1, 1) := by decide +kernel
theorem dX11_make_42 : decode cX11_make 42 = .ok (.invokevirtual 258, 3) := by decide +kernel
theorem dX11_make_45 : decode cX11_make 45 = .ok (.ifCond .ne 5, 3) := by decide +kernel
theorem dX11_make_48 : decode cX11_make 48 = .ok (.iconst (-1), 1) := by decide +kernel
theorem dX11_make_49 : decode cX11_make 49 = .ok (.ireturn, 1) := by decide +kernel
theorem dX11_make_50 : decode cX11_make 50 = .ok (.aload_n 0, 1) := by decide +kernel
theorem dX11_make_51 : decode cX11_make 51 = .ok (.getfield 50, 3) := by decide +kernel
theorem dX11_make_54 : decode cX11_make 54 = .ok (.aload_n 0, 1) := by decide +kernel
theorem dX11_make_55 : decode cX11_make 55 = .ok (.getfield 61, 3) := by decide +kernel
theorem dX11_make_58 : decode cX11_make 58 = .ok (.aload_n 0, 1) := by decide +kernel
theorem dX11_make_59 : decode cX11_make 59 = .ok (.getfield 37, 3) := by decide +kernel
theorem dX11_make_62 : decode cX11_make 62 = .ok (.invokevirtual 262, 3) := by decide +kernel
theorem dX11_make_65 : decode cX11_make 65 = .ok (.aload_n 0, 1) := by decide +kernel
theorem dX11_make_66 : decode cX11_make 66 = .ok (.invokevirtual 88, 3) := by decide +kernel
theorem dX11_make_69 : decode cX11_make 69 = .ok (.aload_n 0, 1) := by decide +kernel
theorem dX11_make_70 : decode cX11_make 70 = .ok (.getfield 57, 3) := by decide +kernel
theorem dX11_make_73 : decode cX11_make 73 = .ok (.invokevirtual 109, 3) := by decide +kernel
theorem dX11_make_76 : decode cX11_make 76 = .ok (.ireturn, 1) := by decide +kernel
theorem dX11_change_0 : decode cX11_change 0 = .ok (.iload_n 1, 1) := by decide +kernel
theorem dX11_change_1 : decode cX11_change 1 = .ok (.ifCond .eq 19, 3) := by decide +kernel
theorem dX11_change_4 : decode cX11_change 4 = .ok (.iload_n 1, 1) := by decide +kernel
theorem dX11_change_5 : decode cX11_change 5 = .ok (.iconst 1, 1) := by decide +kernel
theorem dX11_change_6 : decode cX11_change 6 = .ok (.if_icmp .eq 14, 3) := by decide +kernel
theorem dX11_change_9 : decode cX11_change 9 = .ok (.new 79, 3) := by decide +kernel
theorem dX11_change_12 : decode cX11_change 12 = .ok (.dup, 1) := by decide +kernel
theorem dX11_change_13 : decode cX11_change 13 = .ok (.ldc_w 266, 3) := by decide +kernel
theorem dX11_change_16 : decode cX11_change 16 = .ok (.invokespecial 83, 3) := by decide +kernel
theorem dX11_change_19 : decode cX11_change 19 = .ok (.athrow, 1) := by decide +kernel
theorem dX11_change_20 : decode cX11_change 20 = .ok (.aload_n 0, 1) := by decide +kernel
theorem dX11_change_21 : decode cX11_change 21 = .ok (.invokevirtual 173, 3) := by decide +kernel
theorem dX11_change_24 : decode cX11_change 24 = .ok (.aload_n 0, 1) := by decide +kernel
theorem dX11_change_25 : decode cX11_change 25 = .ok (.getfield 61, 3) := by decide +kernel
theorem dX11_change_28 : decode cX11_change 28 = .ok (.aload_n 0, 1) := by decide +kernel
theorem dX11_change_29 : decode cX11_change 29 = .ok (.getfield 57, 3) := by decide +kernel
theorem dX11_change_32 : decode cX11_change 32 = .ok (.iload_n 1, 1) := by decide +kernel
theorem dX11_change_33 : decode cX11_change 33 = .ok (.ifCond .ne 7, 3) := by decide +kernel
theorem dX11_change_36 : decode cX11_change 36 = .ok (.iconst 1, 1) := by decide +kernel
theorem dX11_change_37 : decode cX11_change 37 = .ok (.goto 4, 3) := by decide +kernel
theorem dX11_change_40 : decode cX11_change 40 = .ok (.iconst 0, 1) := by decide +kernel
theorem dX11_change_41 : decode cX11_change 41 = .ok (.invokevirtual 268, 3) := by decide +kernel
theorem dX11_change_44 : decode cX11_change 44 = .ok (.aload_n 0, 1) := by decide +kernel
theorem dX11_change_45 : decode cX11_change 45 = .ok (.invokevirtual 88, 3) := by decide +kernel
theorem dX11_change_48 : decode cX11_change 48 = .ok (.aload_n 0, 1) := by decide +kernel
theorem dX11_change_49 : decode cX11_change 49 = .ok (.getfield 57, 3) := by decide +kernel
theorem dX11_change_52 : decode cX11_change 52 = .ok (.invokevirtual 272, 3) := by decide +kernel
theorem dX11_change_55 : decode cX11_change 55 = .ok (.ireturn, 1) := by decide +kernel
theorem dX11_doubt_0 : decode cX11_doubt 0 = .ok (.aload_n 0, 1) := by decide +kernel
theorem dX11_doubt_1 : decode cX11_doubt 1 = .ok (.getfield 57, 3) := by decide +kernel
theorem dX11_doubt_4 : decode cX11_doubt 4 = .ok (.invokevirtual 272, 3) := by decide +kernel
theorem dX11_doubt_7 : decode cX11_doubt 7 = .ok (.aload_n 0, 1) := by decide +kernel
theorem dX11_doubt_8 : decode cX11_doubt 8 = .ok (.getfield 57, 3) := by decide +kernel
theorem dX11_doubt_11 : decode cX11_doubt 11 = .ok (.getfield 103, 3) := by decide +kernel
theorem dX11_doubt_14 : decode cX11_doubt 14 = .ok (.imul, 1) := by decide +kernel
theorem dX11_doubt_15 : decode cX11_doubt 15 = .ok (.istore_n 1, 1) := by decide +kernel
theorem dX11_doubt_16 : decode cX11_doubt 16 = .ok (.iload_n 1, 1) := by decide +kernel
theorem dX11_doubt_17 : decode cX11_doubt 17 = .ok (.iconst 1, 1) := by decide +kernel
theorem dX11_doubt_18 : decode cX11_doubt 18 = .ok (.if_icmp .ge 5, 3) := by decide +kernel
theorem dX11_doubt_21 : decode cX11_doubt 21 = .ok (.dconst 0, 1) := by decide +kernel
theorem dX11_doubt_22 : decode cX11_doubt 22 = .ok (.dreturn, 1) := by decide +kernel
theorem dX11_doubt_23 : decode cX11_doubt 23 = .ok (.aload_n 0, 1) := by decide +kernel
theorem dX11_doubt_24 : decode cX11_doubt 24 = .ok (.getfield 43, 3) := by decide +kernel
theorem dX11_doubt_27 : decode cX11_doubt 27 = .ok (.aload_n 0, 1) := by decide +kernel
theorem dX11_doubt_28 : decode cX11_doubt 28 = .ok (.getfield 57, 3) := by decide +kernel
theorem dX11_doubt_31 : decode cX11_doubt 31 = .ok (.invokevirtual 212, 3) := by decide +kernel
theorem dX11_doubt_34 : decode cX11_doubt 34 = .ok (.i2d, 1) := by decide +kernel
theorem dX11_doubt_35 : decode cX11_doubt 35 = .ok (.iload_n 1, 1) := by decide +kernel
theorem dX11_doubt_36 : decode cX11_doubt 36 = .ok (.i2d, 1) := by decide +kernel
theorem dX11_doubt_37 : decode cX11_doubt 37 = .ok (.ddiv, 1) := by decide +kernel
theorem dX11_doubt_38 : decode cX11_doubt 38 = .ok (.dreturn, 1) := by decide +kernel
theorem dX11_digest_0 : decode cX11_digest 0 = .ok (.ldc2_w 275, 3) := by decide +kernel
theorem dX11_digest_3 : decode cX11_digest 3 = .ok (.lstore_n 1, 1) := by decide +kernel
theorem dX11_digest_4 : decode cX11_digest 4 = .ok (.iconst 0, 1) := by decide +kernel
theorem dX11_digest_5 : decode cX11_digest 5 = .ok (.istore_n 3, 1) := by decide +kernel
theorem dX11_digest_6 : decode cX11_digest 6 = .ok (.iload_n 3, 1) := by decide +kernel
theorem dX11_digest_7 : decode cX11_digest 7 = .ok (.bipush 10, 2) := by decide +kernel
theorem dX11_digest_9 : decode cX11_digest 9 = .ok (.if_icmp .gt 22, 3) := by decide +kernel
theorem dX11_digest_12 : decode cX11_digest 12 = .ok (.lload_n 1, 1) := by decide +kernel
theorem dX11_digest_13 : decode cX11_digest 13 = .ok (.ldc2_w 277, 3) := by decide +kernel
theorem dX11_digest_16 : decode cX11_digest 16 = .ok (.lmul, 1) := by decide +kernel
theorem dX11_digest_17 : decode cX11_digest 17 = .ok (.aload_n 0, 1) := by decide +kernel
