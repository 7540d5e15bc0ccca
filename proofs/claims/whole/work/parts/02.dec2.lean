theorem dX9_putName_42 : decode cX9_putName 42 = .ok (.getfield 27, 3) := by decide +kernel
theorem dX9_putName_45 : decode cX9_putName 45 = .ok (.iload_n 1, 1) := by decide +kernel
theorem dX9_putName_46 : decode cX9_putName 46 = .ok (.aload_n 3, 1) := by decide +kernel
theorem dX9_putName_47 : decode cX9_putName 47 = .ok (.invokevirtual 66, 3) := by decide +kernel
theorem dX9_putName_50 : decode cX9_putName 50 = .ok (.iastore, 1) := by decide +kernel
theorem dX9_putName_51 : decode cX9_putName 51 = .ok (.aload_n 0, 1) := by decide +kernel
theorem dX9_putName_52 : decode cX9_putName 52 = .ok (.getfield 30, 3) := by decide +kernel
theorem dX9_putName_55 : decode cX9_putName 55 = .ok (.iload_n 1, 1) := by decide +kernel
theorem dX9_putName_56 : decode cX9_putName 56 = .ok (.iload 5, 2) := by decide +kernel
theorem dX9_putName_58 : decode cX9_putName 58 = .ok (.iastore, 1) := by decide +kernel
theorem dX9_putName_59 : decode cX9_putName 59 = .ok (.aload_n 0, 1) := by decide +kernel
theorem dX9_putName_60 : decode cX9_putName 60 = .ok (.getfield 33, 3) := by decide +kernel
theorem dX9_putName_63 : decode cX9_putName 63 = .ok (.iload_n 1, 1) := by decide +kernel
theorem dX9_putName_64 : decode cX9_putName 64 = .ok (.iload 4, 2) := by decide +kernel
theorem dX9_putName_66 : decode cX9_putName 66 = .ok (.iastore, 1) := by decide +kernel
theorem dX9_putName_67 : decode cX9_putName 67 = .ok (.aload_n 0, 1) := by decide +kernel
theorem dX9_putName_68 : decode cX9_putName 68 = .ok (.dup, 1) := by decide +kernel
theorem dX9_putName_69 : decode cX9_putName 69 = .ok (.getfield 46, 3) := by decide +kernel
theorem dX9_putName_72 : decode cX9_putName 72 = .ok (.iconst 1, 1) := by decide +kernel
theorem dX9_putName_73 : decode cX9_putName 73 = .ok (.iadd, 1) := by decide +kernel
theorem dX9_putName_74 : decode cX9_putName 74 = .ok (.putfield 46, 3) := by decide +kernel
theorem dX9_putName_77 : decode cX9_putName 77 = .ok (.return_, 1) := by decide +kernel
theorem dX9_has_0 : decode cX9_has 0 = .ok (.iload_n 1, 1) := by decide +kernel
theorem dX9_has_1 : decode cX9_has 1 = .ok (.ifCond .lt 26, 3) := by decide +kernel
theorem dX9_has_4 : decode cX9_has 4 = .ok (.iload_n 1, 1) := by decide +kernel
theorem dX9_has_5 : decode cX9_has 5 = .ok (.aload_n 0, 1) := by decide +kernel
theorem dX9_has_6 : decode cX9_has 6 = .ok (.getfield 23, 3) := by decide +kernel
theorem dX9_has_9 : decode cX9_has 9 = .ok (.arraylength, 1) := by decide +kernel
theorem dX9_has_10 : decode cX9_has 10 = .ok (.if_icmp .ge 17, 3) := by decide +kernel
theorem dX9_has_13 : decode cX9_has 13 = .ok (.aload_n 0, 1) := by decide +kernel
theorem dX9_has_14 : decode cX9_has 14 = .ok (.getfield 23, 3) := by decide +kernel
theorem dX9_has_17 : decode cX9_has 17 = .ok (.iload_n 1, 1) := by decide +kernel
theorem dX9_has_18 : decode cX9_has 18 = .ok (.iaload, 1) := by decide +kernel
theorem dX9_has_19 : decode cX9_has 19 = .ok (.iconst (-1), 1) := by decide +kernel
theorem dX9_has_20 : decode cX9_has 20 = .ok (.if_icmp .eq 7, 3) := by decide +kernel
theorem dX9_has_23 : decode cX9_has 23 = .ok (.iconst 1, 1) := by decide +kernel
theorem dX9_has_24 : decode cX9_has 24 = .ok (.goto 4, 3) := by decide +kernel
theorem dX9_has_27 : decode cX9_has 27 = .ok (.iconst 0, 1) := by decide +kernel
theorem dX9_has_28 : decode cX9_has 28 = .ok (.ireturn, 1) := by decide +kernel
theorem dX9_clauseCount_0 : decode cX9_clauseCount 0 = .ok (.aload_n 0, 1) := by decide +kernel
theorem dX9_clauseCount_1 : decode cX9_clauseCount 1 = .ok (.getfield 42, 3) := by decide +kernel
theorem dX9_clauseCount_4 : decode cX9_clauseCount 4 = .ok (.ireturn, 1) := by decide +kernel
theorem dX9_namedCount_0 : decode cX9_namedCount 0 = .ok (.aload_n 0, 1) := by decide +kernel
theorem dX9_namedCount_1 : decode cX9_namedCount 1 = .ok (.getfield 46, 3) := by decide +kernel
theorem dX9_namedCount_4 : decode cX9_namedCount 4 = .ok (.ireturn, 1) := by decide +kernel
theorem dX9_greatestNamed_0 : decode cX9_greatestNamed 0 = .ok (.sipush 999, 3) := by decide +kernel
theorem dX9_greatestNamed_3 : decode cX9_greatestNamed 3 = .ok (.istore_n 1, 1) := by decide +kernel
theorem dX9_greatestNamed_4 : decode cX9_greatestNamed 4 = .ok (.iload_n 1, 1) := by decide +kernel
theorem dX9_greatestNamed_5 : decode cX9_greatestNamed 5 = .ok (.ifCond .lt 19, 3) := by decide +kernel
theorem dX9_greatestNamed_8 : decode cX9_greatestNamed 8 = .ok (.aload_n 0, 1) := by decide +kernel
theorem dX9_greatestNamed_9 : decode cX9_greatestNamed 9 = .ok (.iload_n 1, 1) := by decide +kernel
theorem dX9_greatestNamed_10 : decode cX9_greatestNamed 10 = .ok (.invokevirtual 72, 3) := by decide +kernel
theorem dX9_greatestNamed_13 : decode cX9_greatestNamed 13 = .ok (.ifCond .eq 5, 3) := by decide +kernel
theorem dX9_greatestNamed_16 : decode cX9_greatestNamed 16 = .ok (.iload_n 1, 1) := by decide +kernel
theorem dX9_greatestNamed_17 : decode cX9_greatestNamed 17 = .ok (.ireturn, 1) := by decide +kernel
theorem dX9_greatestNamed_18 : decode cX9_greatestNamed 18 = .ok (.iinc 1 (-1), 3) := by decide +kernel
theorem dX9_greatestNamed_21 : decode cX9_greatestNamed 21 = .ok (.goto (-17), 3) := by decide +kernel
theorem dX9_greatestNamed_24 : decode cX9_greatestNamed 24 = .ok (.iconst (-1), 1) := by decide +kernel
theorem dX9_greatestNamed_25 : decode cX9_greatestNamed 25 = .ok (.ireturn, 1) := by decide +kernel
theorem dX9_leastNameless_0 : decode cX9_leastNameless 0 = .ok (.iconst 0, 1) := by decide +kernel
theorem dX9_leastNameless_1 : decode cX9_leastNameless 1 = .ok (.istore_n 1, 1) := by decide +kernel
theorem dX9_leastNameless_2 : decode cX9_leastNameless 2 = .ok (.iload_n 1, 1) := by decide +kernel
theorem dX9_leastNameless_3 : decode cX9_leastNameless 3 = .ok (.sipush 1000, 3) := by decide +kernel
theorem dX9_leastNameless_6 : decode cX9_leastNameless 6 = .ok (.if_icmp .ge 19, 3) := by decide +kernel
theorem dX9_leastNameless_9 : decode cX9_leastNameless 9 = .ok (.aload_n 0, 1) := by decide +kernel
theorem dX9_leastNameless_10 : decode cX9_leastNameless 10 = .ok (.iload_n 1, 1) := by decide +kernel
theorem dX9_leastNameless_11 : decode cX9_leastNameless 11 = .ok (.invokevirtual 72, 3) := by decide +kernel
theorem dX9_leastNameless_14 : decode cX9_leastNameless 14 = .ok (.ifCond .ne 5, 3) := by decide +kernel
theorem dX9_leastNameless_17 : decode cX9_leastNameless 17 = .ok (.iload_n 1, 1) := by decide +kernel
theorem dX9_leastNameless_18 : decode cX9_leastNameless 18 = .ok (.ireturn, 1) := by decide +kernel
theorem dX9_leastNameless_19 : decode cX9_leastNameless 19 = .ok (.iinc 1 1, 3) := by decide +kernel
theorem dX9_leastNameless_22 : decode cX9_leastNameless 22 = .ok (.goto (-20), 3) := by decide +kernel
theorem dX9_leastNameless_25 : decode cX9_leastNameless 25 = .ok (.iconst (-1), 1) := by decide +kernel
theorem dX9_leastNameless_26 : decode cX9_leastNameless 26 = .ok (.ireturn, 1) := by decide +kernel
theorem dX9_lettersOf_0 : decode cX9_lettersOf 0 = .ok (.aload_n 0, 1) := by decide +kernel
theorem dX9_lettersOf_1 : decode cX9_lettersOf 1 = .ok (.iload_n 1, 1) := by decide +kernel
theorem dX9_lettersOf_2 : decode cX9_lettersOf 2 = .ok (.invokevirtual 72, 3) := by decide +kernel
theorem dX9_lettersOf_5 : decode cX9_lettersOf 5 = .ok (.ifCond .eq 12, 3) := by decide +kernel
theorem dX9_lettersOf_8 : decode cX9_lettersOf 8 = .ok (.aload_n 0, 1) := by decide +kernel
theorem dX9_lettersOf_9 : decode cX9_lettersOf 9 = .ok (.getfield 27, 3) := by decide +kernel
theorem dX9_lettersOf_12 : decode cX9_lettersOf 12 = .ok (.iload_n 1, 1) := by decide +kernel
theorem dX9_lettersOf_13 : decode cX9_lettersOf 13 = .ok (.iaload, 1) := by decide +kernel
theorem dX9_lettersOf_14 : decode cX9_lettersOf 14 = .ok (.goto 4, 3) := by decide +kernel
theorem dX9_lettersOf_17 : decode cX9_lettersOf 17 = .ok (.iconst (-1), 1) := by decide +kernel
theorem dX9_lettersOf_18 : decode cX9_lettersOf 18 = .ok (.ireturn, 1) := by decide +kernel
theorem dX9_clauseOf_0 : decode cX9_clauseOf 0 = .ok (.aload_n 0, 1) := by decide +kernel
theorem dX9_clauseOf_1 : decode cX9_clauseOf 1 = .ok (.iload_n 1, 1) := by decide +kernel
theorem dX9_clauseOf_2 : decode cX9_clauseOf 2 = .ok (.invokevirtual 72, 3) := by decide +kernel
theorem dX9_clauseOf_5 : decode cX9_clauseOf 5 = .ok (.ifCond .eq 12, 3) := by decide +kernel
theorem dX9_clauseOf_8 : decode cX9_clauseOf 8 = .ok (.aload_n 0, 1) := by decide +kernel
theorem dX9_clauseOf_9 : decode cX9_clauseOf 9 = .ok (.getfield 33, 3) := by decide +kernel
theorem dX9_clauseOf_12 : decode cX9_clauseOf 12 = .ok (.iload_n 1, 1) := by decide +kernel
theorem dX9_clauseOf_13 : decode cX9_clauseOf 13 = .ok (.iaload, 1) := by decide +kernel
theorem dX9_clauseOf_14 : decode cX9_clauseOf 14 = .ok (.goto 4, 3) := by decide +kernel
theorem dX9_clauseOf_17 : decode cX9_clauseOf 17 = .ok (.iconst (-1), 1) := by decide +kernel
theorem dX9_clauseOf_18 : decode cX9_clauseOf 18 = .ok (.ireturn, 1) := by decide +kernel
theorem dX9_depthOf_0 : decode cX9_depthOf 0 = .ok (.aload_n 0, 1) := by decide +kernel
theorem dX9_depthOf_1 : decode cX9_depthOf 1 = .ok (.iload_n 1, 1) := by decide +kernel
theorem dX9_depthOf_2 : decode cX9_depthOf 2 = .ok (.invokevirtual 72, 3) := by decide +kernel
theorem dX9_depthOf_5 : decode cX9_depthOf 5 = .ok (.ifCond .eq 12, 3) := by decide +kernel
theorem dX9_depthOf_8 : decode cX9_depthOf 8 = .ok (.aload_n 0, 1) := by decide +kernel
theorem dX9_depthOf_9 : decode cX9_depthOf 9 = .ok (.getfield 30, 3) := by decide +kernel
theorem dX9_depthOf_12 : decode cX9_depthOf 12 = .ok (.iload_n 1, 1) := by decide +kernel
theorem dX9_depthOf_13 : decode cX9_depthOf 13 = .ok (.iaload, 1) := by decide +kernel
theorem dX9_depthOf_14 : decode cX9_depthOf 14 = .ok (.goto 4, 3) := by decide +kernel
theorem dX9_depthOf_17 : decode cX9_depthOf 17 = .ok (.iconst (-1), 1) := by decide +kernel
theorem dX9_depthOf_18 : decode cX9_depthOf 18 = .ok (.ireturn, 1) := by decide +kernel
theorem dX9_sizeOf_0 : decode cX9_sizeOf 0 = .ok (.aload_n 0, 1) := by decide +kernel
theorem dX9_sizeOf_1 : decode cX9_sizeOf 1 = .ok (.iload_n 1, 1) := by decide +kernel
theorem dX9_sizeOf_2 : decode cX9_sizeOf 2 = .ok (.invokevirtual 72, 3) := by decide +kernel
theorem dX9_sizeOf_5 : decode cX9_sizeOf 5 = .ok (.ifCond .eq 12, 3) := by decide +kernel
theorem dX9_sizeOf_8 : decode cX9_sizeOf 8 = .ok (.aload_n 0, 1) := by decide +kernel
theorem dX9_sizeOf_9 : decode cX9_sizeOf 9 = .ok (.getfield 23, 3) := by decide +kernel
theorem dX9_sizeOf_12 : decode cX9_sizeOf 12 = .ok (.iload_n 1, 1) := by decide +kernel
theorem dX9_sizeOf_13 : decode cX9_sizeOf 13 = .ok (.iaload, 1) := by decide +kernel
theorem dX9_sizeOf_14 : decode cX9_sizeOf 14 = .ok (.goto 4, 3) := by decide +kernel
theorem dX9_sizeOf_17 : decode cX9_sizeOf 17 = .ok (.iconst (-1), 1) := by decide +kernel
theorem dX9_sizeOf_18 : decode cX9_sizeOf 18 = .ok (.ireturn, 1) := by decide +kernel
theorem dX9_sizeOrByte_0 : decode cX9_sizeOrByte 0 = .ok (.iload_n 2, 1) := by decide +kernel
theorem dX9_sizeOrByte_1 : decode cX9_sizeOrByte 1 = .ok (.iconst (-1), 1) := by decide +kernel
theorem dX9_sizeOrByte_2 : decode cX9_sizeOrByte 2 = .ok (.if_icmp .ne 9, 3) := by decide +kernel
theorem dX9_sizeOrByte_5 : decode cX9_sizeOrByte 5 = .ok (.aload_n 0, 1) := by decide +kernel
theorem dX9_sizeOrByte_6 : decode cX9_sizeOrByte 6 = .ok (.iload_n 1, 1) := by decide +kernel
theorem dX9_sizeOrByte_7 : decode cX9_sizeOrByte 7 = .ok (.invokevirtual 76, 3) := by decide +kernel
theorem dX9_sizeOrByte_10 : decode cX9_sizeOrByte 10 = .ok (.ireturn, 1) := by decide +kernel
theorem dX9_sizeOrByte_11 : decode cX9_sizeOrByte 11 = .ok (.iload_n 2, 1) := by decide +kernel
theorem dX9_sizeOrByte_12 : decode cX9_sizeOrByte 12 = .ok (.ifCond .lt 24, 3) := by decide +kernel
theorem dX9_sizeOrByte_15 : decode cX9_sizeOrByte 15 = .ok (.iload_n 2, 1) := by decide +kernel
theorem dX9_sizeOrByte_16 : decode cX9_sizeOrByte 16 = .ok (.aload_n 0, 1) := by decide +kernel
theorem dX9_sizeOrByte_17 : decode cX9_sizeOrByte 17 = .ok (.iload_n 1, 1) := by decide +kernel
theorem dX9_sizeOrByte_18 : decode cX9_sizeOrByte 18 = .ok (.invokevirtual 76, 3) := by decide +kernel
theorem dX9_sizeOrByte_21 : decode cX9_sizeOrByte 21 = .ok (.if_icmp .ge 15, 3) := by decide +kernel
theorem dX9_sizeOrByte_24 : decode cX9_sizeOrByte 24 = .ok (.aload_n 0, 1) := by decide +kernel
theorem dX9_sizeOrByte_25 : decode cX9_sizeOrByte 25 = .ok (.getfield 14, 3) := by decide +kernel
theorem dX9_sizeOrByte_28 : decode cX9_sizeOrByte 28 = .ok (.iload_n 1, 1) := by decide +kernel
theorem dX9_sizeOrByte_29 : decode cX9_sizeOrByte 29 = .ok (.iload_n 2, 1) := by decide +kernel
theorem dX9_sizeOrByte_30 : decode cX9_sizeOrByte 30 = .ok (.invokevirtual 80, 3) := by decide +kernel
theorem dX9_sizeOrByte_33 : decode cX9_sizeOrByte 33 = .ok (.goto 4, 3) := by decide +kernel
theorem dX9_sizeOrByte_36 : decode cX9_sizeOrByte 36 = .ok (.iconst (-1), 1) := by decide +kernel
theorem dX9_sizeOrByte_37 : decode cX9_sizeOrByte 37 = .ok (.ireturn, 1) := by decide +kernel
theorem dX9_countOf_0 : decode cX9_countOf 0 = .ok (.aload_n 0, 1) := by decide +kernel
theorem dX9_countOf_1 : decode cX9_countOf 1 = .ok (.iload_n 2, 1) := by decide +kernel
theorem dX9_countOf_2 : decode cX9_countOf 2 = .ok (.invokevirtual 72, 3) := by decide +kernel
theorem dX9_countOf_5 : decode cX9_countOf 5 = .ok (.ifCond .eq 15, 3) := by decide +kernel
theorem dX9_countOf_8 : decode cX9_countOf 8 = .ok (.aload_n 0, 1) := by decide +kernel
theorem dX9_countOf_9 : decode cX9_countOf 9 = .ok (.getfield 14, 3) := by decide +kernel
theorem dX9_countOf_12 : decode cX9_countOf 12 = .ok (.iload_n 2, 1) := by decide +kernel
theorem dX9_countOf_13 : decode cX9_countOf 13 = .ok (.iload_n 1, 1) := by decide +kernel
theorem dX9_countOf_14 : decode cX9_countOf 14 = .ok (.invokevirtual 84, 3) := by decide +kernel
theorem dX9_countOf_17 : decode cX9_countOf 17 = .ok (.goto 4, 3) := by decide +kernel
theorem dX9_countOf_20 : decode cX9_countOf 20 = .ok (.iconst 0, 1) := by decide +kernel
theorem dX9_countOf_21 : decode cX9_countOf 21 = .ok (.ireturn, 1) := by decide +kernel
theorem dX9_isHonest_0 : decode cX9_isHonest 0 = .ok (.aload_n 0, 1) := by decide +kernel
theorem dX9_isHonest_1 : decode cX9_isHonest 1 = .ok (.iload_n 1, 1) := by decide +kernel
theorem dX9_isHonest_2 : decode cX9_isHonest 2 = .ok (.invokevirtual 72, 3) := by decide +kernel
theorem dX9_isHonest_5 : decode cX9_isHonest 5 = .ok (.ifCond .eq 17, 3) := by decide +kernel
theorem dX9_isHonest_8 : decode cX9_isHonest 8 = .ok (.aload_n 0, 1) := by decide +kernel
theorem dX9_isHonest_9 : decode cX9_isHonest 9 = .ok (.getfield 27, 3) := by decide +kernel
theorem dX9_isHonest_12 : decode cX9_isHonest 12 = .ok (.iload_n 1, 1) := by decide +kernel
theorem dX9_isHonest_13 : decode cX9_isHonest 13 = .ok (.iaload, 1) := by decide +kernel
theorem dX9_isHonest_14 : decode cX9_isHonest 14 = .ok (.iload_n 1, 1) := by decide +kernel
theorem dX9_isHonest_15 : decode cX9_isHonest 15 = .ok (.if_icmp .ne 7, 3) := by decide +kernel
theorem dX9_isHonest_18 : decode cX9_isHonest 18 = .ok (.iconst 1, 1) := by decide +kernel
theorem dX9_isHonest_19 : decode cX9_isHonest 19 = .ok (.goto 4, 3) := by decide +kernel
theorem dX9_isHonest_22 : decode cX9_isHonest 22 = .ok (.iconst 0, 1) := by decide +kernel
theorem dX9_isHonest_23 : decode cX9_isHonest 23 = .ok (.ireturn, 1) := by decide +kernel
theorem dX9_honestCount_0 : decode cX9_honestCount 0 = .ok (.iconst 0, 1) := by decide +kernel
theorem dX9_honestCount_1 : decode cX9_honestCount 1 = .ok (.istore_n 1, 1) := by decide +kernel
theorem dX9_honestCount_2 : decode cX9_honestCount 2 = .ok (.iconst 0, 1) := by decide +kernel
theorem dX9_honestCount_3 : decode cX9_honestCount 3 = .ok (.istore_n 2, 1) := by decide +kernel
theorem dX9_honestCount_4 : decode cX9_honestCount 4 = .ok (.iload_n 2, 1) := by decide +kernel
theorem dX9_honestCount_5 : decode cX9_honestCount 5 = .ok (.bipush 60, 2) := by decide +kernel
theorem dX9_honestCount_7 : decode cX9_honestCount 7 = .ok (.if_icmp .gt 20, 3) := by decide +kernel
theorem dX9_honestCount_10 : decode cX9_honestCount 10 = .ok (.aload_n 0, 1) := by decide +kernel
theorem dX9_honestCount_11 : decode cX9_honestCount 11 = .ok (.iload_n 2, 1) := by decide +kernel
theorem dX9_honestCount_12 : decode cX9_honestCount 12 = .ok (.invokevirtual 87, 3) := by decide +kernel
theorem dX9_honestCount_15 : decode cX9_honestCount 15 = .ok (.ifCond .eq 6, 3) := by decide +kernel
theorem dX9_honestCount_18 : decode cX9_honestCount 18 = .ok (.iinc 1 1, 3) := by decide +kernel
theorem dX9_honestCount_21 : decode cX9_honestCount 21 = .ok (.iinc 2 1, 3) := by decide +kernel
theorem dX9_honestCount_24 : decode cX9_honestCount 24 = .ok (.goto (-20), 3) := by decide +kernel
theorem dX9_honestCount_27 : decode cX9_honestCount 27 = .ok (.iload_n 1, 1) := by decide +kernel
theorem dX9_honestCount_28 : decode cX9_honestCount 28 = .ok (.ireturn, 1) := by decide +kernel
theorem dX9_honestAt_0 : decode cX9_honestAt 0 = .ok (.iconst 0, 1) := by decide +kernel
theorem dX9_honestAt_1 : decode cX9_honestAt 1 = .ok (.istore_n 2, 1) := by decide +kernel
theorem dX9_honestAt_2 : decode cX9_honestAt 2 = .ok (.iconst 0, 1) := by decide +kernel
theorem dX9_honestAt_3 : decode cX9_honestAt 3 = .ok (.istore_n 3, 1) := by decide +kernel
theorem dX9_honestAt_4 : decode cX9_honestAt 4 = .ok (.iload_n 3, 1) := by decide +kernel
theorem dX9_honestAt_5 : decode cX9_honestAt 5 = .ok (.bipush 60, 2) := by decide +kernel
theorem dX9_honestAt_7 : decode cX9_honestAt 7 = .ok (.if_icmp .gt 27, 3) := by decide +kernel
theorem dX9_honestAt_10 : decode cX9_honestAt 10 = .ok (.aload_n 0, 1) := by decide +kernel
theorem dX9_honestAt_11 : decode cX9_honestAt 11 = .ok (.iload_n 3, 1) := by decide +kernel
theorem dX9_honestAt_12 : decode cX9_honestAt 12 = .ok (.invokevirtual 87, 3) := by decide +kernel
theorem dX9_honestAt_15 : decode cX9_honestAt 15 = .ok (.ifCond .eq 13, 3) := by decide +kernel
theorem dX9_honestAt_18 : decode cX9_honestAt 18 = .ok (.iload_n 2, 1) := by decide +kernel
theorem dX9_honestAt_19 : decode cX9_honestAt 19 = .ok (.iinc 2 1, 3) := by decide +kernel
theorem dX9_honestAt_22 : decode cX9_honestAt 22 = .ok (.iload_n 1, 1) := by decide +kernel
theorem dX9_honestAt_23 : decode cX9_honestAt 23 = .ok (.if_icmp .ne 5, 3) := by decide +kernel
theorem dX9_honestAt_26 : decode cX9_honestAt 26 = .ok (.iload_n 3, 1) := by decide +kernel
theorem dX9_honestAt_27 : decode cX9_honestAt 27 = .ok (.ireturn, 1) := by decide +kernel
theorem dX9_honestAt_28 : decode cX9_honestAt 28 = .ok (.iinc 3 1, 3) := by decide +kernel
theorem dX9_honestAt_31 : decode cX9_honestAt 31 = .ok (.goto (-27), 3) := by decide +kernel
theorem dX9_honestAt_34 : decode cX9_honestAt 34 = .ok (.iconst (-1), 1) := by decide +kernel
theorem dX9_honestAt_35 : decode cX9_honestAt 35 = .ok (.ireturn, 1) := by decide +kernel
theorem dX9_isReadAs_0 : decode cX9_isReadAs 0 = .ok (.aload_n 0, 1) := by decide +kernel
theorem dX9_isReadAs_1 : decode cX9_isReadAs 1 = .ok (.iload_n 3, 1) := by decide +kernel
theorem dX9_isReadAs_2 : decode cX9_isReadAs 2 = .ok (.invokevirtual 72, 3) := by decide +kernel
theorem dX9_isReadAs_5 : decode cX9_isReadAs 5 = .ok (.ifCond .eq 31, 3) := by decide +kernel
theorem dX9_isReadAs_8 : decode cX9_isReadAs 8 = .ok (.iload_n 2, 1) := by decide +kernel
theorem dX9_isReadAs_9 : decode cX9_isReadAs 9 = .ok (.ifCond .eq 10, 3) := by decide +kernel
theorem dX9_isReadAs_12 : decode cX9_isReadAs 12 = .ok (.aload_n 0, 1) := by decide +kernel
theorem dX9_isReadAs_13 : decode cX9_isReadAs 13 = .ok (.getfield 20, 3) := by decide +kernel
theorem dX9_isReadAs_16 : decode cX9_isReadAs 16 = .ok (.goto 7, 3) := by decide +kernel
theorem dX9_isReadAs_19 : decode cX9_isReadAs 19 = .ok (.aload_n 0, 1) := by decide +kernel
theorem dX9_isReadAs_20 : decode cX9_isReadAs 20 = .ok (.getfield 14, 3) := by decide +kernel
theorem dX9_isReadAs_23 : decode cX9_isReadAs 23 = .ok (.iload_n 3, 1) := by decide +kernel
theorem dX9_isReadAs_24 : decode cX9_isReadAs 24 = .ok (.aload_n 1, 1) := by decide +kernel
theorem dX9_isReadAs_25 : decode cX9_isReadAs 25 = .ok (.iconst 0, 1) := by decide +kernel
theorem dX9_isReadAs_26 : decode cX9_isReadAs 26 = .ok (.invokevirtual 90, 3) := by decide +kernel
theorem dX9_isReadAs_29 : decode cX9_isReadAs 29 = .ok (.ifCond .ne 7, 3) := by decide +kernel
theorem dX9_isReadAs_32 : decode cX9_isReadAs 32 = .ok (.iconst 1, 1) := by decide +kernel
theorem dX9_isReadAs_33 : decode cX9_isReadAs 33 = .ok (.goto 4, 3) := by decide +kernel
theorem dX9_isReadAs_36 : decode cX9_isReadAs 36 = .ok (.iconst 0, 1) := by decide +kernel
theorem dX9_isReadAs_37 : decode cX9_isReadAs 37 = .ok (.ireturn, 1) := by decide +kernel
theorem dX9_readings_0 : decode cX9_readings 0 = .ok (.iconst 0, 1) := by decide +kernel
theorem dX9_readings_1 : decode cX9_readings 1 = .ok (.istore_n 3, 1) := by decide +kernel
theorem dX9_readings_2 : decode cX9_readings 2 = .ok (.iconst 0, 1) := by decide +kernel
theorem dX9_readings_3 : decode cX9_readings 3 = .ok (.istore 4, 2) := by decide +kernel
theorem dX9_readings_5 : decode cX9_readings 5 = .ok (.iload 4, 2) := by decide +kernel
theorem dX9_readings_7 : decode cX9_readings 7 = .ok (.sipush 1000, 3) := by decide +kernel
theorem dX9_readings_10 : decode cX9_readings 10 = .ok (.if_icmp .ge 23, 3) := by decide +kernel
theorem dX9_readings_13 : decode cX9_readings 13 = .ok (.aload_n 0, 1) := by decide +kernel
theorem dX9_readings_14 : decode cX9_readings 14 = .ok (.aload_n 1, 1) := by decide +kernel
theorem dX9_readings_15 : decode cX9_readings 15 = .ok (.iload_n 2, 1) := by decide +kernel
theorem dX9_readings_16 : decode cX9_readings 16 = .ok (.iload 4, 2) := by decide +kernel
theorem dX9_readings_18 : decode cX9_readings 18 = .ok (.invokevirtual 94, 3) := by decide +kernel
theorem dX9_readings_21 : decode cX9_readings 21 = .ok (.ifCond .eq 6, 3) := by decide +kernel
theorem dX9_readings_24 : decode cX9_readings 24 = .ok (.iinc 3 1, 3) := by decide +kernel
theorem dX9_readings_27 : decode cX9_readings 27 = .ok (.iinc 4 1, 3) := by decide +kernel
theorem dX9_readings_30 : decode cX9_readings 30 = .ok (.goto (-25), 3) := by decide +kernel
theorem dX9_readings_33 : decode cX9_readings 33 = .ok (.iload_n 3, 1) := by decide +kernel
theorem dX9_readings_34 : decode cX9_readings 34 = .ok (.ireturn, 1) := by decide +kernel
theorem dX9_reading_0 : decode cX9_reading 0 = .ok (.iconst 0, 1) := by decide +kernel
theorem dX9_reading_1 : decode cX9_reading 1 = .ok (.istore 4, 2) := by decide +kernel
theorem dX9_reading_3 : decode cX9_reading 3 = .ok (.iconst 0, 1) := by decide +kernel
theorem dX9_reading_4 : decode cX9_reading 4 = .ok (.istore 5, 2) := by decide +kernel
theorem dX9_reading_6 : decode cX9_reading 6 = .ok (.iload 5, 2) := by decide +kernel
theorem dX9_reading_8 : decode cX9_reading 8 = .ok (.sipush 1000, 3) := by decide +kernel
theorem dX9_reading_11 : decode cX9_reading 11 = .ok (.if_icmp .ge 32, 3) := by decide +kernel
theorem dX9_reading_14 : decode cX9_reading 14 = .ok (.aload_n 0, 1) := by decide +kernel
theorem dX9_reading_15 : decode cX9_reading 15 = .ok (.aload_n 1, 1) := by decide +kernel
theorem dX9_reading_16 : decode cX9_reading 16 = .ok (.iload_n 2, 1) := by decide +kernel
theorem dX9_reading_17 : decode cX9_reading 17 = .ok (.iload 5, 2) := by decide +kernel
theorem dX9_reading_19 : decode cX9_reading 19 = .ok (.invokevirtual 94, 3) := by decide +kernel
theorem dX9_reading_22 : decode cX9_reading 22 = .ok (.ifCond .eq 15, 3) := by decide +kernel
theorem dX9_reading_25 : decode cX9_reading 25 = .ok (.iload 4, 2) := by decide +kernel
theorem dX9_reading_27 : decode cX9_reading 27 = .ok (.iinc 4 1, 3) := by decide +kernel
theorem dX9_reading_30 : decode cX9_reading 30 = .ok (.iload_n 3, 1) := by decide +kernel
theorem dX9_reading_31 : decode cX9_reading 31 = .ok (.if_icmp .ne 6, 3) := by decide +kernel
theorem dX9_reading_34 : decode cX9_reading 34 = .ok (.iload 5, 2) := by decide +kernel
theorem dX9_reading_36 : decode cX9_reading 36 = .ok (.ireturn, 1) := by decide +kernel
theorem dX9_reading_37 : decode cX9_reading 37 = .ok (.iinc 5 1, 3) := by decide +kernel
theorem dX9_reading_40 : decode cX9_reading 40 = .ok (.goto (-34), 3) := by decide +kernel
theorem dX9_reading_43 : decode cX9_reading 43 = .ok (.iconst (-1), 1) := by decide +kernel
theorem dX9_reading_44 : decode cX9_reading 44 = .ok (.ireturn, 1) := by decide +kernel
theorem dX9_appendTo_0 : decode cX9_appendTo 0 = .ok (.aload_n 1, 1) := by decide +kernel
theorem dX9_appendTo_1 : decode cX9_appendTo 1 = .ok (.aload_n 0, 1) := by decide +kernel
theorem dX9_appendTo_2 : decode cX9_appendTo 2 = .ok (.getfield 14, 3) := by decide +kernel
theorem dX9_appendTo_5 : decode cX9_appendTo 5 = .ok (.iload_n 3, 1) := by decide +kernel
theorem dX9_appendTo_6 : decode cX9_appendTo 6 = .ok (.aload_n 0, 1) := by decide +kernel
theorem dX9_appendTo_7 : decode cX9_appendTo 7 = .ok (.iload_n 3, 1) := by decide +kernel
theorem dX9_appendTo_8 : decode cX9_appendTo 8 = .ok (.invokevirtual 76, 3) := by decide +kernel
theorem dX9_appendTo_11 : decode cX9_appendTo 11 = .ok (.invokevirtual 98, 3) := by decide +kernel
theorem dX9_appendTo_14 : decode cX9_appendTo 14 = .ok (.ifCond .eq 24, 3) := by decide +kernel
theorem dX9_appendTo_17 : decode cX9_appendTo 17 = .ok (.aload_n 2, 1) := by decide +kernel
theorem dX9_appendTo_18 : decode cX9_appendTo 18 = .ok (.aload_n 0, 1) := by decide +kernel
theorem dX9_appendTo_19 : decode cX9_appendTo 19 = .ok (.getfield 20, 3) := by decide +kernel
theorem dX9_appendTo_22 : decode cX9_appendTo 22 = .ok (.iload_n 3, 1) := by decide +kernel
theorem dX9_appendTo_23 : decode cX9_appendTo 23 = .ok (.aload_n 0, 1) := by decide +kernel
theorem dX9_appendTo_24 : decode cX9_appendTo 24 = .ok (.iload_n 3, 1) := by decide +kernel
theorem dX9_appendTo_25 : decode cX9_appendTo 25 = .ok (.invokevirtual 102, 3) := by decide +kernel
theorem dX9_appendTo_28 : decode cX9_appendTo 28 = .ok (.invokevirtual 98, 3) := by decide +kernel
theorem dX9_appendTo_31 : decode cX9_appendTo 31 = .ok (.ifCond .eq 7, 3) := by decide +kernel
theorem dX9_appendTo_34 : decode cX9_appendTo 34 = .ok (.iconst 1, 1) := by decide +kernel
theorem dX9_appendTo_35 : decode cX9_appendTo 35 = .ok (.goto 4, 3) := by decide +kernel
theorem dX9_appendTo_38 : decode cX9_appendTo 38 = .ok (.iconst 0, 1) := by decide +kernel
theorem dX9_appendTo_39 : decode cX9_appendTo 39 = .ok (.ireturn, 1) := by decide +kernel
theorem dX9_measureFrom_0 : decode cX9_measureFrom 0 = .ok (.aload_n 1, 1) := by decide +kernel
theorem dX9_measureFrom_1 : decode cX9_measureFrom 1 = .ok (.aload_n 0, 1) := by decide +kernel
theorem dX9_measureFrom_2 : decode cX9_measureFrom 2 = .ok (.getfield 20, 3) := by decide +kernel
theorem dX9_measureFrom_5 : decode cX9_measureFrom 5 = .ok (.iload_n 2, 1) := by decide +kernel
theorem dX9_measureFrom_6 : decode cX9_measureFrom 6 = .ok (.invokevirtual 105, 3) := by decide +kernel
theorem dX9_measureFrom_9 : decode cX9_measureFrom 9 = .ok (.return_, 1) := by decide +kernel
theorem dX9_farFrom_0 : decode cX9_farFrom 0 = .ok (.aload_n 1, 1) := by decide +kernel
theorem dX9_farFrom_1 : decode cX9_farFrom 1 = .ok (.aload_n 0, 1) := by decide +kernel
theorem dX9_farFrom_2 : decode cX9_farFrom 2 = .ok (.getfield 20, 3) := by decide +kernel
theorem dX9_farFrom_5 : decode cX9_farFrom 5 = .ok (.iload_n 2, 1) := by decide +kernel
theorem dX9_farFrom_6 : decode cX9_farFrom 6 = .ok (.invokevirtual 111, 3) := by decide +kernel
theorem dX9_farFrom_9 : decode cX9_farFrom 9 = .ok (.ireturn, 1) := by decide +kernel
theorem dX9_putNamedInto_0 : decode cX9_putNamedInto 0 = .ok (.iconst 0, 1) := by decide +kernel
theorem dX9_putNamedInto_1 : decode cX9_putNamedInto 1 = .ok (.istore_n 2, 1) := by decide +kernel
theorem dX9_putNamedInto_2 : decode cX9_putNamedInto 2 = .ok (.iconst 0, 1) := by decide +kernel
theorem dX9_putNamedInto_3 : decode cX9_putNamedInto 3 = .ok (.istore_n 3, 1) := by decide +kernel
theorem dX9_putNamedInto_4 : decode cX9_putNamedInto 4 = .ok (.iload_n 3, 1) := by decide +kernel
theorem dX9_putNamedInto_5 : decode cX9_putNamedInto 5 = .ok (.sipush 1000, 3) := by decide +kernel
theorem dX9_putNamedInto_8 : decode cX9_putNamedInto 8 = .ok (.if_icmp .ge 30, 3) := by decide +kernel
theorem dX9_putNamedInto_11 : decode cX9_putNamedInto 11 = .ok (.aload_n 0, 1) := by decide +kernel
theorem dX9_putNamedInto_12 : decode cX9_putNamedInto 12 = .ok (.iload_n 3, 1) := by decide +kernel
theorem dX9_putNamedInto_13 : decode cX9_putNamedInto 13 = .ok (.invokevirtual 72, 3) := by decide +kernel
theorem dX9_putNamedInto_16 : decode cX9_putNamedInto 16 = .ok (.ifCond .eq 16, 3) := by decide +kernel
theorem dX9_putNamedInto_19 : decode cX9_putNamedInto 19 = .ok (.iload_n 2, 1) := by decide +kernel
theorem dX9_putNamedInto_20 : decode cX9_putNamedInto 20 = .ok (.aload_n 1, 1) := by decide +kernel
theorem dX9_putNamedInto_21 : decode cX9_putNamedInto 21 = .ok (.arraylength, 1) := by decide +kernel
theorem dX9_putNamedInto_22 : decode cX9_putNamedInto 22 = .ok (.if_icmp .ge 10, 3) := by decide +kernel
theorem dX9_putNamedInto_25 : decode cX9_putNamedInto 25 = .ok (.aload_n 1, 1) := by decide +kernel
theorem dX9_putNamedInto_26 : decode cX9_putNamedInto 26 = .ok (.iload_n 2, 1) := by decide +kernel
theorem dX9_putNamedInto_27 : decode cX9_putNamedInto 27 = .ok (.iinc 2 1, 3) := by decide +kernel
theorem dX9_putNamedInto_30 : decode cX9_putNamedInto 30 = .ok (.iload_n 3, 1) := by decide +kernel
theorem dX9_putNamedInto_31 : decode cX9_putNamedInto 31 = .ok (.iastore, 1) := by decide +kernel
theorem dX9_putNamedInto_32 : decode cX9_putNamedInto 32 = .ok (.iinc 3 1, 3) := by decide +kernel
theorem dX9_putNamedInto_35 : decode cX9_putNamedInto 35 = .ok (.goto (-31), 3) := by decide +kernel
theorem dX9_putNamedInto_38 : decode cX9_putNamedInto 38 = .ok (.return_, 1) := by decide +kernel
theorem dX9_bringInOrder_0 : decode cX9_bringInOrder 0 = .ok (.aload_n 0, 1) := by decide +kernel
theorem dX9_bringInOrder_1 : decode cX9_bringInOrder 1 = .ok (.getfield 55, 3) := by decide +kernel
theorem dX9_bringInOrder_4 : decode cX9_bringInOrder 4 = .ok (.ifCond .ne 32, 3) := by decide +kernel
theorem dX9_bringInOrder_7 : decode cX9_bringInOrder 7 = .ok (.aload_n 0, 1) := by decide +kernel
theorem dX9_bringInOrder_8 : decode cX9_bringInOrder 8 = .ok (.aload_n 0, 1) := by decide +kernel
theorem dX9_bringInOrder_9 : decode cX9_bringInOrder 9 = .ok (.getfield 36, 3) := by decide +kernel
theorem dX9_bringInOrder_12 : decode cX9_bringInOrder 12 = .ok (.invokevirtual 115, 3) := by decide +kernel
theorem dX9_bringInOrder_15 : decode cX9_bringInOrder 15 = .ok (.aload_n 1, 1) := by decide +kernel
theorem dX9_bringInOrder_16 : decode cX9_bringInOrder 16 = .ok (.aload_n 0, 1) := by decide +kernel
theorem dX9_bringInOrder_17 : decode cX9_bringInOrder 17 = .ok (.getfield 36, 3) := by decide +kernel
theorem dX9_bringInOrder_20 : decode cX9_bringInOrder 20 = .ok (.aload_n 0, 1) := by decide +kernel
theorem dX9_bringInOrder_21 : decode cX9_bringInOrder 21 = .ok (.getfield 46, 3) := by decide +kernel
theorem dX9_bringInOrder_24 : decode cX9_bringInOrder 24 = .ok (.aload_n 0, 1) := by decide +kernel
theorem dX9_bringInOrder_25 : decode cX9_bringInOrder 25 = .ok (.getfield 14, 3) := by decide +kernel
theorem dX9_bringInOrder_28 : decode cX9_bringInOrder 28 = .ok (.invokevirtual 119, 3) := by decide +kernel
theorem dX9_bringInOrder_31 : decode cX9_bringInOrder 31 = .ok (.aload_n 0, 1) := by decide +kernel
theorem dX9_bringInOrder_32 : decode cX9_bringInOrder 32 = .ok (.iconst 1, 1) := by decide +kernel
theorem dX9_bringInOrder_33 : decode cX9_bringInOrder 33 = .ok (.putfield 55, 3) := by decide +kernel
theorem dX9_bringInOrder_36 : decode cX9_bringInOrder 36 = .ok (.return_, 1) := by decide +kernel
theorem dX9_numberAt_0 : decode cX9_numberAt 0 = .ok (.aload_n 0, 1) := by decide +kernel
theorem dX9_numberAt_1 : decode cX9_numberAt 1 = .ok (.aload_n 2, 1) := by decide +kernel
theorem dX9_numberAt_2 : decode cX9_numberAt 2 = .ok (.invokevirtual 125, 3) := by decide +kernel
theorem dX9_numberAt_5 : decode cX9_numberAt 5 = .ok (.iload_n 1, 1) := by decide +kernel
theorem dX9_numberAt_6 : decode cX9_numberAt 6 = .ok (.ifCond .lt 29, 3) := by decide +kernel
theorem dX9_numberAt_9 : decode cX9_numberAt 9 = .ok (.iload_n 1, 1) := by decide +kernel
theorem dX9_numberAt_10 : decode cX9_numberAt 10 = .ok (.aload_n 0, 1) := by decide +kernel
theorem dX9_numberAt_11 : decode cX9_numberAt 11 = .ok (.getfield 46, 3) := by decide +kernel
theorem dX9_numberAt_14 : decode cX9_numberAt 14 = .ok (.if_icmp .ge 21, 3) := by decide +kernel
theorem dX9_numberAt_17 : decode cX9_numberAt 17 = .ok (.iload_n 1, 1) := by decide +kernel
theorem dX9_numberAt_18 : decode cX9_numberAt 18 = .ok (.aload_n 0, 1) := by decide +kernel
theorem dX9_numberAt_19 : decode cX9_numberAt 19 = .ok (.getfield 36, 3) := by decide +kernel
theorem dX9_numberAt_22 : decode cX9_numberAt 22 = .ok (.arraylength, 1) := by decide +kernel
theorem dX9_numberAt_23 : decode cX9_numberAt 23 = .ok (.if_icmp .ge 12, 3) := by decide +kernel
theorem dX9_numberAt_26 : decode cX9_numberAt 26 = .ok (.aload_n 0, 1) := by decide +kernel
theorem dX9_numberAt_27 : decode cX9_numberAt 27 = .ok (.getfield 36, 3) := by decide +kernel
theorem dX9_numberAt_30 : decode cX9_numberAt 30 = .ok (.iload_n 1, 1) := by decide +kernel
theorem dX9_numberAt_31 : decode cX9_numberAt 31 = .ok (.iaload, 1) := by decide +kernel
theorem dX9_numberAt_32 : decode cX9_numberAt 32 = .ok (.goto 4, 3) := by decide +kernel
theorem dX9_numberAt_35 : decode cX9_numberAt 35 = .ok (.iconst (-1), 1) := by decide +kernel
theorem dX9_numberAt_36 : decode cX9_numberAt 36 = .ok (.ireturn, 1) := by decide +kernel
theorem dX9_placeOf_0 : decode cX9_placeOf 0 = .ok (.aload_n 0, 1) := by decide +kernel
theorem dX9_placeOf_1 : decode cX9_placeOf 1 = .ok (.aload_n 2, 1) := by decide +kernel
theorem dX9_placeOf_2 : decode cX9_placeOf 2 = .ok (.invokevirtual 125, 3) := by decide +kernel
theorem dX9_placeOf_5 : decode cX9_placeOf 5 = .ok (.iconst 0, 1) := by decide +kernel
theorem dX9_placeOf_6 : decode cX9_placeOf 6 = .ok (.istore_n 3, 1) := by decide +kernel
theorem dX9_placeOf_7 : decode cX9_placeOf 7 = .ok (.iload_n 3, 1) := by decide +kernel
theorem dX9_placeOf_8 : decode cX9_placeOf 8 = .ok (.aload_n 0, 1) := by decide +kernel
theorem dX9_placeOf_9 : decode cX9_placeOf 9 = .ok (.getfield 46, 3) := by decide +kernel
theorem dX9_placeOf_12 : decode cX9_placeOf 12 = .ok (.if_icmp .ge 30, 3) := by decide +kernel
theorem dX9_placeOf_15 : decode cX9_placeOf 15 = .ok (.iload_n 3, 1) := by decide +kernel
theorem dX9_placeOf_16 : decode cX9_placeOf 16 = .ok (.aload_n 0, 1) := by decide +kernel
theorem dX9_placeOf_17 : decode cX9_placeOf 17 = .ok (.getfield 36, 3) := by decide +kernel
theorem dX9_placeOf_20 : decode cX9_placeOf 20 = .ok (.arraylength, 1) := by decide +kernel
theorem dX9_placeOf_21 : decode cX9_placeOf 21 = .ok (.if_icmp .ge 21, 3) := by decide +kernel
theorem dX9_placeOf_24 : decode cX9_placeOf 24 = .ok (.aload_n 0, 1) := by decide +kernel
theorem dX9_placeOf_25 : decode cX9_placeOf 25 = .ok (.getfield 36, 3) := by decide +kernel
theorem dX9_placeOf_28 : decode cX9_placeOf 28 = .ok (.iload_n 3, 1) := by decide +kernel
theorem dX9_placeOf_29 : decode cX9_placeOf 29 = .ok (.iaload, 1) := by decide +kernel
theorem dX9_placeOf_30 : decode cX9_placeOf 30 = .ok (.iload_n 1, 1) := by decide +kernel
theorem dX9_placeOf_31 : decode cX9_placeOf 31 = .ok (.if_icmp .ne 5, 3) := by decide +kernel
theorem dX9_placeOf_34 : decode cX9_placeOf 34 = .ok (.iload_n 3, 1) := by decide +kernel
theorem dX9_placeOf_35 : decode cX9_placeOf 35 = .ok (.ireturn, 1) := by decide +kernel
theorem dX9_placeOf_36 : decode cX9_placeOf 36 = .ok (.iinc 3 1, 3) := by decide +kernel
theorem dX9_placeOf_39 : decode cX9_placeOf 39 = .ok (.goto (-32), 3) := by decide +kernel
theorem dX9_placeOf_42 : decode cX9_placeOf 42 = .ok (.iconst (-1), 1) := by decide +kernel
theorem dX9_placeOf_43 : decode cX9_placeOf 43 = .ok (.ireturn, 1) := by decide +kernel
theorem dX9_lesserTwin_0 : decode cX9_lesserTwin 0 = .ok (.aload_n 0, 1) := by decide +kernel
theorem dX9_lesserTwin_1 : decode cX9_lesserTwin 1 = .ok (.aload_n 1, 1) := by decide +kernel
theorem dX9_lesserTwin_2 : decode cX9_lesserTwin 2 = .ok (.invokevirtual 129, 3) := by decide +kernel
theorem dX9_lesserTwin_5 : decode cX9_lesserTwin 5 = .ok (.aload_n 0, 1) := by decide +kernel
theorem dX9_lesserTwin_6 : decode cX9_lesserTwin 6 = .ok (.getfield 132, 3) := by decide +kernel
theorem dX9_lesserTwin_9 : decode cX9_lesserTwin 9 = .ok (.ireturn, 1) := by decide +kernel
theorem dX9_greaterTwin_0 : decode cX9_greaterTwin 0 = .ok (.aload_n 0, 1) := by decide +kernel
theorem dX9_greaterTwin_1 : decode cX9_greaterTwin 1 = .ok (.aload_n 1, 1) := by decide +kernel
theorem dX9_greaterTwin_2 : decode cX9_greaterTwin 2 = .ok (.invokevirtual 129, 3) := by decide +kernel
theorem dX9_greaterTwin_5 : decode cX9_greaterTwin 5 = .ok (.aload_n 0, 1) := by decide +kernel
theorem dX9_greaterTwin_6 : decode cX9_greaterTwin 6 = .ok (.getfield 135, 3) := by decide +kernel
theorem dX9_greaterTwin_9 : decode cX9_greaterTwin 9 = .ok (.ireturn, 1) := by decide +kernel
theorem dX9_twinCount_0 : decode cX9_twinCount 0 = .ok (.aload_n 0, 1) := by decide +kernel
theorem dX9_twinCount_1 : decode cX9_twinCount 1 = .ok (.aload_n 1, 1) := by decide +kernel
theorem dX9_twinCount_2 : decode cX9_twinCount 2 = .ok (.invokevirtual 129, 3) := by decide +kernel
theorem dX9_twinCount_5 : decode cX9_twinCount 5 = .ok (.aload_n 0, 1) := by decide +kernel
theorem dX9_twinCount_6 : decode cX9_twinCount 6 = .ok (.getfield 138, 3) := by decide +kernel
theorem dX9_twinCount_9 : decode cX9_twinCount 9 = .ok (.ireturn, 1) := by decide +kernel
theorem dX9_seekTwins_0 : decode cX9_seekTwins 0 = .ok (.aload_n 0, 1) := by decide +kernel
theorem dX9_seekTwins_1 : decode cX9_seekTwins 1 = .ok (.getfield 59, 3) := by decide +kernel
theorem dX9_seekTwins_4 : decode cX9_seekTwins 4 = .ok (.ifCond .eq 4, 3) := by decide +kernel
theorem dX9_seekTwins_7 : decode cX9_seekTwins 7 = .ok (.return_, 1) := by decide +kernel
theorem dX9_seekTwins_8 : decode cX9_seekTwins 8 = .ok (.aload_n 1, 1) := by decide +kernel
theorem dX9_seekTwins_9 : decode cX9_seekTwins 9 = .ok (.invokevirtual 141, 3) := by decide +kernel
theorem dX9_seekTwins_12 : decode cX9_seekTwins 12 = .ok (.astore_n 2, 1) := by decide +kernel
theorem dX9_seekTwins_13 : decode cX9_seekTwins 13 = .ok (.aload_n 0, 1) := by decide +kernel
theorem dX9_seekTwins_14 : decode cX9_seekTwins 14 = .ok (.aload_n 2, 1) := by decide +kernel
theorem dX9_seekTwins_15 : decode cX9_seekTwins 15 = .ok (.invokevirtual 115, 3) := by decide +kernel
theorem dX9_seekTwins_18 : decode cX9_seekTwins 18 = .ok (.aload_n 1, 1) := by decide +kernel
theorem dX9_seekTwins_19 : decode cX9_seekTwins 19 = .ok (.aload_n 2, 1) := by decide +kernel
theorem dX9_seekTwins_20 : decode cX9_seekTwins 20 = .ok (.aload_n 0, 1) := by decide +kernel
theorem dX9_seekTwins_21 : decode cX9_seekTwins 21 = .ok (.getfield 46, 3) := by decide +kernel
theorem dX9_seekTwins_24 : decode cX9_seekTwins 24 = .ok (.aload_n 0, 1) := by decide +kernel
theorem dX9_seekTwins_25 : decode cX9_seekTwins 25 = .ok (.getfield 20, 3) := by decide +kernel
theorem dX9_seekTwins_28 : decode cX9_seekTwins 28 = .ok (.invokevirtual 119, 3) := by decide +kernel
theorem dX9_seekTwins_31 : decode cX9_seekTwins 31 = .ok (.aload_n 0, 1) := by decide +kernel
theorem dX9_seekTwins_32 : decode cX9_seekTwins 32 = .ok (.iconst (-1), 1) := by decide +kernel
theorem dX9_seekTwins_33 : decode cX9_seekTwins 33 = .ok (.putfield 132, 3) := by decide +kernel
theorem dX9_seekTwins_36 : decode cX9_seekTwins 36 = .ok (.aload_n 0, 1) := by decide +kernel
theorem dX9_seekTwins_37 : decode cX9_seekTwins 37 = .ok (.iconst (-1), 1) := by decide +kernel
theorem dX9_seekTwins_38 : decode cX9_seekTwins 38 = .ok (.putfield 135, 3) := by decide +kernel
theorem dX9_seekTwins_41 : decode cX9_seekTwins 41 = .ok (.aload_n 0, 1) := by decide +kernel
theorem dX9_seekTwins_42 : decode cX9_seekTwins 42 = .ok (.iconst 0, 1) := by decide +kernel
theorem dX9_seekTwins_43 : decode cX9_seekTwins 43 = .ok (.putfield 138, 3) := by decide +kernel
theorem dX9_seekTwins_46 : decode cX9_seekTwins 46 = .ok (.iconst 0, 1) := by decide +kernel
theorem dX9_seekTwins_47 : decode cX9_seekTwins 47 = .ok (.istore_n 3, 1) := by decide +kernel
theorem dX9_seekTwins_48 : decode cX9_seekTwins 48 = .ok (.iconst 1, 1) := by decide +kernel
theorem dX9_seekTwins_49 : decode cX9_seekTwins 49 = .ok (.istore 4, 2) := by decide +kernel
theorem dX9_seekTwins_51 : decode cX9_seekTwins 51 = .ok (.iload 4, 2) := by decide +kernel
theorem dX9_seekTwins_53 : decode cX9_seekTwins 53 = .ok (.aload_n 0, 1) := by decide +kernel
theorem dX9_seekTwins_54 : decode cX9_seekTwins 54 = .ok (.getfield 46, 3) := by decide +kernel
theorem dX9_seekTwins_57 : decode cX9_seekTwins 57 = .ok (.if_icmp .ge 85, 3) := by decide +kernel
theorem dX9_seekTwins_60 : decode cX9_seekTwins 60 = .ok (.iload 4, 2) := by decide +kernel
theorem dX9_seekTwins_62 : decode cX9_seekTwins 62 = .ok (.aload_n 2, 1) := by decide +kernel
theorem dX9_seekTwins_63 : decode cX9_seekTwins 63 = .ok (.arraylength, 1) := by decide +kernel
theorem dX9_seekTwins_64 : decode cX9_seekTwins 64 = .ok (.if_icmp .ge 78, 3) := by decide +kernel
theorem dX9_seekTwins_67 : decode cX9_seekTwins 67 = .ok (.aload_n 0, 1) := by decide +kernel
theorem dX9_seekTwins_68 : decode cX9_seekTwins 68 = .ok (.getfield 20, 3) := by decide +kernel
theorem dX9_seekTwins_71 : decode cX9_seekTwins 71 = .ok (.aload_n 2, 1) := by decide +kernel
theorem dX9_seekTwins_72 : decode cX9_seekTwins 72 = .ok (.iload_n 3, 1) := by decide +kernel
theorem dX9_seekTwins_73 : decode cX9_seekTwins 73 = .ok (.iaload, 1) := by decide +kernel
theorem dX9_seekTwins_74 : decode cX9_seekTwins 74 = .ok (.aload_n 0, 1) := by decide +kernel
theorem dX9_seekTwins_75 : decode cX9_seekTwins 75 = .ok (.getfield 20, 3) := by decide +kernel
theorem dX9_seekTwins_78 : decode cX9_seekTwins 78 = .ok (.aload_n 2, 1) := by decide +kernel
theorem dX9_seekTwins_79 : decode cX9_seekTwins 79 = .ok (.iload 4, 2) := by decide +kernel
theorem dX9_seekTwins_81 : decode cX9_seekTwins 81 = .ok (.iaload, 1) := by decide +kernel
theorem dX9_seekTwins_82 : decode cX9_seekTwins 82 = .ok (.invokevirtual 90, 3) := by decide +kernel
theorem dX9_seekTwins_85 : decode cX9_seekTwins 85 = .ok (.ifCond .eq 9, 3) := by decide +kernel
theorem dX9_seekTwins_88 : decode cX9_seekTwins 88 = .ok (.iload 4, 2) := by decide +kernel
theorem dX9_seekTwins_90 : decode cX9_seekTwins 90 = .ok (.istore_n 3, 1) := by decide +kernel
theorem dX9_seekTwins_91 : decode cX9_seekTwins 91 = .ok (.goto 45, 3) := by decide +kernel
theorem dX9_seekTwins_94 : decode cX9_seekTwins 94 = .ok (.iload 4, 2) := by decide +kernel
theorem dX9_seekTwins_96 : decode cX9_seekTwins 96 = .ok (.iload_n 3, 1) := by decide +kernel
theorem dX9_seekTwins_97 : decode cX9_seekTwins 97 = .ok (.iconst 1, 1) := by decide +kernel
theorem dX9_seekTwins_98 : decode cX9_seekTwins 98 = .ok (.iadd, 1) := by decide +kernel
theorem dX9_seekTwins_99 : decode cX9_seekTwins 99 = .ok (.if_icmp .ne 27, 3) := by decide +kernel
theorem dX9_seekTwins_102 : decode cX9_seekTwins 102 = .ok (.aload_n 0, 1) := by decide +kernel
theorem dX9_seekTwins_103 : decode cX9_seekTwins 103 = .ok (.dup, 1) := by decide +kernel
theorem dX9_seekTwins_104 : decode cX9_seekTwins 104 = .ok (.getfield 138, 3) := by decide +kernel
theorem dX9_seekTwins_107 : decode cX9_seekTwins 107 = .ok (.iconst 2, 1) := by decide +kernel
theorem dX9_seekTwins_108 : decode cX9_seekTwins 108 = .ok (.iadd, 1) := by decide +kernel
theorem dX9_seekTwins_109 : decode cX9_seekTwins 109 = .ok (.putfield 138, 3) := by decide +kernel
theorem dX9_seekTwins_112 : decode cX9_seekTwins 112 = .ok (.aload_n 0, 1) := by decide +kernel
theorem dX9_seekTwins_113 : decode cX9_seekTwins 113 = .ok (.aload_n 2, 1) := by decide +kernel
theorem dX9_seekTwins_114 : decode cX9_seekTwins 114 = .ok (.iload_n 3, 1) := by decide +kernel
theorem dX9_seekTwins_115 : decode cX9_seekTwins 115 = .ok (.iaload, 1) := by decide +kernel
theorem dX9_seekTwins_116 : decode cX9_seekTwins 116 = .ok (.aload_n 2, 1) := by decide +kernel
theorem dX9_seekTwins_117 : decode cX9_seekTwins 117 = .ok (.iload 4, 2) := by decide +kernel
theorem dX9_seekTwins_119 : decode cX9_seekTwins 119 = .ok (.iaload, 1) := by decide +kernel
theorem dX9_seekTwins_120 : decode cX9_seekTwins 120 = .ok (.invokevirtual 145, 3) := by decide +kernel
theorem dX9_seekTwins_123 : decode cX9_seekTwins 123 = .ok (.goto 13, 3) := by decide +kernel
theorem dX9_seekTwins_126 : decode cX9_seekTwins 126 = .ok (.aload_n 0, 1) := by decide +kernel
theorem dX9_seekTwins_127 : decode cX9_seekTwins 127 = .ok (.dup, 1) := by decide +kernel
theorem dX9_seekTwins_128 : decode cX9_seekTwins 128 = .ok (.getfield 138, 3) := by decide +kernel
theorem dX9_seekTwins_131 : decode cX9_seekTwins 131 = .ok (.iconst 1, 1) := by decide +kernel
theorem dX9_seekTwins_132 : decode cX9_seekTwins 132 = .ok (.iadd, 1) := by decide +kernel
theorem dX9_seekTwins_133 : decode cX9_seekTwins 133 = .ok (.putfield 138, 3) := by decide +kernel
theorem dX9_seekTwins_136 : decode cX9_seekTwins 136 = .ok (.iinc 4 1, 3) := by decide +kernel
theorem dX9_seekTwins_139 : decode cX9_seekTwins 139 = .ok (.goto (-88), 3) := by decide +kernel
theorem dX9_seekTwins_142 : decode cX9_seekTwins 142 = .ok (.aload_n 0, 1) := by decide +kernel
theorem dX9_seekTwins_143 : decode cX9_seekTwins 143 = .ok (.iconst 1, 1) := by decide +kernel
theorem dX9_seekTwins_144 : decode cX9_seekTwins 144 = .ok (.putfield 59, 3) := by decide +kernel
theorem dX9_seekTwins_147 : decode cX9_seekTwins 147 = .ok (.return_, 1) := by decide +kernel
theorem dX9_chooseFirst_0 : decode cX9_chooseFirst 0 = .ok (.aload_n 0, 1) := by decide +kernel
theorem dX9_chooseFirst_1 : decode cX9_chooseFirst 1 = .ok (.getfield 135, 3) := by decide +kernel
theorem dX9_chooseFirst_4 : decode cX9_chooseFirst 4 = .ok (.iconst (-1), 1) := by decide +kernel
theorem dX9_chooseFirst_5 : decode cX9_chooseFirst 5 = .ok (.if_icmp .eq 11, 3) := by decide +kernel
theorem dX9_chooseFirst_8 : decode cX9_chooseFirst 8 = .ok (.iload_n 2, 1) := by decide +kernel
theorem dX9_chooseFirst_9 : decode cX9_chooseFirst 9 = .ok (.aload_n 0, 1) := by decide +kernel
theorem dX9_chooseFirst_10 : decode cX9_chooseFirst 10 = .ok (.getfield 135, 3) := by decide +kernel
theorem dX9_chooseFirst_13 : decode cX9_chooseFirst 13 = .ok (.if_icmp .ge 13, 3) := by decide +kernel
theorem dX9_chooseFirst_16 : decode cX9_chooseFirst 16 = .ok (.aload_n 0, 1) := by decide +kernel
theorem dX9_chooseFirst_17 : decode cX9_chooseFirst 17 = .ok (.iload_n 1, 1) := by decide +kernel
theorem dX9_chooseFirst_18 : decode cX9_chooseFirst 18 = .ok (.putfield 132, 3) := by decide +kernel
theorem dX9_chooseFirst_21 : decode cX9_chooseFirst 21 = .ok (.aload_n 0, 1) := by decide +kernel
theorem dX9_chooseFirst_22 : decode cX9_chooseFirst 22 = .ok (.iload_n 2, 1) := by decide +kernel
theorem dX9_chooseFirst_23 : decode cX9_chooseFirst 23 = .ok (.putfield 135, 3) := by decide +kernel
theorem dX9_chooseFirst_26 : decode cX9_chooseFirst 26 = .ok (.return_, 1) := by decide +kernel
theorem dX10_init_0 : decode cX10_init 0 = .ok (.aload_n 0, 1) := by decide +kernel
theorem dX10_init_1 : decode cX10_init 1 = .ok (.invokespecial 1, 3) := by decide +kernel
theorem dX10_init_4 : decode cX10_init 4 = .ok (.aload_n 0, 1) := by decide +kernel
theorem dX10_init_5 : decode cX10_init 5 = .ok (.new 7, 3) := by decide +kernel
theorem dX10_init_8 : decode cX10_init 8 = .ok (.dup, 1) := by decide +kernel
theorem dX10_init_9 : decode cX10_init 9 = .ok (.invokespecial 9, 3) := by decide +kernel
theorem dX10_init_12 : decode cX10_init 12 = .ok (.putfield 10, 3) := by decide +kernel
theorem dX10_init_15 : decode cX10_init 15 = .ok (.aload_n 0, 1) := by decide +kernel
theorem dX10_init_16 : decode cX10_init 16 = .ok (.new 16, 3) := by decide +kernel
theorem dX10_init_19 : decode cX10_init 19 = .ok (.dup, 1) := by decide +kernel
theorem dX10_init_20 : decode cX10_init 20 = .ok (.invokespecial 18, 3) := by decide +kernel
theorem dX10_init_23 : decode cX10_init 23 = .ok (.putfield 19, 3) := by decide +kernel
theorem dX10_init_26 : decode cX10_init 26 = .ok (.aload_n 0, 1) := by decide +kernel
theorem dX10_init_27 : decode cX10_init 27 = .ok (.new 23, 3) := by decide +kernel
theorem dX10_init_30 : decode cX10_init 30 = .ok (.dup, 1) := by decide +kernel
theorem dX10_init_31 : decode cX10_init 31 = .ok (.aload_n 0, 1) := by decide +kernel
theorem dX10_init_32 : decode cX10_init 32 = .ok (.getfield 10, 3) := by decide +kernel
theorem dX10_init_35 : decode cX10_init 35 = .ok (.aload_n 0, 1) := by decide +kernel
theorem dX10_init_36 : decode cX10_init 36 = .ok (.getfield 19, 3) := by decide +kernel
theorem dX10_init_39 : decode cX10_init 39 = .ok (.invokespecial 25, 3) := by decide +kernel
theorem dX10_init_42 : decode cX10_init 42 = .ok (.putfield 28, 3) := by decide +kernel
theorem dX10_init_45 : decode cX10_init 45 = .ok (.aload_n 0, 1) := by decide +kernel
theorem dX10_init_46 : decode cX10_init 46 = .ok (.iconst 3, 1) := by decide +kernel
theorem dX10_init_47 : decode cX10_init 47 = .ok (.anewarray 32, 3) := by decide +kernel
theorem dX10_init_50 : decode cX10_init 50 = .ok (.putfield 34, 3) := by decide +kernel
theorem dX10_init_53 : decode cX10_init 53 = .ok (.iconst 0, 1) := by decide +kernel
theorem dX10_init_54 : decode cX10_init 54 = .ok (.istore_n 1, 1) := by decide +kernel
theorem dX10_init_55 : decode cX10_init 55 = .ok (.iload_n 1, 1) := by decide +kernel
theorem dX10_init_56 : decode cX10_init 56 = .ok (.iconst 3, 1) := by decide +kernel
theorem dX10_init_57 : decode cX10_init 57 = .ok (.if_icmp .ge 22, 3) := by decide +kernel
theorem dX10_init_60 : decode cX10_init 60 = .ok (.aload_n 0, 1) := by decide +kernel
theorem dX10_init_61 : decode cX10_init 61 = .ok (.getfield 34, 3) := by decide +kernel
theorem dX10_init_64 : decode cX10_init 64 = .ok (.iload_n 1, 1) := by decide +kernel
theorem dX10_init_65 : decode cX10_init 65 = .ok (.new 32, 3) := by decide +kernel
theorem dX10_init_68 : decode cX10_init 68 = .ok (.dup, 1) := by decide +kernel
theorem dX10_init_69 : decode cX10_init 69 = .ok (.invokespecial 38, 3) := by decide +kernel
theorem dX10_init_72 : decode cX10_init 72 = .ok (.aastore, 1) := by decide +kernel
theorem dX10_init_73 : decode cX10_init 73 = .ok (.iinc 1 1, 3) := by decide +kernel
theorem dX10_init_76 : decode cX10_init 76 = .ok (.goto (-21), 3) := by decide +kernel
theorem dX10_init_79 : decode cX10_init 79 = .ok (.aload_n 0, 1) := by decide +kernel
theorem dX10_init_80 : decode cX10_init 80 = .ok (.new 39, 3) := by decide +kernel
theorem dX10_init_83 : decode cX10_init 83 = .ok (.dup, 1) := by decide +kernel
theorem dX10_init_84 : decode cX10_init 84 = .ok (.aload_n 0, 1) := by decide +kernel
theorem dX10_init_85 : decode cX10_init 85 = .ok (.getfield 19, 3) := by decide +kernel
theorem dX10_init_88 : decode cX10_init 88 = .ok (.invokespecial 41, 3) := by decide +kernel
theorem dX10_init_91 : decode cX10_init 91 = .ok (.putfield 44, 3) := by decide +kernel
theorem dX10_init_94 : decode cX10_init 94 = .ok (.aload_n 0, 1) := by decide +kernel
theorem dX10_init_95 : decode cX10_init 95 = .ok (.new 48, 3) := by decide +kernel
theorem dX10_init_98 : decode cX10_init 98 = .ok (.dup, 1) := by decide +kernel
theorem dX10_init_99 : decode cX10_init 99 = .ok (.invokespecial 50, 3) := by decide +kernel
theorem dX10_init_102 : decode cX10_init 102 = .ok (.putfield 51, 3) := by decide +kernel
theorem dX10_init_105 : decode cX10_init 105 = .ok (.aload_n 0, 1) := by decide +kernel
theorem dX10_init_106 : decode cX10_init 106 = .ok (.new 55, 3) := by decide +kernel
theorem dX10_init_109 : decode cX10_init 109 = .ok (.dup, 1) := by decide +kernel
theorem dX10_init_110 : decode cX10_init 110 = .ok (.invokespecial 57, 3) := by decide +kernel
theorem dX10_init_113 : decode cX10_init 113 = .ok (.putfield 58, 3) := by decide +kernel
theorem dX10_init_116 : decode cX10_init 116 = .ok (.aload_n 0, 1) := by decide +kernel
theorem dX10_init_117 : decode cX10_init 117 = .ok (.new 55, 3) := by decide +kernel
theorem dX10_init_120 : decode cX10_init 120 = .ok (.dup, 1) := by decide +kernel
theorem dX10_init_121 : decode cX10_init 121 = .ok (.invokespecial 57, 3) := by decide +kernel
theorem dX10_init_124 : decode cX10_init 124 = .ok (.putfield 62, 3) := by decide +kernel
theorem dX10_init_127 : decode cX10_init 127 = .ok (.aload_n 0, 1) := by decide +kernel
theorem dX10_init_128 : decode cX10_init 128 = .ok (.new 65, 3) := by decide +kernel
theorem dX10_init_131 : decode cX10_init 131 = .ok (.dup, 1) := by decide +kernel
theorem dX10_init_132 : decode cX10_init 132 = .ok (.iconst 1, 1) := by decide +kernel
theorem dX10_init_133 : decode cX10_init 133 = .ok (.invokespecial 67, 3) := by decide +kernel
theorem dX10_init_136 : decode cX10_init 136 = .ok (.putfield 70, 3) := by decide +kernel
theorem dX10_init_139 : decode cX10_init 139 = .ok (.aload_n 0, 1) := by decide +kernel
theorem dX10_init_140 : decode cX10_init 140 = .ok (.new 74, 3) := by decide +kernel
theorem dX10_init_143 : decode cX10_init 143 = .ok (.dup, 1) := by decide +kernel
theorem dX10_init_144 : decode cX10_init 144 = .ok (.invokespecial 76, 3) := by decide +kernel
theorem dX10_init_147 : decode cX10_init 147 = .ok (.putfield 77, 3) := by decide +kernel
theorem dX10_init_150 : decode cX10_init 150 = .ok (.aload_n 0, 1) := by decide +kernel
theorem dX10_init_151 : decode cX10_init 151 = .ok (.new 81, 3) := by decide +kernel
theorem dX10_init_154 : decode cX10_init 154 = .ok (.dup, 1) := by decide +kernel
theorem dX10_init_155 : decode cX10_init 155 = .ok (.invokespecial 83, 3) := by decide +kernel
theorem dX10_init_158 : decode cX10_init 158 = .ok (.putfield 84, 3) := by decide +kernel
theorem dX10_init_161 : decode cX10_init 161 = .ok (.return_, 1) := by decide +kernel
theorem dX10_feed_0 : decode cX10_feed 0 = .ok (.iload_n 1, 1) := by decide +kernel
theorem dX10_feed_1 : decode cX10_feed 1 = .ok (.iconst 1, 1) := by decide +kernel
theorem dX10_feed_2 : decode cX10_feed 2 = .ok (.if_icmp .lt 9, 3) := by decide +kernel
theorem dX10_feed_5 : decode cX10_feed 5 = .ok (.iload_n 1, 1) := by decide +kernel
theorem dX10_feed_6 : decode cX10_feed 6 = .ok (.bipush 8, 2) := by decide +kernel
theorem dX10_feed_8 : decode cX10_feed 8 = .ok (.if_icmp .le 7, 3) := by decide +kernel
theorem dX10_feed_11 : decode cX10_feed 11 = .ok (.sipush (-1002), 3) := by decide +kernel
theorem dX10_feed_14 : decode cX10_feed 14 = .ok (.ireturn, 1) := by decide +kernel
theorem dX10_feed_15 : decode cX10_feed 15 = .ok (.aload_n 0, 1) := by decide +kernel
theorem dX10_feed_16 : decode cX10_feed 16 = .ok (.getfield 10, 3) := by decide +kernel
theorem dX10_feed_19 : decode cX10_feed 19 = .ok (.iload_n 1, 1) := by decide +kernel
theorem dX10_feed_20 : decode cX10_feed 20 = .ok (.invokevirtual 88, 3) := by decide +kernel
theorem dX10_feed_23 : decode cX10_feed 23 = .ok (.ifCond .ne 7, 3) := by decide +kernel
theorem dX10_feed_26 : decode cX10_feed 26 = .ok (.sipush (-1004), 3) := by decide +kernel
theorem dX10_feed_29 : decode cX10_feed 29 = .ok (.ireturn, 1) := by decide +kernel
theorem dX10_feed_30 : decode cX10_feed 30 = .ok (.iload_n 1, 1) := by decide +kernel
theorem dX10_feed_31 : decode cX10_feed 31 = .ok (.iconst 1, 1) := by decide +kernel
theorem dX10_feed_32 : decode cX10_feed 32 = .ok (.isub, 1) := by decide +kernel
theorem dX10_feed_33 : decode cX10_feed 33 = .ok (.istore 4, 2) := by decide +kernel
theorem dX10_feed_35 : decode cX10_feed 35 = .ok (.iload 4, 2) := by decide +kernel
theorem dX10_feed_37 : decode cX10_feed 37 = .ok (.ifCond .lt 25, 3) := by decide +kernel
theorem dX10_feed_40 : decode cX10_feed 40 = .ok (.aload_n 0, 1) := by decide +kernel
theorem dX10_feed_41 : decode cX10_feed 41 = .ok (.getfield 10, 3) := by decide +kernel
theorem dX10_feed_44 : decode cX10_feed 44 = .ok (.lload_n 2, 1) := by decide +kernel
theorem dX10_feed_45 : decode cX10_feed 45 = .ok (.bipush 8, 2) := by decide +kernel
theorem dX10_feed_47 : decode cX10_feed 47 = .ok (.iload 4, 2) := by decide +kernel
theorem dX10_feed_49 : decode cX10_feed 49 = .ok (.imul, 1) := by decide +kernel
theorem dX10_feed_50 : decode cX10_feed 50 = .ok (.lshr, 1) := by decide +kernel
theorem dX10_feed_51 : decode cX10_feed 51 = .ok (.l2i, 1) := by decide +kernel
theorem dX10_feed_52 : decode cX10_feed 52 = .ok (.i2b, 1) := by decide +kernel
theorem dX10_feed_53 : decode cX10_feed 53 = .ok (.invokevirtual 92, 3) := by decide +kernel
theorem dX10_feed_56 : decode cX10_feed 56 = .ok (.iinc 4 (-1), 3) := by decide +kernel
theorem dX10_feed_59 : decode cX10_feed 59 = .ok (.goto (-24), 3) := by decide +kernel
theorem dX10_feed_62 : decode cX10_feed 62 = .ok (.aload_n 0, 1) := by decide +kernel
theorem dX10_feed_63 : decode cX10_feed 63 = .ok (.getfield 10, 3) := by decide +kernel
theorem dX10_feed_66 : decode cX10_feed 66 = .ok (.invokevirtual 96, 3) := by decide +kernel
theorem dX10_feed_69 : decode cX10_feed 69 = .ok (.ireturn, 1) := by decide +kernel
theorem dX10_read_0 : decode cX10_read 0 = .ok (.iload_n 1, 1) := by decide +kernel
theorem dX10_read_1 : decode cX10_read 1 = .ok (.invokestatic 100, 3) := by decide +kernel
theorem dX10_read_4 : decode cX10_read 4 = .ok (.ifCond .ne 7, 3) := by decide +kernel
theorem dX10_read_7 : decode cX10_read 7 = .ok (.sipush (-1001), 3) := by decide +kernel
theorem dX10_read_10 : decode cX10_read 10 = .ok (.ireturn, 1) := by decide +kernel
theorem dX10_read_11 : decode cX10_read 11 = .ok (.aload_n 0, 1) := by decide +kernel
theorem dX10_read_12 : decode cX10_read 12 = .ok (.getfield 28, 3) := by decide +kernel
theorem dX10_read_15 : decode cX10_read 15 = .ok (.invokevirtual 103, 3) := by decide +kernel
theorem dX10_read_18 : decode cX10_read 18 = .ok (.istore_n 2, 1) := by decide +kernel
theorem dX10_read_19 : decode cX10_read 19 = .ok (.iload_n 2, 1) := by decide +kernel
theorem dX10_read_20 : decode cX10_read 20 = .ok (.ifCond .eq 16, 3) := by decide +kernel
theorem dX10_read_23 : decode cX10_read 23 = .ok (.aload_n 0, 1) := by decide +kernel
theorem dX10_read_24 : decode cX10_read 24 = .ok (.getfield 44, 3) := by decide +kernel
theorem dX10_read_27 : decode cX10_read 27 = .ok (.aload_n 0, 1) := by decide +kernel
theorem dX10_read_28 : decode cX10_read 28 = .ok (.getfield 34, 3) := by decide +kernel
theorem dX10_read_31 : decode cX10_read 31 = .ok (.iload_n 1, 1) := by decide +kernel
theorem dX10_read_32 : decode cX10_read 32 = .ok (.aaload, 1) := by decide +kernel
theorem dX10_read_33 : decode cX10_read 33 = .ok (.invokevirtual 107, 3) := by decide +kernel
theorem dX10_read_36 : decode cX10_read 36 = .ok (.aload_n 0, 1) := by decide +kernel
theorem dX10_read_37 : decode cX10_read 37 = .ok (.getfield 10, 3) := by decide +kernel
theorem dX10_read_40 : decode cX10_read 40 = .ok (.invokevirtual 111, 3) := by decide +kernel
theorem dX10_read_43 : decode cX10_read 43 = .ok (.iload_n 2, 1) := by decide +kernel
theorem dX10_read_44 : decode cX10_read 44 = .ok (.ifCond .eq 13, 3) := by decide +kernel
theorem dX10_read_47 : decode cX10_read 47 = .ok (.aload_n 0, 1) := by decide +kernel
theorem dX10_read_48 : decode cX10_read 48 = .ok (.getfield 19, 3) := by decide +kernel
theorem dX10_read_51 : decode cX10_read 51 = .ok (.invokevirtual 114, 3) := by decide +kernel
theorem dX10_read_54 : decode cX10_read 54 = .ok (.goto 13, 3) := by decide +kernel
theorem dX10_read_57 : decode cX10_read 57 = .ok (.bipush (-10), 2) := by decide +kernel
theorem dX10_read_59 : decode cX10_read 59 = .ok (.aload_n 0, 1) := by decide +kernel
theorem dX10_read_60 : decode cX10_read 60 = .ok (.getfield 28, 3) := by decide +kernel
theorem dX10_read_63 : decode cX10_read 63 = .ok (.invokevirtual 117, 3) := by decide +kernel
theorem dX10_read_66 : decode cX10_read 66 = .ok (.isub, 1) := by decide +kernel
theorem dX10_read_67 : decode cX10_read 67 = .ok (.ireturn, 1) := by decide +kernel
theorem dX10_fault_0 : decode cX10_fault 0 = .ok (.aload_n 0, 1) := by decide +kernel
theorem dX10_fault_1 : decode cX10_fault 1 = .ok (.getfield 28, 3) := by decide +kernel
theorem dX10_fault_4 : decode cX10_fault 4 = .ok (.invokevirtual 120, 3) := by decide +kernel
theorem dX10_fault_7 : decode cX10_fault 7 = .ok (.ireturn, 1) := by decide +kernel
theorem dX10_about_0 : decode cX10_about 0 = .ok (.iload_n 1, 1) := by decide +kernel
theorem dX10_about_1 : decode cX10_about 1 = .ok (.invokestatic 100, 3) := by decide +kernel
theorem dX10_about_4 : decode cX10_about 4 = .ok (.ifCond .ne 7, 3) := by decide +kernel
theorem dX10_about_7 : decode cX10_about 7 = .ok (.sipush (-1001), 3) := by decide +kernel
theorem dX10_about_10 : decode cX10_about 10 = .ok (.ireturn, 1) := by decide +kernel
theorem dX10_about_11 : decode cX10_about 11 = .ok (.aload_n 0, 1) := by decide +kernel
theorem dX10_about_12 : decode cX10_about 12 = .ok (.getfield 34, 3) := by decide +kernel
theorem dX10_about_15 : decode cX10_about 15 = .ok (.iload_n 1, 1) := by decide +kernel
theorem dX10_about_16 : decode cX10_about 16 = .ok (.aaload, 1) := by decide +kernel
theorem dX10_about_17 : decode cX10_about 17 = .ok (.astore_n 3, 1) := by decide +kernel
theorem dX10_about_18 : decode cX10_about 18 = .ok (.iload_n 2, 1) := by decide +kernel
theorem dX10_about_19 : decode cX10_about 19 = .ok (.tableswitch 82 0 6 #[41, 46, 51, 56, 61, 66, 74], 41) := by decide +kernel
theorem dX10_about_60 : decode cX10_about 60 = .ok (.aload_n 3, 1) := by decide +kernel
theorem dX10_about_61 : decode cX10_about 61 = .ok (.invokevirtual 123, 3) := by decide +kernel
theorem dX10_about_64 : decode cX10_about 64 = .ok (.ireturn, 1) := by decide +kernel
theorem dX10_about_65 : decode cX10_about 65 = .ok (.aload_n 3, 1) := by decide +kernel
theorem dX10_about_66 : decode cX10_about 66 = .ok (.invokevirtual 126, 3) := by decide +kernel
theorem dX10_about_69 : decode cX10_about 69 = .ok (.ireturn, 1) := by decide +kernel
theorem dX10_about_70 : decode cX10_about 70 = .ok (.aload_n 3, 1) := by decide +kernel
theorem dX10_about_71 : decode cX10_about 71 = .ok (.invokevirtual 129, 3) := by decide +kernel
theorem dX10_about_74 : decode cX10_about 74 = .ok (.ireturn, 1) := by decide +kernel
theorem dX10_about_75 : decode cX10_about 75 = .ok (.aload_n 3, 1) := by decide +kernel
theorem dX10_about_76 : decode cX10_about 76 = .ok (.invokevirtual 132, 3) := by decide +kernel
theorem dX10_about_79 : decode cX10_about 79 = .ok (.ireturn, 1) := by decide +kernel
theorem dX10_about_80 : decode cX10_about 80 = .ok (.aload_n 3, 1) := by decide +kernel
theorem dX10_about_81 : decode cX10_about 81 = .ok (.invokevirtual 135, 3) := by decide +kernel
theorem dX10_about_84 : decode cX10_about 84 = .ok (.ireturn, 1) := by decide +kernel
theorem dX10_about_85 : decode cX10_about 85 = .ok (.aload_n 0, 1) := by decide +kernel
theorem dX10_about_86 : decode cX10_about 86 = .ok (.getfield 10, 3) := by decide +kernel
theorem dX10_about_89 : decode cX10_about 89 = .ok (.invokevirtual 96, 3) := by decide +kernel
theorem dX10_about_92 : decode cX10_about 92 = .ok (.ireturn, 1) := by decide +kernel
theorem dX10_about_93 : decode cX10_about 93 = .ok (.aload_n 0, 1) := by decide +kernel
theorem dX10_about_94 : decode cX10_about 94 = .ok (.getfield 58, 3) := by decide +kernel
theorem dX10_about_97 : decode cX10_about 97 = .ok (.invokevirtual 138, 3) := by decide +kernel
theorem dX10_about_100 : decode cX10_about 100 = .ok (.ireturn, 1) := by decide +kernel
theorem dX10_about_101 : decode cX10_about 101 = .ok (.sipush (-1002), 3) := by decide +kernel
theorem dX10_about_104 : decode cX10_about 104 = .ok (.ireturn, 1) := by decide +kernel
theorem dX10_name_0 : decode cX10_name 0 = .ok (.iload_n 1, 1) := by decide +kernel
theorem dX10_name_1 : decode cX10_name 1 = .ok (.invokestatic 100, 3) := by decide +kernel
theorem dX10_name_4 : decode cX10_name 4 = .ok (.ifCond .eq 10, 3) := by decide +kernel
theorem dX10_name_7 : decode cX10_name 7 = .ok (.iload_n 2, 1) := by decide +kernel
theorem dX10_name_8 : decode cX10_name 8 = .ok (.invokestatic 139, 3) := by decide +kernel
theorem dX10_name_11 : decode cX10_name 11 = .ok (.ifCond .ne 7, 3) := by decide +kernel
theorem dX10_name_14 : decode cX10_name 14 = .ok (.sipush (-1001), 3) := by decide +kernel
theorem dX10_name_17 : decode cX10_name 17 = .ok (.ireturn, 1) := by decide +kernel
theorem dX10_name_18 : decode cX10_name 18 = .ok (.aload_n 0, 1) := by decide +kernel
theorem dX10_name_19 : decode cX10_name 19 = .ok (.getfield 34, 3) := by decide +kernel
theorem dX10_name_22 : decode cX10_name 22 = .ok (.iload_n 1, 1) := by decide +kernel
theorem dX10_name_23 : decode cX10_name 23 = .ok (.aaload, 1) := by decide +kernel
theorem dX10_name_24 : decode cX10_name 24 = .ok (.iload_n 2, 1) := by decide +kernel
theorem dX10_name_25 : decode cX10_name 25 = .ok (.iload_n 3, 1) := by decide +kernel
theorem dX10_name_26 : decode cX10_name 26 = .ok (.invokevirtual 142, 3) := by decide +kernel
theorem dX10_name_29 : decode cX10_name 29 = .ok (.ireturn, 1) := by decide +kernel
theorem dX10_letters_0 : decode cX10_letters 0 = .ok (.iload_n 1, 1) := by decide +kernel
theorem dX10_letters_1 : decode cX10_letters 1 = .ok (.invokestatic 100, 3) := by decide +kernel
theorem dX10_letters_4 : decode cX10_letters 4 = .ok (.ifCond .eq 10, 3) := by decide +kernel
theorem dX10_letters_7 : decode cX10_letters 7 = .ok (.iload_n 2, 1) := by decide +kernel
theorem dX10_letters_8 : decode cX10_letters 8 = .ok (.invokestatic 139, 3) := by decide +kernel
theorem dX10_letters_11 : decode cX10_letters 11 = .ok (.ifCond .ne 7, 3) := by decide +kernel
theorem dX10_letters_14 : decode cX10_letters 14 = .ok (.sipush (-1001), 3) := by decide +kernel
theorem dX10_letters_17 : decode cX10_letters 17 = .ok (.ireturn, 1) := by decide +kernel
theorem dX10_letters_18 : decode cX10_letters 18 = .ok (.aload_n 0, 1) := by decide +kernel
theorem dX10_letters_19 : decode cX10_letters 19 = .ok (.getfield 34, 3) := by decide +kernel
theorem dX10_letters_22 : decode cX10_letters 22 = .ok (.iload_n 1, 1) := by decide +kernel
theorem dX10_letters_23 : decode cX10_letters 23 = .ok (.aaload, 1) := by decide +kernel
theorem dX10_letters_24 : decode cX10_letters 24 = .ok (.iload_n 2, 1) := by decide +kernel
theorem dX10_letters_25 : decode cX10_letters 25 = .ok (.invokevirtual 146, 3) := by decide +kernel
theorem dX10_letters_28 : decode cX10_letters 28 = .ok (.ireturn, 1) := by decide +kernel
theorem dX10_by_0 : decode cX10_by 0 = .ok (.iload_n 1, 1) := by decide +kernel
theorem dX10_by_1 : decode cX10_by 1 = .ok (.invokestatic 100, 3) := by decide +kernel
theorem dX10_by_4 : decode cX10_by 4 = .ok (.ifCond .eq 10, 3) := by decide +kernel
theorem dX10_by_7 : decode cX10_by 7 = .ok (.iload_n 2, 1) := by decide +kernel
theorem dX10_by_8 : decode cX10_by 8 = .ok (.invokestatic 139, 3) := by decide +kernel
theorem dX10_by_11 : decode cX10_by 11 = .ok (.ifCond .ne 7, 3) := by decide +kernel
theorem dX10_by_14 : decode cX10_by 14 = .ok (.sipush (-1001), 3) := by decide +kernel
theorem dX10_by_17 : decode cX10_by 17 = .ok (.ireturn, 1) := by decide +kernel
theorem dX10_by_18 : decode cX10_by 18 = .ok (.aload_n 0, 1) := by decide +kernel
theorem dX10_by_19 : decode cX10_by 19 = .ok (.getfield 34, 3) := by decide +kernel
theorem dX10_by_22 : decode cX10_by 22 = .ok (.iload_n 1, 1) := by decide +kernel
theorem dX10_by_23 : decode cX10_by 23 = .ok (.aaload, 1) := by decide +kernel
theorem dX10_by_24 : decode cX10_by 24 = .ok (.iload_n 2, 1) := by decide +kernel
theorem dX10_by_25 : decode cX10_by 25 = .ok (.invokevirtual 150, 3) := by decide +kernel
theorem dX10_by_28 : decode cX10_by 28 = .ok (.ireturn, 1) := by decide +kernel
theorem dX10_deep_0 : decode cX10_deep 0 = .ok (.iload_n 1, 1) := by decide +kernel
theorem dX10_deep_1 : decode cX10_deep 1 = .ok (.invokestatic 100, 3) := by decide +kernel
theorem dX10_deep_4 : decode cX10_deep 4 = .ok (.ifCond .eq 10, 3) := by decide +kernel
theorem dX10_deep_7 : decode cX10_deep 7 = .ok (.iload_n 2, 1) := by decide +kernel
theorem dX10_deep_8 : decode cX10_deep 8 = .ok (.invokestatic 139, 3) := by decide +kernel
theorem dX10_deep_11 : decode cX10_deep 11 = .ok (.ifCond .ne 7, 3) := by decide +kernel
theorem dX10_deep_14 : decode cX10_deep 14 = .ok (.sipush (-1001), 3) := by decide +kernel
theorem dX10_deep_17 : decode cX10_deep 17 = .ok (.ireturn, 1) := by decide +kernel
theorem dX10_deep_18 : decode cX10_deep 18 = .ok (.aload_n 0, 1) := by decide +kernel
theorem dX10_deep_19 : decode cX10_deep 19 = .ok (.getfield 34, 3) := by decide +kernel
theorem dX10_deep_22 : decode cX10_deep 22 = .ok (.iload_n 1, 1) := by decide +kernel
theorem dX10_deep_23 : decode cX10_deep 23 = .ok (.aaload, 1) := by decide +kernel
theorem dX10_deep_24 : decode cX10_deep 24 = .ok (.iload_n 2, 1) := by decide +kernel
theorem dX10_deep_25 : decode cX10_deep 25 = .ok (.invokevirtual 153, 3) := by decide +kernel
theorem dX10_deep_28 : decode cX10_deep 28 = .ok (.ireturn, 1) := by decide +kernel
theorem dX10_uses_0 : decode cX10_uses 0 = .ok (.iload_n 1, 1) := by decide +kernel
theorem dX10_uses_1 : decode cX10_uses 1 = .ok (.invokestatic 100, 3) := by decide +kernel
theorem dX10_uses_4 : decode cX10_uses 4 = .ok (.ifCond .eq 18, 3) := by decide +kernel
theorem dX10_uses_7 : decode cX10_uses 7 = .ok (.iload_n 3, 1) := by decide +kernel
theorem dX10_uses_8 : decode cX10_uses 8 = .ok (.invokestatic 139, 3) := by decide +kernel
theorem dX10_uses_11 : decode cX10_uses 11 = .ok (.ifCond .eq 11, 3) := by decide +kernel
theorem dX10_uses_14 : decode cX10_uses 14 = .ok (.iload 4, 2) := by decide +kernel
theorem dX10_uses_16 : decode cX10_uses 16 = .ok (.invokestatic 139, 3) := by decide +kernel
theorem dX10_uses_19 : decode cX10_uses 19 = .ok (.ifCond .ne 7, 3) := by decide +kernel
theorem dX10_uses_22 : decode cX10_uses 22 = .ok (.sipush (-1001), 3) := by decide +kernel
theorem dX10_uses_25 : decode cX10_uses 25 = .ok (.ireturn, 1) := by decide +kernel
theorem dX10_uses_26 : decode cX10_uses 26 = .ok (.iload_n 2, 1) := by decide +kernel
theorem dX10_uses_27 : decode cX10_uses 27 = .ok (.invokestatic 156, 3) := by decide +kernel
theorem dX10_uses_30 : decode cX10_uses 30 = .ok (.ifCond .eq 9, 3) := by decide +kernel
theorem dX10_uses_33 : decode cX10_uses 33 = .ok (.iload 4, 2) := by decide +kernel
theorem dX10_uses_35 : decode cX10_uses 35 = .ok (.iload_n 3, 1) := by decide +kernel
theorem dX10_uses_36 : decode cX10_uses 36 = .ok (.if_icmp .ge 7, 3) := by decide +kernel
theorem dX10_uses_39 : decode cX10_uses 39 = .ok (.sipush (-1002), 3) := by decide +kernel
theorem dX10_uses_42 : decode cX10_uses 42 = .ok (.ireturn, 1) := by decide +kernel
theorem dX10_uses_43 : decode cX10_uses 43 = .ok (.iconst 0, 1) := by decide +kernel
theorem dX10_uses_44 : decode cX10_uses 44 = .ok (.istore 5, 2) := by decide +kernel
theorem dX10_uses_46 : decode cX10_uses 46 = .ok (.iload_n 3, 1) := by decide +kernel
theorem dX10_uses_47 : decode cX10_uses 47 = .ok (.istore 6, 2) := by decide +kernel
theorem dX10_uses_49 : decode cX10_uses 49 = .ok (.iload 6, 2) := by decide +kernel
theorem dX10_uses_51 : decode cX10_uses 51 = .ok (.iload 4, 2) := by decide +kernel
theorem dX10_uses_53 : decode cX10_uses 53 = .ok (.if_icmp .gt 29, 3) := by decide +kernel
theorem dX10_uses_56 : decode cX10_uses 56 = .ok (.iload 5, 2) := by decide +kernel
theorem dX10_uses_58 : decode cX10_uses 58 = .ok (.aload_n 0, 1) := by decide +kernel
theorem dX10_uses_59 : decode cX10_uses 59 = .ok (.getfield 34, 3) := by decide +kernel
theorem dX10_uses_62 : decode cX10_uses 62 = .ok (.iload_n 1, 1) := by decide +kernel
theorem dX10_uses_63 : decode cX10_uses 63 = .ok (.aaload, 1) := by decide +kernel
theorem dX10_uses_64 : decode cX10_uses 64 = .ok (.bipush 97, 2) := by decide +kernel
theorem dX10_uses_66 : decode cX10_uses 66 = .ok (.iload_n 2, 1) := by decide +kernel
theorem dX10_uses_67 : decode cX10_uses 67 = .ok (.iadd, 1) := by decide +kernel
theorem dX10_uses_68 : decode cX10_uses 68 = .ok (.iload 6, 2) := by decide +kernel
theorem dX10_uses_70 : decode cX10_uses 70 = .ok (.invokevirtual 159, 3) := by decide +kernel
theorem dX10_uses_73 : decode cX10_uses 73 = .ok (.iadd, 1) := by decide +kernel
theorem dX10_uses_74 : decode cX10_uses 74 = .ok (.istore 5, 2) := by decide +kernel
theorem dX10_uses_76 : decode cX10_uses 76 = .ok (.iinc 6 1, 3) := by decide +kernel
theorem dX10_uses_79 : decode cX10_uses 79 = .ok (.goto (-30), 3) := by decide +kernel
theorem dX10_uses_82 : decode cX10_uses 82 = .ok (.iload 5, 2) := by decide +kernel
theorem dX10_uses_84 : decode cX10_uses 84 = .ok (.ireturn, 1) := by decide +kernel
theorem dX10_first_0 : decode cX10_first 0 = .ok (.iload_n 1, 1) := by decide +kernel
theorem dX10_first_1 : decode cX10_first 1 = .ok (.invokestatic 100, 3) := by decide +kernel
theorem dX10_first_4 : decode cX10_first 4 = .ok (.ifCond .ne 7, 3) := by decide +kernel
theorem dX10_first_7 : decode cX10_first 7 = .ok (.sipush (-1001), 3) := by decide +kernel
theorem dX10_first_10 : decode cX10_first 10 = .ok (.ireturn, 1) := by decide +kernel
theorem dX10_first_11 : decode cX10_first 11 = .ok (.iload_n 2, 1) := by decide +kernel
theorem dX10_first_12 : decode cX10_first 12 = .ok (.invokestatic 156, 3) := by decide +kernel
theorem dX10_first_15 : decode cX10_first 15 = .ok (.ifCond .ne 7, 3) := by decide +kernel
theorem dX10_first_18 : decode cX10_first 18 = .ok (.sipush (-1002), 3) := by decide +kernel
theorem dX10_first_21 : decode cX10_first 21 = .ok (.ireturn, 1) := by decide +kernel
theorem dX10_first_22 : decode cX10_first 22 = .ok (.iconst 0, 1) := by decide +kernel
theorem dX10_first_23 : decode cX10_first 23 = .ok (.istore_n 3, 1) := by decide +kernel
theorem dX10_first_24 : decode cX10_first 24 = .ok (.iload_n 3, 1) := by decide +kernel
theorem dX10_first_25 : decode cX10_first 25 = .ok (.sipush 1000, 3) := by decide +kernel
theorem dX10_first_28 : decode cX10_first 28 = .ok (.if_icmp .ge 28, 3) := by decide +kernel
theorem dX10_first_31 : decode cX10_first 31 = .ok (.aload_n 0, 1) := by decide +kernel
theorem dX10_first_32 : decode cX10_first 32 = .ok (.getfield 34, 3) := by decide +kernel
theorem dX10_first_35 : decode cX10_first 35 = .ok (.iload_n 1, 1) := by decide +kernel
theorem dX10_first_36 : decode cX10_first 36 = .ok (.aaload, 1) := by decide +kernel
theorem dX10_first_37 : decode cX10_first 37 = .ok (.bipush 97, 2) := by decide +kernel
theorem dX10_first_39 : decode cX10_first 39 = .ok (.iload_n 2, 1) := by decide +kernel
theorem dX10_first_40 : decode cX10_first 40 = .ok (.iadd, 1) := by decide +kernel
theorem dX10_first_41 : decode cX10_first 41 = .ok (.iload_n 3, 1) := by decide +kernel
theorem dX10_first_42 : decode cX10_first 42 = .ok (.invokevirtual 159, 3) := by decide +kernel
theorem dX10_first_45 : decode cX10_first 45 = .ok (.ifCond .le 5, 3) := by decide +kernel
theorem dX10_first_48 : decode cX10_first 48 = .ok (.iload_n 3, 1) := by decide +kernel
theorem dX10_first_49 : decode cX10_first 49 = .ok (.ireturn, 1) := by decide +kernel
theorem dX10_first_50 : decode cX10_first 50 = .ok (.iinc 3 1, 3) := by decide +kernel
theorem dX10_first_53 : decode cX10_first 53 = .ok (.goto (-29), 3) := by decide +kernel
theorem dX10_first_56 : decode cX10_first 56 = .ok (.iconst (-1), 1) := by decide +kernel
theorem dX10_first_57 : decode cX10_first 57 = .ok (.ireturn, 1) := by decide +kernel
theorem dX10_song_0 : decode cX10_song 0 = .ok (.iload_n 1, 1) := by decide +kernel
theorem dX10_song_1 : decode cX10_song 1 = .ok (.invokestatic 100, 3) := by decide +kernel
theorem dX10_song_4 : decode cX10_song 4 = .ok (.ifCond .eq 17, 3) := by decide +kernel
theorem dX10_song_7 : decode cX10_song 7 = .ok (.iload_n 2, 1) := by decide +kernel
theorem dX10_song_8 : decode cX10_song 8 = .ok (.invokestatic 139, 3) := by decide +kernel
theorem dX10_song_11 : decode cX10_song 11 = .ok (.ifCond .eq 10, 3) := by decide +kernel
theorem dX10_song_14 : decode cX10_song 14 = .ok (.iload_n 3, 1) := by decide +kernel
theorem dX10_song_15 : decode cX10_song 15 = .ok (.invokestatic 139, 3) := by decide +kernel
theorem dX10_song_18 : decode cX10_song 18 = .ok (.ifCond .ne 7, 3) := by decide +kernel
theorem dX10_song_21 : decode cX10_song 21 = .ok (.sipush (-1001), 3) := by decide +kernel
theorem dX10_song_24 : decode cX10_song 24 = .ok (.ireturn, 1) := by decide +kernel
theorem dX10_song_25 : decode cX10_song 25 = .ok (.iload_n 3, 1) := by decide +kernel
theorem dX10_song_26 : decode cX10_song 26 = .ok (.iload_n 2, 1) := by decide +kernel
theorem dX10_song_27 : decode cX10_song 27 = .ok (.if_icmp .ge 7, 3) := by decide +kernel
theorem dX10_song_30 : decode cX10_song 30 = .ok (.sipush (-1002), 3) := by decide +kernel
theorem dX10_song_33 : decode cX10_song 33 = .ok (.ireturn, 1) := by decide +kernel
theorem dX10_song_34 : decode cX10_song 34 = .ok (.iconst 0, 1) := by decide +kernel
theorem dX10_song_35 : decode cX10_song 35 = .ok (.istore 4, 2) := by decide +kernel
theorem dX10_song_37 : decode cX10_song 37 = .ok (.iload_n 2, 1) := by decide +kernel
theorem dX10_song_38 : decode cX10_song 38 = .ok (.istore 5, 2) := by decide +kernel
theorem dX10_song_40 : decode cX10_song 40 = .ok (.iload 5, 2) := by decide +kernel
theorem dX10_song_42 : decode cX10_song 42 = .ok (.iload_n 3, 1) := by decide +kernel
theorem dX10_song_43 : decode cX10_song 43 = .ok (.if_icmp .gt 29, 3) := by decide +kernel
theorem dX10_song_46 : decode cX10_song 46 = .ok (.iload 4, 2) := by decide +kernel
theorem dX10_song_48 : decode cX10_song 48 = .ok (.iconst 0, 1) := by decide +kernel
theorem dX10_song_49 : decode cX10_song 49 = .ok (.aload_n 0, 1) := by decide +kernel
theorem dX10_song_50 : decode cX10_song 50 = .ok (.getfield 34, 3) := by decide +kernel
theorem dX10_song_53 : decode cX10_song 53 = .ok (.iload_n 1, 1) := by decide +kernel
theorem dX10_song_54 : decode cX10_song 54 = .ok (.aaload, 1) := by decide +kernel
theorem dX10_song_55 : decode cX10_song 55 = .ok (.iload 5, 2) := by decide +kernel
theorem dX10_song_57 : decode cX10_song 57 = .ok (.invokevirtual 146, 3) := by decide +kernel
theorem dX10_song_60 : decode cX10_song 60 = .ok (.invokestatic 162, 3) := by decide +kernel
theorem dX10_song_63 : decode cX10_song 63 = .ok (.iadd, 1) := by decide +kernel
theorem dX10_song_64 : decode cX10_song 64 = .ok (.istore 4, 2) := by decide +kernel
theorem dX10_song_66 : decode cX10_song 66 = .ok (.iinc 5 1, 3) := by decide +kernel
theorem dX10_song_69 : decode cX10_song 69 = .ok (.goto (-29), 3) := by decide +kernel
theorem dX10_song_72 : decode cX10_song 72 = .ok (.iload 4, 2) := by decide +kernel
theorem dX10_song_74 : decode cX10_song 74 = .ok (.ireturn, 1) := by decide +kernel
theorem dX10_order_0 : decode cX10_order 0 = .ok (.iload_n 1, 1) := by decide +kernel
theorem dX10_order_1 : decode cX10_order 1 = .ok (.invokestatic 100, 3) := by decide +kernel
theorem dX10_order_4 : decode cX10_order 4 = .ok (.ifCond .ne 7, 3) := by decide +kernel
theorem dX10_order_7 : decode cX10_order 7 = .ok (.sipush (-1001), 3) := by decide +kernel
theorem dX10_order_10 : decode cX10_order 10 = .ok (.ireturn, 1) := by decide +kernel
theorem dX10_order_11 : decode cX10_order 11 = .ok (.aload_n 0, 1) := by decide +kernel
theorem dX10_order_12 : decode cX10_order 12 = .ok (.getfield 34, 3) := by decide +kernel
theorem dX10_order_15 : decode cX10_order 15 = .ok (.iload_n 1, 1) := by decide +kernel
theorem dX10_order_16 : decode cX10_order 16 = .ok (.aaload, 1) := by decide +kernel
theorem dX10_order_17 : decode cX10_order 17 = .ok (.iload_n 2, 1) := by decide +kernel
theorem dX10_order_18 : decode cX10_order 18 = .ok (.aload_n 0, 1) := by decide +kernel
theorem dX10_order_19 : decode cX10_order 19 = .ok (.getfield 51, 3) := by decide +kernel
theorem dX10_order_22 : decode cX10_order 22 = .ok (.invokevirtual 167, 3) := by decide +kernel
theorem dX10_order_25 : decode cX10_order 25 = .ok (.ireturn, 1) := by decide +kernel
theorem dX10_place_0 : decode cX10_place 0 = .ok (.iload_n 1, 1) := by decide +kernel
theorem dX10_place_1 : decode cX10_place 1 = .ok (.invokestatic 100, 3) := by decide +kernel
theorem dX10_place_4 : decode cX10_place 4 = .ok (.ifCond .eq 10, 3) := by decide +kernel
theorem dX10_place_7 : decode cX10_place 7 = .ok (.iload_n 2, 1) := by decide +kernel
theorem dX10_place_8 : decode cX10_place 8 = .ok (.invokestatic 139, 3) := by decide +kernel
theorem dX10_place_11 : decode cX10_place 11 = .ok (.ifCond .ne 7, 3) := by decide +kernel
theorem dX10_place_14 : decode cX10_place 14 = .ok (.sipush (-1001), 3) := by decide +kernel
theorem dX10_place_17 : decode cX10_place 17 = .ok (.ireturn, 1) := by decide +kernel
theorem dX10_place_18 : decode cX10_place 18 = .ok (.aload_n 0, 1) := by decide +kernel
theorem dX10_place_19 : decode cX10_place 19 = .ok (.getfield 34, 3) := by decide +kernel
theorem dX10_place_22 : decode cX10_place 22 = .ok (.iload_n 1, 1) := by decide +kernel
theorem dX10_place_23 : decode cX10_place 23 = .ok (.aaload, 1) := by decide +kernel
theorem dX10_place_24 : decode cX10_place 24 = .ok (.iload_n 2, 1) := by decide +kernel
theorem dX10_place_25 : decode cX10_place 25 = .ok (.aload_n 0, 1) := by decide +kernel
theorem dX10_place_26 : decode cX10_place 26 = .ok (.getfield 51, 3) := by decide +kernel
theorem dX10_place_29 : decode cX10_place 29 = .ok (.invokevirtual 171, 3) := by decide +kernel
theorem dX10_place_32 : decode cX10_place 32 = .ok (.ireturn, 1) := by decide +kernel
theorem dX10_twins_0 : decode cX10_twins 0 = .ok (.iload_n 1, 1) := by decide +kernel
theorem dX10_twins_1 : decode cX10_twins 1 = .ok (.invokestatic 100, 3) := by decide +kernel
theorem dX10_twins_4 : decode cX10_twins 4 = .ok (.ifCond .ne 7, 3) := by decide +kernel
theorem dX10_twins_7 : decode cX10_twins 7 = .ok (.sipush (-1001), 3) := by decide +kernel
theorem dX10_twins_10 : decode cX10_twins 10 = .ok (.ireturn, 1) := by decide +kernel
theorem dX10_twins_11 : decode cX10_twins 11 = .ok (.aload_n 0, 1) := by decide +kernel
theorem dX10_twins_12 : decode cX10_twins 12 = .ok (.getfield 34, 3) := by decide +kernel
theorem dX10_twins_15 : decode cX10_twins 15 = .ok (.iload_n 1, 1) := by decide +kernel
theorem dX10_twins_16 : decode cX10_twins 16 = .ok (.aaload, 1) := by decide +kernel
theorem dX10_twins_17 : decode cX10_twins 17 = .ok (.astore_n 3, 1) := by decide +kernel
theorem dX10_twins_18 : decode cX10_twins 18 = .ok (.iload_n 2, 1) := by decide +kernel
theorem dX10_twins_19 : decode cX10_twins 19 = .ok (.tableswitch 52 0 2 #[25, 34, 43], 25) := by decide +kernel
theorem dX10_twins_44 : decode cX10_twins 44 = .ok (.aload_n 3, 1) := by decide +kernel
theorem dX10_twins_45 : decode cX10_twins 45 = .ok (.aload_n 0, 1) := by decide +kernel
theorem dX10_twins_46 : decode cX10_twins 46 = .ok (.getfield 51, 3) := by decide +kernel
theorem dX10_twins_49 : decode cX10_twins 49 = .ok (.invokevirtual 174, 3) := by decide +kernel
theorem dX10_twins_52 : decode cX10_twins 52 = .ok (.ireturn, 1) := by decide +kernel
theorem dX10_twins_53 : decode cX10_twins 53 = .ok (.aload_n 3, 1) := by decide +kernel
theorem dX10_twins_54 : decode cX10_twins 54 = .ok (.aload_n 0, 1) := by decide +kernel
theorem dX10_twins_55 : decode cX10_twins 55 = .ok (.getfield 51, 3) := by decide +kernel
theorem dX10_twins_58 : decode cX10_twins 58 = .ok (.invokevirtual 178, 3) := by decide +kernel
theorem dX10_twins_61 : decode cX10_twins 61 = .ok (.ireturn, 1) := by decide +kernel
theorem dX10_twins_62 : decode cX10_twins 62 = .ok (.aload_n 3, 1) := by decide +kernel
theorem dX10_twins_63 : decode cX10_twins 63 = .ok (.aload_n 0, 1) := by decide +kernel
theorem dX10_twins_64 : decode cX10_twins 64 = .ok (.getfield 51, 3) := by decide +kernel
theorem dX10_twins_67 : decode cX10_twins 67 = .ok (.invokevirtual 181, 3) := by decide +kernel
theorem dX10_twins_70 : decode cX10_twins 70 = .ok (.ireturn, 1) := by decide +kernel
theorem dX10_twins_71 : decode cX10_twins 71 = .ok (.sipush (-1002), 3) := by decide +kernel
theorem dX10_twins_74 : decode cX10_twins 74 = .ok (.ireturn, 1) := by decide +kernel
theorem dX10_write_0 : decode cX10_write 0 = .ok (.iload_n 1, 1) := by decide +kernel
theorem dX10_write_1 : decode cX10_write 1 = .ok (.bipush 32, 2) := by decide +kernel
theorem dX10_write_3 : decode cX10_write 3 = .ok (.if_icmp .eq 19, 3) := by decide +kernel
theorem dX10_write_6 : decode cX10_write 6 = .ok (.iload_n 1, 1) := by decide +kernel
theorem dX10_write_7 : decode cX10_write 7 = .ok (.bipush 97, 2) := by decide +kernel
theorem dX10_write_9 : decode cX10_write 9 = .ok (.if_icmp .lt 9, 3) := by decide +kernel
theorem dX10_write_12 : decode cX10_write 12 = .ok (.iload_n 1, 1) := by decide +kernel
theorem dX10_write_13 : decode cX10_write 13 = .ok (.bipush 122, 2) := by decide +kernel
theorem dX10_write_15 : decode cX10_write 15 = .ok (.if_icmp .le 7, 3) := by decide +kernel
theorem dX10_write_18 : decode cX10_write 18 = .ok (.sipush (-1002), 3) := by decide +kernel
theorem dX10_write_21 : decode cX10_write 21 = .ok (.ireturn, 1) := by decide +kernel
theorem dX10_write_22 : decode cX10_write 22 = .ok (.aload_n 0, 1) := by decide +kernel
theorem dX10_write_23 : decode cX10_write 23 = .ok (.getfield 58, 3) := by decide +kernel
theorem dX10_write_26 : decode cX10_write 26 = .ok (.iload_n 1, 1) := by decide +kernel
theorem dX10_write_27 : decode cX10_write 27 = .ok (.invokestatic 184, 3) := by decide +kernel
theorem dX10_write_30 : decode cX10_write 30 = .ok (.iconst 1, 1) := by decide +kernel
theorem dX10_write_31 : decode cX10_write 31 = .ok (.invokevirtual 188, 3) := by decide +kernel
theorem dX10_write_34 : decode cX10_write 34 = .ok (.ifCond .ne 7, 3) := by decide +kernel
theorem dX10_write_37 : decode cX10_write 37 = .ok (.sipush (-1004), 3) := by decide +kernel
theorem dX10_write_40 : decode cX10_write 40 = .ok (.ireturn, 1) := by decide +kernel
theorem dX10_write_41 : decode cX10_write 41 = .ok (.iload_n 1, 1) := by decide +kernel
theorem dX10_write_42 : decode cX10_write 42 = .ok (.bipush 32, 2) := by decide +kernel
theorem dX10_write_44 : decode cX10_write 44 = .ok (.if_icmp .eq 16, 3) := by decide +kernel
theorem dX10_write_47 : decode cX10_write 47 = .ok (.aload_n 0, 1) := by decide +kernel
theorem dX10_write_48 : decode cX10_write 48 = .ok (.getfield 62, 3) := by decide +kernel
theorem dX10_write_51 : decode cX10_write 51 = .ok (.iload_n 1, 1) := by decide +kernel
theorem dX10_write_52 : decode cX10_write 52 = .ok (.invokestatic 184, 3) := by decide +kernel
theorem dX10_write_55 : decode cX10_write 55 = .ok (.iconst 1, 1) := by decide +kernel
theorem dX10_write_56 : decode cX10_write 56 = .ok (.invokevirtual 188, 3) := by decide +kernel
theorem dX10_write_59 : decode cX10_write 59 = .ok (.pop, 1) := by decide +kernel
theorem dX10_write_60 : decode cX10_write 60 = .ok (.aload_n 0, 1) := by decide +kernel
theorem dX10_write_61 : decode cX10_write 61 = .ok (.getfield 58, 3) := by decide +kernel
theorem dX10_write_64 : decode cX10_write 64 = .ok (.invokevirtual 138, 3) := by decide +kernel
theorem dX10_write_67 : decode cX10_write 67 = .ok (.ireturn, 1) := by decide +kernel
theorem dX10_clear_0 : decode cX10_clear 0 = .ok (.aload_n 0, 1) := by decide +kernel
theorem dX10_clear_1 : decode cX10_clear 1 = .ok (.getfield 58, 3) := by decide +kernel
theorem dX10_clear_4 : decode cX10_clear 4 = .ok (.invokevirtual 138, 3) := by decide +kernel
theorem dX10_clear_7 : decode cX10_clear 7 = .ok (.istore_n 1, 1) := by decide +kernel
theorem dX10_clear_8 : decode cX10_clear 8 = .ok (.aload_n 0, 1) := by decide +kernel
theorem dX10_clear_9 : decode cX10_clear 9 = .ok (.getfield 58, 3) := by decide +kernel
theorem dX10_clear_12 : decode cX10_clear 12 = .ok (.invokevirtual 191, 3) := by decide +kernel
theorem dX10_clear_15 : decode cX10_clear 15 = .ok (.aload_n 0, 1) := by decide +kernel
theorem dX10_clear_16 : decode cX10_clear 16 = .ok (.getfield 62, 3) := by decide +kernel
theorem dX10_clear_19 : decode cX10_clear 19 = .ok (.invokevirtual 191, 3) := by decide +kernel
theorem dX10_clear_22 : decode cX10_clear 22 = .ok (.iload_n 1, 1) := by decide +kernel
theorem dX10_clear_23 : decode cX10_clear 23 = .ok (.ireturn, 1) := by decide +kernel
theorem dX10_find_0 : decode cX10_find 0 = .ok (.iload_n 1, 1) := by decide +kernel
theorem dX10_find_1 : decode cX10_find 1 = .ok (.invokestatic 100, 3) := by decide +kernel
theorem dX10_find_4 : decode cX10_find 4 = .ok (.ifCond .ne 7, 3) := by decide +kernel
theorem dX10_find_7 : decode cX10_find 7 = .ok (.sipush (-1001), 3) := by decide +kernel
theorem dX10_find_10 : decode cX10_find 10 = .ok (.ireturn, 1) := by decide +kernel
theorem dX10_find_11 : decode cX10_find 11 = .ok (.aload_n 0, 1) := by decide +kernel
theorem dX10_find_12 : decode cX10_find 12 = .ok (.getfield 70, 3) := by decide +kernel
theorem dX10_find_15 : decode cX10_find 15 = .ok (.iconst 0, 1) := by decide +kernel
theorem dX10_find_16 : decode cX10_find 16 = .ok (.iload_n 2, 1) := by decide +kernel
theorem dX10_find_17 : decode cX10_find 17 = .ok (.ifCond .eq 10, 3) := by decide +kernel
theorem dX10_find_20 : decode cX10_find 20 = .ok (.aload_n 0, 1) := by decide +kernel
theorem dX10_find_21 : decode cX10_find 21 = .ok (.getfield 62, 3) := by decide +kernel
theorem dX10_find_24 : decode cX10_find 24 = .ok (.goto 7, 3) := by decide +kernel
theorem dX10_find_27 : decode cX10_find 27 = .ok (.aload_n 0, 1) := by decide +kernel
theorem dX10_find_28 : decode cX10_find 28 = .ok (.getfield 58, 3) := by decide +kernel
theorem dX10_find_31 : decode cX10_find 31 = .ok (.invokevirtual 192, 3) := by decide +kernel
theorem dX10_find_34 : decode cX10_find 34 = .ok (.iload_n 3, 1) := by decide +kernel
theorem dX10_find_35 : decode cX10_find 35 = .ok (.iconst (-1), 1) := by decide +kernel
theorem dX10_find_36 : decode cX10_find 36 = .ok (.if_icmp .eq 19, 3) := by decide +kernel
theorem dX10_find_39 : decode cX10_find 39 = .ok (.aload_n 0, 1) := by decide +kernel
theorem dX10_find_40 : decode cX10_find 40 = .ok (.getfield 34, 3) := by decide +kernel
theorem dX10_find_43 : decode cX10_find 43 = .ok (.iload_n 1, 1) := by decide +kernel
theorem dX10_find_44 : decode cX10_find 44 = .ok (.aaload, 1) := by decide +kernel
theorem dX10_find_45 : decode cX10_find 45 = .ok (.aload_n 0, 1) := by decide +kernel
theorem dX10_find_46 : decode cX10_find 46 = .ok (.getfield 70, 3) := by decide +kernel
theorem dX10_find_49 : decode cX10_find 49 = .ok (.iload_n 2, 1) := by decide +kernel
theorem dX10_find_50 : decode cX10_find 50 = .ok (.iload_n 3, 1) := by decide +kernel
theorem dX10_find_51 : decode cX10_find 51 = .ok (.invokevirtual 196, 3) := by decide +kernel
theorem dX10_find_54 : decode cX10_find 54 = .ok (.ireturn, 1) := by decide +kernel
theorem dX10_find_55 : decode cX10_find 55 = .ok (.aload_n 0, 1) := by decide +kernel
theorem dX10_find_56 : decode cX10_find 56 = .ok (.getfield 34, 3) := by decide +kernel
theorem dX10_find_59 : decode cX10_find 59 = .ok (.iload_n 1, 1) := by decide +kernel
theorem dX10_find_60 : decode cX10_find 60 = .ok (.aaload, 1) := by decide +kernel
theorem dX10_find_61 : decode cX10_find 61 = .ok (.aload_n 0, 1) := by decide +kernel
theorem dX10_find_62 : decode cX10_find 62 = .ok (.getfield 70, 3) := by decide +kernel
theorem dX10_find_65 : decode cX10_find 65 = .ok (.iload_n 2, 1) := by decide +kernel
theorem dX10_find_66 : decode cX10_find 66 = .ok (.invokevirtual 200, 3) := by decide +kernel
theorem dX10_find_69 : decode cX10_find 69 = .ok (.ireturn, 1) := by decide +kernel
theorem dX10_nearest_0 : decode cX10_nearest 0 = .ok (.iload_n 1, 1) := by decide +kernel
theorem dX10_nearest_1 : decode cX10_nearest 1 = .ok (.invokestatic 100, 3) := by decide +kernel
theorem dX10_nearest_4 : decode cX10_nearest 4 = .ok (.ifCond .ne 7, 3) := by decide +kernel
theorem dX10_nearest_7 : decode cX10_nearest 7 = .ok (.sipush (-1001), 3) := by decide +kernel
theorem dX10_nearest_10 : decode cX10_nearest 10 = .ok (.ireturn, 1) := by decide +kernel
theorem dX10_nearest_11 : decode cX10_nearest 11 = .ok (.iload_n 2, 1) := by decide +kernel
theorem dX10_nearest_12 : decode cX10_nearest 12 = .ok (.ifCond .eq 12, 3) := by decide +kernel
theorem dX10_nearest_15 : decode cX10_nearest 15 = .ok (.iload_n 2, 1) := by decide +kernel
theorem dX10_nearest_16 : decode cX10_nearest 16 = .ok (.iconst 1, 1) := by decide +kernel
theorem dX10_nearest_17 : decode cX10_nearest 17 = .ok (.if_icmp .eq 7, 3) := by decide +kernel
theorem dX10_nearest_20 : decode cX10_nearest 20 = .ok (.sipush (-1002), 3) := by decide +kernel
theorem dX10_nearest_23 : decode cX10_nearest 23 = .ok (.ireturn, 1) := by decide +kernel
theorem dX10_nearest_24 : decode cX10_nearest 24 = .ok (.aload_n 0, 1) := by decide +kernel
theorem dX10_nearest_25 : decode cX10_nearest 25 = .ok (.getfield 70, 3) := by decide +kernel
theorem dX10_nearest_28 : decode cX10_nearest 28 = .ok (.iconst 0, 1) := by decide +kernel
theorem dX10_nearest_29 : decode cX10_nearest 29 = .ok (.aload_n 0, 1) := by decide +kernel
theorem dX10_nearest_30 : decode cX10_nearest 30 = .ok (.getfield 62, 3) := by decide +kernel
theorem dX10_nearest_33 : decode cX10_nearest 33 = .ok (.invokevirtual 192, 3) := by decide +kernel
theorem dX10_nearest_36 : decode cX10_nearest 36 = .ok (.aload_n 0, 1) := by decide +kernel
theorem dX10_nearest_37 : decode cX10_nearest 37 = .ok (.getfield 77, 3) := by decide +kernel
theorem dX10_nearest_40 : decode cX10_nearest 40 = .ok (.aload_n 0, 1) := by decide +kernel
theorem dX10_nearest_41 : decode cX10_nearest 41 = .ok (.getfield 70, 3) := by decide +kernel
theorem dX10_nearest_44 : decode cX10_nearest 44 = .ok (.iconst 0, 1) := by decide +kernel
theorem dX10_nearest_45 : decode cX10_nearest 45 = .ok (.invokevirtual 204, 3) := by decide +kernel
theorem dX10_nearest_48 : decode cX10_nearest 48 = .ok (.aload_n 0, 1) := by decide +kernel
theorem dX10_nearest_49 : decode cX10_nearest 49 = .ok (.getfield 34, 3) := by decide +kernel
theorem dX10_nearest_52 : decode cX10_nearest 52 = .ok (.iload_n 1, 1) := by decide +kernel
theorem dX10_nearest_53 : decode cX10_nearest 53 = .ok (.aaload, 1) := by decide +kernel
theorem dX10_nearest_54 : decode cX10_nearest 54 = .ok (.astore_n 3, 1) := by decide +kernel
theorem dX10_nearest_55 : decode cX10_nearest 55 = .ok (.iconst (-1), 1) := by decide +kernel
theorem dX10_nearest_56 : decode cX10_nearest 56 = .ok (.istore 4, 2) := by decide +kernel
theorem dX10_nearest_58 : decode cX10_nearest 58 = .ok (.bipush 61, 2) := by decide +kernel
theorem dX10_nearest_60 : decode cX10_nearest 60 = .ok (.istore 5, 2) := by decide +kernel
theorem dX10_nearest_62 : decode cX10_nearest 62 = .ok (.iconst 0, 1) := by decide +kernel
theorem dX10_nearest_63 : decode cX10_nearest 63 = .ok (.istore 6, 2) := by decide +kernel
theorem dX10_nearest_65 : decode cX10_nearest 65 = .ok (.iload 6, 2) := by decide +kernel
theorem dX10_nearest_67 : decode cX10_nearest 67 = .ok (.sipush 1000, 3) := by decide +kernel
theorem dX10_nearest_70 : decode cX10_nearest 70 = .ok (.if_icmp .ge 72, 3) := by decide +kernel
theorem dX10_nearest_73 : decode cX10_nearest 73 = .ok (.iload 5, 2) := by decide +kernel
theorem dX10_nearest_75 : decode cX10_nearest 75 = .ok (.ifCond .le 67, 3) := by decide +kernel
theorem dX10_nearest_78 : decode cX10_nearest 78 = .ok (.aload_n 3, 1) := by decide +kernel
theorem dX10_nearest_79 : decode cX10_nearest 79 = .ok (.iload 6, 2) := by decide +kernel
theorem dX10_nearest_81 : decode cX10_nearest 81 = .ok (.invokevirtual 208, 3) := by decide +kernel
theorem dX10_nearest_84 : decode cX10_nearest 84 = .ok (.ifCond .eq 52, 3) := by decide +kernel
theorem dX10_nearest_87 : decode cX10_nearest 87 = .ok (.aload_n 3, 1) := by decide +kernel
theorem dX10_nearest_88 : decode cX10_nearest 88 = .ok (.iload 6, 2) := by decide +kernel
theorem dX10_nearest_90 : decode cX10_nearest 90 = .ok (.invokevirtual 146, 3) := by decide +kernel
theorem dX10_nearest_93 : decode cX10_nearest 93 = .ok (.aload_n 0, 1) := by decide +kernel
theorem dX10_nearest_94 : decode cX10_nearest 94 = .ok (.getfield 77, 3) := by decide +kernel
theorem dX10_nearest_97 : decode cX10_nearest 97 = .ok (.invokevirtual 211, 3) := by decide +kernel
theorem dX10_nearest_100 : decode cX10_nearest 100 = .ok (.isub, 1) := by decide +kernel
theorem dX10_nearest_101 : decode cX10_nearest 101 = .ok (.invokestatic 212, 3) := by decide +kernel
theorem dX10_nearest_104 : decode cX10_nearest 104 = .ok (.iload 5, 2) := by decide +kernel
theorem dX10_nearest_106 : decode cX10_nearest 106 = .ok (.if_icmp .ge 30, 3) := by decide +kernel
theorem dX10_nearest_109 : decode cX10_nearest 109 = .ok (.aload_n 3, 1) := by decide +kernel
theorem dX10_nearest_110 : decode cX10_nearest 110 = .ok (.aload_n 0, 1) := by decide +kernel
theorem dX10_nearest_111 : decode cX10_nearest 111 = .ok (.getfield 77, 3) := by decide +kernel
theorem dX10_nearest_114 : decode cX10_nearest 114 = .ok (.iload 6, 2) := by decide +kernel
theorem dX10_nearest_116 : decode cX10_nearest 116 = .ok (.invokevirtual 215, 3) := by decide +kernel
theorem dX10_nearest_119 : decode cX10_nearest 119 = .ok (.istore 7, 2) := by decide +kernel
theorem dX10_nearest_121 : decode cX10_nearest 121 = .ok (.iload 7, 2) := by decide +kernel
theorem dX10_nearest_123 : decode cX10_nearest 123 = .ok (.iload 5, 2) := by decide +kernel
theorem dX10_nearest_125 : decode cX10_nearest 125 = .ok (.if_icmp .ge 11, 3) := by decide +kernel
theorem dX10_nearest_128 : decode cX10_nearest 128 = .ok (.iload 6, 2) := by decide +kernel
theorem dX10_nearest_130 : decode cX10_nearest 130 = .ok (.istore 4, 2) := by decide +kernel
theorem dX10_nearest_132 : decode cX10_nearest 132 = .ok (.iload 7, 2) := by decide +kernel
theorem dX10_nearest_134 : decode cX10_nearest 134 = .ok (.istore 5, 2) := by decide +kernel
theorem dX10_nearest_136 : decode cX10_nearest 136 = .ok (.iinc 6 1, 3) := by decide +kernel
theorem dX10_nearest_139 : decode cX10_nearest 139 = .ok (.goto (-74), 3) := by decide +kernel
theorem dX10_nearest_142 : decode cX10_nearest 142 = .ok (.iload_n 2, 1) := by decide +kernel
theorem dX10_nearest_143 : decode cX10_nearest 143 = .ok (.ifCond .eq 9, 3) := by decide +kernel
theorem dX10_nearest_146 : decode cX10_nearest 146 = .ok (.iload 4, 2) := by decide +kernel
theorem dX10_nearest_148 : decode cX10_nearest 148 = .ok (.iconst (-1), 1) := by decide +kernel
theorem dX10_nearest_149 : decode cX10_nearest 149 = .ok (.if_icmp .ne 8, 3) := by decide +kernel
theorem dX10_nearest_152 : decode cX10_nearest 152 = .ok (.iload 4, 2) := by decide +kernel
theorem dX10_nearest_154 : decode cX10_nearest 154 = .ok (.goto 5, 3) := by decide +kernel
theorem dX10_nearest_157 : decode cX10_nearest 157 = .ok (.iload 5, 2) := by decide +kernel
theorem dX10_nearest_159 : decode cX10_nearest 159 = .ok (.ireturn, 1) := by decide +kernel
theorem dX10_led_0 : decode cX10_led 0 = .ok (.iload_n 1, 1) := by decide +kernel
theorem dX10_led_1 : decode cX10_led 1 = .ok (.invokestatic 100, 3) := by decide +kernel
theorem dX10_led_4 : decode cX10_led 4 = .ok (.ifCond .eq 10, 3) := by decide +kernel
theorem dX10_led_7 : decode cX10_led 7 = .ok (.iload_n 2, 1) := by decide +kernel
theorem dX10_led_8 : decode cX10_led 8 = .ok (.invokestatic 100, 3) := by decide +kernel
theorem dX10_led_11 : decode cX10_led 11 = .ok (.ifCond .ne 7, 3) := by decide +kernel
theorem dX10_led_14 : decode cX10_led 14 = .ok (.sipush (-1001), 3) := by decide +kernel
theorem dX10_led_17 : decode cX10_led 17 = .ok (.ireturn, 1) := by decide +kernel
theorem dX10_led_18 : decode cX10_led 18 = .ok (.aload_n 0, 1) := by decide +kernel
theorem dX10_led_19 : decode cX10_led 19 = .ok (.getfield 70, 3) := by decide +kernel
theorem dX10_led_22 : decode cX10_led 22 = .ok (.iconst 0, 1) := by decide +kernel
theorem dX10_led_23 : decode cX10_led 23 = .ok (.aload_n 0, 1) := by decide +kernel
theorem dX10_led_24 : decode cX10_led 24 = .ok (.getfield 58, 3) := by decide +kernel
theorem dX10_led_27 : decode cX10_led 27 = .ok (.invokevirtual 192, 3) := by decide +kernel
theorem dX10_led_30 : decode cX10_led 30 = .ok (.aload_n 0, 1) := by decide +kernel
theorem dX10_led_31 : decode cX10_led 31 = .ok (.getfield 34, 3) := by decide +kernel
theorem dX10_led_34 : decode cX10_led 34 = .ok (.iload_n 1, 1) := by decide +kernel
theorem dX10_led_35 : decode cX10_led 35 = .ok (.aaload, 1) := by decide +kernel
theorem dX10_led_36 : decode cX10_led 36 = .ok (.aload_n 0, 1) := by decide +kernel
theorem dX10_led_37 : decode cX10_led 37 = .ok (.getfield 70, 3) := by decide +kernel
theorem dX10_led_40 : decode cX10_led 40 = .ok (.iconst 0, 1) := by decide +kernel
theorem dX10_led_41 : decode cX10_led 41 = .ok (.iconst 0, 1) := by decide +kernel
theorem dX10_led_42 : decode cX10_led 42 = .ok (.invokevirtual 196, 3) := by decide +kernel
theorem dX10_led_45 : decode cX10_led 45 = .ok (.istore 4, 2) := by decide +kernel
theorem dX10_led_47 : decode cX10_led 47 = .ok (.iload 4, 2) := by decide +kernel
theorem dX10_led_49 : decode cX10_led 49 = .ok (.iconst (-1), 1) := by decide +kernel
theorem dX10_led_50 : decode cX10_led 50 = .ok (.if_icmp .eq 17, 3) := by decide +kernel
theorem dX10_led_53 : decode cX10_led 53 = .ok (.aload_n 0, 1) := by decide +kernel
theorem dX10_led_54 : decode cX10_led 54 = .ok (.getfield 34, 3) := by decide +kernel
theorem dX10_led_57 : decode cX10_led 57 = .ok (.iload_n 2, 1) := by decide +kernel
theorem dX10_led_58 : decode cX10_led 58 = .ok (.aaload, 1) := by decide +kernel
theorem dX10_led_59 : decode cX10_led 59 = .ok (.iload 4, 2) := by decide +kernel
theorem dX10_led_61 : decode cX10_led 61 = .ok (.invokevirtual 208, 3) := by decide +kernel
theorem dX10_led_64 : decode cX10_led 64 = .ok (.ifCond .ne 7, 3) := by decide +kernel
theorem dX10_led_67 : decode cX10_led 67 = .ok (.sipush (-1003), 3) := by decide +kernel
theorem dX10_led_70 : decode cX10_led 70 = .ok (.ireturn, 1) := by decide +kernel
theorem dX10_led_71 : decode cX10_led 71 = .ok (.aload_n 0, 1) := by decide +kernel
theorem dX10_led_72 : decode cX10_led 72 = .ok (.getfield 34, 3) := by decide +kernel
theorem dX10_led_75 : decode cX10_led 75 = .ok (.iload_n 2, 1) := by decide +kernel
theorem dX10_led_76 : decode cX10_led 76 = .ok (.aaload, 1) := by decide +kernel
theorem dX10_led_77 : decode cX10_led 77 = .ok (.iload 4, 2) := by decide +kernel
theorem dX10_led_79 : decode cX10_led 79 = .ok (.iload_n 3, 1) := by decide +kernel
theorem dX10_led_80 : decode cX10_led 80 = .ok (.invokevirtual 142, 3) := by decide +kernel
theorem dX10_led_83 : decode cX10_led 83 = .ok (.ireturn, 1) := by decide +kernel
theorem dX10_chain_0 : decode cX10_chain 0 = .ok (.iload_n 1, 1) := by decide +kernel
theorem dX10_chain_1 : decode cX10_chain 1 = .ok (.invokestatic 100, 3) := by decide +kernel
theorem dX10_chain_4 : decode cX10_chain 4 = .ok (.ifCond .eq 10, 3) := by decide +kernel
theorem dX10_chain_7 : decode cX10_chain 7 = .ok (.iload_n 2, 1) := by decide +kernel
theorem dX10_chain_8 : decode cX10_chain 8 = .ok (.invokestatic 139, 3) := by decide +kernel
theorem dX10_chain_11 : decode cX10_chain 11 = .ok (.ifCond .ne 7, 3) := by decide +kernel
theorem dX10_chain_14 : decode cX10_chain 14 = .ok (.sipush (-1001), 3) := by decide +kernel
theorem dX10_chain_17 : decode cX10_chain 17 = .ok (.ireturn, 1) := by decide +kernel
theorem dX10_chain_18 : decode cX10_chain 18 = .ok (.iload_n 3, 1) := by decide +kernel
theorem dX10_chain_19 : decode cX10_chain 19 = .ok (.ifCond .lt 8, 3) := by decide +kernel
theorem dX10_chain_22 : decode cX10_chain 22 = .ok (.iload_n 3, 1) := by decide +kernel
theorem dX10_chain_23 : decode cX10_chain 23 = .ok (.iconst 2, 1) := by decide +kernel
theorem dX10_chain_24 : decode cX10_chain 24 = .ok (.if_icmp .le 7, 3) := by decide +kernel
theorem dX10_chain_27 : decode cX10_chain 27 = .ok (.sipush (-1002), 3) := by decide +kernel
theorem dX10_chain_30 : decode cX10_chain 30 = .ok (.ireturn, 1) := by decide +kernel
theorem dX10_chain_31 : decode cX10_chain 31 = .ok (.aload_n 0, 1) := by decide +kernel
theorem dX10_chain_32 : decode cX10_chain 32 = .ok (.getfield 34, 3) := by decide +kernel
theorem dX10_chain_35 : decode cX10_chain 35 = .ok (.iload_n 1, 1) := by decide +kernel
theorem dX10_chain_36 : decode cX10_chain 36 = .ok (.aaload, 1) := by decide +kernel
theorem dX10_chain_37 : decode cX10_chain 37 = .ok (.astore 4, 2) := by decide +kernel
theorem dX10_chain_39 : decode cX10_chain 39 = .ok (.iconst 1, 1) := by decide +kernel
theorem dX10_chain_40 : decode cX10_chain 40 = .ok (.istore 5, 2) := by decide +kernel
theorem dX10_chain_42 : decode cX10_chain 42 = .ok (.iload_n 2, 1) := by decide +kernel
theorem dX10_chain_43 : decode cX10_chain 43 = .ok (.istore 6, 2) := by decide +kernel
theorem dX10_chain_45 : decode cX10_chain 45 = .ok (.iconst (-1), 1) := by decide +kernel
theorem dX10_chain_46 : decode cX10_chain 46 = .ok (.istore 7, 2) := by decide +kernel
theorem dX10_chain_48 : decode cX10_chain 48 = .ok (.lconst 0, 1) := by decide +kernel
theorem dX10_chain_49 : decode cX10_chain 49 = .ok (.lstore 8, 2) := by decide +kernel
theorem dX10_chain_51 : decode cX10_chain 51 = .ok (.iconst 0, 1) := by decide +kernel
theorem dX10_chain_52 : decode cX10_chain 52 = .ok (.istore 10, 2) := by decide +kernel
theorem dX10_chain_54 : decode cX10_chain 54 = .ok (.iload 10, 2) := by decide +kernel
theorem dX10_chain_56 : decode cX10_chain 56 = .ok (.bipush 61, 2) := by decide +kernel
theorem dX10_chain_58 : decode cX10_chain 58 = .ok (.if_icmp .gt 75, 3) := by decide +kernel
theorem dX10_chain_61 : decode cX10_chain 61 = .ok (.aload 4, 2) := by decide +kernel
theorem dX10_chain_63 : decode cX10_chain 63 = .ok (.iload 6, 2) := by decide +kernel
theorem dX10_chain_65 : decode cX10_chain 65 = .ok (.invokevirtual 208, 3) := by decide +kernel
theorem dX10_chain_68 : decode cX10_chain 68 = .ok (.ifCond .eq 65, 3) := by decide +kernel
theorem dX10_chain_71 : decode cX10_chain 71 = .ok (.iload 7, 2) := by decide +kernel
theorem dX10_chain_73 : decode cX10_chain 73 = .ok (.iconst (-1), 1) := by decide +kernel
theorem dX10_chain_74 : decode cX10_chain 74 = .ok (.if_icmp .ne 59, 3) := by decide +kernel
theorem dX10_chain_77 : decode cX10_chain 77 = .ok (.aload 4, 2) := by decide +kernel
theorem dX10_chain_79 : decode cX10_chain 79 = .ok (.iload 6, 2) := by decide +kernel
theorem dX10_chain_81 : decode cX10_chain 81 = .ok (.invokevirtual 146, 3) := by decide +kernel
theorem dX10_chain_84 : decode cX10_chain 84 = .ok (.istore 11, 2) := by decide +kernel
theorem dX10_chain_86 : decode cX10_chain 86 = .ok (.iload 11, 2) := by decide +kernel
theorem dX10_chain_88 : decode cX10_chain 88 = .ok (.iload_n 2, 1) := by decide +kernel
theorem dX10_chain_89 : decode cX10_chain 89 = .ok (.if_icmp .eq 15, 3) := by decide +kernel
theorem dX10_chain_92 : decode cX10_chain 92 = .ok (.lload 8, 2) := by decide +kernel
theorem dX10_chain_94 : decode cX10_chain 94 = .ok (.iload 11, 2) := by decide +kernel
theorem dX10_chain_96 : decode cX10_chain 96 = .ok (.lshr, 1) := by decide +kernel
theorem dX10_chain_97 : decode cX10_chain 97 = .ok (.lconst 1, 1) := by decide +kernel
theorem dX10_chain_98 : decode cX10_chain 98 = .ok (.land, 1) := by decide +kernel
theorem dX10_chain_99 : decode cX10_chain 99 = .ok (.lconst 0, 1) := by decide +kernel
theorem dX10_chain_100 : decode cX10_chain 100 = .ok (.lcmp, 1) := by decide +kernel
theorem dX10_chain_101 : decode cX10_chain 101 = .ok (.ifCond .eq 10, 3) := by decide +kernel
theorem dX10_chain_104 : decode cX10_chain 104 = .ok (.iload 11, 2) := by decide +kernel
theorem dX10_chain_106 : decode cX10_chain 106 = .ok (.istore 7, 2) := by decide +kernel
theorem dX10_chain_108 : decode cX10_chain 108 = .ok (.goto 19, 3) := by decide +kernel
theorem dX10_chain_111 : decode cX10_chain 111 = .ok (.lload 8, 2) := by decide +kernel
theorem dX10_chain_113 : decode cX10_chain 113 = .ok (.lconst 1, 1) := by decide +kernel
theorem dX10_chain_114 : decode cX10_chain 114 = .ok (.iload 11, 2) := by decide +kernel
theorem dX10_chain_116 : decode cX10_chain 116 = .ok (.lshl, 1) := by decide +kernel
theorem dX10_chain_117 : decode cX10_chain 117 = .ok (.lor, 1) := by decide +kernel
theorem dX10_chain_118 : decode cX10_chain 118 = .ok (.lstore 8, 2) := by decide +kernel
theorem dX10_chain_120 : decode cX10_chain 120 = .ok (.iload 11, 2) := by decide +kernel
theorem dX10_chain_122 : decode cX10_chain 122 = .ok (.istore 6, 2) := by decide +kernel
theorem dX10_chain_124 : decode cX10_chain 124 = .ok (.iinc 5 1, 3) := by decide +kernel
theorem dX10_chain_127 : decode cX10_chain 127 = .ok (.iinc 10 1, 3) := by decide +kernel
theorem dX10_chain_130 : decode cX10_chain 130 = .ok (.goto (-76), 3) := by decide +kernel
theorem dX10_chain_133 : decode cX10_chain 133 = .ok (.iload_n 3, 1) := by decide +kernel
theorem dX10_chain_134 : decode cX10_chain 134 = .ok (.ifCond .ne 6, 3) := by decide +kernel
theorem dX10_chain_137 : decode cX10_chain 137 = .ok (.iload 5, 2) := by decide +kernel
theorem dX10_chain_139 : decode cX10_chain 139 = .ok (.ireturn, 1) := by decide +kernel
theorem dX10_chain_140 : decode cX10_chain 140 = .ok (.iload_n 3, 1) := by decide +kernel
theorem dX10_chain_141 : decode cX10_chain 141 = .ok (.iconst 1, 1) := by decide +kernel
theorem dX10_chain_142 : decode cX10_chain 142 = .ok (.if_icmp .ne 8, 3) := by decide +kernel
theorem dX10_chain_145 : decode cX10_chain 145 = .ok (.iload 6, 2) := by decide +kernel
theorem dX10_chain_147 : decode cX10_chain 147 = .ok (.goto 5, 3) := by decide +kernel
theorem dX10_chain_150 : decode cX10_chain 150 = .ok (.iload 7, 2) := by decide +kernel
theorem dX10_chain_152 : decode cX10_chain 152 = .ok (.ireturn, 1) := by decide +kernel
theorem dX10_honest_0 : decode cX10_honest 0 = .ok (.iload_n 1, 1) := by decide +kernel
theorem dX10_honest_1 : decode cX10_honest 1 = .ok (.invokestatic 100, 3) := by decide +kernel
theorem dX10_honest_4 : decode cX10_honest 4 = .ok (.ifCond .ne 7, 3) := by decide +kernel
theorem dX10_honest_7 : decode cX10_honest 7 = .ok (.sipush (-1001), 3) := by decide +kernel
theorem dX10_honest_10 : decode cX10_honest 10 = .ok (.ireturn, 1) := by decide +kernel
theorem dX10_honest_11 : decode cX10_honest 11 = .ok (.aload_n 0, 1) := by decide +kernel
theorem dX10_honest_12 : decode cX10_honest 12 = .ok (.getfield 34, 3) := by decide +kernel
theorem dX10_honest_15 : decode cX10_honest 15 = .ok (.iload_n 1, 1) := by decide +kernel
theorem dX10_honest_16 : decode cX10_honest 16 = .ok (.aaload, 1) := by decide +kernel
theorem dX10_honest_17 : decode cX10_honest 17 = .ok (.iload_n 2, 1) := by decide +kernel
theorem dX10_honest_18 : decode cX10_honest 18 = .ok (.invokevirtual 219, 3) := by decide +kernel
theorem dX10_honest_21 : decode cX10_honest 21 = .ok (.ireturn, 1) := by decide +kernel
theorem dX10_far_0 : decode cX10_far 0 = .ok (.iload_n 1, 1) := by decide +kernel
theorem dX10_far_1 : decode cX10_far 1 = .ok (.invokestatic 100, 3) := by decide +kernel
theorem dX10_far_4 : decode cX10_far 4 = .ok (.ifCond .eq 17, 3) := by decide +kernel
theorem dX10_far_7 : decode cX10_far 7 = .ok (.iload_n 2, 1) := by decide +kernel
theorem dX10_far_8 : decode cX10_far 8 = .ok (.invokestatic 139, 3) := by decide +kernel
theorem dX10_far_11 : decode cX10_far 11 = .ok (.ifCond .eq 10, 3) := by decide +kernel
theorem dX10_far_14 : decode cX10_far 14 = .ok (.iload_n 3, 1) := by decide +kernel
theorem dX10_far_15 : decode cX10_far 15 = .ok (.invokestatic 139, 3) := by decide +kernel
theorem dX10_far_18 : decode cX10_far 18 = .ok (.ifCond .ne 7, 3) := by decide +kernel
theorem dX10_far_21 : decode cX10_far 21 = .ok (.sipush (-1001), 3) := by decide +kernel
theorem dX10_far_24 : decode cX10_far 24 = .ok (.ireturn, 1) := by decide +kernel
theorem dX10_far_25 : decode cX10_far 25 = .ok (.aload_n 0, 1) := by decide +kernel
theorem dX10_far_26 : decode cX10_far 26 = .ok (.getfield 34, 3) := by decide +kernel
theorem dX10_far_29 : decode cX10_far 29 = .ok (.iload_n 1, 1) := by decide +kernel
theorem dX10_far_30 : decode cX10_far 30 = .ok (.aaload, 1) := by decide +kernel
theorem dX10_far_31 : decode cX10_far 31 = .ok (.astore 4, 2) := by decide +kernel
theorem dX10_far_33 : decode cX10_far 33 = .ok (.aload 4, 2) := by decide +kernel
theorem dX10_far_35 : decode cX10_far 35 = .ok (.iload_n 2, 1) := by decide +kernel
theorem dX10_far_36 : decode cX10_far 36 = .ok (.invokevirtual 208, 3) := by decide +kernel
theorem dX10_far_39 : decode cX10_far 39 = .ok (.ifCond .eq 12, 3) := by decide +kernel
theorem dX10_far_42 : decode cX10_far 42 = .ok (.aload 4, 2) := by decide +kernel
theorem dX10_far_44 : decode cX10_far 44 = .ok (.iload_n 3, 1) := by decide +kernel
theorem dX10_far_45 : decode cX10_far 45 = .ok (.invokevirtual 208, 3) := by decide +kernel
theorem dX10_far_48 : decode cX10_far 48 = .ok (.ifCond .ne 5, 3) := by decide +kernel
theorem dX10_far_51 : decode cX10_far 51 = .ok (.iconst (-1), 1) := by decide +kernel
theorem dX10_far_52 : decode cX10_far 52 = .ok (.ireturn, 1) := by decide +kernel
theorem dX10_far_53 : decode cX10_far 53 = .ok (.aload 4, 2) := by decide +kernel
theorem dX10_far_55 : decode cX10_far 55 = .ok (.aload_n 0, 1) := by decide +kernel
theorem dX10_far_56 : decode cX10_far 56 = .ok (.getfield 77, 3) := by decide +kernel
theorem dX10_far_59 : decode cX10_far 59 = .ok (.iload_n 2, 1) := by decide +kernel
theorem dX10_far_60 : decode cX10_far 60 = .ok (.invokevirtual 222, 3) := by decide +kernel
theorem dX10_far_63 : decode cX10_far 63 = .ok (.aload 4, 2) := by decide +kernel
theorem dX10_far_65 : decode cX10_far 65 = .ok (.aload_n 0, 1) := by decide +kernel
theorem dX10_far_66 : decode cX10_far 66 = .ok (.getfield 77, 3) := by decide +kernel
theorem dX10_far_69 : decode cX10_far 69 = .ok (.iload_n 3, 1) := by decide +kernel
theorem dX10_far_70 : decode cX10_far 70 = .ok (.invokevirtual 215, 3) := by decide +kernel
theorem dX10_far_73 : decode cX10_far 73 = .ok (.ireturn, 1) := by decide +kernel
theorem dX10_mixed_0 : decode cX10_mixed 0 = .ok (.iload_n 1, 1) := by decide +kernel
theorem dX10_mixed_1 : decode cX10_mixed 1 = .ok (.invokestatic 100, 3) := by decide +kernel
theorem dX10_mixed_4 : decode cX10_mixed 4 = .ok (.ifCond .eq 18, 3) := by decide +kernel
theorem dX10_mixed_7 : decode cX10_mixed 7 = .ok (.iload_n 3, 1) := by decide +kernel
theorem dX10_mixed_8 : decode cX10_mixed 8 = .ok (.invokestatic 139, 3) := by decide +kernel
theorem dX10_mixed_11 : decode cX10_mixed 11 = .ok (.ifCond .eq 11, 3) := by decide +kernel
theorem dX10_mixed_14 : decode cX10_mixed 14 = .ok (.iload 4, 2) := by decide +kernel
theorem dX10_mixed_16 : decode cX10_mixed 16 = .ok (.invokestatic 139, 3) := by decide +kernel
theorem dX10_mixed_19 : decode cX10_mixed 19 = .ok (.ifCond .ne 7, 3) := by decide +kernel
theorem dX10_mixed_22 : decode cX10_mixed 22 = .ok (.sipush (-1001), 3) := by decide +kernel
theorem dX10_mixed_25 : decode cX10_mixed 25 = .ok (.ireturn, 1) := by decide +kernel
theorem dX10_mixed_26 : decode cX10_mixed 26 = .ok (.iload_n 2, 1) := by decide +kernel
theorem dX10_mixed_27 : decode cX10_mixed 27 = .ok (.ifCond .lt 24, 3) := by decide +kernel
theorem dX10_mixed_30 : decode cX10_mixed 30 = .ok (.iload_n 2, 1) := by decide +kernel
theorem dX10_mixed_31 : decode cX10_mixed 31 = .ok (.bipush 9, 2) := by decide +kernel
theorem dX10_mixed_33 : decode cX10_mixed 33 = .ok (.if_icmp .gt 18, 3) := by decide +kernel
theorem dX10_mixed_36 : decode cX10_mixed 36 = .ok (.iload 4, 2) := by decide +kernel
theorem dX10_mixed_38 : decode cX10_mixed 38 = .ok (.iload_n 3, 1) := by decide +kernel
theorem dX10_mixed_39 : decode cX10_mixed 39 = .ok (.if_icmp .lt 12, 3) := by decide +kernel
theorem dX10_mixed_42 : decode cX10_mixed 42 = .ok (.iload 4, 2) := by decide +kernel
theorem dX10_mixed_44 : decode cX10_mixed 44 = .ok (.iload_n 3, 1) := by decide +kernel
theorem dX10_mixed_45 : decode cX10_mixed 45 = .ok (.isub, 1) := by decide +kernel
theorem dX10_mixed_46 : decode cX10_mixed 46 = .ok (.bipush 60, 2) := by decide +kernel
theorem dX10_mixed_48 : decode cX10_mixed 48 = .ok (.if_icmp .le 7, 3) := by decide +kernel
theorem dX10_mixed_51 : decode cX10_mixed 51 = .ok (.sipush (-1002), 3) := by decide +kernel
theorem dX10_mixed_54 : decode cX10_mixed 54 = .ok (.ireturn, 1) := by decide +kernel
theorem dX10_mixed_55 : decode cX10_mixed 55 = .ok (.iconst 0, 1) := by decide +kernel
theorem dX10_mixed_56 : decode cX10_mixed 56 = .ok (.istore 5, 2) := by decide +kernel
theorem dX10_mixed_58 : decode cX10_mixed 58 = .ok (.iload_n 3, 1) := by decide +kernel
theorem dX10_mixed_59 : decode cX10_mixed 59 = .ok (.istore 6, 2) := by decide +kernel
theorem dX10_mixed_61 : decode cX10_mixed 61 = .ok (.iload 6, 2) := by decide +kernel
theorem dX10_mixed_63 : decode cX10_mixed 63 = .ok (.iload 4, 2) := by decide +kernel
theorem dX10_mixed_65 : decode cX10_mixed 65 = .ok (.if_icmp .ge 29, 3) := by decide +kernel
theorem dX10_mixed_68 : decode cX10_mixed 68 = .ok (.iload 5, 2) := by decide +kernel
theorem dX10_mixed_70 : decode cX10_mixed 70 = .ok (.aload_n 0, 1) := by decide +kernel
theorem dX10_mixed_71 : decode cX10_mixed 71 = .ok (.aload_n 0, 1) := by decide +kernel
theorem dX10_mixed_72 : decode cX10_mixed 72 = .ok (.getfield 34, 3) := by decide +kernel
theorem dX10_mixed_75 : decode cX10_mixed 75 = .ok (.iload_n 1, 1) := by decide +kernel
theorem dX10_mixed_76 : decode cX10_mixed 76 = .ok (.aaload, 1) := by decide +kernel
theorem dX10_mixed_77 : decode cX10_mixed 77 = .ok (.iload_n 2, 1) := by decide +kernel
theorem dX10_mixed_78 : decode cX10_mixed 78 = .ok (.iload 6, 2) := by decide +kernel
theorem dX10_mixed_80 : decode cX10_mixed 80 = .ok (.iload 4, 2) := by decide +kernel
theorem dX10_mixed_82 : decode cX10_mixed 82 = .ok (.invokevirtual 226, 3) := by decide +kernel
theorem dX10_mixed_85 : decode cX10_mixed 85 = .ok (.iadd, 1) := by decide +kernel
theorem dX10_mixed_86 : decode cX10_mixed 86 = .ok (.istore 5, 2) := by decide +kernel
theorem dX10_mixed_88 : decode cX10_mixed 88 = .ok (.iinc 6 1, 3) := by decide +kernel
theorem dX10_mixed_91 : decode cX10_mixed 91 = .ok (.goto (-30), 3) := by decide +kernel
theorem dX10_mixed_94 : decode cX10_mixed 94 = .ok (.iload 5, 2) := by decide +kernel
theorem dX10_mixed_96 : decode cX10_mixed 96 = .ok (.ireturn, 1) := by decide +kernel
theorem dX10_square_0 : decode cX10_square 0 = .ok (.iload_n 1, 1) := by decide +kernel
theorem dX10_square_1 : decode cX10_square 1 = .ok (.invokestatic 100, 3) := by decide +kernel
theorem dX10_square_4 : decode cX10_square 4 = .ok (.ifCond .ne 7, 3) := by decide +kernel
theorem dX10_square_7 : decode cX10_square 7 = .ok (.sipush (-1001), 3) := by decide +kernel
theorem dX10_square_10 : decode cX10_square 10 = .ok (.ireturn, 1) := by decide +kernel
theorem dX10_square_11 : decode cX10_square 11 = .ok (.iload_n 2, 1) := by decide +kernel
theorem dX10_square_12 : decode cX10_square 12 = .ok (.invokestatic 139, 3) := by decide +kernel
theorem dX10_square_15 : decode cX10_square 15 = .ok (.ifCond .eq 28, 3) := by decide +kernel
theorem dX10_square_18 : decode cX10_square 18 = .ok (.iload_n 3, 1) := by decide +kernel
theorem dX10_square_19 : decode cX10_square 19 = .ok (.i2l, 1) := by decide +kernel
theorem dX10_square_20 : decode cX10_square 20 = .ok (.invokestatic 230, 3) := by decide +kernel
theorem dX10_square_23 : decode cX10_square 23 = .ok (.ldc2_w 233, 3) := by decide +kernel
theorem dX10_square_26 : decode cX10_square 26 = .ok (.lcmp, 1) := by decide +kernel
theorem dX10_square_27 : decode cX10_square 27 = .ok (.ifCond .ge 16, 3) := by decide +kernel
theorem dX10_square_30 : decode cX10_square 30 = .ok (.iload 4, 2) := by decide +kernel
theorem dX10_square_32 : decode cX10_square 32 = .ok (.i2l, 1) := by decide +kernel
theorem dX10_square_33 : decode cX10_square 33 = .ok (.invokestatic 230, 3) := by decide +kernel
theorem dX10_square_36 : decode cX10_square 36 = .ok (.ldc2_w 233, 3) := by decide +kernel
theorem dX10_square_39 : decode cX10_square 39 = .ok (.lcmp, 1) := by decide +kernel
theorem dX10_square_40 : decode cX10_square 40 = .ok (.ifCond .lt 7, 3) := by decide +kernel
theorem dX10_square_43 : decode cX10_square 43 = .ok (.sipush (-1002), 3) := by decide +kernel
theorem dX10_square_46 : decode cX10_square 46 = .ok (.ireturn, 1) := by decide +kernel
theorem dX10_square_47 : decode cX10_square 47 = .ok (.aload_n 0, 1) := by decide +kernel
theorem dX10_square_48 : decode cX10_square 48 = .ok (.getfield 84, 3) := by decide +kernel
theorem dX10_square_51 : decode cX10_square 51 = .ok (.iload_n 2, 1) := by decide +kernel
theorem dX10_square_52 : decode cX10_square 52 = .ok (.iload_n 3, 1) := by decide +kernel
theorem dX10_square_53 : decode cX10_square 53 = .ok (.iload 4, 2) := by decide +kernel
theorem dX10_square_55 : decode cX10_square 55 = .ok (.invokevirtual 235, 3) := by decide +kernel
theorem dX10_square_58 : decode cX10_square 58 = .ok (.ifCond .ne 5, 3) := by decide +kernel
theorem dX10_square_61 : decode cX10_square 61 = .ok (.iconst (-1), 1) := by decide +kernel
theorem dX10_square_62 : decode cX10_square 62 = .ok (.ireturn, 1) := by decide +kernel
theorem dX10_square_63 : decode cX10_square 63 = .ok (.aload_n 0, 1) := by decide +kernel
theorem dX10_square_64 : decode cX10_square 64 = .ok (.getfield 84, 3) := by decide +kernel
theorem dX10_square_67 : decode cX10_square 67 = .ok (.aload_n 0, 1) := by decide +kernel
theorem dX10_square_68 : decode cX10_square 68 = .ok (.getfield 34, 3) := by decide +kernel
theorem dX10_square_71 : decode cX10_square 71 = .ok (.iload_n 1, 1) := by decide +kernel
theorem dX10_square_72 : decode cX10_square 72 = .ok (.aaload, 1) := by decide +kernel
theorem dX10_square_73 : decode cX10_square 73 = .ok (.invokevirtual 239, 3) := by decide +kernel
theorem dX10_square_76 : decode cX10_square 76 = .ok (.ifCond .eq 7, 3) := by decide +kernel
theorem dX10_square_79 : decode cX10_square 79 = .ok (.iconst 1, 1) := by decide +kernel
theorem dX10_square_80 : decode cX10_square 80 = .ok (.goto 4, 3) := by decide +kernel
theorem dX10_square_83 : decode cX10_square 83 = .ok (.iconst 0, 1) := by decide +kernel
theorem dX10_square_84 : decode cX10_square 84 = .ok (.ireturn, 1) := by decide +kernel
theorem dX10_squares_0 : decode cX10_squares 0 = .ok (.iload_n 1, 1) := by decide +kernel
theorem dX10_squares_1 : decode cX10_squares 1 = .ok (.invokestatic 100, 3) := by decide +kernel
theorem dX10_squares_4 : decode cX10_squares 4 = .ok (.ifCond .eq 10, 3) := by decide +kernel
theorem dX10_squares_7 : decode cX10_squares 7 = .ok (.iload_n 2, 1) := by decide +kernel
theorem dX10_squares_8 : decode cX10_squares 8 = .ok (.invokestatic 139, 3) := by decide +kernel
theorem dX10_squares_11 : decode cX10_squares 11 = .ok (.ifCond .ne 7, 3) := by decide +kernel
theorem dX10_squares_14 : decode cX10_squares 14 = .ok (.sipush (-1001), 3) := by decide +kernel
theorem dX10_squares_17 : decode cX10_squares 17 = .ok (.ireturn, 1) := by decide +kernel
theorem dX10_squares_18 : decode cX10_squares 18 = .ok (.iconst 1, 1) := by decide +kernel
theorem dX10_squares_19 : decode cX10_squares 19 = .ok (.istore_n 3, 1) := by decide +kernel
theorem dX10_squares_20 : decode cX10_squares 20 = .ok (.iload_n 3, 1) := by decide +kernel
theorem dX10_squares_21 : decode cX10_squares 21 = .ok (.bipush 60, 2) := by decide +kernel
theorem dX10_squares_23 : decode cX10_squares 23 = .ok (.if_icmp .gt 73, 3) := by decide +kernel
theorem dX10_squares_26 : decode cX10_squares 26 = .ok (.iconst 1, 1) := by decide +kernel
theorem dX10_squares_27 : decode cX10_squares 27 = .ok (.istore 4, 2) := by decide +kernel
theorem dX10_squares_29 : decode cX10_squares 29 = .ok (.iload 4, 2) := by decide +kernel
theorem dX10_squares_31 : decode cX10_squares 31 = .ok (.bipush 60, 2) := by decide +kernel
theorem dX10_squares_33 : decode cX10_squares 33 = .ok (.if_icmp .gt 57, 3) := by decide +kernel
theorem dX10_squares_36 : decode cX10_squares 36 = .ok (.aload_n 0, 1) := by decide +kernel
theorem dX10_squares_37 : decode cX10_squares 37 = .ok (.getfield 84, 3) := by decide +kernel
theorem dX10_squares_40 : decode cX10_squares 40 = .ok (.iload_n 2, 1) := by decide +kernel
theorem dX10_squares_41 : decode cX10_squares 41 = .ok (.iload_n 3, 1) := by decide +kernel
theorem dX10_squares_42 : decode cX10_squares 42 = .ok (.iload 4, 2) := by decide +kernel
theorem dX10_squares_44 : decode cX10_squares 44 = .ok (.invokevirtual 235, 3) := by decide +kernel
theorem dX10_squares_47 : decode cX10_squares 47 = .ok (.ifCond .eq 37, 3) := by decide +kernel
theorem dX10_squares_50 : decode cX10_squares 50 = .ok (.aload_n 0, 1) := by decide +kernel
theorem dX10_squares_51 : decode cX10_squares 51 = .ok (.getfield 84, 3) := by decide +kernel
theorem dX10_squares_54 : decode cX10_squares 54 = .ok (.aload_n 0, 1) := by decide +kernel
theorem dX10_squares_55 : decode cX10_squares 55 = .ok (.getfield 34, 3) := by decide +kernel
theorem dX10_squares_58 : decode cX10_squares 58 = .ok (.iload_n 1, 1) := by decide +kernel
theorem dX10_squares_59 : decode cX10_squares 59 = .ok (.aaload, 1) := by decide +kernel
theorem dX10_squares_60 : decode cX10_squares 60 = .ok (.invokevirtual 239, 3) := by decide +kernel
theorem dX10_squares_63 : decode cX10_squares 63 = .ok (.ifCond .eq 21, 3) := by decide +kernel
theorem dX10_squares_66 : decode cX10_squares 66 = .ok (.aload_n 0, 1) := by decide +kernel
theorem dX10_squares_67 : decode cX10_squares 67 = .ok (.getfield 84, 3) := by decide +kernel
theorem dX10_squares_70 : decode cX10_squares 70 = .ok (.invokevirtual 243, 3) := by decide +kernel
theorem dX10_squares_73 : decode cX10_squares 73 = .ok (.ifCond .eq 11, 3) := by decide +kernel
theorem dX10_squares_76 : decode cX10_squares 76 = .ok (.iload_n 3, 1) := by decide +kernel
theorem dX10_squares_77 : decode cX10_squares 77 = .ok (.bipush 100, 2) := by decide +kernel
theorem dX10_squares_79 : decode cX10_squares 79 = .ok (.imul, 1) := by decide +kernel
theorem dX10_squares_80 : decode cX10_squares 80 = .ok (.iload 4, 2) := by decide +kernel
theorem dX10_squares_82 : decode cX10_squares 82 = .ok (.iadd, 1) := by decide +kernel
theorem dX10_squares_83 : decode cX10_squares 83 = .ok (.ireturn, 1) := by decide +kernel
theorem dX10_squares_84 : decode cX10_squares 84 = .ok (.iinc 4 1, 3) := by decide +kernel
theorem dX10_squares_87 : decode cX10_squares 87 = .ok (.goto (-58), 3) := by decide +kernel
theorem dX10_squares_90 : decode cX10_squares 90 = .ok (.iinc 3 1, 3) := by decide +kernel
theorem dX10_squares_93 : decode cX10_squares 93 = .ok (.goto (-73), 3) := by decide +kernel
theorem dX10_squares_96 : decode cX10_squares 96 = .ok (.iconst (-1), 1) := by decide +kernel
theorem dX10_squares_97 : decode cX10_squares 97 = .ok (.ireturn, 1) := by decide +kernel
theorem dX10_mixedWith_0 : decode cX10_mixedWith 0 = .ok (.aload_n 1, 1) := by decide +kernel
theorem dX10_mixedWith_1 : decode cX10_mixedWith 1 = .ok (.iload_n 3, 1) := by decide +kernel
theorem dX10_mixedWith_2 : decode cX10_mixedWith 2 = .ok (.invokevirtual 208, 3) := by decide +kernel
theorem dX10_mixedWith_5 : decode cX10_mixedWith 5 = .ok (.ifCond .ne 5, 3) := by decide +kernel
theorem dX10_mixedWith_8 : decode cX10_mixedWith 8 = .ok (.iconst 0, 1) := by decide +kernel
theorem dX10_mixedWith_9 : decode cX10_mixedWith 9 = .ok (.ireturn, 1) := by decide +kernel
theorem dX10_mixedWith_10 : decode cX10_mixedWith 10 = .ok (.aload_n 1, 1) := by decide +kernel
theorem dX10_mixedWith_11 : decode cX10_mixedWith 11 = .ok (.aload_n 0, 1) := by decide +kernel
theorem dX10_mixedWith_12 : decode cX10_mixedWith 12 = .ok (.getfield 77, 3) := by decide +kernel
theorem dX10_mixedWith_15 : decode cX10_mixedWith 15 = .ok (.iload_n 3, 1) := by decide +kernel
theorem dX10_mixedWith_16 : decode cX10_mixedWith 16 = .ok (.invokevirtual 222, 3) := by decide +kernel
theorem dX10_mixedWith_19 : decode cX10_mixedWith 19 = .ok (.iconst 0, 1) := by decide +kernel
theorem dX10_mixedWith_20 : decode cX10_mixedWith 20 = .ok (.istore 5, 2) := by decide +kernel
theorem dX10_mixedWith_22 : decode cX10_mixedWith 22 = .ok (.iload_n 3, 1) := by decide +kernel
theorem dX10_mixedWith_23 : decode cX10_mixedWith 23 = .ok (.iconst 1, 1) := by decide +kernel
theorem dX10_mixedWith_24 : decode cX10_mixedWith 24 = .ok (.iadd, 1) := by decide +kernel
theorem dX10_mixedWith_25 : decode cX10_mixedWith 25 = .ok (.istore 6, 2) := by decide +kernel
theorem dX10_mixedWith_27 : decode cX10_mixedWith 27 = .ok (.iload 6, 2) := by decide +kernel
theorem dX10_mixedWith_29 : decode cX10_mixedWith 29 = .ok (.iload 4, 2) := by decide +kernel
theorem dX10_mixedWith_31 : decode cX10_mixedWith 31 = .ok (.if_icmp .gt 35, 3) := by decide +kernel
theorem dX10_mixedWith_34 : decode cX10_mixedWith 34 = .ok (.aload_n 1, 1) := by decide +kernel
theorem dX10_mixedWith_35 : decode cX10_mixedWith 35 = .ok (.iload 6, 2) := by decide +kernel
theorem dX10_mixedWith_37 : decode cX10_mixedWith 37 = .ok (.invokevirtual 208, 3) := by decide +kernel
theorem dX10_mixedWith_40 : decode cX10_mixedWith 40 = .ok (.ifCond .eq 20, 3) := by decide +kernel
theorem dX10_mixedWith_43 : decode cX10_mixedWith 43 = .ok (.aload_n 1, 1) := by decide +kernel
theorem dX10_mixedWith_44 : decode cX10_mixedWith 44 = .ok (.aload_n 0, 1) := by decide +kernel
theorem dX10_mixedWith_45 : decode cX10_mixedWith 45 = .ok (.getfield 77, 3) := by decide +kernel
theorem dX10_mixedWith_48 : decode cX10_mixedWith 48 = .ok (.iload 6, 2) := by decide +kernel
theorem dX10_mixedWith_50 : decode cX10_mixedWith 50 = .ok (.invokevirtual 215, 3) := by decide +kernel
theorem dX10_mixedWith_53 : decode cX10_mixedWith 53 = .ok (.iload_n 2, 1) := by decide +kernel
theorem dX10_mixedWith_54 : decode cX10_mixedWith 54 = .ok (.if_icmp .gt 6, 3) := by decide +kernel
theorem dX10_mixedWith_57 : decode cX10_mixedWith 57 = .ok (.iinc 5 1, 3) := by decide +kernel
theorem dX10_mixedWith_60 : decode cX10_mixedWith 60 = .ok (.iinc 6 1, 3) := by decide +kernel
theorem dX10_mixedWith_63 : decode cX10_mixedWith 63 = .ok (.goto (-36), 3) := by decide +kernel
theorem dX10_mixedWith_66 : decode cX10_mixedWith 66 = .ok (.iload 5, 2) := by decide +kernel
theorem dX10_mixedWith_68 : decode cX10_mixedWith 68 = .ok (.ireturn, 1) := by decide +kernel
theorem dX10_isTongue_0 : decode cX10_isTongue 0 = .ok (.iload_n 0, 1) := by decide +kernel
theorem dX10_isTongue_1 : decode cX10_isTongue 1 = .ok (.ifCond .lt 12, 3) := by decide +kernel
theorem dX10_isTongue_4 : decode cX10_isTongue 4 = .ok (.iload_n 0, 1) := by decide +kernel
theorem dX10_isTongue_5 : decode cX10_isTongue 5 = .ok (.iconst 3, 1) := by decide +kernel
theorem dX10_isTongue_6 : decode cX10_isTongue 6 = .ok (.if_icmp .ge 7, 3) := by decide +kernel
theorem dX10_isTongue_9 : decode cX10_isTongue 9 = .ok (.iconst 1, 1) := by decide +kernel
theorem dX10_isTongue_10 : decode cX10_isTongue 10 = .ok (.goto 4, 3) := by decide +kernel
theorem dX10_isTongue_13 : decode cX10_isTongue 13 = .ok (.iconst 0, 1) := by decide +kernel
theorem dX10_isTongue_14 : decode cX10_isTongue 14 = .ok (.ireturn, 1) := by decide +kernel
theorem dX10_isNumber_0 : decode cX10_isNumber 0 = .ok (.iload_n 0, 1) := by decide +kernel
theorem dX10_isNumber_1 : decode cX10_isNumber 1 = .ok (.ifCond .lt 14, 3) := by decide +kernel
theorem dX10_isNumber_4 : decode cX10_isNumber 4 = .ok (.iload_n 0, 1) := by decide +kernel
theorem dX10_isNumber_5 : decode cX10_isNumber 5 = .ok (.sipush 1000, 3) := by decide +kernel
theorem dX10_isNumber_8 : decode cX10_isNumber 8 = .ok (.if_icmp .ge 7, 3) := by decide +kernel
theorem dX10_isNumber_11 : decode cX10_isNumber 11 = .ok (.iconst 1, 1) := by decide +kernel
theorem dX10_isNumber_12 : decode cX10_isNumber 12 = .ok (.goto 4, 3) := by decide +kernel
theorem dX10_isNumber_15 : decode cX10_isNumber 15 = .ok (.iconst 0, 1) := by decide +kernel
theorem dX10_isNumber_16 : decode cX10_isNumber 16 = .ok (.ireturn, 1) := by decide +kernel
theorem dX10_isLetter_0 : decode cX10_isLetter 0 = .ok (.iload_n 0, 1) := by decide +kernel
theorem dX10_isLetter_1 : decode cX10_isLetter 1 = .ok (.ifCond .lt 13, 3) := by decide +kernel
theorem dX10_isLetter_4 : decode cX10_isLetter 4 = .ok (.iload_n 0, 1) := by decide +kernel
theorem dX10_isLetter_5 : decode cX10_isLetter 5 = .ok (.bipush 26, 2) := by decide +kernel
theorem dX10_isLetter_7 : decode cX10_isLetter 7 = .ok (.if_icmp .ge 7, 3) := by decide +kernel
theorem dX10_isLetter_10 : decode cX10_isLetter 10 = .ok (.iconst 1, 1) := by decide +kernel
theorem dX10_isLetter_11 : decode cX10_isLetter 11 = .ok (.goto 4, 3) := by decide +kernel
theorem dX10_isLetter_14 : decode cX10_isLetter 14 = .ok (.iconst 0, 1) := by decide +kernel
theorem dX10_isLetter_15 : decode cX10_isLetter 15 = .ok (.ireturn, 1) := by decide +kernel
theorem dX11_init_0 : decode cX11_init 0 = .ok (.aload_n 0, 1) := by decide +kernel
theorem dX11_init_1 : decode cX11_init 1 = .ok (.invokespecial 1, 3) := by decide +kernel
theorem dX11_init_4 : decode cX11_init 4 = .ok (.aload_n 0, 1) := by decide +kernel
theorem dX11_init_5 : decode cX11_init 5 = .ok (.iconst 3, 1) := by decide +kernel
theorem dX11_init_6 : decode cX11_init 6 = .ok (.newarray .int, 2) := by decide +kernel
theorem dX11_init_8 : decode cX11_init 8 = .ok (.putfield 7, 3) := by decide +kernel
theorem dX11_init_11 : decode cX11_init 11 = .ok (.aload_n 0, 1) := by decide +kernel
theorem dX11_init_12 : decode cX11_init 12 = .ok (.bipush 36, 2) := by decide +kernel
theorem dX11_init_14 : decode cX11_init 14 = .ok (.newarray .boolean, 2) := by decide +kernel
theorem dX11_init_16 : decode cX11_init 16 = .ok (.putfield 13, 3) := by decide +kernel
theorem dX11_init_19 : decode cX11_init 19 = .ok (.aload_n 0, 1) := by decide +kernel
theorem dX11_init_20 : decode cX11_init 20 = .ok (.bipush 36, 2) := by decide +kernel
theorem dX11_init_22 : decode cX11_init 22 = .ok (.newarray .int, 2) := by decide +kernel
theorem dX11_init_24 : decode cX11_init 24 = .ok (.putfield 17, 3) := by decide +kernel
theorem dX11_init_27 : decode cX11_init 27 = .ok (.aload_n 0, 1) := by decide +kernel
theorem dX11_init_28 : decode cX11_init 28 = .ok (.bipush 36, 2) := by decide +kernel
theorem dX11_init_30 : decode cX11_init 30 = .ok (.newarray .int, 2) := by decide +kernel
theorem dX11_init_32 : decode cX11_init 32 = .ok (.putfield 20, 3) := by decide +kernel
theorem dX11_init_35 : decode cX11_init 35 = .ok (.aload_n 0, 1) := by decide +kernel
theorem dX11_init_36 : decode cX11_init 36 = .ok (.bipush 36, 2) := by decide +kernel
theorem dX11_init_38 : decode cX11_init 38 = .ok (.newarray .int, 2) := by decide +kernel
theorem dX11_init_40 : decode cX11_init 40 = .ok (.putfield 23, 3) := by decide +kernel
theorem dX11_init_43 : decode cX11_init 43 = .ok (.aload_n 0, 1) := by decide +kernel
theorem dX11_init_44 : decode cX11_init 44 = .ok (.bipush 36, 2) := by decide +kernel
theorem dX11_init_46 : decode cX11_init 46 = .ok (.newarray .int, 2) := by decide +kernel
theorem dX11_init_48 : decode cX11_init 48 = .ok (.putfield 26, 3) := by decide +kernel
theorem dX11_init_51 : decode cX11_init 51 = .ok (.aload_n 0, 1) := by decide +kernel
theorem dX11_init_52 : decode cX11_init 52 = .ok (.sipush 288, 3) := by decide +kernel
theorem dX11_init_55 : decode cX11_init 55 = .ok (.newarray .int, 2) := by decide +kernel
theorem dX11_init_57 : decode cX11_init 57 = .ok (.putfield 29, 3) := by decide +kernel
theorem dX11_init_60 : decode cX11_init 60 = .ok (.aload_n 0, 1) := by decide +kernel
theorem dX11_init_61 : decode cX11_init 61 = .ok (.sipush 288, 3) := by decide +kernel
theorem dX11_init_64 : decode cX11_init 64 = .ok (.newarray .boolean, 2) := by decide +kernel
theorem dX11_init_66 : decode cX11_init 66 = .ok (.putfield 32, 3) := by decide +kernel
theorem dX11_init_69 : decode cX11_init 69 = .ok (.aload_n 0, 1) := by decide +kernel
theorem dX11_init_70 : decode cX11_init 70 = .ok (.sipush 288, 3) := by decide +kernel
theorem dX11_init_73 : decode cX11_init 73 = .ok (.newarray .int, 2) := by decide +kernel
theorem dX11_init_75 : decode cX11_init 75 = .ok (.putfield 35, 3) := by decide +kernel
theorem dX11_init_78 : decode cX11_init 78 = .ok (.aload_n 0, 1) := by decide +kernel
theorem dX11_init_79 : decode cX11_init 79 = .ok (.sipush 3456, 3) := by decide +kernel
theorem dX11_init_82 : decode cX11_init 82 = .ok (.newarray .int, 2) := by decide +kernel
theorem dX11_init_84 : decode cX11_init 84 = .ok (.putfield 38, 3) := by decide +kernel
theorem dX11_init_87 : decode cX11_init 87 = .ok (.aload_n 0, 1) := by decide +kernel
theorem dX11_init_88 : decode cX11_init 88 = .ok (.sipush 3000, 3) := by decide +kernel
theorem dX11_init_91 : decode cX11_init 91 = .ok (.newarray .int, 2) := by decide +kernel
theorem dX11_init_93 : decode cX11_init 93 = .ok (.putfield 41, 3) := by decide +kernel
theorem dX11_init_96 : decode cX11_init 96 = .ok (.aload_n 0, 1) := by decide +kernel
theorem dX11_init_97 : decode cX11_init 97 = .ok (.sipush 24000, 3) := by decide +kernel
theorem dX11_init_100 : decode cX11_init 100 = .ok (.newarray .long, 2) := by decide +kernel
theorem dX11_init_102 : decode cX11_init 102 = .ok (.putfield 44, 3) := by decide +kernel
theorem dX11_init_105 : decode cX11_init 105 = .ok (.aload_n 0, 1) := by decide +kernel
theorem dX11_init_106 : decode cX11_init 106 = .ok (.sipush 3000, 3) := by decide +kernel
theorem dX11_init_109 : decode cX11_init 109 = .ok (.newarray .int, 2) := by decide +kernel
theorem dX11_init_111 : decode cX11_init 111 = .ok (.putfield 48, 3) := by decide +kernel
theorem dX11_init_114 : decode cX11_init 114 = .ok (.aload_n 0, 1) := by decide +kernel
theorem dX11_init_115 : decode cX11_init 115 = .ok (.sipush 3000, 3) := by decide +kernel
theorem dX11_init_118 : decode cX11_init 118 = .ok (.newarray .int, 2) := by decide +kernel
theorem dX11_init_120 : decode cX11_init 120 = .ok (.putfield 51, 3) := by decide +kernel
theorem dX11_init_123 : decode cX11_init 123 = .ok (.aload_n 0, 1) := by decide +kernel
theorem dX11_init_124 : decode cX11_init 124 = .ok (.sipush 3000, 3) := by decide +kernel
theorem dX11_init_127 : decode cX11_init 127 = .ok (.newarray .int, 2) := by decide +kernel
theorem dX11_init_129 : decode cX11_init 129 = .ok (.putfield 54, 3) := by decide +kernel
theorem dX11_init_132 : decode cX11_init 132 = .ok (.aload_n 0, 1) := by decide +kernel
theorem dX11_init_133 : decode cX11_init 133 = .ok (.sipush 240, 3) := by decide +kernel
theorem dX11_init_136 : decode cX11_init 136 = .ok (.newarray .int, 2) := by decide +kernel
theorem dX11_init_138 : decode cX11_init 138 = .ok (.putfield 57, 3) := by decide +kernel
theorem dX11_init_141 : decode cX11_init 141 = .ok (.aload_n 0, 1) := by decide +kernel
theorem dX11_init_142 : decode cX11_init 142 = .ok (.iconst (-1), 1) := by decide +kernel
theorem dX11_init_143 : decode cX11_init 143 = .ok (.putfield 60, 3) := by decide +kernel
theorem dX11_init_146 : decode cX11_init 146 = .ok (.aload_n 0, 1) := by decide +kernel
theorem dX11_init_147 : decode cX11_init 147 = .ok (.bipush 12, 2) := by decide +kernel
theorem dX11_init_149 : decode cX11_init 149 = .ok (.newarray .boolean, 2) := by decide +kernel
theorem dX11_init_151 : decode cX11_init 151 = .ok (.putfield 64, 3) := by decide +kernel
theorem dX11_init_154 : decode cX11_init 154 = .ok (.aload_n 0, 1) := by decide +kernel
theorem dX11_init_155 : decode cX11_init 155 = .ok (.bipush 12, 2) := by decide +kernel
theorem dX11_init_157 : decode cX11_init 157 = .ok (.newarray .int, 2) := by decide +kernel
theorem dX11_init_159 : decode cX11_init 159 = .ok (.putfield 67, 3) := by decide +kernel
theorem dX11_init_162 : decode cX11_init 162 = .ok (.aload_n 0, 1) := by decide +kernel
theorem dX11_init_163 : decode cX11_init 163 = .ok (.bipush 12, 2) := by decide +kernel
theorem dX11_init_165 : decode cX11_init 165 = .ok (.newarray .int, 2) := by decide +kernel
theorem dX11_init_167 : decode cX11_init 167 = .ok (.putfield 70, 3) := by decide +kernel
theorem dX11_init_170 : decode cX11_init 170 = .ok (.aload_n 0, 1) := by decide +kernel
theorem dX11_init_171 : decode cX11_init 171 = .ok (.bipush 12, 2) := by decide +kernel
theorem dX11_init_173 : decode cX11_init 173 = .ok (.newarray .int, 2) := by decide +kernel
theorem dX11_init_175 : decode cX11_init 175 = .ok (.putfield 73, 3) := by decide +kernel
theorem dX11_init_178 : decode cX11_init 178 = .ok (.aload_n 0, 1) := by decide +kernel
theorem dX11_init_179 : decode cX11_init 179 = .ok (.bipush 12, 2) := by decide +kernel
theorem dX11_init_181 : decode cX11_init 181 = .ok (.newarray .int, 2) := by decide +kernel
theorem dX11_init_183 : decode cX11_init 183 = .ok (.putfield 76, 3) := by decide +kernel
theorem dX11_init_186 : decode cX11_init 186 = .ok (.aload_n 0, 1) := by decide +kernel
theorem dX11_init_187 : decode cX11_init 187 = .ok (.bipush 96, 2) := by decide +kernel
theorem dX11_init_189 : decode cX11_init 189 = .ok (.newarray .int, 2) := by decide +kernel
theorem dX11_init_191 : decode cX11_init 191 = .ok (.putfield 79, 3) := by decide +kernel
theorem dX11_init_194 : decode cX11_init 194 = .ok (.aload_n 0, 1) := by decide +kernel
theorem dX11_init_195 : decode cX11_init 195 = .ok (.bipush 96, 2) := by decide +kernel
theorem dX11_init_197 : decode cX11_init 197 = .ok (.newarray .boolean, 2) := by decide +kernel
theorem dX11_init_199 : decode cX11_init 199 = .ok (.putfield 82, 3) := by decide +kernel
theorem dX11_init_202 : decode cX11_init 202 = .ok (.aload_n 0, 1) := by decide +kernel
theorem dX11_init_203 : decode cX11_init 203 = .ok (.bipush 96, 2) := by decide +kernel
theorem dX11_init_205 : decode cX11_init 205 = .ok (.newarray .int, 2) := by decide +kernel
theorem dX11_init_207 : decode cX11_init 207 = .ok (.putfield 85, 3) := by decide +kernel
theorem dX11_init_210 : decode cX11_init 210 = .ok (.aload_n 0, 1) := by decide +kernel
theorem dX11_init_211 : decode cX11_init 211 = .ok (.sipush 1152, 3) := by decide +kernel
theorem dX11_init_214 : decode cX11_init 214 = .ok (.newarray .int, 2) := by decide +kernel
theorem dX11_init_216 : decode cX11_init 216 = .ok (.putfield 88, 3) := by decide +kernel
theorem dX11_init_219 : decode cX11_init 219 = .ok (.aload_n 0, 1) := by decide +kernel
theorem dX11_init_220 : decode cX11_init 220 = .ok (.sipush 800, 3) := by decide +kernel
theorem dX11_init_223 : decode cX11_init 223 = .ok (.newarray .int, 2) := by decide +kernel
theorem dX11_init_225 : decode cX11_init 225 = .ok (.putfield 91, 3) := by decide +kernel
theorem dX11_init_228 : decode cX11_init 228 = .ok (.aload_n 0, 1) := by decide +kernel
theorem dX11_init_229 : decode cX11_init 229 = .ok (.sipush 1000, 3) := by decide +kernel
theorem dX11_init_232 : decode cX11_init 232 = .ok (.newarray .int, 2) := by decide +kernel
theorem dX11_init_234 : decode cX11_init 234 = .ok (.putfield 94, 3) := by decide +kernel
theorem dX11_init_237 : decode cX11_init 237 = .ok (.aload_n 0, 1) := by decide +kernel
theorem dX11_init_238 : decode cX11_init 238 = .ok (.sipush 1000, 3) := by decide +kernel
theorem dX11_init_241 : decode cX11_init 241 = .ok (.newarray .int, 2) := by decide +kernel
theorem dX11_init_243 : decode cX11_init 243 = .ok (.putfield 97, 3) := by decide +kernel
theorem dX11_init_246 : decode cX11_init 246 = .ok (.aload_n 0, 1) := by decide +kernel
theorem dX11_init_247 : decode cX11_init 247 = .ok (.bipush 60, 2) := by decide +kernel
theorem dX11_init_249 : decode cX11_init 249 = .ok (.newarray .int, 2) := by decide +kernel
theorem dX11_init_251 : decode cX11_init 251 = .ok (.putfield 100, 3) := by decide +kernel
theorem dX11_init_254 : decode cX11_init 254 = .ok (.aload_n 0, 1) := by decide +kernel
theorem dX11_init_255 : decode cX11_init 255 = .ok (.bipush 60, 2) := by decide +kernel
theorem dX11_init_257 : decode cX11_init 257 = .ok (.newarray .int, 2) := by decide +kernel
theorem dX11_init_259 : decode cX11_init 259 = .ok (.putfield 103, 3) := by decide +kernel
theorem dX11_init_262 : decode cX11_init 262 = .ok (.aload_n 0, 1) := by decide +kernel
theorem dX11_init_263 : decode cX11_init 263 = .ok (.sipush 1000, 3) := by decide +kernel
theorem dX11_init_266 : decode cX11_init 266 = .ok (.newarray .long, 2) := by decide +kernel
theorem dX11_init_268 : decode cX11_init 268 = .ok (.putfield 106, 3) := by decide +kernel
theorem dX11_init_271 : decode cX11_init 271 = .ok (.aload_n 0, 1) := by decide +kernel
theorem dX11_init_272 : decode cX11_init 272 = .ok (.bipush 60, 2) := by decide +kernel
theorem dX11_init_274 : decode cX11_init 274 = .ok (.newarray .int, 2) := by decide +kernel
theorem dX11_init_276 : decode cX11_init 276 = .ok (.putfield 109, 3) := by decide +kernel
theorem dX11_init_279 : decode cX11_init 279 = .ok (.aload_n 0, 1) := by decide +kernel
theorem dX11_init_280 : decode cX11_init 280 = .ok (.bipush 61, 2) := by decide +kernel
theorem dX11_init_282 : decode cX11_init 282 = .ok (.newarray .int, 2) := by decide +kernel
theorem dX11_init_284 : decode cX11_init 284 = .ok (.putfield 112, 3) := by decide +kernel
theorem dX11_init_287 : decode cX11_init 287 = .ok (.aload_n 0, 1) := by decide +kernel
theorem dX11_init_288 : decode cX11_init 288 = .ok (.sipush 1000, 3) := by decide +kernel
theorem dX11_init_291 : decode cX11_init 291 = .ok (.newarray .boolean, 2) := by decide +kernel
theorem dX11_init_293 : decode cX11_init 293 = .ok (.putfield 115, 3) := by decide +kernel
theorem dX11_init_296 : decode cX11_init 296 = .ok (.aload_n 0, 1) := by decide +kernel
theorem dX11_init_297 : decode cX11_init 297 = .ok (.bipush 9, 2) := by decide +kernel
theorem dX11_init_299 : decode cX11_init 299 = .ok (.newarray .int, 2) := by decide +kernel
theorem dX11_init_301 : decode cX11_init 301 = .ok (.putfield 118, 3) := by decide +kernel
theorem dX11_init_304 : decode cX11_init 304 = .ok (.iconst 0, 1) := by decide +kernel
theorem dX11_init_305 : decode cX11_init 305 = .ok (.istore_n 1, 1) := by decide +kernel
theorem dX11_init_306 : decode cX11_init 306 = .ok (.iload_n 1, 1) := by decide +kernel
theorem dX11_init_307 : decode cX11_init 307 = .ok (.sipush 3000, 3) := by decide +kernel
theorem dX11_init_310 : decode cX11_init 310 = .ok (.if_icmp .ge 30, 3) := by decide +kernel
theorem dX11_init_313 : decode cX11_init 313 = .ok (.aload_n 0, 1) := by decide +kernel
theorem dX11_init_314 : decode cX11_init 314 = .ok (.getfield 41, 3) := by decide +kernel
theorem dX11_init_317 : decode cX11_init 317 = .ok (.iload_n 1, 1) := by decide +kernel
theorem dX11_init_318 : decode cX11_init 318 = .ok (.iconst (-1), 1) := by decide +kernel
theorem dX11_init_319 : decode cX11_init 319 = .ok (.iastore, 1) := by decide +kernel
theorem dX11_init_320 : decode cX11_init 320 = .ok (.aload_n 0, 1) := by decide +kernel
theorem dX11_init_321 : decode cX11_init 321 = .ok (.getfield 48, 3) := by decide +kernel
theorem dX11_init_324 : decode cX11_init 324 = .ok (.iload_n 1, 1) := by decide +kernel
theorem dX11_init_325 : decode cX11_init 325 = .ok (.iconst (-1), 1) := by decide +kernel
theorem dX11_init_326 : decode cX11_init 326 = .ok (.iastore, 1) := by decide +kernel
theorem dX11_init_327 : decode cX11_init 327 = .ok (.aload_n 0, 1) := by decide +kernel
theorem dX11_init_328 : decode cX11_init 328 = .ok (.getfield 51, 3) := by decide +kernel
theorem dX11_init_331 : decode cX11_init 331 = .ok (.iload_n 1, 1) := by decide +kernel
theorem dX11_init_332 : decode cX11_init 332 = .ok (.iconst (-1), 1) := by decide +kernel
theorem dX11_init_333 : decode cX11_init 333 = .ok (.iastore, 1) := by decide +kernel
theorem dX11_init_334 : decode cX11_init 334 = .ok (.iinc 1 1, 3) := by decide +kernel
theorem dX11_init_337 : decode cX11_init 337 = .ok (.goto (-31), 3) := by decide +kernel
theorem dX11_init_340 : decode cX11_init 340 = .ok (.return_, 1) := by decide +kernel
theorem dX11_in_0 : decode cX11_in 0 = .ok (.lload_n 0, 1) := by decide +kernel
theorem dX11_in_1 : decode cX11_in 1 = .ok (.lload_n 2, 1) := by decide +kernel
theorem dX11_in_2 : decode cX11_in 2 = .ok (.lcmp, 1) := by decide +kernel
theorem dX11_in_3 : decode cX11_in 3 = .ok (.ifCond .lt 14, 3) := by decide +kernel
theorem dX11_in_6 : decode cX11_in 6 = .ok (.lload_n 0, 1) := by decide +kernel
theorem dX11_in_7 : decode cX11_in 7 = .ok (.lload 4, 2) := by decide +kernel
theorem dX11_in_9 : decode cX11_in 9 = .ok (.lcmp, 1) := by decide +kernel
theorem dX11_in_10 : decode cX11_in 10 = .ok (.ifCond .gt 7, 3) := by decide +kernel
theorem dX11_in_13 : decode cX11_in 13 = .ok (.iconst 1, 1) := by decide +kernel
theorem dX11_in_14 : decode cX11_in 14 = .ok (.goto 4, 3) := by decide +kernel
theorem dX11_in_17 : decode cX11_in 17 = .ok (.iconst 0, 1) := by decide +kernel
theorem dX11_in_18 : decode cX11_in 18 = .ok (.ireturn, 1) := by decide +kernel
theorem dX11_isTongue_0 : decode cX11_isTongue 0 = .ok (.iload_n 0, 1) := by decide +kernel
theorem dX11_isTongue_1 : decode cX11_isTongue 1 = .ok (.i2l, 1) := by decide +kernel
theorem dX11_isTongue_2 : decode cX11_isTongue 2 = .ok (.lconst 0, 1) := by decide +kernel
theorem dX11_isTongue_3 : decode cX11_isTongue 3 = .ok (.ldc2_w 121, 3) := by decide +kernel
theorem dX11_isTongue_6 : decode cX11_isTongue 6 = .ok (.invokestatic 123, 3) := by decide +kernel
theorem dX11_isTongue_9 : decode cX11_isTongue 9 = .ok (.ireturn, 1) := by decide +kernel
theorem dX11_isNumber_0 : decode cX11_isNumber 0 = .ok (.iload_n 0, 1) := by decide +kernel
theorem dX11_isNumber_1 : decode cX11_isNumber 1 = .ok (.i2l, 1) := by decide +kernel
theorem dX11_isNumber_2 : decode cX11_isNumber 2 = .ok (.lconst 0, 1) := by decide +kernel
theorem dX11_isNumber_3 : decode cX11_isNumber 3 = .ok (.ldc2_w 127, 3) := by decide +kernel
theorem dX11_isNumber_6 : decode cX11_isNumber 6 = .ok (.invokestatic 123, 3) := by decide +kernel
theorem dX11_isNumber_9 : decode cX11_isNumber 9 = .ok (.ireturn, 1) := by decide +kernel
theorem dX11_feed_0 : decode cX11_feed 0 = .ok (.iload_n 1, 1) := by decide +kernel
theorem dX11_feed_1 : decode cX11_feed 1 = .ok (.i2l, 1) := by decide +kernel
theorem dX11_feed_2 : decode cX11_feed 2 = .ok (.lconst 1, 1) := by decide +kernel
theorem dX11_feed_3 : decode cX11_feed 3 = .ok (.ldc2_w 129, 3) := by decide +kernel
theorem dX11_feed_6 : decode cX11_feed 6 = .ok (.invokestatic 123, 3) := by decide +kernel
theorem dX11_feed_9 : decode cX11_feed 9 = .ok (.ifCond .ne 7, 3) := by decide +kernel
theorem dX11_feed_12 : decode cX11_feed 12 = .ok (.sipush (-1002), 3) := by decide +kernel
theorem dX11_feed_15 : decode cX11_feed 15 = .ok (.ireturn, 1) := by decide +kernel
theorem dX11_feed_16 : decode cX11_feed 16 = .ok (.aload_n 0, 1) := by decide +kernel
theorem dX11_feed_17 : decode cX11_feed 17 = .ok (.getfield 131, 3) := by decide +kernel
theorem dX11_feed_20 : decode cX11_feed 20 = .ok (.iload_n 1, 1) := by decide +kernel
theorem dX11_feed_21 : decode cX11_feed 21 = .ok (.iadd, 1) := by decide +kernel
theorem dX11_feed_22 : decode cX11_feed 22 = .ok (.sipush 240, 3) := by decide +kernel
theorem dX11_feed_25 : decode cX11_feed 25 = .ok (.if_icmp .le 7, 3) := by decide +kernel
theorem dX11_feed_28 : decode cX11_feed 28 = .ok (.sipush (-1004), 3) := by decide +kernel
theorem dX11_feed_31 : decode cX11_feed 31 = .ok (.ireturn, 1) := by decide +kernel
theorem dX11_feed_32 : decode cX11_feed 32 = .ok (.iload_n 1, 1) := by decide +kernel
theorem dX11_feed_33 : decode cX11_feed 33 = .ok (.iconst 1, 1) := by decide +kernel
theorem dX11_feed_34 : decode cX11_feed 34 = .ok (.isub, 1) := by decide +kernel
theorem dX11_feed_35 : decode cX11_feed 35 = .ok (.istore 4, 2) := by decide +kernel
theorem dX11_feed_37 : decode cX11_feed 37 = .ok (.iload 4, 2) := by decide +kernel
theorem dX11_feed_39 : decode cX11_feed 39 = .ok (.ifCond .lt 40, 3) := by decide +kernel
theorem dX11_feed_42 : decode cX11_feed 42 = .ok (.aload_n 0, 1) := by decide +kernel
theorem dX11_feed_43 : decode cX11_feed 43 = .ok (.getfield 57, 3) := by decide +kernel
theorem dX11_feed_46 : decode cX11_feed 46 = .ok (.aload_n 0, 1) := by decide +kernel
theorem dX11_feed_47 : decode cX11_feed 47 = .ok (.getfield 131, 3) := by decide +kernel
theorem dX11_feed_50 : decode cX11_feed 50 = .ok (.lload_n 2, 1) := by decide +kernel
theorem dX11_feed_51 : decode cX11_feed 51 = .ok (.bipush 8, 2) := by decide +kernel
theorem dX11_feed_53 : decode cX11_feed 53 = .ok (.iload 4, 2) := by decide +kernel
theorem dX11_feed_55 : decode cX11_feed 55 = .ok (.imul, 1) := by decide +kernel
theorem dX11_feed_56 : decode cX11_feed 56 = .ok (.lshr, 1) := by decide +kernel
theorem dX11_feed_57 : decode cX11_feed 57 = .ok (.ldc2_w 134, 3) := by decide +kernel
theorem dX11_feed_60 : decode cX11_feed 60 = .ok (.land, 1) := by decide +kernel
theorem dX11_feed_61 : decode cX11_feed 61 = .ok (.l2i, 1) := by decide +kernel
theorem dX11_feed_62 : decode cX11_feed 62 = .ok (.iastore, 1) := by decide +kernel
theorem dX11_feed_63 : decode cX11_feed 63 = .ok (.aload_n 0, 1) := by decide +kernel
theorem dX11_feed_64 : decode cX11_feed 64 = .ok (.dup, 1) := by decide +kernel
theorem dX11_feed_65 : decode cX11_feed 65 = .ok (.getfield 131, 3) := by decide +kernel
theorem dX11_feed_68 : decode cX11_feed 68 = .ok (.iconst 1, 1) := by decide +kernel
theorem dX11_feed_69 : decode cX11_feed 69 = .ok (.iadd, 1) := by decide +kernel
theorem dX11_feed_70 : decode cX11_feed 70 = .ok (.putfield 131, 3) := by decide +kernel
theorem dX11_feed_73 : decode cX11_feed 73 = .ok (.iinc 4 (-1), 3) := by decide +kernel
theorem dX11_feed_76 : decode cX11_feed 76 = .ok (.goto (-39), 3) := by decide +kernel
theorem dX11_feed_79 : decode cX11_feed 79 = .ok (.aload_n 0, 1) := by decide +kernel
theorem dX11_feed_80 : decode cX11_feed 80 = .ok (.getfield 131, 3) := by decide +kernel
theorem dX11_feed_83 : decode cX11_feed 83 = .ok (.ireturn, 1) := by decide +kernel
theorem dX11_here_0 : decode cX11_here 0 = .ok (.aload_n 0, 1) := by decide +kernel
theorem dX11_here_1 : decode cX11_here 1 = .ok (.getfield 136, 3) := by decide +kernel
theorem dX11_here_4 : decode cX11_here 4 = .ok (.aload_n 0, 1) := by decide +kernel
theorem dX11_here_5 : decode cX11_here 5 = .ok (.getfield 131, 3) := by decide +kernel
theorem dX11_here_8 : decode cX11_here 8 = .ok (.if_icmp .ge 30, 3) := by decide +kernel
theorem dX11_here_11 : decode cX11_here 11 = .ok (.aload_n 0, 1) := by decide +kernel
theorem dX11_here_12 : decode cX11_here 12 = .ok (.getfield 57, 3) := by decide +kernel
theorem dX11_here_15 : decode cX11_here 15 = .ok (.aload_n 0, 1) := by decide +kernel
theorem dX11_here_16 : decode cX11_here 16 = .ok (.getfield 136, 3) := by decide +kernel
theorem dX11_here_19 : decode cX11_here 19 = .ok (.iaload, 1) := by decide +kernel
theorem dX11_here_20 : decode cX11_here 20 = .ok (.bipush 32, 2) := by decide +kernel
theorem dX11_here_22 : decode cX11_here 22 = .ok (.if_icmp .ne 16, 3) := by decide +kernel
theorem dX11_here_25 : decode cX11_here 25 = .ok (.aload_n 0, 1) := by decide +kernel
theorem dX11_here_26 : decode cX11_here 26 = .ok (.dup, 1) := by decide +kernel
theorem dX11_here_27 : decode cX11_here 27 = .ok (.getfield 136, 3) := by decide +kernel
theorem dX11_here_30 : decode cX11_here 30 = .ok (.iconst 1, 1) := by decide +kernel
theorem dX11_here_31 : decode cX11_here 31 = .ok (.iadd, 1) := by decide +kernel
theorem dX11_here_32 : decode cX11_here 32 = .ok (.putfield 136, 3) := by decide +kernel
theorem dX11_here_35 : decode cX11_here 35 = .ok (.goto (-35), 3) := by decide +kernel
theorem dX11_here_38 : decode cX11_here 38 = .ok (.aload_n 0, 1) := by decide +kernel
theorem dX11_here_39 : decode cX11_here 39 = .ok (.getfield 136, 3) := by decide +kernel
theorem dX11_here_42 : decode cX11_here 42 = .ok (.aload_n 0, 1) := by decide +kernel
theorem dX11_here_43 : decode cX11_here 43 = .ok (.getfield 131, 3) := by decide +kernel
theorem dX11_here_46 : decode cX11_here 46 = .ok (.if_icmp .ge 15, 3) := by decide +kernel
theorem dX11_here_49 : decode cX11_here 49 = .ok (.aload_n 0, 1) := by decide +kernel
theorem dX11_here_50 : decode cX11_here 50 = .ok (.getfield 57, 3) := by decide +kernel
theorem dX11_here_53 : decode cX11_here 53 = .ok (.aload_n 0, 1) := by decide +kernel
theorem dX11_here_54 : decode cX11_here 54 = .ok (.getfield 136, 3) := by decide +kernel
theorem dX11_here_57 : decode cX11_here 57 = .ok (.iaload, 1) := by decide +kernel
theorem dX11_here_58 : decode cX11_here 58 = .ok (.goto 4, 3) := by decide +kernel
theorem dX11_here_61 : decode cX11_here 61 = .ok (.iconst (-1), 1) := by decide +kernel
theorem dX11_here_62 : decode cX11_here 62 = .ok (.ireturn, 1) := by decide +kernel
theorem dX11_fails_0 : decode cX11_fails 0 = .ok (.aload_n 0, 1) := by decide +kernel
theorem dX11_fails_1 : decode cX11_fails 1 = .ok (.iload_n 2, 1) := by decide +kernel
theorem dX11_fails_2 : decode cX11_fails 2 = .ok (.putfield 60, 3) := by decide +kernel
theorem dX11_fails_5 : decode cX11_fails 5 = .ok (.iload_n 1, 1) := by decide +kernel
theorem dX11_fails_6 : decode cX11_fails 6 = .ok (.ireturn, 1) := by decide +kernel
theorem dX11_takeNumber_0 : decode cX11_takeNumber 0 = .ok (.aload_n 0, 1) := by decide +kernel
theorem dX11_takeNumber_1 : decode cX11_takeNumber 1 = .ok (.invokevirtual 139, 3) := by decide +kernel
theorem dX11_takeNumber_4 : decode cX11_takeNumber 4 = .ok (.istore_n 3, 1) := by decide +kernel
theorem dX11_takeNumber_5 : decode cX11_takeNumber 5 = .ok (.iload_n 3, 1) := by decide +kernel
theorem dX11_takeNumber_6 : decode cX11_takeNumber 6 = .ok (.i2l, 1) := by decide +kernel
theorem dX11_takeNumber_7 : decode cX11_takeNumber 7 = .ok (.ldc2_w 143, 3) := by decide +kernel
theorem dX11_takeNumber_10 : decode cX11_takeNumber 10 = .ok (.ldc2_w 145, 3) := by decide +kernel
theorem dX11_takeNumber_13 : decode cX11_takeNumber 13 = .ok (.invokestatic 123, 3) := by decide +kernel
theorem dX11_takeNumber_16 : decode cX11_takeNumber 16 = .ok (.ifCond .ne 13, 3) := by decide +kernel
theorem dX11_takeNumber_19 : decode cX11_takeNumber 19 = .ok (.aload_n 0, 1) := by decide +kernel
theorem dX11_takeNumber_20 : decode cX11_takeNumber 20 = .ok (.iconst 1, 1) := by decide +kernel
theorem dX11_takeNumber_21 : decode cX11_takeNumber 21 = .ok (.aload_n 0, 1) := by decide +kernel
theorem dX11_takeNumber_22 : decode cX11_takeNumber 22 = .ok (.getfield 136, 3) := by decide +kernel
theorem dX11_takeNumber_25 : decode cX11_takeNumber 25 = .ok (.invokevirtual 147, 3) := by decide +kernel
theorem dX11_takeNumber_28 : decode cX11_takeNumber 28 = .ok (.ireturn, 1) := by decide +kernel
theorem dX11_takeNumber_29 : decode cX11_takeNumber 29 = .ok (.aload_n 0, 1) := by decide +kernel
theorem dX11_takeNumber_30 : decode cX11_takeNumber 30 = .ok (.aload_n 0, 1) := by decide +kernel
theorem dX11_takeNumber_31 : decode cX11_takeNumber 31 = .ok (.getfield 136, 3) := by decide +kernel
theorem dX11_takeNumber_34 : decode cX11_takeNumber 34 = .ok (.putfield 151, 3) := by decide +kernel
theorem dX11_takeNumber_37 : decode cX11_takeNumber 37 = .ok (.aload_n 0, 1) := by decide +kernel
theorem dX11_takeNumber_38 : decode cX11_takeNumber 38 = .ok (.iconst 0, 1) := by decide +kernel
theorem dX11_takeNumber_39 : decode cX11_takeNumber 39 = .ok (.putfield 154, 3) := by decide +kernel
theorem dX11_takeNumber_42 : decode cX11_takeNumber 42 = .ok (.aload_n 0, 1) := by decide +kernel
theorem dX11_takeNumber_43 : decode cX11_takeNumber 43 = .ok (.getfield 136, 3) := by decide +kernel
theorem dX11_takeNumber_46 : decode cX11_takeNumber 46 = .ok (.aload_n 0, 1) := by decide +kernel
theorem dX11_takeNumber_47 : decode cX11_takeNumber 47 = .ok (.getfield 131, 3) := by decide +kernel
theorem dX11_takeNumber_50 : decode cX11_takeNumber 50 = .ok (.if_icmp .ge 79, 3) := by decide +kernel
theorem dX11_takeNumber_53 : decode cX11_takeNumber 53 = .ok (.aload_n 0, 1) := by decide +kernel
theorem dX11_takeNumber_54 : decode cX11_takeNumber 54 = .ok (.getfield 57, 3) := by decide +kernel
theorem dX11_takeNumber_57 : decode cX11_takeNumber 57 = .ok (.aload_n 0, 1) := by decide +kernel
theorem dX11_takeNumber_58 : decode cX11_takeNumber 58 = .ok (.getfield 136, 3) := by decide +kernel
theorem dX11_takeNumber_61 : decode cX11_takeNumber 61 = .ok (.iaload, 1) := by decide +kernel
theorem dX11_takeNumber_62 : decode cX11_takeNumber 62 = .ok (.i2l, 1) := by decide +kernel
theorem dX11_takeNumber_63 : decode cX11_takeNumber 63 = .ok (.ldc2_w 143, 3) := by decide +kernel
theorem dX11_takeNumber_66 : decode cX11_takeNumber 66 = .ok (.ldc2_w 145, 3) := by decide +kernel
theorem dX11_takeNumber_69 : decode cX11_takeNumber 69 = .ok (.invokestatic 123, 3) := by decide +kernel
theorem dX11_takeNumber_72 : decode cX11_takeNumber 72 = .ok (.ifCond .eq 57, 3) := by decide +kernel
theorem dX11_takeNumber_75 : decode cX11_takeNumber 75 = .ok (.aload_n 0, 1) := by decide +kernel
theorem dX11_takeNumber_76 : decode cX11_takeNumber 76 = .ok (.aload_n 0, 1) := by decide +kernel
theorem dX11_takeNumber_77 : decode cX11_takeNumber 77 = .ok (.getfield 154, 3) := by decide +kernel
theorem dX11_takeNumber_80 : decode cX11_takeNumber 80 = .ok (.sipush 10000, 3) := by decide +kernel
theorem dX11_takeNumber_83 : decode cX11_takeNumber 83 = .ok (.if_icmp .le 10, 3) := by decide +kernel
theorem dX11_takeNumber_86 : decode cX11_takeNumber 86 = .ok (.aload_n 0, 1) := by decide +kernel
theorem dX11_takeNumber_87 : decode cX11_takeNumber 87 = .ok (.getfield 154, 3) := by decide +kernel
theorem dX11_takeNumber_90 : decode cX11_takeNumber 90 = .ok (.goto 23, 3) := by decide +kernel
theorem dX11_takeNumber_93 : decode cX11_takeNumber 93 = .ok (.bipush 10, 2) := by decide +kernel
theorem dX11_takeNumber_95 : decode cX11_takeNumber 95 = .ok (.aload_n 0, 1) := by decide +kernel
theorem dX11_takeNumber_96 : decode cX11_takeNumber 96 = .ok (.getfield 154, 3) := by decide +kernel
theorem dX11_takeNumber_99 : decode cX11_takeNumber 99 = .ok (.imul, 1) := by decide +kernel
theorem dX11_takeNumber_100 : decode cX11_takeNumber 100 = .ok (.aload_n 0, 1) := by decide +kernel
theorem dX11_takeNumber_101 : decode cX11_takeNumber 101 = .ok (.getfield 57, 3) := by decide +kernel
theorem dX11_takeNumber_104 : decode cX11_takeNumber 104 = .ok (.aload_n 0, 1) := by decide +kernel
theorem dX11_takeNumber_105 : decode cX11_takeNumber 105 = .ok (.getfield 136, 3) := by decide +kernel
theorem dX11_takeNumber_108 : decode cX11_takeNumber 108 = .ok (.iaload, 1) := by decide +kernel
theorem dX11_takeNumber_109 : decode cX11_takeNumber 109 = .ok (.iadd, 1) := by decide +kernel
theorem dX11_takeNumber_110 : decode cX11_takeNumber 110 = .ok (.bipush 48, 2) := by decide +kernel
theorem dX11_takeNumber_112 : decode cX11_takeNumber 112 = .ok (.isub, 1) := by decide +kernel
theorem dX11_takeNumber_113 : decode cX11_takeNumber 113 = .ok (.putfield 154, 3) := by decide +kernel
theorem dX11_takeNumber_116 : decode cX11_takeNumber 116 = .ok (.aload_n 0, 1) := by decide +kernel
theorem dX11_takeNumber_117 : decode cX11_takeNumber 117 = .ok (.dup, 1) := by decide +kernel
theorem dX11_takeNumber_118 : decode cX11_takeNumber 118 = .ok (.getfield 136, 3) := by decide +kernel
theorem dX11_takeNumber_121 : decode cX11_takeNumber 121 = .ok (.iconst 1, 1) := by decide +kernel
theorem dX11_takeNumber_122 : decode cX11_takeNumber 122 = .ok (.iadd, 1) := by decide +kernel
theorem dX11_takeNumber_123 : decode cX11_takeNumber 123 = .ok (.putfield 136, 3) := by decide +kernel
theorem dX11_takeNumber_126 : decode cX11_takeNumber 126 = .ok (.goto (-84), 3) := by decide +kernel
theorem dX11_takeNumber_129 : decode cX11_takeNumber 129 = .ok (.aload_n 0, 1) := by decide +kernel
theorem dX11_takeNumber_130 : decode cX11_takeNumber 130 = .ok (.getfield 136, 3) := by decide +kernel
theorem dX11_takeNumber_133 : decode cX11_takeNumber 133 = .ok (.aload_n 0, 1) := by decide +kernel
theorem dX11_takeNumber_134 : decode cX11_takeNumber 134 = .ok (.getfield 151, 3) := by decide +kernel
theorem dX11_takeNumber_137 : decode cX11_takeNumber 137 = .ok (.isub, 1) := by decide +kernel
theorem dX11_takeNumber_138 : decode cX11_takeNumber 138 = .ok (.iconst 3, 1) := by decide +kernel
theorem dX11_takeNumber_139 : decode cX11_takeNumber 139 = .ok (.if_icmp .gt 18, 3) := by decide +kernel
theorem dX11_takeNumber_142 : decode cX11_takeNumber 142 = .ok (.aload_n 0, 1) := by decide +kernel
theorem dX11_takeNumber_143 : decode cX11_takeNumber 143 = .ok (.getfield 154, 3) := by decide +kernel
theorem dX11_takeNumber_146 : decode cX11_takeNumber 146 = .ok (.i2l, 1) := by decide +kernel
theorem dX11_takeNumber_147 : decode cX11_takeNumber 147 = .ok (.iload_n 1, 1) := by decide +kernel
theorem dX11_takeNumber_148 : decode cX11_takeNumber 148 = .ok (.i2l, 1) := by decide +kernel
theorem dX11_takeNumber_149 : decode cX11_takeNumber 149 = .ok (.iload_n 2, 1) := by decide +kernel
theorem dX11_takeNumber_150 : decode cX11_takeNumber 150 = .ok (.i2l, 1) := by decide +kernel
theorem dX11_takeNumber_151 : decode cX11_takeNumber 151 = .ok (.invokestatic 123, 3) := by decide +kernel
theorem dX11_takeNumber_154 : decode cX11_takeNumber 154 = .ok (.ifCond .ne 15, 3) := by decide +kernel
theorem dX11_takeNumber_157 : decode cX11_takeNumber 157 = .ok (.aload_n 0, 1) := by decide +kernel
theorem dX11_takeNumber_158 : decode cX11_takeNumber 158 = .ok (.iconst 2, 1) := by decide +kernel
theorem dX11_takeNumber_159 : decode cX11_takeNumber 159 = .ok (.aload_n 0, 1) := by decide +kernel
theorem dX11_takeNumber_160 : decode cX11_takeNumber 160 = .ok (.getfield 151, 3) := by decide +kernel
theorem dX11_takeNumber_163 : decode cX11_takeNumber 163 = .ok (.invokevirtual 147, 3) := by decide +kernel
theorem dX11_takeNumber_166 : decode cX11_takeNumber 166 = .ok (.goto 4, 3) := by decide +kernel
theorem dX11_takeNumber_169 : decode cX11_takeNumber 169 = .ok (.iconst 0, 1) := by decide +kernel
theorem dX11_takeNumber_170 : decode cX11_takeNumber 170 = .ok (.ireturn, 1) := by decide +kernel
theorem dX11_isComing_0 : decode cX11_isComing 0 = .ok (.aload_n 0, 1) := by decide +kernel
theorem dX11_isComing_1 : decode cX11_isComing 1 = .ok (.invokevirtual 139, 3) := by decide +kernel
theorem dX11_isComing_4 : decode cX11_isComing 4 = .ok (.istore 5, 2) := by decide +kernel
theorem dX11_isComing_6 : decode cX11_isComing 6 = .ok (.aload_n 0, 1) := by decide +kernel
theorem dX11_isComing_7 : decode cX11_isComing 7 = .ok (.getfield 136, 3) := by decide +kernel
theorem dX11_isComing_10 : decode cX11_isComing 10 = .ok (.istore 6, 2) := by decide +kernel
theorem dX11_isComing_12 : decode cX11_isComing 12 = .ok (.iload 6, 2) := by decide +kernel
theorem dX11_isComing_14 : decode cX11_isComing 14 = .ok (.aload_n 0, 1) := by decide +kernel
theorem dX11_isComing_15 : decode cX11_isComing 15 = .ok (.getfield 131, 3) := by decide +kernel
theorem dX11_isComing_18 : decode cX11_isComing 18 = .ok (.if_icmp .ge 29, 3) := by decide +kernel
theorem dX11_isComing_21 : decode cX11_isComing 21 = .ok (.aload_n 0, 1) := by decide +kernel
theorem dX11_isComing_22 : decode cX11_isComing 22 = .ok (.getfield 57, 3) := by decide +kernel
theorem dX11_isComing_25 : decode cX11_isComing 25 = .ok (.iload 6, 2) := by decide +kernel
theorem dX11_isComing_27 : decode cX11_isComing 27 = .ok (.iaload, 1) := by decide +kernel
theorem dX11_isComing_28 : decode cX11_isComing 28 = .ok (.i2l, 1) := by decide +kernel
theorem dX11_isComing_29 : decode cX11_isComing 29 = .ok (.ldc2_w 157, 3) := by decide +kernel
theorem dX11_isComing_32 : decode cX11_isComing 32 = .ok (.ldc2_w 159, 3) := by decide +kernel
theorem dX11_isComing_35 : decode cX11_isComing 35 = .ok (.invokestatic 123, 3) := by decide +kernel
theorem dX11_isComing_38 : decode cX11_isComing 38 = .ok (.ifCond .eq 9, 3) := by decide +kernel
theorem dX11_isComing_41 : decode cX11_isComing 41 = .ok (.iinc 6 1, 3) := by decide +kernel
theorem dX11_isComing_44 : decode cX11_isComing 44 = .ok (.goto (-32), 3) := by decide +kernel
theorem dX11_isComing_47 : decode cX11_isComing 47 = .ok (.aload_n 0, 1) := by decide +kernel
theorem dX11_isComing_48 : decode cX11_isComing 48 = .ok (.iload 6, 2) := by decide +kernel
theorem dX11_isComing_50 : decode cX11_isComing 50 = .ok (.putfield 161, 3) := by decide +kernel
theorem dX11_isComing_53 : decode cX11_isComing 53 = .ok (.iload 4, 2) := by decide +kernel
theorem dX11_isComing_55 : decode cX11_isComing 55 = .ok (.ifCond .le 7, 3) := by decide +kernel
theorem dX11_isComing_58 : decode cX11_isComing 58 = .ok (.iconst 4, 1) := by decide +kernel
theorem dX11_isComing_59 : decode cX11_isComing 59 = .ok (.goto 12, 3) := by decide +kernel
theorem dX11_isComing_62 : decode cX11_isComing 62 = .ok (.iload_n 3, 1) := by decide +kernel
theorem dX11_isComing_63 : decode cX11_isComing 63 = .ok (.ifCond .le 7, 3) := by decide +kernel
theorem dX11_isComing_66 : decode cX11_isComing 66 = .ok (.iconst 3, 1) := by decide +kernel
theorem dX11_isComing_67 : decode cX11_isComing 67 = .ok (.goto 4, 3) := by decide +kernel
theorem dX11_isComing_70 : decode cX11_isComing 70 = .ok (.iconst 2, 1) := by decide +kernel
theorem dX11_isComing_71 : decode cX11_isComing 71 = .ok (.istore 7, 2) := by decide +kernel
theorem dX11_isComing_73 : decode cX11_isComing 73 = .ok (.iload 6, 2) := by decide +kernel
theorem dX11_isComing_75 : decode cX11_isComing 75 = .ok (.aload_n 0, 1) := by decide +kernel
theorem dX11_isComing_76 : decode cX11_isComing 76 = .ok (.getfield 136, 3) := by decide +kernel
theorem dX11_isComing_79 : decode cX11_isComing 79 = .ok (.isub, 1) := by decide +kernel
theorem dX11_isComing_80 : decode cX11_isComing 80 = .ok (.iload 7, 2) := by decide +kernel
theorem dX11_isComing_82 : decode cX11_isComing 82 = .ok (.if_icmp .ne 7, 3) := by decide +kernel
theorem dX11_isComing_85 : decode cX11_isComing 85 = .ok (.iconst 1, 1) := by decide +kernel
theorem dX11_isComing_86 : decode cX11_isComing 86 = .ok (.goto 4, 3) := by decide +kernel
theorem dX11_isComing_89 : decode cX11_isComing 89 = .ok (.iconst 0, 1) := by decide +kernel
theorem dX11_isComing_90 : decode cX11_isComing 90 = .ok (.istore 8, 2) := by decide +kernel
theorem dX11_isComing_92 : decode cX11_isComing 92 = .ok (.iload 8, 2) := by decide +kernel
theorem dX11_isComing_94 : decode cX11_isComing 94 = .ok (.ifCond .eq 35, 3) := by decide +kernel
theorem dX11_isComing_97 : decode cX11_isComing 97 = .ok (.aload_n 0, 1) := by decide +kernel
theorem dX11_isComing_98 : decode cX11_isComing 98 = .ok (.getfield 57, 3) := by decide +kernel
theorem dX11_isComing_101 : decode cX11_isComing 101 = .ok (.aload_n 0, 1) := by decide +kernel
theorem dX11_isComing_102 : decode cX11_isComing 102 = .ok (.getfield 136, 3) := by decide +kernel
theorem dX11_isComing_105 : decode cX11_isComing 105 = .ok (.iaload, 1) := by decide +kernel
theorem dX11_isComing_106 : decode cX11_isComing 106 = .ok (.iload_n 1, 1) := by decide +kernel
theorem dX11_isComing_107 : decode cX11_isComing 107 = .ok (.if_icmp .ne 22, 3) := by decide +kernel
theorem dX11_isComing_110 : decode cX11_isComing 110 = .ok (.aload_n 0, 1) := by decide +kernel
theorem dX11_isComing_111 : decode cX11_isComing 111 = .ok (.getfield 57, 3) := by decide +kernel
theorem dX11_isComing_114 : decode cX11_isComing 114 = .ok (.aload_n 0, 1) := by decide +kernel
theorem dX11_isComing_115 : decode cX11_isComing 115 = .ok (.getfield 136, 3) := by decide +kernel
theorem dX11_isComing_118 : decode cX11_isComing 118 = .ok (.iconst 1, 1) := by decide +kernel
theorem dX11_isComing_119 : decode cX11_isComing 119 = .ok (.iadd, 1) := by decide +kernel
theorem dX11_isComing_120 : decode cX11_isComing 120 = .ok (.iaload, 1) := by decide +kernel
theorem dX11_isComing_121 : decode cX11_isComing 121 = .ok (.iload_n 2, 1) := by decide +kernel
theorem dX11_isComing_122 : decode cX11_isComing 122 = .ok (.if_icmp .ne 7, 3) := by decide +kernel
theorem dX11_isComing_125 : decode cX11_isComing 125 = .ok (.iconst 1, 1) := by decide +kernel
theorem dX11_isComing_126 : decode cX11_isComing 126 = .ok (.goto 4, 3) := by decide +kernel
theorem dX11_isComing_129 : decode cX11_isComing 129 = .ok (.iconst 0, 1) := by decide +kernel
theorem dX11_isComing_130 : decode cX11_isComing 130 = .ok (.istore 8, 2) := by decide +kernel
theorem dX11_isComing_132 : decode cX11_isComing 132 = .ok (.iload 8, 2) := by decide +kernel
theorem dX11_isComing_134 : decode cX11_isComing 134 = .ok (.ifCond .eq 26, 3) := by decide +kernel
theorem dX11_isComing_137 : decode cX11_isComing 137 = .ok (.iload_n 3, 1) := by decide +kernel
theorem dX11_isComing_138 : decode cX11_isComing 138 = .ok (.ifCond .eq 18, 3) := by decide +kernel
theorem dX11_isComing_141 : decode cX11_isComing 141 = .ok (.aload_n 0, 1) := by decide +kernel
theorem dX11_isComing_142 : decode cX11_isComing 142 = .ok (.getfield 57, 3) := by decide +kernel
theorem dX11_isComing_145 : decode cX11_isComing 145 = .ok (.aload_n 0, 1) := by decide +kernel
theorem dX11_isComing_146 : decode cX11_isComing 146 = .ok (.getfield 136, 3) := by decide +kernel
theorem dX11_isComing_149 : decode cX11_isComing 149 = .ok (.iconst 2, 1) := by decide +kernel
theorem dX11_isComing_150 : decode cX11_isComing 150 = .ok (.iadd, 1) := by decide +kernel
theorem dX11_isComing_151 : decode cX11_isComing 151 = .ok (.iaload, 1) := by decide +kernel
theorem dX11_isComing_152 : decode cX11_isComing 152 = .ok (.iload_n 3, 1) := by decide +kernel
theorem dX11_isComing_153 : decode cX11_isComing 153 = .ok (.if_icmp .ne 7, 3) := by decide +kernel
theorem dX11_isComing_156 : decode cX11_isComing 156 = .ok (.iconst 1, 1) := by decide +kernel
theorem dX11_isComing_157 : decode cX11_isComing 157 = .ok (.goto 4, 3) := by decide +kernel
theorem dX11_isComing_160 : decode cX11_isComing 160 = .ok (.iconst 0, 1) := by decide +kernel
theorem dX11_isComing_161 : decode cX11_isComing 161 = .ok (.istore 8, 2) := by decide +kernel
theorem dX11_isComing_163 : decode cX11_isComing 163 = .ok (.iload 8, 2) := by decide +kernel
theorem dX11_isComing_165 : decode cX11_isComing 165 = .ok (.ifCond .eq 28, 3) := by decide +kernel
theorem dX11_isComing_168 : decode cX11_isComing 168 = .ok (.iload 4, 2) := by decide +kernel
theorem dX11_isComing_170 : decode cX11_isComing 170 = .ok (.ifCond .eq 19, 3) := by decide +kernel
theorem dX11_isComing_173 : decode cX11_isComing 173 = .ok (.aload_n 0, 1) := by decide +kernel
theorem dX11_isComing_174 : decode cX11_isComing 174 = .ok (.getfield 57, 3) := by decide +kernel
theorem dX11_isComing_177 : decode cX11_isComing 177 = .ok (.aload_n 0, 1) := by decide +kernel
theorem dX11_isComing_178 : decode cX11_isComing 178 = .ok (.getfield 136, 3) := by decide +kernel
theorem dX11_isComing_181 : decode cX11_isComing 181 = .ok (.iconst 3, 1) := by decide +kernel
theorem dX11_isComing_182 : decode cX11_isComing 182 = .ok (.iadd, 1) := by decide +kernel
theorem dX11_isComing_183 : decode cX11_isComing 183 = .ok (.iaload, 1) := by decide +kernel
theorem dX11_isComing_184 : decode cX11_isComing 184 = .ok (.iload 4, 2) := by decide +kernel
theorem dX11_isComing_186 : decode cX11_isComing 186 = .ok (.if_icmp .ne 7, 3) := by decide +kernel
theorem dX11_isComing_189 : decode cX11_isComing 189 = .ok (.iconst 1, 1) := by decide +kernel
theorem dX11_isComing_190 : decode cX11_isComing 190 = .ok (.goto 4, 3) := by decide +kernel
theorem dX11_isComing_193 : decode cX11_isComing 193 = .ok (.iconst 0, 1) := by decide +kernel
theorem dX11_isComing_194 : decode cX11_isComing 194 = .ok (.ireturn, 1) := by decide +kernel
theorem dX11_needs_0 : decode cX11_needs 0 = .ok (.aload_n 0, 1) := by decide +kernel
theorem dX11_needs_1 : decode cX11_needs 1 = .ok (.iload_n 1, 1) := by decide +kernel
theorem dX11_needs_2 : decode cX11_needs 2 = .ok (.iload_n 2, 1) := by decide +kernel
theorem dX11_needs_3 : decode cX11_needs 3 = .ok (.iconst 0, 1) := by decide +kernel
theorem dX11_needs_4 : decode cX11_needs 4 = .ok (.iconst 0, 1) := by decide +kernel
theorem dX11_needs_5 : decode cX11_needs 5 = .ok (.invokevirtual 164, 3) := by decide +kernel
theorem dX11_needs_8 : decode cX11_needs 8 = .ok (.ifCond .ne 13, 3) := by decide +kernel
theorem dX11_needs_11 : decode cX11_needs 11 = .ok (.aload_n 0, 1) := by decide +kernel
theorem dX11_needs_12 : decode cX11_needs 12 = .ok (.iconst 1, 1) := by decide +kernel
theorem dX11_needs_13 : decode cX11_needs 13 = .ok (.aload_n 0, 1) := by decide +kernel
theorem dX11_needs_14 : decode cX11_needs 14 = .ok (.getfield 136, 3) := by decide +kernel
theorem dX11_needs_17 : decode cX11_needs 17 = .ok (.invokevirtual 147, 3) := by decide +kernel
theorem dX11_needs_20 : decode cX11_needs 20 = .ok (.ireturn, 1) := by decide +kernel
theorem dX11_needs_21 : decode cX11_needs 21 = .ok (.aload_n 0, 1) := by decide +kernel
theorem dX11_needs_22 : decode cX11_needs 22 = .ok (.aload_n 0, 1) := by decide +kernel
theorem dX11_needs_23 : decode cX11_needs 23 = .ok (.getfield 161, 3) := by decide +kernel
theorem dX11_needs_26 : decode cX11_needs 26 = .ok (.putfield 136, 3) := by decide +kernel
theorem dX11_needs_29 : decode cX11_needs 29 = .ok (.iconst 0, 1) := by decide +kernel
theorem dX11_needs_30 : decode cX11_needs 30 = .ok (.ireturn, 1) := by decide +kernel
theorem dX11_takeLetters_0 : decode cX11_takeLetters 0 = .ok (.aload_n 0, 1) := by decide +kernel
theorem dX11_takeLetters_1 : decode cX11_takeLetters 1 = .ok (.invokevirtual 139, 3) := by decide +kernel
theorem dX11_takeLetters_4 : decode cX11_takeLetters 4 = .ok (.istore_n 2, 1) := by decide +kernel
theorem dX11_takeLetters_5 : decode cX11_takeLetters 5 = .ok (.iload_n 2, 1) := by decide +kernel
theorem dX11_takeLetters_6 : decode cX11_takeLetters 6 = .ok (.i2l, 1) := by decide +kernel
theorem dX11_takeLetters_7 : decode cX11_takeLetters 7 = .ok (.ldc2_w 157, 3) := by decide +kernel
theorem dX11_takeLetters_10 : decode cX11_takeLetters 10 = .ok (.ldc2_w 159, 3) := by decide +kernel
theorem dX11_takeLetters_13 : decode cX11_takeLetters 13 = .ok (.invokestatic 123, 3) := by decide +kernel
theorem dX11_takeLetters_16 : decode cX11_takeLetters 16 = .ok (.ifCond .ne 13, 3) := by decide +kernel
theorem dX11_takeLetters_19 : decode cX11_takeLetters 19 = .ok (.aload_n 0, 1) := by decide +kernel
theorem dX11_takeLetters_20 : decode cX11_takeLetters 20 = .ok (.iconst 1, 1) := by decide +kernel
theorem dX11_takeLetters_21 : decode cX11_takeLetters 21 = .ok (.aload_n 0, 1) := by decide +kernel
theorem dX11_takeLetters_22 : decode cX11_takeLetters 22 = .ok (.getfield 136, 3) := by decide +kernel
theorem dX11_takeLetters_25 : decode cX11_takeLetters 25 = .ok (.invokevirtual 147, 3) := by decide +kernel
theorem dX11_takeLetters_28 : decode cX11_takeLetters 28 = .ok (.ireturn, 1) := by decide +kernel
theorem dX11_takeLetters_29 : decode cX11_takeLetters 29 = .ok (.aload_n 0, 1) := by decide +kernel
theorem dX11_takeLetters_30 : decode cX11_takeLetters 30 = .ok (.getfield 79, 3) := by decide +kernel
theorem dX11_takeLetters_33 : decode cX11_takeLetters 33 = .ok (.iload_n 1, 1) := by decide +kernel
theorem dX11_takeLetters_34 : decode cX11_takeLetters 34 = .ok (.iconst 0, 1) := by decide +kernel
theorem dX11_takeLetters_35 : decode cX11_takeLetters 35 = .ok (.iastore, 1) := by decide +kernel
theorem dX11_takeLetters_36 : decode cX11_takeLetters 36 = .ok (.aload_n 0, 1) := by decide +kernel
theorem dX11_takeLetters_37 : decode cX11_takeLetters 37 = .ok (.getfield 85, 3) := by decide +kernel
theorem dX11_takeLetters_40 : decode cX11_takeLetters 40 = .ok (.iload_n 1, 1) := by decide +kernel
theorem dX11_takeLetters_41 : decode cX11_takeLetters 41 = .ok (.iconst 0, 1) := by decide +kernel
theorem dX11_takeLetters_42 : decode cX11_takeLetters 42 = .ok (.iastore, 1) := by decide +kernel
theorem dX11_takeLetters_43 : decode cX11_takeLetters 43 = .ok (.aload_n 0, 1) := by decide +kernel
theorem dX11_takeLetters_44 : decode cX11_takeLetters 44 = .ok (.getfield 136, 3) := by decide +kernel
theorem dX11_takeLetters_47 : decode cX11_takeLetters 47 = .ok (.aload_n 0, 1) := by decide +kernel
theorem dX11_takeLetters_48 : decode cX11_takeLetters 48 = .ok (.getfield 131, 3) := by decide +kernel
theorem dX11_takeLetters_51 : decode cX11_takeLetters 51 = .ok (.if_icmp .ge 94, 3) := by decide +kernel
theorem dX11_takeLetters_54 : decode cX11_takeLetters 54 = .ok (.aload_n 0, 1) := by decide +kernel
theorem dX11_takeLetters_55 : decode cX11_takeLetters 55 = .ok (.getfield 57, 3) := by decide +kernel
theorem dX11_takeLetters_58 : decode cX11_takeLetters 58 = .ok (.aload_n 0, 1) := by decide +kernel
theorem dX11_takeLetters_59 : decode cX11_takeLetters 59 = .ok (.getfield 136, 3) := by decide +kernel
theorem dX11_takeLetters_62 : decode cX11_takeLetters 62 = .ok (.iaload, 1) := by decide +kernel
theorem dX11_takeLetters_63 : decode cX11_takeLetters 63 = .ok (.i2l, 1) := by decide +kernel
theorem dX11_takeLetters_64 : decode cX11_takeLetters 64 = .ok (.ldc2_w 157, 3) := by decide +kernel
theorem dX11_takeLetters_67 : decode cX11_takeLetters 67 = .ok (.ldc2_w 159, 3) := by decide +kernel
theorem dX11_takeLetters_70 : decode cX11_takeLetters 70 = .ok (.invokestatic 123, 3) := by decide +kernel
theorem dX11_takeLetters_73 : decode cX11_takeLetters 73 = .ok (.ifCond .eq 72, 3) := by decide +kernel
theorem dX11_takeLetters_76 : decode cX11_takeLetters 76 = .ok (.aload_n 0, 1) := by decide +kernel
theorem dX11_takeLetters_77 : decode cX11_takeLetters 77 = .ok (.getfield 85, 3) := by decide +kernel
theorem dX11_takeLetters_80 : decode cX11_takeLetters 80 = .ok (.iload_n 1, 1) := by decide +kernel
theorem dX11_takeLetters_81 : decode cX11_takeLetters 81 = .ok (.iaload, 1) := by decide +kernel
theorem dX11_takeLetters_82 : decode cX11_takeLetters 82 = .ok (.bipush 12, 2) := by decide +kernel
theorem dX11_takeLetters_84 : decode cX11_takeLetters 84 = .ok (.if_icmp .ne 13, 3) := by decide +kernel
theorem dX11_takeLetters_87 : decode cX11_takeLetters 87 = .ok (.aload_n 0, 1) := by decide +kernel
theorem dX11_takeLetters_88 : decode cX11_takeLetters 88 = .ok (.iconst 4, 1) := by decide +kernel
theorem dX11_takeLetters_89 : decode cX11_takeLetters 89 = .ok (.aload_n 0, 1) := by decide +kernel
theorem dX11_takeLetters_90 : decode cX11_takeLetters 90 = .ok (.getfield 136, 3) := by decide +kernel
theorem dX11_takeLetters_93 : decode cX11_takeLetters 93 = .ok (.invokevirtual 147, 3) := by decide +kernel
theorem dX11_takeLetters_96 : decode cX11_takeLetters 96 = .ok (.ireturn, 1) := by decide +kernel
theorem dX11_takeLetters_97 : decode cX11_takeLetters 97 = .ok (.aload_n 0, 1) := by decide +kernel
theorem dX11_takeLetters_98 : decode cX11_takeLetters 98 = .ok (.getfield 88, 3) := by decide +kernel
theorem dX11_takeLetters_101 : decode cX11_takeLetters 101 = .ok (.bipush 12, 2) := by decide +kernel
theorem dX11_takeLetters_103 : decode cX11_takeLetters 103 = .ok (.iload_n 1, 1) := by decide +kernel
theorem dX11_takeLetters_104 : decode cX11_takeLetters 104 = .ok (.imul, 1) := by decide +kernel
theorem dX11_takeLetters_105 : decode cX11_takeLetters 105 = .ok (.aload_n 0, 1) := by decide +kernel
theorem dX11_takeLetters_106 : decode cX11_takeLetters 106 = .ok (.getfield 85, 3) := by decide +kernel
theorem dX11_takeLetters_109 : decode cX11_takeLetters 109 = .ok (.iload_n 1, 1) := by decide +kernel
theorem dX11_takeLetters_110 : decode cX11_takeLetters 110 = .ok (.iaload, 1) := by decide +kernel
theorem dX11_takeLetters_111 : decode cX11_takeLetters 111 = .ok (.iadd, 1) := by decide +kernel
theorem dX11_takeLetters_112 : decode cX11_takeLetters 112 = .ok (.aload_n 0, 1) := by decide +kernel
theorem dX11_takeLetters_113 : decode cX11_takeLetters 113 = .ok (.getfield 57, 3) := by decide +kernel
theorem dX11_takeLetters_116 : decode cX11_takeLetters 116 = .ok (.aload_n 0, 1) := by decide +kernel
theorem dX11_takeLetters_117 : decode cX11_takeLetters 117 = .ok (.getfield 136, 3) := by decide +kernel
theorem dX11_takeLetters_120 : decode cX11_takeLetters 120 = .ok (.iaload, 1) := by decide +kernel
theorem dX11_takeLetters_121 : decode cX11_takeLetters 121 = .ok (.iastore, 1) := by decide +kernel
theorem dX11_takeLetters_122 : decode cX11_takeLetters 122 = .ok (.aload_n 0, 1) := by decide +kernel
theorem dX11_takeLetters_123 : decode cX11_takeLetters 123 = .ok (.getfield 85, 3) := by decide +kernel
theorem dX11_takeLetters_126 : decode cX11_takeLetters 126 = .ok (.iload_n 1, 1) := by decide +kernel
theorem dX11_takeLetters_127 : decode cX11_takeLetters 127 = .ok (.dup2, 1) := by decide +kernel
theorem dX11_takeLetters_128 : decode cX11_takeLetters 128 = .ok (.iaload, 1) := by decide +kernel
theorem dX11_takeLetters_129 : decode cX11_takeLetters 129 = .ok (.iconst 1, 1) := by decide +kernel
theorem dX11_takeLetters_130 : decode cX11_takeLetters 130 = .ok (.iadd, 1) := by decide +kernel
theorem dX11_takeLetters_131 : decode cX11_takeLetters 131 = .ok (.iastore, 1) := by decide +kernel
theorem dX11_takeLetters_132 : decode cX11_takeLetters 132 = .ok (.aload_n 0, 1) := by decide +kernel
theorem dX11_takeLetters_133 : decode cX11_takeLetters 133 = .ok (.dup, 1) := by decide +kernel
theorem dX11_takeLetters_134 : decode cX11_takeLetters 134 = .ok (.getfield 136, 3) := by decide +kernel
theorem dX11_takeLetters_137 : decode cX11_takeLetters 137 = .ok (.iconst 1, 1) := by decide +kernel
theorem dX11_takeLetters_138 : decode cX11_takeLetters 138 = .ok (.iadd, 1) := by decide +kernel
theorem dX11_takeLetters_139 : decode cX11_takeLetters 139 = .ok (.putfield 136, 3) := by decide +kernel
theorem dX11_takeLetters_142 : decode cX11_takeLetters 142 = .ok (.goto (-99), 3) := by decide +kernel
theorem dX11_takeLetters_145 : decode cX11_takeLetters 145 = .ok (.iconst 0, 1) := by decide +kernel
theorem dX11_takeLetters_146 : decode cX11_takeLetters 146 = .ok (.ireturn, 1) := by decide +kernel
theorem dX11_takePart_0 : decode cX11_takePart 0 = .ok (.aload_n 0, 1) := by decide +kernel
theorem dX11_takePart_1 : decode cX11_takePart 1 = .ok (.invokevirtual 139, 3) := by decide +kernel
theorem dX11_takePart_4 : decode cX11_takePart 4 = .ok (.istore_n 3, 1) := by decide +kernel
theorem dX11_takePart_5 : decode cX11_takePart 5 = .ok (.iload_n 3, 1) := by decide +kernel
theorem dX11_takePart_6 : decode cX11_takePart 6 = .ok (.bipush 35, 2) := by decide +kernel
theorem dX11_takePart_8 : decode cX11_takePart 8 = .ok (.if_icmp .eq 27, 3) := by decide +kernel
theorem dX11_takePart_11 : decode cX11_takePart 11 = .ok (.iload_n 3, 1) := by decide +kernel
theorem dX11_takePart_12 : decode cX11_takePart 12 = .ok (.i2l, 1) := by decide +kernel
theorem dX11_takePart_13 : decode cX11_takePart 13 = .ok (.ldc2_w 157, 3) := by decide +kernel
theorem dX11_takePart_16 : decode cX11_takePart 16 = .ok (.ldc2_w 159, 3) := by decide +kernel
theorem dX11_takePart_19 : decode cX11_takePart 19 = .ok (.invokestatic 123, 3) := by decide +kernel
theorem dX11_takePart_22 : decode cX11_takePart 22 = .ok (.ifCond .ne 13, 3) := by decide +kernel
theorem dX11_takePart_25 : decode cX11_takePart 25 = .ok (.aload_n 0, 1) := by decide +kernel
theorem dX11_takePart_26 : decode cX11_takePart 26 = .ok (.iconst 1, 1) := by decide +kernel
theorem dX11_takePart_27 : decode cX11_takePart 27 = .ok (.aload_n 0, 1) := by decide +kernel
theorem dX11_takePart_28 : decode cX11_takePart 28 = .ok (.getfield 136, 3) := by decide +kernel
theorem dX11_takePart_31 : decode cX11_takePart 31 = .ok (.invokevirtual 147, 3) := by decide +kernel
theorem dX11_takePart_34 : decode cX11_takePart 34 = .ok (.ireturn, 1) := by decide +kernel
theorem dX11_takePart_35 : decode cX11_takePart 35 = .ok (.aload_n 0, 1) := by decide +kernel
theorem dX11_takePart_36 : decode cX11_takePart 36 = .ok (.getfield 76, 3) := by decide +kernel
theorem dX11_takePart_39 : decode cX11_takePart 39 = .ok (.iload_n 1, 1) := by decide +kernel
theorem dX11_takePart_40 : decode cX11_takePart 40 = .ok (.iaload, 1) := by decide +kernel
theorem dX11_takePart_41 : decode cX11_takePart 41 = .ok (.bipush 8, 2) := by decide +kernel
theorem dX11_takePart_43 : decode cX11_takePart 43 = .ok (.if_icmp .ne 14, 3) := by decide +kernel
theorem dX11_takePart_46 : decode cX11_takePart 46 = .ok (.aload_n 0, 1) := by decide +kernel
theorem dX11_takePart_47 : decode cX11_takePart 47 = .ok (.bipush 6, 2) := by decide +kernel
theorem dX11_takePart_49 : decode cX11_takePart 49 = .ok (.aload_n 0, 1) := by decide +kernel
theorem dX11_takePart_50 : decode cX11_takePart 50 = .ok (.getfield 136, 3) := by decide +kernel
theorem dX11_takePart_53 : decode cX11_takePart 53 = .ok (.invokevirtual 147, 3) := by decide +kernel
theorem dX11_takePart_56 : decode cX11_takePart 56 = .ok (.ireturn, 1) := by decide +kernel
theorem dX11_takePart_57 : decode cX11_takePart 57 = .ok (.bipush 8, 2) := by decide +kernel
theorem dX11_takePart_59 : decode cX11_takePart 59 = .ok (.iload_n 1, 1) := by decide +kernel
theorem dX11_takePart_60 : decode cX11_takePart 60 = .ok (.imul, 1) := by decide +kernel
theorem dX11_takePart_61 : decode cX11_takePart 61 = .ok (.aload_n 0, 1) := by decide +kernel
theorem dX11_takePart_62 : decode cX11_takePart 62 = .ok (.getfield 76, 3) := by decide +kernel
theorem dX11_takePart_65 : decode cX11_takePart 65 = .ok (.iload_n 1, 1) := by decide +kernel
theorem dX11_takePart_66 : decode cX11_takePart 66 = .ok (.iaload, 1) := by decide +kernel
theorem dX11_takePart_67 : decode cX11_takePart 67 = .ok (.iadd, 1) := by decide +kernel
theorem dX11_takePart_68 : decode cX11_takePart 68 = .ok (.istore 4, 2) := by decide +kernel
theorem dX11_takePart_70 : decode cX11_takePart 70 = .ok (.aload_n 0, 1) := by decide +kernel
theorem dX11_takePart_71 : decode cX11_takePart 71 = .ok (.getfield 82, 3) := by decide +kernel
theorem dX11_takePart_74 : decode cX11_takePart 74 = .ok (.iload 4, 2) := by decide +kernel
theorem dX11_takePart_76 : decode cX11_takePart 76 = .ok (.iload_n 2, 1) := by decide +kernel
theorem dX11_takePart_77 : decode cX11_takePart 77 = .ok (.bastore, 1) := by decide +kernel
theorem dX11_takePart_78 : decode cX11_takePart 78 = .ok (.aload_n 0, 1) := by decide +kernel
theorem dX11_takePart_79 : decode cX11_takePart 79 = .ok (.getfield 76, 3) := by decide +kernel
theorem dX11_takePart_82 : decode cX11_takePart 82 = .ok (.iload_n 1, 1) := by decide +kernel
theorem dX11_takePart_83 : decode cX11_takePart 83 = .ok (.dup2, 1) := by decide +kernel
theorem dX11_takePart_84 : decode cX11_takePart 84 = .ok (.iaload, 1) := by decide +kernel
theorem dX11_takePart_85 : decode cX11_takePart 85 = .ok (.iconst 1, 1) := by decide +kernel
theorem dX11_takePart_86 : decode cX11_takePart 86 = .ok (.iadd, 1) := by decide +kernel
theorem dX11_takePart_87 : decode cX11_takePart 87 = .ok (.iastore, 1) := by decide +kernel
theorem dX11_takePart_88 : decode cX11_takePart 88 = .ok (.iload_n 3, 1) := by decide +kernel
theorem dX11_takePart_89 : decode cX11_takePart 89 = .ok (.bipush 35, 2) := by decide +kernel
theorem dX11_takePart_91 : decode cX11_takePart 91 = .ok (.if_icmp .eq 10, 3) := by decide +kernel
theorem dX11_takePart_94 : decode cX11_takePart 94 = .ok (.aload_n 0, 1) := by decide +kernel
theorem dX11_takePart_95 : decode cX11_takePart 95 = .ok (.iload 4, 2) := by decide +kernel
theorem dX11_takePart_97 : decode cX11_takePart 97 = .ok (.invokevirtual 168, 3) := by decide +kernel
theorem dX11_takePart_100 : decode cX11_takePart 100 = .ok (.ireturn, 1) := by decide +kernel
theorem dX11_takePart_101 : decode cX11_takePart 101 = .ok (.aload_n 0, 1) := by decide +kernel
theorem dX11_takePart_102 : decode cX11_takePart 102 = .ok (.dup, 1) := by decide +kernel
theorem dX11_takePart_103 : decode cX11_takePart 103 = .ok (.getfield 136, 3) := by decide +kernel
theorem dX11_takePart_106 : decode cX11_takePart 106 = .ok (.iconst 1, 1) := by decide +kernel
theorem dX11_takePart_107 : decode cX11_takePart 107 = .ok (.iadd, 1) := by decide +kernel
theorem dX11_takePart_108 : decode cX11_takePart 108 = .ok (.putfield 136, 3) := by decide +kernel
theorem dX11_takePart_111 : decode cX11_takePart 111 = .ok (.aload_n 0, 1) := by decide +kernel
theorem dX11_takePart_112 : decode cX11_takePart 112 = .ok (.getfield 136, 3) := by decide +kernel
