theorem dX0_init_0 : decode cX0_init 0 = .ok (.aload_n 0, 1) := by decide +kernel
theorem dX0_init_1 : decode cX0_init 1 = .ok (.invokespecial 1, 3) := by decide +kernel
theorem dX0_init_4 : decode cX0_init 4 = .ok (.aload_n 0, 1) := by decide +kernel
theorem dX0_init_5 : decode cX0_init 5 = .ok (.bipush 12, 2) := by decide +kernel
theorem dX0_init_7 : decode cX0_init 7 = .ok (.newarray .int, 2) := by decide +kernel
theorem dX0_init_9 : decode cX0_init 9 = .ok (.putfield 9, 3) := by decide +kernel
theorem dX0_init_12 : decode cX0_init 12 = .ok (.aload_n 0, 1) := by decide +kernel
theorem dX0_init_13 : decode cX0_init 13 = .ok (.bipush 12, 2) := by decide +kernel
theorem dX0_init_15 : decode cX0_init 15 = .ok (.newarray .int, 2) := by decide +kernel
theorem dX0_init_17 : decode cX0_init 17 = .ok (.putfield 13, 3) := by decide +kernel
theorem dX0_init_20 : decode cX0_init 20 = .ok (.aload_n 0, 1) := by decide +kernel
theorem dX0_init_21 : decode cX0_init 21 = .ok (.bipush 12, 2) := by decide +kernel
theorem dX0_init_23 : decode cX0_init 23 = .ok (.newarray .int, 2) := by decide +kernel
theorem dX0_init_25 : decode cX0_init 25 = .ok (.putfield 16, 3) := by decide +kernel
theorem dX0_init_28 : decode cX0_init 28 = .ok (.aload_n 0, 1) := by decide +kernel
theorem dX0_init_29 : decode cX0_init 29 = .ok (.bipush 12, 2) := by decide +kernel
theorem dX0_init_31 : decode cX0_init 31 = .ok (.newarray .int, 2) := by decide +kernel
theorem dX0_init_33 : decode cX0_init 33 = .ok (.putfield 19, 3) := by decide +kernel
theorem dX0_init_36 : decode cX0_init 36 = .ok (.aload_n 0, 1) := by decide +kernel
theorem dX0_init_37 : decode cX0_init 37 = .ok (.bipush 96, 2) := by decide +kernel
theorem dX0_init_39 : decode cX0_init 39 = .ok (.newarray .int, 2) := by decide +kernel
theorem dX0_init_41 : decode cX0_init 41 = .ok (.putfield 22, 3) := by decide +kernel
theorem dX0_init_44 : decode cX0_init 44 = .ok (.aload_n 0, 1) := by decide +kernel
theorem dX0_init_45 : decode cX0_init 45 = .ok (.bipush 96, 2) := by decide +kernel
theorem dX0_init_47 : decode cX0_init 47 = .ok (.newarray .boolean, 2) := by decide +kernel
theorem dX0_init_49 : decode cX0_init 49 = .ok (.putfield 25, 3) := by decide +kernel
theorem dX0_init_52 : decode cX0_init 52 = .ok (.aload_n 0, 1) := by decide +kernel
theorem dX0_init_53 : decode cX0_init 53 = .ok (.bipush 96, 2) := by decide +kernel
theorem dX0_init_55 : decode cX0_init 55 = .ok (.newarray .long, 2) := by decide +kernel
theorem dX0_init_57 : decode cX0_init 57 = .ok (.putfield 29, 3) := by decide +kernel
theorem dX0_init_60 : decode cX0_init 60 = .ok (.aload_n 0, 1) := by decide +kernel
theorem dX0_init_61 : decode cX0_init 61 = .ok (.bipush 96, 2) := by decide +kernel
theorem dX0_init_63 : decode cX0_init 63 = .ok (.newarray .int, 2) := by decide +kernel
theorem dX0_init_65 : decode cX0_init 65 = .ok (.putfield 33, 3) := by decide +kernel
theorem dX0_init_68 : decode cX0_init 68 = .ok (.return_, 1) := by decide +kernel
theorem dX0_empty_0 : decode cX0_empty 0 = .ok (.aload_n 0, 1) := by decide +kernel
theorem dX0_empty_1 : decode cX0_empty 1 = .ok (.iconst 0, 1) := by decide +kernel
theorem dX0_empty_2 : decode cX0_empty 2 = .ok (.putfield 36, 3) := by decide +kernel
theorem dX0_empty_5 : decode cX0_empty 5 = .ok (.return_, 1) := by decide +kernel
theorem dX0_count_0 : decode cX0_count 0 = .ok (.aload_n 0, 1) := by decide +kernel
theorem dX0_count_1 : decode cX0_count 1 = .ok (.getfield 36, 3) := by decide +kernel
theorem dX0_count_4 : decode cX0_count 4 = .ok (.ireturn, 1) := by decide +kernel
theorem dX0_isFull_0 : decode cX0_isFull 0 = .ok (.aload_n 0, 1) := by decide +kernel
theorem dX0_isFull_1 : decode cX0_isFull 1 = .ok (.getfield 36, 3) := by decide +kernel
theorem dX0_isFull_4 : decode cX0_isFull 4 = .ok (.bipush 12, 2) := by decide +kernel
theorem dX0_isFull_6 : decode cX0_isFull 6 = .ok (.if_icmp .lt 7, 3) := by decide +kernel
theorem dX0_isFull_9 : decode cX0_isFull 9 = .ok (.iconst 1, 1) := by decide +kernel
theorem dX0_isFull_10 : decode cX0_isFull 10 = .ok (.goto 4, 3) := by decide +kernel
theorem dX0_isFull_13 : decode cX0_isFull 13 = .ok (.iconst 0, 1) := by decide +kernel
theorem dX0_isFull_14 : decode cX0_isFull 14 = .ok (.ireturn, 1) := by decide +kernel
theorem dX0_hasWord_0 : decode cX0_hasWord 0 = .ok (.iconst 0, 1) := by decide +kernel
theorem dX0_hasWord_1 : decode cX0_hasWord 1 = .ok (.istore_n 2, 1) := by decide +kernel
theorem dX0_hasWord_2 : decode cX0_hasWord 2 = .ok (.iload_n 2, 1) := by decide +kernel
theorem dX0_hasWord_3 : decode cX0_hasWord 3 = .ok (.aload_n 0, 1) := by decide +kernel
theorem dX0_hasWord_4 : decode cX0_hasWord 4 = .ok (.getfield 36, 3) := by decide +kernel
theorem dX0_hasWord_7 : decode cX0_hasWord 7 = .ok (.if_icmp .ge 29, 3) := by decide +kernel
theorem dX0_hasWord_10 : decode cX0_hasWord 10 = .ok (.aload_n 0, 1) := by decide +kernel
theorem dX0_hasWord_11 : decode cX0_hasWord 11 = .ok (.iload_n 2, 1) := by decide +kernel
theorem dX0_hasWord_12 : decode cX0_hasWord 12 = .ok (.invokevirtual 40, 3) := by decide +kernel
theorem dX0_hasWord_15 : decode cX0_hasWord 15 = .ok (.ifCond .eq 15, 3) := by decide +kernel
theorem dX0_hasWord_18 : decode cX0_hasWord 18 = .ok (.aload_n 0, 1) := by decide +kernel
theorem dX0_hasWord_19 : decode cX0_hasWord 19 = .ok (.getfield 9, 3) := by decide +kernel
theorem dX0_hasWord_22 : decode cX0_hasWord 22 = .ok (.iload_n 2, 1) := by decide +kernel
theorem dX0_hasWord_23 : decode cX0_hasWord 23 = .ok (.iaload, 1) := by decide +kernel
theorem dX0_hasWord_24 : decode cX0_hasWord 24 = .ok (.iload_n 1, 1) := by decide +kernel
theorem dX0_hasWord_25 : decode cX0_hasWord 25 = .ok (.if_icmp .ne 5, 3) := by decide +kernel
theorem dX0_hasWord_28 : decode cX0_hasWord 28 = .ok (.iconst 1, 1) := by decide +kernel
theorem dX0_hasWord_29 : decode cX0_hasWord 29 = .ok (.ireturn, 1) := by decide +kernel
theorem dX0_hasWord_30 : decode cX0_hasWord 30 = .ok (.iinc 2 1, 3) := by decide +kernel
theorem dX0_hasWord_33 : decode cX0_hasWord 33 = .ok (.goto (-31), 3) := by decide +kernel
theorem dX0_hasWord_36 : decode cX0_hasWord 36 = .ok (.iconst 0, 1) := by decide +kernel
theorem dX0_hasWord_37 : decode cX0_hasWord 37 = .ok (.ireturn, 1) := by decide +kernel
theorem dX0_isWord_0 : decode cX0_isWord 0 = .ok (.aload_n 0, 1) := by decide +kernel
theorem dX0_isWord_1 : decode cX0_isWord 1 = .ok (.getfield 16, 3) := by decide +kernel
theorem dX0_isWord_4 : decode cX0_isWord 4 = .ok (.iload_n 1, 1) := by decide +kernel
theorem dX0_isWord_5 : decode cX0_isWord 5 = .ok (.iaload, 1) := by decide +kernel
theorem dX0_isWord_6 : decode cX0_isWord 6 = .ok (.ifCond .ne 7, 3) := by decide +kernel
theorem dX0_isWord_9 : decode cX0_isWord 9 = .ok (.iconst 1, 1) := by decide +kernel
theorem dX0_isWord_10 : decode cX0_isWord 10 = .ok (.goto 4, 3) := by decide +kernel
theorem dX0_isWord_13 : decode cX0_isWord 13 = .ok (.iconst 0, 1) := by decide +kernel
theorem dX0_isWord_14 : decode cX0_isWord 14 = .ok (.ireturn, 1) := by decide +kernel
theorem dX0_open_0 : decode cX0_open 0 = .ok (.aload_n 0, 1) := by decide +kernel
theorem dX0_open_1 : decode cX0_open 1 = .ok (.getfield 36, 3) := by decide +kernel
theorem dX0_open_4 : decode cX0_open 4 = .ok (.bipush 12, 2) := by decide +kernel
theorem dX0_open_6 : decode cX0_open 6 = .ok (.if_icmp .ge 53, 3) := by decide +kernel
theorem dX0_open_9 : decode cX0_open 9 = .ok (.aload_n 0, 1) := by decide +kernel
theorem dX0_open_10 : decode cX0_open 10 = .ok (.getfield 9, 3) := by decide +kernel
theorem dX0_open_13 : decode cX0_open 13 = .ok (.aload_n 0, 1) := by decide +kernel
theorem dX0_open_14 : decode cX0_open 14 = .ok (.getfield 36, 3) := by decide +kernel
theorem dX0_open_17 : decode cX0_open 17 = .ok (.iload_n 1, 1) := by decide +kernel
theorem dX0_open_18 : decode cX0_open 18 = .ok (.iastore, 1) := by decide +kernel
theorem dX0_open_19 : decode cX0_open 19 = .ok (.aload_n 0, 1) := by decide +kernel
theorem dX0_open_20 : decode cX0_open 20 = .ok (.getfield 13, 3) := by decide +kernel
theorem dX0_open_23 : decode cX0_open 23 = .ok (.aload_n 0, 1) := by decide +kernel
theorem dX0_open_24 : decode cX0_open 24 = .ok (.getfield 36, 3) := by decide +kernel
theorem dX0_open_27 : decode cX0_open 27 = .ok (.iload_n 2, 1) := by decide +kernel
theorem dX0_open_28 : decode cX0_open 28 = .ok (.iastore, 1) := by decide +kernel
theorem dX0_open_29 : decode cX0_open 29 = .ok (.aload_n 0, 1) := by decide +kernel
theorem dX0_open_30 : decode cX0_open 30 = .ok (.getfield 16, 3) := by decide +kernel
theorem dX0_open_33 : decode cX0_open 33 = .ok (.aload_n 0, 1) := by decide +kernel
theorem dX0_open_34 : decode cX0_open 34 = .ok (.getfield 36, 3) := by decide +kernel
theorem dX0_open_37 : decode cX0_open 37 = .ok (.iload_n 3, 1) := by decide +kernel
theorem dX0_open_38 : decode cX0_open 38 = .ok (.iastore, 1) := by decide +kernel
theorem dX0_open_39 : decode cX0_open 39 = .ok (.aload_n 0, 1) := by decide +kernel
theorem dX0_open_40 : decode cX0_open 40 = .ok (.getfield 19, 3) := by decide +kernel
theorem dX0_open_43 : decode cX0_open 43 = .ok (.aload_n 0, 1) := by decide +kernel
theorem dX0_open_44 : decode cX0_open 44 = .ok (.getfield 36, 3) := by decide +kernel
theorem dX0_open_47 : decode cX0_open 47 = .ok (.iconst 0, 1) := by decide +kernel
theorem dX0_open_48 : decode cX0_open 48 = .ok (.iastore, 1) := by decide +kernel
theorem dX0_open_49 : decode cX0_open 49 = .ok (.aload_n 0, 1) := by decide +kernel
theorem dX0_open_50 : decode cX0_open 50 = .ok (.dup, 1) := by decide +kernel
theorem dX0_open_51 : decode cX0_open 51 = .ok (.getfield 36, 3) := by decide +kernel
theorem dX0_open_54 : decode cX0_open 54 = .ok (.iconst 1, 1) := by decide +kernel
theorem dX0_open_55 : decode cX0_open 55 = .ok (.iadd, 1) := by decide +kernel
theorem dX0_open_56 : decode cX0_open 56 = .ok (.putfield 36, 3) := by decide +kernel
theorem dX0_open_59 : decode cX0_open 59 = .ok (.return_, 1) := by decide +kernel
theorem dX0_latestParts_0 : decode cX0_latestParts 0 = .ok (.aload_n 0, 1) := by decide +kernel
theorem dX0_latestParts_1 : decode cX0_latestParts 1 = .ok (.getfield 36, 3) := by decide +kernel
theorem dX0_latestParts_4 : decode cX0_latestParts 4 = .ok (.ifCond .ne 7, 3) := by decide +kernel
theorem dX0_latestParts_7 : decode cX0_latestParts 7 = .ok (.iconst 0, 1) := by decide +kernel
theorem dX0_latestParts_8 : decode cX0_latestParts 8 = .ok (.goto 14, 3) := by decide +kernel
theorem dX0_latestParts_11 : decode cX0_latestParts 11 = .ok (.aload_n 0, 1) := by decide +kernel
theorem dX0_latestParts_12 : decode cX0_latestParts 12 = .ok (.getfield 19, 3) := by decide +kernel
theorem dX0_latestParts_15 : decode cX0_latestParts 15 = .ok (.aload_n 0, 1) := by decide +kernel
theorem dX0_latestParts_16 : decode cX0_latestParts 16 = .ok (.getfield 36, 3) := by decide +kernel
theorem dX0_latestParts_19 : decode cX0_latestParts 19 = .ok (.iconst 1, 1) := by decide +kernel
theorem dX0_latestParts_20 : decode cX0_latestParts 20 = .ok (.isub, 1) := by decide +kernel
theorem dX0_latestParts_21 : decode cX0_latestParts 21 = .ok (.iaload, 1) := by decide +kernel
theorem dX0_latestParts_22 : decode cX0_latestParts 22 = .ok (.ireturn, 1) := by decide +kernel
theorem dX0_addPart_0 : decode cX0_addPart 0 = .ok (.aload_n 0, 1) := by decide +kernel
theorem dX0_addPart_1 : decode cX0_addPart 1 = .ok (.getfield 36, 3) := by decide +kernel
theorem dX0_addPart_4 : decode cX0_addPart 4 = .ok (.ifCond .le 90, 3) := by decide +kernel
theorem dX0_addPart_7 : decode cX0_addPart 7 = .ok (.aload_n 0, 1) := by decide +kernel
theorem dX0_addPart_8 : decode cX0_addPart 8 = .ok (.getfield 19, 3) := by decide +kernel
theorem dX0_addPart_11 : decode cX0_addPart 11 = .ok (.aload_n 0, 1) := by decide +kernel
theorem dX0_addPart_12 : decode cX0_addPart 12 = .ok (.getfield 36, 3) := by decide +kernel
theorem dX0_addPart_15 : decode cX0_addPart 15 = .ok (.iconst 1, 1) := by decide +kernel
theorem dX0_addPart_16 : decode cX0_addPart 16 = .ok (.isub, 1) := by decide +kernel
theorem dX0_addPart_17 : decode cX0_addPart 17 = .ok (.iaload, 1) := by decide +kernel
theorem dX0_addPart_18 : decode cX0_addPart 18 = .ok (.bipush 8, 2) := by decide +kernel
theorem dX0_addPart_20 : decode cX0_addPart 20 = .ok (.if_icmp .ge 74, 3) := by decide +kernel
theorem dX0_addPart_23 : decode cX0_addPart 23 = .ok (.aload_n 0, 1) := by decide +kernel
theorem dX0_addPart_24 : decode cX0_addPart 24 = .ok (.getfield 36, 3) := by decide +kernel
theorem dX0_addPart_27 : decode cX0_addPart 27 = .ok (.iconst 1, 1) := by decide +kernel
theorem dX0_addPart_28 : decode cX0_addPart 28 = .ok (.isub, 1) := by decide +kernel
theorem dX0_addPart_29 : decode cX0_addPart 29 = .ok (.bipush 8, 2) := by decide +kernel
theorem dX0_addPart_31 : decode cX0_addPart 31 = .ok (.imul, 1) := by decide +kernel
theorem dX0_addPart_32 : decode cX0_addPart 32 = .ok (.aload_n 0, 1) := by decide +kernel
theorem dX0_addPart_33 : decode cX0_addPart 33 = .ok (.getfield 19, 3) := by decide +kernel
theorem dX0_addPart_36 : decode cX0_addPart 36 = .ok (.aload_n 0, 1) := by decide +kernel
theorem dX0_addPart_37 : decode cX0_addPart 37 = .ok (.getfield 36, 3) := by decide +kernel
theorem dX0_addPart_40 : decode cX0_addPart 40 = .ok (.iconst 1, 1) := by decide +kernel
theorem dX0_addPart_41 : decode cX0_addPart 41 = .ok (.isub, 1) := by decide +kernel
theorem dX0_addPart_42 : decode cX0_addPart 42 = .ok (.iaload, 1) := by decide +kernel
theorem dX0_addPart_43 : decode cX0_addPart 43 = .ok (.iadd, 1) := by decide +kernel
theorem dX0_addPart_44 : decode cX0_addPart 44 = .ok (.istore 6, 2) := by decide +kernel
theorem dX0_addPart_46 : decode cX0_addPart 46 = .ok (.aload_n 0, 1) := by decide +kernel
theorem dX0_addPart_47 : decode cX0_addPart 47 = .ok (.getfield 22, 3) := by decide +kernel
theorem dX0_addPart_50 : decode cX0_addPart 50 = .ok (.iload 6, 2) := by decide +kernel
theorem dX0_addPart_52 : decode cX0_addPart 52 = .ok (.iload_n 1, 1) := by decide +kernel
theorem dX0_addPart_53 : decode cX0_addPart 53 = .ok (.iastore, 1) := by decide +kernel
theorem dX0_addPart_54 : decode cX0_addPart 54 = .ok (.aload_n 0, 1) := by decide +kernel
theorem dX0_addPart_55 : decode cX0_addPart 55 = .ok (.getfield 25, 3) := by decide +kernel
theorem dX0_addPart_58 : decode cX0_addPart 58 = .ok (.iload 6, 2) := by decide +kernel
theorem dX0_addPart_60 : decode cX0_addPart 60 = .ok (.iload_n 2, 1) := by decide +kernel
theorem dX0_addPart_61 : decode cX0_addPart 61 = .ok (.bastore, 1) := by decide +kernel
theorem dX0_addPart_62 : decode cX0_addPart 62 = .ok (.aload_n 0, 1) := by decide +kernel
theorem dX0_addPart_63 : decode cX0_addPart 63 = .ok (.getfield 29, 3) := by decide +kernel
theorem dX0_addPart_66 : decode cX0_addPart 66 = .ok (.iload 6, 2) := by decide +kernel
theorem dX0_addPart_68 : decode cX0_addPart 68 = .ok (.lload_n 3, 1) := by decide +kernel
theorem dX0_addPart_69 : decode cX0_addPart 69 = .ok (.lastore, 1) := by decide +kernel
theorem dX0_addPart_70 : decode cX0_addPart 70 = .ok (.aload_n 0, 1) := by decide +kernel
theorem dX0_addPart_71 : decode cX0_addPart 71 = .ok (.getfield 33, 3) := by decide +kernel
theorem dX0_addPart_74 : decode cX0_addPart 74 = .ok (.iload 6, 2) := by decide +kernel
theorem dX0_addPart_76 : decode cX0_addPart 76 = .ok (.iload 5, 2) := by decide +kernel
theorem dX0_addPart_78 : decode cX0_addPart 78 = .ok (.iastore, 1) := by decide +kernel
theorem dX0_addPart_79 : decode cX0_addPart 79 = .ok (.aload_n 0, 1) := by decide +kernel
theorem dX0_addPart_80 : decode cX0_addPart 80 = .ok (.getfield 19, 3) := by decide +kernel
theorem dX0_addPart_83 : decode cX0_addPart 83 = .ok (.aload_n 0, 1) := by decide +kernel
theorem dX0_addPart_84 : decode cX0_addPart 84 = .ok (.getfield 36, 3) := by decide +kernel
theorem dX0_addPart_87 : decode cX0_addPart 87 = .ok (.iconst 1, 1) := by decide +kernel
theorem dX0_addPart_88 : decode cX0_addPart 88 = .ok (.isub, 1) := by decide +kernel
theorem dX0_addPart_89 : decode cX0_addPart 89 = .ok (.dup2, 1) := by decide +kernel
theorem dX0_addPart_90 : decode cX0_addPart 90 = .ok (.iaload, 1) := by decide +kernel
theorem dX0_addPart_91 : decode cX0_addPart 91 = .ok (.iconst 1, 1) := by decide +kernel
theorem dX0_addPart_92 : decode cX0_addPart 92 = .ok (.iadd, 1) := by decide +kernel
theorem dX0_addPart_93 : decode cX0_addPart 93 = .ok (.iastore, 1) := by decide +kernel
theorem dX0_addPart_94 : decode cX0_addPart 94 = .ok (.return_, 1) := by decide +kernel
theorem dX1_init_0 : decode cX1_init 0 = .ok (.aload_n 0, 1) := by decide +kernel
theorem dX1_init_1 : decode cX1_init 1 = .ok (.invokespecial 1, 3) := by decide +kernel
theorem dX1_init_4 : decode cX1_init 4 = .ok (.aload_n 0, 1) := by decide +kernel
theorem dX1_init_5 : decode cX1_init 5 = .ok (.bipush 32, 2) := by decide +kernel
theorem dX1_init_7 : decode cX1_init 7 = .ok (.newarray .long, 2) := by decide +kernel
theorem dX1_init_9 : decode cX1_init 9 = .ok (.putfield 9, 3) := by decide +kernel
theorem dX1_init_12 : decode cX1_init 12 = .ok (.return_, 1) := by decide +kernel
theorem dX1_size_0 : decode cX1_size 0 = .ok (.aload_n 0, 1) := by decide +kernel
theorem dX1_size_1 : decode cX1_size 1 = .ok (.getfield 15, 3) := by decide +kernel
theorem dX1_size_4 : decode cX1_size 4 = .ok (.ireturn, 1) := by decide +kernel
theorem dX1_from_0 : decode cX1_from 0 = .ok (.aload_n 0, 1) := by decide +kernel
theorem dX1_from_1 : decode cX1_from 1 = .ok (.getfield 9, 3) := by decide +kernel
theorem dX1_from_4 : decode cX1_from 4 = .ok (.lconst 0, 1) := by decide +kernel
theorem dX1_from_5 : decode cX1_from 5 = .ok (.invokestatic 19, 3) := by decide +kernel
theorem dX1_from_8 : decode cX1_from 8 = .ok (.aload_n 0, 1) := by decide +kernel
theorem dX1_from_9 : decode cX1_from 9 = .ok (.iconst 0, 1) := by decide +kernel
theorem dX1_from_10 : decode cX1_from 10 = .ok (.putfield 15, 3) := by decide +kernel
theorem dX1_from_13 : decode cX1_from 13 = .ok (.iconst 0, 1) := by decide +kernel
theorem dX1_from_14 : decode cX1_from 14 = .ok (.istore_n 3, 1) := by decide +kernel
theorem dX1_from_15 : decode cX1_from 15 = .ok (.iload_n 3, 1) := by decide +kernel
theorem dX1_from_16 : decode cX1_from 16 = .ok (.iconst 5, 1) := by decide +kernel
theorem dX1_from_17 : decode cX1_from 17 = .ok (.if_icmp .ge 73, 3) := by decide +kernel
theorem dX1_from_20 : decode cX1_from 20 = .ok (.aload_n 1, 1) := by decide +kernel
theorem dX1_from_21 : decode cX1_from 21 = .ok (.iload_n 2, 1) := by decide +kernel
theorem dX1_from_22 : decode cX1_from 22 = .ok (.iload_n 3, 1) := by decide +kernel
theorem dX1_from_23 : decode cX1_from 23 = .ok (.invokevirtual 25, 3) := by decide +kernel
theorem dX1_from_26 : decode cX1_from 26 = .ok (.lstore 4, 2) := by decide +kernel
theorem dX1_from_28 : decode cX1_from 28 = .ok (.bipush 55, 2) := by decide +kernel
theorem dX1_from_30 : decode cX1_from 30 = .ok (.istore 6, 2) := by decide +kernel
theorem dX1_from_32 : decode cX1_from 32 = .ok (.iload 6, 2) := by decide +kernel
theorem dX1_from_34 : decode cX1_from 34 = .ok (.ifCond .lt 50, 3) := by decide +kernel
theorem dX1_from_37 : decode cX1_from 37 = .ok (.lload 4, 2) := by decide +kernel
theorem dX1_from_39 : decode cX1_from 39 = .ok (.iload 6, 2) := by decide +kernel
theorem dX1_from_41 : decode cX1_from 41 = .ok (.invokestatic 31, 3) := by decide +kernel
theorem dX1_from_44 : decode cX1_from 44 = .ok (.istore 7, 2) := by decide +kernel
theorem dX1_from_46 : decode cX1_from 46 = .ok (.iload 7, 2) := by decide +kernel
theorem dX1_from_48 : decode cX1_from 48 = .ok (.ifCond .ne 4, 3) := by decide +kernel
theorem dX1_from_51 : decode cX1_from 51 = .ok (.return_, 1) := by decide +kernel
theorem dX1_from_52 : decode cX1_from 52 = .ok (.aload_n 0, 1) := by decide +kernel
theorem dX1_from_53 : decode cX1_from 53 = .ok (.getfield 9, 3) := by decide +kernel
theorem dX1_from_56 : decode cX1_from 56 = .ok (.iload 7, 2) := by decide +kernel
theorem dX1_from_58 : decode cX1_from 58 = .ok (.dup2, 1) := by decide +kernel
theorem dX1_from_59 : decode cX1_from 59 = .ok (.laload, 1) := by decide +kernel
theorem dX1_from_60 : decode cX1_from 60 = .ok (.lconst 1, 1) := by decide +kernel
theorem dX1_from_61 : decode cX1_from 61 = .ok (.aload_n 0, 1) := by decide +kernel
theorem dX1_from_62 : decode cX1_from 62 = .ok (.getfield 15, 3) := by decide +kernel
theorem dX1_from_65 : decode cX1_from 65 = .ok (.lshl, 1) := by decide +kernel
theorem dX1_from_66 : decode cX1_from 66 = .ok (.lor, 1) := by decide +kernel
theorem dX1_from_67 : decode cX1_from 67 = .ok (.lastore, 1) := by decide +kernel
theorem dX1_from_68 : decode cX1_from 68 = .ok (.aload_n 0, 1) := by decide +kernel
theorem dX1_from_69 : decode cX1_from 69 = .ok (.dup, 1) := by decide +kernel
theorem dX1_from_70 : decode cX1_from 70 = .ok (.getfield 15, 3) := by decide +kernel
theorem dX1_from_73 : decode cX1_from 73 = .ok (.iconst 1, 1) := by decide +kernel
theorem dX1_from_74 : decode cX1_from 74 = .ok (.iadd, 1) := by decide +kernel
theorem dX1_from_75 : decode cX1_from 75 = .ok (.putfield 15, 3) := by decide +kernel
theorem dX1_from_78 : decode cX1_from 78 = .ok (.iinc 6 (-5), 3) := by decide +kernel
theorem dX1_from_81 : decode cX1_from 81 = .ok (.goto (-49), 3) := by decide +kernel
theorem dX1_from_84 : decode cX1_from 84 = .ok (.iinc 3 1, 3) := by decide +kernel
theorem dX1_from_87 : decode cX1_from 87 = .ok (.goto (-72), 3) := by decide +kernel
theorem dX1_from_90 : decode cX1_from 90 = .ok (.return_, 1) := by decide +kernel
theorem dX1_to_0 : decode cX1_to 0 = .ok (.ldc2_w 35, 3) := by decide +kernel
theorem dX1_to_3 : decode cX1_to 3 = .ok (.lstore_n 3, 1) := by decide +kernel
theorem dX1_to_4 : decode cX1_to 4 = .ok (.lconst 0, 1) := by decide +kernel
theorem dX1_to_5 : decode cX1_to 5 = .ok (.lstore 5, 2) := by decide +kernel
theorem dX1_to_7 : decode cX1_to 7 = .ok (.aload_n 0, 1) := by decide +kernel
theorem dX1_to_8 : decode cX1_to 8 = .ok (.getfield 15, 3) := by decide +kernel
theorem dX1_to_11 : decode cX1_to 11 = .ok (.ifCond .le 14, 3) := by decide +kernel
theorem dX1_to_14 : decode cX1_to 14 = .ok (.lconst 1, 1) := by decide +kernel
theorem dX1_to_15 : decode cX1_to 15 = .ok (.aload_n 0, 1) := by decide +kernel
theorem dX1_to_16 : decode cX1_to 16 = .ok (.getfield 15, 3) := by decide +kernel
theorem dX1_to_19 : decode cX1_to 19 = .ok (.iconst 1, 1) := by decide +kernel
theorem dX1_to_20 : decode cX1_to 20 = .ok (.isub, 1) := by decide +kernel
theorem dX1_to_21 : decode cX1_to 21 = .ok (.lshl, 1) := by decide +kernel
theorem dX1_to_22 : decode cX1_to 22 = .ok (.goto 4, 3) := by decide +kernel
theorem dX1_to_25 : decode cX1_to 25 = .ok (.lconst 0, 1) := by decide +kernel
theorem dX1_to_26 : decode cX1_to 26 = .ok (.lstore 7, 2) := by decide +kernel
theorem dX1_to_28 : decode cX1_to 28 = .ok (.aload_n 0, 1) := by decide +kernel
theorem dX1_to_29 : decode cX1_to 29 = .ok (.getfield 15, 3) := by decide +kernel
theorem dX1_to_32 : decode cX1_to 32 = .ok (.istore 9, 2) := by decide +kernel
theorem dX1_to_34 : decode cX1_to 34 = .ok (.iconst 0, 1) := by decide +kernel
theorem dX1_to_35 : decode cX1_to 35 = .ok (.istore 10, 2) := by decide +kernel
theorem dX1_to_37 : decode cX1_to 37 = .ok (.iload 10, 2) := by decide +kernel
theorem dX1_to_39 : decode cX1_to 39 = .ok (.iconst 5, 1) := by decide +kernel
theorem dX1_to_40 : decode cX1_to 40 = .ok (.if_icmp .ge 163, 3) := by decide +kernel
theorem dX1_to_43 : decode cX1_to 43 = .ok (.aload_n 1, 1) := by decide +kernel
theorem dX1_to_44 : decode cX1_to 44 = .ok (.iload_n 2, 1) := by decide +kernel
theorem dX1_to_45 : decode cX1_to 45 = .ok (.iload 10, 2) := by decide +kernel
theorem dX1_to_47 : decode cX1_to 47 = .ok (.invokevirtual 25, 3) := by decide +kernel
theorem dX1_to_50 : decode cX1_to 50 = .ok (.lstore 11, 2) := by decide +kernel
theorem dX1_to_52 : decode cX1_to 52 = .ok (.bipush 55, 2) := by decide +kernel
theorem dX1_to_54 : decode cX1_to 54 = .ok (.istore 13, 2) := by decide +kernel
theorem dX1_to_56 : decode cX1_to 56 = .ok (.iload 13, 2) := by decide +kernel
theorem dX1_to_58 : decode cX1_to 58 = .ok (.ifCond .lt 139, 3) := by decide +kernel
theorem dX1_to_61 : decode cX1_to 61 = .ok (.lload 11, 2) := by decide +kernel
theorem dX1_to_63 : decode cX1_to 63 = .ok (.iload 13, 2) := by decide +kernel
theorem dX1_to_65 : decode cX1_to 65 = .ok (.invokestatic 31, 3) := by decide +kernel
theorem dX1_to_68 : decode cX1_to 68 = .ok (.istore 14, 2) := by decide +kernel
theorem dX1_to_70 : decode cX1_to 70 = .ok (.iload 14, 2) := by decide +kernel
theorem dX1_to_72 : decode cX1_to 72 = .ok (.ifCond .ne 6, 3) := by decide +kernel
theorem dX1_to_75 : decode cX1_to 75 = .ok (.iload 9, 2) := by decide +kernel
theorem dX1_to_77 : decode cX1_to 77 = .ok (.ireturn, 1) := by decide +kernel
theorem dX1_to_78 : decode cX1_to 78 = .ok (.aload_n 0, 1) := by decide +kernel
theorem dX1_to_79 : decode cX1_to 79 = .ok (.getfield 9, 3) := by decide +kernel
theorem dX1_to_82 : decode cX1_to 82 = .ok (.iload 14, 2) := by decide +kernel
theorem dX1_to_84 : decode cX1_to 84 = .ok (.laload, 1) := by decide +kernel
theorem dX1_to_85 : decode cX1_to 85 = .ok (.lstore 15, 2) := by decide +kernel
theorem dX1_to_87 : decode cX1_to 87 = .ok (.lload 15, 2) := by decide +kernel
theorem dX1_to_89 : decode cX1_to 89 = .ok (.lload_n 3, 1) := by decide +kernel
theorem dX1_to_90 : decode cX1_to 90 = .ok (.land, 1) := by decide +kernel
theorem dX1_to_91 : decode cX1_to 91 = .ok (.lload_n 3, 1) := by decide +kernel
theorem dX1_to_92 : decode cX1_to 92 = .ok (.ladd, 1) := by decide +kernel
theorem dX1_to_93 : decode cX1_to 93 = .ok (.lload_n 3, 1) := by decide +kernel
theorem dX1_to_94 : decode cX1_to 94 = .ok (.lxor, 1) := by decide +kernel
theorem dX1_to_95 : decode cX1_to 95 = .ok (.lload 15, 2) := by decide +kernel
theorem dX1_to_97 : decode cX1_to 97 = .ok (.lor, 1) := by decide +kernel
theorem dX1_to_98 : decode cX1_to 98 = .ok (.lstore 17, 2) := by decide +kernel
theorem dX1_to_100 : decode cX1_to 100 = .ok (.lload 5, 2) := by decide +kernel
theorem dX1_to_102 : decode cX1_to 102 = .ok (.lload 17, 2) := by decide +kernel
theorem dX1_to_104 : decode cX1_to 104 = .ok (.lload_n 3, 1) := by decide +kernel
theorem dX1_to_105 : decode cX1_to 105 = .ok (.lor, 1) := by decide +kernel
theorem dX1_to_106 : decode cX1_to 106 = .ok (.ldc2_w 35, 3) := by decide +kernel
theorem dX1_to_109 : decode cX1_to 109 = .ok (.lxor, 1) := by decide +kernel
theorem dX1_to_110 : decode cX1_to 110 = .ok (.lor, 1) := by decide +kernel
theorem dX1_to_111 : decode cX1_to 111 = .ok (.lstore 19, 2) := by decide +kernel
theorem dX1_to_113 : decode cX1_to 113 = .ok (.lload_n 3, 1) := by decide +kernel
theorem dX1_to_114 : decode cX1_to 114 = .ok (.lload 17, 2) := by decide +kernel
theorem dX1_to_116 : decode cX1_to 116 = .ok (.land, 1) := by decide +kernel
theorem dX1_to_117 : decode cX1_to 117 = .ok (.lstore 21, 2) := by decide +kernel
theorem dX1_to_119 : decode cX1_to 119 = .ok (.aload_n 0, 1) := by decide +kernel
theorem dX1_to_120 : decode cX1_to 120 = .ok (.getfield 15, 3) := by decide +kernel
theorem dX1_to_123 : decode cX1_to 123 = .ok (.ifCond .eq 13, 3) := by decide +kernel
theorem dX1_to_126 : decode cX1_to 126 = .ok (.lload 19, 2) := by decide +kernel
theorem dX1_to_128 : decode cX1_to 128 = .ok (.lload 7, 2) := by decide +kernel
theorem dX1_to_130 : decode cX1_to 130 = .ok (.land, 1) := by decide +kernel
theorem dX1_to_131 : decode cX1_to 131 = .ok (.lconst 0, 1) := by decide +kernel
theorem dX1_to_132 : decode cX1_to 132 = .ok (.lcmp, 1) := by decide +kernel
theorem dX1_to_133 : decode cX1_to 133 = .ok (.ifCond .eq 9, 3) := by decide +kernel
theorem dX1_to_136 : decode cX1_to 136 = .ok (.iinc 9 1, 3) := by decide +kernel
theorem dX1_to_139 : decode cX1_to 139 = .ok (.goto 16, 3) := by decide +kernel
theorem dX1_to_142 : decode cX1_to 142 = .ok (.lload 21, 2) := by decide +kernel
theorem dX1_to_144 : decode cX1_to 144 = .ok (.lload 7, 2) := by decide +kernel
theorem dX1_to_146 : decode cX1_to 146 = .ok (.land, 1) := by decide +kernel
theorem dX1_to_147 : decode cX1_to 147 = .ok (.lconst 0, 1) := by decide +kernel
theorem dX1_to_148 : decode cX1_to 148 = .ok (.lcmp, 1) := by decide +kernel
theorem dX1_to_149 : decode cX1_to 149 = .ok (.ifCond .eq 6, 3) := by decide +kernel
theorem dX1_to_152 : decode cX1_to 152 = .ok (.iinc 9 (-1), 3) := by decide +kernel
theorem dX1_to_155 : decode cX1_to 155 = .ok (.lload 19, 2) := by decide +kernel
theorem dX1_to_157 : decode cX1_to 157 = .ok (.iconst 1, 1) := by decide +kernel
theorem dX1_to_158 : decode cX1_to 158 = .ok (.lshl, 1) := by decide +kernel
theorem dX1_to_159 : decode cX1_to 159 = .ok (.lconst 1, 1) := by decide +kernel
theorem dX1_to_160 : decode cX1_to 160 = .ok (.lor, 1) := by decide +kernel
theorem dX1_to_161 : decode cX1_to 161 = .ok (.lstore 19, 2) := by decide +kernel
theorem dX1_to_163 : decode cX1_to 163 = .ok (.lload 21, 2) := by decide +kernel
theorem dX1_to_165 : decode cX1_to 165 = .ok (.iconst 1, 1) := by decide +kernel
theorem dX1_to_166 : decode cX1_to 166 = .ok (.lshl, 1) := by decide +kernel
theorem dX1_to_167 : decode cX1_to 167 = .ok (.lload 15, 2) := by decide +kernel
theorem dX1_to_169 : decode cX1_to 169 = .ok (.lload 5, 2) := by decide +kernel
theorem dX1_to_171 : decode cX1_to 171 = .ok (.lor, 1) := by decide +kernel
theorem dX1_to_172 : decode cX1_to 172 = .ok (.lload 19, 2) := by decide +kernel
theorem dX1_to_174 : decode cX1_to 174 = .ok (.lor, 1) := by decide +kernel
theorem dX1_to_175 : decode cX1_to 175 = .ok (.ldc2_w 35, 3) := by decide +kernel
theorem dX1_to_178 : decode cX1_to 178 = .ok (.lxor, 1) := by decide +kernel
theorem dX1_to_179 : decode cX1_to 179 = .ok (.lor, 1) := by decide +kernel
theorem dX1_to_180 : decode cX1_to 180 = .ok (.lstore_n 3, 1) := by decide +kernel
theorem dX1_to_181 : decode cX1_to 181 = .ok (.lload 19, 2) := by decide +kernel
theorem dX1_to_183 : decode cX1_to 183 = .ok (.lload 15, 2) := by decide +kernel
theorem dX1_to_185 : decode cX1_to 185 = .ok (.lload 5, 2) := by decide +kernel
theorem dX1_to_187 : decode cX1_to 187 = .ok (.lor, 1) := by decide +kernel
theorem dX1_to_188 : decode cX1_to 188 = .ok (.land, 1) := by decide +kernel
theorem dX1_to_189 : decode cX1_to 189 = .ok (.lstore 5, 2) := by decide +kernel
theorem dX1_to_191 : decode cX1_to 191 = .ok (.iinc 13 (-5), 3) := by decide +kernel
theorem dX1_to_194 : decode cX1_to 194 = .ok (.goto (-138), 3) := by decide +kernel
theorem dX1_to_197 : decode cX1_to 197 = .ok (.iinc 10 1, 3) := by decide +kernel
theorem dX1_to_200 : decode cX1_to 200 = .ok (.goto (-163), 3) := by decide +kernel
theorem dX1_to_203 : decode cX1_to 203 = .ok (.iload 9, 2) := by decide +kernel
theorem dX1_to_205 : decode cX1_to 205 = .ok (.ireturn, 1) := by decide +kernel
theorem dX2_init_0 : decode cX2_init 0 = .ok (.aload_n 0, 1) := by decide +kernel
theorem dX2_init_1 : decode cX2_init 1 = .ok (.invokespecial 3, 3) := by decide +kernel
theorem dX2_init_4 : decode cX2_init 4 = .ok (.aload_n 0, 1) := by decide +kernel
theorem dX2_init_5 : decode cX2_init 5 = .ok (.iconst (-1), 1) := by decide +kernel
theorem dX2_init_6 : decode cX2_init 6 = .ok (.putfield 9, 3) := by decide +kernel
theorem dX2_init_9 : decode cX2_init 9 = .ok (.aload_n 0, 1) := by decide +kernel
theorem dX2_init_10 : decode cX2_init 10 = .ok (.aload_n 1, 1) := by decide +kernel
theorem dX2_init_11 : decode cX2_init 11 = .ok (.putfield 15, 3) := by decide +kernel
theorem dX2_init_14 : decode cX2_init 14 = .ok (.aload_n 0, 1) := by decide +kernel
theorem dX2_init_15 : decode cX2_init 15 = .ok (.aload_n 2, 1) := by decide +kernel
theorem dX2_init_16 : decode cX2_init 16 = .ok (.putfield 19, 3) := by decide +kernel
theorem dX2_init_19 : decode cX2_init 19 = .ok (.return_, 1) := by decide +kernel
theorem dX2_faultNumber_0 : decode cX2_faultNumber 0 = .ok (.aload_n 0, 1) := by decide +kernel
theorem dX2_faultNumber_1 : decode cX2_faultNumber 1 = .ok (.getfield 23, 3) := by decide +kernel
theorem dX2_faultNumber_4 : decode cX2_faultNumber 4 = .ok (.ireturn, 1) := by decide +kernel
theorem dX2_faultByte_0 : decode cX2_faultByte 0 = .ok (.aload_n 0, 1) := by decide +kernel
theorem dX2_faultByte_1 : decode cX2_faultByte 1 = .ok (.getfield 9, 3) := by decide +kernel
theorem dX2_faultByte_4 : decode cX2_faultByte 4 = .ok (.ireturn, 1) := by decide +kernel
theorem dX2_parse_0 : decode cX2_parse 0 = .ok (.aload_n 0, 1) := by decide +kernel
theorem dX2_parse_1 : decode cX2_parse 1 = .ok (.iconst 0, 1) := by decide +kernel
theorem dX2_parse_2 : decode cX2_parse 2 = .ok (.putfield 23, 3) := by decide +kernel
theorem dX2_parse_5 : decode cX2_parse 5 = .ok (.aload_n 0, 1) := by decide +kernel
theorem dX2_parse_6 : decode cX2_parse 6 = .ok (.iconst (-1), 1) := by decide +kernel
theorem dX2_parse_7 : decode cX2_parse 7 = .ok (.putfield 9, 3) := by decide +kernel
theorem dX2_parse_10 : decode cX2_parse 10 = .ok (.aload_n 0, 1) := by decide +kernel
theorem dX2_parse_11 : decode cX2_parse 11 = .ok (.getfield 19, 3) := by decide +kernel
theorem dX2_parse_14 : decode cX2_parse 14 = .ok (.invokevirtual 26, 3) := by decide +kernel
theorem dX2_parse_17 : decode cX2_parse 17 = .ok (.aload_n 0, 1) := by decide +kernel
theorem dX2_parse_18 : decode cX2_parse 18 = .ok (.getfield 15, 3) := by decide +kernel
theorem dX2_parse_21 : decode cX2_parse 21 = .ok (.iconst 0, 1) := by decide +kernel
theorem dX2_parse_22 : decode cX2_parse 22 = .ok (.invokevirtual 31, 3) := by decide +kernel
theorem dX2_parse_25 : decode cX2_parse 25 = .ok (.iconst 0, 1) := by decide +kernel
theorem dX2_parse_26 : decode cX2_parse 26 = .ok (.istore_n 1, 1) := by decide +kernel
theorem dX2_parse_27 : decode cX2_parse 27 = .ok (.iload_n 1, 1) := by decide +kernel
theorem dX2_parse_28 : decode cX2_parse 28 = .ok (.bipush 12, 2) := by decide +kernel
theorem dX2_parse_30 : decode cX2_parse 30 = .ok (.if_icmp .gt 38, 3) := by decide +kernel
theorem dX2_parse_33 : decode cX2_parse 33 = .ok (.aload_n 0, 1) := by decide +kernel
theorem dX2_parse_34 : decode cX2_parse 34 = .ok (.getfield 15, 3) := by decide +kernel
theorem dX2_parse_37 : decode cX2_parse 37 = .ok (.invokevirtual 37, 3) := by decide +kernel
theorem dX2_parse_40 : decode cX2_parse 40 = .ok (.aload_n 0, 1) := by decide +kernel
theorem dX2_parse_41 : decode cX2_parse 41 = .ok (.getfield 15, 3) := by decide +kernel
theorem dX2_parse_44 : decode cX2_parse 44 = .ok (.invokevirtual 40, 3) := by decide +kernel
theorem dX2_parse_47 : decode cX2_parse 47 = .ok (.iconst (-1), 1) := by decide +kernel
theorem dX2_parse_48 : decode cX2_parse 48 = .ok (.if_icmp .ne 5, 3) := by decide +kernel
theorem dX2_parse_51 : decode cX2_parse 51 = .ok (.iconst 1, 1) := by decide +kernel
theorem dX2_parse_52 : decode cX2_parse 52 = .ok (.ireturn, 1) := by decide +kernel
theorem dX2_parse_53 : decode cX2_parse 53 = .ok (.aload_n 0, 1) := by decide +kernel
theorem dX2_parse_54 : decode cX2_parse 54 = .ok (.invokevirtual 44, 3) := by decide +kernel
theorem dX2_parse_57 : decode cX2_parse 57 = .ok (.ifCond .ne 5, 3) := by decide +kernel
theorem dX2_parse_60 : decode cX2_parse 60 = .ok (.iconst 0, 1) := by decide +kernel
theorem dX2_parse_61 : decode cX2_parse 61 = .ok (.ireturn, 1) := by decide +kernel
theorem dX2_parse_62 : decode cX2_parse 62 = .ok (.iinc 1 1, 3) := by decide +kernel
theorem dX2_parse_65 : decode cX2_parse 65 = .ok (.goto (-38), 3) := by decide +kernel
theorem dX2_parse_68 : decode cX2_parse 68 = .ok (.iconst 0, 1) := by decide +kernel
theorem dX2_parse_69 : decode cX2_parse 69 = .ok (.ireturn, 1) := by decide +kernel
theorem dX2_parseClause_0 : decode cX2_parseClause 0 = .ok (.aload_n 0, 1) := by decide +kernel
theorem dX2_parseClause_1 : decode cX2_parseClause 1 = .ok (.getfield 15, 3) := by decide +kernel
theorem dX2_parseClause_4 : decode cX2_parseClause 4 = .ok (.ldc 48, 2) := by decide +kernel
theorem dX2_parseClause_6 : decode cX2_parseClause 6 = .ok (.invokevirtual 50, 3) := by decide +kernel
theorem dX2_parseClause_9 : decode cX2_parseClause 9 = .ok (.istore_n 1, 1) := by decide +kernel
theorem dX2_parseClause_10 : decode cX2_parseClause 10 = .ok (.iload_n 1, 1) := by decide +kernel
theorem dX2_parseClause_11 : decode cX2_parseClause 11 = .ok (.ifCond .ne 28, 3) := by decide +kernel
theorem dX2_parseClause_14 : decode cX2_parseClause 14 = .ok (.aload_n 0, 1) := by decide +kernel
theorem dX2_parseClause_15 : decode cX2_parseClause 15 = .ok (.getfield 15, 3) := by decide +kernel
theorem dX2_parseClause_18 : decode cX2_parseClause 18 = .ok (.ldc 54, 2) := by decide +kernel
theorem dX2_parseClause_20 : decode cX2_parseClause 20 = .ok (.invokevirtual 50, 3) := by decide +kernel
theorem dX2_parseClause_23 : decode cX2_parseClause 23 = .ok (.ifCond .ne 16, 3) := by decide +kernel
theorem dX2_parseClause_26 : decode cX2_parseClause 26 = .ok (.aload_n 0, 1) := by decide +kernel
theorem dX2_parseClause_27 : decode cX2_parseClause 27 = .ok (.iconst 1, 1) := by decide +kernel
theorem dX2_parseClause_28 : decode cX2_parseClause 28 = .ok (.aload_n 0, 1) := by decide +kernel
theorem dX2_parseClause_29 : decode cX2_parseClause 29 = .ok (.getfield 15, 3) := by decide +kernel
theorem dX2_parseClause_32 : decode cX2_parseClause 32 = .ok (.invokevirtual 56, 3) := by decide +kernel
theorem dX2_parseClause_35 : decode cX2_parseClause 35 = .ok (.invokevirtual 59, 3) := by decide +kernel
theorem dX2_parseClause_38 : decode cX2_parseClause 38 = .ok (.ireturn, 1) := by decide +kernel
theorem dX2_parseClause_39 : decode cX2_parseClause 39 = .ok (.aload_n 0, 1) := by decide +kernel
theorem dX2_parseClause_40 : decode cX2_parseClause 40 = .ok (.getfield 19, 3) := by decide +kernel
theorem dX2_parseClause_43 : decode cX2_parseClause 43 = .ok (.invokevirtual 63, 3) := by decide +kernel
theorem dX2_parseClause_46 : decode cX2_parseClause 46 = .ok (.ifCond .eq 16, 3) := by decide +kernel
theorem dX2_parseClause_49 : decode cX2_parseClause 49 = .ok (.aload_n 0, 1) := by decide +kernel
theorem dX2_parseClause_50 : decode cX2_parseClause 50 = .ok (.iconst 5, 1) := by decide +kernel
theorem dX2_parseClause_51 : decode cX2_parseClause 51 = .ok (.aload_n 0, 1) := by decide +kernel
theorem dX2_parseClause_52 : decode cX2_parseClause 52 = .ok (.getfield 15, 3) := by decide +kernel
theorem dX2_parseClause_55 : decode cX2_parseClause 55 = .ok (.invokevirtual 56, 3) := by decide +kernel
theorem dX2_parseClause_58 : decode cX2_parseClause 58 = .ok (.invokevirtual 59, 3) := by decide +kernel
theorem dX2_parseClause_61 : decode cX2_parseClause 61 = .ok (.ireturn, 1) := by decide +kernel
theorem dX2_parseClause_62 : decode cX2_parseClause 62 = .ok (.iload_n 1, 1) := by decide +kernel
theorem dX2_parseClause_63 : decode cX2_parseClause 63 = .ok (.ifCond .eq 10, 3) := by decide +kernel
theorem dX2_parseClause_66 : decode cX2_parseClause 66 = .ok (.aload_n 0, 1) := by decide +kernel
theorem dX2_parseClause_67 : decode cX2_parseClause 67 = .ok (.invokevirtual 66, 3) := by decide +kernel
theorem dX2_parseClause_70 : decode cX2_parseClause 70 = .ok (.goto 22, 3) := by decide +kernel
theorem dX2_parseClause_73 : decode cX2_parseClause 73 = .ok (.aload_n 0, 1) := by decide +kernel
theorem dX2_parseClause_74 : decode cX2_parseClause 74 = .ok (.invokevirtual 69, 3) := by decide +kernel
theorem dX2_parseClause_77 : decode cX2_parseClause 77 = .ok (.ifCond .eq 14, 3) := by decide +kernel
theorem dX2_parseClause_80 : decode cX2_parseClause 80 = .ok (.aload_n 0, 1) := by decide +kernel
theorem dX2_parseClause_81 : decode cX2_parseClause 81 = .ok (.invokevirtual 72, 3) := by decide +kernel
theorem dX2_parseClause_84 : decode cX2_parseClause 84 = .ok (.ifCond .eq 7, 3) := by decide +kernel
theorem dX2_parseClause_87 : decode cX2_parseClause 87 = .ok (.iconst 1, 1) := by decide +kernel
theorem dX2_parseClause_88 : decode cX2_parseClause 88 = .ok (.goto 4, 3) := by decide +kernel
theorem dX2_parseClause_91 : decode cX2_parseClause 91 = .ok (.iconst 0, 1) := by decide +kernel
theorem dX2_parseClause_92 : decode cX2_parseClause 92 = .ok (.ireturn, 1) := by decide +kernel
theorem dX2_parseWord_0 : decode cX2_parseWord 0 = .ok (.aload_n 0, 1) := by decide +kernel
theorem dX2_parseWord_1 : decode cX2_parseWord 1 = .ok (.ldc 48, 2) := by decide +kernel
theorem dX2_parseWord_3 : decode cX2_parseWord 3 = .ok (.invokevirtual 75, 3) := by decide +kernel
theorem dX2_parseWord_6 : decode cX2_parseWord 6 = .ok (.ifCond .ne 5, 3) := by decide +kernel
theorem dX2_parseWord_9 : decode cX2_parseWord 9 = .ok (.iconst 0, 1) := by decide +kernel
theorem dX2_parseWord_10 : decode cX2_parseWord 10 = .ok (.ireturn, 1) := by decide +kernel
theorem dX2_parseWord_11 : decode cX2_parseWord 11 = .ok (.aload_n 0, 1) := by decide +kernel
theorem dX2_parseWord_12 : decode cX2_parseWord 12 = .ok (.getfield 15, 3) := by decide +kernel
theorem dX2_parseWord_15 : decode cX2_parseWord 15 = .ok (.invokevirtual 37, 3) := by decide +kernel
theorem dX2_parseWord_18 : decode cX2_parseWord 18 = .ok (.aload_n 0, 1) := by decide +kernel
theorem dX2_parseWord_19 : decode cX2_parseWord 19 = .ok (.getfield 15, 3) := by decide +kernel
theorem dX2_parseWord_22 : decode cX2_parseWord 22 = .ok (.invokevirtual 56, 3) := by decide +kernel
theorem dX2_parseWord_25 : decode cX2_parseWord 25 = .ok (.istore_n 1, 1) := by decide +kernel
theorem dX2_parseWord_26 : decode cX2_parseWord 26 = .ok (.aload_n 0, 1) := by decide +kernel
theorem dX2_parseWord_27 : decode cX2_parseWord 27 = .ok (.iconst 0, 1) := by decide +kernel
theorem dX2_parseWord_28 : decode cX2_parseWord 28 = .ok (.sipush 999, 3) := by decide +kernel
theorem dX2_parseWord_31 : decode cX2_parseWord 31 = .ok (.invokevirtual 78, 3) := by decide +kernel
theorem dX2_parseWord_34 : decode cX2_parseWord 34 = .ok (.istore_n 2, 1) := by decide +kernel
theorem dX2_parseWord_35 : decode cX2_parseWord 35 = .ok (.iload_n 2, 1) := by decide +kernel
theorem dX2_parseWord_36 : decode cX2_parseWord 36 = .ok (.iconst (-1), 1) := by decide +kernel
theorem dX2_parseWord_37 : decode cX2_parseWord 37 = .ok (.if_icmp .ne 5, 3) := by decide +kernel
theorem dX2_parseWord_40 : decode cX2_parseWord 40 = .ok (.iconst 0, 1) := by decide +kernel
theorem dX2_parseWord_41 : decode cX2_parseWord 41 = .ok (.ireturn, 1) := by decide +kernel
theorem dX2_parseWord_42 : decode cX2_parseWord 42 = .ok (.aload_n 0, 1) := by decide +kernel
theorem dX2_parseWord_43 : decode cX2_parseWord 43 = .ok (.getfield 19, 3) := by decide +kernel
theorem dX2_parseWord_46 : decode cX2_parseWord 46 = .ok (.iload_n 2, 1) := by decide +kernel
theorem dX2_parseWord_47 : decode cX2_parseWord 47 = .ok (.invokevirtual 82, 3) := by decide +kernel
theorem dX2_parseWord_50 : decode cX2_parseWord 50 = .ok (.ifCond .eq 10, 3) := by decide +kernel
theorem dX2_parseWord_53 : decode cX2_parseWord 53 = .ok (.aload_n 0, 1) := by decide +kernel
theorem dX2_parseWord_54 : decode cX2_parseWord 54 = .ok (.iconst 3, 1) := by decide +kernel
theorem dX2_parseWord_55 : decode cX2_parseWord 55 = .ok (.iload_n 1, 1) := by decide +kernel
theorem dX2_parseWord_56 : decode cX2_parseWord 56 = .ok (.invokevirtual 59, 3) := by decide +kernel
theorem dX2_parseWord_59 : decode cX2_parseWord 59 = .ok (.ireturn, 1) := by decide +kernel
theorem dX2_parseWord_60 : decode cX2_parseWord 60 = .ok (.aload_n 0, 1) := by decide +kernel
theorem dX2_parseWord_61 : decode cX2_parseWord 61 = .ok (.getfield 19, 3) := by decide +kernel
theorem dX2_parseWord_64 : decode cX2_parseWord 64 = .ok (.iload_n 2, 1) := by decide +kernel
theorem dX2_parseWord_65 : decode cX2_parseWord 65 = .ok (.iload_n 2, 1) := by decide +kernel
theorem dX2_parseWord_66 : decode cX2_parseWord 66 = .ok (.iconst 0, 1) := by decide +kernel
theorem dX2_parseWord_67 : decode cX2_parseWord 67 = .ok (.invokevirtual 86, 3) := by decide +kernel
theorem dX2_parseWord_70 : decode cX2_parseWord 70 = .ok (.aload_n 0, 1) := by decide +kernel
theorem dX2_parseWord_71 : decode cX2_parseWord 71 = .ok (.getfield 15, 3) := by decide +kernel
theorem dX2_parseWord_74 : decode cX2_parseWord 74 = .ok (.invokevirtual 37, 3) := by decide +kernel
theorem dX2_parseWord_77 : decode cX2_parseWord 77 = .ok (.aload_n 0, 1) := by decide +kernel
theorem dX2_parseWord_78 : decode cX2_parseWord 78 = .ok (.iconst 0, 1) := by decide +kernel
theorem dX2_parseWord_79 : decode cX2_parseWord 79 = .ok (.invokevirtual 90, 3) := by decide +kernel
theorem dX2_parseWord_82 : decode cX2_parseWord 82 = .ok (.ifCond .eq 16, 3) := by decide +kernel
theorem dX2_parseWord_85 : decode cX2_parseWord 85 = .ok (.aload_n 0, 1) := by decide +kernel
theorem dX2_parseWord_86 : decode cX2_parseWord 86 = .ok (.bipush 59, 2) := by decide +kernel
theorem dX2_parseWord_88 : decode cX2_parseWord 88 = .ok (.invokevirtual 94, 3) := by decide +kernel
theorem dX2_parseWord_91 : decode cX2_parseWord 91 = .ok (.ifCond .eq 7, 3) := by decide +kernel
theorem dX2_parseWord_94 : decode cX2_parseWord 94 = .ok (.iconst 1, 1) := by decide +kernel
theorem dX2_parseWord_95 : decode cX2_parseWord 95 = .ok (.goto 4, 3) := by decide +kernel
theorem dX2_parseWord_98 : decode cX2_parseWord 98 = .ok (.iconst 0, 1) := by decide +kernel
theorem dX2_parseWord_99 : decode cX2_parseWord 99 = .ok (.ireturn, 1) := by decide +kernel
theorem dX2_parseHead_0 : decode cX2_parseHead 0 = .ok (.aload_n 0, 1) := by decide +kernel
theorem dX2_parseHead_1 : decode cX2_parseHead 1 = .ok (.ldc 54, 2) := by decide +kernel
theorem dX2_parseHead_3 : decode cX2_parseHead 3 = .ok (.invokevirtual 75, 3) := by decide +kernel
theorem dX2_parseHead_6 : decode cX2_parseHead 6 = .ok (.ifCond .ne 5, 3) := by decide +kernel
theorem dX2_parseHead_9 : decode cX2_parseHead 9 = .ok (.iconst 0, 1) := by decide +kernel
theorem dX2_parseHead_10 : decode cX2_parseHead 10 = .ok (.ireturn, 1) := by decide +kernel
theorem dX2_parseHead_11 : decode cX2_parseHead 11 = .ok (.aload_n 0, 1) := by decide +kernel
theorem dX2_parseHead_12 : decode cX2_parseHead 12 = .ok (.iconst 0, 1) := by decide +kernel
theorem dX2_parseHead_13 : decode cX2_parseHead 13 = .ok (.sipush 999, 3) := by decide +kernel
theorem dX2_parseHead_16 : decode cX2_parseHead 16 = .ok (.invokevirtual 78, 3) := by decide +kernel
theorem dX2_parseHead_19 : decode cX2_parseHead 19 = .ok (.istore_n 1, 1) := by decide +kernel
theorem dX2_parseHead_20 : decode cX2_parseHead 20 = .ok (.iload_n 1, 1) := by decide +kernel
theorem dX2_parseHead_21 : decode cX2_parseHead 21 = .ok (.iconst (-1), 1) := by decide +kernel
theorem dX2_parseHead_22 : decode cX2_parseHead 22 = .ok (.if_icmp .eq 12, 3) := by decide +kernel
theorem dX2_parseHead_25 : decode cX2_parseHead 25 = .ok (.aload_n 0, 1) := by decide +kernel
theorem dX2_parseHead_26 : decode cX2_parseHead 26 = .ok (.ldc 98, 2) := by decide +kernel
theorem dX2_parseHead_28 : decode cX2_parseHead 28 = .ok (.invokevirtual 75, 3) := by decide +kernel
theorem dX2_parseHead_31 : decode cX2_parseHead 31 = .ok (.ifCond .ne 5, 3) := by decide +kernel
theorem dX2_parseHead_34 : decode cX2_parseHead 34 = .ok (.iconst 0, 1) := by decide +kernel
theorem dX2_parseHead_35 : decode cX2_parseHead 35 = .ok (.ireturn, 1) := by decide +kernel
theorem dX2_parseHead_36 : decode cX2_parseHead 36 = .ok (.aload_n 0, 1) := by decide +kernel
theorem dX2_parseHead_37 : decode cX2_parseHead 37 = .ok (.iload_n 1, 1) := by decide +kernel
theorem dX2_parseHead_38 : decode cX2_parseHead 38 = .ok (.sipush 999, 3) := by decide +kernel
theorem dX2_parseHead_41 : decode cX2_parseHead 41 = .ok (.invokevirtual 78, 3) := by decide +kernel
theorem dX2_parseHead_44 : decode cX2_parseHead 44 = .ok (.istore_n 2, 1) := by decide +kernel
theorem dX2_parseHead_45 : decode cX2_parseHead 45 = .ok (.iload_n 2, 1) := by decide +kernel
theorem dX2_parseHead_46 : decode cX2_parseHead 46 = .ok (.iconst (-1), 1) := by decide +kernel
theorem dX2_parseHead_47 : decode cX2_parseHead 47 = .ok (.if_icmp .eq 12, 3) := by decide +kernel
theorem dX2_parseHead_50 : decode cX2_parseHead 50 = .ok (.aload_n 0, 1) := by decide +kernel
theorem dX2_parseHead_51 : decode cX2_parseHead 51 = .ok (.ldc 100, 2) := by decide +kernel
theorem dX2_parseHead_53 : decode cX2_parseHead 53 = .ok (.invokevirtual 75, 3) := by decide +kernel
theorem dX2_parseHead_56 : decode cX2_parseHead 56 = .ok (.ifCond .ne 5, 3) := by decide +kernel
theorem dX2_parseHead_59 : decode cX2_parseHead 59 = .ok (.iconst 0, 1) := by decide +kernel
theorem dX2_parseHead_60 : decode cX2_parseHead 60 = .ok (.ireturn, 1) := by decide +kernel
theorem dX2_parseHead_61 : decode cX2_parseHead 61 = .ok (.aload_n 0, 1) := by decide +kernel
theorem dX2_parseHead_62 : decode cX2_parseHead 62 = .ok (.iconst 2, 1) := by decide +kernel
theorem dX2_parseHead_63 : decode cX2_parseHead 63 = .ok (.sipush 500, 3) := by decide +kernel
theorem dX2_parseHead_66 : decode cX2_parseHead 66 = .ok (.invokevirtual 78, 3) := by decide +kernel
theorem dX2_parseHead_69 : decode cX2_parseHead 69 = .ok (.istore_n 3, 1) := by decide +kernel
theorem dX2_parseHead_70 : decode cX2_parseHead 70 = .ok (.iload_n 3, 1) := by decide +kernel
theorem dX2_parseHead_71 : decode cX2_parseHead 71 = .ok (.iconst (-1), 1) := by decide +kernel
theorem dX2_parseHead_72 : decode cX2_parseHead 72 = .ok (.if_icmp .eq 12, 3) := by decide +kernel
theorem dX2_parseHead_75 : decode cX2_parseHead 75 = .ok (.aload_n 0, 1) := by decide +kernel
theorem dX2_parseHead_76 : decode cX2_parseHead 76 = .ok (.bipush 58, 2) := by decide +kernel
theorem dX2_parseHead_78 : decode cX2_parseHead 78 = .ok (.invokevirtual 94, 3) := by decide +kernel
theorem dX2_parseHead_81 : decode cX2_parseHead 81 = .ok (.ifCond .ne 5, 3) := by decide +kernel
theorem dX2_parseHead_84 : decode cX2_parseHead 84 = .ok (.iconst 0, 1) := by decide +kernel
theorem dX2_parseHead_85 : decode cX2_parseHead 85 = .ok (.ireturn, 1) := by decide +kernel
theorem dX2_parseHead_86 : decode cX2_parseHead 86 = .ok (.aload_n 0, 1) := by decide +kernel
theorem dX2_parseHead_87 : decode cX2_parseHead 87 = .ok (.getfield 19, 3) := by decide +kernel
theorem dX2_parseHead_90 : decode cX2_parseHead 90 = .ok (.iload_n 1, 1) := by decide +kernel
theorem dX2_parseHead_91 : decode cX2_parseHead 91 = .ok (.iload_n 2, 1) := by decide +kernel
theorem dX2_parseHead_92 : decode cX2_parseHead 92 = .ok (.iload_n 3, 1) := by decide +kernel
theorem dX2_parseHead_93 : decode cX2_parseHead 93 = .ok (.invokevirtual 86, 3) := by decide +kernel
theorem dX2_parseHead_96 : decode cX2_parseHead 96 = .ok (.iconst 1, 1) := by decide +kernel
theorem dX2_parseHead_97 : decode cX2_parseHead 97 = .ok (.ireturn, 1) := by decide +kernel
theorem dX2_parseParts_0 : decode cX2_parseParts 0 = .ok (.iconst (-1), 1) := by decide +kernel
theorem dX2_parseParts_1 : decode cX2_parseParts 1 = .ok (.istore_n 1, 1) := by decide +kernel
theorem dX2_parseParts_2 : decode cX2_parseParts 2 = .ok (.iconst 0, 1) := by decide +kernel
theorem dX2_parseParts_3 : decode cX2_parseParts 3 = .ok (.istore_n 2, 1) := by decide +kernel
theorem dX2_parseParts_4 : decode cX2_parseParts 4 = .ok (.iload_n 2, 1) := by decide +kernel
theorem dX2_parseParts_5 : decode cX2_parseParts 5 = .ok (.sipush 240, 3) := by decide +kernel
theorem dX2_parseParts_8 : decode cX2_parseParts 8 = .ok (.if_icmp .gt 147, 3) := by decide +kernel
theorem dX2_parseParts_11 : decode cX2_parseParts 11 = .ok (.aload_n 0, 1) := by decide +kernel
theorem dX2_parseParts_12 : decode cX2_parseParts 12 = .ok (.getfield 15, 3) := by decide +kernel
theorem dX2_parseParts_15 : decode cX2_parseParts 15 = .ok (.invokevirtual 37, 3) := by decide +kernel
theorem dX2_parseParts_18 : decode cX2_parseParts 18 = .ok (.aload_n 0, 1) := by decide +kernel
theorem dX2_parseParts_19 : decode cX2_parseParts 19 = .ok (.getfield 15, 3) := by decide +kernel
theorem dX2_parseParts_22 : decode cX2_parseParts 22 = .ok (.invokevirtual 40, 3) := by decide +kernel
theorem dX2_parseParts_25 : decode cX2_parseParts 25 = .ok (.istore_n 3, 1) := by decide +kernel
theorem dX2_parseParts_26 : decode cX2_parseParts 26 = .ok (.aload_n 0, 1) := by decide +kernel
theorem dX2_parseParts_27 : decode cX2_parseParts 27 = .ok (.getfield 19, 3) := by decide +kernel
theorem dX2_parseParts_30 : decode cX2_parseParts 30 = .ok (.invokevirtual 102, 3) := by decide +kernel
theorem dX2_parseParts_33 : decode cX2_parseParts 33 = .ok (.istore 4, 2) := by decide +kernel
theorem dX2_parseParts_35 : decode cX2_parseParts 35 = .ok (.iload_n 3, 1) := by decide +kernel
theorem dX2_parseParts_36 : decode cX2_parseParts 36 = .ok (.bipush 59, 2) := by decide +kernel
theorem dX2_parseParts_38 : decode cX2_parseParts 38 = .ok (.if_icmp .ne 20, 3) := by decide +kernel
theorem dX2_parseParts_41 : decode cX2_parseParts 41 = .ok (.iload_n 1, 1) := by decide +kernel
theorem dX2_parseParts_42 : decode cX2_parseParts 42 = .ok (.iconst (-1), 1) := by decide +kernel
theorem dX2_parseParts_43 : decode cX2_parseParts 43 = .ok (.if_icmp .ne 15, 3) := by decide +kernel
theorem dX2_parseParts_46 : decode cX2_parseParts 46 = .ok (.iload 4, 2) := by decide +kernel
theorem dX2_parseParts_48 : decode cX2_parseParts 48 = .ok (.ifCond .le 10, 3) := by decide +kernel
theorem dX2_parseParts_51 : decode cX2_parseParts 51 = .ok (.aload_n 0, 1) := by decide +kernel
theorem dX2_parseParts_52 : decode cX2_parseParts 52 = .ok (.bipush 59, 2) := by decide +kernel
theorem dX2_parseParts_54 : decode cX2_parseParts 54 = .ok (.invokevirtual 94, 3) := by decide +kernel
theorem dX2_parseParts_57 : decode cX2_parseParts 57 = .ok (.ireturn, 1) := by decide +kernel
theorem dX2_parseParts_58 : decode cX2_parseParts 58 = .ok (.iload_n 3, 1) := by decide +kernel
theorem dX2_parseParts_59 : decode cX2_parseParts 59 = .ok (.bipush 91, 2) := by decide +kernel
theorem dX2_parseParts_61 : decode cX2_parseParts 61 = .ok (.if_icmp .ne 30, 3) := by decide +kernel
theorem dX2_parseParts_64 : decode cX2_parseParts 64 = .ok (.iload_n 1, 1) := by decide +kernel
theorem dX2_parseParts_65 : decode cX2_parseParts 65 = .ok (.iconst (-1), 1) := by decide +kernel
theorem dX2_parseParts_66 : decode cX2_parseParts 66 = .ok (.if_icmp .ne 25, 3) := by decide +kernel
theorem dX2_parseParts_69 : decode cX2_parseParts 69 = .ok (.iload 4, 2) := by decide +kernel
theorem dX2_parseParts_71 : decode cX2_parseParts 71 = .ok (.istore_n 1, 1) := by decide +kernel
theorem dX2_parseParts_72 : decode cX2_parseParts 72 = .ok (.aload_n 0, 1) := by decide +kernel
theorem dX2_parseParts_73 : decode cX2_parseParts 73 = .ok (.getfield 15, 3) := by decide +kernel
theorem dX2_parseParts_76 : decode cX2_parseParts 76 = .ok (.aload_n 0, 1) := by decide +kernel
theorem dX2_parseParts_77 : decode cX2_parseParts 77 = .ok (.getfield 15, 3) := by decide +kernel
theorem dX2_parseParts_80 : decode cX2_parseParts 80 = .ok (.invokevirtual 56, 3) := by decide +kernel
theorem dX2_parseParts_83 : decode cX2_parseParts 83 = .ok (.iconst 1, 1) := by decide +kernel
theorem dX2_parseParts_84 : decode cX2_parseParts 84 = .ok (.iadd, 1) := by decide +kernel
theorem dX2_parseParts_85 : decode cX2_parseParts 85 = .ok (.invokevirtual 31, 3) := by decide +kernel
theorem dX2_parseParts_88 : decode cX2_parseParts 88 = .ok (.goto 61, 3) := by decide +kernel
theorem dX2_parseParts_91 : decode cX2_parseParts 91 = .ok (.iload_n 3, 1) := by decide +kernel
theorem dX2_parseParts_92 : decode cX2_parseParts 92 = .ok (.bipush 93, 2) := by decide +kernel
theorem dX2_parseParts_94 : decode cX2_parseParts 94 = .ok (.if_icmp .ne 35, 3) := by decide +kernel
theorem dX2_parseParts_97 : decode cX2_parseParts 97 = .ok (.iload_n 1, 1) := by decide +kernel
theorem dX2_parseParts_98 : decode cX2_parseParts 98 = .ok (.iconst (-1), 1) := by decide +kernel
theorem dX2_parseParts_99 : decode cX2_parseParts 99 = .ok (.if_icmp .eq 30, 3) := by decide +kernel
theorem dX2_parseParts_102 : decode cX2_parseParts 102 = .ok (.iload 4, 2) := by decide +kernel
theorem dX2_parseParts_104 : decode cX2_parseParts 104 = .ok (.iload_n 1, 1) := by decide +kernel
theorem dX2_parseParts_105 : decode cX2_parseParts 105 = .ok (.if_icmp .le 24, 3) := by decide +kernel
theorem dX2_parseParts_108 : decode cX2_parseParts 108 = .ok (.iconst (-1), 1) := by decide +kernel
theorem dX2_parseParts_109 : decode cX2_parseParts 109 = .ok (.istore_n 1, 1) := by decide +kernel
theorem dX2_parseParts_110 : decode cX2_parseParts 110 = .ok (.aload_n 0, 1) := by decide +kernel
theorem dX2_parseParts_111 : decode cX2_parseParts 111 = .ok (.getfield 15, 3) := by decide +kernel
theorem dX2_parseParts_114 : decode cX2_parseParts 114 = .ok (.aload_n 0, 1) := by decide +kernel
theorem dX2_parseParts_115 : decode cX2_parseParts 115 = .ok (.getfield 15, 3) := by decide +kernel
theorem dX2_parseParts_118 : decode cX2_parseParts 118 = .ok (.invokevirtual 56, 3) := by decide +kernel
theorem dX2_parseParts_121 : decode cX2_parseParts 121 = .ok (.iconst 1, 1) := by decide +kernel
theorem dX2_parseParts_122 : decode cX2_parseParts 122 = .ok (.iadd, 1) := by decide +kernel
theorem dX2_parseParts_123 : decode cX2_parseParts 123 = .ok (.invokevirtual 31, 3) := by decide +kernel
theorem dX2_parseParts_126 : decode cX2_parseParts 126 = .ok (.goto 23, 3) := by decide +kernel
theorem dX2_parseParts_129 : decode cX2_parseParts 129 = .ok (.aload_n 0, 1) := by decide +kernel
theorem dX2_parseParts_130 : decode cX2_parseParts 130 = .ok (.iload_n 3, 1) := by decide +kernel
theorem dX2_parseParts_131 : decode cX2_parseParts 131 = .ok (.iload_n 1, 1) := by decide +kernel
theorem dX2_parseParts_132 : decode cX2_parseParts 132 = .ok (.iconst (-1), 1) := by decide +kernel
theorem dX2_parseParts_133 : decode cX2_parseParts 133 = .ok (.if_icmp .eq 7, 3) := by decide +kernel
theorem dX2_parseParts_136 : decode cX2_parseParts 136 = .ok (.iconst 1, 1) := by decide +kernel
theorem dX2_parseParts_137 : decode cX2_parseParts 137 = .ok (.goto 4, 3) := by decide +kernel
theorem dX2_parseParts_140 : decode cX2_parseParts 140 = .ok (.iconst 0, 1) := by decide +kernel
theorem dX2_parseParts_141 : decode cX2_parseParts 141 = .ok (.invokevirtual 105, 3) := by decide +kernel
theorem dX2_parseParts_144 : decode cX2_parseParts 144 = .ok (.ifCond .ne 5, 3) := by decide +kernel
theorem dX2_parseParts_147 : decode cX2_parseParts 147 = .ok (.iconst 0, 1) := by decide +kernel
theorem dX2_parseParts_148 : decode cX2_parseParts 148 = .ok (.ireturn, 1) := by decide +kernel
theorem dX2_parseParts_149 : decode cX2_parseParts 149 = .ok (.iinc 2 1, 3) := by decide +kernel
theorem dX2_parseParts_152 : decode cX2_parseParts 152 = .ok (.goto (-148), 3) := by decide +kernel
theorem dX2_parseParts_155 : decode cX2_parseParts 155 = .ok (.iconst 0, 1) := by decide +kernel
theorem dX2_parseParts_156 : decode cX2_parseParts 156 = .ok (.ireturn, 1) := by decide +kernel
theorem dX2_parsePart_0 : decode cX2_parsePart 0 = .ok (.iload_n 1, 1) := by decide +kernel
theorem dX2_parsePart_1 : decode cX2_parsePart 1 = .ok (.bipush 35, 2) := by decide +kernel
theorem dX2_parsePart_3 : decode cX2_parsePart 3 = .ok (.if_icmp .eq 28, 3) := by decide +kernel
theorem dX2_parsePart_6 : decode cX2_parsePart 6 = .ok (.iload_n 1, 1) := by decide +kernel
theorem dX2_parsePart_7 : decode cX2_parsePart 7 = .ok (.bipush 97, 2) := by decide +kernel
theorem dX2_parsePart_9 : decode cX2_parsePart 9 = .ok (.if_icmp .lt 9, 3) := by decide +kernel
theorem dX2_parsePart_12 : decode cX2_parsePart 12 = .ok (.iload_n 1, 1) := by decide +kernel
theorem dX2_parsePart_13 : decode cX2_parsePart 13 = .ok (.bipush 122, 2) := by decide +kernel
theorem dX2_parsePart_15 : decode cX2_parsePart 15 = .ok (.if_icmp .le 16, 3) := by decide +kernel
theorem dX2_parsePart_18 : decode cX2_parsePart 18 = .ok (.aload_n 0, 1) := by decide +kernel
theorem dX2_parsePart_19 : decode cX2_parsePart 19 = .ok (.iconst 1, 1) := by decide +kernel
theorem dX2_parsePart_20 : decode cX2_parsePart 20 = .ok (.aload_n 0, 1) := by decide +kernel
theorem dX2_parsePart_21 : decode cX2_parsePart 21 = .ok (.getfield 15, 3) := by decide +kernel
theorem dX2_parsePart_24 : decode cX2_parsePart 24 = .ok (.invokevirtual 56, 3) := by decide +kernel
theorem dX2_parsePart_27 : decode cX2_parsePart 27 = .ok (.invokevirtual 59, 3) := by decide +kernel
theorem dX2_parsePart_30 : decode cX2_parsePart 30 = .ok (.ireturn, 1) := by decide +kernel
theorem dX2_parsePart_31 : decode cX2_parsePart 31 = .ok (.aload_n 0, 1) := by decide +kernel
theorem dX2_parsePart_32 : decode cX2_parsePart 32 = .ok (.getfield 19, 3) := by decide +kernel
theorem dX2_parsePart_35 : decode cX2_parsePart 35 = .ok (.invokevirtual 102, 3) := by decide +kernel
theorem dX2_parsePart_38 : decode cX2_parsePart 38 = .ok (.bipush 8, 2) := by decide +kernel
theorem dX2_parsePart_40 : decode cX2_parsePart 40 = .ok (.if_icmp .lt 17, 3) := by decide +kernel
theorem dX2_parsePart_43 : decode cX2_parsePart 43 = .ok (.aload_n 0, 1) := by decide +kernel
theorem dX2_parsePart_44 : decode cX2_parsePart 44 = .ok (.bipush 6, 2) := by decide +kernel
theorem dX2_parsePart_46 : decode cX2_parsePart 46 = .ok (.aload_n 0, 1) := by decide +kernel
theorem dX2_parsePart_47 : decode cX2_parsePart 47 = .ok (.getfield 15, 3) := by decide +kernel
theorem dX2_parsePart_50 : decode cX2_parsePart 50 = .ok (.invokevirtual 56, 3) := by decide +kernel
theorem dX2_parsePart_53 : decode cX2_parsePart 53 = .ok (.invokevirtual 59, 3) := by decide +kernel
theorem dX2_parsePart_56 : decode cX2_parsePart 56 = .ok (.ireturn, 1) := by decide +kernel
theorem dX2_parsePart_57 : decode cX2_parsePart 57 = .ok (.iload_n 1, 1) := by decide +kernel
theorem dX2_parsePart_58 : decode cX2_parsePart 58 = .ok (.bipush 35, 2) := by decide +kernel
theorem dX2_parsePart_60 : decode cX2_parsePart 60 = .ok (.if_icmp .ne 11, 3) := by decide +kernel
theorem dX2_parsePart_63 : decode cX2_parsePart 63 = .ok (.aload_n 0, 1) := by decide +kernel
theorem dX2_parsePart_64 : decode cX2_parsePart 64 = .ok (.iload_n 2, 1) := by decide +kernel
theorem dX2_parsePart_65 : decode cX2_parsePart 65 = .ok (.invokevirtual 109, 3) := by decide +kernel
theorem dX2_parsePart_68 : decode cX2_parsePart 68 = .ok (.goto 8, 3) := by decide +kernel
theorem dX2_parsePart_71 : decode cX2_parsePart 71 = .ok (.aload_n 0, 1) := by decide +kernel
theorem dX2_parsePart_72 : decode cX2_parsePart 72 = .ok (.iload_n 2, 1) := by decide +kernel
theorem dX2_parsePart_73 : decode cX2_parsePart 73 = .ok (.invokevirtual 90, 3) := by decide +kernel
theorem dX2_parsePart_76 : decode cX2_parsePart 76 = .ok (.ireturn, 1) := by decide +kernel
theorem dX2_parseAsked_0 : decode cX2_parseAsked 0 = .ok (.aload_n 0, 1) := by decide +kernel
theorem dX2_parseAsked_1 : decode cX2_parseAsked 1 = .ok (.getfield 15, 3) := by decide +kernel
theorem dX2_parseAsked_4 : decode cX2_parseAsked 4 = .ok (.invokevirtual 56, 3) := by decide +kernel
theorem dX2_parseAsked_7 : decode cX2_parseAsked 7 = .ok (.iconst 1, 1) := by decide +kernel
theorem dX2_parseAsked_8 : decode cX2_parseAsked 8 = .ok (.iadd, 1) := by decide +kernel
theorem dX2_parseAsked_9 : decode cX2_parseAsked 9 = .ok (.istore_n 2, 1) := by decide +kernel
theorem dX2_parseAsked_10 : decode cX2_parseAsked 10 = .ok (.aload_n 0, 1) := by decide +kernel
theorem dX2_parseAsked_11 : decode cX2_parseAsked 11 = .ok (.getfield 15, 3) := by decide +kernel
theorem dX2_parseAsked_14 : decode cX2_parseAsked 14 = .ok (.iload_n 2, 1) := by decide +kernel
theorem dX2_parseAsked_15 : decode cX2_parseAsked 15 = .ok (.invokevirtual 112, 3) := by decide +kernel
theorem dX2_parseAsked_18 : decode cX2_parseAsked 18 = .ok (.istore_n 3, 1) := by decide +kernel
theorem dX2_parseAsked_19 : decode cX2_parseAsked 19 = .ok (.iload_n 3, 1) := by decide +kernel
theorem dX2_parseAsked_20 : decode cX2_parseAsked 20 = .ok (.bipush 113, 2) := by decide +kernel
theorem dX2_parseAsked_22 : decode cX2_parseAsked 22 = .ok (.if_icmp .eq 34, 3) := by decide +kernel
theorem dX2_parseAsked_25 : decode cX2_parseAsked 25 = .ok (.iload_n 3, 1) := by decide +kernel
theorem dX2_parseAsked_26 : decode cX2_parseAsked 26 = .ok (.bipush 116, 2) := by decide +kernel
theorem dX2_parseAsked_28 : decode cX2_parseAsked 28 = .ok (.if_icmp .eq 28, 3) := by decide +kernel
theorem dX2_parseAsked_31 : decode cX2_parseAsked 31 = .ok (.iload_n 3, 1) := by decide +kernel
theorem dX2_parseAsked_32 : decode cX2_parseAsked 32 = .ok (.bipush 114, 2) := by decide +kernel
theorem dX2_parseAsked_34 : decode cX2_parseAsked 34 = .ok (.if_icmp .eq 22, 3) := by decide +kernel
theorem dX2_parseAsked_37 : decode cX2_parseAsked 37 = .ok (.iload_n 3, 1) := by decide +kernel
theorem dX2_parseAsked_38 : decode cX2_parseAsked 38 = .ok (.bipush 99, 2) := by decide +kernel
theorem dX2_parseAsked_40 : decode cX2_parseAsked 40 = .ok (.if_icmp .eq 16, 3) := by decide +kernel
theorem dX2_parseAsked_43 : decode cX2_parseAsked 43 = .ok (.iload_n 3, 1) := by decide +kernel
theorem dX2_parseAsked_44 : decode cX2_parseAsked 44 = .ok (.bipush 110, 2) := by decide +kernel
theorem dX2_parseAsked_46 : decode cX2_parseAsked 46 = .ok (.if_icmp .eq 10, 3) := by decide +kernel
theorem dX2_parseAsked_49 : decode cX2_parseAsked 49 = .ok (.aload_n 0, 1) := by decide +kernel
theorem dX2_parseAsked_50 : decode cX2_parseAsked 50 = .ok (.iconst 1, 1) := by decide +kernel
theorem dX2_parseAsked_51 : decode cX2_parseAsked 51 = .ok (.iload_n 2, 1) := by decide +kernel
theorem dX2_parseAsked_52 : decode cX2_parseAsked 52 = .ok (.invokevirtual 59, 3) := by decide +kernel
theorem dX2_parseAsked_55 : decode cX2_parseAsked 55 = .ok (.ireturn, 1) := by decide +kernel
theorem dX2_parseAsked_56 : decode cX2_parseAsked 56 = .ok (.aload_n 0, 1) := by decide +kernel
theorem dX2_parseAsked_57 : decode cX2_parseAsked 57 = .ok (.getfield 19, 3) := by decide +kernel
theorem dX2_parseAsked_60 : decode cX2_parseAsked 60 = .ok (.iload_n 3, 1) := by decide +kernel
theorem dX2_parseAsked_61 : decode cX2_parseAsked 61 = .ok (.iload_n 1, 1) := by decide +kernel
theorem dX2_parseAsked_62 : decode cX2_parseAsked 62 = .ok (.lconst 0, 1) := by decide +kernel
theorem dX2_parseAsked_63 : decode cX2_parseAsked 63 = .ok (.iconst 0, 1) := by decide +kernel
theorem dX2_parseAsked_64 : decode cX2_parseAsked 64 = .ok (.invokevirtual 116, 3) := by decide +kernel
theorem dX2_parseAsked_67 : decode cX2_parseAsked 67 = .ok (.aload_n 0, 1) := by decide +kernel
theorem dX2_parseAsked_68 : decode cX2_parseAsked 68 = .ok (.getfield 15, 3) := by decide +kernel
theorem dX2_parseAsked_71 : decode cX2_parseAsked 71 = .ok (.iload_n 2, 1) := by decide +kernel
theorem dX2_parseAsked_72 : decode cX2_parseAsked 72 = .ok (.iconst 1, 1) := by decide +kernel
theorem dX2_parseAsked_73 : decode cX2_parseAsked 73 = .ok (.iadd, 1) := by decide +kernel
theorem dX2_parseAsked_74 : decode cX2_parseAsked 74 = .ok (.invokevirtual 31, 3) := by decide +kernel
theorem dX2_parseAsked_77 : decode cX2_parseAsked 77 = .ok (.iconst 1, 1) := by decide +kernel
theorem dX2_parseAsked_78 : decode cX2_parseAsked 78 = .ok (.ireturn, 1) := by decide +kernel
theorem dX2_parseLetters_0 : decode cX2_parseLetters 0 = .ok (.aload_n 0, 1) := by decide +kernel
theorem dX2_parseLetters_1 : decode cX2_parseLetters 1 = .ok (.getfield 15, 3) := by decide +kernel
theorem dX2_parseLetters_4 : decode cX2_parseLetters 4 = .ok (.invokevirtual 56, 3) := by decide +kernel
theorem dX2_parseLetters_7 : decode cX2_parseLetters 7 = .ok (.istore_n 2, 1) := by decide +kernel
theorem dX2_parseLetters_8 : decode cX2_parseLetters 8 = .ok (.aload_n 0, 1) := by decide +kernel
theorem dX2_parseLetters_9 : decode cX2_parseLetters 9 = .ok (.getfield 15, 3) := by decide +kernel
theorem dX2_parseLetters_12 : decode cX2_parseLetters 12 = .ok (.bipush 97, 2) := by decide +kernel
theorem dX2_parseLetters_14 : decode cX2_parseLetters 14 = .ok (.bipush 122, 2) := by decide +kernel
theorem dX2_parseLetters_16 : decode cX2_parseLetters 16 = .ok (.invokevirtual 120, 3) := by decide +kernel
theorem dX2_parseLetters_19 : decode cX2_parseLetters 19 = .ok (.istore_n 3, 1) := by decide +kernel
theorem dX2_parseLetters_20 : decode cX2_parseLetters 20 = .ok (.iload_n 3, 1) := by decide +kernel
theorem dX2_parseLetters_21 : decode cX2_parseLetters 21 = .ok (.iload_n 2, 1) := by decide +kernel
theorem dX2_parseLetters_22 : decode cX2_parseLetters 22 = .ok (.if_icmp .ne 10, 3) := by decide +kernel
theorem dX2_parseLetters_25 : decode cX2_parseLetters 25 = .ok (.aload_n 0, 1) := by decide +kernel
theorem dX2_parseLetters_26 : decode cX2_parseLetters 26 = .ok (.iconst 1, 1) := by decide +kernel
theorem dX2_parseLetters_27 : decode cX2_parseLetters 27 = .ok (.iload_n 2, 1) := by decide +kernel
theorem dX2_parseLetters_28 : decode cX2_parseLetters 28 = .ok (.invokevirtual 59, 3) := by decide +kernel
theorem dX2_parseLetters_31 : decode cX2_parseLetters 31 = .ok (.ireturn, 1) := by decide +kernel
theorem dX2_parseLetters_32 : decode cX2_parseLetters 32 = .ok (.iload_n 3, 1) := by decide +kernel
theorem dX2_parseLetters_33 : decode cX2_parseLetters 33 = .ok (.iload_n 2, 1) := by decide +kernel
theorem dX2_parseLetters_34 : decode cX2_parseLetters 34 = .ok (.isub, 1) := by decide +kernel
theorem dX2_parseLetters_35 : decode cX2_parseLetters 35 = .ok (.bipush 12, 2) := by decide +kernel
theorem dX2_parseLetters_37 : decode cX2_parseLetters 37 = .ok (.if_icmp .le 13, 3) := by decide +kernel
theorem dX2_parseLetters_40 : decode cX2_parseLetters 40 = .ok (.aload_n 0, 1) := by decide +kernel
theorem dX2_parseLetters_41 : decode cX2_parseLetters 41 = .ok (.iconst 4, 1) := by decide +kernel
theorem dX2_parseLetters_42 : decode cX2_parseLetters 42 = .ok (.iload_n 2, 1) := by decide +kernel
theorem dX2_parseLetters_43 : decode cX2_parseLetters 43 = .ok (.bipush 12, 2) := by decide +kernel
theorem dX2_parseLetters_45 : decode cX2_parseLetters 45 = .ok (.iadd, 1) := by decide +kernel
theorem dX2_parseLetters_46 : decode cX2_parseLetters 46 = .ok (.invokevirtual 59, 3) := by decide +kernel
theorem dX2_parseLetters_49 : decode cX2_parseLetters 49 = .ok (.ireturn, 1) := by decide +kernel
theorem dX2_parseLetters_50 : decode cX2_parseLetters 50 = .ok (.aload_n 0, 1) := by decide +kernel
theorem dX2_parseLetters_51 : decode cX2_parseLetters 51 = .ok (.getfield 19, 3) := by decide +kernel
theorem dX2_parseLetters_54 : decode cX2_parseLetters 54 = .ok (.iconst 0, 1) := by decide +kernel
theorem dX2_parseLetters_55 : decode cX2_parseLetters 55 = .ok (.iload_n 1, 1) := by decide +kernel
theorem dX2_parseLetters_56 : decode cX2_parseLetters 56 = .ok (.aload_n 0, 1) := by decide +kernel
theorem dX2_parseLetters_57 : decode cX2_parseLetters 57 = .ok (.iload_n 2, 1) := by decide +kernel
theorem dX2_parseLetters_58 : decode cX2_parseLetters 58 = .ok (.iload_n 3, 1) := by decide +kernel
theorem dX2_parseLetters_59 : decode cX2_parseLetters 59 = .ok (.invokevirtual 124, 3) := by decide +kernel
theorem dX2_parseLetters_62 : decode cX2_parseLetters 62 = .ok (.iload_n 3, 1) := by decide +kernel
theorem dX2_parseLetters_63 : decode cX2_parseLetters 63 = .ok (.iload_n 2, 1) := by decide +kernel
theorem dX2_parseLetters_64 : decode cX2_parseLetters 64 = .ok (.isub, 1) := by decide +kernel
theorem dX2_parseLetters_65 : decode cX2_parseLetters 65 = .ok (.invokevirtual 116, 3) := by decide +kernel
theorem dX2_parseLetters_68 : decode cX2_parseLetters 68 = .ok (.aload_n 0, 1) := by decide +kernel
theorem dX2_parseLetters_69 : decode cX2_parseLetters 69 = .ok (.getfield 15, 3) := by decide +kernel
theorem dX2_parseLetters_72 : decode cX2_parseLetters 72 = .ok (.iload_n 3, 1) := by decide +kernel
theorem dX2_parseLetters_73 : decode cX2_parseLetters 73 = .ok (.invokevirtual 31, 3) := by decide +kernel
theorem dX2_parseLetters_76 : decode cX2_parseLetters 76 = .ok (.iconst 1, 1) := by decide +kernel
theorem dX2_parseLetters_77 : decode cX2_parseLetters 77 = .ok (.ireturn, 1) := by decide +kernel
theorem dX2_signsOf_0 : decode cX2_signsOf 0 = .ok (.lconst 0, 1) := by decide +kernel
theorem dX2_signsOf_1 : decode cX2_signsOf 1 = .ok (.lstore_n 3, 1) := by decide +kernel
theorem dX2_signsOf_2 : decode cX2_signsOf 2 = .ok (.iload_n 1, 1) := by decide +kernel
theorem dX2_signsOf_3 : decode cX2_signsOf 3 = .ok (.istore 5, 2) := by decide +kernel
theorem dX2_signsOf_5 : decode cX2_signsOf 5 = .ok (.iload 5, 2) := by decide +kernel
theorem dX2_signsOf_7 : decode cX2_signsOf 7 = .ok (.iload_n 2, 1) := by decide +kernel
theorem dX2_signsOf_8 : decode cX2_signsOf 8 = .ok (.if_icmp .ge 31, 3) := by decide +kernel
theorem dX2_signsOf_11 : decode cX2_signsOf 11 = .ok (.lload_n 3, 1) := by decide +kernel
theorem dX2_signsOf_12 : decode cX2_signsOf 12 = .ok (.aload_n 0, 1) := by decide +kernel
theorem dX2_signsOf_13 : decode cX2_signsOf 13 = .ok (.getfield 15, 3) := by decide +kernel
theorem dX2_signsOf_16 : decode cX2_signsOf 16 = .ok (.iload 5, 2) := by decide +kernel
theorem dX2_signsOf_18 : decode cX2_signsOf 18 = .ok (.invokevirtual 112, 3) := by decide +kernel
theorem dX2_signsOf_21 : decode cX2_signsOf 21 = .ok (.invokestatic 128, 3) := by decide +kernel
theorem dX2_signsOf_24 : decode cX2_signsOf 24 = .ok (.iconst 5, 1) := by decide +kernel
theorem dX2_signsOf_25 : decode cX2_signsOf 25 = .ok (.iload 5, 2) := by decide +kernel
theorem dX2_signsOf_27 : decode cX2_signsOf 27 = .ok (.iload_n 1, 1) := by decide +kernel
theorem dX2_signsOf_28 : decode cX2_signsOf 28 = .ok (.isub, 1) := by decide +kernel
theorem dX2_signsOf_29 : decode cX2_signsOf 29 = .ok (.imul, 1) := by decide +kernel
theorem dX2_signsOf_30 : decode cX2_signsOf 30 = .ok (.lushr, 1) := by decide +kernel
theorem dX2_signsOf_31 : decode cX2_signsOf 31 = .ok (.lor, 1) := by decide +kernel
theorem dX2_signsOf_32 : decode cX2_signsOf 32 = .ok (.lstore_n 3, 1) := by decide +kernel
theorem dX2_signsOf_33 : decode cX2_signsOf 33 = .ok (.iinc 5 1, 3) := by decide +kernel
theorem dX2_signsOf_36 : decode cX2_signsOf 36 = .ok (.goto (-31), 3) := by decide +kernel
theorem dX2_signsOf_39 : decode cX2_signsOf 39 = .ok (.lload_n 3, 1) := by decide +kernel
theorem dX2_signsOf_40 : decode cX2_signsOf 40 = .ok (.lreturn, 1) := by decide +kernel
theorem dX2_parseKeyword_0 : decode cX2_parseKeyword 0 = .ok (.aload_n 0, 1) := by decide +kernel
theorem dX2_parseKeyword_1 : decode cX2_parseKeyword 1 = .ok (.getfield 15, 3) := by decide +kernel
theorem dX2_parseKeyword_4 : decode cX2_parseKeyword 4 = .ok (.invokevirtual 37, 3) := by decide +kernel
theorem dX2_parseKeyword_7 : decode cX2_parseKeyword 7 = .ok (.aload_n 0, 1) := by decide +kernel
theorem dX2_parseKeyword_8 : decode cX2_parseKeyword 8 = .ok (.getfield 15, 3) := by decide +kernel
theorem dX2_parseKeyword_11 : decode cX2_parseKeyword 11 = .ok (.aload_n 1, 1) := by decide +kernel
theorem dX2_parseKeyword_12 : decode cX2_parseKeyword 12 = .ok (.invokevirtual 50, 3) := by decide +kernel
theorem dX2_parseKeyword_15 : decode cX2_parseKeyword 15 = .ok (.ifCond .ne 16, 3) := by decide +kernel
theorem dX2_parseKeyword_18 : decode cX2_parseKeyword 18 = .ok (.aload_n 0, 1) := by decide +kernel
theorem dX2_parseKeyword_19 : decode cX2_parseKeyword 19 = .ok (.iconst 1, 1) := by decide +kernel
theorem dX2_parseKeyword_20 : decode cX2_parseKeyword 20 = .ok (.aload_n 0, 1) := by decide +kernel
theorem dX2_parseKeyword_21 : decode cX2_parseKeyword 21 = .ok (.getfield 15, 3) := by decide +kernel
theorem dX2_parseKeyword_24 : decode cX2_parseKeyword 24 = .ok (.invokevirtual 56, 3) := by decide +kernel
theorem dX2_parseKeyword_27 : decode cX2_parseKeyword 27 = .ok (.invokevirtual 59, 3) := by decide +kernel
theorem dX2_parseKeyword_30 : decode cX2_parseKeyword 30 = .ok (.ireturn, 1) := by decide +kernel
theorem dX2_parseKeyword_31 : decode cX2_parseKeyword 31 = .ok (.aload_n 0, 1) := by decide +kernel
theorem dX2_parseKeyword_32 : decode cX2_parseKeyword 32 = .ok (.getfield 15, 3) := by decide +kernel
theorem dX2_parseKeyword_35 : decode cX2_parseKeyword 35 = .ok (.aload_n 0, 1) := by decide +kernel
theorem dX2_parseKeyword_36 : decode cX2_parseKeyword 36 = .ok (.getfield 15, 3) := by decide +kernel
theorem dX2_parseKeyword_39 : decode cX2_parseKeyword 39 = .ok (.invokevirtual 56, 3) := by decide +kernel
theorem dX2_parseKeyword_42 : decode cX2_parseKeyword 42 = .ok (.aload_n 1, 1) := by decide +kernel
theorem dX2_parseKeyword_43 : decode cX2_parseKeyword 43 = .ok (.invokevirtual 134, 3) := by decide +kernel
theorem dX2_parseKeyword_46 : decode cX2_parseKeyword 46 = .ok (.iadd, 1) := by decide +kernel
theorem dX2_parseKeyword_47 : decode cX2_parseKeyword 47 = .ok (.invokevirtual 31, 3) := by decide +kernel
theorem dX2_parseKeyword_50 : decode cX2_parseKeyword 50 = .ok (.iconst 1, 1) := by decide +kernel
theorem dX2_parseKeyword_51 : decode cX2_parseKeyword 51 = .ok (.ireturn, 1) := by decide +kernel
theorem dX2_parseSign_0 : decode cX2_parseSign 0 = .ok (.aload_n 0, 1) := by decide +kernel
theorem dX2_parseSign_1 : decode cX2_parseSign 1 = .ok (.getfield 15, 3) := by decide +kernel
theorem dX2_parseSign_4 : decode cX2_parseSign 4 = .ok (.invokevirtual 37, 3) := by decide +kernel
theorem dX2_parseSign_7 : decode cX2_parseSign 7 = .ok (.aload_n 0, 1) := by decide +kernel
theorem dX2_parseSign_8 : decode cX2_parseSign 8 = .ok (.getfield 15, 3) := by decide +kernel
theorem dX2_parseSign_11 : decode cX2_parseSign 11 = .ok (.invokevirtual 40, 3) := by decide +kernel
theorem dX2_parseSign_14 : decode cX2_parseSign 14 = .ok (.iload_n 1, 1) := by decide +kernel
theorem dX2_parseSign_15 : decode cX2_parseSign 15 = .ok (.if_icmp .eq 16, 3) := by decide +kernel
theorem dX2_parseSign_18 : decode cX2_parseSign 18 = .ok (.aload_n 0, 1) := by decide +kernel
theorem dX2_parseSign_19 : decode cX2_parseSign 19 = .ok (.iconst 1, 1) := by decide +kernel
theorem dX2_parseSign_20 : decode cX2_parseSign 20 = .ok (.aload_n 0, 1) := by decide +kernel
theorem dX2_parseSign_21 : decode cX2_parseSign 21 = .ok (.getfield 15, 3) := by decide +kernel
theorem dX2_parseSign_24 : decode cX2_parseSign 24 = .ok (.invokevirtual 56, 3) := by decide +kernel
theorem dX2_parseSign_27 : decode cX2_parseSign 27 = .ok (.invokevirtual 59, 3) := by decide +kernel
theorem dX2_parseSign_30 : decode cX2_parseSign 30 = .ok (.ireturn, 1) := by decide +kernel
theorem dX2_parseSign_31 : decode cX2_parseSign 31 = .ok (.aload_n 0, 1) := by decide +kernel
theorem dX2_parseSign_32 : decode cX2_parseSign 32 = .ok (.getfield 15, 3) := by decide +kernel
theorem dX2_parseSign_35 : decode cX2_parseSign 35 = .ok (.aload_n 0, 1) := by decide +kernel
theorem dX2_parseSign_36 : decode cX2_parseSign 36 = .ok (.getfield 15, 3) := by decide +kernel
theorem dX2_parseSign_39 : decode cX2_parseSign 39 = .ok (.invokevirtual 56, 3) := by decide +kernel
theorem dX2_parseSign_42 : decode cX2_parseSign 42 = .ok (.iconst 1, 1) := by decide +kernel
theorem dX2_parseSign_43 : decode cX2_parseSign 43 = .ok (.iadd, 1) := by decide +kernel
theorem dX2_parseSign_44 : decode cX2_parseSign 44 = .ok (.invokevirtual 31, 3) := by decide +kernel
theorem dX2_parseSign_47 : decode cX2_parseSign 47 = .ok (.iconst 1, 1) := by decide +kernel
theorem dX2_parseSign_48 : decode cX2_parseSign 48 = .ok (.ireturn, 1) := by decide +kernel
theorem dX2_parseNumber_0 : decode cX2_parseNumber 0 = .ok (.aload_n 0, 1) := by decide +kernel
theorem dX2_parseNumber_1 : decode cX2_parseNumber 1 = .ok (.getfield 15, 3) := by decide +kernel
theorem dX2_parseNumber_4 : decode cX2_parseNumber 4 = .ok (.invokevirtual 37, 3) := by decide +kernel
theorem dX2_parseNumber_7 : decode cX2_parseNumber 7 = .ok (.aload_n 0, 1) := by decide +kernel
theorem dX2_parseNumber_8 : decode cX2_parseNumber 8 = .ok (.getfield 15, 3) := by decide +kernel
theorem dX2_parseNumber_11 : decode cX2_parseNumber 11 = .ok (.invokevirtual 56, 3) := by decide +kernel
theorem dX2_parseNumber_14 : decode cX2_parseNumber 14 = .ok (.istore_n 3, 1) := by decide +kernel
theorem dX2_parseNumber_15 : decode cX2_parseNumber 15 = .ok (.aload_n 0, 1) := by decide +kernel
theorem dX2_parseNumber_16 : decode cX2_parseNumber 16 = .ok (.getfield 15, 3) := by decide +kernel
theorem dX2_parseNumber_19 : decode cX2_parseNumber 19 = .ok (.bipush 48, 2) := by decide +kernel
theorem dX2_parseNumber_21 : decode cX2_parseNumber 21 = .ok (.bipush 57, 2) := by decide +kernel
theorem dX2_parseNumber_23 : decode cX2_parseNumber 23 = .ok (.invokevirtual 120, 3) := by decide +kernel
theorem dX2_parseNumber_26 : decode cX2_parseNumber 26 = .ok (.istore 4, 2) := by decide +kernel
theorem dX2_parseNumber_28 : decode cX2_parseNumber 28 = .ok (.iload 4, 2) := by decide +kernel
theorem dX2_parseNumber_30 : decode cX2_parseNumber 30 = .ok (.iload_n 3, 1) := by decide +kernel
theorem dX2_parseNumber_31 : decode cX2_parseNumber 31 = .ok (.if_icmp .ne 12, 3) := by decide +kernel
theorem dX2_parseNumber_34 : decode cX2_parseNumber 34 = .ok (.aload_n 0, 1) := by decide +kernel
theorem dX2_parseNumber_35 : decode cX2_parseNumber 35 = .ok (.iconst 1, 1) := by decide +kernel
theorem dX2_parseNumber_36 : decode cX2_parseNumber 36 = .ok (.iload_n 3, 1) := by decide +kernel
theorem dX2_parseNumber_37 : decode cX2_parseNumber 37 = .ok (.invokevirtual 59, 3) := by decide +kernel
theorem dX2_parseNumber_40 : decode cX2_parseNumber 40 = .ok (.pop, 1) := by decide +kernel
theorem dX2_parseNumber_41 : decode cX2_parseNumber 41 = .ok (.iconst (-1), 1) := by decide +kernel
theorem dX2_parseNumber_42 : decode cX2_parseNumber 42 = .ok (.ireturn, 1) := by decide +kernel
theorem dX2_parseNumber_43 : decode cX2_parseNumber 43 = .ok (.iconst 0, 1) := by decide +kernel
theorem dX2_parseNumber_44 : decode cX2_parseNumber 44 = .ok (.istore 5, 2) := by decide +kernel
theorem dX2_parseNumber_46 : decode cX2_parseNumber 46 = .ok (.iload_n 3, 1) := by decide +kernel
theorem dX2_parseNumber_47 : decode cX2_parseNumber 47 = .ok (.istore 6, 2) := by decide +kernel
theorem dX2_parseNumber_49 : decode cX2_parseNumber 49 = .ok (.iload 6, 2) := by decide +kernel
theorem dX2_parseNumber_51 : decode cX2_parseNumber 51 = .ok (.iload 4, 2) := by decide +kernel
theorem dX2_parseNumber_53 : decode cX2_parseNumber 53 = .ok (.if_icmp .ge 37, 3) := by decide +kernel
theorem dX2_parseNumber_56 : decode cX2_parseNumber 56 = .ok (.iload 6, 2) := by decide +kernel
theorem dX2_parseNumber_58 : decode cX2_parseNumber 58 = .ok (.iload_n 3, 1) := by decide +kernel
theorem dX2_parseNumber_59 : decode cX2_parseNumber 59 = .ok (.iconst 3, 1) := by decide +kernel
theorem dX2_parseNumber_60 : decode cX2_parseNumber 60 = .ok (.iadd, 1) := by decide +kernel
theorem dX2_parseNumber_61 : decode cX2_parseNumber 61 = .ok (.if_icmp .ge 29, 3) := by decide +kernel
theorem dX2_parseNumber_64 : decode cX2_parseNumber 64 = .ok (.iload 5, 2) := by decide +kernel
theorem dX2_parseNumber_66 : decode cX2_parseNumber 66 = .ok (.bipush 10, 2) := by decide +kernel
theorem dX2_parseNumber_68 : decode cX2_parseNumber 68 = .ok (.imul, 1) := by decide +kernel
theorem dX2_parseNumber_69 : decode cX2_parseNumber 69 = .ok (.aload_n 0, 1) := by decide +kernel
theorem dX2_parseNumber_70 : decode cX2_parseNumber 70 = .ok (.getfield 15, 3) := by decide +kernel
theorem dX2_parseNumber_73 : decode cX2_parseNumber 73 = .ok (.iload 6, 2) := by decide +kernel
theorem dX2_parseNumber_75 : decode cX2_parseNumber 75 = .ok (.invokevirtual 112, 3) := by decide +kernel
theorem dX2_parseNumber_78 : decode cX2_parseNumber 78 = .ok (.iadd, 1) := by decide +kernel
theorem dX2_parseNumber_79 : decode cX2_parseNumber 79 = .ok (.bipush 48, 2) := by decide +kernel
theorem dX2_parseNumber_81 : decode cX2_parseNumber 81 = .ok (.isub, 1) := by decide +kernel
theorem dX2_parseNumber_82 : decode cX2_parseNumber 82 = .ok (.istore 5, 2) := by decide +kernel
theorem dX2_parseNumber_84 : decode cX2_parseNumber 84 = .ok (.iinc 6 1, 3) := by decide +kernel
theorem dX2_parseNumber_87 : decode cX2_parseNumber 87 = .ok (.goto (-38), 3) := by decide +kernel
theorem dX2_parseNumber_90 : decode cX2_parseNumber 90 = .ok (.iload 4, 2) := by decide +kernel
theorem dX2_parseNumber_92 : decode cX2_parseNumber 92 = .ok (.iload_n 3, 1) := by decide +kernel
theorem dX2_parseNumber_93 : decode cX2_parseNumber 93 = .ok (.isub, 1) := by decide +kernel
theorem dX2_parseNumber_94 : decode cX2_parseNumber 94 = .ok (.iconst 3, 1) := by decide +kernel
theorem dX2_parseNumber_95 : decode cX2_parseNumber 95 = .ok (.if_icmp .gt 15, 3) := by decide +kernel
theorem dX2_parseNumber_98 : decode cX2_parseNumber 98 = .ok (.iload 5, 2) := by decide +kernel
theorem dX2_parseNumber_100 : decode cX2_parseNumber 100 = .ok (.iload_n 1, 1) := by decide +kernel
theorem dX2_parseNumber_101 : decode cX2_parseNumber 101 = .ok (.if_icmp .lt 9, 3) := by decide +kernel
theorem dX2_parseNumber_104 : decode cX2_parseNumber 104 = .ok (.iload 5, 2) := by decide +kernel
theorem dX2_parseNumber_106 : decode cX2_parseNumber 106 = .ok (.iload_n 2, 1) := by decide +kernel
theorem dX2_parseNumber_107 : decode cX2_parseNumber 107 = .ok (.if_icmp .le 12, 3) := by decide +kernel
theorem dX2_parseNumber_110 : decode cX2_parseNumber 110 = .ok (.aload_n 0, 1) := by decide +kernel
theorem dX2_parseNumber_111 : decode cX2_parseNumber 111 = .ok (.iconst 2, 1) := by decide +kernel
theorem dX2_parseNumber_112 : decode cX2_parseNumber 112 = .ok (.iload_n 3, 1) := by decide +kernel
theorem dX2_parseNumber_113 : decode cX2_parseNumber 113 = .ok (.invokevirtual 59, 3) := by decide +kernel
theorem dX2_parseNumber_116 : decode cX2_parseNumber 116 = .ok (.pop, 1) := by decide +kernel
theorem dX2_parseNumber_117 : decode cX2_parseNumber 117 = .ok (.iconst (-1), 1) := by decide +kernel
theorem dX2_parseNumber_118 : decode cX2_parseNumber 118 = .ok (.ireturn, 1) := by decide +kernel
theorem dX2_parseNumber_119 : decode cX2_parseNumber 119 = .ok (.aload_n 0, 1) := by decide +kernel
theorem dX2_parseNumber_120 : decode cX2_parseNumber 120 = .ok (.getfield 15, 3) := by decide +kernel
theorem dX2_parseNumber_123 : decode cX2_parseNumber 123 = .ok (.iload 4, 2) := by decide +kernel
theorem dX2_parseNumber_125 : decode cX2_parseNumber 125 = .ok (.invokevirtual 31, 3) := by decide +kernel
theorem dX2_parseNumber_128 : decode cX2_parseNumber 128 = .ok (.iload 5, 2) := by decide +kernel
theorem dX2_parseNumber_130 : decode cX2_parseNumber 130 = .ok (.ireturn, 1) := by decide +kernel
theorem dX2_fail_0 : decode cX2_fail 0 = .ok (.aload_n 0, 1) := by decide +kernel
theorem dX2_fail_1 : decode cX2_fail 1 = .ok (.iload_n 1, 1) := by decide +kernel
theorem dX2_fail_2 : decode cX2_fail 2 = .ok (.putfield 23, 3) := by decide +kernel
theorem dX2_fail_5 : decode cX2_fail 5 = .ok (.aload_n 0, 1) := by decide +kernel
theorem dX2_fail_6 : decode cX2_fail 6 = .ok (.iload_n 2, 1) := by decide +kernel
theorem dX2_fail_7 : decode cX2_fail 7 = .ok (.putfield 9, 3) := by decide +kernel
theorem dX2_fail_10 : decode cX2_fail 10 = .ok (.iconst 0, 1) := by decide +kernel
theorem dX2_fail_11 : decode cX2_fail 11 = .ok (.ireturn, 1) := by decide +kernel
theorem dX3_init_0 : decode cX3_init 0 = .ok (.aload_n 0, 1) := by decide +kernel
theorem dX3_init_1 : decode cX3_init 1 = .ok (.invokespecial 5, 3) := by decide +kernel
theorem dX3_init_4 : decode cX3_init 4 = .ok (.aload_n 0, 1) := by decide +kernel
theorem dX3_init_5 : decode cX3_init 5 = .ok (.iconst 5, 1) := by decide +kernel
theorem dX3_init_6 : decode cX3_init 6 = .ok (.newarray .long, 2) := by decide +kernel
theorem dX3_init_8 : decode cX3_init 8 = .ok (.putfield 11, 3) := by decide +kernel
theorem dX3_init_11 : decode cX3_init 11 = .ok (.return_, 1) := by decide +kernel
theorem dX3_signOf_0 : decode cX3_signOf 0 = .ok (.iload_n 0, 1) := by decide +kernel
theorem dX3_signOf_1 : decode cX3_signOf 1 = .ok (.bipush 32, 2) := by decide +kernel
theorem dX3_signOf_3 : decode cX3_signOf 3 = .ok (.if_icmp .ne 7, 3) := by decide +kernel
theorem dX3_signOf_6 : decode cX3_signOf 6 = .ok (.iconst 1, 1) := by decide +kernel
theorem dX3_signOf_7 : decode cX3_signOf 7 = .ok (.goto 7, 3) := by decide +kernel
theorem dX3_signOf_10 : decode cX3_signOf 10 = .ok (.iload_n 0, 1) := by decide +kernel
theorem dX3_signOf_11 : decode cX3_signOf 11 = .ok (.bipush 95, 2) := by decide +kernel
theorem dX3_signOf_13 : decode cX3_signOf 13 = .ok (.isub, 1) := by decide +kernel
theorem dX3_signOf_14 : decode cX3_signOf 14 = .ok (.i2l, 1) := by decide +kernel
theorem dX3_signOf_15 : decode cX3_signOf 15 = .ok (.bipush 55, 2) := by decide +kernel
theorem dX3_signOf_17 : decode cX3_signOf 17 = .ok (.lshl, 1) := by decide +kernel
theorem dX3_signOf_18 : decode cX3_signOf 18 = .ok (.lreturn, 1) := by decide +kernel
theorem dX3_signIn_0 : decode cX3_signIn 0 = .ok (.lload_n 0, 1) := by decide +kernel
theorem dX3_signIn_1 : decode cX3_signIn 1 = .ok (.iload_n 2, 1) := by decide +kernel
theorem dX3_signIn_2 : decode cX3_signIn 2 = .ok (.lushr, 1) := by decide +kernel
theorem dX3_signIn_3 : decode cX3_signIn 3 = .ok (.l2i, 1) := by decide +kernel
theorem dX3_signIn_4 : decode cX3_signIn 4 = .ok (.bipush 31, 2) := by decide +kernel
theorem dX3_signIn_6 : decode cX3_signIn 6 = .ok (.iand, 1) := by decide +kernel
theorem dX3_signIn_7 : decode cX3_signIn 7 = .ok (.ireturn, 1) := by decide +kernel
theorem dX3_byteOf_0 : decode cX3_byteOf 0 = .ok (.iload_n 0, 1) := by decide +kernel
theorem dX3_byteOf_1 : decode cX3_byteOf 1 = .ok (.iconst 1, 1) := by decide +kernel
theorem dX3_byteOf_2 : decode cX3_byteOf 2 = .ok (.if_icmp .ne 8, 3) := by decide +kernel
theorem dX3_byteOf_5 : decode cX3_byteOf 5 = .ok (.bipush 32, 2) := by decide +kernel
theorem dX3_byteOf_7 : decode cX3_byteOf 7 = .ok (.goto 7, 3) := by decide +kernel
theorem dX3_byteOf_10 : decode cX3_byteOf 10 = .ok (.iload_n 0, 1) := by decide +kernel
theorem dX3_byteOf_11 : decode cX3_byteOf 11 = .ok (.bipush 95, 2) := by decide +kernel
theorem dX3_byteOf_13 : decode cX3_byteOf 13 = .ok (.iadd, 1) := by decide +kernel
theorem dX3_byteOf_14 : decode cX3_byteOf 14 = .ok (.ireturn, 1) := by decide +kernel
theorem dX3_empty_0 : decode cX3_empty 0 = .ok (.aload_n 0, 1) := by decide +kernel
theorem dX3_empty_1 : decode cX3_empty 1 = .ok (.getfield 11, 3) := by decide +kernel
theorem dX3_empty_4 : decode cX3_empty 4 = .ok (.lconst 0, 1) := by decide +kernel
theorem dX3_empty_5 : decode cX3_empty 5 = .ok (.invokestatic 15, 3) := by decide +kernel
theorem dX3_empty_8 : decode cX3_empty 8 = .ok (.aload_n 0, 1) := by decide +kernel
theorem dX3_empty_9 : decode cX3_empty 9 = .ok (.iconst 0, 1) := by decide +kernel
theorem dX3_empty_10 : decode cX3_empty 10 = .ok (.putfield 21, 3) := by decide +kernel
theorem dX3_empty_13 : decode cX3_empty 13 = .ok (.return_, 1) := by decide +kernel
theorem dX3_size_0 : decode cX3_size 0 = .ok (.aload_n 0, 1) := by decide +kernel
theorem dX3_size_1 : decode cX3_size 1 = .ok (.getfield 21, 3) := by decide +kernel
theorem dX3_size_4 : decode cX3_size 4 = .ok (.ireturn, 1) := by decide +kernel
theorem dX3_signs_0 : decode cX3_signs 0 = .ok (.iload_n 1, 1) := by decide +kernel
theorem dX3_signs_1 : decode cX3_signs 1 = .ok (.ifCond .lt 17, 3) := by decide +kernel
theorem dX3_signs_4 : decode cX3_signs 4 = .ok (.iload_n 1, 1) := by decide +kernel
theorem dX3_signs_5 : decode cX3_signs 5 = .ok (.iconst 5, 1) := by decide +kernel
theorem dX3_signs_6 : decode cX3_signs 6 = .ok (.if_icmp .ge 12, 3) := by decide +kernel
theorem dX3_signs_9 : decode cX3_signs 9 = .ok (.aload_n 0, 1) := by decide +kernel
theorem dX3_signs_10 : decode cX3_signs 10 = .ok (.getfield 11, 3) := by decide +kernel
theorem dX3_signs_13 : decode cX3_signs 13 = .ok (.iload_n 1, 1) := by decide +kernel
theorem dX3_signs_14 : decode cX3_signs 14 = .ok (.laload, 1) := by decide +kernel
theorem dX3_signs_15 : decode cX3_signs 15 = .ok (.goto 4, 3) := by decide +kernel
theorem dX3_signs_18 : decode cX3_signs 18 = .ok (.lconst 0, 1) := by decide +kernel
theorem dX3_signs_19 : decode cX3_signs 19 = .ok (.lreturn, 1) := by decide +kernel
theorem dX3_append_0 : decode cX3_append 0 = .ok (.iload_n 3, 1) := by decide +kernel
theorem dX3_append_1 : decode cX3_append 1 = .ok (.iconst 1, 1) := by decide +kernel
theorem dX3_append_2 : decode cX3_append 2 = .ok (.if_icmp .lt 14, 3) := by decide +kernel
theorem dX3_append_5 : decode cX3_append 5 = .ok (.aload_n 0, 1) := by decide +kernel
theorem dX3_append_6 : decode cX3_append 6 = .ok (.getfield 21, 3) := by decide +kernel
theorem dX3_append_9 : decode cX3_append 9 = .ok (.iload_n 3, 1) := by decide +kernel
theorem dX3_append_10 : decode cX3_append 10 = .ok (.iadd, 1) := by decide +kernel
theorem dX3_append_11 : decode cX3_append 11 = .ok (.bipush 60, 2) := by decide +kernel
theorem dX3_append_13 : decode cX3_append 13 = .ok (.if_icmp .le 5, 3) := by decide +kernel
theorem dX3_append_16 : decode cX3_append 16 = .ok (.iconst 0, 1) := by decide +kernel
theorem dX3_append_17 : decode cX3_append 17 = .ok (.ireturn, 1) := by decide +kernel
theorem dX3_append_18 : decode cX3_append 18 = .ok (.aload_n 0, 1) := by decide +kernel
theorem dX3_append_19 : decode cX3_append 19 = .ok (.getfield 21, 3) := by decide +kernel
theorem dX3_append_22 : decode cX3_append 22 = .ok (.bipush 12, 2) := by decide +kernel
theorem dX3_append_24 : decode cX3_append 24 = .ok (.idiv, 1) := by decide +kernel
theorem dX3_append_25 : decode cX3_append 25 = .ok (.istore 4, 2) := by decide +kernel
theorem dX3_append_27 : decode cX3_append 27 = .ok (.iconst 5, 1) := by decide +kernel
theorem dX3_append_28 : decode cX3_append 28 = .ok (.aload_n 0, 1) := by decide +kernel
theorem dX3_append_29 : decode cX3_append 29 = .ok (.getfield 21, 3) := by decide +kernel
theorem dX3_append_32 : decode cX3_append 32 = .ok (.bipush 12, 2) := by decide +kernel
theorem dX3_append_34 : decode cX3_append 34 = .ok (.irem, 1) := by decide +kernel
theorem dX3_append_35 : decode cX3_append 35 = .ok (.imul, 1) := by decide +kernel
theorem dX3_append_36 : decode cX3_append 36 = .ok (.istore 5, 2) := by decide +kernel
theorem dX3_append_38 : decode cX3_append 38 = .ok (.aload_n 0, 1) := by decide +kernel
theorem dX3_append_39 : decode cX3_append 39 = .ok (.getfield 11, 3) := by decide +kernel
theorem dX3_append_42 : decode cX3_append 42 = .ok (.iload 4, 2) := by decide +kernel
theorem dX3_append_44 : decode cX3_append 44 = .ok (.dup2, 1) := by decide +kernel
theorem dX3_append_45 : decode cX3_append 45 = .ok (.laload, 1) := by decide +kernel
theorem dX3_append_46 : decode cX3_append 46 = .ok (.lload_n 1, 1) := by decide +kernel
theorem dX3_append_47 : decode cX3_append 47 = .ok (.iload 5, 2) := by decide +kernel
theorem dX3_append_49 : decode cX3_append 49 = .ok (.lushr, 1) := by decide +kernel
theorem dX3_append_50 : decode cX3_append 50 = .ok (.lor, 1) := by decide +kernel
theorem dX3_append_51 : decode cX3_append 51 = .ok (.lastore, 1) := by decide +kernel
theorem dX3_append_52 : decode cX3_append 52 = .ok (.iload 4, 2) := by decide +kernel
theorem dX3_append_54 : decode cX3_append 54 = .ok (.iconst 1, 1) := by decide +kernel
theorem dX3_append_55 : decode cX3_append 55 = .ok (.iadd, 1) := by decide +kernel
theorem dX3_append_56 : decode cX3_append 56 = .ok (.iconst 5, 1) := by decide +kernel
theorem dX3_append_57 : decode cX3_append 57 = .ok (.if_icmp .ge 26, 3) := by decide +kernel
theorem dX3_append_60 : decode cX3_append 60 = .ok (.aload_n 0, 1) := by decide +kernel
theorem dX3_append_61 : decode cX3_append 61 = .ok (.getfield 11, 3) := by decide +kernel
theorem dX3_append_64 : decode cX3_append 64 = .ok (.iload 4, 2) := by decide +kernel
theorem dX3_append_66 : decode cX3_append 66 = .ok (.iconst 1, 1) := by decide +kernel
theorem dX3_append_67 : decode cX3_append 67 = .ok (.iadd, 1) := by decide +kernel
theorem dX3_append_68 : decode cX3_append 68 = .ok (.dup2, 1) := by decide +kernel
theorem dX3_append_69 : decode cX3_append 69 = .ok (.laload, 1) := by decide +kernel
theorem dX3_append_70 : decode cX3_append 70 = .ok (.lload_n 1, 1) := by decide +kernel
theorem dX3_append_71 : decode cX3_append 71 = .ok (.bipush 60, 2) := by decide +kernel
theorem dX3_append_73 : decode cX3_append 73 = .ok (.iload 5, 2) := by decide +kernel
theorem dX3_append_75 : decode cX3_append 75 = .ok (.isub, 1) := by decide +kernel
theorem dX3_append_76 : decode cX3_append 76 = .ok (.lshl, 1) := by decide +kernel
theorem dX3_append_77 : decode cX3_append 77 = .ok (.ldc2_w 25, 3) := by decide +kernel
theorem dX3_append_80 : decode cX3_append 80 = .ok (.land, 1) := by decide +kernel
theorem dX3_append_81 : decode cX3_append 81 = .ok (.lor, 1) := by decide +kernel
theorem dX3_append_82 : decode cX3_append 82 = .ok (.lastore, 1) := by decide +kernel
theorem dX3_append_83 : decode cX3_append 83 = .ok (.aload_n 0, 1) := by decide +kernel
theorem dX3_append_84 : decode cX3_append 84 = .ok (.dup, 1) := by decide +kernel
theorem dX3_append_85 : decode cX3_append 85 = .ok (.getfield 21, 3) := by decide +kernel
theorem dX3_append_88 : decode cX3_append 88 = .ok (.iload_n 3, 1) := by decide +kernel
theorem dX3_append_89 : decode cX3_append 89 = .ok (.iadd, 1) := by decide +kernel
theorem dX3_append_90 : decode cX3_append 90 = .ok (.putfield 21, 3) := by decide +kernel
theorem dX3_append_93 : decode cX3_append 93 = .ok (.iconst 1, 1) := by decide +kernel
theorem dX3_append_94 : decode cX3_append 94 = .ok (.ireturn, 1) := by decide +kernel
theorem dX3_appendRow_0 : decode cX3_appendRow 0 = .ok (.iconst 0, 1) := by decide +kernel
theorem dX3_appendRow_1 : decode cX3_appendRow 1 = .ok (.istore 4, 2) := by decide +kernel
theorem dX3_appendRow_3 : decode cX3_appendRow 3 = .ok (.iload 4, 2) := by decide +kernel
theorem dX3_appendRow_5 : decode cX3_appendRow 5 = .ok (.iconst 5, 1) := by decide +kernel
theorem dX3_appendRow_6 : decode cX3_appendRow 6 = .ok (.if_icmp .ge 46, 3) := by decide +kernel
theorem dX3_appendRow_9 : decode cX3_appendRow 9 = .ok (.iload 4, 2) := by decide +kernel
theorem dX3_appendRow_11 : decode cX3_appendRow 11 = .ok (.bipush 12, 2) := by decide +kernel
theorem dX3_appendRow_13 : decode cX3_appendRow 13 = .ok (.imul, 1) := by decide +kernel
theorem dX3_appendRow_14 : decode cX3_appendRow 14 = .ok (.iload_n 3, 1) := by decide +kernel
theorem dX3_appendRow_15 : decode cX3_appendRow 15 = .ok (.if_icmp .ge 37, 3) := by decide +kernel
theorem dX3_appendRow_18 : decode cX3_appendRow 18 = .ok (.aload_n 0, 1) := by decide +kernel
theorem dX3_appendRow_19 : decode cX3_appendRow 19 = .ok (.aload_n 1, 1) := by decide +kernel
theorem dX3_appendRow_20 : decode cX3_appendRow 20 = .ok (.iload_n 2, 1) := by decide +kernel
theorem dX3_appendRow_21 : decode cX3_appendRow 21 = .ok (.iload 4, 2) := by decide +kernel
theorem dX3_appendRow_23 : decode cX3_appendRow 23 = .ok (.invokevirtual 27, 3) := by decide +kernel
theorem dX3_appendRow_26 : decode cX3_appendRow 26 = .ok (.iload_n 3, 1) := by decide +kernel
theorem dX3_appendRow_27 : decode cX3_appendRow 27 = .ok (.iload 4, 2) := by decide +kernel
theorem dX3_appendRow_29 : decode cX3_appendRow 29 = .ok (.bipush 12, 2) := by decide +kernel
theorem dX3_appendRow_31 : decode cX3_appendRow 31 = .ok (.imul, 1) := by decide +kernel
theorem dX3_appendRow_32 : decode cX3_appendRow 32 = .ok (.isub, 1) := by decide +kernel
theorem dX3_appendRow_33 : decode cX3_appendRow 33 = .ok (.bipush 12, 2) := by decide +kernel
theorem dX3_appendRow_35 : decode cX3_appendRow 35 = .ok (.invokestatic 33, 3) := by decide +kernel
theorem dX3_appendRow_38 : decode cX3_appendRow 38 = .ok (.invokevirtual 39, 3) := by decide +kernel
theorem dX3_appendRow_41 : decode cX3_appendRow 41 = .ok (.ifCond .ne 5, 3) := by decide +kernel
theorem dX3_appendRow_44 : decode cX3_appendRow 44 = .ok (.iconst 0, 1) := by decide +kernel
theorem dX3_appendRow_45 : decode cX3_appendRow 45 = .ok (.ireturn, 1) := by decide +kernel
theorem dX3_appendRow_46 : decode cX3_appendRow 46 = .ok (.iinc 4 1, 3) := by decide +kernel
theorem dX3_appendRow_49 : decode cX3_appendRow 49 = .ok (.goto (-46), 3) := by decide +kernel
theorem dX3_appendRow_52 : decode cX3_appendRow 52 = .ok (.iconst 1, 1) := by decide +kernel
theorem dX3_appendRow_53 : decode cX3_appendRow 53 = .ok (.ireturn, 1) := by decide +kernel
theorem dX4_init_0 : decode cX4_init 0 = .ok (.aload_n 0, 1) := by decide +kernel
theorem dX4_init_1 : decode cX4_init 1 = .ok (.invokespecial 3, 3) := by decide +kernel
theorem dX4_init_4 : decode cX4_init 4 = .ok (.aload_n 0, 1) := by decide +kernel
theorem dX4_init_5 : decode cX4_init 5 = .ok (.new 9, 3) := by decide +kernel
theorem dX4_init_8 : decode cX4_init 8 = .ok (.dup, 1) := by decide +kernel
theorem dX4_init_9 : decode cX4_init 9 = .ok (.invokespecial 11, 3) := by decide +kernel
theorem dX4_init_12 : decode cX4_init 12 = .ok (.putfield 12, 3) := by decide +kernel
theorem dX4_init_15 : decode cX4_init 15 = .ok (.aload_n 0, 1) := by decide +kernel
theorem dX4_init_16 : decode cX4_init 16 = .ok (.new 9, 3) := by decide +kernel
theorem dX4_init_19 : decode cX4_init 19 = .ok (.dup, 1) := by decide +kernel
theorem dX4_init_20 : decode cX4_init 20 = .ok (.invokespecial 11, 3) := by decide +kernel
theorem dX4_init_23 : decode cX4_init 23 = .ok (.putfield 18, 3) := by decide +kernel
theorem dX4_init_26 : decode cX4_init 26 = .ok (.aload_n 0, 1) := by decide +kernel
theorem dX4_init_27 : decode cX4_init 27 = .ok (.sipush 1000, 3) := by decide +kernel
theorem dX4_init_30 : decode cX4_init 30 = .ok (.newarray .int, 2) := by decide +kernel
theorem dX4_init_32 : decode cX4_init 32 = .ok (.putfield 21, 3) := by decide +kernel
theorem dX4_init_35 : decode cX4_init 35 = .ok (.aload_n 0, 1) := by decide +kernel
theorem dX4_init_36 : decode cX4_init 36 = .ok (.aload_n 1, 1) := by decide +kernel
theorem dX4_init_37 : decode cX4_init 37 = .ok (.putfield 25, 3) := by decide +kernel
theorem dX4_init_40 : decode cX4_init 40 = .ok (.return_, 1) := by decide +kernel
theorem dX4_nameAll_0 : decode cX4_nameAll 0 = .ok (.aload_n 1, 1) := by decide +kernel
theorem dX4_nameAll_1 : decode cX4_nameAll 1 = .ok (.aload_n 0, 1) := by decide +kernel
theorem dX4_nameAll_2 : decode cX4_nameAll 2 = .ok (.getfield 25, 3) := by decide +kernel
theorem dX4_nameAll_5 : decode cX4_nameAll 5 = .ok (.invokevirtual 29, 3) := by decide +kernel
theorem dX4_nameAll_8 : decode cX4_nameAll 8 = .ok (.invokevirtual 35, 3) := by decide +kernel
theorem dX4_nameAll_11 : decode cX4_nameAll 11 = .ok (.aload_n 0, 1) := by decide +kernel
theorem dX4_nameAll_12 : decode cX4_nameAll 12 = .ok (.invokevirtual 41, 3) := by decide +kernel
theorem dX4_nameAll_15 : decode cX4_nameAll 15 = .ok (.iconst 1, 1) := by decide +kernel
theorem dX4_nameAll_16 : decode cX4_nameAll 16 = .ok (.istore_n 2, 1) := by decide +kernel
theorem dX4_nameAll_17 : decode cX4_nameAll 17 = .ok (.iconst 0, 1) := by decide +kernel
theorem dX4_nameAll_18 : decode cX4_nameAll 18 = .ok (.istore_n 3, 1) := by decide +kernel
theorem dX4_nameAll_19 : decode cX4_nameAll 19 = .ok (.iload_n 3, 1) := by decide +kernel
theorem dX4_nameAll_20 : decode cX4_nameAll 20 = .ok (.bipush 8, 2) := by decide +kernel
theorem dX4_nameAll_22 : decode cX4_nameAll 22 = .ok (.if_icmp .ge 98, 3) := by decide +kernel
theorem dX4_nameAll_25 : decode cX4_nameAll 25 = .ok (.iload_n 2, 1) := by decide +kernel
theorem dX4_nameAll_26 : decode cX4_nameAll 26 = .ok (.ifCond .eq 94, 3) := by decide +kernel
theorem dX4_nameAll_29 : decode cX4_nameAll 29 = .ok (.iconst 0, 1) := by decide +kernel
theorem dX4_nameAll_30 : decode cX4_nameAll 30 = .ok (.istore_n 2, 1) := by decide +kernel
theorem dX4_nameAll_31 : decode cX4_nameAll 31 = .ok (.iconst 0, 1) := by decide +kernel
theorem dX4_nameAll_32 : decode cX4_nameAll 32 = .ok (.istore 4, 2) := by decide +kernel
theorem dX4_nameAll_34 : decode cX4_nameAll 34 = .ok (.iload 4, 2) := by decide +kernel
theorem dX4_nameAll_36 : decode cX4_nameAll 36 = .ok (.sipush 1000, 3) := by decide +kernel
theorem dX4_nameAll_39 : decode cX4_nameAll 39 = .ok (.if_icmp .ge 75, 3) := by decide +kernel
theorem dX4_nameAll_42 : decode cX4_nameAll 42 = .ok (.aload_n 0, 1) := by decide +kernel
theorem dX4_nameAll_43 : decode cX4_nameAll 43 = .ok (.getfield 21, 3) := by decide +kernel
theorem dX4_nameAll_46 : decode cX4_nameAll 46 = .ok (.iload 4, 2) := by decide +kernel
theorem dX4_nameAll_48 : decode cX4_nameAll 48 = .ok (.iaload, 1) := by decide +kernel
theorem dX4_nameAll_49 : decode cX4_nameAll 49 = .ok (.iconst (-1), 1) := by decide +kernel
theorem dX4_nameAll_50 : decode cX4_nameAll 50 = .ok (.if_icmp .eq 58, 3) := by decide +kernel
theorem dX4_nameAll_53 : decode cX4_nameAll 53 = .ok (.aload_n 1, 1) := by decide +kernel
theorem dX4_nameAll_54 : decode cX4_nameAll 54 = .ok (.iload 4, 2) := by decide +kernel
theorem dX4_nameAll_56 : decode cX4_nameAll 56 = .ok (.invokevirtual 44, 3) := by decide +kernel
theorem dX4_nameAll_59 : decode cX4_nameAll 59 = .ok (.ifCond .ne 49, 3) := by decide +kernel
theorem dX4_nameAll_62 : decode cX4_nameAll 62 = .ok (.aload_n 0, 1) := by decide +kernel
theorem dX4_nameAll_63 : decode cX4_nameAll 63 = .ok (.aload_n 1, 1) := by decide +kernel
theorem dX4_nameAll_64 : decode cX4_nameAll 64 = .ok (.aload_n 0, 1) := by decide +kernel
theorem dX4_nameAll_65 : decode cX4_nameAll 65 = .ok (.getfield 21, 3) := by decide +kernel
theorem dX4_nameAll_68 : decode cX4_nameAll 68 = .ok (.iload 4, 2) := by decide +kernel
theorem dX4_nameAll_70 : decode cX4_nameAll 70 = .ok (.iaload, 1) := by decide +kernel
theorem dX4_nameAll_71 : decode cX4_nameAll 71 = .ok (.iload 4, 2) := by decide +kernel
theorem dX4_nameAll_73 : decode cX4_nameAll 73 = .ok (.invokevirtual 48, 3) := by decide +kernel
theorem dX4_nameAll_76 : decode cX4_nameAll 76 = .ok (.ifCond .eq 32, 3) := by decide +kernel
theorem dX4_nameAll_79 : decode cX4_nameAll 79 = .ok (.aload_n 1, 1) := by decide +kernel
theorem dX4_nameAll_80 : decode cX4_nameAll 80 = .ok (.iload 4, 2) := by decide +kernel
theorem dX4_nameAll_82 : decode cX4_nameAll 82 = .ok (.aload_n 0, 1) := by decide +kernel
theorem dX4_nameAll_83 : decode cX4_nameAll 83 = .ok (.getfield 12, 3) := by decide +kernel
theorem dX4_nameAll_86 : decode cX4_nameAll 86 = .ok (.aload_n 0, 1) := by decide +kernel
theorem dX4_nameAll_87 : decode cX4_nameAll 87 = .ok (.getfield 18, 3) := by decide +kernel
theorem dX4_nameAll_90 : decode cX4_nameAll 90 = .ok (.aload_n 0, 1) := by decide +kernel
theorem dX4_nameAll_91 : decode cX4_nameAll 91 = .ok (.getfield 21, 3) := by decide +kernel
theorem dX4_nameAll_94 : decode cX4_nameAll 94 = .ok (.iload 4, 2) := by decide +kernel
theorem dX4_nameAll_96 : decode cX4_nameAll 96 = .ok (.iaload, 1) := by decide +kernel
theorem dX4_nameAll_97 : decode cX4_nameAll 97 = .ok (.aload_n 0, 1) := by decide +kernel
theorem dX4_nameAll_98 : decode cX4_nameAll 98 = .ok (.getfield 52, 3) := by decide +kernel
theorem dX4_nameAll_101 : decode cX4_nameAll 101 = .ok (.iconst 1, 1) := by decide +kernel
theorem dX4_nameAll_102 : decode cX4_nameAll 102 = .ok (.iadd, 1) := by decide +kernel
theorem dX4_nameAll_103 : decode cX4_nameAll 103 = .ok (.invokevirtual 56, 3) := by decide +kernel
theorem dX4_nameAll_106 : decode cX4_nameAll 106 = .ok (.iconst 1, 1) := by decide +kernel
theorem dX4_nameAll_107 : decode cX4_nameAll 107 = .ok (.istore_n 2, 1) := by decide +kernel
theorem dX4_nameAll_108 : decode cX4_nameAll 108 = .ok (.iinc 4 1, 3) := by decide +kernel
theorem dX4_nameAll_111 : decode cX4_nameAll 111 = .ok (.goto (-77), 3) := by decide +kernel
theorem dX4_nameAll_114 : decode cX4_nameAll 114 = .ok (.iinc 3 1, 3) := by decide +kernel
theorem dX4_nameAll_117 : decode cX4_nameAll 117 = .ok (.goto (-98), 3) := by decide +kernel
theorem dX4_nameAll_120 : decode cX4_nameAll 120 = .ok (.return_, 1) := by decide +kernel
theorem dX4_chooseClauses_0 : decode cX4_chooseClauses 0 = .ok (.aload_n 0, 1) := by decide +kernel
theorem dX4_chooseClauses_1 : decode cX4_chooseClauses 1 = .ok (.getfield 21, 3) := by decide +kernel
theorem dX4_chooseClauses_4 : decode cX4_chooseClauses 4 = .ok (.iconst (-1), 1) := by decide +kernel
theorem dX4_chooseClauses_5 : decode cX4_chooseClauses 5 = .ok (.invokestatic 60, 3) := by decide +kernel
theorem dX4_chooseClauses_8 : decode cX4_chooseClauses 8 = .ok (.aload_n 0, 1) := by decide +kernel
theorem dX4_chooseClauses_9 : decode cX4_chooseClauses 9 = .ok (.getfield 25, 3) := by decide +kernel
theorem dX4_chooseClauses_12 : decode cX4_chooseClauses 12 = .ok (.invokevirtual 29, 3) := by decide +kernel
theorem dX4_chooseClauses_15 : decode cX4_chooseClauses 15 = .ok (.iconst 1, 1) := by decide +kernel
theorem dX4_chooseClauses_16 : decode cX4_chooseClauses 16 = .ok (.isub, 1) := by decide +kernel
theorem dX4_chooseClauses_17 : decode cX4_chooseClauses 17 = .ok (.istore_n 1, 1) := by decide +kernel
theorem dX4_chooseClauses_18 : decode cX4_chooseClauses 18 = .ok (.iload_n 1, 1) := by decide +kernel
theorem dX4_chooseClauses_19 : decode cX4_chooseClauses 19 = .ok (.ifCond .lt 25, 3) := by decide +kernel
theorem dX4_chooseClauses_22 : decode cX4_chooseClauses 22 = .ok (.aload_n 0, 1) := by decide +kernel
theorem dX4_chooseClauses_23 : decode cX4_chooseClauses 23 = .ok (.getfield 25, 3) := by decide +kernel
theorem dX4_chooseClauses_26 : decode cX4_chooseClauses 26 = .ok (.iload_n 1, 1) := by decide +kernel
theorem dX4_chooseClauses_27 : decode cX4_chooseClauses 27 = .ok (.invokevirtual 66, 3) := by decide +kernel
theorem dX4_chooseClauses_30 : decode cX4_chooseClauses 30 = .ok (.ifCond .ne 8, 3) := by decide +kernel
theorem dX4_chooseClauses_33 : decode cX4_chooseClauses 33 = .ok (.aload_n 0, 1) := by decide +kernel
theorem dX4_chooseClauses_34 : decode cX4_chooseClauses 34 = .ok (.iload_n 1, 1) := by decide +kernel
theorem dX4_chooseClauses_35 : decode cX4_chooseClauses 35 = .ok (.invokevirtual 69, 3) := by decide +kernel
theorem dX4_chooseClauses_38 : decode cX4_chooseClauses 38 = .ok (.iinc 1 (-1), 3) := by decide +kernel
theorem dX4_chooseClauses_41 : decode cX4_chooseClauses 41 = .ok (.goto (-23), 3) := by decide +kernel
theorem dX4_chooseClauses_44 : decode cX4_chooseClauses 44 = .ok (.iconst 0, 1) := by decide +kernel
theorem dX4_chooseClauses_45 : decode cX4_chooseClauses 45 = .ok (.istore_n 1, 1) := by decide +kernel
theorem dX4_chooseClauses_46 : decode cX4_chooseClauses 46 = .ok (.iload_n 1, 1) := by decide +kernel
theorem dX4_chooseClauses_47 : decode cX4_chooseClauses 47 = .ok (.aload_n 0, 1) := by decide +kernel
theorem dX4_chooseClauses_48 : decode cX4_chooseClauses 48 = .ok (.getfield 25, 3) := by decide +kernel
theorem dX4_chooseClauses_51 : decode cX4_chooseClauses 51 = .ok (.invokevirtual 29, 3) := by decide +kernel
theorem dX4_chooseClauses_54 : decode cX4_chooseClauses 54 = .ok (.if_icmp .ge 25, 3) := by decide +kernel
theorem dX4_chooseClauses_57 : decode cX4_chooseClauses 57 = .ok (.aload_n 0, 1) := by decide +kernel
theorem dX4_chooseClauses_58 : decode cX4_chooseClauses 58 = .ok (.getfield 25, 3) := by decide +kernel
theorem dX4_chooseClauses_61 : decode cX4_chooseClauses 61 = .ok (.iload_n 1, 1) := by decide +kernel
theorem dX4_chooseClauses_62 : decode cX4_chooseClauses 62 = .ok (.invokevirtual 66, 3) := by decide +kernel
theorem dX4_chooseClauses_65 : decode cX4_chooseClauses 65 = .ok (.ifCond .eq 8, 3) := by decide +kernel
theorem dX4_chooseClauses_68 : decode cX4_chooseClauses 68 = .ok (.aload_n 0, 1) := by decide +kernel
theorem dX4_chooseClauses_69 : decode cX4_chooseClauses 69 = .ok (.iload_n 1, 1) := by decide +kernel
theorem dX4_chooseClauses_70 : decode cX4_chooseClauses 70 = .ok (.invokevirtual 69, 3) := by decide +kernel
theorem dX4_chooseClauses_73 : decode cX4_chooseClauses 73 = .ok (.iinc 1 1, 3) := by decide +kernel
theorem dX4_chooseClauses_76 : decode cX4_chooseClauses 76 = .ok (.goto (-30), 3) := by decide +kernel
theorem dX4_chooseClauses_79 : decode cX4_chooseClauses 79 = .ok (.return_, 1) := by decide +kernel
theorem dX4_choose_0 : decode cX4_choose 0 = .ok (.aload_n 0, 1) := by decide +kernel
theorem dX4_choose_1 : decode cX4_choose 1 = .ok (.getfield 25, 3) := by decide +kernel
theorem dX4_choose_4 : decode cX4_choose 4 = .ok (.getfield 72, 3) := by decide +kernel
theorem dX4_choose_7 : decode cX4_choose 7 = .ok (.iload_n 1, 1) := by decide +kernel
theorem dX4_choose_8 : decode cX4_choose 8 = .ok (.iaload, 1) := by decide +kernel
theorem dX4_choose_9 : decode cX4_choose 9 = .ok (.istore_n 2, 1) := by decide +kernel
theorem dX4_choose_10 : decode cX4_choose 10 = .ok (.iload_n 2, 1) := by decide +kernel
theorem dX4_choose_11 : decode cX4_choose 11 = .ok (.aload_n 0, 1) := by decide +kernel
theorem dX4_choose_12 : decode cX4_choose 12 = .ok (.getfield 25, 3) := by decide +kernel
theorem dX4_choose_15 : decode cX4_choose 15 = .ok (.getfield 75, 3) := by decide +kernel
theorem dX4_choose_18 : decode cX4_choose 18 = .ok (.iload_n 1, 1) := by decide +kernel
theorem dX4_choose_19 : decode cX4_choose 19 = .ok (.iaload, 1) := by decide +kernel
theorem dX4_choose_20 : decode cX4_choose 20 = .ok (.if_icmp .gt 23, 3) := by decide +kernel
theorem dX4_choose_23 : decode cX4_choose 23 = .ok (.iload_n 2, 1) := by decide +kernel
theorem dX4_choose_24 : decode cX4_choose 24 = .ok (.sipush 1000, 3) := by decide +kernel
theorem dX4_choose_27 : decode cX4_choose 27 = .ok (.if_icmp .ge 16, 3) := by decide +kernel
theorem dX4_choose_30 : decode cX4_choose 30 = .ok (.aload_n 0, 1) := by decide +kernel
theorem dX4_choose_31 : decode cX4_choose 31 = .ok (.getfield 21, 3) := by decide +kernel
theorem dX4_choose_34 : decode cX4_choose 34 = .ok (.iload_n 2, 1) := by decide +kernel
theorem dX4_choose_35 : decode cX4_choose 35 = .ok (.iload_n 1, 1) := by decide +kernel
theorem dX4_choose_36 : decode cX4_choose 36 = .ok (.iastore, 1) := by decide +kernel
theorem dX4_choose_37 : decode cX4_choose 37 = .ok (.iinc 2 1, 3) := by decide +kernel
theorem dX4_choose_40 : decode cX4_choose 40 = .ok (.goto (-30), 3) := by decide +kernel
theorem dX4_choose_43 : decode cX4_choose 43 = .ok (.return_, 1) := by decide +kernel
theorem dX4_spell_0 : decode cX4_spell 0 = .ok (.aload_n 0, 1) := by decide +kernel
theorem dX4_spell_1 : decode cX4_spell 1 = .ok (.getfield 12, 3) := by decide +kernel
theorem dX4_spell_4 : decode cX4_spell 4 = .ok (.invokevirtual 78, 3) := by decide +kernel
theorem dX4_spell_7 : decode cX4_spell 7 = .ok (.aload_n 0, 1) := by decide +kernel
theorem dX4_spell_8 : decode cX4_spell 8 = .ok (.getfield 18, 3) := by decide +kernel
theorem dX4_spell_11 : decode cX4_spell 11 = .ok (.invokevirtual 78, 3) := by decide +kernel
theorem dX4_spell_14 : decode cX4_spell 14 = .ok (.aload_n 0, 1) := by decide +kernel
theorem dX4_spell_15 : decode cX4_spell 15 = .ok (.iconst 0, 1) := by decide +kernel
theorem dX4_spell_16 : decode cX4_spell 16 = .ok (.putfield 52, 3) := by decide +kernel
theorem dX4_spell_19 : decode cX4_spell 19 = .ok (.aload_n 0, 1) := by decide +kernel
theorem dX4_spell_20 : decode cX4_spell 20 = .ok (.getfield 25, 3) := by decide +kernel
theorem dX4_spell_23 : decode cX4_spell 23 = .ok (.getfield 81, 3) := by decide +kernel
theorem dX4_spell_26 : decode cX4_spell 26 = .ok (.iload_n 2, 1) := by decide +kernel
theorem dX4_spell_27 : decode cX4_spell 27 = .ok (.iaload, 1) := by decide +kernel
theorem dX4_spell_28 : decode cX4_spell 28 = .ok (.istore 4, 2) := by decide +kernel
theorem dX4_spell_30 : decode cX4_spell 30 = .ok (.iload 4, 2) := by decide +kernel
theorem dX4_spell_32 : decode cX4_spell 32 = .ok (.ifCond .le 10, 3) := by decide +kernel
theorem dX4_spell_35 : decode cX4_spell 35 = .ok (.iload_n 3, 1) := by decide +kernel
theorem dX4_spell_36 : decode cX4_spell 36 = .ok (.iload 4, 2) := by decide +kernel
theorem dX4_spell_38 : decode cX4_spell 38 = .ok (.irem, 1) := by decide +kernel
theorem dX4_spell_39 : decode cX4_spell 39 = .ok (.goto 4, 3) := by decide +kernel
theorem dX4_spell_42 : decode cX4_spell 42 = .ok (.iconst 0, 1) := by decide +kernel
theorem dX4_spell_43 : decode cX4_spell 43 = .ok (.istore 5, 2) := by decide +kernel
theorem dX4_spell_45 : decode cX4_spell 45 = .ok (.iload_n 2, 1) := by decide +kernel
theorem dX4_spell_46 : decode cX4_spell 46 = .ok (.bipush 8, 2) := by decide +kernel
theorem dX4_spell_48 : decode cX4_spell 48 = .ok (.imul, 1) := by decide +kernel
theorem dX4_spell_49 : decode cX4_spell 49 = .ok (.istore 6, 2) := by decide +kernel
theorem dX4_spell_51 : decode cX4_spell 51 = .ok (.iload 6, 2) := by decide +kernel
theorem dX4_spell_53 : decode cX4_spell 53 = .ok (.istore 7, 2) := by decide +kernel
theorem dX4_spell_55 : decode cX4_spell 55 = .ok (.iload 7, 2) := by decide +kernel
theorem dX4_spell_57 : decode cX4_spell 57 = .ok (.iload 6, 2) := by decide +kernel
theorem dX4_spell_59 : decode cX4_spell 59 = .ok (.aload_n 0, 1) := by decide +kernel
theorem dX4_spell_60 : decode cX4_spell 60 = .ok (.getfield 25, 3) := by decide +kernel
theorem dX4_spell_63 : decode cX4_spell 63 = .ok (.getfield 84, 3) := by decide +kernel
theorem dX4_spell_66 : decode cX4_spell 66 = .ok (.iload_n 2, 1) := by decide +kernel
theorem dX4_spell_67 : decode cX4_spell 67 = .ok (.iaload, 1) := by decide +kernel
theorem dX4_spell_68 : decode cX4_spell 68 = .ok (.iadd, 1) := by decide +kernel
theorem dX4_spell_69 : decode cX4_spell 69 = .ok (.if_icmp .ge 102, 3) := by decide +kernel
theorem dX4_spell_72 : decode cX4_spell 72 = .ok (.aload_n 0, 1) := by decide +kernel
theorem dX4_spell_73 : decode cX4_spell 73 = .ok (.getfield 25, 3) := by decide +kernel
theorem dX4_spell_76 : decode cX4_spell 76 = .ok (.getfield 87, 3) := by decide +kernel
theorem dX4_spell_79 : decode cX4_spell 79 = .ok (.iload 7, 2) := by decide +kernel
theorem dX4_spell_81 : decode cX4_spell 81 = .ok (.baload, 1) := by decide +kernel
theorem dX4_spell_82 : decode cX4_spell 82 = .ok (.ifCond .eq 11, 3) := by decide +kernel
theorem dX4_spell_85 : decode cX4_spell 85 = .ok (.iload 5, 2) := by decide +kernel
theorem dX4_spell_87 : decode cX4_spell 87 = .ok (.ifCond .ne 6, 3) := by decide +kernel
theorem dX4_spell_90 : decode cX4_spell 90 = .ok (.goto 75, 3) := by decide +kernel
theorem dX4_spell_93 : decode cX4_spell 93 = .ok (.aload_n 0, 1) := by decide +kernel
theorem dX4_spell_94 : decode cX4_spell 94 = .ok (.getfield 25, 3) := by decide +kernel
theorem dX4_spell_97 : decode cX4_spell 97 = .ok (.getfield 91, 3) := by decide +kernel
theorem dX4_spell_100 : decode cX4_spell 100 = .ok (.iload 7, 2) := by decide +kernel
theorem dX4_spell_102 : decode cX4_spell 102 = .ok (.iaload, 1) := by decide +kernel
theorem dX4_spell_103 : decode cX4_spell 103 = .ok (.ifCond .ne 30, 3) := by decide +kernel
theorem dX4_spell_106 : decode cX4_spell 106 = .ok (.aload_n 0, 1) := by decide +kernel
theorem dX4_spell_107 : decode cX4_spell 107 = .ok (.aload_n 0, 1) := by decide +kernel
theorem dX4_spell_108 : decode cX4_spell 108 = .ok (.getfield 25, 3) := by decide +kernel
theorem dX4_spell_111 : decode cX4_spell 111 = .ok (.getfield 94, 3) := by decide +kernel
theorem dX4_spell_114 : decode cX4_spell 114 = .ok (.iload 7, 2) := by decide +kernel
theorem dX4_spell_116 : decode cX4_spell 116 = .ok (.laload, 1) := by decide +kernel
theorem dX4_spell_117 : decode cX4_spell 117 = .ok (.aload_n 0, 1) := by decide +kernel
theorem dX4_spell_118 : decode cX4_spell 118 = .ok (.getfield 25, 3) := by decide +kernel
theorem dX4_spell_121 : decode cX4_spell 121 = .ok (.getfield 98, 3) := by decide +kernel
theorem dX4_spell_124 : decode cX4_spell 124 = .ok (.iload 7, 2) := by decide +kernel
theorem dX4_spell_126 : decode cX4_spell 126 = .ok (.iaload, 1) := by decide +kernel
theorem dX4_spell_127 : decode cX4_spell 127 = .ok (.invokevirtual 101, 3) := by decide +kernel
theorem dX4_spell_130 : decode cX4_spell 130 = .ok (.goto 26, 3) := by decide +kernel
theorem dX4_spell_133 : decode cX4_spell 133 = .ok (.aload_n 0, 1) := by decide +kernel
theorem dX4_spell_134 : decode cX4_spell 134 = .ok (.aload_n 1, 1) := by decide +kernel
theorem dX4_spell_135 : decode cX4_spell 135 = .ok (.aload_n 0, 1) := by decide +kernel
theorem dX4_spell_136 : decode cX4_spell 136 = .ok (.getfield 25, 3) := by decide +kernel
theorem dX4_spell_139 : decode cX4_spell 139 = .ok (.getfield 91, 3) := by decide +kernel
theorem dX4_spell_142 : decode cX4_spell 142 = .ok (.iload 7, 2) := by decide +kernel
theorem dX4_spell_144 : decode cX4_spell 144 = .ok (.iaload, 1) := by decide +kernel
theorem dX4_spell_145 : decode cX4_spell 145 = .ok (.iload_n 3, 1) := by decide +kernel
theorem dX4_spell_146 : decode cX4_spell 146 = .ok (.iload 5, 2) := by decide +kernel
theorem dX4_spell_148 : decode cX4_spell 148 = .ok (.iload 4, 2) := by decide +kernel
theorem dX4_spell_150 : decode cX4_spell 150 = .ok (.invokestatic 105, 3) := by decide +kernel
theorem dX4_spell_153 : decode cX4_spell 153 = .ok (.invokevirtual 109, 3) := by decide +kernel
theorem dX4_spell_156 : decode cX4_spell 156 = .ok (.istore 8, 2) := by decide +kernel
theorem dX4_spell_158 : decode cX4_spell 158 = .ok (.iload 8, 2) := by decide +kernel
theorem dX4_spell_160 : decode cX4_spell 160 = .ok (.ifCond .ne 5, 3) := by decide +kernel
theorem dX4_spell_163 : decode cX4_spell 163 = .ok (.iconst 0, 1) := by decide +kernel
theorem dX4_spell_164 : decode cX4_spell 164 = .ok (.ireturn, 1) := by decide +kernel
theorem dX4_spell_165 : decode cX4_spell 165 = .ok (.iinc 7 1, 3) := by decide +kernel
theorem dX4_spell_168 : decode cX4_spell 168 = .ok (.goto (-113), 3) := by decide +kernel
theorem dX4_spell_171 : decode cX4_spell 171 = .ok (.aload_n 0, 1) := by decide +kernel
theorem dX4_spell_172 : decode cX4_spell 172 = .ok (.getfield 52, 3) := by decide +kernel
theorem dX4_spell_175 : decode cX4_spell 175 = .ok (.bipush 8, 2) := by decide +kernel
theorem dX4_spell_177 : decode cX4_spell 177 = .ok (.if_icmp .ge 7, 3) := by decide +kernel
theorem dX4_spell_180 : decode cX4_spell 180 = .ok (.iconst 1, 1) := by decide +kernel
theorem dX4_spell_181 : decode cX4_spell 181 = .ok (.goto 4, 3) := by decide +kernel
theorem dX4_spell_184 : decode cX4_spell 184 = .ok (.iconst 0, 1) := by decide +kernel
theorem dX4_spell_185 : decode cX4_spell 185 = .ok (.ireturn, 1) := by decide +kernel
theorem dX4_asked_0 : decode cX4_asked 0 = .ok (.iload_n 0, 1) := by decide +kernel
theorem dX4_asked_1 : decode cX4_asked 1 = .ok (.lookupswitch 79 #[(99, 69), (110, 73), (113, 51), (114, 67), (116, 63)], 51) := by decide +kernel
theorem dX4_asked_52 : decode cX4_asked 52 = .ok (.iload_n 3, 1) := by decide +kernel
theorem dX4_asked_53 : decode cX4_asked 53 = .ok (.ifCond .le 9, 3) := by decide +kernel
theorem dX4_asked_56 : decode cX4_asked 56 = .ok (.iload_n 1, 1) := by decide +kernel
theorem dX4_asked_57 : decode cX4_asked 57 = .ok (.iload_n 3, 1) := by decide +kernel
theorem dX4_asked_58 : decode cX4_asked 58 = .ok (.idiv, 1) := by decide +kernel
theorem dX4_asked_59 : decode cX4_asked 59 = .ok (.goto 4, 3) := by decide +kernel
theorem dX4_asked_62 : decode cX4_asked 62 = .ok (.iconst (-1), 1) := by decide +kernel
theorem dX4_asked_63 : decode cX4_asked 63 = .ok (.ireturn, 1) := by decide +kernel
theorem dX4_asked_64 : decode cX4_asked 64 = .ok (.iload_n 1, 1) := by decide +kernel
theorem dX4_asked_65 : decode cX4_asked 65 = .ok (.iload_n 2, 1) := by decide +kernel
theorem dX4_asked_66 : decode cX4_asked 66 = .ok (.isub, 1) := by decide +kernel
theorem dX4_asked_67 : decode cX4_asked 67 = .ok (.ireturn, 1) := by decide +kernel
theorem dX4_asked_68 : decode cX4_asked 68 = .ok (.iload_n 2, 1) := by decide +kernel
theorem dX4_asked_69 : decode cX4_asked 69 = .ok (.ireturn, 1) := by decide +kernel
theorem dX4_asked_70 : decode cX4_asked 70 = .ok (.iload_n 3, 1) := by decide +kernel
theorem dX4_asked_71 : decode cX4_asked 71 = .ok (.iload_n 2, 1) := by decide +kernel
theorem dX4_asked_72 : decode cX4_asked 72 = .ok (.isub, 1) := by decide +kernel
theorem dX4_asked_73 : decode cX4_asked 73 = .ok (.ireturn, 1) := by decide +kernel
theorem dX4_asked_74 : decode cX4_asked 74 = .ok (.iload_n 1, 1) := by decide +kernel
theorem dX4_asked_75 : decode cX4_asked 75 = .ok (.iload_n 2, 1) := by decide +kernel
theorem dX4_asked_76 : decode cX4_asked 76 = .ok (.isub, 1) := by decide +kernel
theorem dX4_asked_77 : decode cX4_asked 77 = .ok (.iload_n 3, 1) := by decide +kernel
theorem dX4_asked_78 : decode cX4_asked 78 = .ok (.iadd, 1) := by decide +kernel
theorem dX4_asked_79 : decode cX4_asked 79 = .ok (.ireturn, 1) := by decide +kernel
theorem dX4_asked_80 : decode cX4_asked 80 = .ok (.iconst (-1), 1) := by decide +kernel
theorem dX4_asked_81 : decode cX4_asked 81 = .ok (.ireturn, 1) := by decide +kernel
theorem dX4_addLetters_0 : decode cX4_addLetters 0 = .ok (.aload_n 0, 1) := by decide +kernel
theorem dX4_addLetters_1 : decode cX4_addLetters 1 = .ok (.invokevirtual 113, 3) := by decide +kernel
theorem dX4_addLetters_4 : decode cX4_addLetters 4 = .ok (.ifCond .eq 31, 3) := by decide +kernel
theorem dX4_addLetters_7 : decode cX4_addLetters 7 = .ok (.aload_n 0, 1) := by decide +kernel
theorem dX4_addLetters_8 : decode cX4_addLetters 8 = .ok (.getfield 12, 3) := by decide +kernel
theorem dX4_addLetters_11 : decode cX4_addLetters 11 = .ok (.lload_n 1, 1) := by decide +kernel
theorem dX4_addLetters_12 : decode cX4_addLetters 12 = .ok (.iload_n 3, 1) := by decide +kernel
theorem dX4_addLetters_13 : decode cX4_addLetters 13 = .ok (.invokevirtual 117, 3) := by decide +kernel
theorem dX4_addLetters_16 : decode cX4_addLetters 16 = .ok (.ifCond .eq 19, 3) := by decide +kernel
theorem dX4_addLetters_19 : decode cX4_addLetters 19 = .ok (.aload_n 0, 1) := by decide +kernel
theorem dX4_addLetters_20 : decode cX4_addLetters 20 = .ok (.getfield 18, 3) := by decide +kernel
theorem dX4_addLetters_23 : decode cX4_addLetters 23 = .ok (.lload_n 1, 1) := by decide +kernel
theorem dX4_addLetters_24 : decode cX4_addLetters 24 = .ok (.iload_n 3, 1) := by decide +kernel
theorem dX4_addLetters_25 : decode cX4_addLetters 25 = .ok (.invokevirtual 117, 3) := by decide +kernel
theorem dX4_addLetters_28 : decode cX4_addLetters 28 = .ok (.ifCond .eq 7, 3) := by decide +kernel
theorem dX4_addLetters_31 : decode cX4_addLetters 31 = .ok (.iconst 1, 1) := by decide +kernel
theorem dX4_addLetters_32 : decode cX4_addLetters 32 = .ok (.goto 4, 3) := by decide +kernel
theorem dX4_addLetters_35 : decode cX4_addLetters 35 = .ok (.iconst 0, 1) := by decide +kernel
theorem dX4_addLetters_36 : decode cX4_addLetters 36 = .ok (.ireturn, 1) := by decide +kernel
theorem dX4_addName_0 : decode cX4_addName 0 = .ok (.aload_n 1, 1) := by decide +kernel
theorem dX4_addName_1 : decode cX4_addName 1 = .ok (.iload_n 2, 1) := by decide +kernel
theorem dX4_addName_2 : decode cX4_addName 2 = .ok (.invokevirtual 44, 3) := by decide +kernel
theorem dX4_addName_5 : decode cX4_addName 5 = .ok (.ifCond .ne 5, 3) := by decide +kernel
theorem dX4_addName_8 : decode cX4_addName 8 = .ok (.iconst 0, 1) := by decide +kernel
theorem dX4_addName_9 : decode cX4_addName 9 = .ok (.ireturn, 1) := by decide +kernel
theorem dX4_addName_10 : decode cX4_addName 10 = .ok (.aload_n 0, 1) := by decide +kernel
theorem dX4_addName_11 : decode cX4_addName 11 = .ok (.aload_n 0, 1) := by decide +kernel
theorem dX4_addName_12 : decode cX4_addName 12 = .ok (.getfield 52, 3) := by decide +kernel
theorem dX4_addName_15 : decode cX4_addName 15 = .ok (.aload_n 1, 1) := by decide +kernel
theorem dX4_addName_16 : decode cX4_addName 16 = .ok (.iload_n 2, 1) := by decide +kernel
theorem dX4_addName_17 : decode cX4_addName 17 = .ok (.invokevirtual 120, 3) := by decide +kernel
theorem dX4_addName_20 : decode cX4_addName 20 = .ok (.invokestatic 124, 3) := by decide +kernel
theorem dX4_addName_23 : decode cX4_addName 23 = .ok (.putfield 52, 3) := by decide +kernel
theorem dX4_addName_26 : decode cX4_addName 26 = .ok (.aload_n 1, 1) := by decide +kernel
theorem dX4_addName_27 : decode cX4_addName 27 = .ok (.iload_n 2, 1) := by decide +kernel
theorem dX4_addName_28 : decode cX4_addName 28 = .ok (.invokevirtual 130, 3) := by decide +kernel
theorem dX4_addName_31 : decode cX4_addName 31 = .ok (.ifCond .eq 26, 3) := by decide +kernel
theorem dX4_addName_34 : decode cX4_addName 34 = .ok (.aload_n 0, 1) := by decide +kernel
theorem dX4_addName_35 : decode cX4_addName 35 = .ok (.invokevirtual 113, 3) := by decide +kernel
theorem dX4_addName_38 : decode cX4_addName 38 = .ok (.ifCond .eq 23, 3) := by decide +kernel
theorem dX4_addName_41 : decode cX4_addName 41 = .ok (.aload_n 1, 1) := by decide +kernel
theorem dX4_addName_42 : decode cX4_addName 42 = .ok (.aload_n 0, 1) := by decide +kernel
theorem dX4_addName_43 : decode cX4_addName 43 = .ok (.getfield 12, 3) := by decide +kernel
theorem dX4_addName_46 : decode cX4_addName 46 = .ok (.aload_n 0, 1) := by decide +kernel
theorem dX4_addName_47 : decode cX4_addName 47 = .ok (.getfield 18, 3) := by decide +kernel
theorem dX4_addName_50 : decode cX4_addName 50 = .ok (.iload_n 2, 1) := by decide +kernel
theorem dX4_addName_51 : decode cX4_addName 51 = .ok (.invokevirtual 133, 3) := by decide +kernel
theorem dX4_addName_54 : decode cX4_addName 54 = .ok (.ifCond .eq 7, 3) := by decide +kernel
theorem dX4_addName_57 : decode cX4_addName 57 = .ok (.iconst 1, 1) := by decide +kernel
theorem dX4_addName_58 : decode cX4_addName 58 = .ok (.goto 4, 3) := by decide +kernel
theorem dX4_addName_61 : decode cX4_addName 61 = .ok (.iconst 0, 1) := by decide +kernel
theorem dX4_addName_62 : decode cX4_addName 62 = .ok (.ireturn, 1) := by decide +kernel
theorem dX4_addGap_0 : decode cX4_addGap 0 = .ok (.aload_n 0, 1) := by decide +kernel
theorem dX4_addGap_1 : decode cX4_addGap 1 = .ok (.getfield 12, 3) := by decide +kernel
theorem dX4_addGap_4 : decode cX4_addGap 4 = .ok (.invokevirtual 137, 3) := by decide +kernel
theorem dX4_addGap_7 : decode cX4_addGap 7 = .ok (.ifCond .eq 19, 3) := by decide +kernel
theorem dX4_addGap_10 : decode cX4_addGap 10 = .ok (.aload_n 0, 1) := by decide +kernel
theorem dX4_addGap_11 : decode cX4_addGap 11 = .ok (.getfield 12, 3) := by decide +kernel
theorem dX4_addGap_14 : decode cX4_addGap 14 = .ok (.bipush 32, 2) := by decide +kernel
theorem dX4_addGap_16 : decode cX4_addGap 16 = .ok (.invokestatic 140, 3) := by decide +kernel
theorem dX4_addGap_19 : decode cX4_addGap 19 = .ok (.iconst 1, 1) := by decide +kernel
theorem dX4_addGap_20 : decode cX4_addGap 20 = .ok (.invokevirtual 117, 3) := by decide +kernel
theorem dX4_addGap_23 : decode cX4_addGap 23 = .ok (.ifCond .eq 7, 3) := by decide +kernel
theorem dX4_addGap_26 : decode cX4_addGap 26 = .ok (.iconst 1, 1) := by decide +kernel
theorem dX4_addGap_27 : decode cX4_addGap 27 = .ok (.goto 4, 3) := by decide +kernel
theorem dX4_addGap_30 : decode cX4_addGap 30 = .ok (.iconst 0, 1) := by decide +kernel
theorem dX4_addGap_31 : decode cX4_addGap 31 = .ok (.ireturn, 1) := by decide +kernel
theorem dX5_init_0 : decode cX5_init 0 = .ok (.aload_n 0, 1) := by decide +kernel
theorem dX5_init_1 : decode cX5_init 1 = .ok (.invokespecial 3, 3) := by decide +kernel
theorem dX5_init_4 : decode cX5_init 4 = .ok (.aload_n 0, 1) := by decide +kernel
theorem dX5_init_5 : decode cX5_init 5 = .ok (.sipush 1000, 3) := by decide +kernel
theorem dX5_init_8 : decode cX5_init 8 = .ok (.newarray .int, 2) := by decide +kernel
theorem dX5_init_10 : decode cX5_init 10 = .ok (.putfield 9, 3) := by decide +kernel
theorem dX5_init_13 : decode cX5_init 13 = .ok (.aload_n 0, 1) := by decide +kernel
theorem dX5_init_14 : decode cX5_init 14 = .ok (.sipush 1000, 3) := by decide +kernel
theorem dX5_init_17 : decode cX5_init 17 = .ok (.newarray .int, 2) := by decide +kernel
theorem dX5_init_19 : decode cX5_init 19 = .ok (.putfield 15, 3) := by decide +kernel
theorem dX5_init_22 : decode cX5_init 22 = .ok (.return_, 1) := by decide +kernel
theorem dX5_bench_0 : decode cX5_bench 0 = .ok (.aload_n 0, 1) := by decide +kernel
theorem dX5_bench_1 : decode cX5_bench 1 = .ok (.getfield 15, 3) := by decide +kernel
theorem dX5_bench_4 : decode cX5_bench 4 = .ok (.areturn, 1) := by decide +kernel
theorem dX5_sort_0 : decode cX5_sort 0 = .ok (.iload_n 2, 1) := by decide +kernel
theorem dX5_sort_1 : decode cX5_sort 1 = .ok (.aload_n 1, 1) := by decide +kernel
theorem dX5_sort_2 : decode cX5_sort 2 = .ok (.arraylength, 1) := by decide +kernel
theorem dX5_sort_3 : decode cX5_sort 3 = .ok (.sipush 1000, 3) := by decide +kernel
theorem dX5_sort_6 : decode cX5_sort 6 = .ok (.invokestatic 18, 3) := by decide +kernel
theorem dX5_sort_9 : decode cX5_sort 9 = .ok (.invokestatic 18, 3) := by decide +kernel
theorem dX5_sort_12 : decode cX5_sort 12 = .ok (.istore 4, 2) := by decide +kernel
theorem dX5_sort_14 : decode cX5_sort 14 = .ok (.iconst 1, 1) := by decide +kernel
theorem dX5_sort_15 : decode cX5_sort 15 = .ok (.istore 5, 2) := by decide +kernel
theorem dX5_sort_17 : decode cX5_sort 17 = .ok (.iload 5, 2) := by decide +kernel
theorem dX5_sort_19 : decode cX5_sort 19 = .ok (.iload 4, 2) := by decide +kernel
theorem dX5_sort_21 : decode cX5_sort 21 = .ok (.if_icmp .ge 65, 3) := by decide +kernel
theorem dX5_sort_24 : decode cX5_sort 24 = .ok (.iconst 0, 1) := by decide +kernel
theorem dX5_sort_25 : decode cX5_sort 25 = .ok (.istore 6, 2) := by decide +kernel
theorem dX5_sort_27 : decode cX5_sort 27 = .ok (.iload 6, 2) := by decide +kernel
theorem dX5_sort_29 : decode cX5_sort 29 = .ok (.iload 5, 2) := by decide +kernel
theorem dX5_sort_31 : decode cX5_sort 31 = .ok (.iadd, 1) := by decide +kernel
theorem dX5_sort_32 : decode cX5_sort 32 = .ok (.iload 4, 2) := by decide +kernel
theorem dX5_sort_34 : decode cX5_sort 34 = .ok (.if_icmp .ge 42, 3) := by decide +kernel
theorem dX5_sort_37 : decode cX5_sort 37 = .ok (.aload_n 0, 1) := by decide +kernel
theorem dX5_sort_38 : decode cX5_sort 38 = .ok (.aload_n 1, 1) := by decide +kernel
theorem dX5_sort_39 : decode cX5_sort 39 = .ok (.iload 6, 2) := by decide +kernel
theorem dX5_sort_41 : decode cX5_sort 41 = .ok (.iload 6, 2) := by decide +kernel
theorem dX5_sort_43 : decode cX5_sort 43 = .ok (.iload 5, 2) := by decide +kernel
theorem dX5_sort_45 : decode cX5_sort 45 = .ok (.iadd, 1) := by decide +kernel
theorem dX5_sort_46 : decode cX5_sort 46 = .ok (.iload 6, 2) := by decide +kernel
theorem dX5_sort_48 : decode cX5_sort 48 = .ok (.iload 5, 2) := by decide +kernel
theorem dX5_sort_50 : decode cX5_sort 50 = .ok (.iadd, 1) := by decide +kernel
theorem dX5_sort_51 : decode cX5_sort 51 = .ok (.iload 5, 2) := by decide +kernel
theorem dX5_sort_53 : decode cX5_sort 53 = .ok (.iadd, 1) := by decide +kernel
theorem dX5_sort_54 : decode cX5_sort 54 = .ok (.iload 4, 2) := by decide +kernel
theorem dX5_sort_56 : decode cX5_sort 56 = .ok (.invokestatic 18, 3) := by decide +kernel
theorem dX5_sort_59 : decode cX5_sort 59 = .ok (.aload_n 3, 1) := by decide +kernel
theorem dX5_sort_60 : decode cX5_sort 60 = .ok (.invokevirtual 24, 3) := by decide +kernel
theorem dX5_sort_63 : decode cX5_sort 63 = .ok (.iload 6, 2) := by decide +kernel
theorem dX5_sort_65 : decode cX5_sort 65 = .ok (.iload 5, 2) := by decide +kernel
theorem dX5_sort_67 : decode cX5_sort 67 = .ok (.iload 5, 2) := by decide +kernel
theorem dX5_sort_69 : decode cX5_sort 69 = .ok (.iadd, 1) := by decide +kernel
theorem dX5_sort_70 : decode cX5_sort 70 = .ok (.iadd, 1) := by decide +kernel
theorem dX5_sort_71 : decode cX5_sort 71 = .ok (.istore 6, 2) := by decide +kernel
theorem dX5_sort_73 : decode cX5_sort 73 = .ok (.goto (-46), 3) := by decide +kernel
theorem dX5_sort_76 : decode cX5_sort 76 = .ok (.iload 5, 2) := by decide +kernel
theorem dX5_sort_78 : decode cX5_sort 78 = .ok (.iload 5, 2) := by decide +kernel
theorem dX5_sort_80 : decode cX5_sort 80 = .ok (.iadd, 1) := by decide +kernel
theorem dX5_sort_81 : decode cX5_sort 81 = .ok (.istore 5, 2) := by decide +kernel
theorem dX5_sort_83 : decode cX5_sort 83 = .ok (.goto (-66), 3) := by decide +kernel
theorem dX5_sort_86 : decode cX5_sort 86 = .ok (.return_, 1) := by decide +kernel
theorem dX5_merge_0 : decode cX5_merge 0 = .ok (.aload_n 1, 1) := by decide +kernel
theorem dX5_merge_1 : decode cX5_merge 1 = .ok (.iload_n 2, 1) := by decide +kernel
theorem dX5_merge_2 : decode cX5_merge 2 = .ok (.aload_n 0, 1) := by decide +kernel
theorem dX5_merge_3 : decode cX5_merge 3 = .ok (.getfield 9, 3) := by decide +kernel
theorem dX5_merge_6 : decode cX5_merge 6 = .ok (.iload_n 2, 1) := by decide +kernel
theorem dX5_merge_7 : decode cX5_merge 7 = .ok (.iload_n 3, 1) := by decide +kernel
theorem dX5_merge_8 : decode cX5_merge 8 = .ok (.iload_n 2, 1) := by decide +kernel
theorem dX5_merge_9 : decode cX5_merge 9 = .ok (.isub, 1) := by decide +kernel
theorem dX5_merge_10 : decode cX5_merge 10 = .ok (.invokestatic 28, 3) := by decide +kernel
theorem dX5_merge_13 : decode cX5_merge 13 = .ok (.iload_n 2, 1) := by decide +kernel
theorem dX5_merge_14 : decode cX5_merge 14 = .ok (.istore 6, 2) := by decide +kernel
theorem dX5_merge_16 : decode cX5_merge 16 = .ok (.iload_n 3, 1) := by decide +kernel
theorem dX5_merge_17 : decode cX5_merge 17 = .ok (.istore 7, 2) := by decide +kernel
theorem dX5_merge_19 : decode cX5_merge 19 = .ok (.iload_n 2, 1) := by decide +kernel
theorem dX5_merge_20 : decode cX5_merge 20 = .ok (.istore 8, 2) := by decide +kernel
theorem dX5_merge_22 : decode cX5_merge 22 = .ok (.iload 8, 2) := by decide +kernel
theorem dX5_merge_24 : decode cX5_merge 24 = .ok (.iload 4, 2) := by decide +kernel
theorem dX5_merge_26 : decode cX5_merge 26 = .ok (.if_icmp .ge 71, 3) := by decide +kernel
theorem dX5_merge_29 : decode cX5_merge 29 = .ok (.iload 6, 2) := by decide +kernel
theorem dX5_merge_31 : decode cX5_merge 31 = .ok (.iload_n 3, 1) := by decide +kernel
theorem dX5_merge_32 : decode cX5_merge 32 = .ok (.if_icmp .ge 65, 3) := by decide +kernel
theorem dX5_merge_35 : decode cX5_merge 35 = .ok (.iload 7, 2) := by decide +kernel
theorem dX5_merge_37 : decode cX5_merge 37 = .ok (.iload 4, 2) := by decide +kernel
theorem dX5_merge_39 : decode cX5_merge 39 = .ok (.if_icmp .ge 24, 3) := by decide +kernel
theorem dX5_merge_42 : decode cX5_merge 42 = .ok (.aload 5, 2) := by decide +kernel
theorem dX5_merge_44 : decode cX5_merge 44 = .ok (.aload_n 0, 1) := by decide +kernel
theorem dX5_merge_45 : decode cX5_merge 45 = .ok (.getfield 9, 3) := by decide +kernel
theorem dX5_merge_48 : decode cX5_merge 48 = .ok (.iload 6, 2) := by decide +kernel
theorem dX5_merge_50 : decode cX5_merge 50 = .ok (.iaload, 1) := by decide +kernel
theorem dX5_merge_51 : decode cX5_merge 51 = .ok (.aload 5, 2) := by decide +kernel
theorem dX5_merge_53 : decode cX5_merge 53 = .ok (.aload_n 1, 1) := by decide +kernel
theorem dX5_merge_54 : decode cX5_merge 54 = .ok (.iload 7, 2) := by decide +kernel
theorem dX5_merge_56 : decode cX5_merge 56 = .ok (.iaload, 1) := by decide +kernel
theorem dX5_merge_57 : decode cX5_merge 57 = .ok (.invokevirtual 34, 3) := by decide +kernel
theorem dX5_merge_60 : decode cX5_merge 60 = .ok (.ifCond .gt 20, 3) := by decide +kernel
theorem dX5_merge_63 : decode cX5_merge 63 = .ok (.aload_n 1, 1) := by decide +kernel
theorem dX5_merge_64 : decode cX5_merge 64 = .ok (.iload 8, 2) := by decide +kernel
theorem dX5_merge_66 : decode cX5_merge 66 = .ok (.aload_n 0, 1) := by decide +kernel
theorem dX5_merge_67 : decode cX5_merge 67 = .ok (.getfield 9, 3) := by decide +kernel
theorem dX5_merge_70 : decode cX5_merge 70 = .ok (.iload 6, 2) := by decide +kernel
theorem dX5_merge_72 : decode cX5_merge 72 = .ok (.iinc 6 1, 3) := by decide +kernel
theorem dX5_merge_75 : decode cX5_merge 75 = .ok (.iaload, 1) := by decide +kernel
theorem dX5_merge_76 : decode cX5_merge 76 = .ok (.iastore, 1) := by decide +kernel
theorem dX5_merge_77 : decode cX5_merge 77 = .ok (.goto 14, 3) := by decide +kernel
theorem dX5_merge_80 : decode cX5_merge 80 = .ok (.aload_n 1, 1) := by decide +kernel
theorem dX5_merge_81 : decode cX5_merge 81 = .ok (.iload 8, 2) := by decide +kernel
theorem dX5_merge_83 : decode cX5_merge 83 = .ok (.aload_n 1, 1) := by decide +kernel
theorem dX5_merge_84 : decode cX5_merge 84 = .ok (.iload 7, 2) := by decide +kernel
theorem dX5_merge_86 : decode cX5_merge 86 = .ok (.iinc 7 1, 3) := by decide +kernel
theorem dX5_merge_89 : decode cX5_merge 89 = .ok (.iaload, 1) := by decide +kernel
theorem dX5_merge_90 : decode cX5_merge 90 = .ok (.iastore, 1) := by decide +kernel
theorem dX5_merge_91 : decode cX5_merge 91 = .ok (.iinc 8 1, 3) := by decide +kernel
theorem dX5_merge_94 : decode cX5_merge 94 = .ok (.goto (-72), 3) := by decide +kernel
theorem dX5_merge_97 : decode cX5_merge 97 = .ok (.return_, 1) := by decide +kernel
theorem dX6_init_0 : decode cX6_init 0 = .ok (.aload_n 0, 1) := by decide +kernel
theorem dX6_init_1 : decode cX6_init 1 = .ok (.invokespecial 1, 3) := by decide +kernel
theorem dX6_init_4 : decode cX6_init 4 = .ok (.aload_n 0, 1) := by decide +kernel
theorem dX6_init_5 : decode cX6_init 5 = .ok (.iconst 0, 1) := by decide +kernel
theorem dX6_init_6 : decode cX6_init 6 = .ok (.iload_n 1, 1) := by decide +kernel
theorem dX6_init_7 : decode cX6_init 7 = .ok (.invokestatic 7, 3) := by decide +kernel
theorem dX6_init_10 : decode cX6_init 10 = .ok (.iconst 5, 1) := by decide +kernel
theorem dX6_init_11 : decode cX6_init 11 = .ok (.imul, 1) := by decide +kernel
theorem dX6_init_12 : decode cX6_init 12 = .ok (.newarray .long, 2) := by decide +kernel
theorem dX6_init_14 : decode cX6_init 14 = .ok (.putfield 15, 3) := by decide +kernel
theorem dX6_init_17 : decode cX6_init 17 = .ok (.return_, 1) := by decide +kernel
theorem dX6_put_0 : decode cX6_put 0 = .ok (.iload_n 1, 1) := by decide +kernel
theorem dX6_put_1 : decode cX6_put 1 = .ok (.iconst 5, 1) := by decide +kernel
theorem dX6_put_2 : decode cX6_put 2 = .ok (.imul, 1) := by decide +kernel
theorem dX6_put_3 : decode cX6_put 3 = .ok (.istore_n 3, 1) := by decide +kernel
theorem dX6_put_4 : decode cX6_put 4 = .ok (.iconst 0, 1) := by decide +kernel
theorem dX6_put_5 : decode cX6_put 5 = .ok (.istore 4, 2) := by decide +kernel
theorem dX6_put_7 : decode cX6_put 7 = .ok (.iload 4, 2) := by decide +kernel
theorem dX6_put_9 : decode cX6_put 9 = .ok (.iconst 5, 1) := by decide +kernel
theorem dX6_put_10 : decode cX6_put 10 = .ok (.if_icmp .ge 40, 3) := by decide +kernel
theorem dX6_put_13 : decode cX6_put 13 = .ok (.iload_n 3, 1) := by decide +kernel
theorem dX6_put_14 : decode cX6_put 14 = .ok (.ifCond .lt 30, 3) := by decide +kernel
theorem dX6_put_17 : decode cX6_put 17 = .ok (.iload_n 3, 1) := by decide +kernel
theorem dX6_put_18 : decode cX6_put 18 = .ok (.iload 4, 2) := by decide +kernel
theorem dX6_put_20 : decode cX6_put 20 = .ok (.iadd, 1) := by decide +kernel
theorem dX6_put_21 : decode cX6_put 21 = .ok (.aload_n 0, 1) := by decide +kernel
theorem dX6_put_22 : decode cX6_put 22 = .ok (.getfield 15, 3) := by decide +kernel
theorem dX6_put_25 : decode cX6_put 25 = .ok (.arraylength, 1) := by decide +kernel
theorem dX6_put_26 : decode cX6_put 26 = .ok (.if_icmp .ge 18, 3) := by decide +kernel
theorem dX6_put_29 : decode cX6_put 29 = .ok (.aload_n 0, 1) := by decide +kernel
theorem dX6_put_30 : decode cX6_put 30 = .ok (.getfield 15, 3) := by decide +kernel
theorem dX6_put_33 : decode cX6_put 33 = .ok (.iload_n 3, 1) := by decide +kernel
theorem dX6_put_34 : decode cX6_put 34 = .ok (.iload 4, 2) := by decide +kernel
theorem dX6_put_36 : decode cX6_put 36 = .ok (.iadd, 1) := by decide +kernel
theorem dX6_put_37 : decode cX6_put 37 = .ok (.aload_n 2, 1) := by decide +kernel
theorem dX6_put_38 : decode cX6_put 38 = .ok (.iload 4, 2) := by decide +kernel
theorem dX6_put_40 : decode cX6_put 40 = .ok (.invokevirtual 21, 3) := by decide +kernel
theorem dX6_put_43 : decode cX6_put 43 = .ok (.lastore, 1) := by decide +kernel
theorem dX6_put_44 : decode cX6_put 44 = .ok (.iinc 4 1, 3) := by decide +kernel
theorem dX6_put_47 : decode cX6_put 47 = .ok (.goto (-40), 3) := by decide +kernel
theorem dX6_put_50 : decode cX6_put 50 = .ok (.return_, 1) := by decide +kernel
theorem dX6_signs_0 : decode cX6_signs 0 = .ok (.iload_n 1, 1) := by decide +kernel
theorem dX6_signs_1 : decode cX6_signs 1 = .ok (.iconst 5, 1) := by decide +kernel
theorem dX6_signs_2 : decode cX6_signs 2 = .ok (.imul, 1) := by decide +kernel
theorem dX6_signs_3 : decode cX6_signs 3 = .ok (.iload_n 2, 1) := by decide +kernel
theorem dX6_signs_4 : decode cX6_signs 4 = .ok (.iadd, 1) := by decide +kernel
theorem dX6_signs_5 : decode cX6_signs 5 = .ok (.istore_n 3, 1) := by decide +kernel
theorem dX6_signs_6 : decode cX6_signs 6 = .ok (.iload_n 3, 1) := by decide +kernel
theorem dX6_signs_7 : decode cX6_signs 7 = .ok (.ifCond .lt 21, 3) := by decide +kernel
theorem dX6_signs_10 : decode cX6_signs 10 = .ok (.iload_n 3, 1) := by decide +kernel
theorem dX6_signs_11 : decode cX6_signs 11 = .ok (.aload_n 0, 1) := by decide +kernel
theorem dX6_signs_12 : decode cX6_signs 12 = .ok (.getfield 15, 3) := by decide +kernel
theorem dX6_signs_15 : decode cX6_signs 15 = .ok (.arraylength, 1) := by decide +kernel
theorem dX6_signs_16 : decode cX6_signs 16 = .ok (.if_icmp .ge 12, 3) := by decide +kernel
theorem dX6_signs_19 : decode cX6_signs 19 = .ok (.aload_n 0, 1) := by decide +kernel
theorem dX6_signs_20 : decode cX6_signs 20 = .ok (.getfield 15, 3) := by decide +kernel
theorem dX6_signs_23 : decode cX6_signs 23 = .ok (.iload_n 3, 1) := by decide +kernel
theorem dX6_signs_24 : decode cX6_signs 24 = .ok (.laload, 1) := by decide +kernel
theorem dX6_signs_25 : decode cX6_signs 25 = .ok (.goto 4, 3) := by decide +kernel
theorem dX6_signs_28 : decode cX6_signs 28 = .ok (.lconst 0, 1) := by decide +kernel
theorem dX6_signs_29 : decode cX6_signs 29 = .ok (.lreturn, 1) := by decide +kernel
theorem dX6_byteAt_0 : decode cX6_byteAt 0 = .ok (.aload_n 0, 1) := by decide +kernel
theorem dX6_byteAt_1 : decode cX6_byteAt 1 = .ok (.iload_n 1, 1) := by decide +kernel
theorem dX6_byteAt_2 : decode cX6_byteAt 2 = .ok (.iload_n 2, 1) := by decide +kernel
theorem dX6_byteAt_3 : decode cX6_byteAt 3 = .ok (.bipush 12, 2) := by decide +kernel
theorem dX6_byteAt_5 : decode cX6_byteAt 5 = .ok (.idiv, 1) := by decide +kernel
theorem dX6_byteAt_6 : decode cX6_byteAt 6 = .ok (.invokevirtual 25, 3) := by decide +kernel
theorem dX6_byteAt_9 : decode cX6_byteAt 9 = .ok (.lstore_n 3, 1) := by decide +kernel
theorem dX6_byteAt_10 : decode cX6_byteAt 10 = .ok (.lload_n 3, 1) := by decide +kernel
theorem dX6_byteAt_11 : decode cX6_byteAt 11 = .ok (.bipush 55, 2) := by decide +kernel
theorem dX6_byteAt_13 : decode cX6_byteAt 13 = .ok (.iconst 5, 1) := by decide +kernel
theorem dX6_byteAt_14 : decode cX6_byteAt 14 = .ok (.iload_n 2, 1) := by decide +kernel
theorem dX6_byteAt_15 : decode cX6_byteAt 15 = .ok (.bipush 12, 2) := by decide +kernel
theorem dX6_byteAt_17 : decode cX6_byteAt 17 = .ok (.irem, 1) := by decide +kernel
theorem dX6_byteAt_18 : decode cX6_byteAt 18 = .ok (.imul, 1) := by decide +kernel
theorem dX6_byteAt_19 : decode cX6_byteAt 19 = .ok (.isub, 1) := by decide +kernel
theorem dX6_byteAt_20 : decode cX6_byteAt 20 = .ok (.invokestatic 28, 3) := by decide +kernel
theorem dX6_byteAt_23 : decode cX6_byteAt 23 = .ok (.invokestatic 32, 3) := by decide +kernel
theorem dX6_byteAt_26 : decode cX6_byteAt 26 = .ok (.ireturn, 1) := by decide +kernel
theorem dX6_count_0 : decode cX6_count 0 = .ok (.iload_n 2, 1) := by decide +kernel
theorem dX6_count_1 : decode cX6_count 1 = .ok (.invokestatic 36, 3) := by decide +kernel
theorem dX6_count_4 : decode cX6_count 4 = .ok (.bipush 55, 2) := by decide +kernel
theorem dX6_count_6 : decode cX6_count 6 = .ok (.invokestatic 28, 3) := by decide +kernel
theorem dX6_count_9 : decode cX6_count 9 = .ok (.istore_n 3, 1) := by decide +kernel
theorem dX6_count_10 : decode cX6_count 10 = .ok (.iconst 0, 1) := by decide +kernel
theorem dX6_count_11 : decode cX6_count 11 = .ok (.istore 4, 2) := by decide +kernel
theorem dX6_count_13 : decode cX6_count 13 = .ok (.iconst 0, 1) := by decide +kernel
theorem dX6_count_14 : decode cX6_count 14 = .ok (.istore 5, 2) := by decide +kernel
theorem dX6_count_16 : decode cX6_count 16 = .ok (.iload 5, 2) := by decide +kernel
theorem dX6_count_18 : decode cX6_count 18 = .ok (.iconst 5, 1) := by decide +kernel
theorem dX6_count_19 : decode cX6_count 19 = .ok (.if_icmp .ge 47, 3) := by decide +kernel
theorem dX6_count_22 : decode cX6_count 22 = .ok (.aload_n 0, 1) := by decide +kernel
theorem dX6_count_23 : decode cX6_count 23 = .ok (.iload_n 1, 1) := by decide +kernel
theorem dX6_count_24 : decode cX6_count 24 = .ok (.iload 5, 2) := by decide +kernel
theorem dX6_count_26 : decode cX6_count 26 = .ok (.invokevirtual 25, 3) := by decide +kernel
theorem dX6_count_29 : decode cX6_count 29 = .ok (.lstore 6, 2) := by decide +kernel
theorem dX6_count_31 : decode cX6_count 31 = .ok (.bipush 55, 2) := by decide +kernel
theorem dX6_count_33 : decode cX6_count 33 = .ok (.istore 8, 2) := by decide +kernel
theorem dX6_count_35 : decode cX6_count 35 = .ok (.iload 8, 2) := by decide +kernel
theorem dX6_count_37 : decode cX6_count 37 = .ok (.ifCond .lt 23, 3) := by decide +kernel
theorem dX6_count_40 : decode cX6_count 40 = .ok (.lload 6, 2) := by decide +kernel
theorem dX6_count_42 : decode cX6_count 42 = .ok (.iload 8, 2) := by decide +kernel
theorem dX6_count_44 : decode cX6_count 44 = .ok (.invokestatic 28, 3) := by decide +kernel
theorem dX6_count_47 : decode cX6_count 47 = .ok (.iload_n 3, 1) := by decide +kernel
theorem dX6_count_48 : decode cX6_count 48 = .ok (.if_icmp .ne 6, 3) := by decide +kernel
theorem dX6_count_51 : decode cX6_count 51 = .ok (.iinc 4 1, 3) := by decide +kernel
theorem dX6_count_54 : decode cX6_count 54 = .ok (.iinc 8 (-5), 3) := by decide +kernel
theorem dX6_count_57 : decode cX6_count 57 = .ok (.goto (-22), 3) := by decide +kernel
theorem dX6_count_60 : decode cX6_count 60 = .ok (.iinc 5 1, 3) := by decide +kernel
theorem dX6_count_63 : decode cX6_count 63 = .ok (.goto (-47), 3) := by decide +kernel
theorem dX6_count_66 : decode cX6_count 66 = .ok (.iload 4, 2) := by decide +kernel
theorem dX6_count_68 : decode cX6_count 68 = .ok (.ireturn, 1) := by decide +kernel
theorem dX6_compare_0 : decode cX6_compare 0 = .ok (.iconst 0, 1) := by decide +kernel
theorem dX6_compare_1 : decode cX6_compare 1 = .ok (.istore 4, 2) := by decide +kernel
theorem dX6_compare_3 : decode cX6_compare 3 = .ok (.iload 4, 2) := by decide +kernel
theorem dX6_compare_5 : decode cX6_compare 5 = .ok (.iconst 5, 1) := by decide +kernel
theorem dX6_compare_6 : decode cX6_compare 6 = .ok (.if_icmp .ge 36, 3) := by decide +kernel
theorem dX6_compare_9 : decode cX6_compare 9 = .ok (.aload_n 0, 1) := by decide +kernel
theorem dX6_compare_10 : decode cX6_compare 10 = .ok (.iload_n 1, 1) := by decide +kernel
theorem dX6_compare_11 : decode cX6_compare 11 = .ok (.iload 4, 2) := by decide +kernel
theorem dX6_compare_13 : decode cX6_compare 13 = .ok (.invokevirtual 25, 3) := by decide +kernel
theorem dX6_compare_16 : decode cX6_compare 16 = .ok (.aload_n 2, 1) := by decide +kernel
theorem dX6_compare_17 : decode cX6_compare 17 = .ok (.iload_n 3, 1) := by decide +kernel
theorem dX6_compare_18 : decode cX6_compare 18 = .ok (.iload 4, 2) := by decide +kernel
theorem dX6_compare_20 : decode cX6_compare 20 = .ok (.invokevirtual 25, 3) := by decide +kernel
theorem dX6_compare_23 : decode cX6_compare 23 = .ok (.invokestatic 39, 3) := by decide +kernel
theorem dX6_compare_26 : decode cX6_compare 26 = .ok (.istore 5, 2) := by decide +kernel
theorem dX6_compare_28 : decode cX6_compare 28 = .ok (.iload 5, 2) := by decide +kernel
theorem dX6_compare_30 : decode cX6_compare 30 = .ok (.ifCond .eq 6, 3) := by decide +kernel
theorem dX6_compare_33 : decode cX6_compare 33 = .ok (.iload 5, 2) := by decide +kernel
theorem dX6_compare_35 : decode cX6_compare 35 = .ok (.ireturn, 1) := by decide +kernel
theorem dX6_compare_36 : decode cX6_compare 36 = .ok (.iinc 4 1, 3) := by decide +kernel
theorem dX6_compare_39 : decode cX6_compare 39 = .ok (.goto (-36), 3) := by decide +kernel
theorem dX6_compare_42 : decode cX6_compare 42 = .ok (.iconst 0, 1) := by decide +kernel
theorem dX6_compare_43 : decode cX6_compare 43 = .ok (.ireturn, 1) := by decide +kernel
theorem dX7_init_0 : decode cX7_init 0 = .ok (.aload_n 0, 1) := by decide +kernel
theorem dX7_init_1 : decode cX7_init 1 = .ok (.invokespecial 3, 3) := by decide +kernel
theorem dX7_init_4 : decode cX7_init 4 = .ok (.aload_n 0, 1) := by decide +kernel
theorem dX7_init_5 : decode cX7_init 5 = .ok (.bipush 9, 2) := by decide +kernel
theorem dX7_init_7 : decode cX7_init 7 = .ok (.newarray .int, 2) := by decide +kernel
theorem dX7_init_9 : decode cX7_init 9 = .ok (.putfield 11, 3) := by decide +kernel
theorem dX7_init_12 : decode cX7_init 12 = .ok (.return_, 1) := by decide +kernel
theorem dX7_lay_0 : decode cX7_lay 0 = .ok (.aload_n 0, 1) := by decide +kernel
theorem dX7_lay_1 : decode cX7_lay 1 = .ok (.getfield 11, 3) := by decide +kernel
theorem dX7_lay_4 : decode cX7_lay 4 = .ok (.iconst 0, 1) := by decide +kernel
theorem dX7_lay_5 : decode cX7_lay 5 = .ok (.iload_n 1, 1) := by decide +kernel
theorem dX7_lay_6 : decode cX7_lay 6 = .ok (.iload_n 2, 1) := by decide +kernel
theorem dX7_lay_7 : decode cX7_lay 7 = .ok (.iadd, 1) := by decide +kernel
theorem dX7_lay_8 : decode cX7_lay 8 = .ok (.iastore, 1) := by decide +kernel
theorem dX7_lay_9 : decode cX7_lay 9 = .ok (.aload_n 0, 1) := by decide +kernel
theorem dX7_lay_10 : decode cX7_lay 10 = .ok (.getfield 11, 3) := by decide +kernel
theorem dX7_lay_13 : decode cX7_lay 13 = .ok (.iconst 1, 1) := by decide +kernel
theorem dX7_lay_14 : decode cX7_lay 14 = .ok (.iload_n 1, 1) := by decide +kernel
theorem dX7_lay_15 : decode cX7_lay 15 = .ok (.iload_n 2, 1) := by decide +kernel
theorem dX7_lay_16 : decode cX7_lay 16 = .ok (.isub, 1) := by decide +kernel
theorem dX7_lay_17 : decode cX7_lay 17 = .ok (.iload_n 3, 1) := by decide +kernel
theorem dX7_lay_18 : decode cX7_lay 18 = .ok (.isub, 1) := by decide +kernel
theorem dX7_lay_19 : decode cX7_lay 19 = .ok (.iastore, 1) := by decide +kernel
theorem dX7_lay_20 : decode cX7_lay 20 = .ok (.aload_n 0, 1) := by decide +kernel
theorem dX7_lay_21 : decode cX7_lay 21 = .ok (.getfield 11, 3) := by decide +kernel
theorem dX7_lay_24 : decode cX7_lay 24 = .ok (.iconst 2, 1) := by decide +kernel
theorem dX7_lay_25 : decode cX7_lay 25 = .ok (.iload_n 1, 1) := by decide +kernel
theorem dX7_lay_26 : decode cX7_lay 26 = .ok (.iload_n 3, 1) := by decide +kernel
theorem dX7_lay_27 : decode cX7_lay 27 = .ok (.iadd, 1) := by decide +kernel
theorem dX7_lay_28 : decode cX7_lay 28 = .ok (.iastore, 1) := by decide +kernel
theorem dX7_lay_29 : decode cX7_lay 29 = .ok (.aload_n 0, 1) := by decide +kernel
theorem dX7_lay_30 : decode cX7_lay 30 = .ok (.getfield 11, 3) := by decide +kernel
theorem dX7_lay_33 : decode cX7_lay 33 = .ok (.iconst 3, 1) := by decide +kernel
theorem dX7_lay_34 : decode cX7_lay 34 = .ok (.iload_n 1, 1) := by decide +kernel
theorem dX7_lay_35 : decode cX7_lay 35 = .ok (.iload_n 2, 1) := by decide +kernel
theorem dX7_lay_36 : decode cX7_lay 36 = .ok (.isub, 1) := by decide +kernel
theorem dX7_lay_37 : decode cX7_lay 37 = .ok (.iload_n 3, 1) := by decide +kernel
theorem dX7_lay_38 : decode cX7_lay 38 = .ok (.iadd, 1) := by decide +kernel
theorem dX7_lay_39 : decode cX7_lay 39 = .ok (.iastore, 1) := by decide +kernel
theorem dX7_lay_40 : decode cX7_lay 40 = .ok (.aload_n 0, 1) := by decide +kernel
theorem dX7_lay_41 : decode cX7_lay 41 = .ok (.getfield 11, 3) := by decide +kernel
theorem dX7_lay_44 : decode cX7_lay 44 = .ok (.iconst 4, 1) := by decide +kernel
theorem dX7_lay_45 : decode cX7_lay 45 = .ok (.iload_n 1, 1) := by decide +kernel
theorem dX7_lay_46 : decode cX7_lay 46 = .ok (.iastore, 1) := by decide +kernel
theorem dX7_lay_47 : decode cX7_lay 47 = .ok (.aload_n 0, 1) := by decide +kernel
theorem dX7_lay_48 : decode cX7_lay 48 = .ok (.getfield 11, 3) := by decide +kernel
theorem dX7_lay_51 : decode cX7_lay 51 = .ok (.iconst 5, 1) := by decide +kernel
theorem dX7_lay_52 : decode cX7_lay 52 = .ok (.iload_n 1, 1) := by decide +kernel
theorem dX7_lay_53 : decode cX7_lay 53 = .ok (.iload_n 2, 1) := by decide +kernel
theorem dX7_lay_54 : decode cX7_lay 54 = .ok (.iadd, 1) := by decide +kernel
theorem dX7_lay_55 : decode cX7_lay 55 = .ok (.iload_n 3, 1) := by decide +kernel
theorem dX7_lay_56 : decode cX7_lay 56 = .ok (.isub, 1) := by decide +kernel
theorem dX7_lay_57 : decode cX7_lay 57 = .ok (.iastore, 1) := by decide +kernel
theorem dX7_lay_58 : decode cX7_lay 58 = .ok (.aload_n 0, 1) := by decide +kernel
theorem dX7_lay_59 : decode cX7_lay 59 = .ok (.getfield 11, 3) := by decide +kernel
theorem dX7_lay_62 : decode cX7_lay 62 = .ok (.bipush 6, 2) := by decide +kernel
theorem dX7_lay_64 : decode cX7_lay 64 = .ok (.iload_n 1, 1) := by decide +kernel
theorem dX7_lay_65 : decode cX7_lay 65 = .ok (.iload_n 3, 1) := by decide +kernel
theorem dX7_lay_66 : decode cX7_lay 66 = .ok (.isub, 1) := by decide +kernel
theorem dX7_lay_67 : decode cX7_lay 67 = .ok (.iastore, 1) := by decide +kernel
theorem dX7_lay_68 : decode cX7_lay 68 = .ok (.aload_n 0, 1) := by decide +kernel
theorem dX7_lay_69 : decode cX7_lay 69 = .ok (.getfield 11, 3) := by decide +kernel
theorem dX7_lay_72 : decode cX7_lay 72 = .ok (.bipush 7, 2) := by decide +kernel
theorem dX7_lay_74 : decode cX7_lay 74 = .ok (.iload_n 1, 1) := by decide +kernel
theorem dX7_lay_75 : decode cX7_lay 75 = .ok (.iload_n 2, 1) := by decide +kernel
theorem dX7_lay_76 : decode cX7_lay 76 = .ok (.iadd, 1) := by decide +kernel
theorem dX7_lay_77 : decode cX7_lay 77 = .ok (.iload_n 3, 1) := by decide +kernel
theorem dX7_lay_78 : decode cX7_lay 78 = .ok (.iadd, 1) := by decide +kernel
theorem dX7_lay_79 : decode cX7_lay 79 = .ok (.iastore, 1) := by decide +kernel
theorem dX7_lay_80 : decode cX7_lay 80 = .ok (.aload_n 0, 1) := by decide +kernel
theorem dX7_lay_81 : decode cX7_lay 81 = .ok (.getfield 11, 3) := by decide +kernel
theorem dX7_lay_84 : decode cX7_lay 84 = .ok (.bipush 8, 2) := by decide +kernel
theorem dX7_lay_86 : decode cX7_lay 86 = .ok (.iload_n 1, 1) := by decide +kernel
theorem dX7_lay_87 : decode cX7_lay 87 = .ok (.iload_n 2, 1) := by decide +kernel
theorem dX7_lay_88 : decode cX7_lay 88 = .ok (.isub, 1) := by decide +kernel
theorem dX7_lay_89 : decode cX7_lay 89 = .ok (.iastore, 1) := by decide +kernel
theorem dX7_lay_90 : decode cX7_lay 90 = .ok (.iconst 0, 1) := by decide +kernel
theorem dX7_lay_91 : decode cX7_lay 91 = .ok (.istore 4, 2) := by decide +kernel
theorem dX7_lay_93 : decode cX7_lay 93 = .ok (.iload 4, 2) := by decide +kernel
theorem dX7_lay_95 : decode cX7_lay 95 = .ok (.bipush 9, 2) := by decide +kernel
theorem dX7_lay_97 : decode cX7_lay 97 = .ok (.if_icmp .ge 34, 3) := by decide +kernel
theorem dX7_lay_100 : decode cX7_lay 100 = .ok (.aload_n 0, 1) := by decide +kernel
theorem dX7_lay_101 : decode cX7_lay 101 = .ok (.getfield 11, 3) := by decide +kernel
theorem dX7_lay_104 : decode cX7_lay 104 = .ok (.iload 4, 2) := by decide +kernel
theorem dX7_lay_106 : decode cX7_lay 106 = .ok (.iaload, 1) := by decide +kernel
theorem dX7_lay_107 : decode cX7_lay 107 = .ok (.ifCond .lt 16, 3) := by decide +kernel
theorem dX7_lay_110 : decode cX7_lay 110 = .ok (.aload_n 0, 1) := by decide +kernel
theorem dX7_lay_111 : decode cX7_lay 111 = .ok (.getfield 11, 3) := by decide +kernel
theorem dX7_lay_114 : decode cX7_lay 114 = .ok (.iload 4, 2) := by decide +kernel
theorem dX7_lay_116 : decode cX7_lay 116 = .ok (.iaload, 1) := by decide +kernel
theorem dX7_lay_117 : decode cX7_lay 117 = .ok (.sipush 1000, 3) := by decide +kernel
theorem dX7_lay_120 : decode cX7_lay 120 = .ok (.if_icmp .lt 5, 3) := by decide +kernel
theorem dX7_lay_123 : decode cX7_lay 123 = .ok (.iconst 0, 1) := by decide +kernel
theorem dX7_lay_124 : decode cX7_lay 124 = .ok (.ireturn, 1) := by decide +kernel
theorem dX7_lay_125 : decode cX7_lay 125 = .ok (.iinc 4 1, 3) := by decide +kernel
theorem dX7_lay_128 : decode cX7_lay 128 = .ok (.goto (-35), 3) := by decide +kernel
theorem dX7_lay_131 : decode cX7_lay 131 = .ok (.iconst 1, 1) := by decide +kernel
theorem dX7_lay_132 : decode cX7_lay 132 = .ok (.ireturn, 1) := by decide +kernel
theorem dX7_isUnlike_0 : decode cX7_isUnlike 0 = .ok (.iconst 0, 1) := by decide +kernel
theorem dX7_isUnlike_1 : decode cX7_isUnlike 1 = .ok (.istore_n 1, 1) := by decide +kernel
theorem dX7_isUnlike_2 : decode cX7_isUnlike 2 = .ok (.iload_n 1, 1) := by decide +kernel
theorem dX7_isUnlike_3 : decode cX7_isUnlike 3 = .ok (.bipush 9, 2) := by decide +kernel
theorem dX7_isUnlike_5 : decode cX7_isUnlike 5 = .ok (.if_icmp .ge 39, 3) := by decide +kernel
theorem dX7_isUnlike_8 : decode cX7_isUnlike 8 = .ok (.iconst 0, 1) := by decide +kernel
theorem dX7_isUnlike_9 : decode cX7_isUnlike 9 = .ok (.istore_n 2, 1) := by decide +kernel
theorem dX7_isUnlike_10 : decode cX7_isUnlike 10 = .ok (.iload_n 2, 1) := by decide +kernel
theorem dX7_isUnlike_11 : decode cX7_isUnlike 11 = .ok (.iload_n 1, 1) := by decide +kernel
theorem dX7_isUnlike_12 : decode cX7_isUnlike 12 = .ok (.if_icmp .ge 26, 3) := by decide +kernel
theorem dX7_isUnlike_15 : decode cX7_isUnlike 15 = .ok (.aload_n 0, 1) := by decide +kernel
theorem dX7_isUnlike_16 : decode cX7_isUnlike 16 = .ok (.getfield 11, 3) := by decide +kernel
theorem dX7_isUnlike_19 : decode cX7_isUnlike 19 = .ok (.iload_n 1, 1) := by decide +kernel
theorem dX7_isUnlike_20 : decode cX7_isUnlike 20 = .ok (.iaload, 1) := by decide +kernel
theorem dX7_isUnlike_21 : decode cX7_isUnlike 21 = .ok (.aload_n 0, 1) := by decide +kernel
theorem dX7_isUnlike_22 : decode cX7_isUnlike 22 = .ok (.getfield 11, 3) := by decide +kernel
theorem dX7_isUnlike_25 : decode cX7_isUnlike 25 = .ok (.iload_n 2, 1) := by decide +kernel
theorem dX7_isUnlike_26 : decode cX7_isUnlike 26 = .ok (.iaload, 1) := by decide +kernel
theorem dX7_isUnlike_27 : decode cX7_isUnlike 27 = .ok (.if_icmp .ne 5, 3) := by decide +kernel
theorem dX7_isUnlike_30 : decode cX7_isUnlike 30 = .ok (.iconst 0, 1) := by decide +kernel
theorem dX7_isUnlike_31 : decode cX7_isUnlike 31 = .ok (.ireturn, 1) := by decide +kernel
theorem dX7_isUnlike_32 : decode cX7_isUnlike 32 = .ok (.iinc 2 1, 3) := by decide +kernel
theorem dX7_isUnlike_35 : decode cX7_isUnlike 35 = .ok (.goto (-25), 3) := by decide +kernel
theorem dX7_isUnlike_38 : decode cX7_isUnlike 38 = .ok (.iinc 1 1, 3) := by decide +kernel
theorem dX7_isUnlike_41 : decode cX7_isUnlike 41 = .ok (.goto (-39), 3) := by decide +kernel
theorem dX7_isUnlike_44 : decode cX7_isUnlike 44 = .ok (.iconst 1, 1) := by decide +kernel
theorem dX7_isUnlike_45 : decode cX7_isUnlike 45 = .ok (.ireturn, 1) := by decide +kernel
theorem dX7_holdsIn_0 : decode cX7_holdsIn 0 = .ok (.iconst 0, 1) := by decide +kernel
theorem dX7_holdsIn_1 : decode cX7_holdsIn 1 = .ok (.istore_n 2, 1) := by decide +kernel
theorem dX7_holdsIn_2 : decode cX7_holdsIn 2 = .ok (.iload_n 2, 1) := by decide +kernel
theorem dX7_holdsIn_3 : decode cX7_holdsIn 3 = .ok (.bipush 9, 2) := by decide +kernel
theorem dX7_holdsIn_5 : decode cX7_holdsIn 5 = .ok (.if_icmp .ge 24, 3) := by decide +kernel
theorem dX7_holdsIn_8 : decode cX7_holdsIn 8 = .ok (.aload_n 1, 1) := by decide +kernel
theorem dX7_holdsIn_9 : decode cX7_holdsIn 9 = .ok (.aload_n 0, 1) := by decide +kernel
theorem dX7_holdsIn_10 : decode cX7_holdsIn 10 = .ok (.getfield 11, 3) := by decide +kernel
theorem dX7_holdsIn_13 : decode cX7_holdsIn 13 = .ok (.iload_n 2, 1) := by decide +kernel
theorem dX7_holdsIn_14 : decode cX7_holdsIn 14 = .ok (.iaload, 1) := by decide +kernel
theorem dX7_holdsIn_15 : decode cX7_holdsIn 15 = .ok (.invokevirtual 15, 3) := by decide +kernel
theorem dX7_holdsIn_18 : decode cX7_holdsIn 18 = .ok (.ifCond .ne 5, 3) := by decide +kernel
theorem dX7_holdsIn_21 : decode cX7_holdsIn 21 = .ok (.iconst 0, 1) := by decide +kernel
theorem dX7_holdsIn_22 : decode cX7_holdsIn 22 = .ok (.ireturn, 1) := by decide +kernel
theorem dX7_holdsIn_23 : decode cX7_holdsIn 23 = .ok (.iinc 2 1, 3) := by decide +kernel
theorem dX7_holdsIn_26 : decode cX7_holdsIn 26 = .ok (.goto (-24), 3) := by decide +kernel
theorem dX7_holdsIn_29 : decode cX7_holdsIn 29 = .ok (.aload_n 0, 1) := by decide +kernel
theorem dX7_holdsIn_30 : decode cX7_holdsIn 30 = .ok (.aload_n 1, 1) := by decide +kernel
theorem dX7_holdsIn_31 : decode cX7_holdsIn 31 = .ok (.iconst 0, 1) := by decide +kernel
theorem dX7_holdsIn_32 : decode cX7_holdsIn 32 = .ok (.invokevirtual 21, 3) := by decide +kernel
theorem dX7_holdsIn_35 : decode cX7_holdsIn 35 = .ok (.istore_n 2, 1) := by decide +kernel
theorem dX7_holdsIn_36 : decode cX7_holdsIn 36 = .ok (.iconst 3, 1) := by decide +kernel
theorem dX7_holdsIn_37 : decode cX7_holdsIn 37 = .ok (.istore_n 3, 1) := by decide +kernel
theorem dX7_holdsIn_38 : decode cX7_holdsIn 38 = .ok (.iload_n 3, 1) := by decide +kernel
theorem dX7_holdsIn_39 : decode cX7_holdsIn 39 = .ok (.getstatic 25, 3) := by decide +kernel
theorem dX7_holdsIn_42 : decode cX7_holdsIn 42 = .ok (.arraylength, 1) := by decide +kernel
theorem dX7_holdsIn_43 : decode cX7_holdsIn 43 = .ok (.if_icmp .ge 21, 3) := by decide +kernel
theorem dX7_holdsIn_46 : decode cX7_holdsIn 46 = .ok (.aload_n 0, 1) := by decide +kernel
theorem dX7_holdsIn_47 : decode cX7_holdsIn 47 = .ok (.aload_n 1, 1) := by decide +kernel
theorem dX7_holdsIn_48 : decode cX7_holdsIn 48 = .ok (.iload_n 3, 1) := by decide +kernel
theorem dX7_holdsIn_49 : decode cX7_holdsIn 49 = .ok (.invokevirtual 21, 3) := by decide +kernel
theorem dX7_holdsIn_52 : decode cX7_holdsIn 52 = .ok (.iload_n 2, 1) := by decide +kernel
theorem dX7_holdsIn_53 : decode cX7_holdsIn 53 = .ok (.if_icmp .eq 5, 3) := by decide +kernel
theorem dX7_holdsIn_56 : decode cX7_holdsIn 56 = .ok (.iconst 0, 1) := by decide +kernel
theorem dX7_holdsIn_57 : decode cX7_holdsIn 57 = .ok (.ireturn, 1) := by decide +kernel
theorem dX7_holdsIn_58 : decode cX7_holdsIn 58 = .ok (.iinc 3 3, 3) := by decide +kernel
theorem dX7_holdsIn_61 : decode cX7_holdsIn 61 = .ok (.goto (-23), 3) := by decide +kernel
theorem dX7_holdsIn_64 : decode cX7_holdsIn 64 = .ok (.iconst 1, 1) := by decide +kernel
theorem dX7_holdsIn_65 : decode cX7_holdsIn 65 = .ok (.ireturn, 1) := by decide +kernel
theorem dX7_lineSum_0 : decode cX7_lineSum 0 = .ok (.iconst 0, 1) := by decide +kernel
theorem dX7_lineSum_1 : decode cX7_lineSum 1 = .ok (.istore_n 3, 1) := by decide +kernel
theorem dX7_lineSum_2 : decode cX7_lineSum 2 = .ok (.iload_n 2, 1) := by decide +kernel
theorem dX7_lineSum_3 : decode cX7_lineSum 3 = .ok (.istore 4, 2) := by decide +kernel
theorem dX7_lineSum_5 : decode cX7_lineSum 5 = .ok (.iload 4, 2) := by decide +kernel
theorem dX7_lineSum_7 : decode cX7_lineSum 7 = .ok (.iload_n 2, 1) := by decide +kernel
theorem dX7_lineSum_8 : decode cX7_lineSum 8 = .ok (.iconst 3, 1) := by decide +kernel
theorem dX7_lineSum_9 : decode cX7_lineSum 9 = .ok (.iadd, 1) := by decide +kernel
theorem dX7_lineSum_10 : decode cX7_lineSum 10 = .ok (.if_icmp .ge 36, 3) := by decide +kernel
theorem dX7_lineSum_13 : decode cX7_lineSum 13 = .ok (.iload 4, 2) := by decide +kernel
theorem dX7_lineSum_15 : decode cX7_lineSum 15 = .ok (.getstatic 25, 3) := by decide +kernel
theorem dX7_lineSum_18 : decode cX7_lineSum 18 = .ok (.arraylength, 1) := by decide +kernel
theorem dX7_lineSum_19 : decode cX7_lineSum 19 = .ok (.if_icmp .ge 27, 3) := by decide +kernel
theorem dX7_lineSum_22 : decode cX7_lineSum 22 = .ok (.iload_n 3, 1) := by decide +kernel
theorem dX7_lineSum_23 : decode cX7_lineSum 23 = .ok (.aload_n 1, 1) := by decide +kernel
theorem dX7_lineSum_24 : decode cX7_lineSum 24 = .ok (.aload_n 0, 1) := by decide +kernel
theorem dX7_lineSum_25 : decode cX7_lineSum 25 = .ok (.getfield 11, 3) := by decide +kernel
theorem dX7_lineSum_28 : decode cX7_lineSum 28 = .ok (.getstatic 25, 3) := by decide +kernel
theorem dX7_lineSum_31 : decode cX7_lineSum 31 = .ok (.iload 4, 2) := by decide +kernel
theorem dX7_lineSum_33 : decode cX7_lineSum 33 = .ok (.iaload, 1) := by decide +kernel
theorem dX7_lineSum_34 : decode cX7_lineSum 34 = .ok (.iaload, 1) := by decide +kernel
theorem dX7_lineSum_35 : decode cX7_lineSum 35 = .ok (.invokevirtual 28, 3) := by decide +kernel
theorem dX7_lineSum_38 : decode cX7_lineSum 38 = .ok (.iadd, 1) := by decide +kernel
theorem dX7_lineSum_39 : decode cX7_lineSum 39 = .ok (.istore_n 3, 1) := by decide +kernel
theorem dX7_lineSum_40 : decode cX7_lineSum 40 = .ok (.iinc 4 1, 3) := by decide +kernel
theorem dX7_lineSum_43 : decode cX7_lineSum 43 = .ok (.goto (-38), 3) := by decide +kernel
theorem dX7_lineSum_46 : decode cX7_lineSum 46 = .ok (.iload_n 3, 1) := by decide +kernel
theorem dX7_lineSum_47 : decode cX7_lineSum 47 = .ok (.ireturn, 1) := by decide +kernel
theorem dX8_init_0 : decode cX8_init 0 = .ok (.aload_n 0, 1) := by decide +kernel
theorem dX8_init_1 : decode cX8_init 1 = .ok (.invokespecial 3, 3) := by decide +kernel
theorem dX8_init_4 : decode cX8_init 4 = .ok (.aload_n 0, 1) := by decide +kernel
theorem dX8_init_5 : decode cX8_init 5 = .ok (.sipush 240, 3) := by decide +kernel
theorem dX8_init_8 : decode cX8_init 8 = .ok (.newarray .byte, 2) := by decide +kernel
theorem dX8_init_10 : decode cX8_init 10 = .ok (.putfield 11, 3) := by decide +kernel
theorem dX8_init_13 : decode cX8_init 13 = .ok (.return_, 1) := by decide +kernel
theorem dX8_hasRoomFor_0 : decode cX8_hasRoomFor 0 = .ok (.aload_n 0, 1) := by decide +kernel
theorem dX8_hasRoomFor_1 : decode cX8_hasRoomFor 1 = .ok (.getfield 15, 3) := by decide +kernel
theorem dX8_hasRoomFor_4 : decode cX8_hasRoomFor 4 = .ok (.iload_n 1, 1) := by decide +kernel
theorem dX8_hasRoomFor_5 : decode cX8_hasRoomFor 5 = .ok (.iadd, 1) := by decide +kernel
theorem dX8_hasRoomFor_6 : decode cX8_hasRoomFor 6 = .ok (.sipush 240, 3) := by decide +kernel
theorem dX8_hasRoomFor_9 : decode cX8_hasRoomFor 9 = .ok (.if_icmp .gt 7, 3) := by decide +kernel
theorem dX8_hasRoomFor_12 : decode cX8_hasRoomFor 12 = .ok (.iconst 1, 1) := by decide +kernel
theorem dX8_hasRoomFor_13 : decode cX8_hasRoomFor 13 = .ok (.goto 4, 3) := by decide +kernel
theorem dX8_hasRoomFor_16 : decode cX8_hasRoomFor 16 = .ok (.iconst 0, 1) := by decide +kernel
theorem dX8_hasRoomFor_17 : decode cX8_hasRoomFor 17 = .ok (.ireturn, 1) := by decide +kernel
theorem dX8_append_0 : decode cX8_append 0 = .ok (.aload_n 0, 1) := by decide +kernel
theorem dX8_append_1 : decode cX8_append 1 = .ok (.getfield 15, 3) := by decide +kernel
theorem dX8_append_4 : decode cX8_append 4 = .ok (.sipush 240, 3) := by decide +kernel
theorem dX8_append_7 : decode cX8_append 7 = .ok (.if_icmp .ge 20, 3) := by decide +kernel
theorem dX8_append_10 : decode cX8_append 10 = .ok (.aload_n 0, 1) := by decide +kernel
theorem dX8_append_11 : decode cX8_append 11 = .ok (.getfield 11, 3) := by decide +kernel
theorem dX8_append_14 : decode cX8_append 14 = .ok (.aload_n 0, 1) := by decide +kernel
theorem dX8_append_15 : decode cX8_append 15 = .ok (.dup, 1) := by decide +kernel
theorem dX8_append_16 : decode cX8_append 16 = .ok (.getfield 15, 3) := by decide +kernel
theorem dX8_append_19 : decode cX8_append 19 = .ok (.dup_x1, 1) := by decide +kernel
theorem dX8_append_20 : decode cX8_append 20 = .ok (.iconst 1, 1) := by decide +kernel
theorem dX8_append_21 : decode cX8_append 21 = .ok (.iadd, 1) := by decide +kernel
theorem dX8_append_22 : decode cX8_append 22 = .ok (.putfield 15, 3) := by decide +kernel
theorem dX8_append_25 : decode cX8_append 25 = .ok (.iload_n 1, 1) := by decide +kernel
theorem dX8_append_26 : decode cX8_append 26 = .ok (.bastore, 1) := by decide +kernel
theorem dX8_append_27 : decode cX8_append 27 = .ok (.return_, 1) := by decide +kernel
theorem dX8_empty_0 : decode cX8_empty 0 = .ok (.aload_n 0, 1) := by decide +kernel
theorem dX8_empty_1 : decode cX8_empty 1 = .ok (.iconst 0, 1) := by decide +kernel
theorem dX8_empty_2 : decode cX8_empty 2 = .ok (.putfield 15, 3) := by decide +kernel
theorem dX8_empty_5 : decode cX8_empty 5 = .ok (.aload_n 0, 1) := by decide +kernel
theorem dX8_empty_6 : decode cX8_empty 6 = .ok (.iconst 0, 1) := by decide +kernel
theorem dX8_empty_7 : decode cX8_empty 7 = .ok (.putfield 19, 3) := by decide +kernel
theorem dX8_empty_10 : decode cX8_empty 10 = .ok (.return_, 1) := by decide +kernel
theorem dX8_size_0 : decode cX8_size 0 = .ok (.aload_n 0, 1) := by decide +kernel
theorem dX8_size_1 : decode cX8_size 1 = .ok (.getfield 15, 3) := by decide +kernel
theorem dX8_size_4 : decode cX8_size 4 = .ok (.ireturn, 1) := by decide +kernel
theorem dX8_at_0 : decode cX8_at 0 = .ok (.aload_n 0, 1) := by decide +kernel
theorem dX8_at_1 : decode cX8_at 1 = .ok (.getfield 19, 3) := by decide +kernel
theorem dX8_at_4 : decode cX8_at 4 = .ok (.ireturn, 1) := by decide +kernel
theorem dX8_moveTo_0 : decode cX8_moveTo 0 = .ok (.aload_n 0, 1) := by decide +kernel
theorem dX8_moveTo_1 : decode cX8_moveTo 1 = .ok (.iload_n 1, 1) := by decide +kernel
theorem dX8_moveTo_2 : decode cX8_moveTo 2 = .ok (.putfield 19, 3) := by decide +kernel
theorem dX8_moveTo_5 : decode cX8_moveTo 5 = .ok (.return_, 1) := by decide +kernel
theorem dX8_skipBlanks_0 : decode cX8_skipBlanks 0 = .ok (.aload_n 0, 1) := by decide +kernel
theorem dX8_skipBlanks_1 : decode cX8_skipBlanks 1 = .ok (.getfield 19, 3) := by decide +kernel
theorem dX8_skipBlanks_4 : decode cX8_skipBlanks 4 = .ok (.aload_n 0, 1) := by decide +kernel
theorem dX8_skipBlanks_5 : decode cX8_skipBlanks 5 = .ok (.getfield 15, 3) := by decide +kernel
theorem dX8_skipBlanks_8 : decode cX8_skipBlanks 8 = .ok (.if_icmp .ge 30, 3) := by decide +kernel
theorem dX8_skipBlanks_11 : decode cX8_skipBlanks 11 = .ok (.aload_n 0, 1) := by decide +kernel
theorem dX8_skipBlanks_12 : decode cX8_skipBlanks 12 = .ok (.getfield 11, 3) := by decide +kernel
theorem dX8_skipBlanks_15 : decode cX8_skipBlanks 15 = .ok (.aload_n 0, 1) := by decide +kernel
theorem dX8_skipBlanks_16 : decode cX8_skipBlanks 16 = .ok (.getfield 19, 3) := by decide +kernel
theorem dX8_skipBlanks_19 : decode cX8_skipBlanks 19 = .ok (.baload, 1) := by decide +kernel
theorem dX8_skipBlanks_20 : decode cX8_skipBlanks 20 = .ok (.bipush 32, 2) := by decide +kernel
theorem dX8_skipBlanks_22 : decode cX8_skipBlanks 22 = .ok (.if_icmp .ne 16, 3) := by decide +kernel
theorem dX8_skipBlanks_25 : decode cX8_skipBlanks 25 = .ok (.aload_n 0, 1) := by decide +kernel
theorem dX8_skipBlanks_26 : decode cX8_skipBlanks 26 = .ok (.dup, 1) := by decide +kernel
theorem dX8_skipBlanks_27 : decode cX8_skipBlanks 27 = .ok (.getfield 19, 3) := by decide +kernel
theorem dX8_skipBlanks_30 : decode cX8_skipBlanks 30 = .ok (.iconst 1, 1) := by decide +kernel
theorem dX8_skipBlanks_31 : decode cX8_skipBlanks 31 = .ok (.iadd, 1) := by decide +kernel
theorem dX8_skipBlanks_32 : decode cX8_skipBlanks 32 = .ok (.putfield 19, 3) := by decide +kernel
theorem dX8_skipBlanks_35 : decode cX8_skipBlanks 35 = .ok (.goto (-35), 3) := by decide +kernel
theorem dX8_skipBlanks_38 : decode cX8_skipBlanks 38 = .ok (.return_, 1) := by decide +kernel
theorem dX8_current_0 : decode cX8_current 0 = .ok (.aload_n 0, 1) := by decide +kernel
theorem dX8_current_1 : decode cX8_current 1 = .ok (.aload_n 0, 1) := by decide +kernel
theorem dX8_current_2 : decode cX8_current 2 = .ok (.getfield 19, 3) := by decide +kernel
theorem dX8_current_5 : decode cX8_current 5 = .ok (.invokevirtual 22, 3) := by decide +kernel
theorem dX8_current_8 : decode cX8_current 8 = .ok (.ireturn, 1) := by decide +kernel
theorem dX8_byteAt_0 : decode cX8_byteAt 0 = .ok (.iload_n 1, 1) := by decide +kernel
theorem dX8_byteAt_1 : decode cX8_byteAt 1 = .ok (.ifCond .lt 24, 3) := by decide +kernel
theorem dX8_byteAt_4 : decode cX8_byteAt 4 = .ok (.iload_n 1, 1) := by decide +kernel
theorem dX8_byteAt_5 : decode cX8_byteAt 5 = .ok (.aload_n 0, 1) := by decide +kernel
theorem dX8_byteAt_6 : decode cX8_byteAt 6 = .ok (.getfield 15, 3) := by decide +kernel
theorem dX8_byteAt_9 : decode cX8_byteAt 9 = .ok (.if_icmp .ge 16, 3) := by decide +kernel
theorem dX8_byteAt_12 : decode cX8_byteAt 12 = .ok (.aload_n 0, 1) := by decide +kernel
theorem dX8_byteAt_13 : decode cX8_byteAt 13 = .ok (.getfield 11, 3) := by decide +kernel
theorem dX8_byteAt_16 : decode cX8_byteAt 16 = .ok (.iload_n 1, 1) := by decide +kernel
theorem dX8_byteAt_17 : decode cX8_byteAt 17 = .ok (.baload, 1) := by decide +kernel
theorem dX8_byteAt_18 : decode cX8_byteAt 18 = .ok (.sipush 255, 3) := by decide +kernel
theorem dX8_byteAt_21 : decode cX8_byteAt 21 = .ok (.iand, 1) := by decide +kernel
theorem dX8_byteAt_22 : decode cX8_byteAt 22 = .ok (.goto 4, 3) := by decide +kernel
theorem dX8_byteAt_25 : decode cX8_byteAt 25 = .ok (.iconst (-1), 1) := by decide +kernel
theorem dX8_byteAt_26 : decode cX8_byteAt 26 = .ok (.ireturn, 1) := by decide +kernel
theorem dX8_endOf_0 : decode cX8_endOf 0 = .ok (.aload_n 0, 1) := by decide +kernel
theorem dX8_endOf_1 : decode cX8_endOf 1 = .ok (.getfield 19, 3) := by decide +kernel
theorem dX8_endOf_4 : decode cX8_endOf 4 = .ok (.istore_n 3, 1) := by decide +kernel
theorem dX8_endOf_5 : decode cX8_endOf 5 = .ok (.iload_n 3, 1) := by decide +kernel
theorem dX8_endOf_6 : decode cX8_endOf 6 = .ok (.aload_n 0, 1) := by decide +kernel
theorem dX8_endOf_7 : decode cX8_endOf 7 = .ok (.getfield 15, 3) := by decide +kernel
theorem dX8_endOf_10 : decode cX8_endOf 10 = .ok (.if_icmp .ge 29, 3) := by decide +kernel
theorem dX8_endOf_13 : decode cX8_endOf 13 = .ok (.aload_n 0, 1) := by decide +kernel
theorem dX8_endOf_14 : decode cX8_endOf 14 = .ok (.getfield 11, 3) := by decide +kernel
theorem dX8_endOf_17 : decode cX8_endOf 17 = .ok (.iload_n 3, 1) := by decide +kernel
theorem dX8_endOf_18 : decode cX8_endOf 18 = .ok (.baload, 1) := by decide +kernel
theorem dX8_endOf_19 : decode cX8_endOf 19 = .ok (.iload_n 1, 1) := by decide +kernel
theorem dX8_endOf_20 : decode cX8_endOf 20 = .ok (.if_icmp .lt 19, 3) := by decide +kernel
theorem dX8_endOf_23 : decode cX8_endOf 23 = .ok (.aload_n 0, 1) := by decide +kernel
theorem dX8_endOf_24 : decode cX8_endOf 24 = .ok (.getfield 11, 3) := by decide +kernel
theorem dX8_endOf_27 : decode cX8_endOf 27 = .ok (.iload_n 3, 1) := by decide +kernel
theorem dX8_endOf_28 : decode cX8_endOf 28 = .ok (.baload, 1) := by decide +kernel
theorem dX8_endOf_29 : decode cX8_endOf 29 = .ok (.iload_n 2, 1) := by decide +kernel
theorem dX8_endOf_30 : decode cX8_endOf 30 = .ok (.if_icmp .gt 9, 3) := by decide +kernel
theorem dX8_endOf_33 : decode cX8_endOf 33 = .ok (.iinc 3 1, 3) := by decide +kernel
theorem dX8_endOf_36 : decode cX8_endOf 36 = .ok (.goto (-31), 3) := by decide +kernel
theorem dX8_endOf_39 : decode cX8_endOf 39 = .ok (.iload_n 3, 1) := by decide +kernel
theorem dX8_endOf_40 : decode cX8_endOf 40 = .ok (.ireturn, 1) := by decide +kernel
theorem dX8_wordIs_0 : decode cX8_wordIs 0 = .ok (.aload_n 0, 1) := by decide +kernel
theorem dX8_wordIs_1 : decode cX8_wordIs 1 = .ok (.bipush 97, 2) := by decide +kernel
theorem dX8_wordIs_3 : decode cX8_wordIs 3 = .ok (.bipush 122, 2) := by decide +kernel
theorem dX8_wordIs_5 : decode cX8_wordIs 5 = .ok (.invokevirtual 26, 3) := by decide +kernel
theorem dX8_wordIs_8 : decode cX8_wordIs 8 = .ok (.aload_n 0, 1) := by decide +kernel
theorem dX8_wordIs_9 : decode cX8_wordIs 9 = .ok (.getfield 19, 3) := by decide +kernel
theorem dX8_wordIs_12 : decode cX8_wordIs 12 = .ok (.isub, 1) := by decide +kernel
theorem dX8_wordIs_13 : decode cX8_wordIs 13 = .ok (.aload_n 1, 1) := by decide +kernel
theorem dX8_wordIs_14 : decode cX8_wordIs 14 = .ok (.invokevirtual 30, 3) := by decide +kernel
theorem dX8_wordIs_17 : decode cX8_wordIs 17 = .ok (.if_icmp .eq 5, 3) := by decide +kernel
theorem dX8_wordIs_20 : decode cX8_wordIs 20 = .ok (.iconst 0, 1) := by decide +kernel
theorem dX8_wordIs_21 : decode cX8_wordIs 21 = .ok (.ireturn, 1) := by decide +kernel
theorem dX8_wordIs_22 : decode cX8_wordIs 22 = .ok (.iconst 0, 1) := by decide +kernel
theorem dX8_wordIs_23 : decode cX8_wordIs 23 = .ok (.istore_n 2, 1) := by decide +kernel
theorem dX8_wordIs_24 : decode cX8_wordIs 24 = .ok (.iload_n 2, 1) := by decide +kernel
theorem dX8_wordIs_25 : decode cX8_wordIs 25 = .ok (.aload_n 1, 1) := by decide +kernel
theorem dX8_wordIs_26 : decode cX8_wordIs 26 = .ok (.invokevirtual 30, 3) := by decide +kernel
theorem dX8_wordIs_29 : decode cX8_wordIs 29 = .ok (.if_icmp .ge 29, 3) := by decide +kernel
theorem dX8_wordIs_32 : decode cX8_wordIs 32 = .ok (.aload_n 0, 1) := by decide +kernel
theorem dX8_wordIs_33 : decode cX8_wordIs 33 = .ok (.aload_n 0, 1) := by decide +kernel
theorem dX8_wordIs_34 : decode cX8_wordIs 34 = .ok (.getfield 19, 3) := by decide +kernel
theorem dX8_wordIs_37 : decode cX8_wordIs 37 = .ok (.iload_n 2, 1) := by decide +kernel
theorem dX8_wordIs_38 : decode cX8_wordIs 38 = .ok (.iadd, 1) := by decide +kernel
theorem dX8_wordIs_39 : decode cX8_wordIs 39 = .ok (.invokevirtual 22, 3) := by decide +kernel
theorem dX8_wordIs_42 : decode cX8_wordIs 42 = .ok (.aload_n 1, 1) := by decide +kernel
theorem dX8_wordIs_43 : decode cX8_wordIs 43 = .ok (.iload_n 2, 1) := by decide +kernel
theorem dX8_wordIs_44 : decode cX8_wordIs 44 = .ok (.invokevirtual 36, 3) := by decide +kernel
theorem dX8_wordIs_47 : decode cX8_wordIs 47 = .ok (.if_icmp .eq 5, 3) := by decide +kernel
theorem dX8_wordIs_50 : decode cX8_wordIs 50 = .ok (.iconst 0, 1) := by decide +kernel
theorem dX8_wordIs_51 : decode cX8_wordIs 51 = .ok (.ireturn, 1) := by decide +kernel
theorem dX8_wordIs_52 : decode cX8_wordIs 52 = .ok (.iinc 2 1, 3) := by decide +kernel
theorem dX8_wordIs_55 : decode cX8_wordIs 55 = .ok (.goto (-31), 3) := by decide +kernel
theorem dX8_wordIs_58 : decode cX8_wordIs 58 = .ok (.iconst 1, 1) := by decide +kernel
theorem dX8_wordIs_59 : decode cX8_wordIs 59 = .ok (.ireturn, 1) := by decide +kernel
theorem dX9_init_0 : decode cX9_init 0 = .ok (.aload_n 0, 1) := by decide +kernel
theorem dX9_init_1 : decode cX9_init 1 = .ok (.invokespecial 3, 3) := by decide +kernel
theorem dX9_init_4 : decode cX9_init 4 = .ok (.aload_n 0, 1) := by decide +kernel
theorem dX9_init_5 : decode cX9_init 5 = .ok (.new 9, 3) := by decide +kernel
theorem dX9_init_8 : decode cX9_init 8 = .ok (.dup, 1) := by decide +kernel
theorem dX9_init_9 : decode cX9_init 9 = .ok (.sipush 1000, 3) := by decide +kernel
theorem dX9_init_12 : decode cX9_init 12 = .ok (.invokespecial 11, 3) := by decide +kernel
theorem dX9_init_15 : decode cX9_init 15 = .ok (.putfield 14, 3) := by decide +kernel
theorem dX9_init_18 : decode cX9_init 18 = .ok (.aload_n 0, 1) := by decide +kernel
theorem dX9_init_19 : decode cX9_init 19 = .ok (.new 9, 3) := by decide +kernel
theorem dX9_init_22 : decode cX9_init 22 = .ok (.dup, 1) := by decide +kernel
theorem dX9_init_23 : decode cX9_init 23 = .ok (.sipush 1000, 3) := by decide +kernel
theorem dX9_init_26 : decode cX9_init 26 = .ok (.invokespecial 11, 3) := by decide +kernel
theorem dX9_init_29 : decode cX9_init 29 = .ok (.putfield 20, 3) := by decide +kernel
theorem dX9_init_32 : decode cX9_init 32 = .ok (.aload_n 0, 1) := by decide +kernel
theorem dX9_init_33 : decode cX9_init 33 = .ok (.sipush 1000, 3) := by decide +kernel
theorem dX9_init_36 : decode cX9_init 36 = .ok (.newarray .int, 2) := by decide +kernel
theorem dX9_init_38 : decode cX9_init 38 = .ok (.putfield 23, 3) := by decide +kernel
theorem dX9_init_41 : decode cX9_init 41 = .ok (.aload_n 0, 1) := by decide +kernel
theorem dX9_init_42 : decode cX9_init 42 = .ok (.sipush 1000, 3) := by decide +kernel
theorem dX9_init_45 : decode cX9_init 45 = .ok (.newarray .int, 2) := by decide +kernel
theorem dX9_init_47 : decode cX9_init 47 = .ok (.putfield 27, 3) := by decide +kernel
theorem dX9_init_50 : decode cX9_init 50 = .ok (.aload_n 0, 1) := by decide +kernel
theorem dX9_init_51 : decode cX9_init 51 = .ok (.sipush 1000, 3) := by decide +kernel
theorem dX9_init_54 : decode cX9_init 54 = .ok (.newarray .int, 2) := by decide +kernel
theorem dX9_init_56 : decode cX9_init 56 = .ok (.putfield 30, 3) := by decide +kernel
theorem dX9_init_59 : decode cX9_init 59 = .ok (.aload_n 0, 1) := by decide +kernel
theorem dX9_init_60 : decode cX9_init 60 = .ok (.sipush 1000, 3) := by decide +kernel
theorem dX9_init_63 : decode cX9_init 63 = .ok (.newarray .int, 2) := by decide +kernel
theorem dX9_init_65 : decode cX9_init 65 = .ok (.putfield 33, 3) := by decide +kernel
theorem dX9_init_68 : decode cX9_init 68 = .ok (.aload_n 0, 1) := by decide +kernel
theorem dX9_init_69 : decode cX9_init 69 = .ok (.sipush 1000, 3) := by decide +kernel
theorem dX9_init_72 : decode cX9_init 72 = .ok (.newarray .int, 2) := by decide +kernel
theorem dX9_init_74 : decode cX9_init 74 = .ok (.putfield 36, 3) := by decide +kernel
theorem dX9_init_77 : decode cX9_init 77 = .ok (.aload_n 0, 1) := by decide +kernel
theorem dX9_init_78 : decode cX9_init 78 = .ok (.iconst 0, 1) := by decide +kernel
theorem dX9_init_79 : decode cX9_init 79 = .ok (.invokevirtual 39, 3) := by decide +kernel
theorem dX9_init_82 : decode cX9_init 82 = .ok (.return_, 1) := by decide +kernel
theorem dX9_restart_0 : decode cX9_restart 0 = .ok (.aload_n 0, 1) := by decide +kernel
theorem dX9_restart_1 : decode cX9_restart 1 = .ok (.iload_n 1, 1) := by decide +kernel
theorem dX9_restart_2 : decode cX9_restart 2 = .ok (.putfield 42, 3) := by decide +kernel
theorem dX9_restart_5 : decode cX9_restart 5 = .ok (.aload_n 0, 1) := by decide +kernel
theorem dX9_restart_6 : decode cX9_restart 6 = .ok (.iconst 0, 1) := by decide +kernel
theorem dX9_restart_7 : decode cX9_restart 7 = .ok (.putfield 46, 3) := by decide +kernel
theorem dX9_restart_10 : decode cX9_restart 10 = .ok (.aload_n 0, 1) := by decide +kernel
theorem dX9_restart_11 : decode cX9_restart 11 = .ok (.getfield 23, 3) := by decide +kernel
theorem dX9_restart_14 : decode cX9_restart 14 = .ok (.iconst (-1), 1) := by decide +kernel
theorem dX9_restart_15 : decode cX9_restart 15 = .ok (.invokestatic 49, 3) := by decide +kernel
theorem dX9_restart_18 : decode cX9_restart 18 = .ok (.aload_n 0, 1) := by decide +kernel
theorem dX9_restart_19 : decode cX9_restart 19 = .ok (.iconst 0, 1) := by decide +kernel
theorem dX9_restart_20 : decode cX9_restart 20 = .ok (.putfield 55, 3) := by decide +kernel
theorem dX9_restart_23 : decode cX9_restart 23 = .ok (.aload_n 0, 1) := by decide +kernel
theorem dX9_restart_24 : decode cX9_restart 24 = .ok (.iconst 0, 1) := by decide +kernel
theorem dX9_restart_25 : decode cX9_restart 25 = .ok (.putfield 59, 3) := by decide +kernel
theorem dX9_restart_28 : decode cX9_restart 28 = .ok (.return_, 1) := by decide +kernel
theorem dX9_putName_0 : decode cX9_putName 0 = .ok (.iload_n 1, 1) := by decide +kernel
theorem dX9_putName_1 : decode cX9_putName 1 = .ok (.ifCond .lt 76, 3) := by decide +kernel
theorem dX9_putName_4 : decode cX9_putName 4 = .ok (.iload_n 1, 1) := by decide +kernel
theorem dX9_putName_5 : decode cX9_putName 5 = .ok (.aload_n 0, 1) := by decide +kernel
theorem dX9_putName_6 : decode cX9_putName 6 = .ok (.getfield 23, 3) := by decide +kernel
theorem dX9_putName_9 : decode cX9_putName 9 = .ok (.arraylength, 1) := by decide +kernel
theorem dX9_putName_10 : decode cX9_putName 10 = .ok (.if_icmp .ge 67, 3) := by decide +kernel
theorem dX9_putName_13 : decode cX9_putName 13 = .ok (.aload_n 0, 1) := by decide +kernel
theorem dX9_putName_14 : decode cX9_putName 14 = .ok (.getfield 14, 3) := by decide +kernel
theorem dX9_putName_17 : decode cX9_putName 17 = .ok (.iload_n 1, 1) := by decide +kernel
theorem dX9_putName_18 : decode cX9_putName 18 = .ok (.aload_n 2, 1) := by decide +kernel
theorem dX9_putName_19 : decode cX9_putName 19 = .ok (.invokevirtual 62, 3) := by decide +kernel
theorem dX9_putName_22 : decode cX9_putName 22 = .ok (.aload_n 0, 1) := by decide +kernel
theorem dX9_putName_23 : decode cX9_putName 23 = .ok (.getfield 20, 3) := by decide +kernel
theorem dX9_putName_26 : decode cX9_putName 26 = .ok (.iload_n 1, 1) := by decide +kernel
theorem dX9_putName_27 : decode cX9_putName 27 = .ok (.aload_n 3, 1) := by decide +kernel
theorem dX9_putName_28 : decode cX9_putName 28 = .ok (.invokevirtual 62, 3) := by decide +kernel
theorem dX9_putName_31 : decode cX9_putName 31 = .ok (.aload_n 0, 1) := by decide +kernel
theorem dX9_putName_32 : decode cX9_putName 32 = .ok (.getfield 23, 3) := by decide +kernel
theorem dX9_putName_35 : decode cX9_putName 35 = .ok (.iload_n 1, 1) := by decide +kernel
theorem dX9_putName_36 : decode cX9_putName 36 = .ok (.aload_n 2, 1) := by decide +kernel
theorem dX9_putName_37 : decode cX9_putName 37 = .ok (.invokevirtual 66, 3) := by decide +kernel
theorem dX9_putName_40 : decode cX9_putName 40 = .ok (.iastore, 1) := by decide +kernel
theorem dX9_putName_41 : decode cX9_putName 41 = .ok (.aload_n 0, 1) := by decide +kernel
