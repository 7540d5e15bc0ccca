theorem dX11_isRead_146 : decode cX11_isRead 146 = .ok (.istore 6, 2) := by decide +kernel
theorem dX11_isRead_148 : decode cX11_isRead 148 = .ok (.iload 6, 2) := by decide +kernel
theorem dX11_isRead_150 : decode cX11_isRead 150 = .ok (.aload_n 0, 1) := by decide +kernel
theorem dX11_isRead_151 : decode cX11_isRead 151 = .ok (.getfield 245, 3) := by decide +kernel
theorem dX11_isRead_154 : decode cX11_isRead 154 = .ok (.if_icmp .ge 39, 3) := by decide +kernel
theorem dX11_isRead_157 : decode cX11_isRead 157 = .ok (.iload 5, 2) := by decide +kernel
theorem dX11_isRead_159 : decode cX11_isRead 159 = .ok (.ifCond .eq 34, 3) := by decide +kernel
theorem dX11_isRead_162 : decode cX11_isRead 162 = .ok (.aload_n 0, 1) := by decide +kernel
theorem dX11_isRead_163 : decode cX11_isRead 163 = .ok (.iload 4, 2) := by decide +kernel
theorem dX11_isRead_165 : decode cX11_isRead 165 = .ok (.iload 6, 2) := by decide +kernel
theorem dX11_isRead_167 : decode cX11_isRead 167 = .ok (.invokevirtual 222, 3) := by decide +kernel
theorem dX11_isRead_170 : decode cX11_isRead 170 = .ok (.aload_n 0, 1) := by decide +kernel
theorem dX11_isRead_171 : decode cX11_isRead 171 = .ok (.getfield 109, 3) := by decide +kernel
theorem dX11_isRead_174 : decode cX11_isRead 174 = .ok (.iload 6, 2) := by decide +kernel
theorem dX11_isRead_176 : decode cX11_isRead 176 = .ok (.iaload, 1) := by decide +kernel
theorem dX11_isRead_177 : decode cX11_isRead 177 = .ok (.if_icmp .ne 7, 3) := by decide +kernel
theorem dX11_isRead_180 : decode cX11_isRead 180 = .ok (.iconst 1, 1) := by decide +kernel
theorem dX11_isRead_181 : decode cX11_isRead 181 = .ok (.goto 4, 3) := by decide +kernel
theorem dX11_isRead_184 : decode cX11_isRead 184 = .ok (.iconst 0, 1) := by decide +kernel
theorem dX11_isRead_185 : decode cX11_isRead 185 = .ok (.istore 5, 2) := by decide +kernel
theorem dX11_isRead_187 : decode cX11_isRead 187 = .ok (.iinc 6 1, 3) := by decide +kernel
theorem dX11_isRead_190 : decode cX11_isRead 190 = .ok (.goto (-42), 3) := by decide +kernel
theorem dX11_isRead_193 : decode cX11_isRead 193 = .ok (.iload 5, 2) := by decide +kernel
theorem dX11_isRead_195 : decode cX11_isRead 195 = .ok (.ireturn, 1) := by decide +kernel
theorem dX11_found_0 : decode cX11_found 0 = .ok (.iconst 0, 1) := by decide +kernel
theorem dX11_found_1 : decode cX11_found 1 = .ok (.istore 4, 2) := by decide +kernel
theorem dX11_found_3 : decode cX11_found 3 = .ok (.iconst 0, 1) := by decide +kernel
theorem dX11_found_4 : decode cX11_found 4 = .ok (.istore 5, 2) := by decide +kernel
theorem dX11_found_6 : decode cX11_found 6 = .ok (.iload 5, 2) := by decide +kernel
theorem dX11_found_8 : decode cX11_found 8 = .ok (.sipush 1000, 3) := by decide +kernel
theorem dX11_found_11 : decode cX11_found 11 = .ok (.if_icmp .ge 32, 3) := by decide +kernel
theorem dX11_found_14 : decode cX11_found 14 = .ok (.aload_n 0, 1) := by decide +kernel
theorem dX11_found_15 : decode cX11_found 15 = .ok (.iload_n 1, 1) := by decide +kernel
theorem dX11_found_16 : decode cX11_found 16 = .ok (.iload 5, 2) := by decide +kernel
theorem dX11_found_18 : decode cX11_found 18 = .ok (.iload_n 2, 1) := by decide +kernel
theorem dX11_found_19 : decode cX11_found 19 = .ok (.invokevirtual 281, 3) := by decide +kernel
theorem dX11_found_22 : decode cX11_found 22 = .ok (.ifCond .eq 15, 3) := by decide +kernel
theorem dX11_found_25 : decode cX11_found 25 = .ok (.iload 4, 2) := by decide +kernel
theorem dX11_found_27 : decode cX11_found 27 = .ok (.iload_n 3, 1) := by decide +kernel
theorem dX11_found_28 : decode cX11_found 28 = .ok (.if_icmp .ne 6, 3) := by decide +kernel
theorem dX11_found_31 : decode cX11_found 31 = .ok (.iload 5, 2) := by decide +kernel
theorem dX11_found_33 : decode cX11_found 33 = .ok (.ireturn, 1) := by decide +kernel
theorem dX11_found_34 : decode cX11_found 34 = .ok (.iinc 4 1, 3) := by decide +kernel
theorem dX11_found_37 : decode cX11_found 37 = .ok (.iinc 5 1, 3) := by decide +kernel
theorem dX11_found_40 : decode cX11_found 40 = .ok (.goto (-34), 3) := by decide +kernel
theorem dX11_found_43 : decode cX11_found 43 = .ok (.iload_n 3, 1) := by decide +kernel
theorem dX11_found_44 : decode cX11_found 44 = .ok (.iconst (-1), 1) := by decide +kernel
theorem dX11_found_45 : decode cX11_found 45 = .ok (.if_icmp .ne 8, 3) := by decide +kernel
theorem dX11_found_48 : decode cX11_found 48 = .ok (.iload 4, 2) := by decide +kernel
theorem dX11_found_50 : decode cX11_found 50 = .ok (.goto 4, 3) := by decide +kernel
theorem dX11_found_53 : decode cX11_found 53 = .ok (.iconst (-1), 1) := by decide +kernel
theorem dX11_found_54 : decode cX11_found 54 = .ok (.ireturn, 1) := by decide +kernel
theorem dX11_find_0 : decode cX11_find 0 = .ok (.iload_n 1, 1) := by decide +kernel
theorem dX11_find_1 : decode cX11_find 1 = .ok (.invokestatic 194, 3) := by decide +kernel
theorem dX11_find_4 : decode cX11_find 4 = .ok (.ifCond .eq 13, 3) := by decide +kernel
theorem dX11_find_7 : decode cX11_find 7 = .ok (.aload_n 0, 1) := by decide +kernel
theorem dX11_find_8 : decode cX11_find 8 = .ok (.iload_n 1, 1) := by decide +kernel
theorem dX11_find_9 : decode cX11_find 9 = .ok (.iload_n 2, 1) := by decide +kernel
theorem dX11_find_10 : decode cX11_find 10 = .ok (.iload_n 3, 1) := by decide +kernel
theorem dX11_find_11 : decode cX11_find 11 = .ok (.invokevirtual 285, 3) := by decide +kernel
theorem dX11_find_14 : decode cX11_find 14 = .ok (.goto 6, 3) := by decide +kernel
theorem dX11_find_17 : decode cX11_find 17 = .ok (.sipush (-1001), 3) := by decide +kernel
theorem dX11_find_20 : decode cX11_find 20 = .ok (.ireturn, 1) := by decide +kernel
theorem dX11_distance_0 : decode cX11_distance 0 = .ok (.iconst 0, 1) := by decide +kernel
theorem dX11_distance_1 : decode cX11_distance 1 = .ok (.istore_n 3, 1) := by decide +kernel
theorem dX11_distance_2 : decode cX11_distance 2 = .ok (.iload_n 3, 1) := by decide +kernel
theorem dX11_distance_3 : decode cX11_distance 3 = .ok (.iload_n 2, 1) := by decide +kernel
theorem dX11_distance_4 : decode cX11_distance 4 = .ok (.if_icmp .gt 16, 3) := by decide +kernel
theorem dX11_distance_7 : decode cX11_distance 7 = .ok (.aload_n 0, 1) := by decide +kernel
theorem dX11_distance_8 : decode cX11_distance 8 = .ok (.getfield 112, 3) := by decide +kernel
theorem dX11_distance_11 : decode cX11_distance 11 = .ok (.iload_n 3, 1) := by decide +kernel
theorem dX11_distance_12 : decode cX11_distance 12 = .ok (.iload_n 3, 1) := by decide +kernel
theorem dX11_distance_13 : decode cX11_distance 13 = .ok (.iastore, 1) := by decide +kernel
theorem dX11_distance_14 : decode cX11_distance 14 = .ok (.iinc 3 1, 3) := by decide +kernel
theorem dX11_distance_17 : decode cX11_distance 17 = .ok (.goto (-15), 3) := by decide +kernel
theorem dX11_distance_20 : decode cX11_distance 20 = .ok (.iconst 1, 1) := by decide +kernel
theorem dX11_distance_21 : decode cX11_distance 21 = .ok (.istore_n 3, 1) := by decide +kernel
theorem dX11_distance_22 : decode cX11_distance 22 = .ok (.iload_n 3, 1) := by decide +kernel
theorem dX11_distance_23 : decode cX11_distance 23 = .ok (.iload_n 1, 1) := by decide +kernel
theorem dX11_distance_24 : decode cX11_distance 24 = .ok (.if_icmp .gt 145, 3) := by decide +kernel
theorem dX11_distance_27 : decode cX11_distance 27 = .ok (.aload_n 0, 1) := by decide +kernel
theorem dX11_distance_28 : decode cX11_distance 28 = .ok (.getfield 112, 3) := by decide +kernel
theorem dX11_distance_31 : decode cX11_distance 31 = .ok (.iconst 0, 1) := by decide +kernel
theorem dX11_distance_32 : decode cX11_distance 32 = .ok (.iaload, 1) := by decide +kernel
theorem dX11_distance_33 : decode cX11_distance 33 = .ok (.istore 4, 2) := by decide +kernel
theorem dX11_distance_35 : decode cX11_distance 35 = .ok (.aload_n 0, 1) := by decide +kernel
theorem dX11_distance_36 : decode cX11_distance 36 = .ok (.getfield 112, 3) := by decide +kernel
theorem dX11_distance_39 : decode cX11_distance 39 = .ok (.iconst 0, 1) := by decide +kernel
theorem dX11_distance_40 : decode cX11_distance 40 = .ok (.iload_n 3, 1) := by decide +kernel
theorem dX11_distance_41 : decode cX11_distance 41 = .ok (.iastore, 1) := by decide +kernel
theorem dX11_distance_42 : decode cX11_distance 42 = .ok (.iconst 1, 1) := by decide +kernel
theorem dX11_distance_43 : decode cX11_distance 43 = .ok (.istore 5, 2) := by decide +kernel
theorem dX11_distance_45 : decode cX11_distance 45 = .ok (.iload 5, 2) := by decide +kernel
theorem dX11_distance_47 : decode cX11_distance 47 = .ok (.iload_n 2, 1) := by decide +kernel
theorem dX11_distance_48 : decode cX11_distance 48 = .ok (.if_icmp .gt 115, 3) := by decide +kernel
theorem dX11_distance_51 : decode cX11_distance 51 = .ok (.aload_n 0, 1) := by decide +kernel
theorem dX11_distance_52 : decode cX11_distance 52 = .ok (.getfield 112, 3) := by decide +kernel
theorem dX11_distance_55 : decode cX11_distance 55 = .ok (.iload 5, 2) := by decide +kernel
theorem dX11_distance_57 : decode cX11_distance 57 = .ok (.iaload, 1) := by decide +kernel
theorem dX11_distance_58 : decode cX11_distance 58 = .ok (.istore 6, 2) := by decide +kernel
theorem dX11_distance_60 : decode cX11_distance 60 = .ok (.iload 4, 2) := by decide +kernel
theorem dX11_distance_62 : decode cX11_distance 62 = .ok (.aload_n 0, 1) := by decide +kernel
theorem dX11_distance_63 : decode cX11_distance 63 = .ok (.getfield 100, 3) := by decide +kernel
theorem dX11_distance_66 : decode cX11_distance 66 = .ok (.iload_n 3, 1) := by decide +kernel
theorem dX11_distance_67 : decode cX11_distance 67 = .ok (.iconst 1, 1) := by decide +kernel
theorem dX11_distance_68 : decode cX11_distance 68 = .ok (.isub, 1) := by decide +kernel
theorem dX11_distance_69 : decode cX11_distance 69 = .ok (.iaload, 1) := by decide +kernel
theorem dX11_distance_70 : decode cX11_distance 70 = .ok (.aload_n 0, 1) := by decide +kernel
theorem dX11_distance_71 : decode cX11_distance 71 = .ok (.getfield 103, 3) := by decide +kernel
theorem dX11_distance_74 : decode cX11_distance 74 = .ok (.iload 5, 2) := by decide +kernel
theorem dX11_distance_76 : decode cX11_distance 76 = .ok (.iconst 1, 1) := by decide +kernel
theorem dX11_distance_77 : decode cX11_distance 77 = .ok (.isub, 1) := by decide +kernel
theorem dX11_distance_78 : decode cX11_distance 78 = .ok (.iaload, 1) := by decide +kernel
theorem dX11_distance_79 : decode cX11_distance 79 = .ok (.if_icmp .ne 7, 3) := by decide +kernel
theorem dX11_distance_82 : decode cX11_distance 82 = .ok (.iconst 0, 1) := by decide +kernel
theorem dX11_distance_83 : decode cX11_distance 83 = .ok (.goto 4, 3) := by decide +kernel
theorem dX11_distance_86 : decode cX11_distance 86 = .ok (.iconst 1, 1) := by decide +kernel
theorem dX11_distance_87 : decode cX11_distance 87 = .ok (.iadd, 1) := by decide +kernel
theorem dX11_distance_88 : decode cX11_distance 88 = .ok (.istore 7, 2) := by decide +kernel
theorem dX11_distance_90 : decode cX11_distance 90 = .ok (.iload 6, 2) := by decide +kernel
theorem dX11_distance_92 : decode cX11_distance 92 = .ok (.iconst 1, 1) := by decide +kernel
theorem dX11_distance_93 : decode cX11_distance 93 = .ok (.iadd, 1) := by decide +kernel
theorem dX11_distance_94 : decode cX11_distance 94 = .ok (.iload 7, 2) := by decide +kernel
theorem dX11_distance_96 : decode cX11_distance 96 = .ok (.if_icmp .ge 10, 3) := by decide +kernel
theorem dX11_distance_99 : decode cX11_distance 99 = .ok (.iload 6, 2) := by decide +kernel
theorem dX11_distance_101 : decode cX11_distance 101 = .ok (.iconst 1, 1) := by decide +kernel
theorem dX11_distance_102 : decode cX11_distance 102 = .ok (.iadd, 1) := by decide +kernel
theorem dX11_distance_103 : decode cX11_distance 103 = .ok (.goto 5, 3) := by decide +kernel
theorem dX11_distance_106 : decode cX11_distance 106 = .ok (.iload 7, 2) := by decide +kernel
theorem dX11_distance_108 : decode cX11_distance 108 = .ok (.istore 7, 2) := by decide +kernel
theorem dX11_distance_110 : decode cX11_distance 110 = .ok (.aload_n 0, 1) := by decide +kernel
theorem dX11_distance_111 : decode cX11_distance 111 = .ok (.getfield 112, 3) := by decide +kernel
theorem dX11_distance_114 : decode cX11_distance 114 = .ok (.iload 5, 2) := by decide +kernel
theorem dX11_distance_116 : decode cX11_distance 116 = .ok (.iconst 1, 1) := by decide +kernel
theorem dX11_distance_117 : decode cX11_distance 117 = .ok (.isub, 1) := by decide +kernel
theorem dX11_distance_118 : decode cX11_distance 118 = .ok (.iaload, 1) := by decide +kernel
theorem dX11_distance_119 : decode cX11_distance 119 = .ok (.iconst 1, 1) := by decide +kernel
theorem dX11_distance_120 : decode cX11_distance 120 = .ok (.iadd, 1) := by decide +kernel
theorem dX11_distance_121 : decode cX11_distance 121 = .ok (.iload 7, 2) := by decide +kernel
theorem dX11_distance_123 : decode cX11_distance 123 = .ok (.if_icmp .ge 17, 3) := by decide +kernel
theorem dX11_distance_126 : decode cX11_distance 126 = .ok (.aload_n 0, 1) := by decide +kernel
theorem dX11_distance_127 : decode cX11_distance 127 = .ok (.getfield 112, 3) := by decide +kernel
theorem dX11_distance_130 : decode cX11_distance 130 = .ok (.iload 5, 2) := by decide +kernel
theorem dX11_distance_132 : decode cX11_distance 132 = .ok (.iconst 1, 1) := by decide +kernel
theorem dX11_distance_133 : decode cX11_distance 133 = .ok (.isub, 1) := by decide +kernel
theorem dX11_distance_134 : decode cX11_distance 134 = .ok (.iaload, 1) := by decide +kernel
theorem dX11_distance_135 : decode cX11_distance 135 = .ok (.iconst 1, 1) := by decide +kernel
theorem dX11_distance_136 : decode cX11_distance 136 = .ok (.iadd, 1) := by decide +kernel
theorem dX11_distance_137 : decode cX11_distance 137 = .ok (.goto 5, 3) := by decide +kernel
theorem dX11_distance_140 : decode cX11_distance 140 = .ok (.iload 7, 2) := by decide +kernel
theorem dX11_distance_142 : decode cX11_distance 142 = .ok (.istore 7, 2) := by decide +kernel
theorem dX11_distance_144 : decode cX11_distance 144 = .ok (.aload_n 0, 1) := by decide +kernel
theorem dX11_distance_145 : decode cX11_distance 145 = .ok (.getfield 112, 3) := by decide +kernel
theorem dX11_distance_148 : decode cX11_distance 148 = .ok (.iload 5, 2) := by decide +kernel
theorem dX11_distance_150 : decode cX11_distance 150 = .ok (.iload 7, 2) := by decide +kernel
theorem dX11_distance_152 : decode cX11_distance 152 = .ok (.iastore, 1) := by decide +kernel
theorem dX11_distance_153 : decode cX11_distance 153 = .ok (.iload 6, 2) := by decide +kernel
theorem dX11_distance_155 : decode cX11_distance 155 = .ok (.istore 4, 2) := by decide +kernel
theorem dX11_distance_157 : decode cX11_distance 157 = .ok (.iinc 5 1, 3) := by decide +kernel
theorem dX11_distance_160 : decode cX11_distance 160 = .ok (.goto (-115), 3) := by decide +kernel
theorem dX11_distance_163 : decode cX11_distance 163 = .ok (.iinc 3 1, 3) := by decide +kernel
theorem dX11_distance_166 : decode cX11_distance 166 = .ok (.goto (-144), 3) := by decide +kernel
theorem dX11_distance_169 : decode cX11_distance 169 = .ok (.aload_n 0, 1) := by decide +kernel
theorem dX11_distance_170 : decode cX11_distance 170 = .ok (.getfield 112, 3) := by decide +kernel
theorem dX11_distance_173 : decode cX11_distance 173 = .ok (.iload_n 2, 1) := by decide +kernel
theorem dX11_distance_174 : decode cX11_distance 174 = .ok (.iaload, 1) := by decide +kernel
theorem dX11_distance_175 : decode cX11_distance 175 = .ok (.ireturn, 1) := by decide +kernel
theorem dX11_nearest_0 : decode cX11_nearest 0 = .ok (.iload_n 1, 1) := by decide +kernel
theorem dX11_nearest_1 : decode cX11_nearest 1 = .ok (.invokestatic 194, 3) := by decide +kernel
theorem dX11_nearest_4 : decode cX11_nearest 4 = .ok (.ifCond .ne 7, 3) := by decide +kernel
theorem dX11_nearest_7 : decode cX11_nearest 7 = .ok (.sipush (-1001), 3) := by decide +kernel
theorem dX11_nearest_10 : decode cX11_nearest 10 = .ok (.ireturn, 1) := by decide +kernel
theorem dX11_nearest_11 : decode cX11_nearest 11 = .ok (.iload_n 2, 1) := by decide +kernel
theorem dX11_nearest_12 : decode cX11_nearest 12 = .ok (.i2l, 1) := by decide +kernel
theorem dX11_nearest_13 : decode cX11_nearest 13 = .ok (.lconst 0, 1) := by decide +kernel
theorem dX11_nearest_14 : decode cX11_nearest 14 = .ok (.lconst 1, 1) := by decide +kernel
theorem dX11_nearest_15 : decode cX11_nearest 15 = .ok (.invokestatic 123, 3) := by decide +kernel
theorem dX11_nearest_18 : decode cX11_nearest 18 = .ok (.ifCond .ne 7, 3) := by decide +kernel
theorem dX11_nearest_21 : decode cX11_nearest 21 = .ok (.sipush (-1002), 3) := by decide +kernel
theorem dX11_nearest_24 : decode cX11_nearest 24 = .ok (.ireturn, 1) := by decide +kernel
theorem dX11_nearest_25 : decode cX11_nearest 25 = .ok (.iconst (-1), 1) := by decide +kernel
theorem dX11_nearest_26 : decode cX11_nearest 26 = .ok (.istore_n 3, 1) := by decide +kernel
theorem dX11_nearest_27 : decode cX11_nearest 27 = .ok (.iconst (-1), 1) := by decide +kernel
theorem dX11_nearest_28 : decode cX11_nearest 28 = .ok (.istore 4, 2) := by decide +kernel
theorem dX11_nearest_30 : decode cX11_nearest 30 = .ok (.aload_n 0, 1) := by decide +kernel
theorem dX11_nearest_31 : decode cX11_nearest 31 = .ok (.aload_n 0, 1) := by decide +kernel
theorem dX11_nearest_32 : decode cX11_nearest 32 = .ok (.getfield 103, 3) := by decide +kernel
theorem dX11_nearest_35 : decode cX11_nearest 35 = .ok (.invokevirtual 277, 3) := by decide +kernel
theorem dX11_nearest_38 : decode cX11_nearest 38 = .ok (.istore 5, 2) := by decide +kernel
theorem dX11_nearest_40 : decode cX11_nearest 40 = .ok (.iconst 0, 1) := by decide +kernel
theorem dX11_nearest_41 : decode cX11_nearest 41 = .ok (.istore 6, 2) := by decide +kernel
theorem dX11_nearest_43 : decode cX11_nearest 43 = .ok (.iload 6, 2) := by decide +kernel
theorem dX11_nearest_45 : decode cX11_nearest 45 = .ok (.sipush 1000, 3) := by decide +kernel
theorem dX11_nearest_48 : decode cX11_nearest 48 = .ok (.if_icmp .ge 62, 3) := by decide +kernel
theorem dX11_nearest_51 : decode cX11_nearest 51 = .ok (.aload_n 0, 1) := by decide +kernel
theorem dX11_nearest_52 : decode cX11_nearest 52 = .ok (.getfield 41, 3) := by decide +kernel
theorem dX11_nearest_55 : decode cX11_nearest 55 = .ok (.sipush 1000, 3) := by decide +kernel
theorem dX11_nearest_58 : decode cX11_nearest 58 = .ok (.iload_n 1, 1) := by decide +kernel
theorem dX11_nearest_59 : decode cX11_nearest 59 = .ok (.imul, 1) := by decide +kernel
theorem dX11_nearest_60 : decode cX11_nearest 60 = .ok (.iload 6, 2) := by decide +kernel
theorem dX11_nearest_62 : decode cX11_nearest 62 = .ok (.iadd, 1) := by decide +kernel
theorem dX11_nearest_63 : decode cX11_nearest 63 = .ok (.iaload, 1) := by decide +kernel
theorem dX11_nearest_64 : decode cX11_nearest 64 = .ok (.ifCond .lt 40, 3) := by decide +kernel
theorem dX11_nearest_67 : decode cX11_nearest 67 = .ok (.aload_n 0, 1) := by decide +kernel
theorem dX11_nearest_68 : decode cX11_nearest 68 = .ok (.aload_n 0, 1) := by decide +kernel
theorem dX11_nearest_69 : decode cX11_nearest 69 = .ok (.iload_n 1, 1) := by decide +kernel
theorem dX11_nearest_70 : decode cX11_nearest 70 = .ok (.iload 6, 2) := by decide +kernel
theorem dX11_nearest_72 : decode cX11_nearest 72 = .ok (.aload_n 0, 1) := by decide +kernel
theorem dX11_nearest_73 : decode cX11_nearest 73 = .ok (.getfield 100, 3) := by decide +kernel
theorem dX11_nearest_76 : decode cX11_nearest 76 = .ok (.invokevirtual 265, 3) := by decide +kernel
theorem dX11_nearest_79 : decode cX11_nearest 79 = .ok (.iload 5, 2) := by decide +kernel
theorem dX11_nearest_81 : decode cX11_nearest 81 = .ok (.invokevirtual 289, 3) := by decide +kernel
theorem dX11_nearest_84 : decode cX11_nearest 84 = .ok (.istore 7, 2) := by decide +kernel
theorem dX11_nearest_86 : decode cX11_nearest 86 = .ok (.iload_n 3, 1) := by decide +kernel
theorem dX11_nearest_87 : decode cX11_nearest 87 = .ok (.ifCond .lt 10, 3) := by decide +kernel
theorem dX11_nearest_90 : decode cX11_nearest 90 = .ok (.iload 7, 2) := by decide +kernel
theorem dX11_nearest_92 : decode cX11_nearest 92 = .ok (.iload 4, 2) := by decide +kernel
theorem dX11_nearest_94 : decode cX11_nearest 94 = .ok (.if_icmp .ge 10, 3) := by decide +kernel
theorem dX11_nearest_97 : decode cX11_nearest 97 = .ok (.iload 6, 2) := by decide +kernel
theorem dX11_nearest_99 : decode cX11_nearest 99 = .ok (.istore_n 3, 1) := by decide +kernel
theorem dX11_nearest_100 : decode cX11_nearest 100 = .ok (.iload 7, 2) := by decide +kernel
theorem dX11_nearest_102 : decode cX11_nearest 102 = .ok (.istore 4, 2) := by decide +kernel
theorem dX11_nearest_104 : decode cX11_nearest 104 = .ok (.iinc 6 1, 3) := by decide +kernel
theorem dX11_nearest_107 : decode cX11_nearest 107 = .ok (.goto (-64), 3) := by decide +kernel
theorem dX11_nearest_110 : decode cX11_nearest 110 = .ok (.iload_n 2, 1) := by decide +kernel
theorem dX11_nearest_111 : decode cX11_nearest 111 = .ok (.ifCond .ne 7, 3) := by decide +kernel
theorem dX11_nearest_114 : decode cX11_nearest 114 = .ok (.iload_n 3, 1) := by decide +kernel
theorem dX11_nearest_115 : decode cX11_nearest 115 = .ok (.goto 5, 3) := by decide +kernel
theorem dX11_nearest_118 : decode cX11_nearest 118 = .ok (.iload 4, 2) := by decide +kernel
theorem dX11_nearest_120 : decode cX11_nearest 120 = .ok (.ireturn, 1) := by decide +kernel
theorem dX11_led_0 : decode cX11_led 0 = .ok (.iload_n 1, 1) := by decide +kernel
theorem dX11_led_1 : decode cX11_led 1 = .ok (.invokestatic 194, 3) := by decide +kernel
theorem dX11_led_4 : decode cX11_led 4 = .ok (.ifCond .eq 10, 3) := by decide +kernel
theorem dX11_led_7 : decode cX11_led 7 = .ok (.iload_n 2, 1) := by decide +kernel
theorem dX11_led_8 : decode cX11_led 8 = .ok (.invokestatic 194, 3) := by decide +kernel
theorem dX11_led_11 : decode cX11_led 11 = .ok (.ifCond .ne 7, 3) := by decide +kernel
theorem dX11_led_14 : decode cX11_led 14 = .ok (.sipush (-1001), 3) := by decide +kernel
theorem dX11_led_17 : decode cX11_led 17 = .ok (.ireturn, 1) := by decide +kernel
theorem dX11_led_18 : decode cX11_led 18 = .ok (.aload_n 0, 1) := by decide +kernel
theorem dX11_led_19 : decode cX11_led 19 = .ok (.iload_n 1, 1) := by decide +kernel
theorem dX11_led_20 : decode cX11_led 20 = .ok (.iconst 0, 1) := by decide +kernel
theorem dX11_led_21 : decode cX11_led 21 = .ok (.iconst 0, 1) := by decide +kernel
theorem dX11_led_22 : decode cX11_led 22 = .ok (.invokevirtual 285, 3) := by decide +kernel
theorem dX11_led_25 : decode cX11_led 25 = .ok (.istore 4, 2) := by decide +kernel
theorem dX11_led_27 : decode cX11_led 27 = .ok (.iload 4, 2) := by decide +kernel
theorem dX11_led_29 : decode cX11_led 29 = .ok (.ifCond .lt 19, 3) := by decide +kernel
theorem dX11_led_32 : decode cX11_led 32 = .ok (.aload_n 0, 1) := by decide +kernel
theorem dX11_led_33 : decode cX11_led 33 = .ok (.getfield 41, 3) := by decide +kernel
theorem dX11_led_36 : decode cX11_led 36 = .ok (.sipush 1000, 3) := by decide +kernel
theorem dX11_led_39 : decode cX11_led 39 = .ok (.iload_n 2, 1) := by decide +kernel
theorem dX11_led_40 : decode cX11_led 40 = .ok (.imul, 1) := by decide +kernel
theorem dX11_led_41 : decode cX11_led 41 = .ok (.iload 4, 2) := by decide +kernel
theorem dX11_led_43 : decode cX11_led 43 = .ok (.iadd, 1) := by decide +kernel
theorem dX11_led_44 : decode cX11_led 44 = .ok (.iaload, 1) := by decide +kernel
theorem dX11_led_45 : decode cX11_led 45 = .ok (.ifCond .ge 7, 3) := by decide +kernel
theorem dX11_led_48 : decode cX11_led 48 = .ok (.sipush (-1003), 3) := by decide +kernel
theorem dX11_led_51 : decode cX11_led 51 = .ok (.ireturn, 1) := by decide +kernel
theorem dX11_led_52 : decode cX11_led 52 = .ok (.sipush 1000, 3) := by decide +kernel
theorem dX11_led_55 : decode cX11_led 55 = .ok (.iload_n 2, 1) := by decide +kernel
theorem dX11_led_56 : decode cX11_led 56 = .ok (.imul, 1) := by decide +kernel
theorem dX11_led_57 : decode cX11_led 57 = .ok (.iload 4, 2) := by decide +kernel
theorem dX11_led_59 : decode cX11_led 59 = .ok (.iadd, 1) := by decide +kernel
theorem dX11_led_60 : decode cX11_led 60 = .ok (.istore 5, 2) := by decide +kernel
theorem dX11_led_62 : decode cX11_led 62 = .ok (.iload_n 3, 1) := by decide +kernel
theorem dX11_led_63 : decode cX11_led 63 = .ok (.iconst (-1), 1) := by decide +kernel
theorem dX11_led_64 : decode cX11_led 64 = .ok (.if_icmp .ne 13, 3) := by decide +kernel
theorem dX11_led_67 : decode cX11_led 67 = .ok (.aload_n 0, 1) := by decide +kernel
theorem dX11_led_68 : decode cX11_led 68 = .ok (.getfield 41, 3) := by decide +kernel
theorem dX11_led_71 : decode cX11_led 71 = .ok (.iload 5, 2) := by decide +kernel
theorem dX11_led_73 : decode cX11_led 73 = .ok (.iaload, 1) := by decide +kernel
theorem dX11_led_74 : decode cX11_led 74 = .ok (.goto 33, 3) := by decide +kernel
theorem dX11_led_77 : decode cX11_led 77 = .ok (.iload_n 3, 1) := by decide +kernel
theorem dX11_led_78 : decode cX11_led 78 = .ok (.i2l, 1) := by decide +kernel
theorem dX11_led_79 : decode cX11_led 79 = .ok (.lconst 0, 1) := by decide +kernel
theorem dX11_led_80 : decode cX11_led 80 = .ok (.aload_n 0, 1) := by decide +kernel
theorem dX11_led_81 : decode cX11_led 81 = .ok (.getfield 41, 3) := by decide +kernel
theorem dX11_led_84 : decode cX11_led 84 = .ok (.iload 5, 2) := by decide +kernel
theorem dX11_led_86 : decode cX11_led 86 = .ok (.iaload, 1) := by decide +kernel
theorem dX11_led_87 : decode cX11_led 87 = .ok (.iconst 1, 1) := by decide +kernel
theorem dX11_led_88 : decode cX11_led 88 = .ok (.isub, 1) := by decide +kernel
theorem dX11_led_89 : decode cX11_led 89 = .ok (.i2l, 1) := by decide +kernel
theorem dX11_led_90 : decode cX11_led 90 = .ok (.invokestatic 123, 3) := by decide +kernel
theorem dX11_led_93 : decode cX11_led 93 = .ok (.ifCond .eq 13, 3) := by decide +kernel
theorem dX11_led_96 : decode cX11_led 96 = .ok (.aload_n 0, 1) := by decide +kernel
theorem dX11_led_97 : decode cX11_led 97 = .ok (.iload 5, 2) := by decide +kernel
theorem dX11_led_99 : decode cX11_led 99 = .ok (.iload_n 3, 1) := by decide +kernel
theorem dX11_led_100 : decode cX11_led 100 = .ok (.invokevirtual 222, 3) := by decide +kernel
theorem dX11_led_103 : decode cX11_led 103 = .ok (.goto 4, 3) := by decide +kernel
theorem dX11_led_106 : decode cX11_led 106 = .ok (.iconst (-1), 1) := by decide +kernel
theorem dX11_led_107 : decode cX11_led 107 = .ok (.ireturn, 1) := by decide +kernel
theorem dX11_chain_0 : decode cX11_chain 0 = .ok (.iload_n 1, 1) := by decide +kernel
theorem dX11_chain_1 : decode cX11_chain 1 = .ok (.invokestatic 194, 3) := by decide +kernel
theorem dX11_chain_4 : decode cX11_chain 4 = .ok (.ifCond .eq 10, 3) := by decide +kernel
theorem dX11_chain_7 : decode cX11_chain 7 = .ok (.iload_n 2, 1) := by decide +kernel
theorem dX11_chain_8 : decode cX11_chain 8 = .ok (.invokestatic 216, 3) := by decide +kernel
theorem dX11_chain_11 : decode cX11_chain 11 = .ok (.ifCond .ne 7, 3) := by decide +kernel
theorem dX11_chain_14 : decode cX11_chain 14 = .ok (.sipush (-1001), 3) := by decide +kernel
theorem dX11_chain_17 : decode cX11_chain 17 = .ok (.ireturn, 1) := by decide +kernel
theorem dX11_chain_18 : decode cX11_chain 18 = .ok (.iload_n 3, 1) := by decide +kernel
theorem dX11_chain_19 : decode cX11_chain 19 = .ok (.i2l, 1) := by decide +kernel
theorem dX11_chain_20 : decode cX11_chain 20 = .ok (.lconst 0, 1) := by decide +kernel
theorem dX11_chain_21 : decode cX11_chain 21 = .ok (.ldc2_w 121, 3) := by decide +kernel
theorem dX11_chain_24 : decode cX11_chain 24 = .ok (.invokestatic 123, 3) := by decide +kernel
theorem dX11_chain_27 : decode cX11_chain 27 = .ok (.ifCond .ne 7, 3) := by decide +kernel
theorem dX11_chain_30 : decode cX11_chain 30 = .ok (.sipush (-1002), 3) := by decide +kernel
theorem dX11_chain_33 : decode cX11_chain 33 = .ok (.ireturn, 1) := by decide +kernel
theorem dX11_chain_34 : decode cX11_chain 34 = .ok (.iconst 0, 1) := by decide +kernel
theorem dX11_chain_35 : decode cX11_chain 35 = .ok (.istore 4, 2) := by decide +kernel
theorem dX11_chain_37 : decode cX11_chain 37 = .ok (.iload 4, 2) := by decide +kernel
theorem dX11_chain_39 : decode cX11_chain 39 = .ok (.sipush 1000, 3) := by decide +kernel
theorem dX11_chain_42 : decode cX11_chain 42 = .ok (.if_icmp .ge 17, 3) := by decide +kernel
theorem dX11_chain_45 : decode cX11_chain 45 = .ok (.aload_n 0, 1) := by decide +kernel
theorem dX11_chain_46 : decode cX11_chain 46 = .ok (.getfield 115, 3) := by decide +kernel
theorem dX11_chain_49 : decode cX11_chain 49 = .ok (.iload 4, 2) := by decide +kernel
theorem dX11_chain_51 : decode cX11_chain 51 = .ok (.iconst 0, 1) := by decide +kernel
theorem dX11_chain_52 : decode cX11_chain 52 = .ok (.bastore, 1) := by decide +kernel
theorem dX11_chain_53 : decode cX11_chain 53 = .ok (.iinc 4 1, 3) := by decide +kernel
theorem dX11_chain_56 : decode cX11_chain 56 = .ok (.goto (-19), 3) := by decide +kernel
theorem dX11_chain_59 : decode cX11_chain 59 = .ok (.iconst 1, 1) := by decide +kernel
theorem dX11_chain_60 : decode cX11_chain 60 = .ok (.istore 4, 2) := by decide +kernel
theorem dX11_chain_62 : decode cX11_chain 62 = .ok (.iload_n 2, 1) := by decide +kernel
theorem dX11_chain_63 : decode cX11_chain 63 = .ok (.istore 5, 2) := by decide +kernel
theorem dX11_chain_65 : decode cX11_chain 65 = .ok (.aload_n 0, 1) := by decide +kernel
theorem dX11_chain_66 : decode cX11_chain 66 = .ok (.getfield 115, 3) := by decide +kernel
theorem dX11_chain_69 : decode cX11_chain 69 = .ok (.iload_n 2, 1) := by decide +kernel
theorem dX11_chain_70 : decode cX11_chain 70 = .ok (.iconst 1, 1) := by decide +kernel
theorem dX11_chain_71 : decode cX11_chain 71 = .ok (.bastore, 1) := by decide +kernel
theorem dX11_chain_72 : decode cX11_chain 72 = .ok (.aload_n 0, 1) := by decide +kernel
theorem dX11_chain_73 : decode cX11_chain 73 = .ok (.iload_n 1, 1) := by decide +kernel
theorem dX11_chain_74 : decode cX11_chain 74 = .ok (.iload 5, 2) := by decide +kernel
theorem dX11_chain_76 : decode cX11_chain 76 = .ok (.invokevirtual 242, 3) := by decide +kernel
theorem dX11_chain_79 : decode cX11_chain 79 = .ok (.istore 6, 2) := by decide +kernel
theorem dX11_chain_81 : decode cX11_chain 81 = .ok (.iload 6, 2) := by decide +kernel
theorem dX11_chain_83 : decode cX11_chain 83 = .ok (.ifCond .lt 40, 3) := by decide +kernel
theorem dX11_chain_86 : decode cX11_chain 86 = .ok (.aload_n 0, 1) := by decide +kernel
theorem dX11_chain_87 : decode cX11_chain 87 = .ok (.getfield 115, 3) := by decide +kernel
theorem dX11_chain_90 : decode cX11_chain 90 = .ok (.iload 6, 2) := by decide +kernel
theorem dX11_chain_92 : decode cX11_chain 92 = .ok (.baload, 1) := by decide +kernel
theorem dX11_chain_93 : decode cX11_chain 93 = .ok (.ifCond .ne 30, 3) := by decide +kernel
theorem dX11_chain_96 : decode cX11_chain 96 = .ok (.iload 6, 2) := by decide +kernel
theorem dX11_chain_98 : decode cX11_chain 98 = .ok (.istore 5, 2) := by decide +kernel
theorem dX11_chain_100 : decode cX11_chain 100 = .ok (.aload_n 0, 1) := by decide +kernel
theorem dX11_chain_101 : decode cX11_chain 101 = .ok (.getfield 115, 3) := by decide +kernel
theorem dX11_chain_104 : decode cX11_chain 104 = .ok (.iload 5, 2) := by decide +kernel
theorem dX11_chain_106 : decode cX11_chain 106 = .ok (.iconst 1, 1) := by decide +kernel
theorem dX11_chain_107 : decode cX11_chain 107 = .ok (.bastore, 1) := by decide +kernel
theorem dX11_chain_108 : decode cX11_chain 108 = .ok (.iinc 4 1, 3) := by decide +kernel
theorem dX11_chain_111 : decode cX11_chain 111 = .ok (.aload_n 0, 1) := by decide +kernel
theorem dX11_chain_112 : decode cX11_chain 112 = .ok (.iload_n 1, 1) := by decide +kernel
theorem dX11_chain_113 : decode cX11_chain 113 = .ok (.iload 5, 2) := by decide +kernel
theorem dX11_chain_115 : decode cX11_chain 115 = .ok (.invokevirtual 242, 3) := by decide +kernel
theorem dX11_chain_118 : decode cX11_chain 118 = .ok (.istore 6, 2) := by decide +kernel
theorem dX11_chain_120 : decode cX11_chain 120 = .ok (.goto (-39), 3) := by decide +kernel
theorem dX11_chain_123 : decode cX11_chain 123 = .ok (.iload_n 3, 1) := by decide +kernel
theorem dX11_chain_124 : decode cX11_chain 124 = .ok (.ifCond .ne 8, 3) := by decide +kernel
theorem dX11_chain_127 : decode cX11_chain 127 = .ok (.iload 4, 2) := by decide +kernel
theorem dX11_chain_129 : decode cX11_chain 129 = .ok (.goto 15, 3) := by decide +kernel
theorem dX11_chain_132 : decode cX11_chain 132 = .ok (.iload_n 3, 1) := by decide +kernel
theorem dX11_chain_133 : decode cX11_chain 133 = .ok (.iconst 1, 1) := by decide +kernel
theorem dX11_chain_134 : decode cX11_chain 134 = .ok (.if_icmp .ne 8, 3) := by decide +kernel
theorem dX11_chain_137 : decode cX11_chain 137 = .ok (.iload 5, 2) := by decide +kernel
theorem dX11_chain_139 : decode cX11_chain 139 = .ok (.goto 5, 3) := by decide +kernel
theorem dX11_chain_142 : decode cX11_chain 142 = .ok (.iload 6, 2) := by decide +kernel
theorem dX11_chain_144 : decode cX11_chain 144 = .ok (.ireturn, 1) := by decide +kernel
theorem dX11_honest_0 : decode cX11_honest 0 = .ok (.iload_n 1, 1) := by decide +kernel
theorem dX11_honest_1 : decode cX11_honest 1 = .ok (.invokestatic 194, 3) := by decide +kernel
theorem dX11_honest_4 : decode cX11_honest 4 = .ok (.ifCond .ne 7, 3) := by decide +kernel
theorem dX11_honest_7 : decode cX11_honest 7 = .ok (.sipush (-1001), 3) := by decide +kernel
theorem dX11_honest_10 : decode cX11_honest 10 = .ok (.ireturn, 1) := by decide +kernel
theorem dX11_honest_11 : decode cX11_honest 11 = .ok (.iconst 0, 1) := by decide +kernel
theorem dX11_honest_12 : decode cX11_honest 12 = .ok (.istore_n 3, 1) := by decide +kernel
theorem dX11_honest_13 : decode cX11_honest 13 = .ok (.iconst 0, 1) := by decide +kernel
theorem dX11_honest_14 : decode cX11_honest 14 = .ok (.istore 4, 2) := by decide +kernel
theorem dX11_honest_16 : decode cX11_honest 16 = .ok (.iload 4, 2) := by decide +kernel
theorem dX11_honest_18 : decode cX11_honest 18 = .ok (.sipush 1000, 3) := by decide +kernel
theorem dX11_honest_21 : decode cX11_honest 21 = .ok (.if_icmp .ge 32, 3) := by decide +kernel
theorem dX11_honest_24 : decode cX11_honest 24 = .ok (.aload_n 0, 1) := by decide +kernel
theorem dX11_honest_25 : decode cX11_honest 25 = .ok (.iload_n 1, 1) := by decide +kernel
theorem dX11_honest_26 : decode cX11_honest 26 = .ok (.iload 4, 2) := by decide +kernel
theorem dX11_honest_28 : decode cX11_honest 28 = .ok (.invokevirtual 242, 3) := by decide +kernel
theorem dX11_honest_31 : decode cX11_honest 31 = .ok (.iload 4, 2) := by decide +kernel
theorem dX11_honest_33 : decode cX11_honest 33 = .ok (.if_icmp .ne 14, 3) := by decide +kernel
theorem dX11_honest_36 : decode cX11_honest 36 = .ok (.iload_n 3, 1) := by decide +kernel
theorem dX11_honest_37 : decode cX11_honest 37 = .ok (.iload_n 2, 1) := by decide +kernel
theorem dX11_honest_38 : decode cX11_honest 38 = .ok (.if_icmp .ne 6, 3) := by decide +kernel
theorem dX11_honest_41 : decode cX11_honest 41 = .ok (.iload 4, 2) := by decide +kernel
theorem dX11_honest_43 : decode cX11_honest 43 = .ok (.ireturn, 1) := by decide +kernel
theorem dX11_honest_44 : decode cX11_honest 44 = .ok (.iinc 3 1, 3) := by decide +kernel
theorem dX11_honest_47 : decode cX11_honest 47 = .ok (.iinc 4 1, 3) := by decide +kernel
theorem dX11_honest_50 : decode cX11_honest 50 = .ok (.goto (-34), 3) := by decide +kernel
theorem dX11_honest_53 : decode cX11_honest 53 = .ok (.iconst (-1), 1) := by decide +kernel
theorem dX11_honest_54 : decode cX11_honest 54 = .ok (.ireturn, 1) := by decide +kernel
theorem dX11_farOf_0 : decode cX11_farOf 0 = .ok (.aload_n 0, 1) := by decide +kernel
theorem dX11_farOf_1 : decode cX11_farOf 1 = .ok (.iload_n 1, 1) := by decide +kernel
theorem dX11_farOf_2 : decode cX11_farOf 2 = .ok (.iload_n 2, 1) := by decide +kernel
theorem dX11_farOf_3 : decode cX11_farOf 3 = .ok (.aload_n 0, 1) := by decide +kernel
theorem dX11_farOf_4 : decode cX11_farOf 4 = .ok (.getfield 100, 3) := by decide +kernel
theorem dX11_farOf_7 : decode cX11_farOf 7 = .ok (.invokevirtual 265, 3) := by decide +kernel
theorem dX11_farOf_10 : decode cX11_farOf 10 = .ok (.istore 4, 2) := by decide +kernel
theorem dX11_farOf_12 : decode cX11_farOf 12 = .ok (.aload_n 0, 1) := by decide +kernel
theorem dX11_farOf_13 : decode cX11_farOf 13 = .ok (.iload_n 1, 1) := by decide +kernel
theorem dX11_farOf_14 : decode cX11_farOf 14 = .ok (.iload_n 3, 1) := by decide +kernel
theorem dX11_farOf_15 : decode cX11_farOf 15 = .ok (.aload_n 0, 1) := by decide +kernel
theorem dX11_farOf_16 : decode cX11_farOf 16 = .ok (.getfield 103, 3) := by decide +kernel
theorem dX11_farOf_19 : decode cX11_farOf 19 = .ok (.invokevirtual 265, 3) := by decide +kernel
theorem dX11_farOf_22 : decode cX11_farOf 22 = .ok (.istore 5, 2) := by decide +kernel
theorem dX11_farOf_24 : decode cX11_farOf 24 = .ok (.aload_n 0, 1) := by decide +kernel
theorem dX11_farOf_25 : decode cX11_farOf 25 = .ok (.iload 4, 2) := by decide +kernel
theorem dX11_farOf_27 : decode cX11_farOf 27 = .ok (.iload 5, 2) := by decide +kernel
theorem dX11_farOf_29 : decode cX11_farOf 29 = .ok (.invokevirtual 289, 3) := by decide +kernel
theorem dX11_farOf_32 : decode cX11_farOf 32 = .ok (.ireturn, 1) := by decide +kernel
theorem dX11_far_0 : decode cX11_far 0 = .ok (.iload_n 1, 1) := by decide +kernel
theorem dX11_far_1 : decode cX11_far 1 = .ok (.invokestatic 194, 3) := by decide +kernel
theorem dX11_far_4 : decode cX11_far 4 = .ok (.ifCond .eq 17, 3) := by decide +kernel
theorem dX11_far_7 : decode cX11_far 7 = .ok (.iload_n 2, 1) := by decide +kernel
theorem dX11_far_8 : decode cX11_far 8 = .ok (.invokestatic 216, 3) := by decide +kernel
theorem dX11_far_11 : decode cX11_far 11 = .ok (.ifCond .eq 10, 3) := by decide +kernel
theorem dX11_far_14 : decode cX11_far 14 = .ok (.iload_n 3, 1) := by decide +kernel
theorem dX11_far_15 : decode cX11_far 15 = .ok (.invokestatic 216, 3) := by decide +kernel
theorem dX11_far_18 : decode cX11_far 18 = .ok (.ifCond .ne 7, 3) := by decide +kernel
theorem dX11_far_21 : decode cX11_far 21 = .ok (.sipush (-1001), 3) := by decide +kernel
theorem dX11_far_24 : decode cX11_far 24 = .ok (.ireturn, 1) := by decide +kernel
theorem dX11_far_25 : decode cX11_far 25 = .ok (.aload_n 0, 1) := by decide +kernel
theorem dX11_far_26 : decode cX11_far 26 = .ok (.getfield 41, 3) := by decide +kernel
theorem dX11_far_29 : decode cX11_far 29 = .ok (.sipush 1000, 3) := by decide +kernel
theorem dX11_far_32 : decode cX11_far 32 = .ok (.iload_n 1, 1) := by decide +kernel
theorem dX11_far_33 : decode cX11_far 33 = .ok (.imul, 1) := by decide +kernel
theorem dX11_far_34 : decode cX11_far 34 = .ok (.iload_n 2, 1) := by decide +kernel
theorem dX11_far_35 : decode cX11_far 35 = .ok (.iadd, 1) := by decide +kernel
theorem dX11_far_36 : decode cX11_far 36 = .ok (.iaload, 1) := by decide +kernel
theorem dX11_far_37 : decode cX11_far 37 = .ok (.ifCond .lt 18, 3) := by decide +kernel
theorem dX11_far_40 : decode cX11_far 40 = .ok (.aload_n 0, 1) := by decide +kernel
theorem dX11_far_41 : decode cX11_far 41 = .ok (.getfield 41, 3) := by decide +kernel
theorem dX11_far_44 : decode cX11_far 44 = .ok (.sipush 1000, 3) := by decide +kernel
theorem dX11_far_47 : decode cX11_far 47 = .ok (.iload_n 1, 1) := by decide +kernel
theorem dX11_far_48 : decode cX11_far 48 = .ok (.imul, 1) := by decide +kernel
theorem dX11_far_49 : decode cX11_far 49 = .ok (.iload_n 3, 1) := by decide +kernel
theorem dX11_far_50 : decode cX11_far 50 = .ok (.iadd, 1) := by decide +kernel
theorem dX11_far_51 : decode cX11_far 51 = .ok (.iaload, 1) := by decide +kernel
theorem dX11_far_52 : decode cX11_far 52 = .ok (.ifCond .ge 7, 3) := by decide +kernel
theorem dX11_far_55 : decode cX11_far 55 = .ok (.iconst (-1), 1) := by decide +kernel
theorem dX11_far_56 : decode cX11_far 56 = .ok (.goto 10, 3) := by decide +kernel
theorem dX11_far_59 : decode cX11_far 59 = .ok (.aload_n 0, 1) := by decide +kernel
theorem dX11_far_60 : decode cX11_far 60 = .ok (.iload_n 1, 1) := by decide +kernel
theorem dX11_far_61 : decode cX11_far 61 = .ok (.iload_n 2, 1) := by decide +kernel
theorem dX11_far_62 : decode cX11_far 62 = .ok (.iload_n 3, 1) := by decide +kernel
theorem dX11_far_63 : decode cX11_far 63 = .ok (.invokevirtual 292, 3) := by decide +kernel
theorem dX11_far_66 : decode cX11_far 66 = .ok (.ireturn, 1) := by decide +kernel
theorem dX11_mixed_0 : decode cX11_mixed 0 = .ok (.iload_n 1, 1) := by decide +kernel
theorem dX11_mixed_1 : decode cX11_mixed 1 = .ok (.invokestatic 194, 3) := by decide +kernel
theorem dX11_mixed_4 : decode cX11_mixed 4 = .ok (.ifCond .eq 18, 3) := by decide +kernel
theorem dX11_mixed_7 : decode cX11_mixed 7 = .ok (.iload_n 3, 1) := by decide +kernel
theorem dX11_mixed_8 : decode cX11_mixed 8 = .ok (.invokestatic 216, 3) := by decide +kernel
theorem dX11_mixed_11 : decode cX11_mixed 11 = .ok (.ifCond .eq 11, 3) := by decide +kernel
theorem dX11_mixed_14 : decode cX11_mixed 14 = .ok (.iload 4, 2) := by decide +kernel
theorem dX11_mixed_16 : decode cX11_mixed 16 = .ok (.invokestatic 216, 3) := by decide +kernel
theorem dX11_mixed_19 : decode cX11_mixed 19 = .ok (.ifCond .ne 7, 3) := by decide +kernel
theorem dX11_mixed_22 : decode cX11_mixed 22 = .ok (.sipush (-1001), 3) := by decide +kernel
theorem dX11_mixed_25 : decode cX11_mixed 25 = .ok (.ireturn, 1) := by decide +kernel
theorem dX11_mixed_26 : decode cX11_mixed 26 = .ok (.iload_n 2, 1) := by decide +kernel
theorem dX11_mixed_27 : decode cX11_mixed 27 = .ok (.i2l, 1) := by decide +kernel
theorem dX11_mixed_28 : decode cX11_mixed 28 = .ok (.lconst 0, 1) := by decide +kernel
theorem dX11_mixed_29 : decode cX11_mixed 29 = .ok (.ldc2_w 295, 3) := by decide +kernel
theorem dX11_mixed_32 : decode cX11_mixed 32 = .ok (.invokestatic 123, 3) := by decide +kernel
theorem dX11_mixed_35 : decode cX11_mixed 35 = .ok (.ifCond .eq 19, 3) := by decide +kernel
theorem dX11_mixed_38 : decode cX11_mixed 38 = .ok (.iload 4, 2) := by decide +kernel
theorem dX11_mixed_40 : decode cX11_mixed 40 = .ok (.i2l, 1) := by decide +kernel
theorem dX11_mixed_41 : decode cX11_mixed 41 = .ok (.iload_n 3, 1) := by decide +kernel
theorem dX11_mixed_42 : decode cX11_mixed 42 = .ok (.i2l, 1) := by decide +kernel
theorem dX11_mixed_43 : decode cX11_mixed 43 = .ok (.iload_n 3, 1) := by decide +kernel
theorem dX11_mixed_44 : decode cX11_mixed 44 = .ok (.bipush 60, 2) := by decide +kernel
theorem dX11_mixed_46 : decode cX11_mixed 46 = .ok (.iadd, 1) := by decide +kernel
theorem dX11_mixed_47 : decode cX11_mixed 47 = .ok (.i2l, 1) := by decide +kernel
theorem dX11_mixed_48 : decode cX11_mixed 48 = .ok (.invokestatic 123, 3) := by decide +kernel
theorem dX11_mixed_51 : decode cX11_mixed 51 = .ok (.ifCond .ne 7, 3) := by decide +kernel
theorem dX11_mixed_54 : decode cX11_mixed 54 = .ok (.sipush (-1002), 3) := by decide +kernel
theorem dX11_mixed_57 : decode cX11_mixed 57 = .ok (.ireturn, 1) := by decide +kernel
theorem dX11_mixed_58 : decode cX11_mixed 58 = .ok (.iconst 0, 1) := by decide +kernel
theorem dX11_mixed_59 : decode cX11_mixed 59 = .ok (.istore 5, 2) := by decide +kernel
theorem dX11_mixed_61 : decode cX11_mixed 61 = .ok (.iload_n 3, 1) := by decide +kernel
theorem dX11_mixed_62 : decode cX11_mixed 62 = .ok (.istore 6, 2) := by decide +kernel
theorem dX11_mixed_64 : decode cX11_mixed 64 = .ok (.iload 6, 2) := by decide +kernel
theorem dX11_mixed_66 : decode cX11_mixed 66 = .ok (.iload 4, 2) := by decide +kernel
theorem dX11_mixed_68 : decode cX11_mixed 68 = .ok (.if_icmp .gt 95, 3) := by decide +kernel
theorem dX11_mixed_71 : decode cX11_mixed 71 = .ok (.iload 6, 2) := by decide +kernel
theorem dX11_mixed_73 : decode cX11_mixed 73 = .ok (.iconst 1, 1) := by decide +kernel
theorem dX11_mixed_74 : decode cX11_mixed 74 = .ok (.iadd, 1) := by decide +kernel
theorem dX11_mixed_75 : decode cX11_mixed 75 = .ok (.istore 7, 2) := by decide +kernel
theorem dX11_mixed_77 : decode cX11_mixed 77 = .ok (.iload 7, 2) := by decide +kernel
theorem dX11_mixed_79 : decode cX11_mixed 79 = .ok (.iload 4, 2) := by decide +kernel
theorem dX11_mixed_81 : decode cX11_mixed 81 = .ok (.if_icmp .gt 76, 3) := by decide +kernel
theorem dX11_mixed_84 : decode cX11_mixed 84 = .ok (.aload_n 0, 1) := by decide +kernel
theorem dX11_mixed_85 : decode cX11_mixed 85 = .ok (.getfield 41, 3) := by decide +kernel
theorem dX11_mixed_88 : decode cX11_mixed 88 = .ok (.sipush 1000, 3) := by decide +kernel
theorem dX11_mixed_91 : decode cX11_mixed 91 = .ok (.iload_n 1, 1) := by decide +kernel
theorem dX11_mixed_92 : decode cX11_mixed 92 = .ok (.imul, 1) := by decide +kernel
theorem dX11_mixed_93 : decode cX11_mixed 93 = .ok (.iload 6, 2) := by decide +kernel
theorem dX11_mixed_95 : decode cX11_mixed 95 = .ok (.iadd, 1) := by decide +kernel
theorem dX11_mixed_96 : decode cX11_mixed 96 = .ok (.iaload, 1) := by decide +kernel
theorem dX11_mixed_97 : decode cX11_mixed 97 = .ok (.ifCond .lt 23, 3) := by decide +kernel
theorem dX11_mixed_100 : decode cX11_mixed 100 = .ok (.aload_n 0, 1) := by decide +kernel
theorem dX11_mixed_101 : decode cX11_mixed 101 = .ok (.getfield 41, 3) := by decide +kernel
theorem dX11_mixed_104 : decode cX11_mixed 104 = .ok (.sipush 1000, 3) := by decide +kernel
theorem dX11_mixed_107 : decode cX11_mixed 107 = .ok (.iload_n 1, 1) := by decide +kernel
theorem dX11_mixed_108 : decode cX11_mixed 108 = .ok (.imul, 1) := by decide +kernel
theorem dX11_mixed_109 : decode cX11_mixed 109 = .ok (.iload 7, 2) := by decide +kernel
theorem dX11_mixed_111 : decode cX11_mixed 111 = .ok (.iadd, 1) := by decide +kernel
theorem dX11_mixed_112 : decode cX11_mixed 112 = .ok (.iaload, 1) := by decide +kernel
theorem dX11_mixed_113 : decode cX11_mixed 113 = .ok (.ifCond .lt 7, 3) := by decide +kernel
theorem dX11_mixed_116 : decode cX11_mixed 116 = .ok (.iconst 1, 1) := by decide +kernel
theorem dX11_mixed_117 : decode cX11_mixed 117 = .ok (.goto 4, 3) := by decide +kernel
theorem dX11_mixed_120 : decode cX11_mixed 120 = .ok (.iconst 0, 1) := by decide +kernel
theorem dX11_mixed_121 : decode cX11_mixed 121 = .ok (.istore 8, 2) := by decide +kernel
theorem dX11_mixed_123 : decode cX11_mixed 123 = .ok (.iload 5, 2) := by decide +kernel
theorem dX11_mixed_125 : decode cX11_mixed 125 = .ok (.iload 8, 2) := by decide +kernel
theorem dX11_mixed_127 : decode cX11_mixed 127 = .ok (.ifCond .eq 20, 3) := by decide +kernel
theorem dX11_mixed_130 : decode cX11_mixed 130 = .ok (.aload_n 0, 1) := by decide +kernel
theorem dX11_mixed_131 : decode cX11_mixed 131 = .ok (.iload_n 1, 1) := by decide +kernel
theorem dX11_mixed_132 : decode cX11_mixed 132 = .ok (.iload 6, 2) := by decide +kernel
theorem dX11_mixed_134 : decode cX11_mixed 134 = .ok (.iload 7, 2) := by decide +kernel
theorem dX11_mixed_136 : decode cX11_mixed 136 = .ok (.invokevirtual 292, 3) := by decide +kernel
theorem dX11_mixed_139 : decode cX11_mixed 139 = .ok (.iload_n 2, 1) := by decide +kernel
theorem dX11_mixed_140 : decode cX11_mixed 140 = .ok (.if_icmp .gt 7, 3) := by decide +kernel
theorem dX11_mixed_143 : decode cX11_mixed 143 = .ok (.iconst 1, 1) := by decide +kernel
theorem dX11_mixed_144 : decode cX11_mixed 144 = .ok (.goto 4, 3) := by decide +kernel
theorem dX11_mixed_147 : decode cX11_mixed 147 = .ok (.iconst 0, 1) := by decide +kernel
theorem dX11_mixed_148 : decode cX11_mixed 148 = .ok (.iadd, 1) := by decide +kernel
theorem dX11_mixed_149 : decode cX11_mixed 149 = .ok (.istore 5, 2) := by decide +kernel
theorem dX11_mixed_151 : decode cX11_mixed 151 = .ok (.iinc 7 1, 3) := by decide +kernel
theorem dX11_mixed_154 : decode cX11_mixed 154 = .ok (.goto (-77), 3) := by decide +kernel
theorem dX11_mixed_157 : decode cX11_mixed 157 = .ok (.iinc 6 1, 3) := by decide +kernel
theorem dX11_mixed_160 : decode cX11_mixed 160 = .ok (.goto (-96), 3) := by decide +kernel
theorem dX11_mixed_163 : decode cX11_mixed 163 = .ok (.iload 5, 2) := by decide +kernel
theorem dX11_mixed_165 : decode cX11_mixed 165 = .ok (.ireturn, 1) := by decide +kernel
theorem dX11_findNine_0 : decode cX11_findNine 0 = .ok (.aload_n 0, 1) := by decide +kernel
theorem dX11_findNine_1 : decode cX11_findNine 1 = .ok (.getfield 118, 3) := by decide +kernel
theorem dX11_findNine_4 : decode cX11_findNine 4 = .ok (.iconst 0, 1) := by decide +kernel
theorem dX11_findNine_5 : decode cX11_findNine 5 = .ok (.iload_n 1, 1) := by decide +kernel
theorem dX11_findNine_6 : decode cX11_findNine 6 = .ok (.iload_n 2, 1) := by decide +kernel
theorem dX11_findNine_7 : decode cX11_findNine 7 = .ok (.iadd, 1) := by decide +kernel
theorem dX11_findNine_8 : decode cX11_findNine 8 = .ok (.iastore, 1) := by decide +kernel
theorem dX11_findNine_9 : decode cX11_findNine 9 = .ok (.aload_n 0, 1) := by decide +kernel
theorem dX11_findNine_10 : decode cX11_findNine 10 = .ok (.getfield 118, 3) := by decide +kernel
theorem dX11_findNine_13 : decode cX11_findNine 13 = .ok (.iconst 1, 1) := by decide +kernel
theorem dX11_findNine_14 : decode cX11_findNine 14 = .ok (.iload_n 1, 1) := by decide +kernel
theorem dX11_findNine_15 : decode cX11_findNine 15 = .ok (.iload_n 2, 1) := by decide +kernel
theorem dX11_findNine_16 : decode cX11_findNine 16 = .ok (.isub, 1) := by decide +kernel
theorem dX11_findNine_17 : decode cX11_findNine 17 = .ok (.iload_n 3, 1) := by decide +kernel
theorem dX11_findNine_18 : decode cX11_findNine 18 = .ok (.isub, 1) := by decide +kernel
theorem dX11_findNine_19 : decode cX11_findNine 19 = .ok (.iastore, 1) := by decide +kernel
theorem dX11_findNine_20 : decode cX11_findNine 20 = .ok (.aload_n 0, 1) := by decide +kernel
theorem dX11_findNine_21 : decode cX11_findNine 21 = .ok (.getfield 118, 3) := by decide +kernel
theorem dX11_findNine_24 : decode cX11_findNine 24 = .ok (.iconst 2, 1) := by decide +kernel
theorem dX11_findNine_25 : decode cX11_findNine 25 = .ok (.iload_n 1, 1) := by decide +kernel
theorem dX11_findNine_26 : decode cX11_findNine 26 = .ok (.iload_n 3, 1) := by decide +kernel
theorem dX11_findNine_27 : decode cX11_findNine 27 = .ok (.iadd, 1) := by decide +kernel
theorem dX11_findNine_28 : decode cX11_findNine 28 = .ok (.iastore, 1) := by decide +kernel
theorem dX11_findNine_29 : decode cX11_findNine 29 = .ok (.aload_n 0, 1) := by decide +kernel
theorem dX11_findNine_30 : decode cX11_findNine 30 = .ok (.getfield 118, 3) := by decide +kernel
theorem dX11_findNine_33 : decode cX11_findNine 33 = .ok (.iconst 3, 1) := by decide +kernel
theorem dX11_findNine_34 : decode cX11_findNine 34 = .ok (.iload_n 1, 1) := by decide +kernel
theorem dX11_findNine_35 : decode cX11_findNine 35 = .ok (.iload_n 2, 1) := by decide +kernel
theorem dX11_findNine_36 : decode cX11_findNine 36 = .ok (.isub, 1) := by decide +kernel
theorem dX11_findNine_37 : decode cX11_findNine 37 = .ok (.iload_n 3, 1) := by decide +kernel
theorem dX11_findNine_38 : decode cX11_findNine 38 = .ok (.iadd, 1) := by decide +kernel
theorem dX11_findNine_39 : decode cX11_findNine 39 = .ok (.iastore, 1) := by decide +kernel
theorem dX11_findNine_40 : decode cX11_findNine 40 = .ok (.aload_n 0, 1) := by decide +kernel
theorem dX11_findNine_41 : decode cX11_findNine 41 = .ok (.getfield 118, 3) := by decide +kernel
theorem dX11_findNine_44 : decode cX11_findNine 44 = .ok (.iconst 4, 1) := by decide +kernel
theorem dX11_findNine_45 : decode cX11_findNine 45 = .ok (.iload_n 1, 1) := by decide +kernel
theorem dX11_findNine_46 : decode cX11_findNine 46 = .ok (.iastore, 1) := by decide +kernel
theorem dX11_findNine_47 : decode cX11_findNine 47 = .ok (.aload_n 0, 1) := by decide +kernel
theorem dX11_findNine_48 : decode cX11_findNine 48 = .ok (.getfield 118, 3) := by decide +kernel
theorem dX11_findNine_51 : decode cX11_findNine 51 = .ok (.iconst 5, 1) := by decide +kernel
theorem dX11_findNine_52 : decode cX11_findNine 52 = .ok (.iload_n 1, 1) := by decide +kernel
theorem dX11_findNine_53 : decode cX11_findNine 53 = .ok (.iload_n 2, 1) := by decide +kernel
theorem dX11_findNine_54 : decode cX11_findNine 54 = .ok (.iadd, 1) := by decide +kernel
theorem dX11_findNine_55 : decode cX11_findNine 55 = .ok (.iload_n 3, 1) := by decide +kernel
theorem dX11_findNine_56 : decode cX11_findNine 56 = .ok (.isub, 1) := by decide +kernel
theorem dX11_findNine_57 : decode cX11_findNine 57 = .ok (.iastore, 1) := by decide +kernel
theorem dX11_findNine_58 : decode cX11_findNine 58 = .ok (.aload_n 0, 1) := by decide +kernel
theorem dX11_findNine_59 : decode cX11_findNine 59 = .ok (.getfield 118, 3) := by decide +kernel
theorem dX11_findNine_62 : decode cX11_findNine 62 = .ok (.bipush 6, 2) := by decide +kernel
theorem dX11_findNine_64 : decode cX11_findNine 64 = .ok (.iload_n 1, 1) := by decide +kernel
theorem dX11_findNine_65 : decode cX11_findNine 65 = .ok (.iload_n 3, 1) := by decide +kernel
theorem dX11_findNine_66 : decode cX11_findNine 66 = .ok (.isub, 1) := by decide +kernel
theorem dX11_findNine_67 : decode cX11_findNine 67 = .ok (.iastore, 1) := by decide +kernel
theorem dX11_findNine_68 : decode cX11_findNine 68 = .ok (.aload_n 0, 1) := by decide +kernel
theorem dX11_findNine_69 : decode cX11_findNine 69 = .ok (.getfield 118, 3) := by decide +kernel
theorem dX11_findNine_72 : decode cX11_findNine 72 = .ok (.bipush 7, 2) := by decide +kernel
theorem dX11_findNine_74 : decode cX11_findNine 74 = .ok (.iload_n 1, 1) := by decide +kernel
theorem dX11_findNine_75 : decode cX11_findNine 75 = .ok (.iload_n 2, 1) := by decide +kernel
theorem dX11_findNine_76 : decode cX11_findNine 76 = .ok (.iadd, 1) := by decide +kernel
theorem dX11_findNine_77 : decode cX11_findNine 77 = .ok (.iload_n 3, 1) := by decide +kernel
theorem dX11_findNine_78 : decode cX11_findNine 78 = .ok (.iadd, 1) := by decide +kernel
theorem dX11_findNine_79 : decode cX11_findNine 79 = .ok (.iastore, 1) := by decide +kernel
theorem dX11_findNine_80 : decode cX11_findNine 80 = .ok (.aload_n 0, 1) := by decide +kernel
theorem dX11_findNine_81 : decode cX11_findNine 81 = .ok (.getfield 118, 3) := by decide +kernel
theorem dX11_findNine_84 : decode cX11_findNine 84 = .ok (.bipush 8, 2) := by decide +kernel
theorem dX11_findNine_86 : decode cX11_findNine 86 = .ok (.iload_n 1, 1) := by decide +kernel
theorem dX11_findNine_87 : decode cX11_findNine 87 = .ok (.iload_n 2, 1) := by decide +kernel
theorem dX11_findNine_88 : decode cX11_findNine 88 = .ok (.isub, 1) := by decide +kernel
theorem dX11_findNine_89 : decode cX11_findNine 89 = .ok (.iastore, 1) := by decide +kernel
theorem dX11_findNine_90 : decode cX11_findNine 90 = .ok (.iconst 1, 1) := by decide +kernel
theorem dX11_findNine_91 : decode cX11_findNine 91 = .ok (.istore 4, 2) := by decide +kernel
theorem dX11_findNine_93 : decode cX11_findNine 93 = .ok (.iconst 0, 1) := by decide +kernel
theorem dX11_findNine_94 : decode cX11_findNine 94 = .ok (.istore 5, 2) := by decide +kernel
theorem dX11_findNine_96 : decode cX11_findNine 96 = .ok (.iload 5, 2) := by decide +kernel
theorem dX11_findNine_98 : decode cX11_findNine 98 = .ok (.bipush 9, 2) := by decide +kernel
theorem dX11_findNine_100 : decode cX11_findNine 100 = .ok (.if_icmp .ge 34, 3) := by decide +kernel
theorem dX11_findNine_103 : decode cX11_findNine 103 = .ok (.iload 4, 2) := by decide +kernel
theorem dX11_findNine_105 : decode cX11_findNine 105 = .ok (.ifCond .eq 20, 3) := by decide +kernel
theorem dX11_findNine_108 : decode cX11_findNine 108 = .ok (.aload_n 0, 1) := by decide +kernel
theorem dX11_findNine_109 : decode cX11_findNine 109 = .ok (.getfield 118, 3) := by decide +kernel
theorem dX11_findNine_112 : decode cX11_findNine 112 = .ok (.iload 5, 2) := by decide +kernel
theorem dX11_findNine_114 : decode cX11_findNine 114 = .ok (.iaload, 1) := by decide +kernel
theorem dX11_findNine_115 : decode cX11_findNine 115 = .ok (.invokestatic 216, 3) := by decide +kernel
theorem dX11_findNine_118 : decode cX11_findNine 118 = .ok (.ifCond .eq 7, 3) := by decide +kernel
theorem dX11_findNine_121 : decode cX11_findNine 121 = .ok (.iconst 1, 1) := by decide +kernel
theorem dX11_findNine_122 : decode cX11_findNine 122 = .ok (.goto 4, 3) := by decide +kernel
theorem dX11_findNine_125 : decode cX11_findNine 125 = .ok (.iconst 0, 1) := by decide +kernel
theorem dX11_findNine_126 : decode cX11_findNine 126 = .ok (.istore 4, 2) := by decide +kernel
theorem dX11_findNine_128 : decode cX11_findNine 128 = .ok (.iinc 5 1, 3) := by decide +kernel
theorem dX11_findNine_131 : decode cX11_findNine 131 = .ok (.goto (-35), 3) := by decide +kernel
theorem dX11_findNine_134 : decode cX11_findNine 134 = .ok (.iload 4, 2) := by decide +kernel
theorem dX11_findNine_136 : decode cX11_findNine 136 = .ok (.ireturn, 1) := by decide +kernel
theorem dX11_sumOf_0 : decode cX11_sumOf 0 = .ok (.aload_n 0, 1) := by decide +kernel
theorem dX11_sumOf_1 : decode cX11_sumOf 1 = .ok (.iload_n 1, 1) := by decide +kernel
theorem dX11_sumOf_2 : decode cX11_sumOf 2 = .ok (.aload_n 0, 1) := by decide +kernel
theorem dX11_sumOf_3 : decode cX11_sumOf 3 = .ok (.getfield 118, 3) := by decide +kernel
theorem dX11_sumOf_6 : decode cX11_sumOf 6 = .ok (.iload_n 2, 1) := by decide +kernel
theorem dX11_sumOf_7 : decode cX11_sumOf 7 = .ok (.iaload, 1) := by decide +kernel
theorem dX11_sumOf_8 : decode cX11_sumOf 8 = .ok (.invokevirtual 242, 3) := by decide +kernel
theorem dX11_sumOf_11 : decode cX11_sumOf 11 = .ok (.aload_n 0, 1) := by decide +kernel
theorem dX11_sumOf_12 : decode cX11_sumOf 12 = .ok (.iload_n 1, 1) := by decide +kernel
theorem dX11_sumOf_13 : decode cX11_sumOf 13 = .ok (.aload_n 0, 1) := by decide +kernel
theorem dX11_sumOf_14 : decode cX11_sumOf 14 = .ok (.getfield 118, 3) := by decide +kernel
theorem dX11_sumOf_17 : decode cX11_sumOf 17 = .ok (.iload_n 3, 1) := by decide +kernel
theorem dX11_sumOf_18 : decode cX11_sumOf 18 = .ok (.iaload, 1) := by decide +kernel
theorem dX11_sumOf_19 : decode cX11_sumOf 19 = .ok (.invokevirtual 242, 3) := by decide +kernel
theorem dX11_sumOf_22 : decode cX11_sumOf 22 = .ok (.iadd, 1) := by decide +kernel
theorem dX11_sumOf_23 : decode cX11_sumOf 23 = .ok (.aload_n 0, 1) := by decide +kernel
theorem dX11_sumOf_24 : decode cX11_sumOf 24 = .ok (.iload_n 1, 1) := by decide +kernel
theorem dX11_sumOf_25 : decode cX11_sumOf 25 = .ok (.aload_n 0, 1) := by decide +kernel
theorem dX11_sumOf_26 : decode cX11_sumOf 26 = .ok (.getfield 118, 3) := by decide +kernel
theorem dX11_sumOf_29 : decode cX11_sumOf 29 = .ok (.iload 4, 2) := by decide +kernel
theorem dX11_sumOf_31 : decode cX11_sumOf 31 = .ok (.iaload, 1) := by decide +kernel
theorem dX11_sumOf_32 : decode cX11_sumOf 32 = .ok (.invokevirtual 242, 3) := by decide +kernel
theorem dX11_sumOf_35 : decode cX11_sumOf 35 = .ok (.iadd, 1) := by decide +kernel
theorem dX11_sumOf_36 : decode cX11_sumOf 36 = .ok (.ireturn, 1) := by decide +kernel
theorem dX11_isTwice_0 : decode cX11_isTwice 0 = .ok (.iconst 1, 1) := by decide +kernel
theorem dX11_isTwice_1 : decode cX11_isTwice 1 = .ok (.istore_n 2, 1) := by decide +kernel
theorem dX11_isTwice_2 : decode cX11_isTwice 2 = .ok (.iconst 0, 1) := by decide +kernel
theorem dX11_isTwice_3 : decode cX11_isTwice 3 = .ok (.istore_n 3, 1) := by decide +kernel
theorem dX11_isTwice_4 : decode cX11_isTwice 4 = .ok (.iload_n 3, 1) := by decide +kernel
theorem dX11_isTwice_5 : decode cX11_isTwice 5 = .ok (.bipush 9, 2) := by decide +kernel
theorem dX11_isTwice_7 : decode cX11_isTwice 7 = .ok (.if_icmp .ge 39, 3) := by decide +kernel
theorem dX11_isTwice_10 : decode cX11_isTwice 10 = .ok (.iload_n 2, 1) := by decide +kernel
theorem dX11_isTwice_11 : decode cX11_isTwice 11 = .ok (.ifCond .eq 27, 3) := by decide +kernel
theorem dX11_isTwice_14 : decode cX11_isTwice 14 = .ok (.aload_n 0, 1) := by decide +kernel
theorem dX11_isTwice_15 : decode cX11_isTwice 15 = .ok (.getfield 41, 3) := by decide +kernel
theorem dX11_isTwice_18 : decode cX11_isTwice 18 = .ok (.sipush 1000, 3) := by decide +kernel
theorem dX11_isTwice_21 : decode cX11_isTwice 21 = .ok (.iload_n 1, 1) := by decide +kernel
theorem dX11_isTwice_22 : decode cX11_isTwice 22 = .ok (.imul, 1) := by decide +kernel
theorem dX11_isTwice_23 : decode cX11_isTwice 23 = .ok (.aload_n 0, 1) := by decide +kernel
theorem dX11_isTwice_24 : decode cX11_isTwice 24 = .ok (.getfield 118, 3) := by decide +kernel
theorem dX11_isTwice_27 : decode cX11_isTwice 27 = .ok (.iload_n 3, 1) := by decide +kernel
theorem dX11_isTwice_28 : decode cX11_isTwice 28 = .ok (.iaload, 1) := by decide +kernel
theorem dX11_isTwice_29 : decode cX11_isTwice 29 = .ok (.iadd, 1) := by decide +kernel
theorem dX11_isTwice_30 : decode cX11_isTwice 30 = .ok (.iaload, 1) := by decide +kernel
theorem dX11_isTwice_31 : decode cX11_isTwice 31 = .ok (.ifCond .lt 7, 3) := by decide +kernel
theorem dX11_isTwice_34 : decode cX11_isTwice 34 = .ok (.iconst 1, 1) := by decide +kernel
theorem dX11_isTwice_35 : decode cX11_isTwice 35 = .ok (.goto 4, 3) := by decide +kernel
theorem dX11_isTwice_38 : decode cX11_isTwice 38 = .ok (.iconst 0, 1) := by decide +kernel
theorem dX11_isTwice_39 : decode cX11_isTwice 39 = .ok (.istore_n 2, 1) := by decide +kernel
theorem dX11_isTwice_40 : decode cX11_isTwice 40 = .ok (.iinc 3 1, 3) := by decide +kernel
theorem dX11_isTwice_43 : decode cX11_isTwice 43 = .ok (.goto (-39), 3) := by decide +kernel
theorem dX11_isTwice_46 : decode cX11_isTwice 46 = .ok (.aload_n 0, 1) := by decide +kernel
theorem dX11_isTwice_47 : decode cX11_isTwice 47 = .ok (.iload_n 1, 1) := by decide +kernel
theorem dX11_isTwice_48 : decode cX11_isTwice 48 = .ok (.iconst 0, 1) := by decide +kernel
theorem dX11_isTwice_49 : decode cX11_isTwice 49 = .ok (.iconst 1, 1) := by decide +kernel
theorem dX11_isTwice_50 : decode cX11_isTwice 50 = .ok (.iconst 2, 1) := by decide +kernel
theorem dX11_isTwice_51 : decode cX11_isTwice 51 = .ok (.invokevirtual 297, 3) := by decide +kernel
theorem dX11_isTwice_54 : decode cX11_isTwice 54 = .ok (.istore_n 3, 1) := by decide +kernel
theorem dX11_isTwice_55 : decode cX11_isTwice 55 = .ok (.iconst 0, 1) := by decide +kernel
theorem dX11_isTwice_56 : decode cX11_isTwice 56 = .ok (.istore 4, 2) := by decide +kernel
theorem dX11_isTwice_58 : decode cX11_isTwice 58 = .ok (.iload 4, 2) := by decide +kernel
theorem dX11_isTwice_60 : decode cX11_isTwice 60 = .ok (.iconst 3, 1) := by decide +kernel
theorem dX11_isTwice_61 : decode cX11_isTwice 61 = .ok (.if_icmp .ge 64, 3) := by decide +kernel
theorem dX11_isTwice_64 : decode cX11_isTwice 64 = .ok (.iload_n 2, 1) := by decide +kernel
theorem dX11_isTwice_65 : decode cX11_isTwice 65 = .ok (.ifCond .eq 52, 3) := by decide +kernel
theorem dX11_isTwice_68 : decode cX11_isTwice 68 = .ok (.aload_n 0, 1) := by decide +kernel
theorem dX11_isTwice_69 : decode cX11_isTwice 69 = .ok (.iload_n 1, 1) := by decide +kernel
theorem dX11_isTwice_70 : decode cX11_isTwice 70 = .ok (.iconst 3, 1) := by decide +kernel
theorem dX11_isTwice_71 : decode cX11_isTwice 71 = .ok (.iload 4, 2) := by decide +kernel
theorem dX11_isTwice_73 : decode cX11_isTwice 73 = .ok (.imul, 1) := by decide +kernel
theorem dX11_isTwice_74 : decode cX11_isTwice 74 = .ok (.iconst 3, 1) := by decide +kernel
theorem dX11_isTwice_75 : decode cX11_isTwice 75 = .ok (.iload 4, 2) := by decide +kernel
theorem dX11_isTwice_77 : decode cX11_isTwice 77 = .ok (.imul, 1) := by decide +kernel
theorem dX11_isTwice_78 : decode cX11_isTwice 78 = .ok (.iconst 1, 1) := by decide +kernel
theorem dX11_isTwice_79 : decode cX11_isTwice 79 = .ok (.iadd, 1) := by decide +kernel
theorem dX11_isTwice_80 : decode cX11_isTwice 80 = .ok (.iconst 3, 1) := by decide +kernel
theorem dX11_isTwice_81 : decode cX11_isTwice 81 = .ok (.iload 4, 2) := by decide +kernel
theorem dX11_isTwice_83 : decode cX11_isTwice 83 = .ok (.imul, 1) := by decide +kernel
theorem dX11_isTwice_84 : decode cX11_isTwice 84 = .ok (.iconst 2, 1) := by decide +kernel
theorem dX11_isTwice_85 : decode cX11_isTwice 85 = .ok (.iadd, 1) := by decide +kernel
theorem dX11_isTwice_86 : decode cX11_isTwice 86 = .ok (.invokevirtual 297, 3) := by decide +kernel
theorem dX11_isTwice_89 : decode cX11_isTwice 89 = .ok (.iload_n 3, 1) := by decide +kernel
theorem dX11_isTwice_90 : decode cX11_isTwice 90 = .ok (.if_icmp .ne 27, 3) := by decide +kernel
theorem dX11_isTwice_93 : decode cX11_isTwice 93 = .ok (.aload_n 0, 1) := by decide +kernel
theorem dX11_isTwice_94 : decode cX11_isTwice 94 = .ok (.iload_n 1, 1) := by decide +kernel
theorem dX11_isTwice_95 : decode cX11_isTwice 95 = .ok (.iload 4, 2) := by decide +kernel
theorem dX11_isTwice_97 : decode cX11_isTwice 97 = .ok (.iload 4, 2) := by decide +kernel
theorem dX11_isTwice_99 : decode cX11_isTwice 99 = .ok (.iconst 3, 1) := by decide +kernel
theorem dX11_isTwice_100 : decode cX11_isTwice 100 = .ok (.iadd, 1) := by decide +kernel
theorem dX11_isTwice_101 : decode cX11_isTwice 101 = .ok (.iload 4, 2) := by decide +kernel
theorem dX11_isTwice_103 : decode cX11_isTwice 103 = .ok (.bipush 6, 2) := by decide +kernel
theorem dX11_isTwice_105 : decode cX11_isTwice 105 = .ok (.iadd, 1) := by decide +kernel
theorem dX11_isTwice_106 : decode cX11_isTwice 106 = .ok (.invokevirtual 297, 3) := by decide +kernel
theorem dX11_isTwice_109 : decode cX11_isTwice 109 = .ok (.iload_n 3, 1) := by decide +kernel
theorem dX11_isTwice_110 : decode cX11_isTwice 110 = .ok (.if_icmp .ne 7, 3) := by decide +kernel
theorem dX11_isTwice_113 : decode cX11_isTwice 113 = .ok (.iconst 1, 1) := by decide +kernel
theorem dX11_isTwice_114 : decode cX11_isTwice 114 = .ok (.goto 4, 3) := by decide +kernel
theorem dX11_isTwice_117 : decode cX11_isTwice 117 = .ok (.iconst 0, 1) := by decide +kernel
theorem dX11_isTwice_118 : decode cX11_isTwice 118 = .ok (.istore_n 2, 1) := by decide +kernel
theorem dX11_isTwice_119 : decode cX11_isTwice 119 = .ok (.iinc 4 1, 3) := by decide +kernel
theorem dX11_isTwice_122 : decode cX11_isTwice 122 = .ok (.goto (-64), 3) := by decide +kernel
theorem dX11_isTwice_125 : decode cX11_isTwice 125 = .ok (.iload_n 2, 1) := by decide +kernel
theorem dX11_isTwice_126 : decode cX11_isTwice 126 = .ok (.ifCond .eq 33, 3) := by decide +kernel
theorem dX11_isTwice_129 : decode cX11_isTwice 129 = .ok (.aload_n 0, 1) := by decide +kernel
theorem dX11_isTwice_130 : decode cX11_isTwice 130 = .ok (.iload_n 1, 1) := by decide +kernel
theorem dX11_isTwice_131 : decode cX11_isTwice 131 = .ok (.iconst 0, 1) := by decide +kernel
theorem dX11_isTwice_132 : decode cX11_isTwice 132 = .ok (.iconst 4, 1) := by decide +kernel
theorem dX11_isTwice_133 : decode cX11_isTwice 133 = .ok (.bipush 8, 2) := by decide +kernel
theorem dX11_isTwice_135 : decode cX11_isTwice 135 = .ok (.invokevirtual 297, 3) := by decide +kernel
theorem dX11_isTwice_138 : decode cX11_isTwice 138 = .ok (.iload_n 3, 1) := by decide +kernel
theorem dX11_isTwice_139 : decode cX11_isTwice 139 = .ok (.if_icmp .ne 20, 3) := by decide +kernel
theorem dX11_isTwice_142 : decode cX11_isTwice 142 = .ok (.aload_n 0, 1) := by decide +kernel
theorem dX11_isTwice_143 : decode cX11_isTwice 143 = .ok (.iload_n 1, 1) := by decide +kernel
theorem dX11_isTwice_144 : decode cX11_isTwice 144 = .ok (.iconst 2, 1) := by decide +kernel
theorem dX11_isTwice_145 : decode cX11_isTwice 145 = .ok (.iconst 4, 1) := by decide +kernel
theorem dX11_isTwice_146 : decode cX11_isTwice 146 = .ok (.bipush 6, 2) := by decide +kernel
theorem dX11_isTwice_148 : decode cX11_isTwice 148 = .ok (.invokevirtual 297, 3) := by decide +kernel
theorem dX11_isTwice_151 : decode cX11_isTwice 151 = .ok (.iload_n 3, 1) := by decide +kernel
theorem dX11_isTwice_152 : decode cX11_isTwice 152 = .ok (.if_icmp .ne 7, 3) := by decide +kernel
theorem dX11_isTwice_155 : decode cX11_isTwice 155 = .ok (.iconst 1, 1) := by decide +kernel
theorem dX11_isTwice_156 : decode cX11_isTwice 156 = .ok (.goto 4, 3) := by decide +kernel
theorem dX11_isTwice_159 : decode cX11_isTwice 159 = .ok (.iconst 0, 1) := by decide +kernel
theorem dX11_isTwice_160 : decode cX11_isTwice 160 = .ok (.ireturn, 1) := by decide +kernel
theorem dX11_square_0 : decode cX11_square 0 = .ok (.iload_n 1, 1) := by decide +kernel
theorem dX11_square_1 : decode cX11_square 1 = .ok (.invokestatic 194, 3) := by decide +kernel
theorem dX11_square_4 : decode cX11_square 4 = .ok (.ifCond .ne 7, 3) := by decide +kernel
theorem dX11_square_7 : decode cX11_square 7 = .ok (.sipush (-1001), 3) := by decide +kernel
theorem dX11_square_10 : decode cX11_square 10 = .ok (.ireturn, 1) := by decide +kernel
theorem dX11_square_11 : decode cX11_square 11 = .ok (.iload_n 2, 1) := by decide +kernel
theorem dX11_square_12 : decode cX11_square 12 = .ok (.invokestatic 216, 3) := by decide +kernel
theorem dX11_square_15 : decode cX11_square 15 = .ok (.ifCond .eq 32, 3) := by decide +kernel
theorem dX11_square_18 : decode cX11_square 18 = .ok (.iload_n 3, 1) := by decide +kernel
theorem dX11_square_19 : decode cX11_square 19 = .ok (.i2l, 1) := by decide +kernel
theorem dX11_square_20 : decode cX11_square 20 = .ok (.ldc2_w 301, 3) := by decide +kernel
theorem dX11_square_23 : decode cX11_square 23 = .ok (.ldc2_w 127, 3) := by decide +kernel
theorem dX11_square_26 : decode cX11_square 26 = .ok (.invokestatic 123, 3) := by decide +kernel
theorem dX11_square_29 : decode cX11_square 29 = .ok (.ifCond .eq 18, 3) := by decide +kernel
theorem dX11_square_32 : decode cX11_square 32 = .ok (.iload 4, 2) := by decide +kernel
theorem dX11_square_34 : decode cX11_square 34 = .ok (.i2l, 1) := by decide +kernel
theorem dX11_square_35 : decode cX11_square 35 = .ok (.ldc2_w 301, 3) := by decide +kernel
theorem dX11_square_38 : decode cX11_square 38 = .ok (.ldc2_w 127, 3) := by decide +kernel
theorem dX11_square_41 : decode cX11_square 41 = .ok (.invokestatic 123, 3) := by decide +kernel
theorem dX11_square_44 : decode cX11_square 44 = .ok (.ifCond .ne 7, 3) := by decide +kernel
theorem dX11_square_47 : decode cX11_square 47 = .ok (.sipush (-1002), 3) := by decide +kernel
theorem dX11_square_50 : decode cX11_square 50 = .ok (.ireturn, 1) := by decide +kernel
theorem dX11_square_51 : decode cX11_square 51 = .ok (.aload_n 0, 1) := by decide +kernel
theorem dX11_square_52 : decode cX11_square 52 = .ok (.iload_n 2, 1) := by decide +kernel
theorem dX11_square_53 : decode cX11_square 53 = .ok (.iload_n 3, 1) := by decide +kernel
theorem dX11_square_54 : decode cX11_square 54 = .ok (.iload 4, 2) := by decide +kernel
theorem dX11_square_56 : decode cX11_square 56 = .ok (.invokevirtual 303, 3) := by decide +kernel
theorem dX11_square_59 : decode cX11_square 59 = .ok (.ifCond .ne 7, 3) := by decide +kernel
theorem dX11_square_62 : decode cX11_square 62 = .ok (.iconst (-1), 1) := by decide +kernel
theorem dX11_square_63 : decode cX11_square 63 = .ok (.goto 16, 3) := by decide +kernel
theorem dX11_square_66 : decode cX11_square 66 = .ok (.aload_n 0, 1) := by decide +kernel
theorem dX11_square_67 : decode cX11_square 67 = .ok (.iload_n 1, 1) := by decide +kernel
theorem dX11_square_68 : decode cX11_square 68 = .ok (.invokevirtual 306, 3) := by decide +kernel
theorem dX11_square_71 : decode cX11_square 71 = .ok (.ifCond .eq 7, 3) := by decide +kernel
theorem dX11_square_74 : decode cX11_square 74 = .ok (.iconst 1, 1) := by decide +kernel
theorem dX11_square_75 : decode cX11_square 75 = .ok (.goto 4, 3) := by decide +kernel
theorem dX11_square_78 : decode cX11_square 78 = .ok (.iconst 0, 1) := by decide +kernel
theorem dX11_square_79 : decode cX11_square 79 = .ok (.ireturn, 1) := by decide +kernel
theorem dX11_areUnlike_0 : decode cX11_areUnlike 0 = .ok (.iconst 1, 1) := by decide +kernel
theorem dX11_areUnlike_1 : decode cX11_areUnlike 1 = .ok (.istore_n 1, 1) := by decide +kernel
theorem dX11_areUnlike_2 : decode cX11_areUnlike 2 = .ok (.iconst 0, 1) := by decide +kernel
theorem dX11_areUnlike_3 : decode cX11_areUnlike 3 = .ok (.istore_n 2, 1) := by decide +kernel
theorem dX11_areUnlike_4 : decode cX11_areUnlike 4 = .ok (.iload_n 2, 1) := by decide +kernel
theorem dX11_areUnlike_5 : decode cX11_areUnlike 5 = .ok (.bipush 9, 2) := by decide +kernel
theorem dX11_areUnlike_7 : decode cX11_areUnlike 7 = .ok (.if_icmp .ge 50, 3) := by decide +kernel
theorem dX11_areUnlike_10 : decode cX11_areUnlike 10 = .ok (.iload_n 2, 1) := by decide +kernel
theorem dX11_areUnlike_11 : decode cX11_areUnlike 11 = .ok (.iconst 1, 1) := by decide +kernel
theorem dX11_areUnlike_12 : decode cX11_areUnlike 12 = .ok (.iadd, 1) := by decide +kernel
theorem dX11_areUnlike_13 : decode cX11_areUnlike 13 = .ok (.istore_n 3, 1) := by decide +kernel
theorem dX11_areUnlike_14 : decode cX11_areUnlike 14 = .ok (.iload_n 3, 1) := by decide +kernel
theorem dX11_areUnlike_15 : decode cX11_areUnlike 15 = .ok (.bipush 9, 2) := by decide +kernel
theorem dX11_areUnlike_17 : decode cX11_areUnlike 17 = .ok (.if_icmp .ge 34, 3) := by decide +kernel
theorem dX11_areUnlike_20 : decode cX11_areUnlike 20 = .ok (.iload_n 1, 1) := by decide +kernel
theorem dX11_areUnlike_21 : decode cX11_areUnlike 21 = .ok (.ifCond .eq 22, 3) := by decide +kernel
theorem dX11_areUnlike_24 : decode cX11_areUnlike 24 = .ok (.aload_n 0, 1) := by decide +kernel
theorem dX11_areUnlike_25 : decode cX11_areUnlike 25 = .ok (.getfield 118, 3) := by decide +kernel
theorem dX11_areUnlike_28 : decode cX11_areUnlike 28 = .ok (.iload_n 2, 1) := by decide +kernel
theorem dX11_areUnlike_29 : decode cX11_areUnlike 29 = .ok (.iaload, 1) := by decide +kernel
theorem dX11_areUnlike_30 : decode cX11_areUnlike 30 = .ok (.aload_n 0, 1) := by decide +kernel
theorem dX11_areUnlike_31 : decode cX11_areUnlike 31 = .ok (.getfield 118, 3) := by decide +kernel
theorem dX11_areUnlike_34 : decode cX11_areUnlike 34 = .ok (.iload_n 3, 1) := by decide +kernel
theorem dX11_areUnlike_35 : decode cX11_areUnlike 35 = .ok (.iaload, 1) := by decide +kernel
theorem dX11_areUnlike_36 : decode cX11_areUnlike 36 = .ok (.if_icmp .eq 7, 3) := by decide +kernel
theorem dX11_areUnlike_39 : decode cX11_areUnlike 39 = .ok (.iconst 1, 1) := by decide +kernel
theorem dX11_areUnlike_40 : decode cX11_areUnlike 40 = .ok (.goto 4, 3) := by decide +kernel
theorem dX11_areUnlike_43 : decode cX11_areUnlike 43 = .ok (.iconst 0, 1) := by decide +kernel
theorem dX11_areUnlike_44 : decode cX11_areUnlike 44 = .ok (.istore_n 1, 1) := by decide +kernel
theorem dX11_areUnlike_45 : decode cX11_areUnlike 45 = .ok (.iinc 3 1, 3) := by decide +kernel
theorem dX11_areUnlike_48 : decode cX11_areUnlike 48 = .ok (.goto (-34), 3) := by decide +kernel
theorem dX11_areUnlike_51 : decode cX11_areUnlike 51 = .ok (.iinc 2 1, 3) := by decide +kernel
theorem dX11_areUnlike_54 : decode cX11_areUnlike 54 = .ok (.goto (-50), 3) := by decide +kernel
theorem dX11_areUnlike_57 : decode cX11_areUnlike 57 = .ok (.iload_n 1, 1) := by decide +kernel
theorem dX11_areUnlike_58 : decode cX11_areUnlike 58 = .ok (.ireturn, 1) := by decide +kernel
theorem dX11_squares_0 : decode cX11_squares 0 = .ok (.iload_n 1, 1) := by decide +kernel
theorem dX11_squares_1 : decode cX11_squares 1 = .ok (.invokestatic 194, 3) := by decide +kernel
theorem dX11_squares_4 : decode cX11_squares 4 = .ok (.ifCond .eq 10, 3) := by decide +kernel
theorem dX11_squares_7 : decode cX11_squares 7 = .ok (.iload_n 2, 1) := by decide +kernel
theorem dX11_squares_8 : decode cX11_squares 8 = .ok (.invokestatic 216, 3) := by decide +kernel
theorem dX11_squares_11 : decode cX11_squares 11 = .ok (.ifCond .ne 7, 3) := by decide +kernel
theorem dX11_squares_14 : decode cX11_squares 14 = .ok (.sipush (-1001), 3) := by decide +kernel
theorem dX11_squares_17 : decode cX11_squares 17 = .ok (.ireturn, 1) := by decide +kernel
theorem dX11_squares_18 : decode cX11_squares 18 = .ok (.iconst 1, 1) := by decide +kernel
theorem dX11_squares_19 : decode cX11_squares 19 = .ok (.istore_n 3, 1) := by decide +kernel
theorem dX11_squares_20 : decode cX11_squares 20 = .ok (.iload_n 3, 1) := by decide +kernel
theorem dX11_squares_21 : decode cX11_squares 21 = .ok (.bipush 60, 2) := by decide +kernel
theorem dX11_squares_23 : decode cX11_squares 23 = .ok (.if_icmp .gt 59, 3) := by decide +kernel
theorem dX11_squares_26 : decode cX11_squares 26 = .ok (.iconst 1, 1) := by decide +kernel
theorem dX11_squares_27 : decode cX11_squares 27 = .ok (.istore 4, 2) := by decide +kernel
theorem dX11_squares_29 : decode cX11_squares 29 = .ok (.iload 4, 2) := by decide +kernel
theorem dX11_squares_31 : decode cX11_squares 31 = .ok (.bipush 60, 2) := by decide +kernel
theorem dX11_squares_33 : decode cX11_squares 33 = .ok (.if_icmp .gt 43, 3) := by decide +kernel
theorem dX11_squares_36 : decode cX11_squares 36 = .ok (.aload_n 0, 1) := by decide +kernel
theorem dX11_squares_37 : decode cX11_squares 37 = .ok (.iload_n 2, 1) := by decide +kernel
theorem dX11_squares_38 : decode cX11_squares 38 = .ok (.iload_n 3, 1) := by decide +kernel
theorem dX11_squares_39 : decode cX11_squares 39 = .ok (.iload 4, 2) := by decide +kernel
theorem dX11_squares_41 : decode cX11_squares 41 = .ok (.invokevirtual 303, 3) := by decide +kernel
theorem dX11_squares_44 : decode cX11_squares 44 = .ok (.ifCond .eq 26, 3) := by decide +kernel
theorem dX11_squares_47 : decode cX11_squares 47 = .ok (.aload_n 0, 1) := by decide +kernel
theorem dX11_squares_48 : decode cX11_squares 48 = .ok (.invokevirtual 309, 3) := by decide +kernel
theorem dX11_squares_51 : decode cX11_squares 51 = .ok (.ifCond .eq 19, 3) := by decide +kernel
theorem dX11_squares_54 : decode cX11_squares 54 = .ok (.aload_n 0, 1) := by decide +kernel
theorem dX11_squares_55 : decode cX11_squares 55 = .ok (.iload_n 1, 1) := by decide +kernel
theorem dX11_squares_56 : decode cX11_squares 56 = .ok (.invokevirtual 306, 3) := by decide +kernel
theorem dX11_squares_59 : decode cX11_squares 59 = .ok (.ifCond .eq 11, 3) := by decide +kernel
theorem dX11_squares_62 : decode cX11_squares 62 = .ok (.bipush 100, 2) := by decide +kernel
theorem dX11_squares_64 : decode cX11_squares 64 = .ok (.iload_n 3, 1) := by decide +kernel
theorem dX11_squares_65 : decode cX11_squares 65 = .ok (.imul, 1) := by decide +kernel
theorem dX11_squares_66 : decode cX11_squares 66 = .ok (.iload 4, 2) := by decide +kernel
theorem dX11_squares_68 : decode cX11_squares 68 = .ok (.iadd, 1) := by decide +kernel
theorem dX11_squares_69 : decode cX11_squares 69 = .ok (.ireturn, 1) := by decide +kernel
theorem dX11_squares_70 : decode cX11_squares 70 = .ok (.iinc 4 1, 3) := by decide +kernel
theorem dX11_squares_73 : decode cX11_squares 73 = .ok (.goto (-44), 3) := by decide +kernel
theorem dX11_squares_76 : decode cX11_squares 76 = .ok (.iinc 3 1, 3) := by decide +kernel
theorem dX11_squares_79 : decode cX11_squares 79 = .ok (.goto (-59), 3) := by decide +kernel
theorem dX11_squares_82 : decode cX11_squares 82 = .ok (.iconst (-1), 1) := by decide +kernel
theorem dX11_squares_83 : decode cX11_squares 83 = .ok (.ireturn, 1) := by decide +kernel
theorem dJ13_compare_74951_0 : decode cJ13_compare_74951 0 = .ok (.lload_n 0, 1) := by decide +kernel
theorem dJ13_compare_74951_1 : decode cJ13_compare_74951 1 = .ok (.lload_n 2, 1) := by decide +kernel
theorem dJ13_compare_74951_2 : decode cJ13_compare_74951 2 = .ok (.lcmp, 1) := by decide +kernel
theorem dJ13_compare_74951_3 : decode cJ13_compare_74951 3 = .ok (.ifCond .ge 7, 3) := by decide +kernel
theorem dJ13_compare_74951_6 : decode cJ13_compare_74951 6 = .ok (.iconst (-1), 1) := by decide +kernel
theorem dJ13_compare_74951_7 : decode cJ13_compare_74951 7 = .ok (.goto 14, 3) := by decide +kernel
theorem dJ13_compare_74951_10 : decode cJ13_compare_74951 10 = .ok (.lload_n 0, 1) := by decide +kernel
theorem dJ13_compare_74951_11 : decode cJ13_compare_74951 11 = .ok (.lload_n 2, 1) := by decide +kernel
theorem dJ13_compare_74951_12 : decode cJ13_compare_74951 12 = .ok (.lcmp, 1) := by decide +kernel
theorem dJ13_compare_74951_13 : decode cJ13_compare_74951 13 = .ok (.ifCond .ne 7, 3) := by decide +kernel
theorem dJ13_compare_74951_16 : decode cJ13_compare_74951 16 = .ok (.iconst 0, 1) := by decide +kernel
theorem dJ13_compare_74951_17 : decode cJ13_compare_74951 17 = .ok (.goto 4, 3) := by decide +kernel
theorem dJ13_compare_74951_20 : decode cJ13_compare_74951 20 = .ok (.iconst 1, 1) := by decide +kernel
theorem dJ13_compare_74951_21 : decode cJ13_compare_74951 21 = .ok (.ireturn, 1) := by decide +kernel
theorem dJ9_abs_0f7a4_0 : decode cJ9_abs_0f7a4 0 = .ok (.iload_n 0, 1) := by decide +kernel
theorem dJ9_abs_0f7a4_1 : decode cJ9_abs_0f7a4 1 = .ok (.ifCond .ge 8, 3) := by decide +kernel
theorem dJ9_abs_0f7a4_4 : decode cJ9_abs_0f7a4 4 = .ok (.iload_n 0, 1) := by decide +kernel
theorem dJ9_abs_0f7a4_5 : decode cJ9_abs_0f7a4 5 = .ok (.ineg, 1) := by decide +kernel
theorem dJ9_abs_0f7a4_6 : decode cJ9_abs_0f7a4 6 = .ok (.goto 4, 3) := by decide +kernel
theorem dJ9_abs_0f7a4_9 : decode cJ9_abs_0f7a4 9 = .ok (.iload_n 0, 1) := by decide +kernel
theorem dJ9_abs_0f7a4_10 : decode cJ9_abs_0f7a4 10 = .ok (.ireturn, 1) := by decide +kernel
theorem dJ9_abs_067f4_0 : decode cJ9_abs_067f4 0 = .ok (.lload_n 0, 1) := by decide +kernel
theorem dJ9_abs_067f4_1 : decode cJ9_abs_067f4 1 = .ok (.lconst 0, 1) := by decide +kernel
theorem dJ9_abs_067f4_2 : decode cJ9_abs_067f4 2 = .ok (.lcmp, 1) := by decide +kernel
theorem dJ9_abs_067f4_3 : decode cJ9_abs_067f4 3 = .ok (.ifCond .ge 8, 3) := by decide +kernel
theorem dJ9_abs_067f4_6 : decode cJ9_abs_067f4 6 = .ok (.lload_n 0, 1) := by decide +kernel
theorem dJ9_abs_067f4_7 : decode cJ9_abs_067f4 7 = .ok (.lneg, 1) := by decide +kernel
theorem dJ9_abs_067f4_8 : decode cJ9_abs_067f4 8 = .ok (.goto 4, 3) := by decide +kernel
theorem dJ9_abs_067f4_11 : decode cJ9_abs_067f4 11 = .ok (.lload_n 0, 1) := by decide +kernel
theorem dJ9_abs_067f4_12 : decode cJ9_abs_067f4 12 = .ok (.lreturn, 1) := by decide +kernel
theorem dJ9_max_7cf53_0 : decode cJ9_max_7cf53 0 = .ok (.iload_n 0, 1) := by decide +kernel
theorem dJ9_max_7cf53_1 : decode cJ9_max_7cf53 1 = .ok (.iload_n 1, 1) := by decide +kernel
theorem dJ9_max_7cf53_2 : decode cJ9_max_7cf53 2 = .ok (.if_icmp .lt 7, 3) := by decide +kernel
theorem dJ9_max_7cf53_5 : decode cJ9_max_7cf53 5 = .ok (.iload_n 0, 1) := by decide +kernel
theorem dJ9_max_7cf53_6 : decode cJ9_max_7cf53 6 = .ok (.goto 4, 3) := by decide +kernel
theorem dJ9_max_7cf53_9 : decode cJ9_max_7cf53 9 = .ok (.iload_n 1, 1) := by decide +kernel
theorem dJ9_max_7cf53_10 : decode cJ9_max_7cf53 10 = .ok (.ireturn, 1) := by decide +kernel
theorem dJ9_min_7cf53_0 : decode cJ9_min_7cf53 0 = .ok (.iload_n 0, 1) := by decide +kernel
theorem dJ9_min_7cf53_1 : decode cJ9_min_7cf53 1 = .ok (.iload_n 1, 1) := by decide +kernel
theorem dJ9_min_7cf53_2 : decode cJ9_min_7cf53 2 = .ok (.if_icmp .gt 7, 3) := by decide +kernel
theorem dJ9_min_7cf53_5 : decode cJ9_min_7cf53 5 = .ok (.iload_n 0, 1) := by decide +kernel
theorem dJ9_min_7cf53_6 : decode cJ9_min_7cf53 6 = .ok (.goto 4, 3) := by decide +kernel
theorem dJ9_min_7cf53_9 : decode cJ9_min_7cf53 9 = .ok (.iload_n 1, 1) := by decide +kernel
theorem dJ9_min_7cf53_10 : decode cJ9_min_7cf53 10 = .ok (.ireturn, 1) := by decide +kernel
theorem dJ0_length_8abf5_0 : decode cJ0_length_8abf5 0 = .ok (.aload_n 0, 1) := by decide +kernel
theorem dJ0_length_8abf5_1 : decode cJ0_length_8abf5 1 = .ok (.getfield 9, 3) := by decide +kernel
theorem dJ0_length_8abf5_4 : decode cJ0_length_8abf5 4 = .ok (.arraylength, 1) := by decide +kernel
theorem dJ0_length_8abf5_5 : decode cJ0_length_8abf5 5 = .ok (.aload_n 0, 1) := by decide +kernel
theorem dJ0_length_8abf5_6 : decode cJ0_length_8abf5 6 = .ok (.invokevirtual 335, 3) := by decide +kernel
theorem dJ0_length_8abf5_9 : decode cJ0_length_8abf5 9 = .ok (.ishr, 1) := by decide +kernel
theorem dJ0_length_8abf5_10 : decode cJ0_length_8abf5 10 = .ok (.ireturn, 1) := by decide +kernel
theorem dJ0_charAt_5068e_0 : decode cJ0_charAt_5068e 0 = .ok (.aload_n 0, 1) := by decide +kernel
theorem dJ0_charAt_5068e_1 : decode cJ0_charAt_5068e 1 = .ok (.invokevirtual 492, 3) := by decide +kernel
theorem dJ0_charAt_5068e_4 : decode cJ0_charAt_5068e 4 = .ok (.ifCond .eq 12, 3) := by decide +kernel
theorem dJ0_charAt_5068e_7 : decode cJ0_charAt_5068e 7 = .ok (.aload_n 0, 1) := by decide +kernel
theorem dJ0_charAt_5068e_8 : decode cJ0_charAt_5068e 8 = .ok (.getfield 9, 3) := by decide +kernel
theorem dJ0_charAt_5068e_11 : decode cJ0_charAt_5068e 11 = .ok (.iload_n 1, 1) := by decide +kernel
theorem dJ0_charAt_5068e_12 : decode cJ0_charAt_5068e 12 = .ok (.invokestatic 495, 3) := by decide +kernel
theorem dJ0_charAt_5068e_15 : decode cJ0_charAt_5068e 15 = .ok (.ireturn, 1) := by decide +kernel
theorem dJ0_charAt_5068e_16 : decode cJ0_charAt_5068e 16 = .ok (.aload_n 0, 1) := by decide +kernel
theorem dJ0_charAt_5068e_17 : decode cJ0_charAt_5068e 17 = .ok (.getfield 9, 3) := by decide +kernel
theorem dJ0_charAt_5068e_20 : decode cJ0_charAt_5068e 20 = .ok (.iload_n 1, 1) := by decide +kernel
theorem dJ0_charAt_5068e_21 : decode cJ0_charAt_5068e 21 = .ok (.invokestatic 498, 3) := by decide +kernel
theorem dJ0_charAt_5068e_24 : decode cJ0_charAt_5068e 24 = .ok (.ireturn, 1) := by decide +kernel
theorem dJ0_coder_7d493_0 : decode cJ0_coder_7d493 0 = .ok (.getstatic 38, 3) := by decide +kernel
theorem dJ0_coder_7d493_3 : decode cJ0_coder_7d493 3 = .ok (.ifCond .eq 10, 3) := by decide +kernel
theorem dJ0_coder_7d493_6 : decode cJ0_coder_7d493 6 = .ok (.aload_n 0, 1) := by decide +kernel
theorem dJ0_coder_7d493_7 : decode cJ0_coder_7d493 7 = .ok (.getfield 15, 3) := by decide +kernel
theorem dJ0_coder_7d493_10 : decode cJ0_coder_7d493 10 = .ok (.goto 4, 3) := by decide +kernel
theorem dJ0_coder_7d493_13 : decode cJ0_coder_7d493 13 = .ok (.iconst 1, 1) := by decide +kernel
theorem dJ0_coder_7d493_14 : decode cJ0_coder_7d493 14 = .ok (.ireturn, 1) := by decide +kernel
theorem dJ0_isLatin1_aae02_0 : decode cJ0_isLatin1_aae02 0 = .ok (.getstatic 38, 3) := by decide +kernel
theorem dJ0_isLatin1_aae02_3 : decode cJ0_isLatin1_aae02 3 = .ok (.ifCond .eq 14, 3) := by decide +kernel
theorem dJ0_isLatin1_aae02_6 : decode cJ0_isLatin1_aae02 6 = .ok (.aload_n 0, 1) := by decide +kernel
theorem dJ0_isLatin1_aae02_7 : decode cJ0_isLatin1_aae02 7 = .ok (.getfield 15, 3) := by decide +kernel
theorem dJ0_isLatin1_aae02_10 : decode cJ0_isLatin1_aae02 10 = .ok (.ifCond .ne 7, 3) := by decide +kernel
theorem dJ0_isLatin1_aae02_13 : decode cJ0_isLatin1_aae02 13 = .ok (.iconst 1, 1) := by decide +kernel
theorem dJ0_isLatin1_aae02_14 : decode cJ0_isLatin1_aae02 14 = .ok (.goto 4, 3) := by decide +kernel
theorem dJ0_isLatin1_aae02_17 : decode cJ0_isLatin1_aae02 17 = .ok (.iconst 0, 1) := by decide +kernel
theorem dJ0_isLatin1_aae02_18 : decode cJ0_isLatin1_aae02 18 = .ok (.ireturn, 1) := by decide +kernel
theorem dJ1_charAt_3b067_0 : decode cJ1_charAt_3b067 0 = .ok (.iload_n 1, 1) := by decide +kernel
theorem dJ1_charAt_3b067_1 : decode cJ1_charAt_3b067 1 = .ok (.aload_n 0, 1) := by decide +kernel
theorem dJ1_charAt_3b067_2 : decode cJ1_charAt_3b067 2 = .ok (.arraylength, 1) := by decide +kernel
theorem dJ1_charAt_3b067_3 : decode cJ1_charAt_3b067 3 = .ok (.invokestatic 9, 3) := by decide +kernel
theorem dJ1_charAt_3b067_6 : decode cJ1_charAt_3b067 6 = .ok (.aload_n 0, 1) := by decide +kernel
theorem dJ1_charAt_3b067_7 : decode cJ1_charAt_3b067 7 = .ok (.iload_n 1, 1) := by decide +kernel
theorem dJ1_charAt_3b067_8 : decode cJ1_charAt_3b067 8 = .ok (.baload, 1) := by decide +kernel
theorem dJ1_charAt_3b067_9 : decode cJ1_charAt_3b067 9 = .ok (.sipush 255, 3) := by decide +kernel
theorem dJ1_charAt_3b067_12 : decode cJ1_charAt_3b067 12 = .ok (.iand, 1) := by decide +kernel
theorem dJ1_charAt_3b067_13 : decode cJ1_charAt_3b067 13 = .ok (.i2c, 1) := by decide +kernel
theorem dJ1_charAt_3b067_14 : decode cJ1_charAt_3b067 14 = .ok (.ireturn, 1) := by decide +kernel
theorem dJ7_fill_d0a16_0 : decode cJ7_fill_d0a16 0 = .ok (.iconst 0, 1) := by decide +kernel
theorem dJ7_fill_d0a16_1 : decode cJ7_fill_d0a16 1 = .ok (.istore_n 3, 1) := by decide +kernel
theorem dJ7_fill_d0a16_2 : decode cJ7_fill_d0a16 2 = .ok (.aload_n 0, 1) := by decide +kernel
theorem dJ7_fill_d0a16_3 : decode cJ7_fill_d0a16 3 = .ok (.arraylength, 1) := by decide +kernel
theorem dJ7_fill_d0a16_4 : decode cJ7_fill_d0a16 4 = .ok (.istore 4, 2) := by decide +kernel
theorem dJ7_fill_d0a16_6 : decode cJ7_fill_d0a16 6 = .ok (.iload_n 3, 1) := by decide +kernel
theorem dJ7_fill_d0a16_7 : decode cJ7_fill_d0a16 7 = .ok (.iload 4, 2) := by decide +kernel
theorem dJ7_fill_d0a16_9 : decode cJ7_fill_d0a16 9 = .ok (.if_icmp .ge 13, 3) := by decide +kernel
theorem dJ7_fill_d0a16_12 : decode cJ7_fill_d0a16 12 = .ok (.aload_n 0, 1) := by decide +kernel
theorem dJ7_fill_d0a16_13 : decode cJ7_fill_d0a16 13 = .ok (.iload_n 3, 1) := by decide +kernel
theorem dJ7_fill_d0a16_14 : decode cJ7_fill_d0a16 14 = .ok (.lload_n 1, 1) := by decide +kernel
theorem dJ7_fill_d0a16_15 : decode cJ7_fill_d0a16 15 = .ok (.lastore, 1) := by decide +kernel
theorem dJ7_fill_d0a16_16 : decode cJ7_fill_d0a16 16 = .ok (.iinc 3 1, 3) := by decide +kernel
theorem dJ7_fill_d0a16_19 : decode cJ7_fill_d0a16 19 = .ok (.goto (-13), 3) := by decide +kernel
theorem dJ7_fill_d0a16_22 : decode cJ7_fill_d0a16 22 = .ok (.return_, 1) := by decide +kernel
theorem dJ7_fill_53178_0 : decode cJ7_fill_53178 0 = .ok (.iconst 0, 1) := by decide +kernel
theorem dJ7_fill_53178_1 : decode cJ7_fill_53178 1 = .ok (.istore_n 2, 1) := by decide +kernel
theorem dJ7_fill_53178_2 : decode cJ7_fill_53178 2 = .ok (.aload_n 0, 1) := by decide +kernel
theorem dJ7_fill_53178_3 : decode cJ7_fill_53178 3 = .ok (.arraylength, 1) := by decide +kernel
theorem dJ7_fill_53178_4 : decode cJ7_fill_53178 4 = .ok (.istore_n 3, 1) := by decide +kernel
theorem dJ7_fill_53178_5 : decode cJ7_fill_53178 5 = .ok (.iload_n 2, 1) := by decide +kernel
theorem dJ7_fill_53178_6 : decode cJ7_fill_53178 6 = .ok (.iload_n 3, 1) := by decide +kernel
theorem dJ7_fill_53178_7 : decode cJ7_fill_53178 7 = .ok (.if_icmp .ge 13, 3) := by decide +kernel
theorem dJ7_fill_53178_10 : decode cJ7_fill_53178 10 = .ok (.aload_n 0, 1) := by decide +kernel
theorem dJ7_fill_53178_11 : decode cJ7_fill_53178 11 = .ok (.iload_n 2, 1) := by decide +kernel
theorem dJ7_fill_53178_12 : decode cJ7_fill_53178 12 = .ok (.iload_n 1, 1) := by decide +kernel
theorem dJ7_fill_53178_13 : decode cJ7_fill_53178 13 = .ok (.iastore, 1) := by decide +kernel
theorem dJ7_fill_53178_14 : decode cJ7_fill_53178 14 = .ok (.iinc 2 1, 3) := by decide +kernel
theorem dJ7_fill_53178_17 : decode cJ7_fill_53178 17 = .ok (.goto (-12), 3) := by decide +kernel
theorem dJ7_fill_53178_20 : decode cJ7_fill_53178 20 = .ok (.return_, 1) := by decide +kernel
theorem dL_law_0 : decode cL_law 0 = .ok (.new 7, 3) := by decide +kernel
theorem dL_law_3 : decode cL_law 3 = .ok (.dup, 1) := by decide +kernel
theorem dL_law_4 : decode cL_law 4 = .ok (.invokespecial 9, 3) := by decide +kernel
theorem dL_law_7 : decode cL_law 7 = .ok (.astore_n 1, 1) := by decide +kernel
theorem dL_law_8 : decode cL_law 8 = .ok (.new 10, 3) := by decide +kernel
theorem dL_law_11 : decode cL_law 11 = .ok (.dup, 1) := by decide +kernel
theorem dL_law_12 : decode cL_law 12 = .ok (.invokespecial 12, 3) := by decide +kernel
theorem dL_law_15 : decode cL_law 15 = .ok (.astore_n 2, 1) := by decide +kernel
theorem dL_law_16 : decode cL_law 16 = .ok (.iconst 0, 1) := by decide +kernel
theorem dL_law_17 : decode cL_law 17 = .ok (.istore_n 3, 1) := by decide +kernel
theorem dL_law_18 : decode cL_law 18 = .ok (.iload_n 3, 1) := by decide +kernel
theorem dL_law_19 : decode cL_law 19 = .ok (.aload_n 0, 1) := by decide +kernel
theorem dL_law_20 : decode cL_law 20 = .ok (.arraylength, 1) := by decide +kernel
theorem dL_law_21 : decode cL_law 21 = .ok (.iconst 5, 1) := by decide +kernel
theorem dL_law_22 : decode cL_law 22 = .ok (.isub, 1) := by decide +kernel
theorem dL_law_23 : decode cL_law 23 = .ok (.if_icmp .gt 1062, 3) := by decide +kernel
theorem dL_law_26 : decode cL_law 26 = .ok (.aload_n 0, 1) := by decide +kernel
theorem dL_law_27 : decode cL_law 27 = .ok (.iload_n 3, 1) := by decide +kernel
theorem dL_law_28 : decode cL_law 28 = .ok (.iaload, 1) := by decide +kernel
theorem dL_law_29 : decode cL_law 29 = .ok (.bipush 31, 2) := by decide +kernel
theorem dL_law_31 : decode cL_law 31 = .ok (.iand, 1) := by decide +kernel
theorem dL_law_32 : decode cL_law 32 = .ok (.tableswitch 1047 0 24 #[116, 179, 202, 215, 248, 291, 324, 357, 390, 443, 476, 519, 552, 585, 618, 641, 654, 713, 746, 789, 832, 865, 908, 961, 1014], 116) := by decide +kernel
theorem dL_law_148 : decode cL_law 148 = .ok (.aload_n 1, 1) := by decide +kernel
theorem dL_law_149 : decode cL_law 149 = .ok (.aload_n 0, 1) := by decide +kernel
theorem dL_law_150 : decode cL_law 150 = .ok (.iload_n 3, 1) := by decide +kernel
theorem dL_law_151 : decode cL_law 151 = .ok (.iconst 1, 1) := by decide +kernel
theorem dL_law_152 : decode cL_law 152 = .ok (.iadd, 1) := by decide +kernel
theorem dL_law_153 : decode cL_law 153 = .ok (.iaload, 1) := by decide +kernel
theorem dL_law_154 : decode cL_law 154 = .ok (.aload_n 0, 1) := by decide +kernel
theorem dL_law_155 : decode cL_law 155 = .ok (.iload_n 3, 1) := by decide +kernel
theorem dL_law_156 : decode cL_law 156 = .ok (.iconst 2, 1) := by decide +kernel
theorem dL_law_157 : decode cL_law 157 = .ok (.iadd, 1) := by decide +kernel
theorem dL_law_158 : decode cL_law 158 = .ok (.iaload, 1) := by decide +kernel
theorem dL_law_159 : decode cL_law 159 = .ok (.i2l, 1) := by decide +kernel
theorem dL_law_160 : decode cL_law 160 = .ok (.bipush 32, 2) := by decide +kernel
theorem dL_law_162 : decode cL_law 162 = .ok (.lshl, 1) := by decide +kernel
theorem dL_law_163 : decode cL_law 163 = .ok (.aload_n 0, 1) := by decide +kernel
theorem dL_law_164 : decode cL_law 164 = .ok (.iload_n 3, 1) := by decide +kernel
theorem dL_law_165 : decode cL_law 165 = .ok (.iconst 3, 1) := by decide +kernel
theorem dL_law_166 : decode cL_law 166 = .ok (.iadd, 1) := by decide +kernel
theorem dL_law_167 : decode cL_law 167 = .ok (.iaload, 1) := by decide +kernel
theorem dL_law_168 : decode cL_law 168 = .ok (.i2l, 1) := by decide +kernel
theorem dL_law_169 : decode cL_law 169 = .ok (.ldc2_w 13, 3) := by decide +kernel
theorem dL_law_172 : decode cL_law 172 = .ok (.land, 1) := by decide +kernel
theorem dL_law_173 : decode cL_law 173 = .ok (.lor, 1) := by decide +kernel
theorem dL_law_174 : decode cL_law 174 = .ok (.invokevirtual 15, 3) := by decide +kernel
theorem dL_law_177 : decode cL_law 177 = .ok (.aload_n 2, 1) := by decide +kernel
theorem dL_law_178 : decode cL_law 178 = .ok (.aload_n 0, 1) := by decide +kernel
theorem dL_law_179 : decode cL_law 179 = .ok (.iload_n 3, 1) := by decide +kernel
theorem dL_law_180 : decode cL_law 180 = .ok (.iconst 1, 1) := by decide +kernel
theorem dL_law_181 : decode cL_law 181 = .ok (.iadd, 1) := by decide +kernel
theorem dL_law_182 : decode cL_law 182 = .ok (.iaload, 1) := by decide +kernel
theorem dL_law_183 : decode cL_law 183 = .ok (.aload_n 0, 1) := by decide +kernel
theorem dL_law_184 : decode cL_law 184 = .ok (.iload_n 3, 1) := by decide +kernel
theorem dL_law_185 : decode cL_law 185 = .ok (.iconst 2, 1) := by decide +kernel
theorem dL_law_186 : decode cL_law 186 = .ok (.iadd, 1) := by decide +kernel
theorem dL_law_187 : decode cL_law 187 = .ok (.iaload, 1) := by decide +kernel
theorem dL_law_188 : decode cL_law 188 = .ok (.i2l, 1) := by decide +kernel
theorem dL_law_189 : decode cL_law 189 = .ok (.bipush 32, 2) := by decide +kernel
theorem dL_law_191 : decode cL_law 191 = .ok (.lshl, 1) := by decide +kernel
theorem dL_law_192 : decode cL_law 192 = .ok (.aload_n 0, 1) := by decide +kernel
theorem dL_law_193 : decode cL_law 193 = .ok (.iload_n 3, 1) := by decide +kernel
theorem dL_law_194 : decode cL_law 194 = .ok (.iconst 3, 1) := by decide +kernel
theorem dL_law_195 : decode cL_law 195 = .ok (.iadd, 1) := by decide +kernel
theorem dL_law_196 : decode cL_law 196 = .ok (.iaload, 1) := by decide +kernel
theorem dL_law_197 : decode cL_law 197 = .ok (.i2l, 1) := by decide +kernel
theorem dL_law_198 : decode cL_law 198 = .ok (.ldc2_w 13, 3) := by decide +kernel
theorem dL_law_201 : decode cL_law 201 = .ok (.land, 1) := by decide +kernel
theorem dL_law_202 : decode cL_law 202 = .ok (.lor, 1) := by decide +kernel
theorem dL_law_203 : decode cL_law 203 = .ok (.invokevirtual 19, 3) := by decide +kernel
theorem dL_law_206 : decode cL_law 206 = .ok (.if_icmp .eq 873, 3) := by decide +kernel
theorem dL_law_209 : decode cL_law 209 = .ok (.iconst 0, 1) := by decide +kernel
theorem dL_law_210 : decode cL_law 210 = .ok (.ireturn, 1) := by decide +kernel
theorem dL_law_211 : decode cL_law 211 = .ok (.aload_n 1, 1) := by decide +kernel
theorem dL_law_212 : decode cL_law 212 = .ok (.aload_n 0, 1) := by decide +kernel
theorem dL_law_213 : decode cL_law 213 = .ok (.iload_n 3, 1) := by decide +kernel
theorem dL_law_214 : decode cL_law 214 = .ok (.iconst 1, 1) := by decide +kernel
theorem dL_law_215 : decode cL_law 215 = .ok (.iadd, 1) := by decide +kernel
theorem dL_law_216 : decode cL_law 216 = .ok (.iaload, 1) := by decide +kernel
theorem dL_law_217 : decode cL_law 217 = .ok (.invokevirtual 20, 3) := by decide +kernel
theorem dL_law_220 : decode cL_law 220 = .ok (.aload_n 2, 1) := by decide +kernel
theorem dL_law_221 : decode cL_law 221 = .ok (.aload_n 0, 1) := by decide +kernel
theorem dL_law_222 : decode cL_law 222 = .ok (.iload_n 3, 1) := by decide +kernel
theorem dL_law_223 : decode cL_law 223 = .ok (.iconst 1, 1) := by decide +kernel
theorem dL_law_224 : decode cL_law 224 = .ok (.iadd, 1) := by decide +kernel
theorem dL_law_225 : decode cL_law 225 = .ok (.iaload, 1) := by decide +kernel
theorem dL_law_226 : decode cL_law 226 = .ok (.invokevirtual 24, 3) := by decide +kernel
theorem dL_law_229 : decode cL_law 229 = .ok (.if_icmp .eq 850, 3) := by decide +kernel
theorem dL_law_232 : decode cL_law 232 = .ok (.iconst 0, 1) := by decide +kernel
theorem dL_law_233 : decode cL_law 233 = .ok (.ireturn, 1) := by decide +kernel
theorem dL_law_234 : decode cL_law 234 = .ok (.aload_n 1, 1) := by decide +kernel
theorem dL_law_235 : decode cL_law 235 = .ok (.invokevirtual 25, 3) := by decide +kernel
theorem dL_law_238 : decode cL_law 238 = .ok (.aload_n 2, 1) := by decide +kernel
theorem dL_law_239 : decode cL_law 239 = .ok (.invokevirtual 29, 3) := by decide +kernel
theorem dL_law_242 : decode cL_law 242 = .ok (.if_icmp .eq 837, 3) := by decide +kernel
theorem dL_law_245 : decode cL_law 245 = .ok (.iconst 0, 1) := by decide +kernel
theorem dL_law_246 : decode cL_law 246 = .ok (.ireturn, 1) := by decide +kernel
theorem dL_law_247 : decode cL_law 247 = .ok (.aload_n 1, 1) := by decide +kernel
theorem dL_law_248 : decode cL_law 248 = .ok (.aload_n 0, 1) := by decide +kernel
theorem dL_law_249 : decode cL_law 249 = .ok (.iload_n 3, 1) := by decide +kernel
theorem dL_law_250 : decode cL_law 250 = .ok (.iconst 1, 1) := by decide +kernel
theorem dL_law_251 : decode cL_law 251 = .ok (.iadd, 1) := by decide +kernel
theorem dL_law_252 : decode cL_law 252 = .ok (.iaload, 1) := by decide +kernel
theorem dL_law_253 : decode cL_law 253 = .ok (.aload_n 0, 1) := by decide +kernel
theorem dL_law_254 : decode cL_law 254 = .ok (.iload_n 3, 1) := by decide +kernel
theorem dL_law_255 : decode cL_law 255 = .ok (.iconst 2, 1) := by decide +kernel
theorem dL_law_256 : decode cL_law 256 = .ok (.iadd, 1) := by decide +kernel
theorem dL_law_257 : decode cL_law 257 = .ok (.iaload, 1) := by decide +kernel
theorem dL_law_258 : decode cL_law 258 = .ok (.invokevirtual 30, 3) := by decide +kernel
theorem dL_law_261 : decode cL_law 261 = .ok (.aload_n 2, 1) := by decide +kernel
theorem dL_law_262 : decode cL_law 262 = .ok (.aload_n 0, 1) := by decide +kernel
theorem dL_law_263 : decode cL_law 263 = .ok (.iload_n 3, 1) := by decide +kernel
theorem dL_law_264 : decode cL_law 264 = .ok (.iconst 1, 1) := by decide +kernel
theorem dL_law_265 : decode cL_law 265 = .ok (.iadd, 1) := by decide +kernel
theorem dL_law_266 : decode cL_law 266 = .ok (.iaload, 1) := by decide +kernel
theorem dL_law_267 : decode cL_law 267 = .ok (.aload_n 0, 1) := by decide +kernel
theorem dL_law_268 : decode cL_law 268 = .ok (.iload_n 3, 1) := by decide +kernel
theorem dL_law_269 : decode cL_law 269 = .ok (.iconst 2, 1) := by decide +kernel
theorem dL_law_270 : decode cL_law 270 = .ok (.iadd, 1) := by decide +kernel
theorem dL_law_271 : decode cL_law 271 = .ok (.iaload, 1) := by decide +kernel
theorem dL_law_272 : decode cL_law 272 = .ok (.invokevirtual 34, 3) := by decide +kernel
theorem dL_law_275 : decode cL_law 275 = .ok (.if_icmp .eq 804, 3) := by decide +kernel
theorem dL_law_278 : decode cL_law 278 = .ok (.iconst 0, 1) := by decide +kernel
theorem dL_law_279 : decode cL_law 279 = .ok (.ireturn, 1) := by decide +kernel
theorem dL_law_280 : decode cL_law 280 = .ok (.aload_n 1, 1) := by decide +kernel
theorem dL_law_281 : decode cL_law 281 = .ok (.aload_n 0, 1) := by decide +kernel
theorem dL_law_282 : decode cL_law 282 = .ok (.iload_n 3, 1) := by decide +kernel
theorem dL_law_283 : decode cL_law 283 = .ok (.iconst 1, 1) := by decide +kernel
theorem dL_law_284 : decode cL_law 284 = .ok (.iadd, 1) := by decide +kernel
theorem dL_law_285 : decode cL_law 285 = .ok (.iaload, 1) := by decide +kernel
theorem dL_law_286 : decode cL_law 286 = .ok (.aload_n 0, 1) := by decide +kernel
theorem dL_law_287 : decode cL_law 287 = .ok (.iload_n 3, 1) := by decide +kernel
theorem dL_law_288 : decode cL_law 288 = .ok (.iconst 2, 1) := by decide +kernel
theorem dL_law_289 : decode cL_law 289 = .ok (.iadd, 1) := by decide +kernel
theorem dL_law_290 : decode cL_law 290 = .ok (.iaload, 1) := by decide +kernel
theorem dL_law_291 : decode cL_law 291 = .ok (.aload_n 0, 1) := by decide +kernel
theorem dL_law_292 : decode cL_law 292 = .ok (.iload_n 3, 1) := by decide +kernel
theorem dL_law_293 : decode cL_law 293 = .ok (.iconst 3, 1) := by decide +kernel
theorem dL_law_294 : decode cL_law 294 = .ok (.iadd, 1) := by decide +kernel
theorem dL_law_295 : decode cL_law 295 = .ok (.iaload, 1) := by decide +kernel
theorem dL_law_296 : decode cL_law 296 = .ok (.invokevirtual 35, 3) := by decide +kernel
theorem dL_law_299 : decode cL_law 299 = .ok (.aload_n 2, 1) := by decide +kernel
theorem dL_law_300 : decode cL_law 300 = .ok (.aload_n 0, 1) := by decide +kernel
theorem dL_law_301 : decode cL_law 301 = .ok (.iload_n 3, 1) := by decide +kernel
theorem dL_law_302 : decode cL_law 302 = .ok (.iconst 1, 1) := by decide +kernel
theorem dL_law_303 : decode cL_law 303 = .ok (.iadd, 1) := by decide +kernel
theorem dL_law_304 : decode cL_law 304 = .ok (.iaload, 1) := by decide +kernel
theorem dL_law_305 : decode cL_law 305 = .ok (.aload_n 0, 1) := by decide +kernel
theorem dL_law_306 : decode cL_law 306 = .ok (.iload_n 3, 1) := by decide +kernel
theorem dL_law_307 : decode cL_law 307 = .ok (.iconst 2, 1) := by decide +kernel
theorem dL_law_308 : decode cL_law 308 = .ok (.iadd, 1) := by decide +kernel
theorem dL_law_309 : decode cL_law 309 = .ok (.iaload, 1) := by decide +kernel
theorem dL_law_310 : decode cL_law 310 = .ok (.aload_n 0, 1) := by decide +kernel
theorem dL_law_311 : decode cL_law 311 = .ok (.iload_n 3, 1) := by decide +kernel
theorem dL_law_312 : decode cL_law 312 = .ok (.iconst 3, 1) := by decide +kernel
theorem dL_law_313 : decode cL_law 313 = .ok (.iadd, 1) := by decide +kernel
theorem dL_law_314 : decode cL_law 314 = .ok (.iaload, 1) := by decide +kernel
theorem dL_law_315 : decode cL_law 315 = .ok (.invokevirtual 39, 3) := by decide +kernel
theorem dL_law_318 : decode cL_law 318 = .ok (.if_icmp .eq 761, 3) := by decide +kernel
theorem dL_law_321 : decode cL_law 321 = .ok (.iconst 0, 1) := by decide +kernel
theorem dL_law_322 : decode cL_law 322 = .ok (.ireturn, 1) := by decide +kernel
theorem dL_law_323 : decode cL_law 323 = .ok (.aload_n 1, 1) := by decide +kernel
theorem dL_law_324 : decode cL_law 324 = .ok (.aload_n 0, 1) := by decide +kernel
theorem dL_law_325 : decode cL_law 325 = .ok (.iload_n 3, 1) := by decide +kernel
theorem dL_law_326 : decode cL_law 326 = .ok (.iconst 1, 1) := by decide +kernel
theorem dL_law_327 : decode cL_law 327 = .ok (.iadd, 1) := by decide +kernel
theorem dL_law_328 : decode cL_law 328 = .ok (.iaload, 1) := by decide +kernel
theorem dL_law_329 : decode cL_law 329 = .ok (.aload_n 0, 1) := by decide +kernel
theorem dL_law_330 : decode cL_law 330 = .ok (.iload_n 3, 1) := by decide +kernel
theorem dL_law_331 : decode cL_law 331 = .ok (.iconst 2, 1) := by decide +kernel
theorem dL_law_332 : decode cL_law 332 = .ok (.iadd, 1) := by decide +kernel
theorem dL_law_333 : decode cL_law 333 = .ok (.iaload, 1) := by decide +kernel
theorem dL_law_334 : decode cL_law 334 = .ok (.invokevirtual 40, 3) := by decide +kernel
theorem dL_law_337 : decode cL_law 337 = .ok (.aload_n 2, 1) := by decide +kernel
theorem dL_law_338 : decode cL_law 338 = .ok (.aload_n 0, 1) := by decide +kernel
theorem dL_law_339 : decode cL_law 339 = .ok (.iload_n 3, 1) := by decide +kernel
theorem dL_law_340 : decode cL_law 340 = .ok (.iconst 1, 1) := by decide +kernel
theorem dL_law_341 : decode cL_law 341 = .ok (.iadd, 1) := by decide +kernel
theorem dL_law_342 : decode cL_law 342 = .ok (.iaload, 1) := by decide +kernel
theorem dL_law_343 : decode cL_law 343 = .ok (.aload_n 0, 1) := by decide +kernel
theorem dL_law_344 : decode cL_law 344 = .ok (.iload_n 3, 1) := by decide +kernel
theorem dL_law_345 : decode cL_law 345 = .ok (.iconst 2, 1) := by decide +kernel
theorem dL_law_346 : decode cL_law 346 = .ok (.iadd, 1) := by decide +kernel
theorem dL_law_347 : decode cL_law 347 = .ok (.iaload, 1) := by decide +kernel
theorem dL_law_348 : decode cL_law 348 = .ok (.invokevirtual 43, 3) := by decide +kernel
theorem dL_law_351 : decode cL_law 351 = .ok (.if_icmp .eq 728, 3) := by decide +kernel
theorem dL_law_354 : decode cL_law 354 = .ok (.iconst 0, 1) := by decide +kernel
theorem dL_law_355 : decode cL_law 355 = .ok (.ireturn, 1) := by decide +kernel
theorem dL_law_356 : decode cL_law 356 = .ok (.aload_n 1, 1) := by decide +kernel
theorem dL_law_357 : decode cL_law 357 = .ok (.aload_n 0, 1) := by decide +kernel
theorem dL_law_358 : decode cL_law 358 = .ok (.iload_n 3, 1) := by decide +kernel
theorem dL_law_359 : decode cL_law 359 = .ok (.iconst 1, 1) := by decide +kernel
theorem dL_law_360 : decode cL_law 360 = .ok (.iadd, 1) := by decide +kernel
theorem dL_law_361 : decode cL_law 361 = .ok (.iaload, 1) := by decide +kernel
theorem dL_law_362 : decode cL_law 362 = .ok (.aload_n 0, 1) := by decide +kernel
theorem dL_law_363 : decode cL_law 363 = .ok (.iload_n 3, 1) := by decide +kernel
theorem dL_law_364 : decode cL_law 364 = .ok (.iconst 2, 1) := by decide +kernel
theorem dL_law_365 : decode cL_law 365 = .ok (.iadd, 1) := by decide +kernel
theorem dL_law_366 : decode cL_law 366 = .ok (.iaload, 1) := by decide +kernel
theorem dL_law_367 : decode cL_law 367 = .ok (.invokevirtual 44, 3) := by decide +kernel
theorem dL_law_370 : decode cL_law 370 = .ok (.aload_n 2, 1) := by decide +kernel
theorem dL_law_371 : decode cL_law 371 = .ok (.aload_n 0, 1) := by decide +kernel
theorem dL_law_372 : decode cL_law 372 = .ok (.iload_n 3, 1) := by decide +kernel
theorem dL_law_373 : decode cL_law 373 = .ok (.iconst 1, 1) := by decide +kernel
theorem dL_law_374 : decode cL_law 374 = .ok (.iadd, 1) := by decide +kernel
theorem dL_law_375 : decode cL_law 375 = .ok (.iaload, 1) := by decide +kernel
theorem dL_law_376 : decode cL_law 376 = .ok (.aload_n 0, 1) := by decide +kernel
theorem dL_law_377 : decode cL_law 377 = .ok (.iload_n 3, 1) := by decide +kernel
theorem dL_law_378 : decode cL_law 378 = .ok (.iconst 2, 1) := by decide +kernel
theorem dL_law_379 : decode cL_law 379 = .ok (.iadd, 1) := by decide +kernel
theorem dL_law_380 : decode cL_law 380 = .ok (.iaload, 1) := by decide +kernel
theorem dL_law_381 : decode cL_law 381 = .ok (.invokevirtual 47, 3) := by decide +kernel
theorem dL_law_384 : decode cL_law 384 = .ok (.if_icmp .eq 695, 3) := by decide +kernel
theorem dL_law_387 : decode cL_law 387 = .ok (.iconst 0, 1) := by decide +kernel
theorem dL_law_388 : decode cL_law 388 = .ok (.ireturn, 1) := by decide +kernel
theorem dL_law_389 : decode cL_law 389 = .ok (.aload_n 1, 1) := by decide +kernel
theorem dL_law_390 : decode cL_law 390 = .ok (.aload_n 0, 1) := by decide +kernel
theorem dL_law_391 : decode cL_law 391 = .ok (.iload_n 3, 1) := by decide +kernel
theorem dL_law_392 : decode cL_law 392 = .ok (.iconst 1, 1) := by decide +kernel
theorem dL_law_393 : decode cL_law 393 = .ok (.iadd, 1) := by decide +kernel
theorem dL_law_394 : decode cL_law 394 = .ok (.iaload, 1) := by decide +kernel
theorem dL_law_395 : decode cL_law 395 = .ok (.aload_n 0, 1) := by decide +kernel
theorem dL_law_396 : decode cL_law 396 = .ok (.iload_n 3, 1) := by decide +kernel
theorem dL_law_397 : decode cL_law 397 = .ok (.iconst 2, 1) := by decide +kernel
theorem dL_law_398 : decode cL_law 398 = .ok (.iadd, 1) := by decide +kernel
theorem dL_law_399 : decode cL_law 399 = .ok (.iaload, 1) := by decide +kernel
theorem dL_law_400 : decode cL_law 400 = .ok (.invokevirtual 48, 3) := by decide +kernel
theorem dL_law_403 : decode cL_law 403 = .ok (.aload_n 2, 1) := by decide +kernel
theorem dL_law_404 : decode cL_law 404 = .ok (.aload_n 0, 1) := by decide +kernel
theorem dL_law_405 : decode cL_law 405 = .ok (.iload_n 3, 1) := by decide +kernel
theorem dL_law_406 : decode cL_law 406 = .ok (.iconst 1, 1) := by decide +kernel
theorem dL_law_407 : decode cL_law 407 = .ok (.iadd, 1) := by decide +kernel
theorem dL_law_408 : decode cL_law 408 = .ok (.iaload, 1) := by decide +kernel
theorem dL_law_409 : decode cL_law 409 = .ok (.aload_n 0, 1) := by decide +kernel
theorem dL_law_410 : decode cL_law 410 = .ok (.iload_n 3, 1) := by decide +kernel
theorem dL_law_411 : decode cL_law 411 = .ok (.iconst 2, 1) := by decide +kernel
theorem dL_law_412 : decode cL_law 412 = .ok (.iadd, 1) := by decide +kernel
theorem dL_law_413 : decode cL_law 413 = .ok (.iaload, 1) := by decide +kernel
theorem dL_law_414 : decode cL_law 414 = .ok (.invokevirtual 51, 3) := by decide +kernel
theorem dL_law_417 : decode cL_law 417 = .ok (.if_icmp .eq 662, 3) := by decide +kernel
theorem dL_law_420 : decode cL_law 420 = .ok (.iconst 0, 1) := by decide +kernel
theorem dL_law_421 : decode cL_law 421 = .ok (.ireturn, 1) := by decide +kernel
theorem dL_law_422 : decode cL_law 422 = .ok (.aload_n 1, 1) := by decide +kernel
theorem dL_law_423 : decode cL_law 423 = .ok (.aload_n 0, 1) := by decide +kernel
theorem dL_law_424 : decode cL_law 424 = .ok (.iload_n 3, 1) := by decide +kernel
theorem dL_law_425 : decode cL_law 425 = .ok (.iconst 1, 1) := by decide +kernel
theorem dL_law_426 : decode cL_law 426 = .ok (.iadd, 1) := by decide +kernel
theorem dL_law_427 : decode cL_law 427 = .ok (.iaload, 1) := by decide +kernel
theorem dL_law_428 : decode cL_law 428 = .ok (.aload_n 0, 1) := by decide +kernel
theorem dL_law_429 : decode cL_law 429 = .ok (.iload_n 3, 1) := by decide +kernel
theorem dL_law_430 : decode cL_law 430 = .ok (.iconst 2, 1) := by decide +kernel
theorem dL_law_431 : decode cL_law 431 = .ok (.iadd, 1) := by decide +kernel
theorem dL_law_432 : decode cL_law 432 = .ok (.iaload, 1) := by decide +kernel
theorem dL_law_433 : decode cL_law 433 = .ok (.aload_n 0, 1) := by decide +kernel
theorem dL_law_434 : decode cL_law 434 = .ok (.iload_n 3, 1) := by decide +kernel
theorem dL_law_435 : decode cL_law 435 = .ok (.iconst 3, 1) := by decide +kernel
theorem dL_law_436 : decode cL_law 436 = .ok (.iadd, 1) := by decide +kernel
theorem dL_law_437 : decode cL_law 437 = .ok (.iaload, 1) := by decide +kernel
theorem dL_law_438 : decode cL_law 438 = .ok (.aload_n 0, 1) := by decide +kernel
theorem dL_law_439 : decode cL_law 439 = .ok (.iload_n 3, 1) := by decide +kernel
theorem dL_law_440 : decode cL_law 440 = .ok (.iconst 4, 1) := by decide +kernel
theorem dL_law_441 : decode cL_law 441 = .ok (.iadd, 1) := by decide +kernel
theorem dL_law_442 : decode cL_law 442 = .ok (.iaload, 1) := by decide +kernel
theorem dL_law_443 : decode cL_law 443 = .ok (.invokevirtual 52, 3) := by decide +kernel
theorem dL_law_446 : decode cL_law 446 = .ok (.aload_n 2, 1) := by decide +kernel
theorem dL_law_447 : decode cL_law 447 = .ok (.aload_n 0, 1) := by decide +kernel
theorem dL_law_448 : decode cL_law 448 = .ok (.iload_n 3, 1) := by decide +kernel
theorem dL_law_449 : decode cL_law 449 = .ok (.iconst 1, 1) := by decide +kernel
theorem dL_law_450 : decode cL_law 450 = .ok (.iadd, 1) := by decide +kernel
theorem dL_law_451 : decode cL_law 451 = .ok (.iaload, 1) := by decide +kernel
theorem dL_law_452 : decode cL_law 452 = .ok (.aload_n 0, 1) := by decide +kernel
theorem dL_law_453 : decode cL_law 453 = .ok (.iload_n 3, 1) := by decide +kernel
theorem dL_law_454 : decode cL_law 454 = .ok (.iconst 2, 1) := by decide +kernel
theorem dL_law_455 : decode cL_law 455 = .ok (.iadd, 1) := by decide +kernel
theorem dL_law_456 : decode cL_law 456 = .ok (.iaload, 1) := by decide +kernel
theorem dL_law_457 : decode cL_law 457 = .ok (.aload_n 0, 1) := by decide +kernel
theorem dL_law_458 : decode cL_law 458 = .ok (.iload_n 3, 1) := by decide +kernel
theorem dL_law_459 : decode cL_law 459 = .ok (.iconst 3, 1) := by decide +kernel
theorem dL_law_460 : decode cL_law 460 = .ok (.iadd, 1) := by decide +kernel
theorem dL_law_461 : decode cL_law 461 = .ok (.iaload, 1) := by decide +kernel
theorem dL_law_462 : decode cL_law 462 = .ok (.aload_n 0, 1) := by decide +kernel
theorem dL_law_463 : decode cL_law 463 = .ok (.iload_n 3, 1) := by decide +kernel
theorem dL_law_464 : decode cL_law 464 = .ok (.iconst 4, 1) := by decide +kernel
theorem dL_law_465 : decode cL_law 465 = .ok (.iadd, 1) := by decide +kernel
theorem dL_law_466 : decode cL_law 466 = .ok (.iaload, 1) := by decide +kernel
theorem dL_law_467 : decode cL_law 467 = .ok (.invokevirtual 56, 3) := by decide +kernel
theorem dL_law_470 : decode cL_law 470 = .ok (.if_icmp .eq 609, 3) := by decide +kernel
theorem dL_law_473 : decode cL_law 473 = .ok (.iconst 0, 1) := by decide +kernel
theorem dL_law_474 : decode cL_law 474 = .ok (.ireturn, 1) := by decide +kernel
theorem dL_law_475 : decode cL_law 475 = .ok (.aload_n 1, 1) := by decide +kernel
theorem dL_law_476 : decode cL_law 476 = .ok (.aload_n 0, 1) := by decide +kernel
theorem dL_law_477 : decode cL_law 477 = .ok (.iload_n 3, 1) := by decide +kernel
theorem dL_law_478 : decode cL_law 478 = .ok (.iconst 1, 1) := by decide +kernel
theorem dL_law_479 : decode cL_law 479 = .ok (.iadd, 1) := by decide +kernel
theorem dL_law_480 : decode cL_law 480 = .ok (.iaload, 1) := by decide +kernel
theorem dL_law_481 : decode cL_law 481 = .ok (.aload_n 0, 1) := by decide +kernel
theorem dL_law_482 : decode cL_law 482 = .ok (.iload_n 3, 1) := by decide +kernel
theorem dL_law_483 : decode cL_law 483 = .ok (.iconst 2, 1) := by decide +kernel
theorem dL_law_484 : decode cL_law 484 = .ok (.iadd, 1) := by decide +kernel
theorem dL_law_485 : decode cL_law 485 = .ok (.iaload, 1) := by decide +kernel
theorem dL_law_486 : decode cL_law 486 = .ok (.invokevirtual 57, 3) := by decide +kernel
theorem dL_law_489 : decode cL_law 489 = .ok (.aload_n 2, 1) := by decide +kernel
theorem dL_law_490 : decode cL_law 490 = .ok (.aload_n 0, 1) := by decide +kernel
theorem dL_law_491 : decode cL_law 491 = .ok (.iload_n 3, 1) := by decide +kernel
theorem dL_law_492 : decode cL_law 492 = .ok (.iconst 1, 1) := by decide +kernel
theorem dL_law_493 : decode cL_law 493 = .ok (.iadd, 1) := by decide +kernel
theorem dL_law_494 : decode cL_law 494 = .ok (.iaload, 1) := by decide +kernel
theorem dL_law_495 : decode cL_law 495 = .ok (.aload_n 0, 1) := by decide +kernel
theorem dL_law_496 : decode cL_law 496 = .ok (.iload_n 3, 1) := by decide +kernel
theorem dL_law_497 : decode cL_law 497 = .ok (.iconst 2, 1) := by decide +kernel
theorem dL_law_498 : decode cL_law 498 = .ok (.iadd, 1) := by decide +kernel
theorem dL_law_499 : decode cL_law 499 = .ok (.iaload, 1) := by decide +kernel
theorem dL_law_500 : decode cL_law 500 = .ok (.invokevirtual 60, 3) := by decide +kernel
theorem dL_law_503 : decode cL_law 503 = .ok (.if_icmp .eq 576, 3) := by decide +kernel
theorem dL_law_506 : decode cL_law 506 = .ok (.iconst 0, 1) := by decide +kernel
theorem dL_law_507 : decode cL_law 507 = .ok (.ireturn, 1) := by decide +kernel
theorem dL_law_508 : decode cL_law 508 = .ok (.aload_n 1, 1) := by decide +kernel
theorem dL_law_509 : decode cL_law 509 = .ok (.aload_n 0, 1) := by decide +kernel
theorem dL_law_510 : decode cL_law 510 = .ok (.iload_n 3, 1) := by decide +kernel
theorem dL_law_511 : decode cL_law 511 = .ok (.iconst 1, 1) := by decide +kernel
theorem dL_law_512 : decode cL_law 512 = .ok (.iadd, 1) := by decide +kernel
theorem dL_law_513 : decode cL_law 513 = .ok (.iaload, 1) := by decide +kernel
theorem dL_law_514 : decode cL_law 514 = .ok (.aload_n 0, 1) := by decide +kernel
theorem dL_law_515 : decode cL_law 515 = .ok (.iload_n 3, 1) := by decide +kernel
theorem dL_law_516 : decode cL_law 516 = .ok (.iconst 2, 1) := by decide +kernel
theorem dL_law_517 : decode cL_law 517 = .ok (.iadd, 1) := by decide +kernel
theorem dL_law_518 : decode cL_law 518 = .ok (.iaload, 1) := by decide +kernel
theorem dL_law_519 : decode cL_law 519 = .ok (.aload_n 0, 1) := by decide +kernel
theorem dL_law_520 : decode cL_law 520 = .ok (.iload_n 3, 1) := by decide +kernel
theorem dL_law_521 : decode cL_law 521 = .ok (.iconst 3, 1) := by decide +kernel
theorem dL_law_522 : decode cL_law 522 = .ok (.iadd, 1) := by decide +kernel
theorem dL_law_523 : decode cL_law 523 = .ok (.iaload, 1) := by decide +kernel
theorem dL_law_524 : decode cL_law 524 = .ok (.invokevirtual 61, 3) := by decide +kernel
theorem dL_law_527 : decode cL_law 527 = .ok (.aload_n 2, 1) := by decide +kernel
theorem dL_law_528 : decode cL_law 528 = .ok (.aload_n 0, 1) := by decide +kernel
theorem dL_law_529 : decode cL_law 529 = .ok (.iload_n 3, 1) := by decide +kernel
theorem dL_law_530 : decode cL_law 530 = .ok (.iconst 1, 1) := by decide +kernel
theorem dL_law_531 : decode cL_law 531 = .ok (.iadd, 1) := by decide +kernel
theorem dL_law_532 : decode cL_law 532 = .ok (.iaload, 1) := by decide +kernel
theorem dL_law_533 : decode cL_law 533 = .ok (.aload_n 0, 1) := by decide +kernel
theorem dL_law_534 : decode cL_law 534 = .ok (.iload_n 3, 1) := by decide +kernel
theorem dL_law_535 : decode cL_law 535 = .ok (.iconst 2, 1) := by decide +kernel
theorem dL_law_536 : decode cL_law 536 = .ok (.iadd, 1) := by decide +kernel
theorem dL_law_537 : decode cL_law 537 = .ok (.iaload, 1) := by decide +kernel
theorem dL_law_538 : decode cL_law 538 = .ok (.aload_n 0, 1) := by decide +kernel
theorem dL_law_539 : decode cL_law 539 = .ok (.iload_n 3, 1) := by decide +kernel
theorem dL_law_540 : decode cL_law 540 = .ok (.iconst 3, 1) := by decide +kernel
theorem dL_law_541 : decode cL_law 541 = .ok (.iadd, 1) := by decide +kernel
theorem dL_law_542 : decode cL_law 542 = .ok (.iaload, 1) := by decide +kernel
theorem dL_law_543 : decode cL_law 543 = .ok (.invokevirtual 64, 3) := by decide +kernel
theorem dL_law_546 : decode cL_law 546 = .ok (.if_icmp .eq 533, 3) := by decide +kernel
theorem dL_law_549 : decode cL_law 549 = .ok (.iconst 0, 1) := by decide +kernel
theorem dL_law_550 : decode cL_law 550 = .ok (.ireturn, 1) := by decide +kernel
theorem dL_law_551 : decode cL_law 551 = .ok (.aload_n 1, 1) := by decide +kernel
theorem dL_law_552 : decode cL_law 552 = .ok (.aload_n 0, 1) := by decide +kernel
theorem dL_law_553 : decode cL_law 553 = .ok (.iload_n 3, 1) := by decide +kernel
theorem dL_law_554 : decode cL_law 554 = .ok (.iconst 1, 1) := by decide +kernel
theorem dL_law_555 : decode cL_law 555 = .ok (.iadd, 1) := by decide +kernel
theorem dL_law_556 : decode cL_law 556 = .ok (.iaload, 1) := by decide +kernel
theorem dL_law_557 : decode cL_law 557 = .ok (.aload_n 0, 1) := by decide +kernel
theorem dL_law_558 : decode cL_law 558 = .ok (.iload_n 3, 1) := by decide +kernel
theorem dL_law_559 : decode cL_law 559 = .ok (.iconst 2, 1) := by decide +kernel
theorem dL_law_560 : decode cL_law 560 = .ok (.iadd, 1) := by decide +kernel
theorem dL_law_561 : decode cL_law 561 = .ok (.iaload, 1) := by decide +kernel
theorem dL_law_562 : decode cL_law 562 = .ok (.invokevirtual 65, 3) := by decide +kernel
theorem dL_law_565 : decode cL_law 565 = .ok (.aload_n 2, 1) := by decide +kernel
theorem dL_law_566 : decode cL_law 566 = .ok (.aload_n 0, 1) := by decide +kernel
theorem dL_law_567 : decode cL_law 567 = .ok (.iload_n 3, 1) := by decide +kernel
theorem dL_law_568 : decode cL_law 568 = .ok (.iconst 1, 1) := by decide +kernel
theorem dL_law_569 : decode cL_law 569 = .ok (.iadd, 1) := by decide +kernel
theorem dL_law_570 : decode cL_law 570 = .ok (.iaload, 1) := by decide +kernel
theorem dL_law_571 : decode cL_law 571 = .ok (.aload_n 0, 1) := by decide +kernel
theorem dL_law_572 : decode cL_law 572 = .ok (.iload_n 3, 1) := by decide +kernel
theorem dL_law_573 : decode cL_law 573 = .ok (.iconst 2, 1) := by decide +kernel
theorem dL_law_574 : decode cL_law 574 = .ok (.iadd, 1) := by decide +kernel
theorem dL_law_575 : decode cL_law 575 = .ok (.iaload, 1) := by decide +kernel
theorem dL_law_576 : decode cL_law 576 = .ok (.invokevirtual 68, 3) := by decide +kernel
theorem dL_law_579 : decode cL_law 579 = .ok (.if_icmp .eq 500, 3) := by decide +kernel
theorem dL_law_582 : decode cL_law 582 = .ok (.iconst 0, 1) := by decide +kernel
theorem dL_law_583 : decode cL_law 583 = .ok (.ireturn, 1) := by decide +kernel
theorem dL_law_584 : decode cL_law 584 = .ok (.aload_n 1, 1) := by decide +kernel
theorem dL_law_585 : decode cL_law 585 = .ok (.aload_n 0, 1) := by decide +kernel
theorem dL_law_586 : decode cL_law 586 = .ok (.iload_n 3, 1) := by decide +kernel
theorem dL_law_587 : decode cL_law 587 = .ok (.iconst 1, 1) := by decide +kernel
theorem dL_law_588 : decode cL_law 588 = .ok (.iadd, 1) := by decide +kernel
theorem dL_law_589 : decode cL_law 589 = .ok (.iaload, 1) := by decide +kernel
theorem dL_law_590 : decode cL_law 590 = .ok (.aload_n 0, 1) := by decide +kernel
theorem dL_law_591 : decode cL_law 591 = .ok (.iload_n 3, 1) := by decide +kernel
theorem dL_law_592 : decode cL_law 592 = .ok (.iconst 2, 1) := by decide +kernel
theorem dL_law_593 : decode cL_law 593 = .ok (.iadd, 1) := by decide +kernel
theorem dL_law_594 : decode cL_law 594 = .ok (.iaload, 1) := by decide +kernel
theorem dL_law_595 : decode cL_law 595 = .ok (.invokevirtual 69, 3) := by decide +kernel
theorem dL_law_598 : decode cL_law 598 = .ok (.aload_n 2, 1) := by decide +kernel
theorem dL_law_599 : decode cL_law 599 = .ok (.aload_n 0, 1) := by decide +kernel
theorem dL_law_600 : decode cL_law 600 = .ok (.iload_n 3, 1) := by decide +kernel
theorem dL_law_601 : decode cL_law 601 = .ok (.iconst 1, 1) := by decide +kernel
theorem dL_law_602 : decode cL_law 602 = .ok (.iadd, 1) := by decide +kernel
theorem dL_law_603 : decode cL_law 603 = .ok (.iaload, 1) := by decide +kernel
theorem dL_law_604 : decode cL_law 604 = .ok (.aload_n 0, 1) := by decide +kernel
theorem dL_law_605 : decode cL_law 605 = .ok (.iload_n 3, 1) := by decide +kernel
theorem dL_law_606 : decode cL_law 606 = .ok (.iconst 2, 1) := by decide +kernel
theorem dL_law_607 : decode cL_law 607 = .ok (.iadd, 1) := by decide +kernel
theorem dL_law_608 : decode cL_law 608 = .ok (.iaload, 1) := by decide +kernel
theorem dL_law_609 : decode cL_law 609 = .ok (.invokevirtual 72, 3) := by decide +kernel
theorem dL_law_612 : decode cL_law 612 = .ok (.if_icmp .eq 467, 3) := by decide +kernel
theorem dL_law_615 : decode cL_law 615 = .ok (.iconst 0, 1) := by decide +kernel
theorem dL_law_616 : decode cL_law 616 = .ok (.ireturn, 1) := by decide +kernel
theorem dL_law_617 : decode cL_law 617 = .ok (.aload_n 1, 1) := by decide +kernel
theorem dL_law_618 : decode cL_law 618 = .ok (.aload_n 0, 1) := by decide +kernel
theorem dL_law_619 : decode cL_law 619 = .ok (.iload_n 3, 1) := by decide +kernel
theorem dL_law_620 : decode cL_law 620 = .ok (.iconst 1, 1) := by decide +kernel
theorem dL_law_621 : decode cL_law 621 = .ok (.iadd, 1) := by decide +kernel
theorem dL_law_622 : decode cL_law 622 = .ok (.iaload, 1) := by decide +kernel
theorem dL_law_623 : decode cL_law 623 = .ok (.aload_n 0, 1) := by decide +kernel
theorem dL_law_624 : decode cL_law 624 = .ok (.iload_n 3, 1) := by decide +kernel
theorem dL_law_625 : decode cL_law 625 = .ok (.iconst 2, 1) := by decide +kernel
theorem dL_law_626 : decode cL_law 626 = .ok (.iadd, 1) := by decide +kernel
theorem dL_law_627 : decode cL_law 627 = .ok (.iaload, 1) := by decide +kernel
theorem dL_law_628 : decode cL_law 628 = .ok (.invokevirtual 73, 3) := by decide +kernel
theorem dL_law_631 : decode cL_law 631 = .ok (.aload_n 2, 1) := by decide +kernel
theorem dL_law_632 : decode cL_law 632 = .ok (.aload_n 0, 1) := by decide +kernel
theorem dL_law_633 : decode cL_law 633 = .ok (.iload_n 3, 1) := by decide +kernel
theorem dL_law_634 : decode cL_law 634 = .ok (.iconst 1, 1) := by decide +kernel
theorem dL_law_635 : decode cL_law 635 = .ok (.iadd, 1) := by decide +kernel
theorem dL_law_636 : decode cL_law 636 = .ok (.iaload, 1) := by decide +kernel
theorem dL_law_637 : decode cL_law 637 = .ok (.aload_n 0, 1) := by decide +kernel
theorem dL_law_638 : decode cL_law 638 = .ok (.iload_n 3, 1) := by decide +kernel
theorem dL_law_639 : decode cL_law 639 = .ok (.iconst 2, 1) := by decide +kernel
theorem dL_law_640 : decode cL_law 640 = .ok (.iadd, 1) := by decide +kernel
theorem dL_law_641 : decode cL_law 641 = .ok (.iaload, 1) := by decide +kernel
theorem dL_law_642 : decode cL_law 642 = .ok (.invokevirtual 76, 3) := by decide +kernel
theorem dL_law_645 : decode cL_law 645 = .ok (.if_icmp .eq 434, 3) := by decide +kernel
theorem dL_law_648 : decode cL_law 648 = .ok (.iconst 0, 1) := by decide +kernel
theorem dL_law_649 : decode cL_law 649 = .ok (.ireturn, 1) := by decide +kernel
theorem dL_law_650 : decode cL_law 650 = .ok (.aload_n 1, 1) := by decide +kernel
theorem dL_law_651 : decode cL_law 651 = .ok (.aload_n 0, 1) := by decide +kernel
theorem dL_law_652 : decode cL_law 652 = .ok (.iload_n 3, 1) := by decide +kernel
theorem dL_law_653 : decode cL_law 653 = .ok (.iconst 1, 1) := by decide +kernel
theorem dL_law_654 : decode cL_law 654 = .ok (.iadd, 1) := by decide +kernel
theorem dL_law_655 : decode cL_law 655 = .ok (.iaload, 1) := by decide +kernel
theorem dL_law_656 : decode cL_law 656 = .ok (.invokevirtual 77, 3) := by decide +kernel
theorem dL_law_659 : decode cL_law 659 = .ok (.aload_n 2, 1) := by decide +kernel
theorem dL_law_660 : decode cL_law 660 = .ok (.aload_n 0, 1) := by decide +kernel
theorem dL_law_661 : decode cL_law 661 = .ok (.iload_n 3, 1) := by decide +kernel
theorem dL_law_662 : decode cL_law 662 = .ok (.iconst 1, 1) := by decide +kernel
theorem dL_law_663 : decode cL_law 663 = .ok (.iadd, 1) := by decide +kernel
theorem dL_law_664 : decode cL_law 664 = .ok (.iaload, 1) := by decide +kernel
theorem dL_law_665 : decode cL_law 665 = .ok (.invokevirtual 80, 3) := by decide +kernel
theorem dL_law_668 : decode cL_law 668 = .ok (.if_icmp .eq 411, 3) := by decide +kernel
theorem dL_law_671 : decode cL_law 671 = .ok (.iconst 0, 1) := by decide +kernel
theorem dL_law_672 : decode cL_law 672 = .ok (.ireturn, 1) := by decide +kernel
theorem dL_law_673 : decode cL_law 673 = .ok (.aload_n 1, 1) := by decide +kernel
theorem dL_law_674 : decode cL_law 674 = .ok (.invokevirtual 81, 3) := by decide +kernel
theorem dL_law_677 : decode cL_law 677 = .ok (.aload_n 2, 1) := by decide +kernel
theorem dL_law_678 : decode cL_law 678 = .ok (.invokevirtual 84, 3) := by decide +kernel
theorem dL_law_681 : decode cL_law 681 = .ok (.if_icmp .eq 398, 3) := by decide +kernel
theorem dL_law_684 : decode cL_law 684 = .ok (.iconst 0, 1) := by decide +kernel
theorem dL_law_685 : decode cL_law 685 = .ok (.ireturn, 1) := by decide +kernel
theorem dL_law_686 : decode cL_law 686 = .ok (.aload_n 1, 1) := by decide +kernel
theorem dL_law_687 : decode cL_law 687 = .ok (.aload_n 0, 1) := by decide +kernel
theorem dL_law_688 : decode cL_law 688 = .ok (.iload_n 3, 1) := by decide +kernel
theorem dL_law_689 : decode cL_law 689 = .ok (.iconst 1, 1) := by decide +kernel
theorem dL_law_690 : decode cL_law 690 = .ok (.iadd, 1) := by decide +kernel
theorem dL_law_691 : decode cL_law 691 = .ok (.iaload, 1) := by decide +kernel
theorem dL_law_692 : decode cL_law 692 = .ok (.aload_n 0, 1) := by decide +kernel
theorem dL_law_693 : decode cL_law 693 = .ok (.iload_n 3, 1) := by decide +kernel
theorem dL_law_694 : decode cL_law 694 = .ok (.iconst 2, 1) := by decide +kernel
theorem dL_law_695 : decode cL_law 695 = .ok (.iadd, 1) := by decide +kernel
theorem dL_law_696 : decode cL_law 696 = .ok (.iaload, 1) := by decide +kernel
theorem dL_law_697 : decode cL_law 697 = .ok (.ifCond .eq 7, 3) := by decide +kernel
theorem dL_law_700 : decode cL_law 700 = .ok (.iconst 1, 1) := by decide +kernel
theorem dL_law_701 : decode cL_law 701 = .ok (.goto 4, 3) := by decide +kernel
theorem dL_law_704 : decode cL_law 704 = .ok (.iconst 0, 1) := by decide +kernel
theorem dL_law_705 : decode cL_law 705 = .ok (.aload_n 0, 1) := by decide +kernel
theorem dL_law_706 : decode cL_law 706 = .ok (.iload_n 3, 1) := by decide +kernel
theorem dL_law_707 : decode cL_law 707 = .ok (.iconst 3, 1) := by decide +kernel
theorem dL_law_708 : decode cL_law 708 = .ok (.iadd, 1) := by decide +kernel
theorem dL_law_709 : decode cL_law 709 = .ok (.iaload, 1) := by decide +kernel
theorem dL_law_710 : decode cL_law 710 = .ok (.invokevirtual 85, 3) := by decide +kernel
theorem dL_law_713 : decode cL_law 713 = .ok (.aload_n 2, 1) := by decide +kernel
theorem dL_law_714 : decode cL_law 714 = .ok (.aload_n 0, 1) := by decide +kernel
theorem dL_law_715 : decode cL_law 715 = .ok (.iload_n 3, 1) := by decide +kernel
theorem dL_law_716 : decode cL_law 716 = .ok (.iconst 1, 1) := by decide +kernel
theorem dL_law_717 : decode cL_law 717 = .ok (.iadd, 1) := by decide +kernel
theorem dL_law_718 : decode cL_law 718 = .ok (.iaload, 1) := by decide +kernel
theorem dL_law_719 : decode cL_law 719 = .ok (.aload_n 0, 1) := by decide +kernel
theorem dL_law_720 : decode cL_law 720 = .ok (.iload_n 3, 1) := by decide +kernel
theorem dL_law_721 : decode cL_law 721 = .ok (.iconst 2, 1) := by decide +kernel
theorem dL_law_722 : decode cL_law 722 = .ok (.iadd, 1) := by decide +kernel
theorem dL_law_723 : decode cL_law 723 = .ok (.iaload, 1) := by decide +kernel
theorem dL_law_724 : decode cL_law 724 = .ok (.ifCond .eq 7, 3) := by decide +kernel
theorem dL_law_727 : decode cL_law 727 = .ok (.iconst 1, 1) := by decide +kernel
theorem dL_law_728 : decode cL_law 728 = .ok (.goto 4, 3) := by decide +kernel
theorem dL_law_731 : decode cL_law 731 = .ok (.iconst 0, 1) := by decide +kernel
theorem dL_law_732 : decode cL_law 732 = .ok (.aload_n 0, 1) := by decide +kernel
theorem dL_law_733 : decode cL_law 733 = .ok (.iload_n 3, 1) := by decide +kernel
theorem dL_law_734 : decode cL_law 734 = .ok (.iconst 3, 1) := by decide +kernel
theorem dL_law_735 : decode cL_law 735 = .ok (.iadd, 1) := by decide +kernel
theorem dL_law_736 : decode cL_law 736 = .ok (.iaload, 1) := by decide +kernel
theorem dL_law_737 : decode cL_law 737 = .ok (.invokevirtual 89, 3) := by decide +kernel
theorem dL_law_740 : decode cL_law 740 = .ok (.if_icmp .eq 339, 3) := by decide +kernel
theorem dL_law_743 : decode cL_law 743 = .ok (.iconst 0, 1) := by decide +kernel
theorem dL_law_744 : decode cL_law 744 = .ok (.ireturn, 1) := by decide +kernel
theorem dL_law_745 : decode cL_law 745 = .ok (.aload_n 1, 1) := by decide +kernel
theorem dL_law_746 : decode cL_law 746 = .ok (.aload_n 0, 1) := by decide +kernel
theorem dL_law_747 : decode cL_law 747 = .ok (.iload_n 3, 1) := by decide +kernel
theorem dL_law_748 : decode cL_law 748 = .ok (.iconst 1, 1) := by decide +kernel
theorem dL_law_749 : decode cL_law 749 = .ok (.iadd, 1) := by decide +kernel
theorem dL_law_750 : decode cL_law 750 = .ok (.iaload, 1) := by decide +kernel
theorem dL_law_751 : decode cL_law 751 = .ok (.aload_n 0, 1) := by decide +kernel
theorem dL_law_752 : decode cL_law 752 = .ok (.iload_n 3, 1) := by decide +kernel
theorem dL_law_753 : decode cL_law 753 = .ok (.iconst 2, 1) := by decide +kernel
theorem dL_law_754 : decode cL_law 754 = .ok (.iadd, 1) := by decide +kernel
theorem dL_law_755 : decode cL_law 755 = .ok (.iaload, 1) := by decide +kernel
theorem dL_law_756 : decode cL_law 756 = .ok (.invokevirtual 90, 3) := by decide +kernel
theorem dL_law_759 : decode cL_law 759 = .ok (.aload_n 2, 1) := by decide +kernel
theorem dL_law_760 : decode cL_law 760 = .ok (.aload_n 0, 1) := by decide +kernel
theorem dL_law_761 : decode cL_law 761 = .ok (.iload_n 3, 1) := by decide +kernel
theorem dL_law_762 : decode cL_law 762 = .ok (.iconst 1, 1) := by decide +kernel
theorem dL_law_763 : decode cL_law 763 = .ok (.iadd, 1) := by decide +kernel
theorem dL_law_764 : decode cL_law 764 = .ok (.iaload, 1) := by decide +kernel
theorem dL_law_765 : decode cL_law 765 = .ok (.aload_n 0, 1) := by decide +kernel
theorem dL_law_766 : decode cL_law 766 = .ok (.iload_n 3, 1) := by decide +kernel
theorem dL_law_767 : decode cL_law 767 = .ok (.iconst 2, 1) := by decide +kernel
theorem dL_law_768 : decode cL_law 768 = .ok (.iadd, 1) := by decide +kernel
theorem dL_law_769 : decode cL_law 769 = .ok (.iaload, 1) := by decide +kernel
theorem dL_law_770 : decode cL_law 770 = .ok (.invokevirtual 93, 3) := by decide +kernel
theorem dL_law_773 : decode cL_law 773 = .ok (.if_icmp .eq 306, 3) := by decide +kernel
theorem dL_law_776 : decode cL_law 776 = .ok (.iconst 0, 1) := by decide +kernel
theorem dL_law_777 : decode cL_law 777 = .ok (.ireturn, 1) := by decide +kernel
theorem dL_law_778 : decode cL_law 778 = .ok (.aload_n 1, 1) := by decide +kernel
theorem dL_law_779 : decode cL_law 779 = .ok (.aload_n 0, 1) := by decide +kernel
theorem dL_law_780 : decode cL_law 780 = .ok (.iload_n 3, 1) := by decide +kernel
theorem dL_law_781 : decode cL_law 781 = .ok (.iconst 1, 1) := by decide +kernel
theorem dL_law_782 : decode cL_law 782 = .ok (.iadd, 1) := by decide +kernel
theorem dL_law_783 : decode cL_law 783 = .ok (.iaload, 1) := by decide +kernel
theorem dL_law_784 : decode cL_law 784 = .ok (.aload_n 0, 1) := by decide +kernel
theorem dL_law_785 : decode cL_law 785 = .ok (.iload_n 3, 1) := by decide +kernel
theorem dL_law_786 : decode cL_law 786 = .ok (.iconst 2, 1) := by decide +kernel
theorem dL_law_787 : decode cL_law 787 = .ok (.iadd, 1) := by decide +kernel
theorem dL_law_788 : decode cL_law 788 = .ok (.iaload, 1) := by decide +kernel
theorem dL_law_789 : decode cL_law 789 = .ok (.aload_n 0, 1) := by decide +kernel
theorem dL_law_790 : decode cL_law 790 = .ok (.iload_n 3, 1) := by decide +kernel
theorem dL_law_791 : decode cL_law 791 = .ok (.iconst 3, 1) := by decide +kernel
theorem dL_law_792 : decode cL_law 792 = .ok (.iadd, 1) := by decide +kernel
theorem dL_law_793 : decode cL_law 793 = .ok (.iaload, 1) := by decide +kernel
theorem dL_law_794 : decode cL_law 794 = .ok (.invokevirtual 94, 3) := by decide +kernel
theorem dL_law_797 : decode cL_law 797 = .ok (.aload_n 2, 1) := by decide +kernel
theorem dL_law_798 : decode cL_law 798 = .ok (.aload_n 0, 1) := by decide +kernel
theorem dL_law_799 : decode cL_law 799 = .ok (.iload_n 3, 1) := by decide +kernel
theorem dL_law_800 : decode cL_law 800 = .ok (.iconst 1, 1) := by decide +kernel
theorem dL_law_801 : decode cL_law 801 = .ok (.iadd, 1) := by decide +kernel
theorem dL_law_802 : decode cL_law 802 = .ok (.iaload, 1) := by decide +kernel
theorem dL_law_803 : decode cL_law 803 = .ok (.aload_n 0, 1) := by decide +kernel
theorem dL_law_804 : decode cL_law 804 = .ok (.iload_n 3, 1) := by decide +kernel
theorem dL_law_805 : decode cL_law 805 = .ok (.iconst 2, 1) := by decide +kernel
theorem dL_law_806 : decode cL_law 806 = .ok (.iadd, 1) := by decide +kernel
theorem dL_law_807 : decode cL_law 807 = .ok (.iaload, 1) := by decide +kernel
theorem dL_law_808 : decode cL_law 808 = .ok (.aload_n 0, 1) := by decide +kernel
theorem dL_law_809 : decode cL_law 809 = .ok (.iload_n 3, 1) := by decide +kernel
theorem dL_law_810 : decode cL_law 810 = .ok (.iconst 3, 1) := by decide +kernel
theorem dL_law_811 : decode cL_law 811 = .ok (.iadd, 1) := by decide +kernel
theorem dL_law_812 : decode cL_law 812 = .ok (.iaload, 1) := by decide +kernel
theorem dL_law_813 : decode cL_law 813 = .ok (.invokevirtual 97, 3) := by decide +kernel
theorem dL_law_816 : decode cL_law 816 = .ok (.if_icmp .eq 263, 3) := by decide +kernel
theorem dL_law_819 : decode cL_law 819 = .ok (.iconst 0, 1) := by decide +kernel
theorem dL_law_820 : decode cL_law 820 = .ok (.ireturn, 1) := by decide +kernel
theorem dL_law_821 : decode cL_law 821 = .ok (.aload_n 1, 1) := by decide +kernel
theorem dL_law_822 : decode cL_law 822 = .ok (.aload_n 0, 1) := by decide +kernel
theorem dL_law_823 : decode cL_law 823 = .ok (.iload_n 3, 1) := by decide +kernel
theorem dL_law_824 : decode cL_law 824 = .ok (.iconst 1, 1) := by decide +kernel
theorem dL_law_825 : decode cL_law 825 = .ok (.iadd, 1) := by decide +kernel
theorem dL_law_826 : decode cL_law 826 = .ok (.iaload, 1) := by decide +kernel
theorem dL_law_827 : decode cL_law 827 = .ok (.aload_n 0, 1) := by decide +kernel
theorem dL_law_828 : decode cL_law 828 = .ok (.iload_n 3, 1) := by decide +kernel
theorem dL_law_829 : decode cL_law 829 = .ok (.iconst 2, 1) := by decide +kernel
theorem dL_law_830 : decode cL_law 830 = .ok (.iadd, 1) := by decide +kernel
theorem dL_law_831 : decode cL_law 831 = .ok (.iaload, 1) := by decide +kernel
theorem dL_law_832 : decode cL_law 832 = .ok (.aload_n 0, 1) := by decide +kernel
theorem dL_law_833 : decode cL_law 833 = .ok (.iload_n 3, 1) := by decide +kernel
theorem dL_law_834 : decode cL_law 834 = .ok (.iconst 3, 1) := by decide +kernel
theorem dL_law_835 : decode cL_law 835 = .ok (.iadd, 1) := by decide +kernel
theorem dL_law_836 : decode cL_law 836 = .ok (.iaload, 1) := by decide +kernel
theorem dL_law_837 : decode cL_law 837 = .ok (.invokevirtual 98, 3) := by decide +kernel
theorem dL_law_840 : decode cL_law 840 = .ok (.aload_n 2, 1) := by decide +kernel
theorem dL_law_841 : decode cL_law 841 = .ok (.aload_n 0, 1) := by decide +kernel
theorem dL_law_842 : decode cL_law 842 = .ok (.iload_n 3, 1) := by decide +kernel
theorem dL_law_843 : decode cL_law 843 = .ok (.iconst 1, 1) := by decide +kernel
theorem dL_law_844 : decode cL_law 844 = .ok (.iadd, 1) := by decide +kernel
theorem dL_law_845 : decode cL_law 845 = .ok (.iaload, 1) := by decide +kernel
theorem dL_law_846 : decode cL_law 846 = .ok (.aload_n 0, 1) := by decide +kernel
theorem dL_law_847 : decode cL_law 847 = .ok (.iload_n 3, 1) := by decide +kernel
theorem dL_law_848 : decode cL_law 848 = .ok (.iconst 2, 1) := by decide +kernel
theorem dL_law_849 : decode cL_law 849 = .ok (.iadd, 1) := by decide +kernel
theorem dL_law_850 : decode cL_law 850 = .ok (.iaload, 1) := by decide +kernel
theorem dL_law_851 : decode cL_law 851 = .ok (.aload_n 0, 1) := by decide +kernel
theorem dL_law_852 : decode cL_law 852 = .ok (.iload_n 3, 1) := by decide +kernel
theorem dL_law_853 : decode cL_law 853 = .ok (.iconst 3, 1) := by decide +kernel
theorem dL_law_854 : decode cL_law 854 = .ok (.iadd, 1) := by decide +kernel
theorem dL_law_855 : decode cL_law 855 = .ok (.iaload, 1) := by decide +kernel
theorem dL_law_856 : decode cL_law 856 = .ok (.invokevirtual 101, 3) := by decide +kernel
theorem dL_law_859 : decode cL_law 859 = .ok (.if_icmp .eq 220, 3) := by decide +kernel
theorem dL_law_862 : decode cL_law 862 = .ok (.iconst 0, 1) := by decide +kernel
theorem dL_law_863 : decode cL_law 863 = .ok (.ireturn, 1) := by decide +kernel
theorem dL_law_864 : decode cL_law 864 = .ok (.aload_n 1, 1) := by decide +kernel
theorem dL_law_865 : decode cL_law 865 = .ok (.aload_n 0, 1) := by decide +kernel
theorem dL_law_866 : decode cL_law 866 = .ok (.iload_n 3, 1) := by decide +kernel
theorem dL_law_867 : decode cL_law 867 = .ok (.iconst 1, 1) := by decide +kernel
theorem dL_law_868 : decode cL_law 868 = .ok (.iadd, 1) := by decide +kernel
theorem dL_law_869 : decode cL_law 869 = .ok (.iaload, 1) := by decide +kernel
theorem dL_law_870 : decode cL_law 870 = .ok (.aload_n 0, 1) := by decide +kernel
theorem dL_law_871 : decode cL_law 871 = .ok (.iload_n 3, 1) := by decide +kernel
theorem dL_law_872 : decode cL_law 872 = .ok (.iconst 2, 1) := by decide +kernel
theorem dL_law_873 : decode cL_law 873 = .ok (.iadd, 1) := by decide +kernel
theorem dL_law_874 : decode cL_law 874 = .ok (.iaload, 1) := by decide +kernel
theorem dL_law_875 : decode cL_law 875 = .ok (.invokevirtual 102, 3) := by decide +kernel
theorem dL_law_878 : decode cL_law 878 = .ok (.aload_n 2, 1) := by decide +kernel
theorem dL_law_879 : decode cL_law 879 = .ok (.aload_n 0, 1) := by decide +kernel
theorem dL_law_880 : decode cL_law 880 = .ok (.iload_n 3, 1) := by decide +kernel
theorem dL_law_881 : decode cL_law 881 = .ok (.iconst 1, 1) := by decide +kernel
theorem dL_law_882 : decode cL_law 882 = .ok (.iadd, 1) := by decide +kernel
theorem dL_law_883 : decode cL_law 883 = .ok (.iaload, 1) := by decide +kernel
theorem dL_law_884 : decode cL_law 884 = .ok (.aload_n 0, 1) := by decide +kernel
theorem dL_law_885 : decode cL_law 885 = .ok (.iload_n 3, 1) := by decide +kernel
theorem dL_law_886 : decode cL_law 886 = .ok (.iconst 2, 1) := by decide +kernel
theorem dL_law_887 : decode cL_law 887 = .ok (.iadd, 1) := by decide +kernel
theorem dL_law_888 : decode cL_law 888 = .ok (.iaload, 1) := by decide +kernel
theorem dL_law_889 : decode cL_law 889 = .ok (.invokevirtual 105, 3) := by decide +kernel
theorem dL_law_892 : decode cL_law 892 = .ok (.if_icmp .eq 187, 3) := by decide +kernel
theorem dL_law_895 : decode cL_law 895 = .ok (.iconst 0, 1) := by decide +kernel
theorem dL_law_896 : decode cL_law 896 = .ok (.ireturn, 1) := by decide +kernel
theorem dL_law_897 : decode cL_law 897 = .ok (.aload_n 1, 1) := by decide +kernel
theorem dL_law_898 : decode cL_law 898 = .ok (.aload_n 0, 1) := by decide +kernel
theorem dL_law_899 : decode cL_law 899 = .ok (.iload_n 3, 1) := by decide +kernel
theorem dL_law_900 : decode cL_law 900 = .ok (.iconst 1, 1) := by decide +kernel
theorem dL_law_901 : decode cL_law 901 = .ok (.iadd, 1) := by decide +kernel
theorem dL_law_902 : decode cL_law 902 = .ok (.iaload, 1) := by decide +kernel
theorem dL_law_903 : decode cL_law 903 = .ok (.aload_n 0, 1) := by decide +kernel
theorem dL_law_904 : decode cL_law 904 = .ok (.iload_n 3, 1) := by decide +kernel
theorem dL_law_905 : decode cL_law 905 = .ok (.iconst 2, 1) := by decide +kernel
theorem dL_law_906 : decode cL_law 906 = .ok (.iadd, 1) := by decide +kernel
theorem dL_law_907 : decode cL_law 907 = .ok (.iaload, 1) := by decide +kernel
theorem dL_law_908 : decode cL_law 908 = .ok (.aload_n 0, 1) := by decide +kernel
theorem dL_law_909 : decode cL_law 909 = .ok (.iload_n 3, 1) := by decide +kernel
theorem dL_law_910 : decode cL_law 910 = .ok (.iconst 3, 1) := by decide +kernel
theorem dL_law_911 : decode cL_law 911 = .ok (.iadd, 1) := by decide +kernel
theorem dL_law_912 : decode cL_law 912 = .ok (.iaload, 1) := by decide +kernel
theorem dL_law_913 : decode cL_law 913 = .ok (.invokevirtual 106, 3) := by decide +kernel
theorem dL_law_916 : decode cL_law 916 = .ok (.aload_n 2, 1) := by decide +kernel
theorem dL_law_917 : decode cL_law 917 = .ok (.aload_n 0, 1) := by decide +kernel
theorem dL_law_918 : decode cL_law 918 = .ok (.iload_n 3, 1) := by decide +kernel
theorem dL_law_919 : decode cL_law 919 = .ok (.iconst 1, 1) := by decide +kernel
theorem dL_law_920 : decode cL_law 920 = .ok (.iadd, 1) := by decide +kernel
theorem dL_law_921 : decode cL_law 921 = .ok (.iaload, 1) := by decide +kernel
theorem dL_law_922 : decode cL_law 922 = .ok (.aload_n 0, 1) := by decide +kernel
theorem dL_law_923 : decode cL_law 923 = .ok (.iload_n 3, 1) := by decide +kernel
theorem dL_law_924 : decode cL_law 924 = .ok (.iconst 2, 1) := by decide +kernel
theorem dL_law_925 : decode cL_law 925 = .ok (.iadd, 1) := by decide +kernel
theorem dL_law_926 : decode cL_law 926 = .ok (.iaload, 1) := by decide +kernel
theorem dL_law_927 : decode cL_law 927 = .ok (.aload_n 0, 1) := by decide +kernel
theorem dL_law_928 : decode cL_law 928 = .ok (.iload_n 3, 1) := by decide +kernel
theorem dL_law_929 : decode cL_law 929 = .ok (.iconst 3, 1) := by decide +kernel
theorem dL_law_930 : decode cL_law 930 = .ok (.iadd, 1) := by decide +kernel
theorem dL_law_931 : decode cL_law 931 = .ok (.iaload, 1) := by decide +kernel
theorem dL_law_932 : decode cL_law 932 = .ok (.invokevirtual 109, 3) := by decide +kernel
theorem dL_law_935 : decode cL_law 935 = .ok (.if_icmp .eq 144, 3) := by decide +kernel
theorem dL_law_938 : decode cL_law 938 = .ok (.iconst 0, 1) := by decide +kernel
theorem dL_law_939 : decode cL_law 939 = .ok (.ireturn, 1) := by decide +kernel
theorem dL_law_940 : decode cL_law 940 = .ok (.aload_n 1, 1) := by decide +kernel
theorem dL_law_941 : decode cL_law 941 = .ok (.aload_n 0, 1) := by decide +kernel
theorem dL_law_942 : decode cL_law 942 = .ok (.iload_n 3, 1) := by decide +kernel
theorem dL_law_943 : decode cL_law 943 = .ok (.iconst 1, 1) := by decide +kernel
theorem dL_law_944 : decode cL_law 944 = .ok (.iadd, 1) := by decide +kernel
theorem dL_law_945 : decode cL_law 945 = .ok (.iaload, 1) := by decide +kernel
theorem dL_law_946 : decode cL_law 946 = .ok (.aload_n 0, 1) := by decide +kernel
theorem dL_law_947 : decode cL_law 947 = .ok (.iload_n 3, 1) := by decide +kernel
theorem dL_law_948 : decode cL_law 948 = .ok (.iconst 2, 1) := by decide +kernel
theorem dL_law_949 : decode cL_law 949 = .ok (.iadd, 1) := by decide +kernel
theorem dL_law_950 : decode cL_law 950 = .ok (.iaload, 1) := by decide +kernel
theorem dL_law_951 : decode cL_law 951 = .ok (.aload_n 0, 1) := by decide +kernel
theorem dL_law_952 : decode cL_law 952 = .ok (.iload_n 3, 1) := by decide +kernel
theorem dL_law_953 : decode cL_law 953 = .ok (.iconst 3, 1) := by decide +kernel
theorem dL_law_954 : decode cL_law 954 = .ok (.iadd, 1) := by decide +kernel
theorem dL_law_955 : decode cL_law 955 = .ok (.iaload, 1) := by decide +kernel
theorem dL_law_956 : decode cL_law 956 = .ok (.aload_n 0, 1) := by decide +kernel
theorem dL_law_957 : decode cL_law 957 = .ok (.iload_n 3, 1) := by decide +kernel
theorem dL_law_958 : decode cL_law 958 = .ok (.iconst 4, 1) := by decide +kernel
theorem dL_law_959 : decode cL_law 959 = .ok (.iadd, 1) := by decide +kernel
theorem dL_law_960 : decode cL_law 960 = .ok (.iaload, 1) := by decide +kernel
theorem dL_law_961 : decode cL_law 961 = .ok (.invokevirtual 110, 3) := by decide +kernel
theorem dL_law_964 : decode cL_law 964 = .ok (.aload_n 2, 1) := by decide +kernel
theorem dL_law_965 : decode cL_law 965 = .ok (.aload_n 0, 1) := by decide +kernel
theorem dL_law_966 : decode cL_law 966 = .ok (.iload_n 3, 1) := by decide +kernel
theorem dL_law_967 : decode cL_law 967 = .ok (.iconst 1, 1) := by decide +kernel
theorem dL_law_968 : decode cL_law 968 = .ok (.iadd, 1) := by decide +kernel
theorem dL_law_969 : decode cL_law 969 = .ok (.iaload, 1) := by decide +kernel
theorem dL_law_970 : decode cL_law 970 = .ok (.aload_n 0, 1) := by decide +kernel
theorem dL_law_971 : decode cL_law 971 = .ok (.iload_n 3, 1) := by decide +kernel
theorem dL_law_972 : decode cL_law 972 = .ok (.iconst 2, 1) := by decide +kernel
theorem dL_law_973 : decode cL_law 973 = .ok (.iadd, 1) := by decide +kernel
theorem dL_law_974 : decode cL_law 974 = .ok (.iaload, 1) := by decide +kernel
theorem dL_law_975 : decode cL_law 975 = .ok (.aload_n 0, 1) := by decide +kernel
theorem dL_law_976 : decode cL_law 976 = .ok (.iload_n 3, 1) := by decide +kernel
theorem dL_law_977 : decode cL_law 977 = .ok (.iconst 3, 1) := by decide +kernel
theorem dL_law_978 : decode cL_law 978 = .ok (.iadd, 1) := by decide +kernel
theorem dL_law_979 : decode cL_law 979 = .ok (.iaload, 1) := by decide +kernel
theorem dL_law_980 : decode cL_law 980 = .ok (.aload_n 0, 1) := by decide +kernel
theorem dL_law_981 : decode cL_law 981 = .ok (.iload_n 3, 1) := by decide +kernel
theorem dL_law_982 : decode cL_law 982 = .ok (.iconst 4, 1) := by decide +kernel
theorem dL_law_983 : decode cL_law 983 = .ok (.iadd, 1) := by decide +kernel
theorem dL_law_984 : decode cL_law 984 = .ok (.iaload, 1) := by decide +kernel
theorem dL_law_985 : decode cL_law 985 = .ok (.invokevirtual 113, 3) := by decide +kernel
theorem dL_law_988 : decode cL_law 988 = .ok (.if_icmp .eq 91, 3) := by decide +kernel
theorem dL_law_991 : decode cL_law 991 = .ok (.iconst 0, 1) := by decide +kernel
theorem dL_law_992 : decode cL_law 992 = .ok (.ireturn, 1) := by decide +kernel
theorem dL_law_993 : decode cL_law 993 = .ok (.aload_n 1, 1) := by decide +kernel
theorem dL_law_994 : decode cL_law 994 = .ok (.aload_n 0, 1) := by decide +kernel
theorem dL_law_995 : decode cL_law 995 = .ok (.iload_n 3, 1) := by decide +kernel
theorem dL_law_996 : decode cL_law 996 = .ok (.iconst 1, 1) := by decide +kernel
theorem dL_law_997 : decode cL_law 997 = .ok (.iadd, 1) := by decide +kernel
theorem dL_law_998 : decode cL_law 998 = .ok (.iaload, 1) := by decide +kernel
theorem dL_law_999 : decode cL_law 999 = .ok (.aload_n 0, 1) := by decide +kernel
theorem dL_law_1000 : decode cL_law 1000 = .ok (.iload_n 3, 1) := by decide +kernel
theorem dL_law_1001 : decode cL_law 1001 = .ok (.iconst 2, 1) := by decide +kernel
theorem dL_law_1002 : decode cL_law 1002 = .ok (.iadd, 1) := by decide +kernel
theorem dL_law_1003 : decode cL_law 1003 = .ok (.iaload, 1) := by decide +kernel
theorem dL_law_1004 : decode cL_law 1004 = .ok (.aload_n 0, 1) := by decide +kernel
theorem dL_law_1005 : decode cL_law 1005 = .ok (.iload_n 3, 1) := by decide +kernel
theorem dL_law_1006 : decode cL_law 1006 = .ok (.iconst 3, 1) := by decide +kernel
theorem dL_law_1007 : decode cL_law 1007 = .ok (.iadd, 1) := by decide +kernel
theorem dL_law_1008 : decode cL_law 1008 = .ok (.iaload, 1) := by decide +kernel
theorem dL_law_1009 : decode cL_law 1009 = .ok (.aload_n 0, 1) := by decide +kernel
theorem dL_law_1010 : decode cL_law 1010 = .ok (.iload_n 3, 1) := by decide +kernel
theorem dL_law_1011 : decode cL_law 1011 = .ok (.iconst 4, 1) := by decide +kernel
theorem dL_law_1012 : decode cL_law 1012 = .ok (.iadd, 1) := by decide +kernel
theorem dL_law_1013 : decode cL_law 1013 = .ok (.iaload, 1) := by decide +kernel
theorem dL_law_1014 : decode cL_law 1014 = .ok (.invokevirtual 114, 3) := by decide +kernel
theorem dL_law_1017 : decode cL_law 1017 = .ok (.aload_n 2, 1) := by decide +kernel
theorem dL_law_1018 : decode cL_law 1018 = .ok (.aload_n 0, 1) := by decide +kernel
theorem dL_law_1019 : decode cL_law 1019 = .ok (.iload_n 3, 1) := by decide +kernel
theorem dL_law_1020 : decode cL_law 1020 = .ok (.iconst 1, 1) := by decide +kernel
theorem dL_law_1021 : decode cL_law 1021 = .ok (.iadd, 1) := by decide +kernel
theorem dL_law_1022 : decode cL_law 1022 = .ok (.iaload, 1) := by decide +kernel
theorem dL_law_1023 : decode cL_law 1023 = .ok (.aload_n 0, 1) := by decide +kernel
theorem dL_law_1024 : decode cL_law 1024 = .ok (.iload_n 3, 1) := by decide +kernel
theorem dL_law_1025 : decode cL_law 1025 = .ok (.iconst 2, 1) := by decide +kernel
theorem dL_law_1026 : decode cL_law 1026 = .ok (.iadd, 1) := by decide +kernel
theorem dL_law_1027 : decode cL_law 1027 = .ok (.iaload, 1) := by decide +kernel
theorem dL_law_1028 : decode cL_law 1028 = .ok (.aload_n 0, 1) := by decide +kernel
theorem dL_law_1029 : decode cL_law 1029 = .ok (.iload_n 3, 1) := by decide +kernel
theorem dL_law_1030 : decode cL_law 1030 = .ok (.iconst 3, 1) := by decide +kernel
theorem dL_law_1031 : decode cL_law 1031 = .ok (.iadd, 1) := by decide +kernel
theorem dL_law_1032 : decode cL_law 1032 = .ok (.iaload, 1) := by decide +kernel
theorem dL_law_1033 : decode cL_law 1033 = .ok (.aload_n 0, 1) := by decide +kernel
theorem dL_law_1034 : decode cL_law 1034 = .ok (.iload_n 3, 1) := by decide +kernel
theorem dL_law_1035 : decode cL_law 1035 = .ok (.iconst 4, 1) := by decide +kernel
theorem dL_law_1036 : decode cL_law 1036 = .ok (.iadd, 1) := by decide +kernel
theorem dL_law_1037 : decode cL_law 1037 = .ok (.iaload, 1) := by decide +kernel
theorem dL_law_1038 : decode cL_law 1038 = .ok (.invokevirtual 117, 3) := by decide +kernel
theorem dL_law_1041 : decode cL_law 1041 = .ok (.if_icmp .eq 38, 3) := by decide +kernel
theorem dL_law_1044 : decode cL_law 1044 = .ok (.iconst 0, 1) := by decide +kernel
theorem dL_law_1045 : decode cL_law 1045 = .ok (.ireturn, 1) := by decide +kernel
theorem dL_law_1046 : decode cL_law 1046 = .ok (.aload_n 1, 1) := by decide +kernel
theorem dL_law_1047 : decode cL_law 1047 = .ok (.aload_n 0, 1) := by decide +kernel
theorem dL_law_1048 : decode cL_law 1048 = .ok (.iload_n 3, 1) := by decide +kernel
theorem dL_law_1049 : decode cL_law 1049 = .ok (.iconst 1, 1) := by decide +kernel
theorem dL_law_1050 : decode cL_law 1050 = .ok (.iadd, 1) := by decide +kernel
theorem dL_law_1051 : decode cL_law 1051 = .ok (.iaload, 1) := by decide +kernel
theorem dL_law_1052 : decode cL_law 1052 = .ok (.aload_n 0, 1) := by decide +kernel
theorem dL_law_1053 : decode cL_law 1053 = .ok (.iload_n 3, 1) := by decide +kernel
theorem dL_law_1054 : decode cL_law 1054 = .ok (.iconst 2, 1) := by decide +kernel
theorem dL_law_1055 : decode cL_law 1055 = .ok (.iadd, 1) := by decide +kernel
theorem dL_law_1056 : decode cL_law 1056 = .ok (.iaload, 1) := by decide +kernel
theorem dL_law_1057 : decode cL_law 1057 = .ok (.invokevirtual 118, 3) := by decide +kernel
theorem dL_law_1060 : decode cL_law 1060 = .ok (.aload_n 2, 1) := by decide +kernel
theorem dL_law_1061 : decode cL_law 1061 = .ok (.aload_n 0, 1) := by decide +kernel
theorem dL_law_1062 : decode cL_law 1062 = .ok (.iload_n 3, 1) := by decide +kernel
theorem dL_law_1063 : decode cL_law 1063 = .ok (.iconst 1, 1) := by decide +kernel
theorem dL_law_1064 : decode cL_law 1064 = .ok (.iadd, 1) := by decide +kernel
theorem dL_law_1065 : decode cL_law 1065 = .ok (.iaload, 1) := by decide +kernel
theorem dL_law_1066 : decode cL_law 1066 = .ok (.aload_n 0, 1) := by decide +kernel
theorem dL_law_1067 : decode cL_law 1067 = .ok (.iload_n 3, 1) := by decide +kernel
theorem dL_law_1068 : decode cL_law 1068 = .ok (.iconst 2, 1) := by decide +kernel
theorem dL_law_1069 : decode cL_law 1069 = .ok (.iadd, 1) := by decide +kernel
theorem dL_law_1070 : decode cL_law 1070 = .ok (.iaload, 1) := by decide +kernel
theorem dL_law_1071 : decode cL_law 1071 = .ok (.invokevirtual 121, 3) := by decide +kernel
theorem dL_law_1074 : decode cL_law 1074 = .ok (.if_icmp .eq 5, 3) := by decide +kernel
theorem dL_law_1077 : decode cL_law 1077 = .ok (.iconst 0, 1) := by decide +kernel
theorem dL_law_1078 : decode cL_law 1078 = .ok (.ireturn, 1) := by decide +kernel
theorem dL_law_1079 : decode cL_law 1079 = .ok (.iinc 3 5, 3) := by decide +kernel
theorem dL_law_1082 : decode cL_law 1082 = .ok (.goto (-1064), 3) := by decide +kernel
theorem dL_law_1085 : decode cL_law 1085 = .ok (.iconst 1, 1) := by decide +kernel
theorem dL_law_1086 : decode cL_law 1086 = .ok (.ireturn, 1) := by decide +kernel
