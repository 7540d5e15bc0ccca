theorem dX11_takePart_115 : decode cX11_takePart 115 = .ok (.aload_n 0, 1) := by decide +kernel
theorem dX11_takePart_116 : decode cX11_takePart 116 = .ok (.getfield 131, 3) := by decide +kernel
theorem dX11_takePart_119 : decode cX11_takePart 119 = .ok (.if_icmp .ge 15, 3) := by decide +kernel
theorem dX11_takePart_122 : decode cX11_takePart 122 = .ok (.aload_n 0, 1) := by decide +kernel
theorem dX11_takePart_123 : decode cX11_takePart 123 = .ok (.getfield 57, 3) := by decide +kernel
theorem dX11_takePart_126 : decode cX11_takePart 126 = .ok (.aload_n 0, 1) := by decide +kernel
theorem dX11_takePart_127 : decode cX11_takePart 127 = .ok (.getfield 136, 3) := by decide +kernel
theorem dX11_takePart_130 : decode cX11_takePart 130 = .ok (.iaload, 1) := by decide +kernel
theorem dX11_takePart_131 : decode cX11_takePart 131 = .ok (.goto 4, 3) := by decide +kernel
theorem dX11_takePart_134 : decode cX11_takePart 134 = .ok (.iconst (-1), 1) := by decide +kernel
theorem dX11_takePart_135 : decode cX11_takePart 135 = .ok (.istore 5, 2) := by decide +kernel
theorem dX11_takePart_137 : decode cX11_takePart 137 = .ok (.iload 5, 2) := by decide +kernel
theorem dX11_takePart_139 : decode cX11_takePart 139 = .ok (.bipush 113, 2) := by decide +kernel
theorem dX11_takePart_141 : decode cX11_takePart 141 = .ok (.if_icmp .ne 7, 3) := by decide +kernel
theorem dX11_takePart_144 : decode cX11_takePart 144 = .ok (.iconst 1, 1) := by decide +kernel
theorem dX11_takePart_145 : decode cX11_takePart 145 = .ok (.goto 48, 3) := by decide +kernel
theorem dX11_takePart_148 : decode cX11_takePart 148 = .ok (.iload 5, 2) := by decide +kernel
theorem dX11_takePart_150 : decode cX11_takePart 150 = .ok (.bipush 116, 2) := by decide +kernel
theorem dX11_takePart_152 : decode cX11_takePart 152 = .ok (.if_icmp .ne 7, 3) := by decide +kernel
theorem dX11_takePart_155 : decode cX11_takePart 155 = .ok (.iconst 2, 1) := by decide +kernel
theorem dX11_takePart_156 : decode cX11_takePart 156 = .ok (.goto 37, 3) := by decide +kernel
theorem dX11_takePart_159 : decode cX11_takePart 159 = .ok (.iload 5, 2) := by decide +kernel
theorem dX11_takePart_161 : decode cX11_takePart 161 = .ok (.bipush 114, 2) := by decide +kernel
theorem dX11_takePart_163 : decode cX11_takePart 163 = .ok (.if_icmp .ne 7, 3) := by decide +kernel
theorem dX11_takePart_166 : decode cX11_takePart 166 = .ok (.iconst 3, 1) := by decide +kernel
theorem dX11_takePart_167 : decode cX11_takePart 167 = .ok (.goto 26, 3) := by decide +kernel
theorem dX11_takePart_170 : decode cX11_takePart 170 = .ok (.iload 5, 2) := by decide +kernel
theorem dX11_takePart_172 : decode cX11_takePart 172 = .ok (.bipush 99, 2) := by decide +kernel
theorem dX11_takePart_174 : decode cX11_takePart 174 = .ok (.if_icmp .ne 7, 3) := by decide +kernel
theorem dX11_takePart_177 : decode cX11_takePart 177 = .ok (.iconst 4, 1) := by decide +kernel
theorem dX11_takePart_178 : decode cX11_takePart 178 = .ok (.goto 15, 3) := by decide +kernel
theorem dX11_takePart_181 : decode cX11_takePart 181 = .ok (.iload 5, 2) := by decide +kernel
theorem dX11_takePart_183 : decode cX11_takePart 183 = .ok (.bipush 110, 2) := by decide +kernel
theorem dX11_takePart_185 : decode cX11_takePart 185 = .ok (.if_icmp .ne 7, 3) := by decide +kernel
theorem dX11_takePart_188 : decode cX11_takePart 188 = .ok (.iconst 5, 1) := by decide +kernel
theorem dX11_takePart_189 : decode cX11_takePart 189 = .ok (.goto 4, 3) := by decide +kernel
theorem dX11_takePart_192 : decode cX11_takePart 192 = .ok (.iconst (-1), 1) := by decide +kernel
theorem dX11_takePart_193 : decode cX11_takePart 193 = .ok (.istore 6, 2) := by decide +kernel
theorem dX11_takePart_195 : decode cX11_takePart 195 = .ok (.iload 6, 2) := by decide +kernel
theorem dX11_takePart_197 : decode cX11_takePart 197 = .ok (.ifCond .ge 13, 3) := by decide +kernel
theorem dX11_takePart_200 : decode cX11_takePart 200 = .ok (.aload_n 0, 1) := by decide +kernel
theorem dX11_takePart_201 : decode cX11_takePart 201 = .ok (.iconst 1, 1) := by decide +kernel
theorem dX11_takePart_202 : decode cX11_takePart 202 = .ok (.aload_n 0, 1) := by decide +kernel
theorem dX11_takePart_203 : decode cX11_takePart 203 = .ok (.getfield 136, 3) := by decide +kernel
theorem dX11_takePart_206 : decode cX11_takePart 206 = .ok (.invokevirtual 147, 3) := by decide +kernel
theorem dX11_takePart_209 : decode cX11_takePart 209 = .ok (.ireturn, 1) := by decide +kernel
theorem dX11_takePart_210 : decode cX11_takePart 210 = .ok (.aload_n 0, 1) := by decide +kernel
theorem dX11_takePart_211 : decode cX11_takePart 211 = .ok (.getfield 79, 3) := by decide +kernel
theorem dX11_takePart_214 : decode cX11_takePart 214 = .ok (.iload 4, 2) := by decide +kernel
theorem dX11_takePart_216 : decode cX11_takePart 216 = .ok (.iload 6, 2) := by decide +kernel
theorem dX11_takePart_218 : decode cX11_takePart 218 = .ok (.iastore, 1) := by decide +kernel
theorem dX11_takePart_219 : decode cX11_takePart 219 = .ok (.aload_n 0, 1) := by decide +kernel
theorem dX11_takePart_220 : decode cX11_takePart 220 = .ok (.dup, 1) := by decide +kernel
theorem dX11_takePart_221 : decode cX11_takePart 221 = .ok (.getfield 136, 3) := by decide +kernel
theorem dX11_takePart_224 : decode cX11_takePart 224 = .ok (.iconst 1, 1) := by decide +kernel
theorem dX11_takePart_225 : decode cX11_takePart 225 = .ok (.iadd, 1) := by decide +kernel
theorem dX11_takePart_226 : decode cX11_takePart 226 = .ok (.putfield 136, 3) := by decide +kernel
theorem dX11_takePart_229 : decode cX11_takePart 229 = .ok (.iconst 0, 1) := by decide +kernel
theorem dX11_takePart_230 : decode cX11_takePart 230 = .ok (.ireturn, 1) := by decide +kernel
theorem dX11_takeBracket_0 : decode cX11_takeBracket 0 = .ok (.aload_n 0, 1) := by decide +kernel
theorem dX11_takeBracket_1 : decode cX11_takeBracket 1 = .ok (.dup, 1) := by decide +kernel
theorem dX11_takeBracket_2 : decode cX11_takeBracket 2 = .ok (.getfield 136, 3) := by decide +kernel
theorem dX11_takeBracket_5 : decode cX11_takeBracket 5 = .ok (.iconst 1, 1) := by decide +kernel
theorem dX11_takeBracket_6 : decode cX11_takeBracket 6 = .ok (.iadd, 1) := by decide +kernel
theorem dX11_takeBracket_7 : decode cX11_takeBracket 7 = .ok (.putfield 136, 3) := by decide +kernel
theorem dX11_takeBracket_10 : decode cX11_takeBracket 10 = .ok (.aload_n 0, 1) := by decide +kernel
theorem dX11_takeBracket_11 : decode cX11_takeBracket 11 = .ok (.iload_n 1, 1) := by decide +kernel
theorem dX11_takeBracket_12 : decode cX11_takeBracket 12 = .ok (.iconst 1, 1) := by decide +kernel
theorem dX11_takeBracket_13 : decode cX11_takeBracket 13 = .ok (.invokevirtual 172, 3) := by decide +kernel
theorem dX11_takeBracket_16 : decode cX11_takeBracket 16 = .ok (.istore_n 2, 1) := by decide +kernel
theorem dX11_takeBracket_17 : decode cX11_takeBracket 17 = .ok (.iload_n 2, 1) := by decide +kernel
theorem dX11_takeBracket_18 : decode cX11_takeBracket 18 = .ok (.ifCond .ne 22, 3) := by decide +kernel
theorem dX11_takeBracket_21 : decode cX11_takeBracket 21 = .ok (.aload_n 0, 1) := by decide +kernel
theorem dX11_takeBracket_22 : decode cX11_takeBracket 22 = .ok (.invokevirtual 139, 3) := by decide +kernel
theorem dX11_takeBracket_25 : decode cX11_takeBracket 25 = .ok (.bipush 93, 2) := by decide +kernel
theorem dX11_takeBracket_27 : decode cX11_takeBracket 27 = .ok (.if_icmp .eq 13, 3) := by decide +kernel
theorem dX11_takeBracket_30 : decode cX11_takeBracket 30 = .ok (.aload_n 0, 1) := by decide +kernel
theorem dX11_takeBracket_31 : decode cX11_takeBracket 31 = .ok (.iload_n 1, 1) := by decide +kernel
theorem dX11_takeBracket_32 : decode cX11_takeBracket 32 = .ok (.iconst 1, 1) := by decide +kernel
theorem dX11_takeBracket_33 : decode cX11_takeBracket 33 = .ok (.invokevirtual 172, 3) := by decide +kernel
theorem dX11_takeBracket_36 : decode cX11_takeBracket 36 = .ok (.istore_n 2, 1) := by decide +kernel
theorem dX11_takeBracket_37 : decode cX11_takeBracket 37 = .ok (.goto (-20), 3) := by decide +kernel
theorem dX11_takeBracket_40 : decode cX11_takeBracket 40 = .ok (.aload_n 0, 1) := by decide +kernel
theorem dX11_takeBracket_41 : decode cX11_takeBracket 41 = .ok (.dup, 1) := by decide +kernel
theorem dX11_takeBracket_42 : decode cX11_takeBracket 42 = .ok (.getfield 136, 3) := by decide +kernel
theorem dX11_takeBracket_45 : decode cX11_takeBracket 45 = .ok (.iload_n 2, 1) := by decide +kernel
theorem dX11_takeBracket_46 : decode cX11_takeBracket 46 = .ok (.ifCond .ne 7, 3) := by decide +kernel
theorem dX11_takeBracket_49 : decode cX11_takeBracket 49 = .ok (.iconst 1, 1) := by decide +kernel
theorem dX11_takeBracket_50 : decode cX11_takeBracket 50 = .ok (.goto 4, 3) := by decide +kernel
theorem dX11_takeBracket_53 : decode cX11_takeBracket 53 = .ok (.iconst 0, 1) := by decide +kernel
theorem dX11_takeBracket_54 : decode cX11_takeBracket 54 = .ok (.iadd, 1) := by decide +kernel
theorem dX11_takeBracket_55 : decode cX11_takeBracket 55 = .ok (.putfield 136, 3) := by decide +kernel
theorem dX11_takeBracket_58 : decode cX11_takeBracket 58 = .ok (.iload_n 2, 1) := by decide +kernel
theorem dX11_takeBracket_59 : decode cX11_takeBracket 59 = .ok (.ireturn, 1) := by decide +kernel
theorem dX11_takeForm_0 : decode cX11_takeForm 0 = .ok (.aload_n 0, 1) := by decide +kernel
theorem dX11_takeForm_1 : decode cX11_takeForm 1 = .ok (.iconst 0, 1) := by decide +kernel
theorem dX11_takeForm_2 : decode cX11_takeForm 2 = .ok (.sipush 999, 3) := by decide +kernel
theorem dX11_takeForm_5 : decode cX11_takeForm 5 = .ok (.invokevirtual 176, 3) := by decide +kernel
theorem dX11_takeForm_8 : decode cX11_takeForm 8 = .ok (.istore_n 2, 1) := by decide +kernel
theorem dX11_takeForm_9 : decode cX11_takeForm 9 = .ok (.aload_n 0, 1) := by decide +kernel
theorem dX11_takeForm_10 : decode cX11_takeForm 10 = .ok (.getfield 67, 3) := by decide +kernel
theorem dX11_takeForm_13 : decode cX11_takeForm 13 = .ok (.iload_n 1, 1) := by decide +kernel
theorem dX11_takeForm_14 : decode cX11_takeForm 14 = .ok (.aload_n 0, 1) := by decide +kernel
theorem dX11_takeForm_15 : decode cX11_takeForm 15 = .ok (.getfield 154, 3) := by decide +kernel
theorem dX11_takeForm_18 : decode cX11_takeForm 18 = .ok (.iastore, 1) := by decide +kernel
theorem dX11_takeForm_19 : decode cX11_takeForm 19 = .ok (.iload_n 2, 1) := by decide +kernel
theorem dX11_takeForm_20 : decode cX11_takeForm 20 = .ok (.ifCond .le 7, 3) := by decide +kernel
theorem dX11_takeForm_23 : decode cX11_takeForm 23 = .ok (.iload_n 2, 1) := by decide +kernel
theorem dX11_takeForm_24 : decode cX11_takeForm 24 = .ok (.goto 11, 3) := by decide +kernel
theorem dX11_takeForm_27 : decode cX11_takeForm 27 = .ok (.aload_n 0, 1) := by decide +kernel
theorem dX11_takeForm_28 : decode cX11_takeForm 28 = .ok (.bipush 116, 2) := by decide +kernel
theorem dX11_takeForm_30 : decode cX11_takeForm 30 = .ok (.bipush 111, 2) := by decide +kernel
theorem dX11_takeForm_32 : decode cX11_takeForm 32 = .ok (.invokevirtual 179, 3) := by decide +kernel
theorem dX11_takeForm_35 : decode cX11_takeForm 35 = .ok (.istore_n 2, 1) := by decide +kernel
theorem dX11_takeForm_36 : decode cX11_takeForm 36 = .ok (.iload_n 2, 1) := by decide +kernel
theorem dX11_takeForm_37 : decode cX11_takeForm 37 = .ok (.ifCond .le 7, 3) := by decide +kernel
theorem dX11_takeForm_40 : decode cX11_takeForm 40 = .ok (.iload_n 2, 1) := by decide +kernel
theorem dX11_takeForm_41 : decode cX11_takeForm 41 = .ok (.goto 16, 3) := by decide +kernel
theorem dX11_takeForm_44 : decode cX11_takeForm 44 = .ok (.aload_n 0, 1) := by decide +kernel
theorem dX11_takeForm_45 : decode cX11_takeForm 45 = .ok (.aload_n 0, 1) := by decide +kernel
theorem dX11_takeForm_46 : decode cX11_takeForm 46 = .ok (.getfield 67, 3) := by decide +kernel
theorem dX11_takeForm_49 : decode cX11_takeForm 49 = .ok (.iload_n 1, 1) := by decide +kernel
theorem dX11_takeForm_50 : decode cX11_takeForm 50 = .ok (.iaload, 1) := by decide +kernel
theorem dX11_takeForm_51 : decode cX11_takeForm 51 = .ok (.sipush 999, 3) := by decide +kernel
theorem dX11_takeForm_54 : decode cX11_takeForm 54 = .ok (.invokevirtual 176, 3) := by decide +kernel
theorem dX11_takeForm_57 : decode cX11_takeForm 57 = .ok (.istore_n 2, 1) := by decide +kernel
theorem dX11_takeForm_58 : decode cX11_takeForm 58 = .ok (.aload_n 0, 1) := by decide +kernel
theorem dX11_takeForm_59 : decode cX11_takeForm 59 = .ok (.getfield 70, 3) := by decide +kernel
theorem dX11_takeForm_62 : decode cX11_takeForm 62 = .ok (.iload_n 1, 1) := by decide +kernel
theorem dX11_takeForm_63 : decode cX11_takeForm 63 = .ok (.aload_n 0, 1) := by decide +kernel
theorem dX11_takeForm_64 : decode cX11_takeForm 64 = .ok (.getfield 154, 3) := by decide +kernel
theorem dX11_takeForm_67 : decode cX11_takeForm 67 = .ok (.iastore, 1) := by decide +kernel
theorem dX11_takeForm_68 : decode cX11_takeForm 68 = .ok (.iload_n 2, 1) := by decide +kernel
theorem dX11_takeForm_69 : decode cX11_takeForm 69 = .ok (.ifCond .le 7, 3) := by decide +kernel
theorem dX11_takeForm_72 : decode cX11_takeForm 72 = .ok (.iload_n 2, 1) := by decide +kernel
theorem dX11_takeForm_73 : decode cX11_takeForm 73 = .ok (.goto 11, 3) := by decide +kernel
theorem dX11_takeForm_76 : decode cX11_takeForm 76 = .ok (.aload_n 0, 1) := by decide +kernel
theorem dX11_takeForm_77 : decode cX11_takeForm 77 = .ok (.bipush 98, 2) := by decide +kernel
theorem dX11_takeForm_79 : decode cX11_takeForm 79 = .ok (.bipush 121, 2) := by decide +kernel
theorem dX11_takeForm_81 : decode cX11_takeForm 81 = .ok (.invokevirtual 179, 3) := by decide +kernel
theorem dX11_takeForm_84 : decode cX11_takeForm 84 = .ok (.istore_n 2, 1) := by decide +kernel
theorem dX11_takeForm_85 : decode cX11_takeForm 85 = .ok (.iload_n 2, 1) := by decide +kernel
theorem dX11_takeForm_86 : decode cX11_takeForm 86 = .ok (.ifCond .le 7, 3) := by decide +kernel
theorem dX11_takeForm_89 : decode cX11_takeForm 89 = .ok (.iload_n 2, 1) := by decide +kernel
theorem dX11_takeForm_90 : decode cX11_takeForm 90 = .ok (.goto 11, 3) := by decide +kernel
theorem dX11_takeForm_93 : decode cX11_takeForm 93 = .ok (.aload_n 0, 1) := by decide +kernel
theorem dX11_takeForm_94 : decode cX11_takeForm 94 = .ok (.iconst 2, 1) := by decide +kernel
theorem dX11_takeForm_95 : decode cX11_takeForm 95 = .ok (.sipush 500, 3) := by decide +kernel
theorem dX11_takeForm_98 : decode cX11_takeForm 98 = .ok (.invokevirtual 176, 3) := by decide +kernel
theorem dX11_takeForm_101 : decode cX11_takeForm 101 = .ok (.istore_n 2, 1) := by decide +kernel
theorem dX11_takeForm_102 : decode cX11_takeForm 102 = .ok (.aload_n 0, 1) := by decide +kernel
theorem dX11_takeForm_103 : decode cX11_takeForm 103 = .ok (.getfield 73, 3) := by decide +kernel
theorem dX11_takeForm_106 : decode cX11_takeForm 106 = .ok (.iload_n 1, 1) := by decide +kernel
theorem dX11_takeForm_107 : decode cX11_takeForm 107 = .ok (.aload_n 0, 1) := by decide +kernel
theorem dX11_takeForm_108 : decode cX11_takeForm 108 = .ok (.getfield 154, 3) := by decide +kernel
theorem dX11_takeForm_111 : decode cX11_takeForm 111 = .ok (.iastore, 1) := by decide +kernel
theorem dX11_takeForm_112 : decode cX11_takeForm 112 = .ok (.iload_n 2, 1) := by decide +kernel
theorem dX11_takeForm_113 : decode cX11_takeForm 113 = .ok (.ifCond .le 5, 3) := by decide +kernel
theorem dX11_takeForm_116 : decode cX11_takeForm 116 = .ok (.iload_n 2, 1) := by decide +kernel
theorem dX11_takeForm_117 : decode cX11_takeForm 117 = .ok (.ireturn, 1) := by decide +kernel
theorem dX11_takeForm_118 : decode cX11_takeForm 118 = .ok (.aload_n 0, 1) := by decide +kernel
theorem dX11_takeForm_119 : decode cX11_takeForm 119 = .ok (.invokevirtual 139, 3) := by decide +kernel
theorem dX11_takeForm_122 : decode cX11_takeForm 122 = .ok (.bipush 58, 2) := by decide +kernel
theorem dX11_takeForm_124 : decode cX11_takeForm 124 = .ok (.if_icmp .eq 13, 3) := by decide +kernel
theorem dX11_takeForm_127 : decode cX11_takeForm 127 = .ok (.aload_n 0, 1) := by decide +kernel
theorem dX11_takeForm_128 : decode cX11_takeForm 128 = .ok (.iconst 1, 1) := by decide +kernel
theorem dX11_takeForm_129 : decode cX11_takeForm 129 = .ok (.aload_n 0, 1) := by decide +kernel
theorem dX11_takeForm_130 : decode cX11_takeForm 130 = .ok (.getfield 136, 3) := by decide +kernel
theorem dX11_takeForm_133 : decode cX11_takeForm 133 = .ok (.invokevirtual 147, 3) := by decide +kernel
theorem dX11_takeForm_136 : decode cX11_takeForm 136 = .ok (.ireturn, 1) := by decide +kernel
theorem dX11_takeForm_137 : decode cX11_takeForm 137 = .ok (.aload_n 0, 1) := by decide +kernel
theorem dX11_takeForm_138 : decode cX11_takeForm 138 = .ok (.dup, 1) := by decide +kernel
theorem dX11_takeForm_139 : decode cX11_takeForm 139 = .ok (.getfield 136, 3) := by decide +kernel
theorem dX11_takeForm_142 : decode cX11_takeForm 142 = .ok (.iconst 1, 1) := by decide +kernel
theorem dX11_takeForm_143 : decode cX11_takeForm 143 = .ok (.iadd, 1) := by decide +kernel
theorem dX11_takeForm_144 : decode cX11_takeForm 144 = .ok (.putfield 136, 3) := by decide +kernel
theorem dX11_takeForm_147 : decode cX11_takeForm 147 = .ok (.iconst 1, 1) := by decide +kernel
theorem dX11_takeForm_148 : decode cX11_takeForm 148 = .ok (.istore_n 3, 1) := by decide +kernel
theorem dX11_takeForm_149 : decode cX11_takeForm 149 = .ok (.iload_n 2, 1) := by decide +kernel
theorem dX11_takeForm_150 : decode cX11_takeForm 150 = .ok (.ifCond .ne 45, 3) := by decide +kernel
theorem dX11_takeForm_153 : decode cX11_takeForm 153 = .ok (.iload_n 3, 1) := by decide +kernel
theorem dX11_takeForm_154 : decode cX11_takeForm 154 = .ok (.ifCond .ne 12, 3) := by decide +kernel
theorem dX11_takeForm_157 : decode cX11_takeForm 157 = .ok (.aload_n 0, 1) := by decide +kernel
theorem dX11_takeForm_158 : decode cX11_takeForm 158 = .ok (.invokevirtual 139, 3) := by decide +kernel
theorem dX11_takeForm_161 : decode cX11_takeForm 161 = .ok (.bipush 59, 2) := by decide +kernel
theorem dX11_takeForm_163 : decode cX11_takeForm 163 = .ok (.if_icmp .eq 32, 3) := by decide +kernel
theorem dX11_takeForm_166 : decode cX11_takeForm 166 = .ok (.aload_n 0, 1) := by decide +kernel
theorem dX11_takeForm_167 : decode cX11_takeForm 167 = .ok (.invokevirtual 139, 3) := by decide +kernel
theorem dX11_takeForm_170 : decode cX11_takeForm 170 = .ok (.bipush 91, 2) := by decide +kernel
theorem dX11_takeForm_172 : decode cX11_takeForm 172 = .ok (.if_icmp .ne 11, 3) := by decide +kernel
theorem dX11_takeForm_175 : decode cX11_takeForm 175 = .ok (.aload_n 0, 1) := by decide +kernel
theorem dX11_takeForm_176 : decode cX11_takeForm 176 = .ok (.iload_n 1, 1) := by decide +kernel
theorem dX11_takeForm_177 : decode cX11_takeForm 177 = .ok (.invokevirtual 182, 3) := by decide +kernel
theorem dX11_takeForm_180 : decode cX11_takeForm 180 = .ok (.goto 9, 3) := by decide +kernel
theorem dX11_takeForm_183 : decode cX11_takeForm 183 = .ok (.aload_n 0, 1) := by decide +kernel
theorem dX11_takeForm_184 : decode cX11_takeForm 184 = .ok (.iload_n 1, 1) := by decide +kernel
theorem dX11_takeForm_185 : decode cX11_takeForm 185 = .ok (.iconst 0, 1) := by decide +kernel
theorem dX11_takeForm_186 : decode cX11_takeForm 186 = .ok (.invokevirtual 172, 3) := by decide +kernel
theorem dX11_takeForm_189 : decode cX11_takeForm 189 = .ok (.istore_n 2, 1) := by decide +kernel
theorem dX11_takeForm_190 : decode cX11_takeForm 190 = .ok (.iconst 0, 1) := by decide +kernel
theorem dX11_takeForm_191 : decode cX11_takeForm 191 = .ok (.istore_n 3, 1) := by decide +kernel
theorem dX11_takeForm_192 : decode cX11_takeForm 192 = .ok (.goto (-43), 3) := by decide +kernel
theorem dX11_takeForm_195 : decode cX11_takeForm 195 = .ok (.iload_n 2, 1) := by decide +kernel
theorem dX11_takeForm_196 : decode cX11_takeForm 196 = .ok (.ireturn, 1) := by decide +kernel
theorem dX11_takeWord_0 : decode cX11_takeWord 0 = .ok (.aload_n 0, 1) := by decide +kernel
theorem dX11_takeWord_1 : decode cX11_takeWord 1 = .ok (.iconst 0, 1) := by decide +kernel
theorem dX11_takeWord_2 : decode cX11_takeWord 2 = .ok (.sipush 999, 3) := by decide +kernel
theorem dX11_takeWord_5 : decode cX11_takeWord 5 = .ok (.invokevirtual 176, 3) := by decide +kernel
theorem dX11_takeWord_8 : decode cX11_takeWord 8 = .ok (.istore_n 2, 1) := by decide +kernel
theorem dX11_takeWord_9 : decode cX11_takeWord 9 = .ok (.aload_n 0, 1) := by decide +kernel
theorem dX11_takeWord_10 : decode cX11_takeWord 10 = .ok (.getfield 67, 3) := by decide +kernel
theorem dX11_takeWord_13 : decode cX11_takeWord 13 = .ok (.iload_n 1, 1) := by decide +kernel
theorem dX11_takeWord_14 : decode cX11_takeWord 14 = .ok (.aload_n 0, 1) := by decide +kernel
theorem dX11_takeWord_15 : decode cX11_takeWord 15 = .ok (.getfield 154, 3) := by decide +kernel
theorem dX11_takeWord_18 : decode cX11_takeWord 18 = .ok (.iastore, 1) := by decide +kernel
theorem dX11_takeWord_19 : decode cX11_takeWord 19 = .ok (.iconst 0, 1) := by decide +kernel
theorem dX11_takeWord_20 : decode cX11_takeWord 20 = .ok (.istore_n 3, 1) := by decide +kernel
theorem dX11_takeWord_21 : decode cX11_takeWord 21 = .ok (.iload_n 3, 1) := by decide +kernel
theorem dX11_takeWord_22 : decode cX11_takeWord 22 = .ok (.iload_n 1, 1) := by decide +kernel
theorem dX11_takeWord_23 : decode cX11_takeWord 23 = .ok (.if_icmp .ge 49, 3) := by decide +kernel
theorem dX11_takeWord_26 : decode cX11_takeWord 26 = .ok (.iload_n 2, 1) := by decide +kernel
theorem dX11_takeWord_27 : decode cX11_takeWord 27 = .ok (.ifCond .ne 45, 3) := by decide +kernel
theorem dX11_takeWord_30 : decode cX11_takeWord 30 = .ok (.aload_n 0, 1) := by decide +kernel
theorem dX11_takeWord_31 : decode cX11_takeWord 31 = .ok (.getfield 64, 3) := by decide +kernel
theorem dX11_takeWord_34 : decode cX11_takeWord 34 = .ok (.iload_n 3, 1) := by decide +kernel
theorem dX11_takeWord_35 : decode cX11_takeWord 35 = .ok (.baload, 1) := by decide +kernel
theorem dX11_takeWord_36 : decode cX11_takeWord 36 = .ok (.ifCond .eq 28, 3) := by decide +kernel
theorem dX11_takeWord_39 : decode cX11_takeWord 39 = .ok (.aload_n 0, 1) := by decide +kernel
theorem dX11_takeWord_40 : decode cX11_takeWord 40 = .ok (.getfield 67, 3) := by decide +kernel
theorem dX11_takeWord_43 : decode cX11_takeWord 43 = .ok (.iload_n 3, 1) := by decide +kernel
theorem dX11_takeWord_44 : decode cX11_takeWord 44 = .ok (.iaload, 1) := by decide +kernel
theorem dX11_takeWord_45 : decode cX11_takeWord 45 = .ok (.aload_n 0, 1) := by decide +kernel
theorem dX11_takeWord_46 : decode cX11_takeWord 46 = .ok (.getfield 154, 3) := by decide +kernel
theorem dX11_takeWord_49 : decode cX11_takeWord 49 = .ok (.if_icmp .ne 15, 3) := by decide +kernel
theorem dX11_takeWord_52 : decode cX11_takeWord 52 = .ok (.aload_n 0, 1) := by decide +kernel
theorem dX11_takeWord_53 : decode cX11_takeWord 53 = .ok (.iconst 3, 1) := by decide +kernel
theorem dX11_takeWord_54 : decode cX11_takeWord 54 = .ok (.aload_n 0, 1) := by decide +kernel
theorem dX11_takeWord_55 : decode cX11_takeWord 55 = .ok (.getfield 151, 3) := by decide +kernel
theorem dX11_takeWord_58 : decode cX11_takeWord 58 = .ok (.invokevirtual 147, 3) := by decide +kernel
theorem dX11_takeWord_61 : decode cX11_takeWord 61 = .ok (.goto 4, 3) := by decide +kernel
theorem dX11_takeWord_64 : decode cX11_takeWord 64 = .ok (.iconst 0, 1) := by decide +kernel
theorem dX11_takeWord_65 : decode cX11_takeWord 65 = .ok (.istore_n 2, 1) := by decide +kernel
theorem dX11_takeWord_66 : decode cX11_takeWord 66 = .ok (.iinc 3 1, 3) := by decide +kernel
theorem dX11_takeWord_69 : decode cX11_takeWord 69 = .ok (.goto (-48), 3) := by decide +kernel
theorem dX11_takeWord_72 : decode cX11_takeWord 72 = .ok (.aload_n 0, 1) := by decide +kernel
theorem dX11_takeWord_73 : decode cX11_takeWord 73 = .ok (.getfield 76, 3) := by decide +kernel
theorem dX11_takeWord_76 : decode cX11_takeWord 76 = .ok (.iload_n 1, 1) := by decide +kernel
theorem dX11_takeWord_77 : decode cX11_takeWord 77 = .ok (.iconst 1, 1) := by decide +kernel
theorem dX11_takeWord_78 : decode cX11_takeWord 78 = .ok (.iastore, 1) := by decide +kernel
theorem dX11_takeWord_79 : decode cX11_takeWord 79 = .ok (.iload_n 2, 1) := by decide +kernel
theorem dX11_takeWord_80 : decode cX11_takeWord 80 = .ok (.ifCond .le 7, 3) := by decide +kernel
theorem dX11_takeWord_83 : decode cX11_takeWord 83 = .ok (.iload_n 2, 1) := by decide +kernel
theorem dX11_takeWord_84 : decode cX11_takeWord 84 = .ok (.goto 11, 3) := by decide +kernel
theorem dX11_takeWord_87 : decode cX11_takeWord 87 = .ok (.aload_n 0, 1) := by decide +kernel
theorem dX11_takeWord_88 : decode cX11_takeWord 88 = .ok (.bipush 8, 2) := by decide +kernel
theorem dX11_takeWord_90 : decode cX11_takeWord 90 = .ok (.iload_n 1, 1) := by decide +kernel
theorem dX11_takeWord_91 : decode cX11_takeWord 91 = .ok (.imul, 1) := by decide +kernel
theorem dX11_takeWord_92 : decode cX11_takeWord 92 = .ok (.invokevirtual 168, 3) := by decide +kernel
theorem dX11_takeWord_95 : decode cX11_takeWord 95 = .ok (.ireturn, 1) := by decide +kernel
theorem dX11_takeClause_0 : decode cX11_takeClause 0 = .ok (.aload_n 0, 1) := by decide +kernel
theorem dX11_takeClause_1 : decode cX11_takeClause 1 = .ok (.bipush 119, 2) := by decide +kernel
theorem dX11_takeClause_3 : decode cX11_takeClause 3 = .ok (.bipush 111, 2) := by decide +kernel
theorem dX11_takeClause_5 : decode cX11_takeClause 5 = .ok (.bipush 114, 2) := by decide +kernel
theorem dX11_takeClause_7 : decode cX11_takeClause 7 = .ok (.bipush 100, 2) := by decide +kernel
theorem dX11_takeClause_9 : decode cX11_takeClause 9 = .ok (.invokevirtual 164, 3) := by decide +kernel
theorem dX11_takeClause_12 : decode cX11_takeClause 12 = .ok (.istore_n 1, 1) := by decide +kernel
theorem dX11_takeClause_13 : decode cX11_takeClause 13 = .ok (.aload_n 0, 1) := by decide +kernel
theorem dX11_takeClause_14 : decode cX11_takeClause 14 = .ok (.bipush 102, 2) := by decide +kernel
theorem dX11_takeClause_16 : decode cX11_takeClause 16 = .ok (.bipush 111, 2) := by decide +kernel
theorem dX11_takeClause_18 : decode cX11_takeClause 18 = .ok (.bipush 114, 2) := by decide +kernel
theorem dX11_takeClause_20 : decode cX11_takeClause 20 = .ok (.iconst 0, 1) := by decide +kernel
theorem dX11_takeClause_21 : decode cX11_takeClause 21 = .ok (.invokevirtual 164, 3) := by decide +kernel
theorem dX11_takeClause_24 : decode cX11_takeClause 24 = .ok (.istore_n 2, 1) := by decide +kernel
theorem dX11_takeClause_25 : decode cX11_takeClause 25 = .ok (.iload_n 1, 1) := by decide +kernel
theorem dX11_takeClause_26 : decode cX11_takeClause 26 = .ok (.ifCond .ne 7, 3) := by decide +kernel
theorem dX11_takeClause_29 : decode cX11_takeClause 29 = .ok (.iload_n 2, 1) := by decide +kernel
theorem dX11_takeClause_30 : decode cX11_takeClause 30 = .ok (.ifCond .eq 12, 3) := by decide +kernel
theorem dX11_takeClause_33 : decode cX11_takeClause 33 = .ok (.aload_n 0, 1) := by decide +kernel
theorem dX11_takeClause_34 : decode cX11_takeClause 34 = .ok (.getfield 185, 3) := by decide +kernel
theorem dX11_takeClause_37 : decode cX11_takeClause 37 = .ok (.bipush 12, 2) := by decide +kernel
theorem dX11_takeClause_39 : decode cX11_takeClause 39 = .ok (.if_icmp .ne 25, 3) := by decide +kernel
theorem dX11_takeClause_42 : decode cX11_takeClause 42 = .ok (.aload_n 0, 1) := by decide +kernel
theorem dX11_takeClause_43 : decode cX11_takeClause 43 = .ok (.iload_n 1, 1) := by decide +kernel
theorem dX11_takeClause_44 : decode cX11_takeClause 44 = .ok (.ifCond .ne 11, 3) := by decide +kernel
theorem dX11_takeClause_47 : decode cX11_takeClause 47 = .ok (.iload_n 2, 1) := by decide +kernel
theorem dX11_takeClause_48 : decode cX11_takeClause 48 = .ok (.ifCond .ne 7, 3) := by decide +kernel
theorem dX11_takeClause_51 : decode cX11_takeClause 51 = .ok (.iconst 1, 1) := by decide +kernel
theorem dX11_takeClause_52 : decode cX11_takeClause 52 = .ok (.goto 4, 3) := by decide +kernel
theorem dX11_takeClause_55 : decode cX11_takeClause 55 = .ok (.iconst 5, 1) := by decide +kernel
theorem dX11_takeClause_56 : decode cX11_takeClause 56 = .ok (.aload_n 0, 1) := by decide +kernel
theorem dX11_takeClause_57 : decode cX11_takeClause 57 = .ok (.getfield 136, 3) := by decide +kernel
theorem dX11_takeClause_60 : decode cX11_takeClause 60 = .ok (.invokevirtual 147, 3) := by decide +kernel
theorem dX11_takeClause_63 : decode cX11_takeClause 63 = .ok (.ireturn, 1) := by decide +kernel
theorem dX11_takeClause_64 : decode cX11_takeClause 64 = .ok (.aload_n 0, 1) := by decide +kernel
theorem dX11_takeClause_65 : decode cX11_takeClause 65 = .ok (.aload_n 0, 1) := by decide +kernel
theorem dX11_takeClause_66 : decode cX11_takeClause 66 = .ok (.getfield 161, 3) := by decide +kernel
theorem dX11_takeClause_69 : decode cX11_takeClause 69 = .ok (.putfield 136, 3) := by decide +kernel
theorem dX11_takeClause_72 : decode cX11_takeClause 72 = .ok (.aload_n 0, 1) := by decide +kernel
theorem dX11_takeClause_73 : decode cX11_takeClause 73 = .ok (.getfield 64, 3) := by decide +kernel
theorem dX11_takeClause_76 : decode cX11_takeClause 76 = .ok (.aload_n 0, 1) := by decide +kernel
theorem dX11_takeClause_77 : decode cX11_takeClause 77 = .ok (.getfield 185, 3) := by decide +kernel
theorem dX11_takeClause_80 : decode cX11_takeClause 80 = .ok (.iload_n 1, 1) := by decide +kernel
theorem dX11_takeClause_81 : decode cX11_takeClause 81 = .ok (.bastore, 1) := by decide +kernel
theorem dX11_takeClause_82 : decode cX11_takeClause 82 = .ok (.aload_n 0, 1) := by decide +kernel
theorem dX11_takeClause_83 : decode cX11_takeClause 83 = .ok (.getfield 76, 3) := by decide +kernel
theorem dX11_takeClause_86 : decode cX11_takeClause 86 = .ok (.aload_n 0, 1) := by decide +kernel
theorem dX11_takeClause_87 : decode cX11_takeClause 87 = .ok (.getfield 185, 3) := by decide +kernel
theorem dX11_takeClause_90 : decode cX11_takeClause 90 = .ok (.iconst 0, 1) := by decide +kernel
theorem dX11_takeClause_91 : decode cX11_takeClause 91 = .ok (.iastore, 1) := by decide +kernel
theorem dX11_takeClause_92 : decode cX11_takeClause 92 = .ok (.iload_n 1, 1) := by decide +kernel
theorem dX11_takeClause_93 : decode cX11_takeClause 93 = .ok (.ifCond .eq 14, 3) := by decide +kernel
theorem dX11_takeClause_96 : decode cX11_takeClause 96 = .ok (.aload_n 0, 1) := by decide +kernel
theorem dX11_takeClause_97 : decode cX11_takeClause 97 = .ok (.aload_n 0, 1) := by decide +kernel
theorem dX11_takeClause_98 : decode cX11_takeClause 98 = .ok (.getfield 185, 3) := by decide +kernel
theorem dX11_takeClause_101 : decode cX11_takeClause 101 = .ok (.invokevirtual 188, 3) := by decide +kernel
theorem dX11_takeClause_104 : decode cX11_takeClause 104 = .ok (.goto 11, 3) := by decide +kernel
theorem dX11_takeClause_107 : decode cX11_takeClause 107 = .ok (.aload_n 0, 1) := by decide +kernel
theorem dX11_takeClause_108 : decode cX11_takeClause 108 = .ok (.aload_n 0, 1) := by decide +kernel
theorem dX11_takeClause_109 : decode cX11_takeClause 109 = .ok (.getfield 185, 3) := by decide +kernel
theorem dX11_takeClause_112 : decode cX11_takeClause 112 = .ok (.invokevirtual 191, 3) := by decide +kernel
theorem dX11_takeClause_115 : decode cX11_takeClause 115 = .ok (.istore_n 3, 1) := by decide +kernel
theorem dX11_takeClause_116 : decode cX11_takeClause 116 = .ok (.iload_n 3, 1) := by decide +kernel
theorem dX11_takeClause_117 : decode cX11_takeClause 117 = .ok (.ifCond .le 5, 3) := by decide +kernel
theorem dX11_takeClause_120 : decode cX11_takeClause 120 = .ok (.iload_n 3, 1) := by decide +kernel
theorem dX11_takeClause_121 : decode cX11_takeClause 121 = .ok (.ireturn, 1) := by decide +kernel
theorem dX11_takeClause_122 : decode cX11_takeClause 122 = .ok (.aload_n 0, 1) := by decide +kernel
theorem dX11_takeClause_123 : decode cX11_takeClause 123 = .ok (.invokevirtual 139, 3) := by decide +kernel
theorem dX11_takeClause_126 : decode cX11_takeClause 126 = .ok (.bipush 59, 2) := by decide +kernel
theorem dX11_takeClause_128 : decode cX11_takeClause 128 = .ok (.if_icmp .eq 13, 3) := by decide +kernel
theorem dX11_takeClause_131 : decode cX11_takeClause 131 = .ok (.aload_n 0, 1) := by decide +kernel
theorem dX11_takeClause_132 : decode cX11_takeClause 132 = .ok (.iconst 1, 1) := by decide +kernel
theorem dX11_takeClause_133 : decode cX11_takeClause 133 = .ok (.aload_n 0, 1) := by decide +kernel
theorem dX11_takeClause_134 : decode cX11_takeClause 134 = .ok (.getfield 136, 3) := by decide +kernel
theorem dX11_takeClause_137 : decode cX11_takeClause 137 = .ok (.invokevirtual 147, 3) := by decide +kernel
theorem dX11_takeClause_140 : decode cX11_takeClause 140 = .ok (.ireturn, 1) := by decide +kernel
theorem dX11_takeClause_141 : decode cX11_takeClause 141 = .ok (.aload_n 0, 1) := by decide +kernel
theorem dX11_takeClause_142 : decode cX11_takeClause 142 = .ok (.dup, 1) := by decide +kernel
theorem dX11_takeClause_143 : decode cX11_takeClause 143 = .ok (.getfield 136, 3) := by decide +kernel
theorem dX11_takeClause_146 : decode cX11_takeClause 146 = .ok (.iconst 1, 1) := by decide +kernel
theorem dX11_takeClause_147 : decode cX11_takeClause 147 = .ok (.iadd, 1) := by decide +kernel
theorem dX11_takeClause_148 : decode cX11_takeClause 148 = .ok (.putfield 136, 3) := by decide +kernel
theorem dX11_takeClause_151 : decode cX11_takeClause 151 = .ok (.aload_n 0, 1) := by decide +kernel
theorem dX11_takeClause_152 : decode cX11_takeClause 152 = .ok (.dup, 1) := by decide +kernel
theorem dX11_takeClause_153 : decode cX11_takeClause 153 = .ok (.getfield 185, 3) := by decide +kernel
theorem dX11_takeClause_156 : decode cX11_takeClause 156 = .ok (.iconst 1, 1) := by decide +kernel
theorem dX11_takeClause_157 : decode cX11_takeClause 157 = .ok (.iadd, 1) := by decide +kernel
theorem dX11_takeClause_158 : decode cX11_takeClause 158 = .ok (.putfield 185, 3) := by decide +kernel
theorem dX11_takeClause_161 : decode cX11_takeClause 161 = .ok (.iconst 0, 1) := by decide +kernel
theorem dX11_takeClause_162 : decode cX11_takeClause 162 = .ok (.ireturn, 1) := by decide +kernel
theorem dX11_read_0 : decode cX11_read 0 = .ok (.iload_n 1, 1) := by decide +kernel
theorem dX11_read_1 : decode cX11_read 1 = .ok (.invokestatic 194, 3) := by decide +kernel
theorem dX11_read_4 : decode cX11_read 4 = .ok (.ifCond .ne 7, 3) := by decide +kernel
theorem dX11_read_7 : decode cX11_read 7 = .ok (.sipush (-1001), 3) := by decide +kernel
theorem dX11_read_10 : decode cX11_read 10 = .ok (.ireturn, 1) := by decide +kernel
theorem dX11_read_11 : decode cX11_read 11 = .ok (.aload_n 0, 1) := by decide +kernel
theorem dX11_read_12 : decode cX11_read 12 = .ok (.iconst (-1), 1) := by decide +kernel
theorem dX11_read_13 : decode cX11_read 13 = .ok (.putfield 60, 3) := by decide +kernel
theorem dX11_read_16 : decode cX11_read 16 = .ok (.aload_n 0, 1) := by decide +kernel
theorem dX11_read_17 : decode cX11_read 17 = .ok (.iconst 0, 1) := by decide +kernel
theorem dX11_read_18 : decode cX11_read 18 = .ok (.putfield 136, 3) := by decide +kernel
theorem dX11_read_21 : decode cX11_read 21 = .ok (.aload_n 0, 1) := by decide +kernel
theorem dX11_read_22 : decode cX11_read 22 = .ok (.iconst 0, 1) := by decide +kernel
theorem dX11_read_23 : decode cX11_read 23 = .ok (.putfield 185, 3) := by decide +kernel
theorem dX11_read_26 : decode cX11_read 26 = .ok (.iconst 0, 1) := by decide +kernel
theorem dX11_read_27 : decode cX11_read 27 = .ok (.istore_n 2, 1) := by decide +kernel
theorem dX11_read_28 : decode cX11_read 28 = .ok (.iload_n 2, 1) := by decide +kernel
theorem dX11_read_29 : decode cX11_read 29 = .ok (.ifCond .ne 18, 3) := by decide +kernel
theorem dX11_read_32 : decode cX11_read 32 = .ok (.aload_n 0, 1) := by decide +kernel
theorem dX11_read_33 : decode cX11_read 33 = .ok (.invokevirtual 139, 3) := by decide +kernel
theorem dX11_read_36 : decode cX11_read 36 = .ok (.ifCond .lt 11, 3) := by decide +kernel
theorem dX11_read_39 : decode cX11_read 39 = .ok (.aload_n 0, 1) := by decide +kernel
theorem dX11_read_40 : decode cX11_read 40 = .ok (.invokevirtual 198, 3) := by decide +kernel
theorem dX11_read_43 : decode cX11_read 43 = .ok (.istore_n 2, 1) := by decide +kernel
theorem dX11_read_44 : decode cX11_read 44 = .ok (.goto (-16), 3) := by decide +kernel
theorem dX11_read_47 : decode cX11_read 47 = .ok (.aload_n 0, 1) := by decide +kernel
theorem dX11_read_48 : decode cX11_read 48 = .ok (.iconst 0, 1) := by decide +kernel
theorem dX11_read_49 : decode cX11_read 49 = .ok (.putfield 131, 3) := by decide +kernel
theorem dX11_read_52 : decode cX11_read 52 = .ok (.iload_n 2, 1) := by decide +kernel
theorem dX11_read_53 : decode cX11_read 53 = .ok (.ifCond .le 8, 3) := by decide +kernel
theorem dX11_read_56 : decode cX11_read 56 = .ok (.bipush (-10), 2) := by decide +kernel
theorem dX11_read_58 : decode cX11_read 58 = .ok (.iload_n 2, 1) := by decide +kernel
theorem dX11_read_59 : decode cX11_read 59 = .ok (.isub, 1) := by decide +kernel
theorem dX11_read_60 : decode cX11_read 60 = .ok (.ireturn, 1) := by decide +kernel
theorem dX11_read_61 : decode cX11_read 61 = .ok (.aload_n 0, 1) := by decide +kernel
theorem dX11_read_62 : decode cX11_read 62 = .ok (.iload_n 1, 1) := by decide +kernel
theorem dX11_read_63 : decode cX11_read 63 = .ok (.invokevirtual 201, 3) := by decide +kernel
theorem dX11_read_66 : decode cX11_read 66 = .ok (.aload_n 0, 1) := by decide +kernel
theorem dX11_read_67 : decode cX11_read 67 = .ok (.iload_n 1, 1) := by decide +kernel
theorem dX11_read_68 : decode cX11_read 68 = .ok (.invokevirtual 205, 3) := by decide +kernel
theorem dX11_read_71 : decode cX11_read 71 = .ok (.aload_n 0, 1) := by decide +kernel
theorem dX11_read_72 : decode cX11_read 72 = .ok (.getfield 185, 3) := by decide +kernel
theorem dX11_read_75 : decode cX11_read 75 = .ok (.ireturn, 1) := by decide +kernel
theorem dX11_keep_0 : decode cX11_keep 0 = .ok (.aload_n 0, 1) := by decide +kernel
theorem dX11_keep_1 : decode cX11_keep 1 = .ok (.getfield 7, 3) := by decide +kernel
theorem dX11_keep_4 : decode cX11_keep 4 = .ok (.iload_n 1, 1) := by decide +kernel
theorem dX11_keep_5 : decode cX11_keep 5 = .ok (.aload_n 0, 1) := by decide +kernel
theorem dX11_keep_6 : decode cX11_keep 6 = .ok (.getfield 185, 3) := by decide +kernel
theorem dX11_keep_9 : decode cX11_keep 9 = .ok (.iastore, 1) := by decide +kernel
theorem dX11_keep_10 : decode cX11_keep 10 = .ok (.iconst 0, 1) := by decide +kernel
theorem dX11_keep_11 : decode cX11_keep 11 = .ok (.istore_n 2, 1) := by decide +kernel
theorem dX11_keep_12 : decode cX11_keep 12 = .ok (.iload_n 2, 1) := by decide +kernel
theorem dX11_keep_13 : decode cX11_keep 13 = .ok (.aload_n 0, 1) := by decide +kernel
theorem dX11_keep_14 : decode cX11_keep 14 = .ok (.getfield 185, 3) := by decide +kernel
theorem dX11_keep_17 : decode cX11_keep 17 = .ok (.if_icmp .ge 230, 3) := by decide +kernel
theorem dX11_keep_20 : decode cX11_keep 20 = .ok (.bipush 12, 2) := by decide +kernel
theorem dX11_keep_22 : decode cX11_keep 22 = .ok (.iload_n 1, 1) := by decide +kernel
theorem dX11_keep_23 : decode cX11_keep 23 = .ok (.imul, 1) := by decide +kernel
theorem dX11_keep_24 : decode cX11_keep 24 = .ok (.iload_n 2, 1) := by decide +kernel
theorem dX11_keep_25 : decode cX11_keep 25 = .ok (.iadd, 1) := by decide +kernel
theorem dX11_keep_26 : decode cX11_keep 26 = .ok (.istore_n 3, 1) := by decide +kernel
theorem dX11_keep_27 : decode cX11_keep 27 = .ok (.aload_n 0, 1) := by decide +kernel
theorem dX11_keep_28 : decode cX11_keep 28 = .ok (.getfield 13, 3) := by decide +kernel
theorem dX11_keep_31 : decode cX11_keep 31 = .ok (.iload_n 3, 1) := by decide +kernel
theorem dX11_keep_32 : decode cX11_keep 32 = .ok (.aload_n 0, 1) := by decide +kernel
theorem dX11_keep_33 : decode cX11_keep 33 = .ok (.getfield 64, 3) := by decide +kernel
theorem dX11_keep_36 : decode cX11_keep 36 = .ok (.iload_n 2, 1) := by decide +kernel
theorem dX11_keep_37 : decode cX11_keep 37 = .ok (.baload, 1) := by decide +kernel
theorem dX11_keep_38 : decode cX11_keep 38 = .ok (.bastore, 1) := by decide +kernel
theorem dX11_keep_39 : decode cX11_keep 39 = .ok (.aload_n 0, 1) := by decide +kernel
theorem dX11_keep_40 : decode cX11_keep 40 = .ok (.getfield 17, 3) := by decide +kernel
theorem dX11_keep_43 : decode cX11_keep 43 = .ok (.iload_n 3, 1) := by decide +kernel
theorem dX11_keep_44 : decode cX11_keep 44 = .ok (.aload_n 0, 1) := by decide +kernel
theorem dX11_keep_45 : decode cX11_keep 45 = .ok (.getfield 67, 3) := by decide +kernel
theorem dX11_keep_48 : decode cX11_keep 48 = .ok (.iload_n 2, 1) := by decide +kernel
theorem dX11_keep_49 : decode cX11_keep 49 = .ok (.iaload, 1) := by decide +kernel
theorem dX11_keep_50 : decode cX11_keep 50 = .ok (.iastore, 1) := by decide +kernel
theorem dX11_keep_51 : decode cX11_keep 51 = .ok (.aload_n 0, 1) := by decide +kernel
theorem dX11_keep_52 : decode cX11_keep 52 = .ok (.getfield 20, 3) := by decide +kernel
theorem dX11_keep_55 : decode cX11_keep 55 = .ok (.iload_n 3, 1) := by decide +kernel
theorem dX11_keep_56 : decode cX11_keep 56 = .ok (.aload_n 0, 1) := by decide +kernel
theorem dX11_keep_57 : decode cX11_keep 57 = .ok (.getfield 70, 3) := by decide +kernel
theorem dX11_keep_60 : decode cX11_keep 60 = .ok (.iload_n 2, 1) := by decide +kernel
theorem dX11_keep_61 : decode cX11_keep 61 = .ok (.iaload, 1) := by decide +kernel
theorem dX11_keep_62 : decode cX11_keep 62 = .ok (.iastore, 1) := by decide +kernel
theorem dX11_keep_63 : decode cX11_keep 63 = .ok (.aload_n 0, 1) := by decide +kernel
theorem dX11_keep_64 : decode cX11_keep 64 = .ok (.getfield 23, 3) := by decide +kernel
theorem dX11_keep_67 : decode cX11_keep 67 = .ok (.iload_n 3, 1) := by decide +kernel
theorem dX11_keep_68 : decode cX11_keep 68 = .ok (.aload_n 0, 1) := by decide +kernel
theorem dX11_keep_69 : decode cX11_keep 69 = .ok (.getfield 73, 3) := by decide +kernel
theorem dX11_keep_72 : decode cX11_keep 72 = .ok (.iload_n 2, 1) := by decide +kernel
theorem dX11_keep_73 : decode cX11_keep 73 = .ok (.iaload, 1) := by decide +kernel
theorem dX11_keep_74 : decode cX11_keep 74 = .ok (.iastore, 1) := by decide +kernel
theorem dX11_keep_75 : decode cX11_keep 75 = .ok (.aload_n 0, 1) := by decide +kernel
theorem dX11_keep_76 : decode cX11_keep 76 = .ok (.getfield 26, 3) := by decide +kernel
theorem dX11_keep_79 : decode cX11_keep 79 = .ok (.iload_n 3, 1) := by decide +kernel
theorem dX11_keep_80 : decode cX11_keep 80 = .ok (.aload_n 0, 1) := by decide +kernel
theorem dX11_keep_81 : decode cX11_keep 81 = .ok (.getfield 76, 3) := by decide +kernel
theorem dX11_keep_84 : decode cX11_keep 84 = .ok (.iload_n 2, 1) := by decide +kernel
theorem dX11_keep_85 : decode cX11_keep 85 = .ok (.iaload, 1) := by decide +kernel
theorem dX11_keep_86 : decode cX11_keep 86 = .ok (.iastore, 1) := by decide +kernel
theorem dX11_keep_87 : decode cX11_keep 87 = .ok (.iconst 0, 1) := by decide +kernel
theorem dX11_keep_88 : decode cX11_keep 88 = .ok (.istore 4, 2) := by decide +kernel
theorem dX11_keep_90 : decode cX11_keep 90 = .ok (.iload 4, 2) := by decide +kernel
theorem dX11_keep_92 : decode cX11_keep 92 = .ok (.aload_n 0, 1) := by decide +kernel
theorem dX11_keep_93 : decode cX11_keep 93 = .ok (.getfield 76, 3) := by decide +kernel
theorem dX11_keep_96 : decode cX11_keep 96 = .ok (.iload_n 2, 1) := by decide +kernel
theorem dX11_keep_97 : decode cX11_keep 97 = .ok (.iaload, 1) := by decide +kernel
theorem dX11_keep_98 : decode cX11_keep 98 = .ok (.if_icmp .ge 143, 3) := by decide +kernel
theorem dX11_keep_101 : decode cX11_keep 101 = .ok (.aload_n 0, 1) := by decide +kernel
theorem dX11_keep_102 : decode cX11_keep 102 = .ok (.getfield 29, 3) := by decide +kernel
theorem dX11_keep_105 : decode cX11_keep 105 = .ok (.bipush 8, 2) := by decide +kernel
theorem dX11_keep_107 : decode cX11_keep 107 = .ok (.iload_n 3, 1) := by decide +kernel
theorem dX11_keep_108 : decode cX11_keep 108 = .ok (.imul, 1) := by decide +kernel
theorem dX11_keep_109 : decode cX11_keep 109 = .ok (.iload 4, 2) := by decide +kernel
theorem dX11_keep_111 : decode cX11_keep 111 = .ok (.iadd, 1) := by decide +kernel
theorem dX11_keep_112 : decode cX11_keep 112 = .ok (.aload_n 0, 1) := by decide +kernel
theorem dX11_keep_113 : decode cX11_keep 113 = .ok (.getfield 79, 3) := by decide +kernel
theorem dX11_keep_116 : decode cX11_keep 116 = .ok (.bipush 8, 2) := by decide +kernel
theorem dX11_keep_118 : decode cX11_keep 118 = .ok (.iload_n 2, 1) := by decide +kernel
theorem dX11_keep_119 : decode cX11_keep 119 = .ok (.imul, 1) := by decide +kernel
theorem dX11_keep_120 : decode cX11_keep 120 = .ok (.iload 4, 2) := by decide +kernel
theorem dX11_keep_122 : decode cX11_keep 122 = .ok (.iadd, 1) := by decide +kernel
theorem dX11_keep_123 : decode cX11_keep 123 = .ok (.iaload, 1) := by decide +kernel
theorem dX11_keep_124 : decode cX11_keep 124 = .ok (.iastore, 1) := by decide +kernel
theorem dX11_keep_125 : decode cX11_keep 125 = .ok (.aload_n 0, 1) := by decide +kernel
theorem dX11_keep_126 : decode cX11_keep 126 = .ok (.getfield 32, 3) := by decide +kernel
theorem dX11_keep_129 : decode cX11_keep 129 = .ok (.bipush 8, 2) := by decide +kernel
theorem dX11_keep_131 : decode cX11_keep 131 = .ok (.iload_n 3, 1) := by decide +kernel
theorem dX11_keep_132 : decode cX11_keep 132 = .ok (.imul, 1) := by decide +kernel
theorem dX11_keep_133 : decode cX11_keep 133 = .ok (.iload 4, 2) := by decide +kernel
theorem dX11_keep_135 : decode cX11_keep 135 = .ok (.iadd, 1) := by decide +kernel
theorem dX11_keep_136 : decode cX11_keep 136 = .ok (.aload_n 0, 1) := by decide +kernel
theorem dX11_keep_137 : decode cX11_keep 137 = .ok (.getfield 82, 3) := by decide +kernel
theorem dX11_keep_140 : decode cX11_keep 140 = .ok (.bipush 8, 2) := by decide +kernel
theorem dX11_keep_142 : decode cX11_keep 142 = .ok (.iload_n 2, 1) := by decide +kernel
theorem dX11_keep_143 : decode cX11_keep 143 = .ok (.imul, 1) := by decide +kernel
theorem dX11_keep_144 : decode cX11_keep 144 = .ok (.iload 4, 2) := by decide +kernel
theorem dX11_keep_146 : decode cX11_keep 146 = .ok (.iadd, 1) := by decide +kernel
theorem dX11_keep_147 : decode cX11_keep 147 = .ok (.baload, 1) := by decide +kernel
theorem dX11_keep_148 : decode cX11_keep 148 = .ok (.bastore, 1) := by decide +kernel
theorem dX11_keep_149 : decode cX11_keep 149 = .ok (.aload_n 0, 1) := by decide +kernel
theorem dX11_keep_150 : decode cX11_keep 150 = .ok (.getfield 35, 3) := by decide +kernel
theorem dX11_keep_153 : decode cX11_keep 153 = .ok (.bipush 8, 2) := by decide +kernel
theorem dX11_keep_155 : decode cX11_keep 155 = .ok (.iload_n 3, 1) := by decide +kernel
theorem dX11_keep_156 : decode cX11_keep 156 = .ok (.imul, 1) := by decide +kernel
theorem dX11_keep_157 : decode cX11_keep 157 = .ok (.iload 4, 2) := by decide +kernel
theorem dX11_keep_159 : decode cX11_keep 159 = .ok (.iadd, 1) := by decide +kernel
theorem dX11_keep_160 : decode cX11_keep 160 = .ok (.aload_n 0, 1) := by decide +kernel
theorem dX11_keep_161 : decode cX11_keep 161 = .ok (.getfield 85, 3) := by decide +kernel
theorem dX11_keep_164 : decode cX11_keep 164 = .ok (.bipush 8, 2) := by decide +kernel
theorem dX11_keep_166 : decode cX11_keep 166 = .ok (.iload_n 2, 1) := by decide +kernel
theorem dX11_keep_167 : decode cX11_keep 167 = .ok (.imul, 1) := by decide +kernel
theorem dX11_keep_168 : decode cX11_keep 168 = .ok (.iload 4, 2) := by decide +kernel
theorem dX11_keep_170 : decode cX11_keep 170 = .ok (.iadd, 1) := by decide +kernel
theorem dX11_keep_171 : decode cX11_keep 171 = .ok (.iaload, 1) := by decide +kernel
theorem dX11_keep_172 : decode cX11_keep 172 = .ok (.iastore, 1) := by decide +kernel
theorem dX11_keep_173 : decode cX11_keep 173 = .ok (.iconst 0, 1) := by decide +kernel
theorem dX11_keep_174 : decode cX11_keep 174 = .ok (.istore 5, 2) := by decide +kernel
theorem dX11_keep_176 : decode cX11_keep 176 = .ok (.iload 5, 2) := by decide +kernel
theorem dX11_keep_178 : decode cX11_keep 178 = .ok (.aload_n 0, 1) := by decide +kernel
theorem dX11_keep_179 : decode cX11_keep 179 = .ok (.getfield 85, 3) := by decide +kernel
theorem dX11_keep_182 : decode cX11_keep 182 = .ok (.bipush 8, 2) := by decide +kernel
theorem dX11_keep_184 : decode cX11_keep 184 = .ok (.iload_n 2, 1) := by decide +kernel
theorem dX11_keep_185 : decode cX11_keep 185 = .ok (.imul, 1) := by decide +kernel
theorem dX11_keep_186 : decode cX11_keep 186 = .ok (.iload 4, 2) := by decide +kernel
theorem dX11_keep_188 : decode cX11_keep 188 = .ok (.iadd, 1) := by decide +kernel
theorem dX11_keep_189 : decode cX11_keep 189 = .ok (.iaload, 1) := by decide +kernel
theorem dX11_keep_190 : decode cX11_keep 190 = .ok (.if_icmp .ge 45, 3) := by decide +kernel
theorem dX11_keep_193 : decode cX11_keep 193 = .ok (.aload_n 0, 1) := by decide +kernel
theorem dX11_keep_194 : decode cX11_keep 194 = .ok (.getfield 38, 3) := by decide +kernel
theorem dX11_keep_197 : decode cX11_keep 197 = .ok (.bipush 12, 2) := by decide +kernel
theorem dX11_keep_199 : decode cX11_keep 199 = .ok (.bipush 8, 2) := by decide +kernel
theorem dX11_keep_201 : decode cX11_keep 201 = .ok (.iload_n 3, 1) := by decide +kernel
theorem dX11_keep_202 : decode cX11_keep 202 = .ok (.imul, 1) := by decide +kernel
theorem dX11_keep_203 : decode cX11_keep 203 = .ok (.iload 4, 2) := by decide +kernel
theorem dX11_keep_205 : decode cX11_keep 205 = .ok (.iadd, 1) := by decide +kernel
theorem dX11_keep_206 : decode cX11_keep 206 = .ok (.imul, 1) := by decide +kernel
theorem dX11_keep_207 : decode cX11_keep 207 = .ok (.iload 5, 2) := by decide +kernel
theorem dX11_keep_209 : decode cX11_keep 209 = .ok (.iadd, 1) := by decide +kernel
theorem dX11_keep_210 : decode cX11_keep 210 = .ok (.aload_n 0, 1) := by decide +kernel
theorem dX11_keep_211 : decode cX11_keep 211 = .ok (.getfield 88, 3) := by decide +kernel
theorem dX11_keep_214 : decode cX11_keep 214 = .ok (.bipush 12, 2) := by decide +kernel
theorem dX11_keep_216 : decode cX11_keep 216 = .ok (.bipush 8, 2) := by decide +kernel
theorem dX11_keep_218 : decode cX11_keep 218 = .ok (.iload_n 2, 1) := by decide +kernel
theorem dX11_keep_219 : decode cX11_keep 219 = .ok (.imul, 1) := by decide +kernel
theorem dX11_keep_220 : decode cX11_keep 220 = .ok (.iload 4, 2) := by decide +kernel
theorem dX11_keep_222 : decode cX11_keep 222 = .ok (.iadd, 1) := by decide +kernel
theorem dX11_keep_223 : decode cX11_keep 223 = .ok (.imul, 1) := by decide +kernel
theorem dX11_keep_224 : decode cX11_keep 224 = .ok (.iload 5, 2) := by decide +kernel
theorem dX11_keep_226 : decode cX11_keep 226 = .ok (.iadd, 1) := by decide +kernel
theorem dX11_keep_227 : decode cX11_keep 227 = .ok (.iaload, 1) := by decide +kernel
theorem dX11_keep_228 : decode cX11_keep 228 = .ok (.iastore, 1) := by decide +kernel
theorem dX11_keep_229 : decode cX11_keep 229 = .ok (.iinc 5 1, 3) := by decide +kernel
theorem dX11_keep_232 : decode cX11_keep 232 = .ok (.goto (-56), 3) := by decide +kernel
theorem dX11_keep_235 : decode cX11_keep 235 = .ok (.iinc 4 1, 3) := by decide +kernel
theorem dX11_keep_238 : decode cX11_keep 238 = .ok (.goto (-148), 3) := by decide +kernel
theorem dX11_keep_241 : decode cX11_keep 241 = .ok (.iinc 2 1, 3) := by decide +kernel
theorem dX11_keep_244 : decode cX11_keep 244 = .ok (.goto (-232), 3) := by decide +kernel
theorem dX11_keep_247 : decode cX11_keep 247 = .ok (.return_, 1) := by decide +kernel
theorem dX11_fault_0 : decode cX11_fault 0 = .ok (.aload_n 0, 1) := by decide +kernel
theorem dX11_fault_1 : decode cX11_fault 1 = .ok (.getfield 60, 3) := by decide +kernel
theorem dX11_fault_4 : decode cX11_fault 4 = .ok (.ireturn, 1) := by decide +kernel
theorem dX11_byteOf_0 : decode cX11_byteOf 0 = .ok (.aload_n 0, 1) := by decide +kernel
theorem dX11_byteOf_1 : decode cX11_byteOf 1 = .ok (.getfield 44, 3) := by decide +kernel
theorem dX11_byteOf_4 : decode cX11_byteOf 4 = .ok (.bipush 8, 2) := by decide +kernel
theorem dX11_byteOf_6 : decode cX11_byteOf 6 = .ok (.iload_n 1, 1) := by decide +kernel
theorem dX11_byteOf_7 : decode cX11_byteOf 7 = .ok (.imul, 1) := by decide +kernel
theorem dX11_byteOf_8 : decode cX11_byteOf 8 = .ok (.iload_n 2, 1) := by decide +kernel
theorem dX11_byteOf_9 : decode cX11_byteOf 9 = .ok (.bipush 8, 2) := by decide +kernel
theorem dX11_byteOf_11 : decode cX11_byteOf 11 = .ok (.idiv, 1) := by decide +kernel
theorem dX11_byteOf_12 : decode cX11_byteOf 12 = .ok (.iadd, 1) := by decide +kernel
theorem dX11_byteOf_13 : decode cX11_byteOf 13 = .ok (.laload, 1) := by decide +kernel
theorem dX11_byteOf_14 : decode cX11_byteOf 14 = .ok (.bipush 8, 2) := by decide +kernel
theorem dX11_byteOf_16 : decode cX11_byteOf 16 = .ok (.iload_n 2, 1) := by decide +kernel
theorem dX11_byteOf_17 : decode cX11_byteOf 17 = .ok (.bipush 8, 2) := by decide +kernel
theorem dX11_byteOf_19 : decode cX11_byteOf 19 = .ok (.irem, 1) := by decide +kernel
theorem dX11_byteOf_20 : decode cX11_byteOf 20 = .ok (.imul, 1) := by decide +kernel
theorem dX11_byteOf_21 : decode cX11_byteOf 21 = .ok (.lshr, 1) := by decide +kernel
theorem dX11_byteOf_22 : decode cX11_byteOf 22 = .ok (.ldc2_w 134, 3) := by decide +kernel
theorem dX11_byteOf_25 : decode cX11_byteOf 25 = .ok (.land, 1) := by decide +kernel
theorem dX11_byteOf_26 : decode cX11_byteOf 26 = .ok (.l2i, 1) := by decide +kernel
theorem dX11_byteOf_27 : decode cX11_byteOf 27 = .ok (.ireturn, 1) := by decide +kernel
theorem dX11_clauseFor_0 : decode cX11_clauseFor 0 = .ok (.iconst (-1), 1) := by decide +kernel
theorem dX11_clauseFor_1 : decode cX11_clauseFor 1 = .ok (.istore_n 3, 1) := by decide +kernel
theorem dX11_clauseFor_2 : decode cX11_clauseFor 2 = .ok (.bipush 12, 2) := by decide +kernel
theorem dX11_clauseFor_4 : decode cX11_clauseFor 4 = .ok (.iload_n 1, 1) := by decide +kernel
theorem dX11_clauseFor_5 : decode cX11_clauseFor 5 = .ok (.imul, 1) := by decide +kernel
theorem dX11_clauseFor_6 : decode cX11_clauseFor 6 = .ok (.aload_n 0, 1) := by decide +kernel
theorem dX11_clauseFor_7 : decode cX11_clauseFor 7 = .ok (.getfield 7, 3) := by decide +kernel
theorem dX11_clauseFor_10 : decode cX11_clauseFor 10 = .ok (.iload_n 1, 1) := by decide +kernel
theorem dX11_clauseFor_11 : decode cX11_clauseFor 11 = .ok (.iaload, 1) := by decide +kernel
theorem dX11_clauseFor_12 : decode cX11_clauseFor 12 = .ok (.iadd, 1) := by decide +kernel
theorem dX11_clauseFor_13 : decode cX11_clauseFor 13 = .ok (.iconst 1, 1) := by decide +kernel
theorem dX11_clauseFor_14 : decode cX11_clauseFor 14 = .ok (.isub, 1) := by decide +kernel
theorem dX11_clauseFor_15 : decode cX11_clauseFor 15 = .ok (.istore 4, 2) := by decide +kernel
theorem dX11_clauseFor_17 : decode cX11_clauseFor 17 = .ok (.iload 4, 2) := by decide +kernel
theorem dX11_clauseFor_19 : decode cX11_clauseFor 19 = .ok (.bipush 12, 2) := by decide +kernel
theorem dX11_clauseFor_21 : decode cX11_clauseFor 21 = .ok (.iload_n 1, 1) := by decide +kernel
theorem dX11_clauseFor_22 : decode cX11_clauseFor 22 = .ok (.imul, 1) := by decide +kernel
theorem dX11_clauseFor_23 : decode cX11_clauseFor 23 = .ok (.if_icmp .lt 48, 3) := by decide +kernel
theorem dX11_clauseFor_26 : decode cX11_clauseFor 26 = .ok (.aload_n 0, 1) := by decide +kernel
theorem dX11_clauseFor_27 : decode cX11_clauseFor 27 = .ok (.getfield 13, 3) := by decide +kernel
theorem dX11_clauseFor_30 : decode cX11_clauseFor 30 = .ok (.iload 4, 2) := by decide +kernel
theorem dX11_clauseFor_32 : decode cX11_clauseFor 32 = .ok (.baload, 1) := by decide +kernel
theorem dX11_clauseFor_33 : decode cX11_clauseFor 33 = .ok (.ifCond .ne 30, 3) := by decide +kernel
theorem dX11_clauseFor_36 : decode cX11_clauseFor 36 = .ok (.iload_n 2, 1) := by decide +kernel
theorem dX11_clauseFor_37 : decode cX11_clauseFor 37 = .ok (.aload_n 0, 1) := by decide +kernel
theorem dX11_clauseFor_38 : decode cX11_clauseFor 38 = .ok (.getfield 17, 3) := by decide +kernel
theorem dX11_clauseFor_41 : decode cX11_clauseFor 41 = .ok (.iload 4, 2) := by decide +kernel
theorem dX11_clauseFor_43 : decode cX11_clauseFor 43 = .ok (.iaload, 1) := by decide +kernel
theorem dX11_clauseFor_44 : decode cX11_clauseFor 44 = .ok (.if_icmp .lt 19, 3) := by decide +kernel
theorem dX11_clauseFor_47 : decode cX11_clauseFor 47 = .ok (.iload_n 2, 1) := by decide +kernel
theorem dX11_clauseFor_48 : decode cX11_clauseFor 48 = .ok (.aload_n 0, 1) := by decide +kernel
theorem dX11_clauseFor_49 : decode cX11_clauseFor 49 = .ok (.getfield 20, 3) := by decide +kernel
theorem dX11_clauseFor_52 : decode cX11_clauseFor 52 = .ok (.iload 4, 2) := by decide +kernel
theorem dX11_clauseFor_54 : decode cX11_clauseFor 54 = .ok (.iaload, 1) := by decide +kernel
theorem dX11_clauseFor_55 : decode cX11_clauseFor 55 = .ok (.if_icmp .gt 8, 3) := by decide +kernel
theorem dX11_clauseFor_58 : decode cX11_clauseFor 58 = .ok (.iload 4, 2) := by decide +kernel
theorem dX11_clauseFor_60 : decode cX11_clauseFor 60 = .ok (.goto 4, 3) := by decide +kernel
theorem dX11_clauseFor_63 : decode cX11_clauseFor 63 = .ok (.iload_n 3, 1) := by decide +kernel
theorem dX11_clauseFor_64 : decode cX11_clauseFor 64 = .ok (.istore_n 3, 1) := by decide +kernel
theorem dX11_clauseFor_65 : decode cX11_clauseFor 65 = .ok (.iinc 4 (-1), 3) := by decide +kernel
theorem dX11_clauseFor_68 : decode cX11_clauseFor 68 = .ok (.goto (-51), 3) := by decide +kernel
theorem dX11_clauseFor_71 : decode cX11_clauseFor 71 = .ok (.bipush 12, 2) := by decide +kernel
theorem dX11_clauseFor_73 : decode cX11_clauseFor 73 = .ok (.iload_n 1, 1) := by decide +kernel
theorem dX11_clauseFor_74 : decode cX11_clauseFor 74 = .ok (.imul, 1) := by decide +kernel
theorem dX11_clauseFor_75 : decode cX11_clauseFor 75 = .ok (.istore 4, 2) := by decide +kernel
theorem dX11_clauseFor_77 : decode cX11_clauseFor 77 = .ok (.iload 4, 2) := by decide +kernel
theorem dX11_clauseFor_79 : decode cX11_clauseFor 79 = .ok (.bipush 12, 2) := by decide +kernel
theorem dX11_clauseFor_81 : decode cX11_clauseFor 81 = .ok (.iload_n 1, 1) := by decide +kernel
theorem dX11_clauseFor_82 : decode cX11_clauseFor 82 = .ok (.imul, 1) := by decide +kernel
theorem dX11_clauseFor_83 : decode cX11_clauseFor 83 = .ok (.aload_n 0, 1) := by decide +kernel
theorem dX11_clauseFor_84 : decode cX11_clauseFor 84 = .ok (.getfield 7, 3) := by decide +kernel
theorem dX11_clauseFor_87 : decode cX11_clauseFor 87 = .ok (.iload_n 1, 1) := by decide +kernel
theorem dX11_clauseFor_88 : decode cX11_clauseFor 88 = .ok (.iaload, 1) := by decide +kernel
theorem dX11_clauseFor_89 : decode cX11_clauseFor 89 = .ok (.iadd, 1) := by decide +kernel
theorem dX11_clauseFor_90 : decode cX11_clauseFor 90 = .ok (.if_icmp .ge 37, 3) := by decide +kernel
theorem dX11_clauseFor_93 : decode cX11_clauseFor 93 = .ok (.aload_n 0, 1) := by decide +kernel
theorem dX11_clauseFor_94 : decode cX11_clauseFor 94 = .ok (.getfield 13, 3) := by decide +kernel
theorem dX11_clauseFor_97 : decode cX11_clauseFor 97 = .ok (.iload 4, 2) := by decide +kernel
theorem dX11_clauseFor_99 : decode cX11_clauseFor 99 = .ok (.baload, 1) := by decide +kernel
theorem dX11_clauseFor_100 : decode cX11_clauseFor 100 = .ok (.ifCond .eq 19, 3) := by decide +kernel
theorem dX11_clauseFor_103 : decode cX11_clauseFor 103 = .ok (.iload_n 2, 1) := by decide +kernel
theorem dX11_clauseFor_104 : decode cX11_clauseFor 104 = .ok (.aload_n 0, 1) := by decide +kernel
theorem dX11_clauseFor_105 : decode cX11_clauseFor 105 = .ok (.getfield 17, 3) := by decide +kernel
theorem dX11_clauseFor_108 : decode cX11_clauseFor 108 = .ok (.iload 4, 2) := by decide +kernel
theorem dX11_clauseFor_110 : decode cX11_clauseFor 110 = .ok (.iaload, 1) := by decide +kernel
theorem dX11_clauseFor_111 : decode cX11_clauseFor 111 = .ok (.if_icmp .ne 8, 3) := by decide +kernel
theorem dX11_clauseFor_114 : decode cX11_clauseFor 114 = .ok (.iload 4, 2) := by decide +kernel
theorem dX11_clauseFor_116 : decode cX11_clauseFor 116 = .ok (.goto 4, 3) := by decide +kernel
theorem dX11_clauseFor_119 : decode cX11_clauseFor 119 = .ok (.iload_n 3, 1) := by decide +kernel
theorem dX11_clauseFor_120 : decode cX11_clauseFor 120 = .ok (.istore_n 3, 1) := by decide +kernel
theorem dX11_clauseFor_121 : decode cX11_clauseFor 121 = .ok (.iinc 4 1, 3) := by decide +kernel
theorem dX11_clauseFor_124 : decode cX11_clauseFor 124 = .ok (.goto (-47), 3) := by decide +kernel
theorem dX11_clauseFor_127 : decode cX11_clauseFor 127 = .ok (.iload_n 3, 1) := by decide +kernel
theorem dX11_clauseFor_128 : decode cX11_clauseFor 128 = .ok (.ireturn, 1) := by decide +kernel
theorem dX11_numberOf_0 : decode cX11_numberOf 0 = .ok (.aload_n 0, 1) := by decide +kernel
theorem dX11_numberOf_1 : decode cX11_numberOf 1 = .ok (.getfield 23, 3) := by decide +kernel
theorem dX11_numberOf_4 : decode cX11_numberOf 4 = .ok (.iload_n 2, 1) := by decide +kernel
theorem dX11_numberOf_5 : decode cX11_numberOf 5 = .ok (.iaload, 1) := by decide +kernel
theorem dX11_numberOf_6 : decode cX11_numberOf 6 = .ok (.istore 4, 2) := by decide +kernel
theorem dX11_numberOf_8 : decode cX11_numberOf 8 = .ok (.iload_n 3, 1) := by decide +kernel
theorem dX11_numberOf_9 : decode cX11_numberOf 9 = .ok (.iload 4, 2) := by decide +kernel
theorem dX11_numberOf_11 : decode cX11_numberOf 11 = .ok (.irem, 1) := by decide +kernel
theorem dX11_numberOf_12 : decode cX11_numberOf 12 = .ok (.istore 5, 2) := by decide +kernel
theorem dX11_numberOf_14 : decode cX11_numberOf 14 = .ok (.aload_n 0, 1) := by decide +kernel
theorem dX11_numberOf_15 : decode cX11_numberOf 15 = .ok (.getfield 29, 3) := by decide +kernel
theorem dX11_numberOf_18 : decode cX11_numberOf 18 = .ok (.iload_n 1, 1) := by decide +kernel
theorem dX11_numberOf_19 : decode cX11_numberOf 19 = .ok (.iaload, 1) := by decide +kernel
theorem dX11_numberOf_20 : decode cX11_numberOf 20 = .ok (.tableswitch 63 1 5 #[36, 41, 46, 49, 55], 36) := by decide +kernel
theorem dX11_numberOf_56 : decode cX11_numberOf 56 = .ok (.iload_n 3, 1) := by decide +kernel
theorem dX11_numberOf_57 : decode cX11_numberOf 57 = .ok (.iload 4, 2) := by decide +kernel
theorem dX11_numberOf_59 : decode cX11_numberOf 59 = .ok (.idiv, 1) := by decide +kernel
theorem dX11_numberOf_60 : decode cX11_numberOf 60 = .ok (.ireturn, 1) := by decide +kernel
theorem dX11_numberOf_61 : decode cX11_numberOf 61 = .ok (.iload_n 3, 1) := by decide +kernel
theorem dX11_numberOf_62 : decode cX11_numberOf 62 = .ok (.iload 5, 2) := by decide +kernel
theorem dX11_numberOf_64 : decode cX11_numberOf 64 = .ok (.isub, 1) := by decide +kernel
theorem dX11_numberOf_65 : decode cX11_numberOf 65 = .ok (.ireturn, 1) := by decide +kernel
theorem dX11_numberOf_66 : decode cX11_numberOf 66 = .ok (.iload 5, 2) := by decide +kernel
theorem dX11_numberOf_68 : decode cX11_numberOf 68 = .ok (.ireturn, 1) := by decide +kernel
theorem dX11_numberOf_69 : decode cX11_numberOf 69 = .ok (.iload 4, 2) := by decide +kernel
theorem dX11_numberOf_71 : decode cX11_numberOf 71 = .ok (.iload 5, 2) := by decide +kernel
theorem dX11_numberOf_73 : decode cX11_numberOf 73 = .ok (.isub, 1) := by decide +kernel
theorem dX11_numberOf_74 : decode cX11_numberOf 74 = .ok (.ireturn, 1) := by decide +kernel
theorem dX11_numberOf_75 : decode cX11_numberOf 75 = .ok (.iload_n 3, 1) := by decide +kernel
theorem dX11_numberOf_76 : decode cX11_numberOf 76 = .ok (.iload 5, 2) := by decide +kernel
theorem dX11_numberOf_78 : decode cX11_numberOf 78 = .ok (.isub, 1) := by decide +kernel
theorem dX11_numberOf_79 : decode cX11_numberOf 79 = .ok (.iload 4, 2) := by decide +kernel
theorem dX11_numberOf_81 : decode cX11_numberOf 81 = .ok (.iadd, 1) := by decide +kernel
theorem dX11_numberOf_82 : decode cX11_numberOf 82 = .ok (.ireturn, 1) := by decide +kernel
theorem dX11_numberOf_83 : decode cX11_numberOf 83 = .ok (.iconst (-1), 1) := by decide +kernel
theorem dX11_numberOf_84 : decode cX11_numberOf 84 = .ok (.ireturn, 1) := by decide +kernel
theorem dX11_isThere_0 : decode cX11_isThere 0 = .ok (.aload_n 0, 1) := by decide +kernel
theorem dX11_isThere_1 : decode cX11_isThere 1 = .ok (.getfield 32, 3) := by decide +kernel
theorem dX11_isThere_4 : decode cX11_isThere 4 = .ok (.iload_n 1, 1) := by decide +kernel
theorem dX11_isThere_5 : decode cX11_isThere 5 = .ok (.baload, 1) := by decide +kernel
theorem dX11_isThere_6 : decode cX11_isThere 6 = .ok (.ifCond .eq 14, 3) := by decide +kernel
theorem dX11_isThere_9 : decode cX11_isThere 9 = .ok (.iload_n 3, 1) := by decide +kernel
theorem dX11_isThere_10 : decode cX11_isThere 10 = .ok (.aload_n 0, 1) := by decide +kernel
theorem dX11_isThere_11 : decode cX11_isThere 11 = .ok (.getfield 23, 3) := by decide +kernel
theorem dX11_isThere_14 : decode cX11_isThere 14 = .ok (.iload_n 2, 1) := by decide +kernel
theorem dX11_isThere_15 : decode cX11_isThere 15 = .ok (.iaload, 1) := by decide +kernel
theorem dX11_isThere_16 : decode cX11_isThere 16 = .ok (.irem, 1) := by decide +kernel
theorem dX11_isThere_17 : decode cX11_isThere 17 = .ok (.ifCond .eq 7, 3) := by decide +kernel
theorem dX11_isThere_20 : decode cX11_isThere 20 = .ok (.iconst 1, 1) := by decide +kernel
theorem dX11_isThere_21 : decode cX11_isThere 21 = .ok (.goto 4, 3) := by decide +kernel
theorem dX11_isThere_24 : decode cX11_isThere 24 = .ok (.iconst 0, 1) := by decide +kernel
theorem dX11_isThere_25 : decode cX11_isThere 25 = .ok (.ireturn, 1) := by decide +kernel
theorem dX11_stateOf_0 : decode cX11_stateOf 0 = .ok (.iconst 1, 1) := by decide +kernel
theorem dX11_stateOf_1 : decode cX11_stateOf 1 = .ok (.istore_n 3, 1) := by decide +kernel
theorem dX11_stateOf_2 : decode cX11_stateOf 2 = .ok (.bipush 8, 2) := by decide +kernel
theorem dX11_stateOf_4 : decode cX11_stateOf 4 = .ok (.iload_n 1, 1) := by decide +kernel
theorem dX11_stateOf_5 : decode cX11_stateOf 5 = .ok (.imul, 1) := by decide +kernel
theorem dX11_stateOf_6 : decode cX11_stateOf 6 = .ok (.istore 4, 2) := by decide +kernel
theorem dX11_stateOf_8 : decode cX11_stateOf 8 = .ok (.iload 4, 2) := by decide +kernel
theorem dX11_stateOf_10 : decode cX11_stateOf 10 = .ok (.bipush 8, 2) := by decide +kernel
theorem dX11_stateOf_12 : decode cX11_stateOf 12 = .ok (.iload_n 1, 1) := by decide +kernel
theorem dX11_stateOf_13 : decode cX11_stateOf 13 = .ok (.imul, 1) := by decide +kernel
theorem dX11_stateOf_14 : decode cX11_stateOf 14 = .ok (.aload_n 0, 1) := by decide +kernel
theorem dX11_stateOf_15 : decode cX11_stateOf 15 = .ok (.getfield 26, 3) := by decide +kernel
theorem dX11_stateOf_18 : decode cX11_stateOf 18 = .ok (.iload_n 1, 1) := by decide +kernel
theorem dX11_stateOf_19 : decode cX11_stateOf 19 = .ok (.iaload, 1) := by decide +kernel
theorem dX11_stateOf_20 : decode cX11_stateOf 20 = .ok (.iadd, 1) := by decide +kernel
theorem dX11_stateOf_21 : decode cX11_stateOf 21 = .ok (.if_icmp .ge 87, 3) := by decide +kernel
theorem dX11_stateOf_24 : decode cX11_stateOf 24 = .ok (.aload_n 0, 1) := by decide +kernel
theorem dX11_stateOf_25 : decode cX11_stateOf 25 = .ok (.getfield 29, 3) := by decide +kernel
theorem dX11_stateOf_28 : decode cX11_stateOf 28 = .ok (.iload 4, 2) := by decide +kernel
theorem dX11_stateOf_30 : decode cX11_stateOf 30 = .ok (.iaload, 1) := by decide +kernel
theorem dX11_stateOf_31 : decode cX11_stateOf 31 = .ok (.ifCond .eq 71, 3) := by decide +kernel
theorem dX11_stateOf_34 : decode cX11_stateOf 34 = .ok (.aload_n 0, 1) := by decide +kernel
theorem dX11_stateOf_35 : decode cX11_stateOf 35 = .ok (.iload 4, 2) := by decide +kernel
theorem dX11_stateOf_37 : decode cX11_stateOf 37 = .ok (.iload_n 1, 1) := by decide +kernel
theorem dX11_stateOf_38 : decode cX11_stateOf 38 = .ok (.iload_n 2, 1) := by decide +kernel
theorem dX11_stateOf_39 : decode cX11_stateOf 39 = .ok (.invokevirtual 208, 3) := by decide +kernel
theorem dX11_stateOf_42 : decode cX11_stateOf 42 = .ok (.ifCond .eq 60, 3) := by decide +kernel
theorem dX11_stateOf_45 : decode cX11_stateOf 45 = .ok (.aload_n 0, 1) := by decide +kernel
theorem dX11_stateOf_46 : decode cX11_stateOf 46 = .ok (.iload 4, 2) := by decide +kernel
theorem dX11_stateOf_48 : decode cX11_stateOf 48 = .ok (.iload_n 1, 1) := by decide +kernel
theorem dX11_stateOf_49 : decode cX11_stateOf 49 = .ok (.iload_n 2, 1) := by decide +kernel
theorem dX11_stateOf_50 : decode cX11_stateOf 50 = .ok (.invokevirtual 212, 3) := by decide +kernel
theorem dX11_stateOf_53 : decode cX11_stateOf 53 = .ok (.istore 5, 2) := by decide +kernel
theorem dX11_stateOf_55 : decode cX11_stateOf 55 = .ok (.iload 5, 2) := by decide +kernel
theorem dX11_stateOf_57 : decode cX11_stateOf 57 = .ok (.invokestatic 216, 3) := by decide +kernel
theorem dX11_stateOf_60 : decode cX11_stateOf 60 = .ok (.ifCond .eq 13, 3) := by decide +kernel
theorem dX11_stateOf_63 : decode cX11_stateOf 63 = .ok (.aload_n 0, 1) := by decide +kernel
theorem dX11_stateOf_64 : decode cX11_stateOf 64 = .ok (.getfield 94, 3) := by decide +kernel
theorem dX11_stateOf_67 : decode cX11_stateOf 67 = .ok (.iload 5, 2) := by decide +kernel
theorem dX11_stateOf_69 : decode cX11_stateOf 69 = .ok (.iaload, 1) := by decide +kernel
theorem dX11_stateOf_70 : decode cX11_stateOf 70 = .ok (.goto 4, 3) := by decide +kernel
theorem dX11_stateOf_73 : decode cX11_stateOf 73 = .ok (.iconst 2, 1) := by decide +kernel
theorem dX11_stateOf_74 : decode cX11_stateOf 74 = .ok (.istore 6, 2) := by decide +kernel
theorem dX11_stateOf_76 : decode cX11_stateOf 76 = .ok (.iload 6, 2) := by decide +kernel
theorem dX11_stateOf_78 : decode cX11_stateOf 78 = .ok (.iconst 2, 1) := by decide +kernel
theorem dX11_stateOf_79 : decode cX11_stateOf 79 = .ok (.if_icmp .eq 8, 3) := by decide +kernel
theorem dX11_stateOf_82 : decode cX11_stateOf 82 = .ok (.iload_n 3, 1) := by decide +kernel
theorem dX11_stateOf_83 : decode cX11_stateOf 83 = .ok (.iconst 2, 1) := by decide +kernel
theorem dX11_stateOf_84 : decode cX11_stateOf 84 = .ok (.if_icmp .ne 7, 3) := by decide +kernel
theorem dX11_stateOf_87 : decode cX11_stateOf 87 = .ok (.iconst 2, 1) := by decide +kernel
theorem dX11_stateOf_88 : decode cX11_stateOf 88 = .ok (.goto 13, 3) := by decide +kernel
theorem dX11_stateOf_91 : decode cX11_stateOf 91 = .ok (.iload 6, 2) := by decide +kernel
theorem dX11_stateOf_93 : decode cX11_stateOf 93 = .ok (.ifCond .ne 7, 3) := by decide +kernel
theorem dX11_stateOf_96 : decode cX11_stateOf 96 = .ok (.iconst 0, 1) := by decide +kernel
theorem dX11_stateOf_97 : decode cX11_stateOf 97 = .ok (.goto 4, 3) := by decide +kernel
theorem dX11_stateOf_100 : decode cX11_stateOf 100 = .ok (.iload_n 3, 1) := by decide +kernel
theorem dX11_stateOf_101 : decode cX11_stateOf 101 = .ok (.istore_n 3, 1) := by decide +kernel
theorem dX11_stateOf_102 : decode cX11_stateOf 102 = .ok (.iinc 4 1, 3) := by decide +kernel
theorem dX11_stateOf_105 : decode cX11_stateOf 105 = .ok (.goto (-97), 3) := by decide +kernel
theorem dX11_stateOf_108 : decode cX11_stateOf 108 = .ok (.iload_n 3, 1) := by decide +kernel
theorem dX11_stateOf_109 : decode cX11_stateOf 109 = .ok (.ireturn, 1) := by decide +kernel
theorem dX11_addBytes_0 : decode cX11_addBytes 0 = .ok (.iload_n 3, 1) := by decide +kernel
theorem dX11_addBytes_1 : decode cX11_addBytes 1 = .ok (.ifCond .ge 12, 3) := by decide +kernel
theorem dX11_addBytes_4 : decode cX11_addBytes 4 = .ok (.aload_n 0, 1) := by decide +kernel
theorem dX11_addBytes_5 : decode cX11_addBytes 5 = .ok (.getfield 35, 3) := by decide +kernel
theorem dX11_addBytes_8 : decode cX11_addBytes 8 = .ok (.iload_n 2, 1) := by decide +kernel
theorem dX11_addBytes_9 : decode cX11_addBytes 9 = .ok (.iaload, 1) := by decide +kernel
theorem dX11_addBytes_10 : decode cX11_addBytes 10 = .ok (.goto 15, 3) := by decide +kernel
theorem dX11_addBytes_13 : decode cX11_addBytes 13 = .ok (.aload_n 0, 1) := by decide +kernel
theorem dX11_addBytes_14 : decode cX11_addBytes 14 = .ok (.getfield 41, 3) := by decide +kernel
theorem dX11_addBytes_17 : decode cX11_addBytes 17 = .ok (.sipush 1000, 3) := by decide +kernel
theorem dX11_addBytes_20 : decode cX11_addBytes 20 = .ok (.iload_n 1, 1) := by decide +kernel
theorem dX11_addBytes_21 : decode cX11_addBytes 21 = .ok (.imul, 1) := by decide +kernel
theorem dX11_addBytes_22 : decode cX11_addBytes 22 = .ok (.iload_n 3, 1) := by decide +kernel
theorem dX11_addBytes_23 : decode cX11_addBytes 23 = .ok (.iadd, 1) := by decide +kernel
theorem dX11_addBytes_24 : decode cX11_addBytes 24 = .ok (.iaload, 1) := by decide +kernel
theorem dX11_addBytes_25 : decode cX11_addBytes 25 = .ok (.istore 4, 2) := by decide +kernel
theorem dX11_addBytes_27 : decode cX11_addBytes 27 = .ok (.iload 4, 2) := by decide +kernel
theorem dX11_addBytes_29 : decode cX11_addBytes 29 = .ok (.ifCond .le 31, 3) := by decide +kernel
theorem dX11_addBytes_32 : decode cX11_addBytes 32 = .ok (.aload_n 0, 1) := by decide +kernel
theorem dX11_addBytes_33 : decode cX11_addBytes 33 = .ok (.getfield 219, 3) := by decide +kernel
theorem dX11_addBytes_36 : decode cX11_addBytes 36 = .ok (.ifCond .le 24, 3) := by decide +kernel
theorem dX11_addBytes_39 : decode cX11_addBytes 39 = .ok (.aload_n 0, 1) := by decide +kernel
theorem dX11_addBytes_40 : decode cX11_addBytes 40 = .ok (.getfield 91, 3) := by decide +kernel
theorem dX11_addBytes_43 : decode cX11_addBytes 43 = .ok (.aload_n 0, 1) := by decide +kernel
theorem dX11_addBytes_44 : decode cX11_addBytes 44 = .ok (.getfield 219, 3) := by decide +kernel
theorem dX11_addBytes_47 : decode cX11_addBytes 47 = .ok (.bipush 32, 2) := by decide +kernel
theorem dX11_addBytes_49 : decode cX11_addBytes 49 = .ok (.iastore, 1) := by decide +kernel
theorem dX11_addBytes_50 : decode cX11_addBytes 50 = .ok (.aload_n 0, 1) := by decide +kernel
theorem dX11_addBytes_51 : decode cX11_addBytes 51 = .ok (.dup, 1) := by decide +kernel
theorem dX11_addBytes_52 : decode cX11_addBytes 52 = .ok (.getfield 219, 3) := by decide +kernel
theorem dX11_addBytes_55 : decode cX11_addBytes 55 = .ok (.iconst 1, 1) := by decide +kernel
theorem dX11_addBytes_56 : decode cX11_addBytes 56 = .ok (.iadd, 1) := by decide +kernel
theorem dX11_addBytes_57 : decode cX11_addBytes 57 = .ok (.putfield 219, 3) := by decide +kernel
theorem dX11_addBytes_60 : decode cX11_addBytes 60 = .ok (.iconst 0, 1) := by decide +kernel
theorem dX11_addBytes_61 : decode cX11_addBytes 61 = .ok (.istore 5, 2) := by decide +kernel
theorem dX11_addBytes_63 : decode cX11_addBytes 63 = .ok (.iload 5, 2) := by decide +kernel
theorem dX11_addBytes_65 : decode cX11_addBytes 65 = .ok (.iload 4, 2) := by decide +kernel
theorem dX11_addBytes_67 : decode cX11_addBytes 67 = .ok (.if_icmp .ge 60, 3) := by decide +kernel
theorem dX11_addBytes_70 : decode cX11_addBytes 70 = .ok (.aload_n 0, 1) := by decide +kernel
theorem dX11_addBytes_71 : decode cX11_addBytes 71 = .ok (.getfield 91, 3) := by decide +kernel
theorem dX11_addBytes_74 : decode cX11_addBytes 74 = .ok (.aload_n 0, 1) := by decide +kernel
theorem dX11_addBytes_75 : decode cX11_addBytes 75 = .ok (.getfield 219, 3) := by decide +kernel
theorem dX11_addBytes_78 : decode cX11_addBytes 78 = .ok (.iload_n 3, 1) := by decide +kernel
theorem dX11_addBytes_79 : decode cX11_addBytes 79 = .ok (.ifCond .ge 18, 3) := by decide +kernel
theorem dX11_addBytes_82 : decode cX11_addBytes 82 = .ok (.aload_n 0, 1) := by decide +kernel
theorem dX11_addBytes_83 : decode cX11_addBytes 83 = .ok (.getfield 38, 3) := by decide +kernel
theorem dX11_addBytes_86 : decode cX11_addBytes 86 = .ok (.bipush 12, 2) := by decide +kernel
theorem dX11_addBytes_88 : decode cX11_addBytes 88 = .ok (.iload_n 2, 1) := by decide +kernel
theorem dX11_addBytes_89 : decode cX11_addBytes 89 = .ok (.imul, 1) := by decide +kernel
theorem dX11_addBytes_90 : decode cX11_addBytes 90 = .ok (.iload 5, 2) := by decide +kernel
theorem dX11_addBytes_92 : decode cX11_addBytes 92 = .ok (.iadd, 1) := by decide +kernel
theorem dX11_addBytes_93 : decode cX11_addBytes 93 = .ok (.iaload, 1) := by decide +kernel
theorem dX11_addBytes_94 : decode cX11_addBytes 94 = .ok (.goto 16, 3) := by decide +kernel
theorem dX11_addBytes_97 : decode cX11_addBytes 97 = .ok (.aload_n 0, 1) := by decide +kernel
theorem dX11_addBytes_98 : decode cX11_addBytes 98 = .ok (.sipush 1000, 3) := by decide +kernel
theorem dX11_addBytes_101 : decode cX11_addBytes 101 = .ok (.iload_n 1, 1) := by decide +kernel
theorem dX11_addBytes_102 : decode cX11_addBytes 102 = .ok (.imul, 1) := by decide +kernel
theorem dX11_addBytes_103 : decode cX11_addBytes 103 = .ok (.iload_n 3, 1) := by decide +kernel
theorem dX11_addBytes_104 : decode cX11_addBytes 104 = .ok (.iadd, 1) := by decide +kernel
theorem dX11_addBytes_105 : decode cX11_addBytes 105 = .ok (.iload 5, 2) := by decide +kernel
theorem dX11_addBytes_107 : decode cX11_addBytes 107 = .ok (.invokevirtual 222, 3) := by decide +kernel
theorem dX11_addBytes_110 : decode cX11_addBytes 110 = .ok (.iastore, 1) := by decide +kernel
theorem dX11_addBytes_111 : decode cX11_addBytes 111 = .ok (.aload_n 0, 1) := by decide +kernel
theorem dX11_addBytes_112 : decode cX11_addBytes 112 = .ok (.dup, 1) := by decide +kernel
theorem dX11_addBytes_113 : decode cX11_addBytes 113 = .ok (.getfield 219, 3) := by decide +kernel
theorem dX11_addBytes_116 : decode cX11_addBytes 116 = .ok (.iconst 1, 1) := by decide +kernel
theorem dX11_addBytes_117 : decode cX11_addBytes 117 = .ok (.iadd, 1) := by decide +kernel
theorem dX11_addBytes_118 : decode cX11_addBytes 118 = .ok (.putfield 219, 3) := by decide +kernel
theorem dX11_addBytes_121 : decode cX11_addBytes 121 = .ok (.iinc 5 1, 3) := by decide +kernel
theorem dX11_addBytes_124 : decode cX11_addBytes 124 = .ok (.goto (-61), 3) := by decide +kernel
theorem dX11_addBytes_127 : decode cX11_addBytes 127 = .ok (.return_, 1) := by decide +kernel
theorem dX11_makeName_0 : decode cX11_makeName 0 = .ok (.iconst 0, 1) := by decide +kernel
theorem dX11_makeName_1 : decode cX11_makeName 1 = .ok (.istore 4, 2) := by decide +kernel
theorem dX11_makeName_3 : decode cX11_makeName 3 = .ok (.aload_n 0, 1) := by decide +kernel
theorem dX11_makeName_4 : decode cX11_makeName 4 = .ok (.iconst 0, 1) := by decide +kernel
theorem dX11_makeName_5 : decode cX11_makeName 5 = .ok (.putfield 219, 3) := by decide +kernel
theorem dX11_makeName_8 : decode cX11_makeName 8 = .ok (.bipush 8, 2) := by decide +kernel
theorem dX11_makeName_10 : decode cX11_makeName 10 = .ok (.iload_n 2, 1) := by decide +kernel
theorem dX11_makeName_11 : decode cX11_makeName 11 = .ok (.imul, 1) := by decide +kernel
theorem dX11_makeName_12 : decode cX11_makeName 12 = .ok (.istore 5, 2) := by decide +kernel
theorem dX11_makeName_14 : decode cX11_makeName 14 = .ok (.iload 5, 2) := by decide +kernel
theorem dX11_makeName_16 : decode cX11_makeName 16 = .ok (.bipush 8, 2) := by decide +kernel
theorem dX11_makeName_18 : decode cX11_makeName 18 = .ok (.iload_n 2, 1) := by decide +kernel
theorem dX11_makeName_19 : decode cX11_makeName 19 = .ok (.imul, 1) := by decide +kernel
theorem dX11_makeName_20 : decode cX11_makeName 20 = .ok (.aload_n 0, 1) := by decide +kernel
theorem dX11_makeName_21 : decode cX11_makeName 21 = .ok (.getfield 26, 3) := by decide +kernel
theorem dX11_makeName_24 : decode cX11_makeName 24 = .ok (.iload_n 2, 1) := by decide +kernel
theorem dX11_makeName_25 : decode cX11_makeName 25 = .ok (.iaload, 1) := by decide +kernel
theorem dX11_makeName_26 : decode cX11_makeName 26 = .ok (.iadd, 1) := by decide +kernel
theorem dX11_makeName_27 : decode cX11_makeName 27 = .ok (.if_icmp .ge 111, 3) := by decide +kernel
theorem dX11_makeName_30 : decode cX11_makeName 30 = .ok (.aload_n 0, 1) := by decide +kernel
theorem dX11_makeName_31 : decode cX11_makeName 31 = .ok (.getfield 13, 3) := by decide +kernel
theorem dX11_makeName_34 : decode cX11_makeName 34 = .ok (.iload_n 2, 1) := by decide +kernel
theorem dX11_makeName_35 : decode cX11_makeName 35 = .ok (.baload, 1) := by decide +kernel
theorem dX11_makeName_36 : decode cX11_makeName 36 = .ok (.ifCond .ne 14, 3) := by decide +kernel
theorem dX11_makeName_39 : decode cX11_makeName 39 = .ok (.aload_n 0, 1) := by decide +kernel
theorem dX11_makeName_40 : decode cX11_makeName 40 = .ok (.iload 5, 2) := by decide +kernel
theorem dX11_makeName_42 : decode cX11_makeName 42 = .ok (.iload_n 2, 1) := by decide +kernel
theorem dX11_makeName_43 : decode cX11_makeName 43 = .ok (.iload_n 3, 1) := by decide +kernel
theorem dX11_makeName_44 : decode cX11_makeName 44 = .ok (.invokevirtual 208, 3) := by decide +kernel
theorem dX11_makeName_47 : decode cX11_makeName 47 = .ok (.ifCond .eq 85, 3) := by decide +kernel
theorem dX11_makeName_50 : decode cX11_makeName 50 = .ok (.aload_n 0, 1) := by decide +kernel
theorem dX11_makeName_51 : decode cX11_makeName 51 = .ok (.getfield 13, 3) := by decide +kernel
theorem dX11_makeName_54 : decode cX11_makeName 54 = .ok (.iload_n 2, 1) := by decide +kernel
theorem dX11_makeName_55 : decode cX11_makeName 55 = .ok (.baload, 1) := by decide +kernel
theorem dX11_makeName_56 : decode cX11_makeName 56 = .ok (.ifCond .ne 13, 3) := by decide +kernel
theorem dX11_makeName_59 : decode cX11_makeName 59 = .ok (.aload_n 0, 1) := by decide +kernel
theorem dX11_makeName_60 : decode cX11_makeName 60 = .ok (.getfield 29, 3) := by decide +kernel
theorem dX11_makeName_63 : decode cX11_makeName 63 = .ok (.iload 5, 2) := by decide +kernel
theorem dX11_makeName_65 : decode cX11_makeName 65 = .ok (.iaload, 1) := by decide +kernel
theorem dX11_makeName_66 : decode cX11_makeName 66 = .ok (.ifCond .ne 7, 3) := by decide +kernel
theorem dX11_makeName_69 : decode cX11_makeName 69 = .ok (.iconst (-1), 1) := by decide +kernel
theorem dX11_makeName_70 : decode cX11_makeName 70 = .ok (.goto 11, 3) := by decide +kernel
theorem dX11_makeName_73 : decode cX11_makeName 73 = .ok (.aload_n 0, 1) := by decide +kernel
theorem dX11_makeName_74 : decode cX11_makeName 74 = .ok (.iload 5, 2) := by decide +kernel
theorem dX11_makeName_76 : decode cX11_makeName 76 = .ok (.iload_n 2, 1) := by decide +kernel
theorem dX11_makeName_77 : decode cX11_makeName 77 = .ok (.iload_n 3, 1) := by decide +kernel
theorem dX11_makeName_78 : decode cX11_makeName 78 = .ok (.invokevirtual 212, 3) := by decide +kernel
theorem dX11_makeName_81 : decode cX11_makeName 81 = .ok (.istore 6, 2) := by decide +kernel
theorem dX11_makeName_83 : decode cX11_makeName 83 = .ok (.iload 6, 2) := by decide +kernel
theorem dX11_makeName_85 : decode cX11_makeName 85 = .ok (.ifCond .ge 7, 3) := by decide +kernel
theorem dX11_makeName_88 : decode cX11_makeName 88 = .ok (.iconst 0, 1) := by decide +kernel
theorem dX11_makeName_89 : decode cX11_makeName 89 = .ok (.goto 16, 3) := by decide +kernel
theorem dX11_makeName_92 : decode cX11_makeName 92 = .ok (.aload_n 0, 1) := by decide +kernel
theorem dX11_makeName_93 : decode cX11_makeName 93 = .ok (.getfield 48, 3) := by decide +kernel
theorem dX11_makeName_96 : decode cX11_makeName 96 = .ok (.sipush 1000, 3) := by decide +kernel
theorem dX11_makeName_99 : decode cX11_makeName 99 = .ok (.iload_n 1, 1) := by decide +kernel
theorem dX11_makeName_100 : decode cX11_makeName 100 = .ok (.imul, 1) := by decide +kernel
theorem dX11_makeName_101 : decode cX11_makeName 101 = .ok (.iload 6, 2) := by decide +kernel
theorem dX11_makeName_103 : decode cX11_makeName 103 = .ok (.iadd, 1) := by decide +kernel
theorem dX11_makeName_104 : decode cX11_makeName 104 = .ok (.iaload, 1) := by decide +kernel
theorem dX11_makeName_105 : decode cX11_makeName 105 = .ok (.istore 7, 2) := by decide +kernel
theorem dX11_makeName_107 : decode cX11_makeName 107 = .ok (.iload 7, 2) := by decide +kernel
theorem dX11_makeName_109 : decode cX11_makeName 109 = .ok (.iload 4, 2) := by decide +kernel
theorem dX11_makeName_111 : decode cX11_makeName 111 = .ok (.if_icmp .le 8, 3) := by decide +kernel
theorem dX11_makeName_114 : decode cX11_makeName 114 = .ok (.iload 7, 2) := by decide +kernel
theorem dX11_makeName_116 : decode cX11_makeName 116 = .ok (.goto 5, 3) := by decide +kernel
theorem dX11_makeName_119 : decode cX11_makeName 119 = .ok (.iload 4, 2) := by decide +kernel
theorem dX11_makeName_121 : decode cX11_makeName 121 = .ok (.istore 4, 2) := by decide +kernel
theorem dX11_makeName_123 : decode cX11_makeName 123 = .ok (.aload_n 0, 1) := by decide +kernel
theorem dX11_makeName_124 : decode cX11_makeName 124 = .ok (.iload_n 1, 1) := by decide +kernel
theorem dX11_makeName_125 : decode cX11_makeName 125 = .ok (.iload 5, 2) := by decide +kernel
theorem dX11_makeName_127 : decode cX11_makeName 127 = .ok (.iload 6, 2) := by decide +kernel
theorem dX11_makeName_129 : decode cX11_makeName 129 = .ok (.invokevirtual 225, 3) := by decide +kernel
theorem dX11_makeName_132 : decode cX11_makeName 132 = .ok (.iinc 5 1, 3) := by decide +kernel
theorem dX11_makeName_135 : decode cX11_makeName 135 = .ok (.goto (-121), 3) := by decide +kernel
theorem dX11_makeName_138 : decode cX11_makeName 138 = .ok (.sipush 1000, 3) := by decide +kernel
theorem dX11_makeName_141 : decode cX11_makeName 141 = .ok (.iload_n 1, 1) := by decide +kernel
theorem dX11_makeName_142 : decode cX11_makeName 142 = .ok (.imul, 1) := by decide +kernel
theorem dX11_makeName_143 : decode cX11_makeName 143 = .ok (.iload_n 3, 1) := by decide +kernel
theorem dX11_makeName_144 : decode cX11_makeName 144 = .ok (.iadd, 1) := by decide +kernel
theorem dX11_makeName_145 : decode cX11_makeName 145 = .ok (.istore 5, 2) := by decide +kernel
theorem dX11_makeName_147 : decode cX11_makeName 147 = .ok (.aload_n 0, 1) := by decide +kernel
theorem dX11_makeName_148 : decode cX11_makeName 148 = .ok (.getfield 219, 3) := by decide +kernel
theorem dX11_makeName_151 : decode cX11_makeName 151 = .ok (.bipush 60, 2) := by decide +kernel
theorem dX11_makeName_153 : decode cX11_makeName 153 = .ok (.if_icmp .gt 10, 3) := by decide +kernel
theorem dX11_makeName_156 : decode cX11_makeName 156 = .ok (.iload 4, 2) := by decide +kernel
theorem dX11_makeName_158 : decode cX11_makeName 158 = .ok (.bipush 8, 2) := by decide +kernel
theorem dX11_makeName_160 : decode cX11_makeName 160 = .ok (.if_icmp .lt 5, 3) := by decide +kernel
theorem dX11_makeName_163 : decode cX11_makeName 163 = .ok (.iconst 2, 1) := by decide +kernel
theorem dX11_makeName_164 : decode cX11_makeName 164 = .ok (.ireturn, 1) := by decide +kernel
theorem dX11_makeName_165 : decode cX11_makeName 165 = .ok (.bipush 8, 2) := by decide +kernel
theorem dX11_makeName_167 : decode cX11_makeName 167 = .ok (.iload 5, 2) := by decide +kernel
theorem dX11_makeName_169 : decode cX11_makeName 169 = .ok (.imul, 1) := by decide +kernel
theorem dX11_makeName_170 : decode cX11_makeName 170 = .ok (.istore 6, 2) := by decide +kernel
theorem dX11_makeName_172 : decode cX11_makeName 172 = .ok (.iload 6, 2) := by decide +kernel
theorem dX11_makeName_174 : decode cX11_makeName 174 = .ok (.bipush 8, 2) := by decide +kernel
theorem dX11_makeName_176 : decode cX11_makeName 176 = .ok (.iload 5, 2) := by decide +kernel
theorem dX11_makeName_178 : decode cX11_makeName 178 = .ok (.imul, 1) := by decide +kernel
theorem dX11_makeName_179 : decode cX11_makeName 179 = .ok (.bipush 8, 2) := by decide +kernel
theorem dX11_makeName_181 : decode cX11_makeName 181 = .ok (.iadd, 1) := by decide +kernel
theorem dX11_makeName_182 : decode cX11_makeName 182 = .ok (.if_icmp .ge 17, 3) := by decide +kernel
theorem dX11_makeName_185 : decode cX11_makeName 185 = .ok (.aload_n 0, 1) := by decide +kernel
theorem dX11_makeName_186 : decode cX11_makeName 186 = .ok (.getfield 44, 3) := by decide +kernel
theorem dX11_makeName_189 : decode cX11_makeName 189 = .ok (.iload 6, 2) := by decide +kernel
theorem dX11_makeName_191 : decode cX11_makeName 191 = .ok (.lconst 0, 1) := by decide +kernel
theorem dX11_makeName_192 : decode cX11_makeName 192 = .ok (.lastore, 1) := by decide +kernel
theorem dX11_makeName_193 : decode cX11_makeName 193 = .ok (.iinc 6 1, 3) := by decide +kernel
theorem dX11_makeName_196 : decode cX11_makeName 196 = .ok (.goto (-24), 3) := by decide +kernel
theorem dX11_makeName_199 : decode cX11_makeName 199 = .ok (.iconst 0, 1) := by decide +kernel
theorem dX11_makeName_200 : decode cX11_makeName 200 = .ok (.istore 6, 2) := by decide +kernel
theorem dX11_makeName_202 : decode cX11_makeName 202 = .ok (.iconst 0, 1) := by decide +kernel
theorem dX11_makeName_203 : decode cX11_makeName 203 = .ok (.istore 7, 2) := by decide +kernel
theorem dX11_makeName_205 : decode cX11_makeName 205 = .ok (.iload 7, 2) := by decide +kernel
theorem dX11_makeName_207 : decode cX11_makeName 207 = .ok (.aload_n 0, 1) := by decide +kernel
theorem dX11_makeName_208 : decode cX11_makeName 208 = .ok (.getfield 219, 3) := by decide +kernel
theorem dX11_makeName_211 : decode cX11_makeName 211 = .ok (.if_icmp .ge 67, 3) := by decide +kernel
theorem dX11_makeName_214 : decode cX11_makeName 214 = .ok (.aload_n 0, 1) := by decide +kernel
theorem dX11_makeName_215 : decode cX11_makeName 215 = .ok (.getfield 44, 3) := by decide +kernel
theorem dX11_makeName_218 : decode cX11_makeName 218 = .ok (.bipush 8, 2) := by decide +kernel
theorem dX11_makeName_220 : decode cX11_makeName 220 = .ok (.iload 5, 2) := by decide +kernel
theorem dX11_makeName_222 : decode cX11_makeName 222 = .ok (.imul, 1) := by decide +kernel
theorem dX11_makeName_223 : decode cX11_makeName 223 = .ok (.iload 7, 2) := by decide +kernel
theorem dX11_makeName_225 : decode cX11_makeName 225 = .ok (.bipush 8, 2) := by decide +kernel
theorem dX11_makeName_227 : decode cX11_makeName 227 = .ok (.idiv, 1) := by decide +kernel
theorem dX11_makeName_228 : decode cX11_makeName 228 = .ok (.iadd, 1) := by decide +kernel
theorem dX11_makeName_229 : decode cX11_makeName 229 = .ok (.dup2, 1) := by decide +kernel
theorem dX11_makeName_230 : decode cX11_makeName 230 = .ok (.laload, 1) := by decide +kernel
theorem dX11_makeName_231 : decode cX11_makeName 231 = .ok (.aload_n 0, 1) := by decide +kernel
theorem dX11_makeName_232 : decode cX11_makeName 232 = .ok (.getfield 91, 3) := by decide +kernel
theorem dX11_makeName_235 : decode cX11_makeName 235 = .ok (.iload 7, 2) := by decide +kernel
theorem dX11_makeName_237 : decode cX11_makeName 237 = .ok (.iaload, 1) := by decide +kernel
theorem dX11_makeName_238 : decode cX11_makeName 238 = .ok (.i2l, 1) := by decide +kernel
theorem dX11_makeName_239 : decode cX11_makeName 239 = .ok (.bipush 8, 2) := by decide +kernel
theorem dX11_makeName_241 : decode cX11_makeName 241 = .ok (.iload 7, 2) := by decide +kernel
theorem dX11_makeName_243 : decode cX11_makeName 243 = .ok (.bipush 8, 2) := by decide +kernel
theorem dX11_makeName_245 : decode cX11_makeName 245 = .ok (.irem, 1) := by decide +kernel
theorem dX11_makeName_246 : decode cX11_makeName 246 = .ok (.imul, 1) := by decide +kernel
theorem dX11_makeName_247 : decode cX11_makeName 247 = .ok (.lshl, 1) := by decide +kernel
theorem dX11_makeName_248 : decode cX11_makeName 248 = .ok (.lor, 1) := by decide +kernel
theorem dX11_makeName_249 : decode cX11_makeName 249 = .ok (.lastore, 1) := by decide +kernel
theorem dX11_makeName_250 : decode cX11_makeName 250 = .ok (.iload 6, 2) := by decide +kernel
theorem dX11_makeName_252 : decode cX11_makeName 252 = .ok (.aload_n 0, 1) := by decide +kernel
theorem dX11_makeName_253 : decode cX11_makeName 253 = .ok (.getfield 91, 3) := by decide +kernel
theorem dX11_makeName_256 : decode cX11_makeName 256 = .ok (.iload 7, 2) := by decide +kernel
theorem dX11_makeName_258 : decode cX11_makeName 258 = .ok (.iaload, 1) := by decide +kernel
theorem dX11_makeName_259 : decode cX11_makeName 259 = .ok (.bipush 32, 2) := by decide +kernel
theorem dX11_makeName_261 : decode cX11_makeName 261 = .ok (.if_icmp .ne 7, 3) := by decide +kernel
theorem dX11_makeName_264 : decode cX11_makeName 264 = .ok (.iconst 0, 1) := by decide +kernel
theorem dX11_makeName_265 : decode cX11_makeName 265 = .ok (.goto 4, 3) := by decide +kernel
theorem dX11_makeName_268 : decode cX11_makeName 268 = .ok (.iconst 1, 1) := by decide +kernel
theorem dX11_makeName_269 : decode cX11_makeName 269 = .ok (.iadd, 1) := by decide +kernel
theorem dX11_makeName_270 : decode cX11_makeName 270 = .ok (.istore 6, 2) := by decide +kernel
theorem dX11_makeName_272 : decode cX11_makeName 272 = .ok (.iinc 7 1, 3) := by decide +kernel
theorem dX11_makeName_275 : decode cX11_makeName 275 = .ok (.goto (-70), 3) := by decide +kernel
theorem dX11_makeName_278 : decode cX11_makeName 278 = .ok (.aload_n 0, 1) := by decide +kernel
theorem dX11_makeName_279 : decode cX11_makeName 279 = .ok (.getfield 41, 3) := by decide +kernel
theorem dX11_makeName_282 : decode cX11_makeName 282 = .ok (.iload 5, 2) := by decide +kernel
theorem dX11_makeName_284 : decode cX11_makeName 284 = .ok (.aload_n 0, 1) := by decide +kernel
theorem dX11_makeName_285 : decode cX11_makeName 285 = .ok (.getfield 219, 3) := by decide +kernel
theorem dX11_makeName_288 : decode cX11_makeName 288 = .ok (.iastore, 1) := by decide +kernel
theorem dX11_makeName_289 : decode cX11_makeName 289 = .ok (.aload_n 0, 1) := by decide +kernel
theorem dX11_makeName_290 : decode cX11_makeName 290 = .ok (.getfield 48, 3) := by decide +kernel
theorem dX11_makeName_293 : decode cX11_makeName 293 = .ok (.iload 5, 2) := by decide +kernel
theorem dX11_makeName_295 : decode cX11_makeName 295 = .ok (.iload 4, 2) := by decide +kernel
theorem dX11_makeName_297 : decode cX11_makeName 297 = .ok (.iconst 1, 1) := by decide +kernel
theorem dX11_makeName_298 : decode cX11_makeName 298 = .ok (.iadd, 1) := by decide +kernel
theorem dX11_makeName_299 : decode cX11_makeName 299 = .ok (.iastore, 1) := by decide +kernel
theorem dX11_makeName_300 : decode cX11_makeName 300 = .ok (.aload_n 0, 1) := by decide +kernel
theorem dX11_makeName_301 : decode cX11_makeName 301 = .ok (.getfield 51, 3) := by decide +kernel
theorem dX11_makeName_304 : decode cX11_makeName 304 = .ok (.iload 5, 2) := by decide +kernel
theorem dX11_makeName_306 : decode cX11_makeName 306 = .ok (.iload_n 2, 1) := by decide +kernel
theorem dX11_makeName_307 : decode cX11_makeName 307 = .ok (.bipush 12, 2) := by decide +kernel
theorem dX11_makeName_309 : decode cX11_makeName 309 = .ok (.iload_n 1, 1) := by decide +kernel
theorem dX11_makeName_310 : decode cX11_makeName 310 = .ok (.imul, 1) := by decide +kernel
theorem dX11_makeName_311 : decode cX11_makeName 311 = .ok (.isub, 1) := by decide +kernel
theorem dX11_makeName_312 : decode cX11_makeName 312 = .ok (.iastore, 1) := by decide +kernel
theorem dX11_makeName_313 : decode cX11_makeName 313 = .ok (.aload_n 0, 1) := by decide +kernel
theorem dX11_makeName_314 : decode cX11_makeName 314 = .ok (.getfield 54, 3) := by decide +kernel
theorem dX11_makeName_317 : decode cX11_makeName 317 = .ok (.iload 5, 2) := by decide +kernel
theorem dX11_makeName_319 : decode cX11_makeName 319 = .ok (.iload 6, 2) := by decide +kernel
theorem dX11_makeName_321 : decode cX11_makeName 321 = .ok (.iastore, 1) := by decide +kernel
theorem dX11_makeName_322 : decode cX11_makeName 322 = .ok (.iconst 1, 1) := by decide +kernel
theorem dX11_makeName_323 : decode cX11_makeName 323 = .ok (.ireturn, 1) := by decide +kernel
theorem dX11_findNames_0 : decode cX11_findNames 0 = .ok (.iconst 0, 1) := by decide +kernel
theorem dX11_findNames_1 : decode cX11_findNames 1 = .ok (.istore_n 2, 1) := by decide +kernel
theorem dX11_findNames_2 : decode cX11_findNames 2 = .ok (.iload_n 2, 1) := by decide +kernel
theorem dX11_findNames_3 : decode cX11_findNames 3 = .ok (.sipush 1000, 3) := by decide +kernel
theorem dX11_findNames_6 : decode cX11_findNames 6 = .ok (.if_icmp .ge 55, 3) := by decide +kernel
theorem dX11_findNames_9 : decode cX11_findNames 9 = .ok (.aload_n 0, 1) := by decide +kernel
theorem dX11_findNames_10 : decode cX11_findNames 10 = .ok (.getfield 94, 3) := by decide +kernel
theorem dX11_findNames_13 : decode cX11_findNames 13 = .ok (.iload_n 2, 1) := by decide +kernel
theorem dX11_findNames_14 : decode cX11_findNames 14 = .ok (.iconst 0, 1) := by decide +kernel
theorem dX11_findNames_15 : decode cX11_findNames 15 = .ok (.iastore, 1) := by decide +kernel
theorem dX11_findNames_16 : decode cX11_findNames 16 = .ok (.aload_n 0, 1) := by decide +kernel
theorem dX11_findNames_17 : decode cX11_findNames 17 = .ok (.getfield 41, 3) := by decide +kernel
theorem dX11_findNames_20 : decode cX11_findNames 20 = .ok (.sipush 1000, 3) := by decide +kernel
theorem dX11_findNames_23 : decode cX11_findNames 23 = .ok (.iload_n 1, 1) := by decide +kernel
theorem dX11_findNames_24 : decode cX11_findNames 24 = .ok (.imul, 1) := by decide +kernel
theorem dX11_findNames_25 : decode cX11_findNames 25 = .ok (.iload_n 2, 1) := by decide +kernel
theorem dX11_findNames_26 : decode cX11_findNames 26 = .ok (.iadd, 1) := by decide +kernel
theorem dX11_findNames_27 : decode cX11_findNames 27 = .ok (.iconst (-1), 1) := by decide +kernel
theorem dX11_findNames_28 : decode cX11_findNames 28 = .ok (.iastore, 1) := by decide +kernel
theorem dX11_findNames_29 : decode cX11_findNames 29 = .ok (.aload_n 0, 1) := by decide +kernel
theorem dX11_findNames_30 : decode cX11_findNames 30 = .ok (.getfield 48, 3) := by decide +kernel
theorem dX11_findNames_33 : decode cX11_findNames 33 = .ok (.sipush 1000, 3) := by decide +kernel
theorem dX11_findNames_36 : decode cX11_findNames 36 = .ok (.iload_n 1, 1) := by decide +kernel
theorem dX11_findNames_37 : decode cX11_findNames 37 = .ok (.imul, 1) := by decide +kernel
theorem dX11_findNames_38 : decode cX11_findNames 38 = .ok (.iload_n 2, 1) := by decide +kernel
theorem dX11_findNames_39 : decode cX11_findNames 39 = .ok (.iadd, 1) := by decide +kernel
theorem dX11_findNames_40 : decode cX11_findNames 40 = .ok (.iconst (-1), 1) := by decide +kernel
theorem dX11_findNames_41 : decode cX11_findNames 41 = .ok (.iastore, 1) := by decide +kernel
theorem dX11_findNames_42 : decode cX11_findNames 42 = .ok (.aload_n 0, 1) := by decide +kernel
theorem dX11_findNames_43 : decode cX11_findNames 43 = .ok (.getfield 51, 3) := by decide +kernel
theorem dX11_findNames_46 : decode cX11_findNames 46 = .ok (.sipush 1000, 3) := by decide +kernel
theorem dX11_findNames_49 : decode cX11_findNames 49 = .ok (.iload_n 1, 1) := by decide +kernel
theorem dX11_findNames_50 : decode cX11_findNames 50 = .ok (.imul, 1) := by decide +kernel
theorem dX11_findNames_51 : decode cX11_findNames 51 = .ok (.iload_n 2, 1) := by decide +kernel
theorem dX11_findNames_52 : decode cX11_findNames 52 = .ok (.iadd, 1) := by decide +kernel
theorem dX11_findNames_53 : decode cX11_findNames 53 = .ok (.iconst (-1), 1) := by decide +kernel
theorem dX11_findNames_54 : decode cX11_findNames 54 = .ok (.iastore, 1) := by decide +kernel
theorem dX11_findNames_55 : decode cX11_findNames 55 = .ok (.iinc 2 1, 3) := by decide +kernel
theorem dX11_findNames_58 : decode cX11_findNames 58 = .ok (.goto (-56), 3) := by decide +kernel
theorem dX11_findNames_61 : decode cX11_findNames 61 = .ok (.iconst 1, 1) := by decide +kernel
theorem dX11_findNames_62 : decode cX11_findNames 62 = .ok (.istore_n 2, 1) := by decide +kernel
theorem dX11_findNames_63 : decode cX11_findNames 63 = .ok (.iload_n 2, 1) := by decide +kernel
theorem dX11_findNames_64 : decode cX11_findNames 64 = .ok (.ifCond .eq 116, 3) := by decide +kernel
theorem dX11_findNames_67 : decode cX11_findNames 67 = .ok (.iconst 0, 1) := by decide +kernel
theorem dX11_findNames_68 : decode cX11_findNames 68 = .ok (.istore_n 2, 1) := by decide +kernel
theorem dX11_findNames_69 : decode cX11_findNames 69 = .ok (.iconst 0, 1) := by decide +kernel
theorem dX11_findNames_70 : decode cX11_findNames 70 = .ok (.istore_n 3, 1) := by decide +kernel
theorem dX11_findNames_71 : decode cX11_findNames 71 = .ok (.iload_n 3, 1) := by decide +kernel
theorem dX11_findNames_72 : decode cX11_findNames 72 = .ok (.sipush 1000, 3) := by decide +kernel
theorem dX11_findNames_75 : decode cX11_findNames 75 = .ok (.if_icmp .ge 102, 3) := by decide +kernel
theorem dX11_findNames_78 : decode cX11_findNames 78 = .ok (.aload_n 0, 1) := by decide +kernel
theorem dX11_findNames_79 : decode cX11_findNames 79 = .ok (.getfield 94, 3) := by decide +kernel
theorem dX11_findNames_82 : decode cX11_findNames 82 = .ok (.iload_n 3, 1) := by decide +kernel
theorem dX11_findNames_83 : decode cX11_findNames 83 = .ok (.iaload, 1) := by decide +kernel
theorem dX11_findNames_84 : decode cX11_findNames 84 = .ok (.ifCond .ne 87, 3) := by decide +kernel
theorem dX11_findNames_87 : decode cX11_findNames 87 = .ok (.aload_n 0, 1) := by decide +kernel
theorem dX11_findNames_88 : decode cX11_findNames 88 = .ok (.iload_n 1, 1) := by decide +kernel
theorem dX11_findNames_89 : decode cX11_findNames 89 = .ok (.iload_n 3, 1) := by decide +kernel
theorem dX11_findNames_90 : decode cX11_findNames 90 = .ok (.invokevirtual 229, 3) := by decide +kernel
theorem dX11_findNames_93 : decode cX11_findNames 93 = .ok (.istore 4, 2) := by decide +kernel
theorem dX11_findNames_95 : decode cX11_findNames 95 = .ok (.iload 4, 2) := by decide +kernel
theorem dX11_findNames_97 : decode cX11_findNames 97 = .ok (.ifCond .ge 7, 3) := by decide +kernel
theorem dX11_findNames_100 : decode cX11_findNames 100 = .ok (.iconst 2, 1) := by decide +kernel
theorem dX11_findNames_101 : decode cX11_findNames 101 = .ok (.goto 24, 3) := by decide +kernel
theorem dX11_findNames_104 : decode cX11_findNames 104 = .ok (.aload_n 0, 1) := by decide +kernel
theorem dX11_findNames_105 : decode cX11_findNames 105 = .ok (.getfield 13, 3) := by decide +kernel
theorem dX11_findNames_108 : decode cX11_findNames 108 = .ok (.iload 4, 2) := by decide +kernel
theorem dX11_findNames_110 : decode cX11_findNames 110 = .ok (.baload, 1) := by decide +kernel
theorem dX11_findNames_111 : decode cX11_findNames 111 = .ok (.ifCond .eq 7, 3) := by decide +kernel
theorem dX11_findNames_114 : decode cX11_findNames 114 = .ok (.iconst 1, 1) := by decide +kernel
theorem dX11_findNames_115 : decode cX11_findNames 115 = .ok (.goto 10, 3) := by decide +kernel
theorem dX11_findNames_118 : decode cX11_findNames 118 = .ok (.aload_n 0, 1) := by decide +kernel
theorem dX11_findNames_119 : decode cX11_findNames 119 = .ok (.iload 4, 2) := by decide +kernel
theorem dX11_findNames_121 : decode cX11_findNames 121 = .ok (.iload_n 3, 1) := by decide +kernel
theorem dX11_findNames_122 : decode cX11_findNames 122 = .ok (.invokevirtual 232, 3) := by decide +kernel
theorem dX11_findNames_125 : decode cX11_findNames 125 = .ok (.istore 5, 2) := by decide +kernel
theorem dX11_findNames_127 : decode cX11_findNames 127 = .ok (.aload_n 0, 1) := by decide +kernel
theorem dX11_findNames_128 : decode cX11_findNames 128 = .ok (.getfield 94, 3) := by decide +kernel
theorem dX11_findNames_131 : decode cX11_findNames 131 = .ok (.iload_n 3, 1) := by decide +kernel
theorem dX11_findNames_132 : decode cX11_findNames 132 = .ok (.iload 5, 2) := by decide +kernel
theorem dX11_findNames_134 : decode cX11_findNames 134 = .ok (.iconst 1, 1) := by decide +kernel
theorem dX11_findNames_135 : decode cX11_findNames 135 = .ok (.if_icmp .ne 14, 3) := by decide +kernel
theorem dX11_findNames_138 : decode cX11_findNames 138 = .ok (.aload_n 0, 1) := by decide +kernel
theorem dX11_findNames_139 : decode cX11_findNames 139 = .ok (.iload_n 1, 1) := by decide +kernel
theorem dX11_findNames_140 : decode cX11_findNames 140 = .ok (.iload 4, 2) := by decide +kernel
theorem dX11_findNames_142 : decode cX11_findNames 142 = .ok (.iload_n 3, 1) := by decide +kernel
theorem dX11_findNames_143 : decode cX11_findNames 143 = .ok (.invokevirtual 235, 3) := by decide +kernel
theorem dX11_findNames_146 : decode cX11_findNames 146 = .ok (.goto 5, 3) := by decide +kernel
theorem dX11_findNames_149 : decode cX11_findNames 149 = .ok (.iload 5, 2) := by decide +kernel
theorem dX11_findNames_151 : decode cX11_findNames 151 = .ok (.iastore, 1) := by decide +kernel
theorem dX11_findNames_152 : decode cX11_findNames 152 = .ok (.iload_n 2, 1) := by decide +kernel
theorem dX11_findNames_153 : decode cX11_findNames 153 = .ok (.ifCond .ne 12, 3) := by decide +kernel
theorem dX11_findNames_156 : decode cX11_findNames 156 = .ok (.aload_n 0, 1) := by decide +kernel
theorem dX11_findNames_157 : decode cX11_findNames 157 = .ok (.getfield 94, 3) := by decide +kernel
theorem dX11_findNames_160 : decode cX11_findNames 160 = .ok (.iload_n 3, 1) := by decide +kernel
theorem dX11_findNames_161 : decode cX11_findNames 161 = .ok (.iaload, 1) := by decide +kernel
theorem dX11_findNames_162 : decode cX11_findNames 162 = .ok (.ifCond .le 7, 3) := by decide +kernel
theorem dX11_findNames_165 : decode cX11_findNames 165 = .ok (.iconst 1, 1) := by decide +kernel
theorem dX11_findNames_166 : decode cX11_findNames 166 = .ok (.goto 4, 3) := by decide +kernel
theorem dX11_findNames_169 : decode cX11_findNames 169 = .ok (.iconst 0, 1) := by decide +kernel
theorem dX11_findNames_170 : decode cX11_findNames 170 = .ok (.istore_n 2, 1) := by decide +kernel
theorem dX11_findNames_171 : decode cX11_findNames 171 = .ok (.iinc 3 1, 3) := by decide +kernel
theorem dX11_findNames_174 : decode cX11_findNames 174 = .ok (.goto (-103), 3) := by decide +kernel
theorem dX11_findNames_177 : decode cX11_findNames 177 = .ok (.goto (-114), 3) := by decide +kernel
theorem dX11_findNames_180 : decode cX11_findNames 180 = .ok (.aload_n 0, 1) := by decide +kernel
theorem dX11_findNames_181 : decode cX11_findNames 181 = .ok (.iconst 0, 1) := by decide +kernel
theorem dX11_findNames_182 : decode cX11_findNames 182 = .ok (.putfield 238, 3) := by decide +kernel
theorem dX11_findNames_185 : decode cX11_findNames 185 = .ok (.return_, 1) := by decide +kernel
theorem dX11_name_0 : decode cX11_name 0 = .ok (.iload_n 1, 1) := by decide +kernel
theorem dX11_name_1 : decode cX11_name 1 = .ok (.invokestatic 194, 3) := by decide +kernel
theorem dX11_name_4 : decode cX11_name 4 = .ok (.ifCond .eq 10, 3) := by decide +kernel
theorem dX11_name_7 : decode cX11_name 7 = .ok (.iload_n 2, 1) := by decide +kernel
theorem dX11_name_8 : decode cX11_name 8 = .ok (.invokestatic 216, 3) := by decide +kernel
theorem dX11_name_11 : decode cX11_name 11 = .ok (.ifCond .ne 7, 3) := by decide +kernel
theorem dX11_name_14 : decode cX11_name 14 = .ok (.sipush (-1001), 3) := by decide +kernel
theorem dX11_name_17 : decode cX11_name 17 = .ok (.ireturn, 1) := by decide +kernel
theorem dX11_name_18 : decode cX11_name 18 = .ok (.sipush 1000, 3) := by decide +kernel
theorem dX11_name_21 : decode cX11_name 21 = .ok (.iload_n 1, 1) := by decide +kernel
theorem dX11_name_22 : decode cX11_name 22 = .ok (.imul, 1) := by decide +kernel
theorem dX11_name_23 : decode cX11_name 23 = .ok (.iload_n 2, 1) := by decide +kernel
theorem dX11_name_24 : decode cX11_name 24 = .ok (.iadd, 1) := by decide +kernel
theorem dX11_name_25 : decode cX11_name 25 = .ok (.istore 4, 2) := by decide +kernel
theorem dX11_name_27 : decode cX11_name 27 = .ok (.iload_n 3, 1) := by decide +kernel
theorem dX11_name_28 : decode cX11_name 28 = .ok (.iconst (-1), 1) := by decide +kernel
theorem dX11_name_29 : decode cX11_name 29 = .ok (.if_icmp .ne 13, 3) := by decide +kernel
theorem dX11_name_32 : decode cX11_name 32 = .ok (.aload_n 0, 1) := by decide +kernel
theorem dX11_name_33 : decode cX11_name 33 = .ok (.getfield 41, 3) := by decide +kernel
theorem dX11_name_36 : decode cX11_name 36 = .ok (.iload 4, 2) := by decide +kernel
theorem dX11_name_38 : decode cX11_name 38 = .ok (.iaload, 1) := by decide +kernel
theorem dX11_name_39 : decode cX11_name 39 = .ok (.goto 33, 3) := by decide +kernel
theorem dX11_name_42 : decode cX11_name 42 = .ok (.iload_n 3, 1) := by decide +kernel
theorem dX11_name_43 : decode cX11_name 43 = .ok (.i2l, 1) := by decide +kernel
theorem dX11_name_44 : decode cX11_name 44 = .ok (.lconst 0, 1) := by decide +kernel
theorem dX11_name_45 : decode cX11_name 45 = .ok (.aload_n 0, 1) := by decide +kernel
theorem dX11_name_46 : decode cX11_name 46 = .ok (.getfield 41, 3) := by decide +kernel
theorem dX11_name_49 : decode cX11_name 49 = .ok (.iload 4, 2) := by decide +kernel
theorem dX11_name_51 : decode cX11_name 51 = .ok (.iaload, 1) := by decide +kernel
theorem dX11_name_52 : decode cX11_name 52 = .ok (.iconst 1, 1) := by decide +kernel
theorem dX11_name_53 : decode cX11_name 53 = .ok (.isub, 1) := by decide +kernel
theorem dX11_name_54 : decode cX11_name 54 = .ok (.i2l, 1) := by decide +kernel
theorem dX11_name_55 : decode cX11_name 55 = .ok (.invokestatic 123, 3) := by decide +kernel
theorem dX11_name_58 : decode cX11_name 58 = .ok (.ifCond .eq 13, 3) := by decide +kernel
theorem dX11_name_61 : decode cX11_name 61 = .ok (.aload_n 0, 1) := by decide +kernel
theorem dX11_name_62 : decode cX11_name 62 = .ok (.iload 4, 2) := by decide +kernel
theorem dX11_name_64 : decode cX11_name 64 = .ok (.iload_n 3, 1) := by decide +kernel
theorem dX11_name_65 : decode cX11_name 65 = .ok (.invokevirtual 222, 3) := by decide +kernel
theorem dX11_name_68 : decode cX11_name 68 = .ok (.goto 4, 3) := by decide +kernel
theorem dX11_name_71 : decode cX11_name 71 = .ok (.iconst (-1), 1) := by decide +kernel
theorem dX11_name_72 : decode cX11_name 72 = .ok (.ireturn, 1) := by decide +kernel
theorem dX11_lettersOf_0 : decode cX11_lettersOf 0 = .ok (.sipush 1000, 3) := by decide +kernel
theorem dX11_lettersOf_3 : decode cX11_lettersOf 3 = .ok (.iload_n 1, 1) := by decide +kernel
theorem dX11_lettersOf_4 : decode cX11_lettersOf 4 = .ok (.imul, 1) := by decide +kernel
theorem dX11_lettersOf_5 : decode cX11_lettersOf 5 = .ok (.iload_n 2, 1) := by decide +kernel
theorem dX11_lettersOf_6 : decode cX11_lettersOf 6 = .ok (.iadd, 1) := by decide +kernel
theorem dX11_lettersOf_7 : decode cX11_lettersOf 7 = .ok (.istore_n 3, 1) := by decide +kernel
theorem dX11_lettersOf_8 : decode cX11_lettersOf 8 = .ok (.aload_n 0, 1) := by decide +kernel
theorem dX11_lettersOf_9 : decode cX11_lettersOf 9 = .ok (.getfield 41, 3) := by decide +kernel
theorem dX11_lettersOf_12 : decode cX11_lettersOf 12 = .ok (.iload_n 3, 1) := by decide +kernel
theorem dX11_lettersOf_13 : decode cX11_lettersOf 13 = .ok (.iaload, 1) := by decide +kernel
theorem dX11_lettersOf_14 : decode cX11_lettersOf 14 = .ok (.ifCond .ge 7, 3) := by decide +kernel
theorem dX11_lettersOf_17 : decode cX11_lettersOf 17 = .ok (.iconst (-1), 1) := by decide +kernel
theorem dX11_lettersOf_18 : decode cX11_lettersOf 18 = .ok (.goto 9, 3) := by decide +kernel
theorem dX11_lettersOf_21 : decode cX11_lettersOf 21 = .ok (.aload_n 0, 1) := by decide +kernel
theorem dX11_lettersOf_22 : decode cX11_lettersOf 22 = .ok (.getfield 54, 3) := by decide +kernel
theorem dX11_lettersOf_25 : decode cX11_lettersOf 25 = .ok (.iload_n 3, 1) := by decide +kernel
theorem dX11_lettersOf_26 : decode cX11_lettersOf 26 = .ok (.iaload, 1) := by decide +kernel
theorem dX11_lettersOf_27 : decode cX11_lettersOf 27 = .ok (.ireturn, 1) := by decide +kernel
theorem dX11_letters_0 : decode cX11_letters 0 = .ok (.iload_n 1, 1) := by decide +kernel
theorem dX11_letters_1 : decode cX11_letters 1 = .ok (.invokestatic 194, 3) := by decide +kernel
theorem dX11_letters_4 : decode cX11_letters 4 = .ok (.ifCond .eq 19, 3) := by decide +kernel
theorem dX11_letters_7 : decode cX11_letters 7 = .ok (.iload_n 2, 1) := by decide +kernel
theorem dX11_letters_8 : decode cX11_letters 8 = .ok (.invokestatic 216, 3) := by decide +kernel
theorem dX11_letters_11 : decode cX11_letters 11 = .ok (.ifCond .eq 12, 3) := by decide +kernel
theorem dX11_letters_14 : decode cX11_letters 14 = .ok (.aload_n 0, 1) := by decide +kernel
theorem dX11_letters_15 : decode cX11_letters 15 = .ok (.iload_n 1, 1) := by decide +kernel
theorem dX11_letters_16 : decode cX11_letters 16 = .ok (.iload_n 2, 1) := by decide +kernel
theorem dX11_letters_17 : decode cX11_letters 17 = .ok (.invokevirtual 242, 3) := by decide +kernel
theorem dX11_letters_20 : decode cX11_letters 20 = .ok (.goto 6, 3) := by decide +kernel
theorem dX11_letters_23 : decode cX11_letters 23 = .ok (.sipush (-1001), 3) := by decide +kernel
theorem dX11_letters_26 : decode cX11_letters 26 = .ok (.ireturn, 1) := by decide +kernel
theorem dX11_by_0 : decode cX11_by 0 = .ok (.iload_n 1, 1) := by decide +kernel
theorem dX11_by_1 : decode cX11_by 1 = .ok (.invokestatic 194, 3) := by decide +kernel
theorem dX11_by_4 : decode cX11_by 4 = .ok (.ifCond .eq 25, 3) := by decide +kernel
theorem dX11_by_7 : decode cX11_by 7 = .ok (.iload_n 2, 1) := by decide +kernel
theorem dX11_by_8 : decode cX11_by 8 = .ok (.invokestatic 216, 3) := by decide +kernel
theorem dX11_by_11 : decode cX11_by 11 = .ok (.ifCond .eq 18, 3) := by decide +kernel
theorem dX11_by_14 : decode cX11_by 14 = .ok (.aload_n 0, 1) := by decide +kernel
theorem dX11_by_15 : decode cX11_by 15 = .ok (.getfield 51, 3) := by decide +kernel
theorem dX11_by_18 : decode cX11_by 18 = .ok (.sipush 1000, 3) := by decide +kernel
theorem dX11_by_21 : decode cX11_by 21 = .ok (.iload_n 1, 1) := by decide +kernel
theorem dX11_by_22 : decode cX11_by 22 = .ok (.imul, 1) := by decide +kernel
theorem dX11_by_23 : decode cX11_by 23 = .ok (.iload_n 2, 1) := by decide +kernel
theorem dX11_by_24 : decode cX11_by 24 = .ok (.iadd, 1) := by decide +kernel
theorem dX11_by_25 : decode cX11_by 25 = .ok (.iaload, 1) := by decide +kernel
theorem dX11_by_26 : decode cX11_by 26 = .ok (.goto 6, 3) := by decide +kernel
theorem dX11_by_29 : decode cX11_by 29 = .ok (.sipush (-1001), 3) := by decide +kernel
theorem dX11_by_32 : decode cX11_by 32 = .ok (.ireturn, 1) := by decide +kernel
theorem dX11_deep_0 : decode cX11_deep 0 = .ok (.iload_n 1, 1) := by decide +kernel
theorem dX11_deep_1 : decode cX11_deep 1 = .ok (.invokestatic 194, 3) := by decide +kernel
theorem dX11_deep_4 : decode cX11_deep 4 = .ok (.ifCond .eq 25, 3) := by decide +kernel
theorem dX11_deep_7 : decode cX11_deep 7 = .ok (.iload_n 2, 1) := by decide +kernel
theorem dX11_deep_8 : decode cX11_deep 8 = .ok (.invokestatic 216, 3) := by decide +kernel
theorem dX11_deep_11 : decode cX11_deep 11 = .ok (.ifCond .eq 18, 3) := by decide +kernel
theorem dX11_deep_14 : decode cX11_deep 14 = .ok (.aload_n 0, 1) := by decide +kernel
theorem dX11_deep_15 : decode cX11_deep 15 = .ok (.getfield 48, 3) := by decide +kernel
theorem dX11_deep_18 : decode cX11_deep 18 = .ok (.sipush 1000, 3) := by decide +kernel
theorem dX11_deep_21 : decode cX11_deep 21 = .ok (.iload_n 1, 1) := by decide +kernel
theorem dX11_deep_22 : decode cX11_deep 22 = .ok (.imul, 1) := by decide +kernel
theorem dX11_deep_23 : decode cX11_deep 23 = .ok (.iload_n 2, 1) := by decide +kernel
theorem dX11_deep_24 : decode cX11_deep 24 = .ok (.iadd, 1) := by decide +kernel
theorem dX11_deep_25 : decode cX11_deep 25 = .ok (.iaload, 1) := by decide +kernel
theorem dX11_deep_26 : decode cX11_deep 26 = .ok (.goto 6, 3) := by decide +kernel
theorem dX11_deep_29 : decode cX11_deep 29 = .ok (.sipush (-1001), 3) := by decide +kernel
theorem dX11_deep_32 : decode cX11_deep 32 = .ok (.ireturn, 1) := by decide +kernel
theorem dX11_about_0 : decode cX11_about 0 = .ok (.iload_n 1, 1) := by decide +kernel
theorem dX11_about_1 : decode cX11_about 1 = .ok (.invokestatic 194, 3) := by decide +kernel
theorem dX11_about_4 : decode cX11_about 4 = .ok (.ifCond .ne 7, 3) := by decide +kernel
theorem dX11_about_7 : decode cX11_about 7 = .ok (.sipush (-1001), 3) := by decide +kernel
theorem dX11_about_10 : decode cX11_about 10 = .ok (.ireturn, 1) := by decide +kernel
theorem dX11_about_11 : decode cX11_about 11 = .ok (.iconst 0, 1) := by decide +kernel
theorem dX11_about_12 : decode cX11_about 12 = .ok (.istore_n 3, 1) := by decide +kernel
theorem dX11_about_13 : decode cX11_about 13 = .ok (.iconst (-1), 1) := by decide +kernel
theorem dX11_about_14 : decode cX11_about 14 = .ok (.istore 4, 2) := by decide +kernel
theorem dX11_about_16 : decode cX11_about 16 = .ok (.iconst (-1), 1) := by decide +kernel
theorem dX11_about_17 : decode cX11_about 17 = .ok (.istore 5, 2) := by decide +kernel
theorem dX11_about_19 : decode cX11_about 19 = .ok (.iconst 0, 1) := by decide +kernel
theorem dX11_about_20 : decode cX11_about 20 = .ok (.istore 6, 2) := by decide +kernel
theorem dX11_about_22 : decode cX11_about 22 = .ok (.sipush 999, 3) := by decide +kernel
theorem dX11_about_25 : decode cX11_about 25 = .ok (.istore 7, 2) := by decide +kernel
theorem dX11_about_27 : decode cX11_about 27 = .ok (.iload 7, 2) := by decide +kernel
theorem dX11_about_29 : decode cX11_about 29 = .ok (.ifCond .lt 100, 3) := by decide +kernel
theorem dX11_about_32 : decode cX11_about 32 = .ok (.aload_n 0, 1) := by decide +kernel
theorem dX11_about_33 : decode cX11_about 33 = .ok (.getfield 41, 3) := by decide +kernel
theorem dX11_about_36 : decode cX11_about 36 = .ok (.sipush 1000, 3) := by decide +kernel
theorem dX11_about_39 : decode cX11_about 39 = .ok (.iload_n 1, 1) := by decide +kernel
theorem dX11_about_40 : decode cX11_about 40 = .ok (.imul, 1) := by decide +kernel
theorem dX11_about_41 : decode cX11_about 41 = .ok (.iload 7, 2) := by decide +kernel
theorem dX11_about_43 : decode cX11_about 43 = .ok (.iadd, 1) := by decide +kernel
theorem dX11_about_44 : decode cX11_about 44 = .ok (.iaload, 1) := by decide +kernel
theorem dX11_about_45 : decode cX11_about 45 = .ok (.ifCond .lt 7, 3) := by decide +kernel
theorem dX11_about_48 : decode cX11_about 48 = .ok (.iconst 1, 1) := by decide +kernel
theorem dX11_about_49 : decode cX11_about 49 = .ok (.goto 4, 3) := by decide +kernel
theorem dX11_about_52 : decode cX11_about 52 = .ok (.iconst 0, 1) := by decide +kernel
theorem dX11_about_53 : decode cX11_about 53 = .ok (.istore 8, 2) := by decide +kernel
theorem dX11_about_55 : decode cX11_about 55 = .ok (.iload_n 3, 1) := by decide +kernel
theorem dX11_about_56 : decode cX11_about 56 = .ok (.iload 8, 2) := by decide +kernel
theorem dX11_about_58 : decode cX11_about 58 = .ok (.ifCond .eq 7, 3) := by decide +kernel
theorem dX11_about_61 : decode cX11_about 61 = .ok (.iconst 1, 1) := by decide +kernel
theorem dX11_about_62 : decode cX11_about 62 = .ok (.goto 4, 3) := by decide +kernel
theorem dX11_about_65 : decode cX11_about 65 = .ok (.iconst 0, 1) := by decide +kernel
theorem dX11_about_66 : decode cX11_about 66 = .ok (.iadd, 1) := by decide +kernel
theorem dX11_about_67 : decode cX11_about 67 = .ok (.istore_n 3, 1) := by decide +kernel
theorem dX11_about_68 : decode cX11_about 68 = .ok (.iload 8, 2) := by decide +kernel
theorem dX11_about_70 : decode cX11_about 70 = .ok (.ifCond .eq 13, 3) := by decide +kernel
theorem dX11_about_73 : decode cX11_about 73 = .ok (.iload 4, 2) := by decide +kernel
theorem dX11_about_75 : decode cX11_about 75 = .ok (.ifCond .ge 8, 3) := by decide +kernel
theorem dX11_about_78 : decode cX11_about 78 = .ok (.iload 7, 2) := by decide +kernel
theorem dX11_about_80 : decode cX11_about 80 = .ok (.goto 5, 3) := by decide +kernel
theorem dX11_about_83 : decode cX11_about 83 = .ok (.iload 4, 2) := by decide +kernel
theorem dX11_about_85 : decode cX11_about 85 = .ok (.istore 4, 2) := by decide +kernel
theorem dX11_about_87 : decode cX11_about 87 = .ok (.iload 8, 2) := by decide +kernel
theorem dX11_about_89 : decode cX11_about 89 = .ok (.ifCond .eq 8, 3) := by decide +kernel
theorem dX11_about_92 : decode cX11_about 92 = .ok (.iload 5, 2) := by decide +kernel
theorem dX11_about_94 : decode cX11_about 94 = .ok (.goto 5, 3) := by decide +kernel
theorem dX11_about_97 : decode cX11_about 97 = .ok (.iload 7, 2) := by decide +kernel
theorem dX11_about_99 : decode cX11_about 99 = .ok (.istore 5, 2) := by decide +kernel
theorem dX11_about_101 : decode cX11_about 101 = .ok (.iload 6, 2) := by decide +kernel
theorem dX11_about_103 : decode cX11_about 103 = .ok (.aload_n 0, 1) := by decide +kernel
theorem dX11_about_104 : decode cX11_about 104 = .ok (.iload_n 1, 1) := by decide +kernel
theorem dX11_about_105 : decode cX11_about 105 = .ok (.iload 7, 2) := by decide +kernel
theorem dX11_about_107 : decode cX11_about 107 = .ok (.invokevirtual 242, 3) := by decide +kernel
theorem dX11_about_110 : decode cX11_about 110 = .ok (.iload 7, 2) := by decide +kernel
theorem dX11_about_112 : decode cX11_about 112 = .ok (.if_icmp .ne 7, 3) := by decide +kernel
theorem dX11_about_115 : decode cX11_about 115 = .ok (.iconst 1, 1) := by decide +kernel
theorem dX11_about_116 : decode cX11_about 116 = .ok (.goto 4, 3) := by decide +kernel
theorem dX11_about_119 : decode cX11_about 119 = .ok (.iconst 0, 1) := by decide +kernel
theorem dX11_about_120 : decode cX11_about 120 = .ok (.iadd, 1) := by decide +kernel
theorem dX11_about_121 : decode cX11_about 121 = .ok (.istore 6, 2) := by decide +kernel
theorem dX11_about_123 : decode cX11_about 123 = .ok (.iinc 7 (-1), 3) := by decide +kernel
theorem dX11_about_126 : decode cX11_about 126 = .ok (.goto (-99), 3) := by decide +kernel
theorem dX11_about_129 : decode cX11_about 129 = .ok (.iload_n 2, 1) := by decide +kernel
theorem dX11_about_130 : decode cX11_about 130 = .ok (.tableswitch 70 0 6 #[42, 49, 51, 54, 57, 60, 65], 42) := by decide +kernel
theorem dX11_about_172 : decode cX11_about 172 = .ok (.aload_n 0, 1) := by decide +kernel
theorem dX11_about_173 : decode cX11_about 173 = .ok (.getfield 7, 3) := by decide +kernel
theorem dX11_about_176 : decode cX11_about 176 = .ok (.iload_n 1, 1) := by decide +kernel
theorem dX11_about_177 : decode cX11_about 177 = .ok (.iaload, 1) := by decide +kernel
theorem dX11_about_178 : decode cX11_about 178 = .ok (.ireturn, 1) := by decide +kernel
theorem dX11_about_179 : decode cX11_about 179 = .ok (.iload_n 3, 1) := by decide +kernel
theorem dX11_about_180 : decode cX11_about 180 = .ok (.ireturn, 1) := by decide +kernel
theorem dX11_about_181 : decode cX11_about 181 = .ok (.iload 4, 2) := by decide +kernel
theorem dX11_about_183 : decode cX11_about 183 = .ok (.ireturn, 1) := by decide +kernel
theorem dX11_about_184 : decode cX11_about 184 = .ok (.iload 5, 2) := by decide +kernel
theorem dX11_about_186 : decode cX11_about 186 = .ok (.ireturn, 1) := by decide +kernel
theorem dX11_about_187 : decode cX11_about 187 = .ok (.iload 6, 2) := by decide +kernel
theorem dX11_about_189 : decode cX11_about 189 = .ok (.ireturn, 1) := by decide +kernel
theorem dX11_about_190 : decode cX11_about 190 = .ok (.aload_n 0, 1) := by decide +kernel
theorem dX11_about_191 : decode cX11_about 191 = .ok (.getfield 131, 3) := by decide +kernel
theorem dX11_about_194 : decode cX11_about 194 = .ok (.ireturn, 1) := by decide +kernel
theorem dX11_about_195 : decode cX11_about 195 = .ok (.aload_n 0, 1) := by decide +kernel
theorem dX11_about_196 : decode cX11_about 196 = .ok (.getfield 245, 3) := by decide +kernel
theorem dX11_about_199 : decode cX11_about 199 = .ok (.ireturn, 1) := by decide +kernel
theorem dX11_about_200 : decode cX11_about 200 = .ok (.sipush (-1002), 3) := by decide +kernel
theorem dX11_about_203 : decode cX11_about 203 = .ok (.ireturn, 1) := by decide +kernel
theorem dX11_usesIn_0 : decode cX11_usesIn 0 = .ok (.sipush 1000, 3) := by decide +kernel
theorem dX11_usesIn_3 : decode cX11_usesIn 3 = .ok (.iload_n 1, 1) := by decide +kernel
theorem dX11_usesIn_4 : decode cX11_usesIn 4 = .ok (.imul, 1) := by decide +kernel
theorem dX11_usesIn_5 : decode cX11_usesIn 5 = .ok (.iload_n 2, 1) := by decide +kernel
theorem dX11_usesIn_6 : decode cX11_usesIn 6 = .ok (.iadd, 1) := by decide +kernel
theorem dX11_usesIn_7 : decode cX11_usesIn 7 = .ok (.istore 4, 2) := by decide +kernel
theorem dX11_usesIn_9 : decode cX11_usesIn 9 = .ok (.iconst 0, 1) := by decide +kernel
theorem dX11_usesIn_10 : decode cX11_usesIn 10 = .ok (.istore 5, 2) := by decide +kernel
theorem dX11_usesIn_12 : decode cX11_usesIn 12 = .ok (.iconst 0, 1) := by decide +kernel
theorem dX11_usesIn_13 : decode cX11_usesIn 13 = .ok (.istore 6, 2) := by decide +kernel
theorem dX11_usesIn_15 : decode cX11_usesIn 15 = .ok (.iload 6, 2) := by decide +kernel
theorem dX11_usesIn_17 : decode cX11_usesIn 17 = .ok (.aload_n 0, 1) := by decide +kernel
theorem dX11_usesIn_18 : decode cX11_usesIn 18 = .ok (.getfield 41, 3) := by decide +kernel
theorem dX11_usesIn_21 : decode cX11_usesIn 21 = .ok (.iload 4, 2) := by decide +kernel
theorem dX11_usesIn_23 : decode cX11_usesIn 23 = .ok (.iaload, 1) := by decide +kernel
theorem dX11_usesIn_24 : decode cX11_usesIn 24 = .ok (.if_icmp .ge 34, 3) := by decide +kernel
theorem dX11_usesIn_27 : decode cX11_usesIn 27 = .ok (.iload 5, 2) := by decide +kernel
theorem dX11_usesIn_29 : decode cX11_usesIn 29 = .ok (.aload_n 0, 1) := by decide +kernel
theorem dX11_usesIn_30 : decode cX11_usesIn 30 = .ok (.iload 4, 2) := by decide +kernel
theorem dX11_usesIn_32 : decode cX11_usesIn 32 = .ok (.iload 6, 2) := by decide +kernel
theorem dX11_usesIn_34 : decode cX11_usesIn 34 = .ok (.invokevirtual 222, 3) := by decide +kernel
theorem dX11_usesIn_37 : decode cX11_usesIn 37 = .ok (.iload_n 3, 1) := by decide +kernel
theorem dX11_usesIn_38 : decode cX11_usesIn 38 = .ok (.bipush 97, 2) := by decide +kernel
theorem dX11_usesIn_40 : decode cX11_usesIn 40 = .ok (.iadd, 1) := by decide +kernel
theorem dX11_usesIn_41 : decode cX11_usesIn 41 = .ok (.if_icmp .ne 7, 3) := by decide +kernel
theorem dX11_usesIn_44 : decode cX11_usesIn 44 = .ok (.iconst 1, 1) := by decide +kernel
theorem dX11_usesIn_45 : decode cX11_usesIn 45 = .ok (.goto 4, 3) := by decide +kernel
theorem dX11_usesIn_48 : decode cX11_usesIn 48 = .ok (.iconst 0, 1) := by decide +kernel
theorem dX11_usesIn_49 : decode cX11_usesIn 49 = .ok (.iadd, 1) := by decide +kernel
theorem dX11_usesIn_50 : decode cX11_usesIn 50 = .ok (.istore 5, 2) := by decide +kernel
theorem dX11_usesIn_52 : decode cX11_usesIn 52 = .ok (.iinc 6 1, 3) := by decide +kernel
theorem dX11_usesIn_55 : decode cX11_usesIn 55 = .ok (.goto (-40), 3) := by decide +kernel
theorem dX11_usesIn_58 : decode cX11_usesIn 58 = .ok (.iload 5, 2) := by decide +kernel
theorem dX11_usesIn_60 : decode cX11_usesIn 60 = .ok (.ireturn, 1) := by decide +kernel
theorem dX11_uses_0 : decode cX11_uses 0 = .ok (.iload_n 1, 1) := by decide +kernel
theorem dX11_uses_1 : decode cX11_uses 1 = .ok (.invokestatic 194, 3) := by decide +kernel
theorem dX11_uses_4 : decode cX11_uses 4 = .ok (.ifCond .eq 18, 3) := by decide +kernel
theorem dX11_uses_7 : decode cX11_uses 7 = .ok (.iload_n 3, 1) := by decide +kernel
theorem dX11_uses_8 : decode cX11_uses 8 = .ok (.invokestatic 216, 3) := by decide +kernel
theorem dX11_uses_11 : decode cX11_uses 11 = .ok (.ifCond .eq 11, 3) := by decide +kernel
theorem dX11_uses_14 : decode cX11_uses 14 = .ok (.iload 4, 2) := by decide +kernel
theorem dX11_uses_16 : decode cX11_uses 16 = .ok (.invokestatic 216, 3) := by decide +kernel
theorem dX11_uses_19 : decode cX11_uses 19 = .ok (.ifCond .ne 7, 3) := by decide +kernel
theorem dX11_uses_22 : decode cX11_uses 22 = .ok (.sipush (-1001), 3) := by decide +kernel
theorem dX11_uses_25 : decode cX11_uses 25 = .ok (.ireturn, 1) := by decide +kernel
theorem dX11_uses_26 : decode cX11_uses 26 = .ok (.iload_n 2, 1) := by decide +kernel
theorem dX11_uses_27 : decode cX11_uses 27 = .ok (.i2l, 1) := by decide +kernel
theorem dX11_uses_28 : decode cX11_uses 28 = .ok (.lconst 0, 1) := by decide +kernel
theorem dX11_uses_29 : decode cX11_uses 29 = .ok (.ldc2_w 248, 3) := by decide +kernel
theorem dX11_uses_32 : decode cX11_uses 32 = .ok (.invokestatic 123, 3) := by decide +kernel
theorem dX11_uses_35 : decode cX11_uses 35 = .ok (.ifCond .eq 9, 3) := by decide +kernel
theorem dX11_uses_38 : decode cX11_uses 38 = .ok (.iload 4, 2) := by decide +kernel
theorem dX11_uses_40 : decode cX11_uses 40 = .ok (.iload_n 3, 1) := by decide +kernel
theorem dX11_uses_41 : decode cX11_uses 41 = .ok (.if_icmp .ge 7, 3) := by decide +kernel
theorem dX11_uses_44 : decode cX11_uses 44 = .ok (.sipush (-1002), 3) := by decide +kernel
theorem dX11_uses_47 : decode cX11_uses 47 = .ok (.ireturn, 1) := by decide +kernel
theorem dX11_uses_48 : decode cX11_uses 48 = .ok (.iconst 0, 1) := by decide +kernel
theorem dX11_uses_49 : decode cX11_uses 49 = .ok (.istore 5, 2) := by decide +kernel
theorem dX11_uses_51 : decode cX11_uses 51 = .ok (.iload_n 3, 1) := by decide +kernel
theorem dX11_uses_52 : decode cX11_uses 52 = .ok (.istore 6, 2) := by decide +kernel
theorem dX11_uses_54 : decode cX11_uses 54 = .ok (.iload 6, 2) := by decide +kernel
theorem dX11_uses_56 : decode cX11_uses 56 = .ok (.iload 4, 2) := by decide +kernel
theorem dX11_uses_58 : decode cX11_uses 58 = .ok (.if_icmp .gt 22, 3) := by decide +kernel
theorem dX11_uses_61 : decode cX11_uses 61 = .ok (.iload 5, 2) := by decide +kernel
theorem dX11_uses_63 : decode cX11_uses 63 = .ok (.aload_n 0, 1) := by decide +kernel
theorem dX11_uses_64 : decode cX11_uses 64 = .ok (.iload_n 1, 1) := by decide +kernel
theorem dX11_uses_65 : decode cX11_uses 65 = .ok (.iload 6, 2) := by decide +kernel
theorem dX11_uses_67 : decode cX11_uses 67 = .ok (.iload_n 2, 1) := by decide +kernel
theorem dX11_uses_68 : decode cX11_uses 68 = .ok (.invokevirtual 250, 3) := by decide +kernel
theorem dX11_uses_71 : decode cX11_uses 71 = .ok (.iadd, 1) := by decide +kernel
theorem dX11_uses_72 : decode cX11_uses 72 = .ok (.istore 5, 2) := by decide +kernel
theorem dX11_uses_74 : decode cX11_uses 74 = .ok (.iinc 6 1, 3) := by decide +kernel
theorem dX11_uses_77 : decode cX11_uses 77 = .ok (.goto (-23), 3) := by decide +kernel
theorem dX11_uses_80 : decode cX11_uses 80 = .ok (.iload 5, 2) := by decide +kernel
theorem dX11_uses_82 : decode cX11_uses 82 = .ok (.ireturn, 1) := by decide +kernel
theorem dX11_first_0 : decode cX11_first 0 = .ok (.iload_n 1, 1) := by decide +kernel
theorem dX11_first_1 : decode cX11_first 1 = .ok (.invokestatic 194, 3) := by decide +kernel
theorem dX11_first_4 : decode cX11_first 4 = .ok (.ifCond .ne 7, 3) := by decide +kernel
theorem dX11_first_7 : decode cX11_first 7 = .ok (.sipush (-1001), 3) := by decide +kernel
theorem dX11_first_10 : decode cX11_first 10 = .ok (.ireturn, 1) := by decide +kernel
theorem dX11_first_11 : decode cX11_first 11 = .ok (.iload_n 2, 1) := by decide +kernel
theorem dX11_first_12 : decode cX11_first 12 = .ok (.i2l, 1) := by decide +kernel
theorem dX11_first_13 : decode cX11_first 13 = .ok (.lconst 0, 1) := by decide +kernel
theorem dX11_first_14 : decode cX11_first 14 = .ok (.ldc2_w 248, 3) := by decide +kernel
theorem dX11_first_17 : decode cX11_first 17 = .ok (.invokestatic 123, 3) := by decide +kernel
theorem dX11_first_20 : decode cX11_first 20 = .ok (.ifCond .ne 7, 3) := by decide +kernel
theorem dX11_first_23 : decode cX11_first 23 = .ok (.sipush (-1002), 3) := by decide +kernel
theorem dX11_first_26 : decode cX11_first 26 = .ok (.ireturn, 1) := by decide +kernel
theorem dX11_first_27 : decode cX11_first 27 = .ok (.iconst 0, 1) := by decide +kernel
theorem dX11_first_28 : decode cX11_first 28 = .ok (.istore_n 3, 1) := by decide +kernel
theorem dX11_first_29 : decode cX11_first 29 = .ok (.iload_n 3, 1) := by decide +kernel
theorem dX11_first_30 : decode cX11_first 30 = .ok (.sipush 1000, 3) := by decide +kernel
theorem dX11_first_33 : decode cX11_first 33 = .ok (.if_icmp .ge 21, 3) := by decide +kernel
theorem dX11_first_36 : decode cX11_first 36 = .ok (.aload_n 0, 1) := by decide +kernel
theorem dX11_first_37 : decode cX11_first 37 = .ok (.iload_n 1, 1) := by decide +kernel
theorem dX11_first_38 : decode cX11_first 38 = .ok (.iload_n 3, 1) := by decide +kernel
theorem dX11_first_39 : decode cX11_first 39 = .ok (.iload_n 2, 1) := by decide +kernel
theorem dX11_first_40 : decode cX11_first 40 = .ok (.invokevirtual 250, 3) := by decide +kernel
theorem dX11_first_43 : decode cX11_first 43 = .ok (.ifCond .le 5, 3) := by decide +kernel
theorem dX11_first_46 : decode cX11_first 46 = .ok (.iload_n 3, 1) := by decide +kernel
theorem dX11_first_47 : decode cX11_first 47 = .ok (.ireturn, 1) := by decide +kernel
theorem dX11_first_48 : decode cX11_first 48 = .ok (.iinc 3 1, 3) := by decide +kernel
theorem dX11_first_51 : decode cX11_first 51 = .ok (.goto (-22), 3) := by decide +kernel
theorem dX11_first_54 : decode cX11_first 54 = .ok (.iconst (-1), 1) := by decide +kernel
theorem dX11_first_55 : decode cX11_first 55 = .ok (.ireturn, 1) := by decide +kernel
theorem dX11_song_0 : decode cX11_song 0 = .ok (.iload_n 1, 1) := by decide +kernel
theorem dX11_song_1 : decode cX11_song 1 = .ok (.invokestatic 194, 3) := by decide +kernel
theorem dX11_song_4 : decode cX11_song 4 = .ok (.ifCond .eq 17, 3) := by decide +kernel
theorem dX11_song_7 : decode cX11_song 7 = .ok (.iload_n 2, 1) := by decide +kernel
theorem dX11_song_8 : decode cX11_song 8 = .ok (.invokestatic 216, 3) := by decide +kernel
theorem dX11_song_11 : decode cX11_song 11 = .ok (.ifCond .eq 10, 3) := by decide +kernel
theorem dX11_song_14 : decode cX11_song 14 = .ok (.iload_n 3, 1) := by decide +kernel
theorem dX11_song_15 : decode cX11_song 15 = .ok (.invokestatic 216, 3) := by decide +kernel
theorem dX11_song_18 : decode cX11_song 18 = .ok (.ifCond .ne 7, 3) := by decide +kernel
theorem dX11_song_21 : decode cX11_song 21 = .ok (.sipush (-1001), 3) := by decide +kernel
theorem dX11_song_24 : decode cX11_song 24 = .ok (.ireturn, 1) := by decide +kernel
theorem dX11_song_25 : decode cX11_song 25 = .ok (.iload_n 3, 1) := by decide +kernel
theorem dX11_song_26 : decode cX11_song 26 = .ok (.iload_n 2, 1) := by decide +kernel
theorem dX11_song_27 : decode cX11_song 27 = .ok (.if_icmp .ge 7, 3) := by decide +kernel
theorem dX11_song_30 : decode cX11_song 30 = .ok (.sipush (-1002), 3) := by decide +kernel
theorem dX11_song_33 : decode cX11_song 33 = .ok (.ireturn, 1) := by decide +kernel
theorem dX11_song_34 : decode cX11_song 34 = .ok (.iconst 0, 1) := by decide +kernel
theorem dX11_song_35 : decode cX11_song 35 = .ok (.istore 4, 2) := by decide +kernel
theorem dX11_song_37 : decode cX11_song 37 = .ok (.iload_n 2, 1) := by decide +kernel
theorem dX11_song_38 : decode cX11_song 38 = .ok (.istore 5, 2) := by decide +kernel
theorem dX11_song_40 : decode cX11_song 40 = .ok (.iload 5, 2) := by decide +kernel
theorem dX11_song_42 : decode cX11_song 42 = .ok (.iload_n 3, 1) := by decide +kernel
theorem dX11_song_43 : decode cX11_song 43 = .ok (.if_icmp .gt 47, 3) := by decide +kernel
theorem dX11_song_46 : decode cX11_song 46 = .ok (.iload 4, 2) := by decide +kernel
theorem dX11_song_48 : decode cX11_song 48 = .ok (.aload_n 0, 1) := by decide +kernel
theorem dX11_song_49 : decode cX11_song 49 = .ok (.getfield 41, 3) := by decide +kernel
theorem dX11_song_52 : decode cX11_song 52 = .ok (.sipush 1000, 3) := by decide +kernel
theorem dX11_song_55 : decode cX11_song 55 = .ok (.iload_n 1, 1) := by decide +kernel
theorem dX11_song_56 : decode cX11_song 56 = .ok (.imul, 1) := by decide +kernel
theorem dX11_song_57 : decode cX11_song 57 = .ok (.iload 5, 2) := by decide +kernel
theorem dX11_song_59 : decode cX11_song 59 = .ok (.iadd, 1) := by decide +kernel
theorem dX11_song_60 : decode cX11_song 60 = .ok (.iaload, 1) := by decide +kernel
theorem dX11_song_61 : decode cX11_song 61 = .ok (.ifCond .ge 7, 3) := by decide +kernel
theorem dX11_song_64 : decode cX11_song 64 = .ok (.iconst 0, 1) := by decide +kernel
theorem dX11_song_65 : decode cX11_song 65 = .ok (.goto 16, 3) := by decide +kernel
theorem dX11_song_68 : decode cX11_song 68 = .ok (.aload_n 0, 1) := by decide +kernel
theorem dX11_song_69 : decode cX11_song 69 = .ok (.getfield 54, 3) := by decide +kernel
theorem dX11_song_72 : decode cX11_song 72 = .ok (.sipush 1000, 3) := by decide +kernel
theorem dX11_song_75 : decode cX11_song 75 = .ok (.iload_n 1, 1) := by decide +kernel
theorem dX11_song_76 : decode cX11_song 76 = .ok (.imul, 1) := by decide +kernel
theorem dX11_song_77 : decode cX11_song 77 = .ok (.iload 5, 2) := by decide +kernel
theorem dX11_song_79 : decode cX11_song 79 = .ok (.iadd, 1) := by decide +kernel
theorem dX11_song_80 : decode cX11_song 80 = .ok (.iaload, 1) := by decide +kernel
theorem dX11_song_81 : decode cX11_song 81 = .ok (.iadd, 1) := by decide +kernel
theorem dX11_song_82 : decode cX11_song 82 = .ok (.istore 4, 2) := by decide +kernel
theorem dX11_song_84 : decode cX11_song 84 = .ok (.iinc 5 1, 3) := by decide +kernel
theorem dX11_song_87 : decode cX11_song 87 = .ok (.goto (-47), 3) := by decide +kernel
theorem dX11_song_90 : decode cX11_song 90 = .ok (.iload 4, 2) := by decide +kernel
theorem dX11_song_92 : decode cX11_song 92 = .ok (.ireturn, 1) := by decide +kernel
theorem dX11_isAhead_0 : decode cX11_isAhead 0 = .ok (.sipush 1000, 3) := by decide +kernel
theorem dX11_isAhead_3 : decode cX11_isAhead 3 = .ok (.iload_n 1, 1) := by decide +kernel
theorem dX11_isAhead_4 : decode cX11_isAhead 4 = .ok (.imul, 1) := by decide +kernel
theorem dX11_isAhead_5 : decode cX11_isAhead 5 = .ok (.iload_n 2, 1) := by decide +kernel
theorem dX11_isAhead_6 : decode cX11_isAhead 6 = .ok (.iadd, 1) := by decide +kernel
theorem dX11_isAhead_7 : decode cX11_isAhead 7 = .ok (.istore 4, 2) := by decide +kernel
theorem dX11_isAhead_9 : decode cX11_isAhead 9 = .ok (.sipush 1000, 3) := by decide +kernel
theorem dX11_isAhead_12 : decode cX11_isAhead 12 = .ok (.iload_n 1, 1) := by decide +kernel
theorem dX11_isAhead_13 : decode cX11_isAhead 13 = .ok (.imul, 1) := by decide +kernel
theorem dX11_isAhead_14 : decode cX11_isAhead 14 = .ok (.iload_n 3, 1) := by decide +kernel
theorem dX11_isAhead_15 : decode cX11_isAhead 15 = .ok (.iadd, 1) := by decide +kernel
theorem dX11_isAhead_16 : decode cX11_isAhead 16 = .ok (.istore 5, 2) := by decide +kernel
theorem dX11_isAhead_18 : decode cX11_isAhead 18 = .ok (.iconst 0, 1) := by decide +kernel
theorem dX11_isAhead_19 : decode cX11_isAhead 19 = .ok (.istore 6, 2) := by decide +kernel
theorem dX11_isAhead_21 : decode cX11_isAhead 21 = .ok (.iload 6, 2) := by decide +kernel
theorem dX11_isAhead_23 : decode cX11_isAhead 23 = .ok (.aload_n 0, 1) := by decide +kernel
theorem dX11_isAhead_24 : decode cX11_isAhead 24 = .ok (.getfield 41, 3) := by decide +kernel
theorem dX11_isAhead_27 : decode cX11_isAhead 27 = .ok (.iload 4, 2) := by decide +kernel
theorem dX11_isAhead_29 : decode cX11_isAhead 29 = .ok (.iaload, 1) := by decide +kernel
theorem dX11_isAhead_30 : decode cX11_isAhead 30 = .ok (.if_icmp .ge 40, 3) := by decide +kernel
theorem dX11_isAhead_33 : decode cX11_isAhead 33 = .ok (.iload 6, 2) := by decide +kernel
theorem dX11_isAhead_35 : decode cX11_isAhead 35 = .ok (.aload_n 0, 1) := by decide +kernel
theorem dX11_isAhead_36 : decode cX11_isAhead 36 = .ok (.getfield 41, 3) := by decide +kernel
theorem dX11_isAhead_39 : decode cX11_isAhead 39 = .ok (.iload 5, 2) := by decide +kernel
theorem dX11_isAhead_41 : decode cX11_isAhead 41 = .ok (.iaload, 1) := by decide +kernel
theorem dX11_isAhead_42 : decode cX11_isAhead 42 = .ok (.if_icmp .ge 28, 3) := by decide +kernel
theorem dX11_isAhead_45 : decode cX11_isAhead 45 = .ok (.aload_n 0, 1) := by decide +kernel
theorem dX11_isAhead_46 : decode cX11_isAhead 46 = .ok (.iload 4, 2) := by decide +kernel
theorem dX11_isAhead_48 : decode cX11_isAhead 48 = .ok (.iload 6, 2) := by decide +kernel
theorem dX11_isAhead_50 : decode cX11_isAhead 50 = .ok (.invokevirtual 222, 3) := by decide +kernel
theorem dX11_isAhead_53 : decode cX11_isAhead 53 = .ok (.aload_n 0, 1) := by decide +kernel
theorem dX11_isAhead_54 : decode cX11_isAhead 54 = .ok (.iload 5, 2) := by decide +kernel
theorem dX11_isAhead_56 : decode cX11_isAhead 56 = .ok (.iload 6, 2) := by decide +kernel
theorem dX11_isAhead_58 : decode cX11_isAhead 58 = .ok (.invokevirtual 222, 3) := by decide +kernel
theorem dX11_isAhead_61 : decode cX11_isAhead 61 = .ok (.if_icmp .ne 9, 3) := by decide +kernel
theorem dX11_isAhead_64 : decode cX11_isAhead 64 = .ok (.iinc 6 1, 3) := by decide +kernel
theorem dX11_isAhead_67 : decode cX11_isAhead 67 = .ok (.goto (-46), 3) := by decide +kernel
theorem dX11_isAhead_70 : decode cX11_isAhead 70 = .ok (.iload 6, 2) := by decide +kernel
theorem dX11_isAhead_72 : decode cX11_isAhead 72 = .ok (.aload_n 0, 1) := by decide +kernel
theorem dX11_isAhead_73 : decode cX11_isAhead 73 = .ok (.getfield 41, 3) := by decide +kernel
theorem dX11_isAhead_76 : decode cX11_isAhead 76 = .ok (.iload 4, 2) := by decide +kernel
theorem dX11_isAhead_78 : decode cX11_isAhead 78 = .ok (.iaload, 1) := by decide +kernel
theorem dX11_isAhead_79 : decode cX11_isAhead 79 = .ok (.if_icmp .eq 15, 3) := by decide +kernel
theorem dX11_isAhead_82 : decode cX11_isAhead 82 = .ok (.iload 6, 2) := by decide +kernel
theorem dX11_isAhead_84 : decode cX11_isAhead 84 = .ok (.aload_n 0, 1) := by decide +kernel
theorem dX11_isAhead_85 : decode cX11_isAhead 85 = .ok (.getfield 41, 3) := by decide +kernel
theorem dX11_isAhead_88 : decode cX11_isAhead 88 = .ok (.iload 5, 2) := by decide +kernel
theorem dX11_isAhead_90 : decode cX11_isAhead 90 = .ok (.iaload, 1) := by decide +kernel
theorem dX11_isAhead_91 : decode cX11_isAhead 91 = .ok (.if_icmp .ne 48, 3) := by decide +kernel
theorem dX11_isAhead_94 : decode cX11_isAhead 94 = .ok (.aload_n 0, 1) := by decide +kernel
theorem dX11_isAhead_95 : decode cX11_isAhead 95 = .ok (.getfield 41, 3) := by decide +kernel
theorem dX11_isAhead_98 : decode cX11_isAhead 98 = .ok (.iload 4, 2) := by decide +kernel
theorem dX11_isAhead_100 : decode cX11_isAhead 100 = .ok (.iaload, 1) := by decide +kernel
theorem dX11_isAhead_101 : decode cX11_isAhead 101 = .ok (.aload_n 0, 1) := by decide +kernel
theorem dX11_isAhead_102 : decode cX11_isAhead 102 = .ok (.getfield 41, 3) := by decide +kernel
theorem dX11_isAhead_105 : decode cX11_isAhead 105 = .ok (.iload 5, 2) := by decide +kernel
theorem dX11_isAhead_107 : decode cX11_isAhead 107 = .ok (.iaload, 1) := by decide +kernel
theorem dX11_isAhead_108 : decode cX11_isAhead 108 = .ok (.if_icmp .lt 25, 3) := by decide +kernel
theorem dX11_isAhead_111 : decode cX11_isAhead 111 = .ok (.aload_n 0, 1) := by decide +kernel
theorem dX11_isAhead_112 : decode cX11_isAhead 112 = .ok (.getfield 41, 3) := by decide +kernel
theorem dX11_isAhead_115 : decode cX11_isAhead 115 = .ok (.iload 4, 2) := by decide +kernel
theorem dX11_isAhead_117 : decode cX11_isAhead 117 = .ok (.iaload, 1) := by decide +kernel
theorem dX11_isAhead_118 : decode cX11_isAhead 118 = .ok (.aload_n 0, 1) := by decide +kernel
theorem dX11_isAhead_119 : decode cX11_isAhead 119 = .ok (.getfield 41, 3) := by decide +kernel
theorem dX11_isAhead_122 : decode cX11_isAhead 122 = .ok (.iload 5, 2) := by decide +kernel
theorem dX11_isAhead_124 : decode cX11_isAhead 124 = .ok (.iaload, 1) := by decide +kernel
theorem dX11_isAhead_125 : decode cX11_isAhead 125 = .ok (.if_icmp .ne 12, 3) := by decide +kernel
theorem dX11_isAhead_128 : decode cX11_isAhead 128 = .ok (.iload_n 2, 1) := by decide +kernel
theorem dX11_isAhead_129 : decode cX11_isAhead 129 = .ok (.iload_n 3, 1) := by decide +kernel
theorem dX11_isAhead_130 : decode cX11_isAhead 130 = .ok (.if_icmp .ge 7, 3) := by decide +kernel
theorem dX11_isAhead_133 : decode cX11_isAhead 133 = .ok (.iconst 1, 1) := by decide +kernel
theorem dX11_isAhead_134 : decode cX11_isAhead 134 = .ok (.goto 4, 3) := by decide +kernel
theorem dX11_isAhead_137 : decode cX11_isAhead 137 = .ok (.iconst 0, 1) := by decide +kernel
theorem dX11_isAhead_138 : decode cX11_isAhead 138 = .ok (.ireturn, 1) := by decide +kernel
theorem dX11_isAhead_139 : decode cX11_isAhead 139 = .ok (.aload_n 0, 1) := by decide +kernel
theorem dX11_isAhead_140 : decode cX11_isAhead 140 = .ok (.iload 4, 2) := by decide +kernel
theorem dX11_isAhead_142 : decode cX11_isAhead 142 = .ok (.iload 6, 2) := by decide +kernel
theorem dX11_isAhead_144 : decode cX11_isAhead 144 = .ok (.invokevirtual 222, 3) := by decide +kernel
theorem dX11_isAhead_147 : decode cX11_isAhead 147 = .ok (.aload_n 0, 1) := by decide +kernel
theorem dX11_isAhead_148 : decode cX11_isAhead 148 = .ok (.iload 5, 2) := by decide +kernel
theorem dX11_isAhead_150 : decode cX11_isAhead 150 = .ok (.iload 6, 2) := by decide +kernel
theorem dX11_isAhead_152 : decode cX11_isAhead 152 = .ok (.invokevirtual 222, 3) := by decide +kernel
theorem dX11_isAhead_155 : decode cX11_isAhead 155 = .ok (.if_icmp .ge 7, 3) := by decide +kernel
theorem dX11_isAhead_158 : decode cX11_isAhead 158 = .ok (.iconst 1, 1) := by decide +kernel
theorem dX11_isAhead_159 : decode cX11_isAhead 159 = .ok (.goto 4, 3) := by decide +kernel
theorem dX11_isAhead_162 : decode cX11_isAhead 162 = .ok (.iconst 0, 1) := by decide +kernel
theorem dX11_isAhead_163 : decode cX11_isAhead 163 = .ok (.ireturn, 1) := by decide +kernel
theorem dX11_findOrder_0 : decode cX11_findOrder 0 = .ok (.aload_n 0, 1) := by decide +kernel
theorem dX11_findOrder_1 : decode cX11_findOrder 1 = .ok (.getfield 238, 3) := by decide +kernel
theorem dX11_findOrder_4 : decode cX11_findOrder 4 = .ok (.ifCond .eq 12, 3) := by decide +kernel
theorem dX11_findOrder_7 : decode cX11_findOrder 7 = .ok (.aload_n 0, 1) := by decide +kernel
theorem dX11_findOrder_8 : decode cX11_findOrder 8 = .ok (.getfield 253, 3) := by decide +kernel
theorem dX11_findOrder_11 : decode cX11_findOrder 11 = .ok (.iload_n 1, 1) := by decide +kernel
theorem dX11_findOrder_12 : decode cX11_findOrder 12 = .ok (.if_icmp .ne 4, 3) := by decide +kernel
theorem dX11_findOrder_15 : decode cX11_findOrder 15 = .ok (.return_, 1) := by decide +kernel
theorem dX11_findOrder_16 : decode cX11_findOrder 16 = .ok (.aload_n 0, 1) := by decide +kernel
theorem dX11_findOrder_17 : decode cX11_findOrder 17 = .ok (.iconst 0, 1) := by decide +kernel
theorem dX11_findOrder_18 : decode cX11_findOrder 18 = .ok (.putfield 256, 3) := by decide +kernel
theorem dX11_findOrder_21 : decode cX11_findOrder 21 = .ok (.iconst 0, 1) := by decide +kernel
theorem dX11_findOrder_22 : decode cX11_findOrder 22 = .ok (.istore_n 2, 1) := by decide +kernel
theorem dX11_findOrder_23 : decode cX11_findOrder 23 = .ok (.iload_n 2, 1) := by decide +kernel
theorem dX11_findOrder_24 : decode cX11_findOrder 24 = .ok (.sipush 1000, 3) := by decide +kernel
theorem dX11_findOrder_27 : decode cX11_findOrder 27 = .ok (.if_icmp .ge 44, 3) := by decide +kernel
theorem dX11_findOrder_30 : decode cX11_findOrder 30 = .ok (.aload_n 0, 1) := by decide +kernel
theorem dX11_findOrder_31 : decode cX11_findOrder 31 = .ok (.getfield 41, 3) := by decide +kernel
theorem dX11_findOrder_34 : decode cX11_findOrder 34 = .ok (.sipush 1000, 3) := by decide +kernel
theorem dX11_findOrder_37 : decode cX11_findOrder 37 = .ok (.iload_n 1, 1) := by decide +kernel
theorem dX11_findOrder_38 : decode cX11_findOrder 38 = .ok (.imul, 1) := by decide +kernel
theorem dX11_findOrder_39 : decode cX11_findOrder 39 = .ok (.iload_n 2, 1) := by decide +kernel
theorem dX11_findOrder_40 : decode cX11_findOrder 40 = .ok (.iadd, 1) := by decide +kernel
theorem dX11_findOrder_41 : decode cX11_findOrder 41 = .ok (.iaload, 1) := by decide +kernel
theorem dX11_findOrder_42 : decode cX11_findOrder 42 = .ok (.ifCond .lt 23, 3) := by decide +kernel
theorem dX11_findOrder_45 : decode cX11_findOrder 45 = .ok (.aload_n 0, 1) := by decide +kernel
theorem dX11_findOrder_46 : decode cX11_findOrder 46 = .ok (.getfield 97, 3) := by decide +kernel
theorem dX11_findOrder_49 : decode cX11_findOrder 49 = .ok (.aload_n 0, 1) := by decide +kernel
theorem dX11_findOrder_50 : decode cX11_findOrder 50 = .ok (.getfield 256, 3) := by decide +kernel
theorem dX11_findOrder_53 : decode cX11_findOrder 53 = .ok (.iload_n 2, 1) := by decide +kernel
theorem dX11_findOrder_54 : decode cX11_findOrder 54 = .ok (.iastore, 1) := by decide +kernel
theorem dX11_findOrder_55 : decode cX11_findOrder 55 = .ok (.aload_n 0, 1) := by decide +kernel
theorem dX11_findOrder_56 : decode cX11_findOrder 56 = .ok (.dup, 1) := by decide +kernel
theorem dX11_findOrder_57 : decode cX11_findOrder 57 = .ok (.getfield 256, 3) := by decide +kernel
theorem dX11_findOrder_60 : decode cX11_findOrder 60 = .ok (.iconst 1, 1) := by decide +kernel
theorem dX11_findOrder_61 : decode cX11_findOrder 61 = .ok (.iadd, 1) := by decide +kernel
theorem dX11_findOrder_62 : decode cX11_findOrder 62 = .ok (.putfield 256, 3) := by decide +kernel
theorem dX11_findOrder_65 : decode cX11_findOrder 65 = .ok (.iinc 2 1, 3) := by decide +kernel
theorem dX11_findOrder_68 : decode cX11_findOrder 68 = .ok (.goto (-45), 3) := by decide +kernel
theorem dX11_findOrder_71 : decode cX11_findOrder 71 = .ok (.sipush 364, 3) := by decide +kernel
theorem dX11_findOrder_74 : decode cX11_findOrder 74 = .ok (.istore_n 2, 1) := by decide +kernel
theorem dX11_findOrder_75 : decode cX11_findOrder 75 = .ok (.iload_n 2, 1) := by decide +kernel
theorem dX11_findOrder_76 : decode cX11_findOrder 76 = .ok (.ifCond .le 96, 3) := by decide +kernel
theorem dX11_findOrder_79 : decode cX11_findOrder 79 = .ok (.iload_n 2, 1) := by decide +kernel
theorem dX11_findOrder_80 : decode cX11_findOrder 80 = .ok (.istore_n 3, 1) := by decide +kernel
theorem dX11_findOrder_81 : decode cX11_findOrder 81 = .ok (.iload_n 3, 1) := by decide +kernel
theorem dX11_findOrder_82 : decode cX11_findOrder 82 = .ok (.aload_n 0, 1) := by decide +kernel
theorem dX11_findOrder_83 : decode cX11_findOrder 83 = .ok (.getfield 256, 3) := by decide +kernel
theorem dX11_findOrder_86 : decode cX11_findOrder 86 = .ok (.if_icmp .ge 79, 3) := by decide +kernel
theorem dX11_findOrder_89 : decode cX11_findOrder 89 = .ok (.aload_n 0, 1) := by decide +kernel
theorem dX11_findOrder_90 : decode cX11_findOrder 90 = .ok (.getfield 97, 3) := by decide +kernel
theorem dX11_findOrder_93 : decode cX11_findOrder 93 = .ok (.iload_n 3, 1) := by decide +kernel
theorem dX11_findOrder_94 : decode cX11_findOrder 94 = .ok (.iaload, 1) := by decide +kernel
theorem dX11_findOrder_95 : decode cX11_findOrder 95 = .ok (.istore 4, 2) := by decide +kernel
theorem dX11_findOrder_97 : decode cX11_findOrder 97 = .ok (.iload_n 3, 1) := by decide +kernel
theorem dX11_findOrder_98 : decode cX11_findOrder 98 = .ok (.istore 5, 2) := by decide +kernel
theorem dX11_findOrder_100 : decode cX11_findOrder 100 = .ok (.iload 5, 2) := by decide +kernel
theorem dX11_findOrder_102 : decode cX11_findOrder 102 = .ok (.iload_n 2, 1) := by decide +kernel
theorem dX11_findOrder_103 : decode cX11_findOrder 103 = .ok (.if_icmp .lt 47, 3) := by decide +kernel
theorem dX11_findOrder_106 : decode cX11_findOrder 106 = .ok (.aload_n 0, 1) := by decide +kernel
theorem dX11_findOrder_107 : decode cX11_findOrder 107 = .ok (.iload_n 1, 1) := by decide +kernel
theorem dX11_findOrder_108 : decode cX11_findOrder 108 = .ok (.iload 4, 2) := by decide +kernel
theorem dX11_findOrder_110 : decode cX11_findOrder 110 = .ok (.aload_n 0, 1) := by decide +kernel
theorem dX11_findOrder_111 : decode cX11_findOrder 111 = .ok (.getfield 97, 3) := by decide +kernel
theorem dX11_findOrder_114 : decode cX11_findOrder 114 = .ok (.iload 5, 2) := by decide +kernel
theorem dX11_findOrder_116 : decode cX11_findOrder 116 = .ok (.iload_n 2, 1) := by decide +kernel
theorem dX11_findOrder_117 : decode cX11_findOrder 117 = .ok (.isub, 1) := by decide +kernel
theorem dX11_findOrder_118 : decode cX11_findOrder 118 = .ok (.iaload, 1) := by decide +kernel
theorem dX11_findOrder_119 : decode cX11_findOrder 119 = .ok (.invokevirtual 259, 3) := by decide +kernel
theorem dX11_findOrder_122 : decode cX11_findOrder 122 = .ok (.ifCond .eq 28, 3) := by decide +kernel
theorem dX11_findOrder_125 : decode cX11_findOrder 125 = .ok (.aload_n 0, 1) := by decide +kernel
theorem dX11_findOrder_126 : decode cX11_findOrder 126 = .ok (.getfield 97, 3) := by decide +kernel
theorem dX11_findOrder_129 : decode cX11_findOrder 129 = .ok (.iload 5, 2) := by decide +kernel
theorem dX11_findOrder_131 : decode cX11_findOrder 131 = .ok (.aload_n 0, 1) := by decide +kernel
theorem dX11_findOrder_132 : decode cX11_findOrder 132 = .ok (.getfield 97, 3) := by decide +kernel
theorem dX11_findOrder_135 : decode cX11_findOrder 135 = .ok (.iload 5, 2) := by decide +kernel
theorem dX11_findOrder_137 : decode cX11_findOrder 137 = .ok (.iload_n 2, 1) := by decide +kernel
theorem dX11_findOrder_138 : decode cX11_findOrder 138 = .ok (.isub, 1) := by decide +kernel
theorem dX11_findOrder_139 : decode cX11_findOrder 139 = .ok (.iaload, 1) := by decide +kernel
theorem dX11_findOrder_140 : decode cX11_findOrder 140 = .ok (.iastore, 1) := by decide +kernel
theorem dX11_findOrder_141 : decode cX11_findOrder 141 = .ok (.iload 5, 2) := by decide +kernel
theorem dX11_findOrder_143 : decode cX11_findOrder 143 = .ok (.iload_n 2, 1) := by decide +kernel
theorem dX11_findOrder_144 : decode cX11_findOrder 144 = .ok (.isub, 1) := by decide +kernel
theorem dX11_findOrder_145 : decode cX11_findOrder 145 = .ok (.istore 5, 2) := by decide +kernel
theorem dX11_findOrder_147 : decode cX11_findOrder 147 = .ok (.goto (-47), 3) := by decide +kernel
theorem dX11_findOrder_150 : decode cX11_findOrder 150 = .ok (.aload_n 0, 1) := by decide +kernel
theorem dX11_findOrder_151 : decode cX11_findOrder 151 = .ok (.getfield 97, 3) := by decide +kernel
theorem dX11_findOrder_154 : decode cX11_findOrder 154 = .ok (.iload 5, 2) := by decide +kernel
theorem dX11_findOrder_156 : decode cX11_findOrder 156 = .ok (.iload 4, 2) := by decide +kernel
theorem dX11_findOrder_158 : decode cX11_findOrder 158 = .ok (.iastore, 1) := by decide +kernel
theorem dX11_findOrder_159 : decode cX11_findOrder 159 = .ok (.iinc 3 1, 3) := by decide +kernel
theorem dX11_findOrder_162 : decode cX11_findOrder 162 = .ok (.goto (-81), 3) := by decide +kernel
theorem dX11_findOrder_165 : decode cX11_findOrder 165 = .ok (.iload_n 2, 1) := by decide +kernel
theorem dX11_findOrder_166 : decode cX11_findOrder 166 = .ok (.iconst 3, 1) := by decide +kernel
theorem dX11_findOrder_167 : decode cX11_findOrder 167 = .ok (.idiv, 1) := by decide +kernel
theorem dX11_findOrder_168 : decode cX11_findOrder 168 = .ok (.istore_n 2, 1) := by decide +kernel
theorem dX11_findOrder_169 : decode cX11_findOrder 169 = .ok (.goto (-94), 3) := by decide +kernel
theorem dX11_findOrder_172 : decode cX11_findOrder 172 = .ok (.aload_n 0, 1) := by decide +kernel
theorem dX11_findOrder_173 : decode cX11_findOrder 173 = .ok (.iconst 1, 1) := by decide +kernel
theorem dX11_findOrder_174 : decode cX11_findOrder 174 = .ok (.putfield 238, 3) := by decide +kernel
theorem dX11_findOrder_177 : decode cX11_findOrder 177 = .ok (.aload_n 0, 1) := by decide +kernel
theorem dX11_findOrder_178 : decode cX11_findOrder 178 = .ok (.iload_n 1, 1) := by decide +kernel
theorem dX11_findOrder_179 : decode cX11_findOrder 179 = .ok (.putfield 253, 3) := by decide +kernel
theorem dX11_findOrder_182 : decode cX11_findOrder 182 = .ok (.return_, 1) := by decide +kernel
theorem dX11_order_0 : decode cX11_order 0 = .ok (.iload_n 1, 1) := by decide +kernel
theorem dX11_order_1 : decode cX11_order 1 = .ok (.invokestatic 194, 3) := by decide +kernel
theorem dX11_order_4 : decode cX11_order 4 = .ok (.ifCond .ne 7, 3) := by decide +kernel
theorem dX11_order_7 : decode cX11_order 7 = .ok (.sipush (-1001), 3) := by decide +kernel
theorem dX11_order_10 : decode cX11_order 10 = .ok (.ireturn, 1) := by decide +kernel
theorem dX11_order_11 : decode cX11_order 11 = .ok (.aload_n 0, 1) := by decide +kernel
theorem dX11_order_12 : decode cX11_order 12 = .ok (.iload_n 1, 1) := by decide +kernel
theorem dX11_order_13 : decode cX11_order 13 = .ok (.invokevirtual 262, 3) := by decide +kernel
theorem dX11_order_16 : decode cX11_order 16 = .ok (.iload_n 2, 1) := by decide +kernel
theorem dX11_order_17 : decode cX11_order 17 = .ok (.i2l, 1) := by decide +kernel
theorem dX11_order_18 : decode cX11_order 18 = .ok (.lconst 0, 1) := by decide +kernel
theorem dX11_order_19 : decode cX11_order 19 = .ok (.aload_n 0, 1) := by decide +kernel
theorem dX11_order_20 : decode cX11_order 20 = .ok (.getfield 256, 3) := by decide +kernel
theorem dX11_order_23 : decode cX11_order 23 = .ok (.iconst 1, 1) := by decide +kernel
theorem dX11_order_24 : decode cX11_order 24 = .ok (.isub, 1) := by decide +kernel
theorem dX11_order_25 : decode cX11_order 25 = .ok (.i2l, 1) := by decide +kernel
theorem dX11_order_26 : decode cX11_order 26 = .ok (.invokestatic 123, 3) := by decide +kernel
theorem dX11_order_29 : decode cX11_order 29 = .ok (.ifCond .eq 12, 3) := by decide +kernel
theorem dX11_order_32 : decode cX11_order 32 = .ok (.aload_n 0, 1) := by decide +kernel
theorem dX11_order_33 : decode cX11_order 33 = .ok (.getfield 97, 3) := by decide +kernel
theorem dX11_order_36 : decode cX11_order 36 = .ok (.iload_n 2, 1) := by decide +kernel
theorem dX11_order_37 : decode cX11_order 37 = .ok (.iaload, 1) := by decide +kernel
theorem dX11_order_38 : decode cX11_order 38 = .ok (.goto 4, 3) := by decide +kernel
theorem dX11_order_41 : decode cX11_order 41 = .ok (.iconst (-1), 1) := by decide +kernel
theorem dX11_order_42 : decode cX11_order 42 = .ok (.ireturn, 1) := by decide +kernel
theorem dX11_place_0 : decode cX11_place 0 = .ok (.iload_n 1, 1) := by decide +kernel
theorem dX11_place_1 : decode cX11_place 1 = .ok (.invokestatic 194, 3) := by decide +kernel
theorem dX11_place_4 : decode cX11_place 4 = .ok (.ifCond .eq 10, 3) := by decide +kernel
theorem dX11_place_7 : decode cX11_place 7 = .ok (.iload_n 2, 1) := by decide +kernel
theorem dX11_place_8 : decode cX11_place 8 = .ok (.invokestatic 216, 3) := by decide +kernel
theorem dX11_place_11 : decode cX11_place 11 = .ok (.ifCond .ne 7, 3) := by decide +kernel
theorem dX11_place_14 : decode cX11_place 14 = .ok (.sipush (-1001), 3) := by decide +kernel
theorem dX11_place_17 : decode cX11_place 17 = .ok (.ireturn, 1) := by decide +kernel
theorem dX11_place_18 : decode cX11_place 18 = .ok (.aload_n 0, 1) := by decide +kernel
theorem dX11_place_19 : decode cX11_place 19 = .ok (.iload_n 1, 1) := by decide +kernel
theorem dX11_place_20 : decode cX11_place 20 = .ok (.invokevirtual 262, 3) := by decide +kernel
theorem dX11_place_23 : decode cX11_place 23 = .ok (.iconst 0, 1) := by decide +kernel
theorem dX11_place_24 : decode cX11_place 24 = .ok (.istore_n 3, 1) := by decide +kernel
theorem dX11_place_25 : decode cX11_place 25 = .ok (.iload_n 3, 1) := by decide +kernel
theorem dX11_place_26 : decode cX11_place 26 = .ok (.aload_n 0, 1) := by decide +kernel
theorem dX11_place_27 : decode cX11_place 27 = .ok (.getfield 256, 3) := by decide +kernel
theorem dX11_place_30 : decode cX11_place 30 = .ok (.if_icmp .ge 21, 3) := by decide +kernel
theorem dX11_place_33 : decode cX11_place 33 = .ok (.aload_n 0, 1) := by decide +kernel
theorem dX11_place_34 : decode cX11_place 34 = .ok (.getfield 97, 3) := by decide +kernel
theorem dX11_place_37 : decode cX11_place 37 = .ok (.iload_n 3, 1) := by decide +kernel
theorem dX11_place_38 : decode cX11_place 38 = .ok (.iaload, 1) := by decide +kernel
theorem dX11_place_39 : decode cX11_place 39 = .ok (.iload_n 2, 1) := by decide +kernel
theorem dX11_place_40 : decode cX11_place 40 = .ok (.if_icmp .ne 5, 3) := by decide +kernel
theorem dX11_place_43 : decode cX11_place 43 = .ok (.iload_n 3, 1) := by decide +kernel
theorem dX11_place_44 : decode cX11_place 44 = .ok (.ireturn, 1) := by decide +kernel
theorem dX11_place_45 : decode cX11_place 45 = .ok (.iinc 3 1, 3) := by decide +kernel
theorem dX11_place_48 : decode cX11_place 48 = .ok (.goto (-23), 3) := by decide +kernel
theorem dX11_place_51 : decode cX11_place 51 = .ok (.iconst (-1), 1) := by decide +kernel
theorem dX11_place_52 : decode cX11_place 52 = .ok (.ireturn, 1) := by decide +kernel
theorem dX11_runOf_0 : decode cX11_runOf 0 = .ok (.sipush 1000, 3) := by decide +kernel
theorem dX11_runOf_3 : decode cX11_runOf 3 = .ok (.iload_n 1, 1) := by decide +kernel
theorem dX11_runOf_4 : decode cX11_runOf 4 = .ok (.imul, 1) := by decide +kernel
theorem dX11_runOf_5 : decode cX11_runOf 5 = .ok (.iload_n 2, 1) := by decide +kernel
theorem dX11_runOf_6 : decode cX11_runOf 6 = .ok (.iadd, 1) := by decide +kernel
theorem dX11_runOf_7 : decode cX11_runOf 7 = .ok (.istore 4, 2) := by decide +kernel
theorem dX11_runOf_9 : decode cX11_runOf 9 = .ok (.iconst 0, 1) := by decide +kernel
theorem dX11_runOf_10 : decode cX11_runOf 10 = .ok (.istore 5, 2) := by decide +kernel
theorem dX11_runOf_12 : decode cX11_runOf 12 = .ok (.iconst 0, 1) := by decide +kernel
theorem dX11_runOf_13 : decode cX11_runOf 13 = .ok (.istore 6, 2) := by decide +kernel
theorem dX11_runOf_15 : decode cX11_runOf 15 = .ok (.iload 6, 2) := by decide +kernel
theorem dX11_runOf_17 : decode cX11_runOf 17 = .ok (.aload_n 0, 1) := by decide +kernel
theorem dX11_runOf_18 : decode cX11_runOf 18 = .ok (.getfield 41, 3) := by decide +kernel
theorem dX11_runOf_21 : decode cX11_runOf 21 = .ok (.iload 4, 2) := by decide +kernel
theorem dX11_runOf_23 : decode cX11_runOf 23 = .ok (.iaload, 1) := by decide +kernel
theorem dX11_runOf_24 : decode cX11_runOf 24 = .ok (.if_icmp .ge 35, 3) := by decide +kernel
theorem dX11_runOf_27 : decode cX11_runOf 27 = .ok (.aload_n 0, 1) := by decide +kernel
theorem dX11_runOf_28 : decode cX11_runOf 28 = .ok (.iload 4, 2) := by decide +kernel
theorem dX11_runOf_30 : decode cX11_runOf 30 = .ok (.iload 6, 2) := by decide +kernel
theorem dX11_runOf_32 : decode cX11_runOf 32 = .ok (.invokevirtual 222, 3) := by decide +kernel
theorem dX11_runOf_35 : decode cX11_runOf 35 = .ok (.istore 7, 2) := by decide +kernel
theorem dX11_runOf_37 : decode cX11_runOf 37 = .ok (.iload 7, 2) := by decide +kernel
theorem dX11_runOf_39 : decode cX11_runOf 39 = .ok (.bipush 32, 2) := by decide +kernel
theorem dX11_runOf_41 : decode cX11_runOf 41 = .ok (.if_icmp .eq 12, 3) := by decide +kernel
theorem dX11_runOf_44 : decode cX11_runOf 44 = .ok (.aload_n 3, 1) := by decide +kernel
theorem dX11_runOf_45 : decode cX11_runOf 45 = .ok (.iload 5, 2) := by decide +kernel
theorem dX11_runOf_47 : decode cX11_runOf 47 = .ok (.iload 7, 2) := by decide +kernel
theorem dX11_runOf_49 : decode cX11_runOf 49 = .ok (.iastore, 1) := by decide +kernel
theorem dX11_runOf_50 : decode cX11_runOf 50 = .ok (.iinc 5 1, 3) := by decide +kernel
theorem dX11_runOf_53 : decode cX11_runOf 53 = .ok (.iinc 6 1, 3) := by decide +kernel
theorem dX11_runOf_56 : decode cX11_runOf 56 = .ok (.goto (-41), 3) := by decide +kernel
theorem dX11_runOf_59 : decode cX11_runOf 59 = .ok (.iload 5, 2) := by decide +kernel
theorem dX11_runOf_61 : decode cX11_runOf 61 = .ok (.ireturn, 1) := by decide +kernel
theorem dX11_findMixes_0 : decode cX11_findMixes 0 = .ok (.iconst 0, 1) := by decide +kernel
theorem dX11_findMixes_1 : decode cX11_findMixes 1 = .ok (.istore_n 2, 1) := by decide +kernel
theorem dX11_findMixes_2 : decode cX11_findMixes 2 = .ok (.iload_n 2, 1) := by decide +kernel
theorem dX11_findMixes_3 : decode cX11_findMixes 3 = .ok (.sipush 1000, 3) := by decide +kernel
theorem dX11_findMixes_6 : decode cX11_findMixes 6 = .ok (.if_icmp .ge 64, 3) := by decide +kernel
theorem dX11_findMixes_9 : decode cX11_findMixes 9 = .ok (.aload_n 0, 1) := by decide +kernel
theorem dX11_findMixes_10 : decode cX11_findMixes 10 = .ok (.iload_n 1, 1) := by decide +kernel
theorem dX11_findMixes_11 : decode cX11_findMixes 11 = .ok (.iload_n 2, 1) := by decide +kernel
theorem dX11_findMixes_12 : decode cX11_findMixes 12 = .ok (.aload_n 0, 1) := by decide +kernel
theorem dX11_findMixes_13 : decode cX11_findMixes 13 = .ok (.getfield 100, 3) := by decide +kernel
theorem dX11_findMixes_16 : decode cX11_findMixes 16 = .ok (.invokevirtual 265, 3) := by decide +kernel
theorem dX11_findMixes_19 : decode cX11_findMixes 19 = .ok (.istore_n 3, 1) := by decide +kernel
theorem dX11_findMixes_20 : decode cX11_findMixes 20 = .ok (.iload_n 3, 1) := by decide +kernel
theorem dX11_findMixes_21 : decode cX11_findMixes 21 = .ok (.i2l, 1) := by decide +kernel
theorem dX11_findMixes_22 : decode cX11_findMixes 22 = .ok (.lstore 4, 2) := by decide +kernel
theorem dX11_findMixes_24 : decode cX11_findMixes 24 = .ok (.iconst 0, 1) := by decide +kernel
theorem dX11_findMixes_25 : decode cX11_findMixes 25 = .ok (.istore 6, 2) := by decide +kernel
theorem dX11_findMixes_27 : decode cX11_findMixes 27 = .ok (.iload 6, 2) := by decide +kernel
theorem dX11_findMixes_29 : decode cX11_findMixes 29 = .ok (.iload_n 3, 1) := by decide +kernel
theorem dX11_findMixes_30 : decode cX11_findMixes 30 = .ok (.if_icmp .ge 26, 3) := by decide +kernel
theorem dX11_findMixes_33 : decode cX11_findMixes 33 = .ok (.lload 4, 2) := by decide +kernel
theorem dX11_findMixes_35 : decode cX11_findMixes 35 = .ok (.ldc2_w 269, 3) := by decide +kernel
theorem dX11_findMixes_38 : decode cX11_findMixes 38 = .ok (.lmul, 1) := by decide +kernel
theorem dX11_findMixes_39 : decode cX11_findMixes 39 = .ok (.aload_n 0, 1) := by decide +kernel
theorem dX11_findMixes_40 : decode cX11_findMixes 40 = .ok (.getfield 100, 3) := by decide +kernel
theorem dX11_findMixes_43 : decode cX11_findMixes 43 = .ok (.iload 6, 2) := by decide +kernel
theorem dX11_findMixes_45 : decode cX11_findMixes 45 = .ok (.iaload, 1) := by decide +kernel
theorem dX11_findMixes_46 : decode cX11_findMixes 46 = .ok (.i2l, 1) := by decide +kernel
theorem dX11_findMixes_47 : decode cX11_findMixes 47 = .ok (.ladd, 1) := by decide +kernel
theorem dX11_findMixes_48 : decode cX11_findMixes 48 = .ok (.lstore 4, 2) := by decide +kernel
theorem dX11_findMixes_50 : decode cX11_findMixes 50 = .ok (.iinc 6 1, 3) := by decide +kernel
theorem dX11_findMixes_53 : decode cX11_findMixes 53 = .ok (.goto (-26), 3) := by decide +kernel
theorem dX11_findMixes_56 : decode cX11_findMixes 56 = .ok (.aload_n 0, 1) := by decide +kernel
theorem dX11_findMixes_57 : decode cX11_findMixes 57 = .ok (.getfield 106, 3) := by decide +kernel
theorem dX11_findMixes_60 : decode cX11_findMixes 60 = .ok (.iload_n 2, 1) := by decide +kernel
theorem dX11_findMixes_61 : decode cX11_findMixes 61 = .ok (.lload 4, 2) := by decide +kernel
theorem dX11_findMixes_63 : decode cX11_findMixes 63 = .ok (.lastore, 1) := by decide +kernel
theorem dX11_findMixes_64 : decode cX11_findMixes 64 = .ok (.iinc 2 1, 3) := by decide +kernel
theorem dX11_findMixes_67 : decode cX11_findMixes 67 = .ok (.goto (-65), 3) := by decide +kernel
theorem dX11_findMixes_70 : decode cX11_findMixes 70 = .ok (.return_, 1) := by decide +kernel
theorem dX11_areTwins_0 : decode cX11_areTwins 0 = .ok (.aload_n 0, 1) := by decide +kernel
theorem dX11_areTwins_1 : decode cX11_areTwins 1 = .ok (.getfield 106, 3) := by decide +kernel
theorem dX11_areTwins_4 : decode cX11_areTwins 4 = .ok (.iload_n 2, 1) := by decide +kernel
theorem dX11_areTwins_5 : decode cX11_areTwins 5 = .ok (.laload, 1) := by decide +kernel
theorem dX11_areTwins_6 : decode cX11_areTwins 6 = .ok (.aload_n 0, 1) := by decide +kernel
theorem dX11_areTwins_7 : decode cX11_areTwins 7 = .ok (.getfield 106, 3) := by decide +kernel
theorem dX11_areTwins_10 : decode cX11_areTwins 10 = .ok (.iload_n 3, 1) := by decide +kernel
theorem dX11_areTwins_11 : decode cX11_areTwins 11 = .ok (.laload, 1) := by decide +kernel
theorem dX11_areTwins_12 : decode cX11_areTwins 12 = .ok (.lcmp, 1) := by decide +kernel
theorem dX11_areTwins_13 : decode cX11_areTwins 13 = .ok (.ifCond .ne 33, 3) := by decide +kernel
theorem dX11_areTwins_16 : decode cX11_areTwins 16 = .ok (.aload_n 0, 1) := by decide +kernel
theorem dX11_areTwins_17 : decode cX11_areTwins 17 = .ok (.getfield 41, 3) := by decide +kernel
theorem dX11_areTwins_20 : decode cX11_areTwins 20 = .ok (.sipush 1000, 3) := by decide +kernel
theorem dX11_areTwins_23 : decode cX11_areTwins 23 = .ok (.iload_n 1, 1) := by decide +kernel
theorem dX11_areTwins_24 : decode cX11_areTwins 24 = .ok (.imul, 1) := by decide +kernel
theorem dX11_areTwins_25 : decode cX11_areTwins 25 = .ok (.iload_n 2, 1) := by decide +kernel
theorem dX11_areTwins_26 : decode cX11_areTwins 26 = .ok (.iadd, 1) := by decide +kernel
theorem dX11_areTwins_27 : decode cX11_areTwins 27 = .ok (.iaload, 1) := by decide +kernel
theorem dX11_areTwins_28 : decode cX11_areTwins 28 = .ok (.ifCond .lt 18, 3) := by decide +kernel
theorem dX11_areTwins_31 : decode cX11_areTwins 31 = .ok (.aload_n 0, 1) := by decide +kernel
theorem dX11_areTwins_32 : decode cX11_areTwins 32 = .ok (.getfield 41, 3) := by decide +kernel
theorem dX11_areTwins_35 : decode cX11_areTwins 35 = .ok (.sipush 1000, 3) := by decide +kernel
theorem dX11_areTwins_38 : decode cX11_areTwins 38 = .ok (.iload_n 1, 1) := by decide +kernel
theorem dX11_areTwins_39 : decode cX11_areTwins 39 = .ok (.imul, 1) := by decide +kernel
theorem dX11_areTwins_40 : decode cX11_areTwins 40 = .ok (.iload_n 3, 1) := by decide +kernel
theorem dX11_areTwins_41 : decode cX11_areTwins 41 = .ok (.iadd, 1) := by decide +kernel
theorem dX11_areTwins_42 : decode cX11_areTwins 42 = .ok (.iaload, 1) := by decide +kernel
theorem dX11_areTwins_43 : decode cX11_areTwins 43 = .ok (.ifCond .ge 5, 3) := by decide +kernel
theorem dX11_areTwins_46 : decode cX11_areTwins 46 = .ok (.iconst 0, 1) := by decide +kernel
theorem dX11_areTwins_47 : decode cX11_areTwins 47 = .ok (.ireturn, 1) := by decide +kernel
theorem dX11_areTwins_48 : decode cX11_areTwins 48 = .ok (.aload_n 0, 1) := by decide +kernel
theorem dX11_areTwins_49 : decode cX11_areTwins 49 = .ok (.iload_n 1, 1) := by decide +kernel
theorem dX11_areTwins_50 : decode cX11_areTwins 50 = .ok (.iload_n 2, 1) := by decide +kernel
theorem dX11_areTwins_51 : decode cX11_areTwins 51 = .ok (.aload_n 0, 1) := by decide +kernel
theorem dX11_areTwins_52 : decode cX11_areTwins 52 = .ok (.getfield 100, 3) := by decide +kernel
theorem dX11_areTwins_55 : decode cX11_areTwins 55 = .ok (.invokevirtual 265, 3) := by decide +kernel
theorem dX11_areTwins_58 : decode cX11_areTwins 58 = .ok (.istore 4, 2) := by decide +kernel
theorem dX11_areTwins_60 : decode cX11_areTwins 60 = .ok (.aload_n 0, 1) := by decide +kernel
theorem dX11_areTwins_61 : decode cX11_areTwins 61 = .ok (.iload_n 1, 1) := by decide +kernel
theorem dX11_areTwins_62 : decode cX11_areTwins 62 = .ok (.iload_n 3, 1) := by decide +kernel
theorem dX11_areTwins_63 : decode cX11_areTwins 63 = .ok (.aload_n 0, 1) := by decide +kernel
theorem dX11_areTwins_64 : decode cX11_areTwins 64 = .ok (.getfield 103, 3) := by decide +kernel
theorem dX11_areTwins_67 : decode cX11_areTwins 67 = .ok (.invokevirtual 265, 3) := by decide +kernel
theorem dX11_areTwins_70 : decode cX11_areTwins 70 = .ok (.istore 5, 2) := by decide +kernel
theorem dX11_areTwins_72 : decode cX11_areTwins 72 = .ok (.iload 4, 2) := by decide +kernel
theorem dX11_areTwins_74 : decode cX11_areTwins 74 = .ok (.iload 5, 2) := by decide +kernel
theorem dX11_areTwins_76 : decode cX11_areTwins 76 = .ok (.if_icmp .ne 7, 3) := by decide +kernel
theorem dX11_areTwins_79 : decode cX11_areTwins 79 = .ok (.iconst 1, 1) := by decide +kernel
theorem dX11_areTwins_80 : decode cX11_areTwins 80 = .ok (.goto 4, 3) := by decide +kernel
theorem dX11_areTwins_83 : decode cX11_areTwins 83 = .ok (.iconst 0, 1) := by decide +kernel
theorem dX11_areTwins_84 : decode cX11_areTwins 84 = .ok (.istore 6, 2) := by decide +kernel
theorem dX11_areTwins_86 : decode cX11_areTwins 86 = .ok (.iconst 0, 1) := by decide +kernel
theorem dX11_areTwins_87 : decode cX11_areTwins 87 = .ok (.istore 7, 2) := by decide +kernel
theorem dX11_areTwins_89 : decode cX11_areTwins 89 = .ok (.iload 7, 2) := by decide +kernel
theorem dX11_areTwins_91 : decode cX11_areTwins 91 = .ok (.iload 4, 2) := by decide +kernel
theorem dX11_areTwins_93 : decode cX11_areTwins 93 = .ok (.if_icmp .ge 38, 3) := by decide +kernel
theorem dX11_areTwins_96 : decode cX11_areTwins 96 = .ok (.iload 6, 2) := by decide +kernel
theorem dX11_areTwins_98 : decode cX11_areTwins 98 = .ok (.ifCond .eq 33, 3) := by decide +kernel
theorem dX11_areTwins_101 : decode cX11_areTwins 101 = .ok (.aload_n 0, 1) := by decide +kernel
theorem dX11_areTwins_102 : decode cX11_areTwins 102 = .ok (.getfield 100, 3) := by decide +kernel
theorem dX11_areTwins_105 : decode cX11_areTwins 105 = .ok (.iload 7, 2) := by decide +kernel
theorem dX11_areTwins_107 : decode cX11_areTwins 107 = .ok (.iaload, 1) := by decide +kernel
theorem dX11_areTwins_108 : decode cX11_areTwins 108 = .ok (.aload_n 0, 1) := by decide +kernel
theorem dX11_areTwins_109 : decode cX11_areTwins 109 = .ok (.getfield 103, 3) := by decide +kernel
theorem dX11_areTwins_112 : decode cX11_areTwins 112 = .ok (.iload 7, 2) := by decide +kernel
theorem dX11_areTwins_114 : decode cX11_areTwins 114 = .ok (.iaload, 1) := by decide +kernel
theorem dX11_areTwins_115 : decode cX11_areTwins 115 = .ok (.if_icmp .ne 7, 3) := by decide +kernel
theorem dX11_areTwins_118 : decode cX11_areTwins 118 = .ok (.iconst 1, 1) := by decide +kernel
theorem dX11_areTwins_119 : decode cX11_areTwins 119 = .ok (.goto 4, 3) := by decide +kernel
theorem dX11_areTwins_122 : decode cX11_areTwins 122 = .ok (.iconst 0, 1) := by decide +kernel
theorem dX11_areTwins_123 : decode cX11_areTwins 123 = .ok (.istore 6, 2) := by decide +kernel
theorem dX11_areTwins_125 : decode cX11_areTwins 125 = .ok (.iinc 7 1, 3) := by decide +kernel
theorem dX11_areTwins_128 : decode cX11_areTwins 128 = .ok (.goto (-39), 3) := by decide +kernel
theorem dX11_areTwins_131 : decode cX11_areTwins 131 = .ok (.iload 6, 2) := by decide +kernel
theorem dX11_areTwins_133 : decode cX11_areTwins 133 = .ok (.ireturn, 1) := by decide +kernel
theorem dX11_twins_0 : decode cX11_twins 0 = .ok (.iload_n 1, 1) := by decide +kernel
theorem dX11_twins_1 : decode cX11_twins 1 = .ok (.invokestatic 194, 3) := by decide +kernel
theorem dX11_twins_4 : decode cX11_twins 4 = .ok (.ifCond .ne 7, 3) := by decide +kernel
theorem dX11_twins_7 : decode cX11_twins 7 = .ok (.sipush (-1001), 3) := by decide +kernel
theorem dX11_twins_10 : decode cX11_twins 10 = .ok (.ireturn, 1) := by decide +kernel
theorem dX11_twins_11 : decode cX11_twins 11 = .ok (.iload_n 2, 1) := by decide +kernel
theorem dX11_twins_12 : decode cX11_twins 12 = .ok (.i2l, 1) := by decide +kernel
theorem dX11_twins_13 : decode cX11_twins 13 = .ok (.lconst 0, 1) := by decide +kernel
theorem dX11_twins_14 : decode cX11_twins 14 = .ok (.ldc2_w 121, 3) := by decide +kernel
theorem dX11_twins_17 : decode cX11_twins 17 = .ok (.invokestatic 123, 3) := by decide +kernel
theorem dX11_twins_20 : decode cX11_twins 20 = .ok (.ifCond .ne 7, 3) := by decide +kernel
theorem dX11_twins_23 : decode cX11_twins 23 = .ok (.sipush (-1002), 3) := by decide +kernel
theorem dX11_twins_26 : decode cX11_twins 26 = .ok (.ireturn, 1) := by decide +kernel
theorem dX11_twins_27 : decode cX11_twins 27 = .ok (.aload_n 0, 1) := by decide +kernel
theorem dX11_twins_28 : decode cX11_twins 28 = .ok (.iload_n 1, 1) := by decide +kernel
theorem dX11_twins_29 : decode cX11_twins 29 = .ok (.invokevirtual 271, 3) := by decide +kernel
theorem dX11_twins_32 : decode cX11_twins 32 = .ok (.iconst (-1), 1) := by decide +kernel
theorem dX11_twins_33 : decode cX11_twins 33 = .ok (.istore_n 3, 1) := by decide +kernel
theorem dX11_twins_34 : decode cX11_twins 34 = .ok (.iconst (-1), 1) := by decide +kernel
theorem dX11_twins_35 : decode cX11_twins 35 = .ok (.istore 4, 2) := by decide +kernel
theorem dX11_twins_37 : decode cX11_twins 37 = .ok (.iconst 0, 1) := by decide +kernel
theorem dX11_twins_38 : decode cX11_twins 38 = .ok (.istore 5, 2) := by decide +kernel
theorem dX11_twins_40 : decode cX11_twins 40 = .ok (.iconst 0, 1) := by decide +kernel
theorem dX11_twins_41 : decode cX11_twins 41 = .ok (.istore 6, 2) := by decide +kernel
theorem dX11_twins_43 : decode cX11_twins 43 = .ok (.iload 6, 2) := by decide +kernel
theorem dX11_twins_45 : decode cX11_twins 45 = .ok (.sipush 1000, 3) := by decide +kernel
theorem dX11_twins_48 : decode cX11_twins 48 = .ok (.if_icmp .ge 125, 3) := by decide +kernel
theorem dX11_twins_51 : decode cX11_twins 51 = .ok (.iconst 0, 1) := by decide +kernel
theorem dX11_twins_52 : decode cX11_twins 52 = .ok (.istore 7, 2) := by decide +kernel
theorem dX11_twins_54 : decode cX11_twins 54 = .ok (.iconst 0, 1) := by decide +kernel
theorem dX11_twins_55 : decode cX11_twins 55 = .ok (.istore 8, 2) := by decide +kernel
theorem dX11_twins_57 : decode cX11_twins 57 = .ok (.iload 8, 2) := by decide +kernel
theorem dX11_twins_59 : decode cX11_twins 59 = .ok (.sipush 1000, 3) := by decide +kernel
theorem dX11_twins_62 : decode cX11_twins 62 = .ok (.if_icmp .ge 90, 3) := by decide +kernel
theorem dX11_twins_65 : decode cX11_twins 65 = .ok (.iload 7, 2) := by decide +kernel
theorem dX11_twins_67 : decode cX11_twins 67 = .ok (.ifCond .ne 85, 3) := by decide +kernel
theorem dX11_twins_70 : decode cX11_twins 70 = .ok (.iload 8, 2) := by decide +kernel
theorem dX11_twins_72 : decode cX11_twins 72 = .ok (.iload 6, 2) := by decide +kernel
theorem dX11_twins_74 : decode cX11_twins 74 = .ok (.if_icmp .eq 19, 3) := by decide +kernel
theorem dX11_twins_77 : decode cX11_twins 77 = .ok (.aload_n 0, 1) := by decide +kernel
theorem dX11_twins_78 : decode cX11_twins 78 = .ok (.iload_n 1, 1) := by decide +kernel
theorem dX11_twins_79 : decode cX11_twins 79 = .ok (.iload 8, 2) := by decide +kernel
theorem dX11_twins_81 : decode cX11_twins 81 = .ok (.iload 6, 2) := by decide +kernel
theorem dX11_twins_83 : decode cX11_twins 83 = .ok (.invokevirtual 274, 3) := by decide +kernel
theorem dX11_twins_86 : decode cX11_twins 86 = .ok (.ifCond .eq 7, 3) := by decide +kernel
theorem dX11_twins_89 : decode cX11_twins 89 = .ok (.iconst 1, 1) := by decide +kernel
theorem dX11_twins_90 : decode cX11_twins 90 = .ok (.goto 4, 3) := by decide +kernel
theorem dX11_twins_93 : decode cX11_twins 93 = .ok (.iconst 0, 1) := by decide +kernel
theorem dX11_twins_94 : decode cX11_twins 94 = .ok (.istore 7, 2) := by decide +kernel
theorem dX11_twins_96 : decode cX11_twins 96 = .ok (.iload 7, 2) := by decide +kernel
theorem dX11_twins_98 : decode cX11_twins 98 = .ok (.ifCond .eq 19, 3) := by decide +kernel
theorem dX11_twins_101 : decode cX11_twins 101 = .ok (.iload 8, 2) := by decide +kernel
theorem dX11_twins_103 : decode cX11_twins 103 = .ok (.iload 6, 2) := by decide +kernel
theorem dX11_twins_105 : decode cX11_twins 105 = .ok (.if_icmp .ge 12, 3) := by decide +kernel
theorem dX11_twins_108 : decode cX11_twins 108 = .ok (.iload 4, 2) := by decide +kernel
theorem dX11_twins_110 : decode cX11_twins 110 = .ok (.ifCond .ge 7, 3) := by decide +kernel
theorem dX11_twins_113 : decode cX11_twins 113 = .ok (.iconst 1, 1) := by decide +kernel
theorem dX11_twins_114 : decode cX11_twins 114 = .ok (.goto 4, 3) := by decide +kernel
theorem dX11_twins_117 : decode cX11_twins 117 = .ok (.iconst 0, 1) := by decide +kernel
theorem dX11_twins_118 : decode cX11_twins 118 = .ok (.istore 9, 2) := by decide +kernel
theorem dX11_twins_120 : decode cX11_twins 120 = .ok (.iload 9, 2) := by decide +kernel
theorem dX11_twins_122 : decode cX11_twins 122 = .ok (.ifCond .eq 8, 3) := by decide +kernel
theorem dX11_twins_125 : decode cX11_twins 125 = .ok (.iload 8, 2) := by decide +kernel
theorem dX11_twins_127 : decode cX11_twins 127 = .ok (.goto 4, 3) := by decide +kernel
theorem dX11_twins_130 : decode cX11_twins 130 = .ok (.iload_n 3, 1) := by decide +kernel
theorem dX11_twins_131 : decode cX11_twins 131 = .ok (.istore_n 3, 1) := by decide +kernel
theorem dX11_twins_132 : decode cX11_twins 132 = .ok (.iload 9, 2) := by decide +kernel
theorem dX11_twins_134 : decode cX11_twins 134 = .ok (.ifCond .eq 8, 3) := by decide +kernel
theorem dX11_twins_137 : decode cX11_twins 137 = .ok (.iload 6, 2) := by decide +kernel
theorem dX11_twins_139 : decode cX11_twins 139 = .ok (.goto 5, 3) := by decide +kernel
theorem dX11_twins_142 : decode cX11_twins 142 = .ok (.iload 4, 2) := by decide +kernel
theorem dX11_twins_144 : decode cX11_twins 144 = .ok (.istore 4, 2) := by decide +kernel
theorem dX11_twins_146 : decode cX11_twins 146 = .ok (.iinc 8 1, 3) := by decide +kernel
theorem dX11_twins_149 : decode cX11_twins 149 = .ok (.goto (-92), 3) := by decide +kernel
theorem dX11_twins_152 : decode cX11_twins 152 = .ok (.iload 5, 2) := by decide +kernel
theorem dX11_twins_154 : decode cX11_twins 154 = .ok (.iload 7, 2) := by decide +kernel
theorem dX11_twins_156 : decode cX11_twins 156 = .ok (.ifCond .eq 7, 3) := by decide +kernel
theorem dX11_twins_159 : decode cX11_twins 159 = .ok (.iconst 1, 1) := by decide +kernel
theorem dX11_twins_160 : decode cX11_twins 160 = .ok (.goto 4, 3) := by decide +kernel
theorem dX11_twins_163 : decode cX11_twins 163 = .ok (.iconst 0, 1) := by decide +kernel
theorem dX11_twins_164 : decode cX11_twins 164 = .ok (.iadd, 1) := by decide +kernel
theorem dX11_twins_165 : decode cX11_twins 165 = .ok (.istore 5, 2) := by decide +kernel
theorem dX11_twins_167 : decode cX11_twins 167 = .ok (.iinc 6 1, 3) := by decide +kernel
theorem dX11_twins_170 : decode cX11_twins 170 = .ok (.goto (-127), 3) := by decide +kernel
theorem dX11_twins_173 : decode cX11_twins 173 = .ok (.iload_n 2, 1) := by decide +kernel
theorem dX11_twins_174 : decode cX11_twins 174 = .ok (.ifCond .ne 7, 3) := by decide +kernel
theorem dX11_twins_177 : decode cX11_twins 177 = .ok (.iload_n 3, 1) := by decide +kernel
theorem dX11_twins_178 : decode cX11_twins 178 = .ok (.goto 15, 3) := by decide +kernel
theorem dX11_twins_181 : decode cX11_twins 181 = .ok (.iload_n 2, 1) := by decide +kernel
theorem dX11_twins_182 : decode cX11_twins 182 = .ok (.iconst 1, 1) := by decide +kernel
theorem dX11_twins_183 : decode cX11_twins 183 = .ok (.if_icmp .ne 8, 3) := by decide +kernel
theorem dX11_twins_186 : decode cX11_twins 186 = .ok (.iload 4, 2) := by decide +kernel
theorem dX11_twins_188 : decode cX11_twins 188 = .ok (.goto 5, 3) := by decide +kernel
theorem dX11_twins_191 : decode cX11_twins 191 = .ok (.iload 5, 2) := by decide +kernel
theorem dX11_twins_193 : decode cX11_twins 193 = .ok (.ireturn, 1) := by decide +kernel
theorem dX11_write_0 : decode cX11_write 0 = .ok (.iload_n 1, 1) := by decide +kernel
theorem dX11_write_1 : decode cX11_write 1 = .ok (.bipush 32, 2) := by decide +kernel
theorem dX11_write_3 : decode cX11_write 3 = .ok (.if_icmp .eq 21, 3) := by decide +kernel
theorem dX11_write_6 : decode cX11_write 6 = .ok (.iload_n 1, 1) := by decide +kernel
theorem dX11_write_7 : decode cX11_write 7 = .ok (.i2l, 1) := by decide +kernel
theorem dX11_write_8 : decode cX11_write 8 = .ok (.ldc2_w 157, 3) := by decide +kernel
theorem dX11_write_11 : decode cX11_write 11 = .ok (.ldc2_w 159, 3) := by decide +kernel
theorem dX11_write_14 : decode cX11_write 14 = .ok (.invokestatic 123, 3) := by decide +kernel
theorem dX11_write_17 : decode cX11_write 17 = .ok (.ifCond .ne 7, 3) := by decide +kernel
theorem dX11_write_20 : decode cX11_write 20 = .ok (.sipush (-1002), 3) := by decide +kernel
theorem dX11_write_23 : decode cX11_write 23 = .ok (.ireturn, 1) := by decide +kernel
theorem dX11_write_24 : decode cX11_write 24 = .ok (.aload_n 0, 1) := by decide +kernel
theorem dX11_write_25 : decode cX11_write 25 = .ok (.getfield 245, 3) := by decide +kernel
theorem dX11_write_28 : decode cX11_write 28 = .ok (.bipush 60, 2) := by decide +kernel
theorem dX11_write_30 : decode cX11_write 30 = .ok (.if_icmp .ne 7, 3) := by decide +kernel
theorem dX11_write_33 : decode cX11_write 33 = .ok (.sipush (-1004), 3) := by decide +kernel
theorem dX11_write_36 : decode cX11_write 36 = .ok (.ireturn, 1) := by decide +kernel
theorem dX11_write_37 : decode cX11_write 37 = .ok (.aload_n 0, 1) := by decide +kernel
theorem dX11_write_38 : decode cX11_write 38 = .ok (.getfield 109, 3) := by decide +kernel
theorem dX11_write_41 : decode cX11_write 41 = .ok (.aload_n 0, 1) := by decide +kernel
theorem dX11_write_42 : decode cX11_write 42 = .ok (.getfield 245, 3) := by decide +kernel
theorem dX11_write_45 : decode cX11_write 45 = .ok (.iload_n 1, 1) := by decide +kernel
theorem dX11_write_46 : decode cX11_write 46 = .ok (.iastore, 1) := by decide +kernel
theorem dX11_write_47 : decode cX11_write 47 = .ok (.aload_n 0, 1) := by decide +kernel
theorem dX11_write_48 : decode cX11_write 48 = .ok (.dup, 1) := by decide +kernel
theorem dX11_write_49 : decode cX11_write 49 = .ok (.getfield 245, 3) := by decide +kernel
theorem dX11_write_52 : decode cX11_write 52 = .ok (.iconst 1, 1) := by decide +kernel
theorem dX11_write_53 : decode cX11_write 53 = .ok (.iadd, 1) := by decide +kernel
theorem dX11_write_54 : decode cX11_write 54 = .ok (.putfield 245, 3) := by decide +kernel
theorem dX11_write_57 : decode cX11_write 57 = .ok (.aload_n 0, 1) := by decide +kernel
theorem dX11_write_58 : decode cX11_write 58 = .ok (.getfield 245, 3) := by decide +kernel
theorem dX11_write_61 : decode cX11_write 61 = .ok (.ireturn, 1) := by decide +kernel
theorem dX11_clear_0 : decode cX11_clear 0 = .ok (.aload_n 0, 1) := by decide +kernel
theorem dX11_clear_1 : decode cX11_clear 1 = .ok (.getfield 245, 3) := by decide +kernel
theorem dX11_clear_4 : decode cX11_clear 4 = .ok (.istore_n 1, 1) := by decide +kernel
theorem dX11_clear_5 : decode cX11_clear 5 = .ok (.aload_n 0, 1) := by decide +kernel
theorem dX11_clear_6 : decode cX11_clear 6 = .ok (.iconst 0, 1) := by decide +kernel
theorem dX11_clear_7 : decode cX11_clear 7 = .ok (.putfield 245, 3) := by decide +kernel
theorem dX11_clear_10 : decode cX11_clear 10 = .ok (.iload_n 1, 1) := by decide +kernel
theorem dX11_clear_11 : decode cX11_clear 11 = .ok (.ireturn, 1) := by decide +kernel
theorem dX11_draftRun_0 : decode cX11_draftRun 0 = .ok (.iconst 0, 1) := by decide +kernel
theorem dX11_draftRun_1 : decode cX11_draftRun 1 = .ok (.istore_n 2, 1) := by decide +kernel
theorem dX11_draftRun_2 : decode cX11_draftRun 2 = .ok (.iconst 0, 1) := by decide +kernel
theorem dX11_draftRun_3 : decode cX11_draftRun 3 = .ok (.istore_n 3, 1) := by decide +kernel
theorem dX11_draftRun_4 : decode cX11_draftRun 4 = .ok (.iload_n 3, 1) := by decide +kernel
theorem dX11_draftRun_5 : decode cX11_draftRun 5 = .ok (.aload_n 0, 1) := by decide +kernel
theorem dX11_draftRun_6 : decode cX11_draftRun 6 = .ok (.getfield 245, 3) := by decide +kernel
theorem dX11_draftRun_9 : decode cX11_draftRun 9 = .ok (.if_icmp .ge 32, 3) := by decide +kernel
theorem dX11_draftRun_12 : decode cX11_draftRun 12 = .ok (.aload_n 0, 1) := by decide +kernel
theorem dX11_draftRun_13 : decode cX11_draftRun 13 = .ok (.getfield 109, 3) := by decide +kernel
theorem dX11_draftRun_16 : decode cX11_draftRun 16 = .ok (.iload_n 3, 1) := by decide +kernel
theorem dX11_draftRun_17 : decode cX11_draftRun 17 = .ok (.iaload, 1) := by decide +kernel
theorem dX11_draftRun_18 : decode cX11_draftRun 18 = .ok (.bipush 32, 2) := by decide +kernel
theorem dX11_draftRun_20 : decode cX11_draftRun 20 = .ok (.if_icmp .eq 15, 3) := by decide +kernel
theorem dX11_draftRun_23 : decode cX11_draftRun 23 = .ok (.aload_n 1, 1) := by decide +kernel
theorem dX11_draftRun_24 : decode cX11_draftRun 24 = .ok (.iload_n 2, 1) := by decide +kernel
theorem dX11_draftRun_25 : decode cX11_draftRun 25 = .ok (.aload_n 0, 1) := by decide +kernel
theorem dX11_draftRun_26 : decode cX11_draftRun 26 = .ok (.getfield 109, 3) := by decide +kernel
theorem dX11_draftRun_29 : decode cX11_draftRun 29 = .ok (.iload_n 3, 1) := by decide +kernel
theorem dX11_draftRun_30 : decode cX11_draftRun 30 = .ok (.iaload, 1) := by decide +kernel
theorem dX11_draftRun_31 : decode cX11_draftRun 31 = .ok (.iastore, 1) := by decide +kernel
theorem dX11_draftRun_32 : decode cX11_draftRun 32 = .ok (.iinc 2 1, 3) := by decide +kernel
theorem dX11_draftRun_35 : decode cX11_draftRun 35 = .ok (.iinc 3 1, 3) := by decide +kernel
theorem dX11_draftRun_38 : decode cX11_draftRun 38 = .ok (.goto (-34), 3) := by decide +kernel
theorem dX11_draftRun_41 : decode cX11_draftRun 41 = .ok (.iload_n 2, 1) := by decide +kernel
theorem dX11_draftRun_42 : decode cX11_draftRun 42 = .ok (.ireturn, 1) := by decide +kernel
theorem dX11_isRead_0 : decode cX11_isRead 0 = .ok (.sipush 1000, 3) := by decide +kernel
theorem dX11_isRead_3 : decode cX11_isRead 3 = .ok (.iload_n 1, 1) := by decide +kernel
theorem dX11_isRead_4 : decode cX11_isRead 4 = .ok (.imul, 1) := by decide +kernel
theorem dX11_isRead_5 : decode cX11_isRead 5 = .ok (.iload_n 2, 1) := by decide +kernel
theorem dX11_isRead_6 : decode cX11_isRead 6 = .ok (.iadd, 1) := by decide +kernel
theorem dX11_isRead_7 : decode cX11_isRead 7 = .ok (.istore 4, 2) := by decide +kernel
theorem dX11_isRead_9 : decode cX11_isRead 9 = .ok (.aload_n 0, 1) := by decide +kernel
theorem dX11_isRead_10 : decode cX11_isRead 10 = .ok (.getfield 41, 3) := by decide +kernel
theorem dX11_isRead_13 : decode cX11_isRead 13 = .ok (.iload 4, 2) := by decide +kernel
theorem dX11_isRead_15 : decode cX11_isRead 15 = .ok (.iaload, 1) := by decide +kernel
theorem dX11_isRead_16 : decode cX11_isRead 16 = .ok (.ifCond .lt 7, 3) := by decide +kernel
theorem dX11_isRead_19 : decode cX11_isRead 19 = .ok (.iconst 1, 1) := by decide +kernel
theorem dX11_isRead_20 : decode cX11_isRead 20 = .ok (.goto 4, 3) := by decide +kernel
theorem dX11_isRead_23 : decode cX11_isRead 23 = .ok (.iconst 0, 1) := by decide +kernel
theorem dX11_isRead_24 : decode cX11_isRead 24 = .ok (.istore 5, 2) := by decide +kernel
theorem dX11_isRead_26 : decode cX11_isRead 26 = .ok (.iload_n 3, 1) := by decide +kernel
theorem dX11_isRead_27 : decode cX11_isRead 27 = .ok (.ifCond .eq 92, 3) := by decide +kernel
theorem dX11_isRead_30 : decode cX11_isRead 30 = .ok (.aload_n 0, 1) := by decide +kernel
theorem dX11_isRead_31 : decode cX11_isRead 31 = .ok (.iload_n 1, 1) := by decide +kernel
theorem dX11_isRead_32 : decode cX11_isRead 32 = .ok (.iload_n 2, 1) := by decide +kernel
theorem dX11_isRead_33 : decode cX11_isRead 33 = .ok (.aload_n 0, 1) := by decide +kernel
theorem dX11_isRead_34 : decode cX11_isRead 34 = .ok (.getfield 100, 3) := by decide +kernel
theorem dX11_isRead_37 : decode cX11_isRead 37 = .ok (.invokevirtual 265, 3) := by decide +kernel
theorem dX11_isRead_40 : decode cX11_isRead 40 = .ok (.istore 6, 2) := by decide +kernel
theorem dX11_isRead_42 : decode cX11_isRead 42 = .ok (.aload_n 0, 1) := by decide +kernel
theorem dX11_isRead_43 : decode cX11_isRead 43 = .ok (.aload_n 0, 1) := by decide +kernel
theorem dX11_isRead_44 : decode cX11_isRead 44 = .ok (.getfield 103, 3) := by decide +kernel
theorem dX11_isRead_47 : decode cX11_isRead 47 = .ok (.invokevirtual 277, 3) := by decide +kernel
theorem dX11_isRead_50 : decode cX11_isRead 50 = .ok (.istore 7, 2) := by decide +kernel
theorem dX11_isRead_52 : decode cX11_isRead 52 = .ok (.iload 5, 2) := by decide +kernel
theorem dX11_isRead_54 : decode cX11_isRead 54 = .ok (.ifCond .eq 14, 3) := by decide +kernel
theorem dX11_isRead_57 : decode cX11_isRead 57 = .ok (.iload 6, 2) := by decide +kernel
theorem dX11_isRead_59 : decode cX11_isRead 59 = .ok (.iload 7, 2) := by decide +kernel
theorem dX11_isRead_61 : decode cX11_isRead 61 = .ok (.if_icmp .ne 7, 3) := by decide +kernel
theorem dX11_isRead_64 : decode cX11_isRead 64 = .ok (.iconst 1, 1) := by decide +kernel
theorem dX11_isRead_65 : decode cX11_isRead 65 = .ok (.goto 4, 3) := by decide +kernel
theorem dX11_isRead_68 : decode cX11_isRead 68 = .ok (.iconst 0, 1) := by decide +kernel
theorem dX11_isRead_69 : decode cX11_isRead 69 = .ok (.istore 5, 2) := by decide +kernel
theorem dX11_isRead_71 : decode cX11_isRead 71 = .ok (.iconst 0, 1) := by decide +kernel
theorem dX11_isRead_72 : decode cX11_isRead 72 = .ok (.istore 8, 2) := by decide +kernel
theorem dX11_isRead_74 : decode cX11_isRead 74 = .ok (.iload 8, 2) := by decide +kernel
theorem dX11_isRead_76 : decode cX11_isRead 76 = .ok (.iload 6, 2) := by decide +kernel
theorem dX11_isRead_78 : decode cX11_isRead 78 = .ok (.if_icmp .ge 38, 3) := by decide +kernel
theorem dX11_isRead_81 : decode cX11_isRead 81 = .ok (.iload 5, 2) := by decide +kernel
theorem dX11_isRead_83 : decode cX11_isRead 83 = .ok (.ifCond .eq 33, 3) := by decide +kernel
theorem dX11_isRead_86 : decode cX11_isRead 86 = .ok (.aload_n 0, 1) := by decide +kernel
theorem dX11_isRead_87 : decode cX11_isRead 87 = .ok (.getfield 100, 3) := by decide +kernel
theorem dX11_isRead_90 : decode cX11_isRead 90 = .ok (.iload 8, 2) := by decide +kernel
theorem dX11_isRead_92 : decode cX11_isRead 92 = .ok (.iaload, 1) := by decide +kernel
theorem dX11_isRead_93 : decode cX11_isRead 93 = .ok (.aload_n 0, 1) := by decide +kernel
theorem dX11_isRead_94 : decode cX11_isRead 94 = .ok (.getfield 103, 3) := by decide +kernel
theorem dX11_isRead_97 : decode cX11_isRead 97 = .ok (.iload 8, 2) := by decide +kernel
theorem dX11_isRead_99 : decode cX11_isRead 99 = .ok (.iaload, 1) := by decide +kernel
theorem dX11_isRead_100 : decode cX11_isRead 100 = .ok (.if_icmp .ne 7, 3) := by decide +kernel
theorem dX11_isRead_103 : decode cX11_isRead 103 = .ok (.iconst 1, 1) := by decide +kernel
theorem dX11_isRead_104 : decode cX11_isRead 104 = .ok (.goto 4, 3) := by decide +kernel
theorem dX11_isRead_107 : decode cX11_isRead 107 = .ok (.iconst 0, 1) := by decide +kernel
theorem dX11_isRead_108 : decode cX11_isRead 108 = .ok (.istore 5, 2) := by decide +kernel
theorem dX11_isRead_110 : decode cX11_isRead 110 = .ok (.iinc 8 1, 3) := by decide +kernel
theorem dX11_isRead_113 : decode cX11_isRead 113 = .ok (.goto (-39), 3) := by decide +kernel
theorem dX11_isRead_116 : decode cX11_isRead 116 = .ok (.iload 5, 2) := by decide +kernel
theorem dX11_isRead_118 : decode cX11_isRead 118 = .ok (.ireturn, 1) := by decide +kernel
theorem dX11_isRead_119 : decode cX11_isRead 119 = .ok (.iload 5, 2) := by decide +kernel
theorem dX11_isRead_121 : decode cX11_isRead 121 = .ok (.ifCond .eq 21, 3) := by decide +kernel
theorem dX11_isRead_124 : decode cX11_isRead 124 = .ok (.aload_n 0, 1) := by decide +kernel
theorem dX11_isRead_125 : decode cX11_isRead 125 = .ok (.getfield 41, 3) := by decide +kernel
theorem dX11_isRead_128 : decode cX11_isRead 128 = .ok (.iload 4, 2) := by decide +kernel
theorem dX11_isRead_130 : decode cX11_isRead 130 = .ok (.iaload, 1) := by decide +kernel
theorem dX11_isRead_131 : decode cX11_isRead 131 = .ok (.aload_n 0, 1) := by decide +kernel
theorem dX11_isRead_132 : decode cX11_isRead 132 = .ok (.getfield 245, 3) := by decide +kernel
theorem dX11_isRead_135 : decode cX11_isRead 135 = .ok (.if_icmp .ne 7, 3) := by decide +kernel
theorem dX11_isRead_138 : decode cX11_isRead 138 = .ok (.iconst 1, 1) := by decide +kernel
theorem dX11_isRead_139 : decode cX11_isRead 139 = .ok (.goto 4, 3) := by decide +kernel
theorem dX11_isRead_142 : decode cX11_isRead 142 = .ok (.iconst 0, 1) := by decide +kernel
theorem dX11_isRead_143 : decode cX11_isRead 143 = .ok (.istore 5, 2) := by decide +kernel
theorem dX11_isRead_145 : decode cX11_isRead 145 = .ok (.iconst 0, 1) := by decide +kernel
