theorem dL_cell_0 : decode cL_cell 0 = .ok (.iload_n 1, 1) := by decide +kernel
theorem dL_cell_1 : decode cL_cell 1 = .ok (.aload_n 0, 1) := by decide +kernel
theorem dL_cell_2 : decode cL_cell 2 = .ok (.arraylength, 1) := by decide +kernel
theorem dL_cell_3 : decode cL_cell 3 = .ok (.if_icmp .ge 9, 3) := by decide +kernel
theorem dL_cell_6 : decode cL_cell 6 = .ok (.aload_n 0, 1) := by decide +kernel
theorem dL_cell_7 : decode cL_cell 7 = .ok (.iload_n 1, 1) := by decide +kernel
theorem dL_cell_8 : decode cL_cell 8 = .ok (.iaload, 1) := by decide +kernel
theorem dL_cell_9 : decode cL_cell 9 = .ok (.goto 15, 3) := by decide +kernel
theorem dL_cell_12 : decode cL_cell 12 = .ok (.sipush 7919, 3) := by decide +kernel
theorem dL_cell_15 : decode cL_cell 15 = .ok (.iload_n 1, 1) := by decide +kernel
theorem dL_cell_16 : decode cL_cell 16 = .ok (.iconst 3, 1) := by decide +kernel
theorem dL_cell_17 : decode cL_cell 17 = .ok (.iadd, 1) := by decide +kernel
theorem dL_cell_18 : decode cL_cell 18 = .ok (.imul, 1) := by decide +kernel
theorem dL_cell_19 : decode cL_cell 19 = .ok (.iload_n 1, 1) := by decide +kernel
theorem dL_cell_20 : decode cL_cell 20 = .ok (.bipush 11, 2) := by decide +kernel
theorem dL_cell_22 : decode cL_cell 22 = .ok (.iadd, 1) := by decide +kernel
theorem dL_cell_23 : decode cL_cell 23 = .ok (.imul, 1) := by decide +kernel
theorem dL_cell_24 : decode cL_cell 24 = .ok (.ireturn, 1) := by decide +kernel
theorem dL_low_0 : decode cL_low 0 = .ok (.iload_n 0, 1) := by decide +kernel
theorem dL_low_1 : decode cL_low 1 = .ok (.ldc 7, 2) := by decide +kernel
theorem dL_low_3 : decode cL_low 3 = .ok (.iand, 1) := by decide +kernel
theorem dL_low_4 : decode cL_low 4 = .ok (.iload_n 1, 1) := by decide +kernel
theorem dL_low_5 : decode cL_low 5 = .ok (.irem, 1) := by decide +kernel
theorem dL_low_6 : decode cL_low 6 = .ok (.ireturn, 1) := by decide +kernel
theorem dL_at_0 : decode cL_at 0 = .ok (.aload_n 0, 1) := by decide +kernel
theorem dL_at_1 : decode cL_at 1 = .ok (.iload_n 1, 1) := by decide +kernel
theorem dL_at_2 : decode cL_at 2 = .ok (.bipush 7, 2) := by decide +kernel
theorem dL_at_4 : decode cL_at 4 = .ok (.idiv, 1) := by decide +kernel
theorem dL_at_5 : decode cL_at 5 = .ok (.iload_n 1, 1) := by decide +kernel
theorem dL_at_6 : decode cL_at 6 = .ok (.bipush 7, 2) := by decide +kernel
theorem dL_at_8 : decode cL_at 8 = .ok (.irem, 1) := by decide +kernel
theorem dL_at_9 : decode cL_at 9 = .ok (.invokevirtual 8, 3) := by decide +kernel
theorem dL_at_12 : decode cL_at 12 = .ok (.ireturn, 1) := by decide +kernel
theorem dL_does_0 : decode cL_does 0 = .ok (.iload_n 1, 1) := by decide +kernel
theorem dL_does_1 : decode cL_does 1 = .ok (.iconst 4, 1) := by decide +kernel
theorem dL_does_2 : decode cL_does 2 = .ok (.ishr, 1) := by decide +kernel
theorem dL_does_3 : decode cL_does 3 = .ok (.bipush 7, 2) := by decide +kernel
theorem dL_does_5 : decode cL_does 5 = .ok (.invokestatic 14, 3) := by decide +kernel
theorem dL_does_8 : decode cL_does 8 = .ok (.istore_n 3, 1) := by decide +kernel
theorem dL_does_9 : decode cL_does 9 = .ok (.iload_n 1, 1) := by decide +kernel
theorem dL_does_10 : decode cL_does 10 = .ok (.bipush 7, 2) := by decide +kernel
theorem dL_does_12 : decode cL_does 12 = .ok (.ishr, 1) := by decide +kernel
theorem dL_does_13 : decode cL_does 13 = .ok (.bipush 7, 2) := by decide +kernel
theorem dL_does_15 : decode cL_does 15 = .ok (.invokestatic 14, 3) := by decide +kernel
theorem dL_does_18 : decode cL_does 18 = .ok (.istore 4, 2) := by decide +kernel
theorem dL_does_20 : decode cL_does 20 = .ok (.iload_n 1, 1) := by decide +kernel
theorem dL_does_21 : decode cL_does 21 = .ok (.bipush 15, 2) := by decide +kernel
theorem dL_does_23 : decode cL_does 23 = .ok (.iand, 1) := by decide +kernel
theorem dL_does_24 : decode cL_does 24 = .ok (.tableswitch 239 0 13 #[72, 72, 72, 121, 121, 121, 121, 121, 121, 158, 216, 216, 216, 228], 72) := by decide +kernel
theorem dL_does_96 : decode cL_does 96 = .ok (.aload_n 0, 1) := by decide +kernel
theorem dL_does_97 : decode cL_does 97 = .ok (.iload_n 3, 1) := by decide +kernel
theorem dL_does_98 : decode cL_does 98 = .ok (.iload 4, 2) := by decide +kernel
theorem dL_does_100 : decode cL_does 100 = .ok (.invokevirtual 8, 3) := by decide +kernel
theorem dL_does_103 : decode cL_does 103 = .ok (.istore 5, 2) := by decide +kernel
theorem dL_does_105 : decode cL_does 105 = .ok (.iload_n 2, 1) := by decide +kernel
theorem dL_does_106 : decode cL_does 106 = .ok (.bipush 100, 2) := by decide +kernel
theorem dL_does_108 : decode cL_does 108 = .ok (.invokestatic 14, 3) := by decide +kernel
theorem dL_does_111 : decode cL_does 111 = .ok (.istore 6, 2) := by decide +kernel
theorem dL_does_113 : decode cL_does 113 = .ok (.aload_n 0, 1) := by decide +kernel
theorem dL_does_114 : decode cL_does 114 = .ok (.iload_n 3, 1) := by decide +kernel
theorem dL_does_115 : decode cL_does 115 = .ok (.iload 4, 2) := by decide +kernel
theorem dL_does_117 : decode cL_does 117 = .ok (.iload 6, 2) := by decide +kernel
theorem dL_does_119 : decode cL_does 119 = .ok (.invokevirtual 19, 3) := by decide +kernel
theorem dL_does_122 : decode cL_does 122 = .ok (.iload 5, 2) := by decide +kernel
theorem dL_does_124 : decode cL_does 124 = .ok (.if_icmp .ne 19, 3) := by decide +kernel
theorem dL_does_127 : decode cL_does 127 = .ok (.aload_n 0, 1) := by decide +kernel
theorem dL_does_128 : decode cL_does 128 = .ok (.iload_n 3, 1) := by decide +kernel
theorem dL_does_129 : decode cL_does 129 = .ok (.iload 4, 2) := by decide +kernel
theorem dL_does_131 : decode cL_does 131 = .ok (.invokevirtual 8, 3) := by decide +kernel
theorem dL_does_134 : decode cL_does 134 = .ok (.iload 6, 2) := by decide +kernel
theorem dL_does_136 : decode cL_does 136 = .ok (.if_icmp .ne 7, 3) := by decide +kernel
theorem dL_does_139 : decode cL_does 139 = .ok (.iconst 1, 1) := by decide +kernel
theorem dL_does_140 : decode cL_does 140 = .ok (.goto 4, 3) := by decide +kernel
theorem dL_does_143 : decode cL_does 143 = .ok (.iconst 0, 1) := by decide +kernel
theorem dL_does_144 : decode cL_does 144 = .ok (.ireturn, 1) := by decide +kernel
theorem dL_does_145 : decode cL_does 145 = .ok (.aload_n 0, 1) := by decide +kernel
theorem dL_does_146 : decode cL_does 146 = .ok (.iload_n 3, 1) := by decide +kernel
theorem dL_does_147 : decode cL_does 147 = .ok (.iload 4, 2) := by decide +kernel
theorem dL_does_149 : decode cL_does 149 = .ok (.iload_n 2, 1) := by decide +kernel
theorem dL_does_150 : decode cL_does 150 = .ok (.iconst 1, 1) := by decide +kernel
theorem dL_does_151 : decode cL_does 151 = .ok (.iand, 1) := by decide +kernel
theorem dL_does_152 : decode cL_does 152 = .ok (.ifCond .ne 16, 3) := by decide +kernel
theorem dL_does_155 : decode cL_does 155 = .ok (.iconst 1, 1) := by decide +kernel
theorem dL_does_156 : decode cL_does 156 = .ok (.iload_n 2, 1) := by decide +kernel
theorem dL_does_157 : decode cL_does 157 = .ok (.iconst 1, 1) := by decide +kernel
theorem dL_does_158 : decode cL_does 158 = .ok (.ishr, 1) := by decide +kernel
theorem dL_does_159 : decode cL_does 159 = .ok (.bipush 60, 2) := by decide +kernel
theorem dL_does_161 : decode cL_does 161 = .ok (.invokestatic 14, 3) := by decide +kernel
theorem dL_does_164 : decode cL_does 164 = .ok (.iadd, 1) := by decide +kernel
theorem dL_does_165 : decode cL_does 165 = .ok (.goto 13, 3) := by decide +kernel
theorem dL_does_168 : decode cL_does 168 = .ok (.iconst (-1), 1) := by decide +kernel
theorem dL_does_169 : decode cL_does 169 = .ok (.iload_n 2, 1) := by decide +kernel
theorem dL_does_170 : decode cL_does 170 = .ok (.iconst 1, 1) := by decide +kernel
theorem dL_does_171 : decode cL_does 171 = .ok (.ishr, 1) := by decide +kernel
theorem dL_does_172 : decode cL_does 172 = .ok (.bipush 60, 2) := by decide +kernel
theorem dL_does_174 : decode cL_does 174 = .ok (.invokestatic 14, 3) := by decide +kernel
theorem dL_does_177 : decode cL_does 177 = .ok (.isub, 1) := by decide +kernel
theorem dL_does_178 : decode cL_does 178 = .ok (.invokestatic 23, 3) := by decide +kernel
theorem dL_does_181 : decode cL_does 181 = .ok (.ireturn, 1) := by decide +kernel
theorem dL_does_182 : decode cL_does 182 = .ok (.aload_n 0, 1) := by decide +kernel
theorem dL_does_183 : decode cL_does 183 = .ok (.iconst 0, 1) := by decide +kernel
theorem dL_does_184 : decode cL_does 184 = .ok (.invokestatic 27, 3) := by decide +kernel
theorem dL_does_187 : decode cL_does 187 = .ok (.istore 7, 2) := by decide +kernel
theorem dL_does_189 : decode cL_does 189 = .ok (.aload_n 0, 1) := by decide +kernel
theorem dL_does_190 : decode cL_does 190 = .ok (.iconst 1, 1) := by decide +kernel
theorem dL_does_191 : decode cL_does 191 = .ok (.invokestatic 27, 3) := by decide +kernel
theorem dL_does_194 : decode cL_does 194 = .ok (.istore 8, 2) := by decide +kernel
theorem dL_does_196 : decode cL_does 196 = .ok (.aload_n 0, 1) := by decide +kernel
theorem dL_does_197 : decode cL_does 197 = .ok (.invokevirtual 31, 3) := by decide +kernel
theorem dL_does_200 : decode cL_does 200 = .ok (.istore 9, 2) := by decide +kernel
theorem dL_does_202 : decode cL_does 202 = .ok (.iload 9, 2) := by decide +kernel
theorem dL_does_204 : decode cL_does 204 = .ok (.ifCond .lt 34, 3) := by decide +kernel
theorem dL_does_207 : decode cL_does 207 = .ok (.iload 9, 2) := by decide +kernel
theorem dL_does_209 : decode cL_does 209 = .ok (.bipush 49, 2) := by decide +kernel
theorem dL_does_211 : decode cL_does 211 = .ok (.if_icmp .gt 27, 3) := by decide +kernel
theorem dL_does_214 : decode cL_does 214 = .ok (.aload_n 0, 1) := by decide +kernel
theorem dL_does_215 : decode cL_does 215 = .ok (.iconst 0, 1) := by decide +kernel
theorem dL_does_216 : decode cL_does 216 = .ok (.invokestatic 27, 3) := by decide +kernel
theorem dL_does_219 : decode cL_does 219 = .ok (.iload 7, 2) := by decide +kernel
theorem dL_does_221 : decode cL_does 221 = .ok (.if_icmp .lt 17, 3) := by decide +kernel
theorem dL_does_224 : decode cL_does 224 = .ok (.aload_n 0, 1) := by decide +kernel
theorem dL_does_225 : decode cL_does 225 = .ok (.iconst 1, 1) := by decide +kernel
theorem dL_does_226 : decode cL_does 226 = .ok (.invokestatic 27, 3) := by decide +kernel
theorem dL_does_229 : decode cL_does 229 = .ok (.iload 8, 2) := by decide +kernel
theorem dL_does_231 : decode cL_does 231 = .ok (.if_icmp .gt 7, 3) := by decide +kernel
theorem dL_does_234 : decode cL_does 234 = .ok (.iconst 1, 1) := by decide +kernel
theorem dL_does_235 : decode cL_does 235 = .ok (.goto 4, 3) := by decide +kernel
theorem dL_does_238 : decode cL_does 238 = .ok (.iconst 0, 1) := by decide +kernel
theorem dL_does_239 : decode cL_does 239 = .ok (.ireturn, 1) := by decide +kernel
theorem dL_does_240 : decode cL_does 240 = .ok (.aload_n 0, 1) := by decide +kernel
theorem dL_does_241 : decode cL_does 241 = .ok (.iconst 1, 1) := by decide +kernel
theorem dL_does_242 : decode cL_does 242 = .ok (.iload_n 2, 1) := by decide +kernel
theorem dL_does_243 : decode cL_does 243 = .ok (.iconst 4, 1) := by decide +kernel
theorem dL_does_244 : decode cL_does 244 = .ok (.invokestatic 14, 3) := by decide +kernel
theorem dL_does_247 : decode cL_does 247 = .ok (.iadd, 1) := by decide +kernel
theorem dL_does_248 : decode cL_does 248 = .ok (.invokestatic 35, 3) := by decide +kernel
theorem dL_does_251 : decode cL_does 251 = .ok (.ireturn, 1) := by decide +kernel
theorem dL_does_252 : decode cL_does 252 = .ok (.aload_n 0, 1) := by decide +kernel
theorem dL_does_253 : decode cL_does 253 = .ok (.iload_n 2, 1) := by decide +kernel
theorem dL_does_254 : decode cL_does 254 = .ok (.bipush 99, 2) := by decide +kernel
theorem dL_does_256 : decode cL_does 256 = .ok (.invokestatic 14, 3) := by decide +kernel
theorem dL_does_259 : decode cL_does 259 = .ok (.invokestatic 39, 3) := by decide +kernel
theorem dL_does_262 : decode cL_does 262 = .ok (.ireturn, 1) := by decide +kernel
theorem dL_does_263 : decode cL_does 263 = .ok (.iconst 1, 1) := by decide +kernel
theorem dL_does_264 : decode cL_does 264 = .ok (.ireturn, 1) := by decide +kernel
theorem dL_extreme_0 : decode cL_extreme 0 = .ok (.aload_n 0, 1) := by decide +kernel
theorem dL_extreme_1 : decode cL_extreme 1 = .ok (.iconst 0, 1) := by decide +kernel
theorem dL_extreme_2 : decode cL_extreme 2 = .ok (.invokestatic 42, 3) := by decide +kernel
theorem dL_extreme_5 : decode cL_extreme 5 = .ok (.istore_n 2, 1) := by decide +kernel
theorem dL_extreme_6 : decode cL_extreme 6 = .ok (.iconst 1, 1) := by decide +kernel
theorem dL_extreme_7 : decode cL_extreme 7 = .ok (.istore_n 3, 1) := by decide +kernel
theorem dL_extreme_8 : decode cL_extreme 8 = .ok (.iload_n 3, 1) := by decide +kernel
theorem dL_extreme_9 : decode cL_extreme 9 = .ok (.bipush 49, 2) := by decide +kernel
theorem dL_extreme_11 : decode cL_extreme 11 = .ok (.if_icmp .ge 46, 3) := by decide +kernel
theorem dL_extreme_14 : decode cL_extreme 14 = .ok (.iload_n 1, 1) := by decide +kernel
theorem dL_extreme_15 : decode cL_extreme 15 = .ok (.aload_n 0, 1) := by decide +kernel
theorem dL_extreme_16 : decode cL_extreme 16 = .ok (.iload_n 3, 1) := by decide +kernel
theorem dL_extreme_17 : decode cL_extreme 17 = .ok (.invokestatic 42, 3) := by decide +kernel
theorem dL_extreme_20 : decode cL_extreme 20 = .ok (.iload_n 2, 1) := by decide +kernel
theorem dL_extreme_21 : decode cL_extreme 21 = .ok (.if_icmp .le 7, 3) := by decide +kernel
theorem dL_extreme_24 : decode cL_extreme 24 = .ok (.iconst 1, 1) := by decide +kernel
theorem dL_extreme_25 : decode cL_extreme 25 = .ok (.goto 4, 3) := by decide +kernel
theorem dL_extreme_28 : decode cL_extreme 28 = .ok (.iconst 0, 1) := by decide +kernel
theorem dL_extreme_29 : decode cL_extreme 29 = .ok (.if_icmp .ne 20, 3) := by decide +kernel
theorem dL_extreme_32 : decode cL_extreme 32 = .ok (.aload_n 0, 1) := by decide +kernel
theorem dL_extreme_33 : decode cL_extreme 33 = .ok (.iload_n 3, 1) := by decide +kernel
theorem dL_extreme_34 : decode cL_extreme 34 = .ok (.invokestatic 42, 3) := by decide +kernel
theorem dL_extreme_37 : decode cL_extreme 37 = .ok (.iload_n 2, 1) := by decide +kernel
theorem dL_extreme_38 : decode cL_extreme 38 = .ok (.if_icmp .eq 11, 3) := by decide +kernel
theorem dL_extreme_41 : decode cL_extreme 41 = .ok (.aload_n 0, 1) := by decide +kernel
theorem dL_extreme_42 : decode cL_extreme 42 = .ok (.iload_n 3, 1) := by decide +kernel
theorem dL_extreme_43 : decode cL_extreme 43 = .ok (.invokestatic 42, 3) := by decide +kernel
theorem dL_extreme_46 : decode cL_extreme 46 = .ok (.goto 4, 3) := by decide +kernel
theorem dL_extreme_49 : decode cL_extreme 49 = .ok (.iload_n 2, 1) := by decide +kernel
theorem dL_extreme_50 : decode cL_extreme 50 = .ok (.istore_n 2, 1) := by decide +kernel
theorem dL_extreme_51 : decode cL_extreme 51 = .ok (.iinc 3 1, 3) := by decide +kernel
theorem dL_extreme_54 : decode cL_extreme 54 = .ok (.goto (-46), 3) := by decide +kernel
theorem dL_extreme_57 : decode cL_extreme 57 = .ok (.iload_n 2, 1) := by decide +kernel
theorem dL_extreme_58 : decode cL_extreme 58 = .ok (.ireturn, 1) := by decide +kernel
theorem dL_isHeaped_0 : decode cL_isHeaped 0 = .ok (.aload_n 0, 1) := by decide +kernel
theorem dL_isHeaped_1 : decode cL_isHeaped 1 = .ok (.invokevirtual 46, 3) := by decide +kernel
theorem dL_isHeaped_4 : decode cL_isHeaped 4 = .ok (.istore 4, 2) := by decide +kernel
theorem dL_isHeaped_6 : decode cL_isHeaped 6 = .ok (.aload_n 0, 1) := by decide +kernel
theorem dL_isHeaped_7 : decode cL_isHeaped 7 = .ok (.iload_n 1, 1) := by decide +kernel
theorem dL_isHeaped_8 : decode cL_isHeaped 8 = .ok (.iload_n 2, 1) := by decide +kernel
theorem dL_isHeaped_9 : decode cL_isHeaped 9 = .ok (.invokevirtual 8, 3) := by decide +kernel
theorem dL_isHeaped_12 : decode cL_isHeaped 12 = .ok (.istore 5, 2) := by decide +kernel
theorem dL_isHeaped_14 : decode cL_isHeaped 14 = .ok (.iload 5, 2) := by decide +kernel
theorem dL_isHeaped_16 : decode cL_isHeaped 16 = .ok (.iload_n 3, 1) := by decide +kernel
theorem dL_isHeaped_17 : decode cL_isHeaped 17 = .ok (.iadd, 1) := by decide +kernel
theorem dL_isHeaped_18 : decode cL_isHeaped 18 = .ok (.ifCond .ge 7, 3) := by decide +kernel
theorem dL_isHeaped_21 : decode cL_isHeaped 21 = .ok (.iconst 0, 1) := by decide +kernel
theorem dL_isHeaped_22 : decode cL_isHeaped 22 = .ok (.goto 21, 3) := by decide +kernel
theorem dL_isHeaped_25 : decode cL_isHeaped 25 = .ok (.iload 5, 2) := by decide +kernel
theorem dL_isHeaped_27 : decode cL_isHeaped 27 = .ok (.iload_n 3, 1) := by decide +kernel
theorem dL_isHeaped_28 : decode cL_isHeaped 28 = .ok (.iadd, 1) := by decide +kernel
theorem dL_isHeaped_29 : decode cL_isHeaped 29 = .ok (.bipush 99, 2) := by decide +kernel
theorem dL_isHeaped_31 : decode cL_isHeaped 31 = .ok (.if_icmp .le 8, 3) := by decide +kernel
theorem dL_isHeaped_34 : decode cL_isHeaped 34 = .ok (.bipush 99, 2) := by decide +kernel
theorem dL_isHeaped_36 : decode cL_isHeaped 36 = .ok (.goto 7, 3) := by decide +kernel
theorem dL_isHeaped_39 : decode cL_isHeaped 39 = .ok (.iload 5, 2) := by decide +kernel
theorem dL_isHeaped_41 : decode cL_isHeaped 41 = .ok (.iload_n 3, 1) := by decide +kernel
theorem dL_isHeaped_42 : decode cL_isHeaped 42 = .ok (.iadd, 1) := by decide +kernel
theorem dL_isHeaped_43 : decode cL_isHeaped 43 = .ok (.istore 6, 2) := by decide +kernel
theorem dL_isHeaped_45 : decode cL_isHeaped 45 = .ok (.aload_n 0, 1) := by decide +kernel
theorem dL_isHeaped_46 : decode cL_isHeaped 46 = .ok (.iload_n 1, 1) := by decide +kernel
theorem dL_isHeaped_47 : decode cL_isHeaped 47 = .ok (.iload_n 2, 1) := by decide +kernel
theorem dL_isHeaped_48 : decode cL_isHeaped 48 = .ok (.iload_n 3, 1) := by decide +kernel
theorem dL_isHeaped_49 : decode cL_isHeaped 49 = .ok (.invokevirtual 49, 3) := by decide +kernel
theorem dL_isHeaped_52 : decode cL_isHeaped 52 = .ok (.istore 7, 2) := by decide +kernel
theorem dL_isHeaped_54 : decode cL_isHeaped 54 = .ok (.aload_n 0, 1) := by decide +kernel
theorem dL_isHeaped_55 : decode cL_isHeaped 55 = .ok (.iload_n 1, 1) := by decide +kernel
theorem dL_isHeaped_56 : decode cL_isHeaped 56 = .ok (.iload_n 2, 1) := by decide +kernel
theorem dL_isHeaped_57 : decode cL_isHeaped 57 = .ok (.invokevirtual 8, 3) := by decide +kernel
theorem dL_isHeaped_60 : decode cL_isHeaped 60 = .ok (.iload 6, 2) := by decide +kernel
theorem dL_isHeaped_62 : decode cL_isHeaped 62 = .ok (.if_icmp .ne 50, 3) := by decide +kernel
theorem dL_isHeaped_65 : decode cL_isHeaped 65 = .ok (.iload_n 3, 1) := by decide +kernel
theorem dL_isHeaped_66 : decode cL_isHeaped 66 = .ok (.ifCond .le 18, 3) := by decide +kernel
theorem dL_isHeaped_69 : decode cL_isHeaped 69 = .ok (.aload_n 0, 1) := by decide +kernel
theorem dL_isHeaped_70 : decode cL_isHeaped 70 = .ok (.invokevirtual 46, 3) := by decide +kernel
theorem dL_isHeaped_73 : decode cL_isHeaped 73 = .ok (.iload 4, 2) := by decide +kernel
theorem dL_isHeaped_75 : decode cL_isHeaped 75 = .ok (.iload 7, 2) := by decide +kernel
theorem dL_isHeaped_77 : decode cL_isHeaped 77 = .ok (.iadd, 1) := by decide +kernel
theorem dL_isHeaped_78 : decode cL_isHeaped 78 = .ok (.if_icmp .lt 34, 3) := by decide +kernel
theorem dL_isHeaped_81 : decode cL_isHeaped 81 = .ok (.goto 15, 3) := by decide +kernel
theorem dL_isHeaped_84 : decode cL_isHeaped 84 = .ok (.aload_n 0, 1) := by decide +kernel
theorem dL_isHeaped_85 : decode cL_isHeaped 85 = .ok (.invokevirtual 46, 3) := by decide +kernel
theorem dL_isHeaped_88 : decode cL_isHeaped 88 = .ok (.iload 4, 2) := by decide +kernel
theorem dL_isHeaped_90 : decode cL_isHeaped 90 = .ok (.iload 7, 2) := by decide +kernel
theorem dL_isHeaped_92 : decode cL_isHeaped 92 = .ok (.isub, 1) := by decide +kernel
theorem dL_isHeaped_93 : decode cL_isHeaped 93 = .ok (.if_icmp .gt 19, 3) := by decide +kernel
theorem dL_isHeaped_96 : decode cL_isHeaped 96 = .ok (.iload 7, 2) := by decide +kernel
theorem dL_isHeaped_98 : decode cL_isHeaped 98 = .ok (.ifCond .gt 10, 3) := by decide +kernel
theorem dL_isHeaped_101 : decode cL_isHeaped 101 = .ok (.iload 6, 2) := by decide +kernel
theorem dL_isHeaped_103 : decode cL_isHeaped 103 = .ok (.iload 5, 2) := by decide +kernel
theorem dL_isHeaped_105 : decode cL_isHeaped 105 = .ok (.if_icmp .ne 7, 3) := by decide +kernel
theorem dL_isHeaped_108 : decode cL_isHeaped 108 = .ok (.iconst 1, 1) := by decide +kernel
theorem dL_isHeaped_109 : decode cL_isHeaped 109 = .ok (.goto 4, 3) := by decide +kernel
theorem dL_isHeaped_112 : decode cL_isHeaped 112 = .ok (.iconst 0, 1) := by decide +kernel
theorem dL_isHeaped_113 : decode cL_isHeaped 113 = .ok (.ireturn, 1) := by decide +kernel
theorem dL_isWashed_0 : decode cL_isWashed 0 = .ok (.iconst 0, 1) := by decide +kernel
theorem dL_isWashed_1 : decode cL_isWashed 1 = .ok (.istore_n 2, 1) := by decide +kernel
theorem dL_isWashed_2 : decode cL_isWashed 2 = .ok (.iconst 0, 1) := by decide +kernel
theorem dL_isWashed_3 : decode cL_isWashed 3 = .ok (.istore_n 3, 1) := by decide +kernel
theorem dL_isWashed_4 : decode cL_isWashed 4 = .ok (.iload_n 3, 1) := by decide +kernel
theorem dL_isWashed_5 : decode cL_isWashed 5 = .ok (.bipush 49, 2) := by decide +kernel
theorem dL_isWashed_7 : decode cL_isWashed 7 = .ok (.if_icmp .ge 35, 3) := by decide +kernel
theorem dL_isWashed_10 : decode cL_isWashed 10 = .ok (.iload_n 2, 1) := by decide +kernel
theorem dL_isWashed_11 : decode cL_isWashed 11 = .ok (.ifCond .ne 19, 3) := by decide +kernel
theorem dL_isWashed_14 : decode cL_isWashed 14 = .ok (.aload_n 0, 1) := by decide +kernel
theorem dL_isWashed_15 : decode cL_isWashed 15 = .ok (.iload_n 3, 1) := by decide +kernel
theorem dL_isWashed_16 : decode cL_isWashed 16 = .ok (.bipush 7, 2) := by decide +kernel
theorem dL_isWashed_18 : decode cL_isWashed 18 = .ok (.idiv, 1) := by decide +kernel
theorem dL_isWashed_19 : decode cL_isWashed 19 = .ok (.iload_n 3, 1) := by decide +kernel
theorem dL_isWashed_20 : decode cL_isWashed 20 = .ok (.bipush 7, 2) := by decide +kernel
theorem dL_isWashed_22 : decode cL_isWashed 22 = .ok (.irem, 1) := by decide +kernel
theorem dL_isWashed_23 : decode cL_isWashed 23 = .ok (.invokevirtual 52, 3) := by decide +kernel
theorem dL_isWashed_26 : decode cL_isWashed 26 = .ok (.iconst 1, 1) := by decide +kernel
theorem dL_isWashed_27 : decode cL_isWashed 27 = .ok (.if_icmp .le 7, 3) := by decide +kernel
theorem dL_isWashed_30 : decode cL_isWashed 30 = .ok (.iconst 1, 1) := by decide +kernel
theorem dL_isWashed_31 : decode cL_isWashed 31 = .ok (.goto 4, 3) := by decide +kernel
theorem dL_isWashed_34 : decode cL_isWashed 34 = .ok (.iconst 0, 1) := by decide +kernel
theorem dL_isWashed_35 : decode cL_isWashed 35 = .ok (.istore_n 2, 1) := by decide +kernel
theorem dL_isWashed_36 : decode cL_isWashed 36 = .ok (.iinc 3 1, 3) := by decide +kernel
theorem dL_isWashed_39 : decode cL_isWashed 39 = .ok (.goto (-35), 3) := by decide +kernel
theorem dL_isWashed_42 : decode cL_isWashed 42 = .ok (.aload_n 0, 1) := by decide +kernel
theorem dL_isWashed_43 : decode cL_isWashed 43 = .ok (.invokevirtual 46, 3) := by decide +kernel
theorem dL_isWashed_46 : decode cL_isWashed 46 = .ok (.istore_n 3, 1) := by decide +kernel
theorem dL_isWashed_47 : decode cL_isWashed 47 = .ok (.aload_n 0, 1) := by decide +kernel
theorem dL_isWashed_48 : decode cL_isWashed 48 = .ok (.iload_n 1, 1) := by decide +kernel
theorem dL_isWashed_49 : decode cL_isWashed 49 = .ok (.invokevirtual 55, 3) := by decide +kernel
theorem dL_isWashed_52 : decode cL_isWashed 52 = .ok (.istore 4, 2) := by decide +kernel
theorem dL_isWashed_54 : decode cL_isWashed 54 = .ok (.iload 4, 2) := by decide +kernel
theorem dL_isWashed_56 : decode cL_isWashed 56 = .ok (.ifCond .le 7, 3) := by decide +kernel
theorem dL_isWashed_59 : decode cL_isWashed 59 = .ok (.iconst 1, 1) := by decide +kernel
theorem dL_isWashed_60 : decode cL_isWashed 60 = .ok (.goto 4, 3) := by decide +kernel
theorem dL_isWashed_63 : decode cL_isWashed 63 = .ok (.iconst 0, 1) := by decide +kernel
theorem dL_isWashed_64 : decode cL_isWashed 64 = .ok (.iload_n 2, 1) := by decide +kernel
theorem dL_isWashed_65 : decode cL_isWashed 65 = .ok (.if_icmp .ne 27, 3) := by decide +kernel
theorem dL_isWashed_68 : decode cL_isWashed 68 = .ok (.aload_n 0, 1) := by decide +kernel
theorem dL_isWashed_69 : decode cL_isWashed 69 = .ok (.invokevirtual 46, 3) := by decide +kernel
theorem dL_isWashed_72 : decode cL_isWashed 72 = .ok (.iload_n 3, 1) := by decide +kernel
theorem dL_isWashed_73 : decode cL_isWashed 73 = .ok (.if_icmp .gt 19, 3) := by decide +kernel
theorem dL_isWashed_76 : decode cL_isWashed 76 = .ok (.iload_n 2, 1) := by decide +kernel
theorem dL_isWashed_77 : decode cL_isWashed 77 = .ok (.ifCond .ne 11, 3) := by decide +kernel
theorem dL_isWashed_80 : decode cL_isWashed 80 = .ok (.aload_n 0, 1) := by decide +kernel
theorem dL_isWashed_81 : decode cL_isWashed 81 = .ok (.invokevirtual 46, 3) := by decide +kernel
theorem dL_isWashed_84 : decode cL_isWashed 84 = .ok (.iload_n 3, 1) := by decide +kernel
theorem dL_isWashed_85 : decode cL_isWashed 85 = .ok (.if_icmp .ne 7, 3) := by decide +kernel
theorem dL_isWashed_88 : decode cL_isWashed 88 = .ok (.iconst 1, 1) := by decide +kernel
theorem dL_isWashed_89 : decode cL_isWashed 89 = .ok (.goto 4, 3) := by decide +kernel
theorem dL_isWashed_92 : decode cL_isWashed 92 = .ok (.iconst 0, 1) := by decide +kernel
theorem dL_isWashed_93 : decode cL_isWashed 93 = .ok (.ireturn, 1) := by decide +kernel
theorem dL_isTurned_0 : decode cL_isTurned 0 = .ok (.aload_n 0, 1) := by decide +kernel
theorem dL_isTurned_1 : decode cL_isTurned 1 = .ok (.invokevirtual 46, 3) := by decide +kernel
theorem dL_isTurned_4 : decode cL_isTurned 4 = .ok (.istore_n 2, 1) := by decide +kernel
theorem dL_isTurned_5 : decode cL_isTurned 5 = .ok (.aload_n 0, 1) := by decide +kernel
theorem dL_isTurned_6 : decode cL_isTurned 6 = .ok (.invokevirtual 59, 3) := by decide +kernel
theorem dL_isTurned_9 : decode cL_isTurned 9 = .ok (.istore_n 3, 1) := by decide +kernel
theorem dL_isTurned_10 : decode cL_isTurned 10 = .ok (.aload_n 0, 1) := by decide +kernel
theorem dL_isTurned_11 : decode cL_isTurned 11 = .ok (.invokevirtual 62, 3) := by decide +kernel
theorem dL_isTurned_14 : decode cL_isTurned 14 = .ok (.istore 4, 2) := by decide +kernel
theorem dL_isTurned_16 : decode cL_isTurned 16 = .ok (.aload_n 0, 1) := by decide +kernel
theorem dL_isTurned_17 : decode cL_isTurned 17 = .ok (.iload_n 1, 1) := by decide +kernel
theorem dL_isTurned_18 : decode cL_isTurned 18 = .ok (.invokevirtual 65, 3) := by decide +kernel
theorem dL_isTurned_21 : decode cL_isTurned 21 = .ok (.istore 5, 2) := by decide +kernel
theorem dL_isTurned_23 : decode cL_isTurned 23 = .ok (.aload_n 0, 1) := by decide +kernel
theorem dL_isTurned_24 : decode cL_isTurned 24 = .ok (.iload_n 1, 1) := by decide +kernel
theorem dL_isTurned_25 : decode cL_isTurned 25 = .ok (.invokevirtual 68, 3) := by decide +kernel
theorem dL_isTurned_28 : decode cL_isTurned 28 = .ok (.istore 6, 2) := by decide +kernel
theorem dL_isTurned_30 : decode cL_isTurned 30 = .ok (.aload_n 0, 1) := by decide +kernel
theorem dL_isTurned_31 : decode cL_isTurned 31 = .ok (.iconst 0, 1) := by decide +kernel
theorem dL_isTurned_32 : decode cL_isTurned 32 = .ok (.invokestatic 42, 3) := by decide +kernel
theorem dL_isTurned_35 : decode cL_isTurned 35 = .ok (.istore 7, 2) := by decide +kernel
theorem dL_isTurned_37 : decode cL_isTurned 37 = .ok (.aload_n 0, 1) := by decide +kernel
theorem dL_isTurned_38 : decode cL_isTurned 38 = .ok (.bipush 42, 2) := by decide +kernel
theorem dL_isTurned_40 : decode cL_isTurned 40 = .ok (.invokestatic 42, 3) := by decide +kernel
theorem dL_isTurned_43 : decode cL_isTurned 43 = .ok (.istore 8, 2) := by decide +kernel
theorem dL_isTurned_45 : decode cL_isTurned 45 = .ok (.aload_n 0, 1) := by decide +kernel
theorem dL_isTurned_46 : decode cL_isTurned 46 = .ok (.invokevirtual 71, 3) := by decide +kernel
theorem dL_isTurned_49 : decode cL_isTurned 49 = .ok (.istore 9, 2) := by decide +kernel
theorem dL_isTurned_51 : decode cL_isTurned 51 = .ok (.iload 9, 2) := by decide +kernel
theorem dL_isTurned_53 : decode cL_isTurned 53 = .ok (.ifCond .lt 73, 3) := by decide +kernel
theorem dL_isTurned_56 : decode cL_isTurned 56 = .ok (.aload_n 0, 1) := by decide +kernel
theorem dL_isTurned_57 : decode cL_isTurned 57 = .ok (.bipush 6, 2) := by decide +kernel
theorem dL_isTurned_59 : decode cL_isTurned 59 = .ok (.invokestatic 42, 3) := by decide +kernel
theorem dL_isTurned_62 : decode cL_isTurned 62 = .ok (.iload 7, 2) := by decide +kernel
theorem dL_isTurned_64 : decode cL_isTurned 64 = .ok (.if_icmp .ne 62, 3) := by decide +kernel
theorem dL_isTurned_67 : decode cL_isTurned 67 = .ok (.aload_n 0, 1) := by decide +kernel
theorem dL_isTurned_68 : decode cL_isTurned 68 = .ok (.iconst 0, 1) := by decide +kernel
theorem dL_isTurned_69 : decode cL_isTurned 69 = .ok (.invokestatic 42, 3) := by decide +kernel
theorem dL_isTurned_72 : decode cL_isTurned 72 = .ok (.iload 8, 2) := by decide +kernel
theorem dL_isTurned_74 : decode cL_isTurned 74 = .ok (.if_icmp .ne 52, 3) := by decide +kernel
theorem dL_isTurned_77 : decode cL_isTurned 77 = .ok (.aload_n 0, 1) := by decide +kernel
theorem dL_isTurned_78 : decode cL_isTurned 78 = .ok (.invokevirtual 46, 3) := by decide +kernel
theorem dL_isTurned_81 : decode cL_isTurned 81 = .ok (.iload_n 2, 1) := by decide +kernel
theorem dL_isTurned_82 : decode cL_isTurned 82 = .ok (.if_icmp .ne 44, 3) := by decide +kernel
theorem dL_isTurned_85 : decode cL_isTurned 85 = .ok (.aload_n 0, 1) := by decide +kernel
theorem dL_isTurned_86 : decode cL_isTurned 86 = .ok (.invokevirtual 59, 3) := by decide +kernel
theorem dL_isTurned_89 : decode cL_isTurned 89 = .ok (.iload_n 3, 1) := by decide +kernel
theorem dL_isTurned_90 : decode cL_isTurned 90 = .ok (.if_icmp .ne 36, 3) := by decide +kernel
theorem dL_isTurned_93 : decode cL_isTurned 93 = .ok (.aload_n 0, 1) := by decide +kernel
theorem dL_isTurned_94 : decode cL_isTurned 94 = .ok (.invokevirtual 62, 3) := by decide +kernel
theorem dL_isTurned_97 : decode cL_isTurned 97 = .ok (.iload 4, 2) := by decide +kernel
theorem dL_isTurned_99 : decode cL_isTurned 99 = .ok (.if_icmp .ne 27, 3) := by decide +kernel
theorem dL_isTurned_102 : decode cL_isTurned 102 = .ok (.aload_n 0, 1) := by decide +kernel
theorem dL_isTurned_103 : decode cL_isTurned 103 = .ok (.iload_n 1, 1) := by decide +kernel
theorem dL_isTurned_104 : decode cL_isTurned 104 = .ok (.invokevirtual 65, 3) := by decide +kernel
theorem dL_isTurned_107 : decode cL_isTurned 107 = .ok (.iload 5, 2) := by decide +kernel
theorem dL_isTurned_109 : decode cL_isTurned 109 = .ok (.if_icmp .ne 17, 3) := by decide +kernel
theorem dL_isTurned_112 : decode cL_isTurned 112 = .ok (.aload_n 0, 1) := by decide +kernel
theorem dL_isTurned_113 : decode cL_isTurned 113 = .ok (.iload_n 1, 1) := by decide +kernel
theorem dL_isTurned_114 : decode cL_isTurned 114 = .ok (.invokevirtual 68, 3) := by decide +kernel
theorem dL_isTurned_117 : decode cL_isTurned 117 = .ok (.iload 6, 2) := by decide +kernel
theorem dL_isTurned_119 : decode cL_isTurned 119 = .ok (.if_icmp .ne 7, 3) := by decide +kernel
theorem dL_isTurned_122 : decode cL_isTurned 122 = .ok (.iconst 1, 1) := by decide +kernel
theorem dL_isTurned_123 : decode cL_isTurned 123 = .ok (.goto 4, 3) := by decide +kernel
theorem dL_isTurned_126 : decode cL_isTurned 126 = .ok (.iconst 0, 1) := by decide +kernel
theorem dL_isTurned_127 : decode cL_isTurned 127 = .ok (.ireturn, 1) := by decide +kernel
theorem dL_areLinesSo_0 : decode cL_areLinesSo 0 = .ok (.iconst 0, 1) := by decide +kernel
theorem dL_areLinesSo_1 : decode cL_areLinesSo 1 = .ok (.istore_n 2, 1) := by decide +kernel
theorem dL_areLinesSo_2 : decode cL_areLinesSo 2 = .ok (.iconst 0, 1) := by decide +kernel
theorem dL_areLinesSo_3 : decode cL_areLinesSo 3 = .ok (.istore_n 3, 1) := by decide +kernel
theorem dL_areLinesSo_4 : decode cL_areLinesSo 4 = .ok (.iconst 0, 1) := by decide +kernel
theorem dL_areLinesSo_5 : decode cL_areLinesSo 5 = .ok (.istore 4, 2) := by decide +kernel
theorem dL_areLinesSo_7 : decode cL_areLinesSo 7 = .ok (.iconst 0, 1) := by decide +kernel
theorem dL_areLinesSo_8 : decode cL_areLinesSo 8 = .ok (.istore 5, 2) := by decide +kernel
theorem dL_areLinesSo_10 : decode cL_areLinesSo 10 = .ok (.iconst 0, 1) := by decide +kernel
theorem dL_areLinesSo_11 : decode cL_areLinesSo 11 = .ok (.istore 6, 2) := by decide +kernel
theorem dL_areLinesSo_13 : decode cL_areLinesSo 13 = .ok (.iconst 1, 1) := by decide +kernel
theorem dL_areLinesSo_14 : decode cL_areLinesSo 14 = .ok (.istore 7, 2) := by decide +kernel
theorem dL_areLinesSo_16 : decode cL_areLinesSo 16 = .ok (.iconst 0, 1) := by decide +kernel
theorem dL_areLinesSo_17 : decode cL_areLinesSo 17 = .ok (.istore 8, 2) := by decide +kernel
theorem dL_areLinesSo_19 : decode cL_areLinesSo 19 = .ok (.iload 8, 2) := by decide +kernel
theorem dL_areLinesSo_21 : decode cL_areLinesSo 21 = .ok (.bipush 49, 2) := by decide +kernel
theorem dL_areLinesSo_23 : decode cL_areLinesSo 23 = .ok (.if_icmp .ge 243, 3) := by decide +kernel
theorem dL_areLinesSo_26 : decode cL_areLinesSo 26 = .ok (.aload_n 0, 1) := by decide +kernel
theorem dL_areLinesSo_27 : decode cL_areLinesSo 27 = .ok (.iload 8, 2) := by decide +kernel
theorem dL_areLinesSo_29 : decode cL_areLinesSo 29 = .ok (.invokestatic 42, 3) := by decide +kernel
theorem dL_areLinesSo_32 : decode cL_areLinesSo 32 = .ok (.iload_n 1, 1) := by decide +kernel
theorem dL_areLinesSo_33 : decode cL_areLinesSo 33 = .ok (.if_icmp .le 7, 3) := by decide +kernel
theorem dL_areLinesSo_36 : decode cL_areLinesSo 36 = .ok (.iconst 1, 1) := by decide +kernel
theorem dL_areLinesSo_37 : decode cL_areLinesSo 37 = .ok (.goto 4, 3) := by decide +kernel
theorem dL_areLinesSo_40 : decode cL_areLinesSo 40 = .ok (.iconst 0, 1) := by decide +kernel
theorem dL_areLinesSo_41 : decode cL_areLinesSo 41 = .ok (.istore 9, 2) := by decide +kernel
theorem dL_areLinesSo_43 : decode cL_areLinesSo 43 = .ok (.iload 5, 2) := by decide +kernel
theorem dL_areLinesSo_45 : decode cL_areLinesSo 45 = .ok (.iload 9, 2) := by decide +kernel
theorem dL_areLinesSo_47 : decode cL_areLinesSo 47 = .ok (.ifCond .eq 7, 3) := by decide +kernel
theorem dL_areLinesSo_50 : decode cL_areLinesSo 50 = .ok (.iconst 1, 1) := by decide +kernel
theorem dL_areLinesSo_51 : decode cL_areLinesSo 51 = .ok (.goto 4, 3) := by decide +kernel
theorem dL_areLinesSo_54 : decode cL_areLinesSo 54 = .ok (.iconst 0, 1) := by decide +kernel
theorem dL_areLinesSo_55 : decode cL_areLinesSo 55 = .ok (.iadd, 1) := by decide +kernel
theorem dL_areLinesSo_56 : decode cL_areLinesSo 56 = .ok (.istore 5, 2) := by decide +kernel
theorem dL_areLinesSo_58 : decode cL_areLinesSo 58 = .ok (.iload 6, 2) := by decide +kernel
theorem dL_areLinesSo_60 : decode cL_areLinesSo 60 = .ok (.iload 9, 2) := by decide +kernel
theorem dL_areLinesSo_62 : decode cL_areLinesSo 62 = .ok (.ifCond .eq 14, 3) := by decide +kernel
theorem dL_areLinesSo_65 : decode cL_areLinesSo 65 = .ok (.aload_n 0, 1) := by decide +kernel
theorem dL_areLinesSo_66 : decode cL_areLinesSo 66 = .ok (.iload 8, 2) := by decide +kernel
theorem dL_areLinesSo_68 : decode cL_areLinesSo 68 = .ok (.invokestatic 42, 3) := by decide +kernel
theorem dL_areLinesSo_71 : decode cL_areLinesSo 71 = .ok (.iload_n 1, 1) := by decide +kernel
theorem dL_areLinesSo_72 : decode cL_areLinesSo 72 = .ok (.isub, 1) := by decide +kernel
theorem dL_areLinesSo_73 : decode cL_areLinesSo 73 = .ok (.goto 4, 3) := by decide +kernel
theorem dL_areLinesSo_76 : decode cL_areLinesSo 76 = .ok (.iconst 0, 1) := by decide +kernel
theorem dL_areLinesSo_77 : decode cL_areLinesSo 77 = .ok (.iadd, 1) := by decide +kernel
theorem dL_areLinesSo_78 : decode cL_areLinesSo 78 = .ok (.istore 6, 2) := by decide +kernel
theorem dL_areLinesSo_80 : decode cL_areLinesSo 80 = .ok (.iload 8, 2) := by decide +kernel
theorem dL_areLinesSo_82 : decode cL_areLinesSo 82 = .ok (.bipush 7, 2) := by decide +kernel
theorem dL_areLinesSo_84 : decode cL_areLinesSo 84 = .ok (.irem, 1) := by decide +kernel
theorem dL_areLinesSo_85 : decode cL_areLinesSo 85 = .ok (.bipush 6, 2) := by decide +kernel
theorem dL_areLinesSo_87 : decode cL_areLinesSo 87 = .ok (.if_icmp .ge 50, 3) := by decide +kernel
theorem dL_areLinesSo_90 : decode cL_areLinesSo 90 = .ok (.iload 9, 2) := by decide +kernel
theorem dL_areLinesSo_92 : decode cL_areLinesSo 92 = .ok (.aload_n 0, 1) := by decide +kernel
theorem dL_areLinesSo_93 : decode cL_areLinesSo 93 = .ok (.iload 8, 2) := by decide +kernel
theorem dL_areLinesSo_95 : decode cL_areLinesSo 95 = .ok (.iconst 1, 1) := by decide +kernel
theorem dL_areLinesSo_96 : decode cL_areLinesSo 96 = .ok (.iadd, 1) := by decide +kernel
theorem dL_areLinesSo_97 : decode cL_areLinesSo 97 = .ok (.invokestatic 42, 3) := by decide +kernel
theorem dL_areLinesSo_100 : decode cL_areLinesSo 100 = .ok (.iload_n 1, 1) := by decide +kernel
theorem dL_areLinesSo_101 : decode cL_areLinesSo 101 = .ok (.if_icmp .le 7, 3) := by decide +kernel
theorem dL_areLinesSo_104 : decode cL_areLinesSo 104 = .ok (.iconst 1, 1) := by decide +kernel
theorem dL_areLinesSo_105 : decode cL_areLinesSo 105 = .ok (.goto 4, 3) := by decide +kernel
theorem dL_areLinesSo_108 : decode cL_areLinesSo 108 = .ok (.iconst 0, 1) := by decide +kernel
theorem dL_areLinesSo_109 : decode cL_areLinesSo 109 = .ok (.if_icmp .eq 28, 3) := by decide +kernel
theorem dL_areLinesSo_112 : decode cL_areLinesSo 112 = .ok (.iinc 2 1, 3) := by decide +kernel
theorem dL_areLinesSo_115 : decode cL_areLinesSo 115 = .ok (.iload_n 3, 1) := by decide +kernel
theorem dL_areLinesSo_116 : decode cL_areLinesSo 116 = .ok (.iload 8, 2) := by decide +kernel
theorem dL_areLinesSo_118 : decode cL_areLinesSo 118 = .ok (.bipush 7, 2) := by decide +kernel
theorem dL_areLinesSo_120 : decode cL_areLinesSo 120 = .ok (.if_icmp .lt 10, 3) := by decide +kernel
theorem dL_areLinesSo_123 : decode cL_areLinesSo 123 = .ok (.iload 8, 2) := by decide +kernel
theorem dL_areLinesSo_125 : decode cL_areLinesSo 125 = .ok (.bipush 41, 2) := by decide +kernel
theorem dL_areLinesSo_127 : decode cL_areLinesSo 127 = .ok (.if_icmp .le 7, 3) := by decide +kernel
theorem dL_areLinesSo_130 : decode cL_areLinesSo 130 = .ok (.iconst 1, 1) := by decide +kernel
theorem dL_areLinesSo_131 : decode cL_areLinesSo 131 = .ok (.goto 4, 3) := by decide +kernel
theorem dL_areLinesSo_134 : decode cL_areLinesSo 134 = .ok (.iconst 0, 1) := by decide +kernel
theorem dL_areLinesSo_135 : decode cL_areLinesSo 135 = .ok (.iadd, 1) := by decide +kernel
theorem dL_areLinesSo_136 : decode cL_areLinesSo 136 = .ok (.istore_n 3, 1) := by decide +kernel
theorem dL_areLinesSo_137 : decode cL_areLinesSo 137 = .ok (.iload 8, 2) := by decide +kernel
theorem dL_areLinesSo_139 : decode cL_areLinesSo 139 = .ok (.bipush 42, 2) := by decide +kernel
theorem dL_areLinesSo_141 : decode cL_areLinesSo 141 = .ok (.if_icmp .ge 55, 3) := by decide +kernel
theorem dL_areLinesSo_144 : decode cL_areLinesSo 144 = .ok (.iload 9, 2) := by decide +kernel
theorem dL_areLinesSo_146 : decode cL_areLinesSo 146 = .ok (.aload_n 0, 1) := by decide +kernel
theorem dL_areLinesSo_147 : decode cL_areLinesSo 147 = .ok (.iload 8, 2) := by decide +kernel
theorem dL_areLinesSo_149 : decode cL_areLinesSo 149 = .ok (.bipush 7, 2) := by decide +kernel
theorem dL_areLinesSo_151 : decode cL_areLinesSo 151 = .ok (.iadd, 1) := by decide +kernel
theorem dL_areLinesSo_152 : decode cL_areLinesSo 152 = .ok (.invokestatic 42, 3) := by decide +kernel
theorem dL_areLinesSo_155 : decode cL_areLinesSo 155 = .ok (.iload_n 1, 1) := by decide +kernel
theorem dL_areLinesSo_156 : decode cL_areLinesSo 156 = .ok (.if_icmp .le 7, 3) := by decide +kernel
theorem dL_areLinesSo_159 : decode cL_areLinesSo 159 = .ok (.iconst 1, 1) := by decide +kernel
theorem dL_areLinesSo_160 : decode cL_areLinesSo 160 = .ok (.goto 4, 3) := by decide +kernel
theorem dL_areLinesSo_163 : decode cL_areLinesSo 163 = .ok (.iconst 0, 1) := by decide +kernel
theorem dL_areLinesSo_164 : decode cL_areLinesSo 164 = .ok (.if_icmp .eq 32, 3) := by decide +kernel
theorem dL_areLinesSo_167 : decode cL_areLinesSo 167 = .ok (.iinc 2 1, 3) := by decide +kernel
theorem dL_areLinesSo_170 : decode cL_areLinesSo 170 = .ok (.iload_n 3, 1) := by decide +kernel
theorem dL_areLinesSo_171 : decode cL_areLinesSo 171 = .ok (.iload 8, 2) := by decide +kernel
theorem dL_areLinesSo_173 : decode cL_areLinesSo 173 = .ok (.bipush 7, 2) := by decide +kernel
theorem dL_areLinesSo_175 : decode cL_areLinesSo 175 = .ok (.irem, 1) := by decide +kernel
theorem dL_areLinesSo_176 : decode cL_areLinesSo 176 = .ok (.ifCond .eq 13, 3) := by decide +kernel
theorem dL_areLinesSo_179 : decode cL_areLinesSo 179 = .ok (.iload 8, 2) := by decide +kernel
theorem dL_areLinesSo_181 : decode cL_areLinesSo 181 = .ok (.bipush 7, 2) := by decide +kernel
theorem dL_areLinesSo_183 : decode cL_areLinesSo 183 = .ok (.irem, 1) := by decide +kernel
theorem dL_areLinesSo_184 : decode cL_areLinesSo 184 = .ok (.bipush 6, 2) := by decide +kernel
theorem dL_areLinesSo_186 : decode cL_areLinesSo 186 = .ok (.if_icmp .ne 7, 3) := by decide +kernel
theorem dL_areLinesSo_189 : decode cL_areLinesSo 189 = .ok (.iconst 1, 1) := by decide +kernel
theorem dL_areLinesSo_190 : decode cL_areLinesSo 190 = .ok (.goto 4, 3) := by decide +kernel
theorem dL_areLinesSo_193 : decode cL_areLinesSo 193 = .ok (.iconst 0, 1) := by decide +kernel
theorem dL_areLinesSo_194 : decode cL_areLinesSo 194 = .ok (.iadd, 1) := by decide +kernel
theorem dL_areLinesSo_195 : decode cL_areLinesSo 195 = .ok (.istore_n 3, 1) := by decide +kernel
theorem dL_areLinesSo_196 : decode cL_areLinesSo 196 = .ok (.iload 8, 2) := by decide +kernel
theorem dL_areLinesSo_198 : decode cL_areLinesSo 198 = .ok (.bipush 7, 2) := by decide +kernel
theorem dL_areLinesSo_200 : decode cL_areLinesSo 200 = .ok (.irem, 1) := by decide +kernel
theorem dL_areLinesSo_201 : decode cL_areLinesSo 201 = .ok (.bipush 6, 2) := by decide +kernel
theorem dL_areLinesSo_203 : decode cL_areLinesSo 203 = .ok (.if_icmp .ge 57, 3) := by decide +kernel
theorem dL_areLinesSo_206 : decode cL_areLinesSo 206 = .ok (.iload 8, 2) := by decide +kernel
theorem dL_areLinesSo_208 : decode cL_areLinesSo 208 = .ok (.bipush 42, 2) := by decide +kernel
theorem dL_areLinesSo_210 : decode cL_areLinesSo 210 = .ok (.if_icmp .ge 50, 3) := by decide +kernel
theorem dL_areLinesSo_213 : decode cL_areLinesSo 213 = .ok (.aload_n 0, 1) := by decide +kernel
theorem dL_areLinesSo_214 : decode cL_areLinesSo 214 = .ok (.iload 8, 2) := by decide +kernel
theorem dL_areLinesSo_216 : decode cL_areLinesSo 216 = .ok (.bipush 7, 2) := by decide +kernel
theorem dL_areLinesSo_218 : decode cL_areLinesSo 218 = .ok (.idiv, 1) := by decide +kernel
theorem dL_areLinesSo_219 : decode cL_areLinesSo 219 = .ok (.iload 8, 2) := by decide +kernel
theorem dL_areLinesSo_221 : decode cL_areLinesSo 221 = .ok (.bipush 7, 2) := by decide +kernel
theorem dL_areLinesSo_223 : decode cL_areLinesSo 223 = .ok (.irem, 1) := by decide +kernel
theorem dL_areLinesSo_224 : decode cL_areLinesSo 224 = .ok (.iload_n 1, 1) := by decide +kernel
theorem dL_areLinesSo_225 : decode cL_areLinesSo 225 = .ok (.invokevirtual 74, 3) := by decide +kernel
theorem dL_areLinesSo_228 : decode cL_areLinesSo 228 = .ok (.istore 10, 2) := by decide +kernel
theorem dL_areLinesSo_230 : decode cL_areLinesSo 230 = .ok (.iload 4, 2) := by decide +kernel
theorem dL_areLinesSo_232 : decode cL_areLinesSo 232 = .ok (.iload 10, 2) := by decide +kernel
theorem dL_areLinesSo_234 : decode cL_areLinesSo 234 = .ok (.iadd, 1) := by decide +kernel
theorem dL_areLinesSo_235 : decode cL_areLinesSo 235 = .ok (.istore 4, 2) := by decide +kernel
theorem dL_areLinesSo_237 : decode cL_areLinesSo 237 = .ok (.iload 7, 2) := by decide +kernel
theorem dL_areLinesSo_239 : decode cL_areLinesSo 239 = .ok (.ifCond .eq 18, 3) := by decide +kernel
theorem dL_areLinesSo_242 : decode cL_areLinesSo 242 = .ok (.iload 10, 2) := by decide +kernel
theorem dL_areLinesSo_244 : decode cL_areLinesSo 244 = .ok (.ifCond .lt 13, 3) := by decide +kernel
theorem dL_areLinesSo_247 : decode cL_areLinesSo 247 = .ok (.iload 10, 2) := by decide +kernel
theorem dL_areLinesSo_249 : decode cL_areLinesSo 249 = .ok (.iconst 3, 1) := by decide +kernel
theorem dL_areLinesSo_250 : decode cL_areLinesSo 250 = .ok (.if_icmp .ge 7, 3) := by decide +kernel
theorem dL_areLinesSo_253 : decode cL_areLinesSo 253 = .ok (.iconst 1, 1) := by decide +kernel
theorem dL_areLinesSo_254 : decode cL_areLinesSo 254 = .ok (.goto 4, 3) := by decide +kernel
theorem dL_areLinesSo_257 : decode cL_areLinesSo 257 = .ok (.iconst 0, 1) := by decide +kernel
theorem dL_areLinesSo_258 : decode cL_areLinesSo 258 = .ok (.istore 7, 2) := by decide +kernel
theorem dL_areLinesSo_260 : decode cL_areLinesSo 260 = .ok (.iinc 8 1, 3) := by decide +kernel
theorem dL_areLinesSo_263 : decode cL_areLinesSo 263 = .ok (.goto (-244), 3) := by decide +kernel
theorem dL_areLinesSo_266 : decode cL_areLinesSo 266 = .ok (.aload_n 0, 1) := by decide +kernel
theorem dL_areLinesSo_267 : decode cL_areLinesSo 267 = .ok (.iload_n 1, 1) := by decide +kernel
theorem dL_areLinesSo_268 : decode cL_areLinesSo 268 = .ok (.invokevirtual 68, 3) := by decide +kernel
theorem dL_areLinesSo_271 : decode cL_areLinesSo 271 = .ok (.istore 8, 2) := by decide +kernel
theorem dL_areLinesSo_273 : decode cL_areLinesSo 273 = .ok (.iload 7, 2) := by decide +kernel
theorem dL_areLinesSo_275 : decode cL_areLinesSo 275 = .ok (.ifCond .eq 57, 3) := by decide +kernel
theorem dL_areLinesSo_278 : decode cL_areLinesSo 278 = .ok (.aload_n 0, 1) := by decide +kernel
theorem dL_areLinesSo_279 : decode cL_areLinesSo 279 = .ok (.iload_n 1, 1) := by decide +kernel
theorem dL_areLinesSo_280 : decode cL_areLinesSo 280 = .ok (.invokevirtual 65, 3) := by decide +kernel
theorem dL_areLinesSo_283 : decode cL_areLinesSo 283 = .ok (.iload_n 2, 1) := by decide +kernel
theorem dL_areLinesSo_284 : decode cL_areLinesSo 284 = .ok (.if_icmp .ne 48, 3) := by decide +kernel
theorem dL_areLinesSo_287 : decode cL_areLinesSo 287 = .ok (.aload_n 0, 1) := by decide +kernel
theorem dL_areLinesSo_288 : decode cL_areLinesSo 288 = .ok (.iload_n 1, 1) := by decide +kernel
theorem dL_areLinesSo_289 : decode cL_areLinesSo 289 = .ok (.invokevirtual 77, 3) := by decide +kernel
theorem dL_areLinesSo_292 : decode cL_areLinesSo 292 = .ok (.iload_n 2, 1) := by decide +kernel
theorem dL_areLinesSo_293 : decode cL_areLinesSo 293 = .ok (.if_icmp .ne 39, 3) := by decide +kernel
theorem dL_areLinesSo_296 : decode cL_areLinesSo 296 = .ok (.iconst 2, 1) := by decide +kernel
theorem dL_areLinesSo_297 : decode cL_areLinesSo 297 = .ok (.iload 4, 2) := by decide +kernel
theorem dL_areLinesSo_299 : decode cL_areLinesSo 299 = .ok (.imul, 1) := by decide +kernel
theorem dL_areLinesSo_300 : decode cL_areLinesSo 300 = .ok (.iload_n 3, 1) := by decide +kernel
theorem dL_areLinesSo_301 : decode cL_areLinesSo 301 = .ok (.iadd, 1) := by decide +kernel
theorem dL_areLinesSo_302 : decode cL_areLinesSo 302 = .ok (.iconst 2, 1) := by decide +kernel
theorem dL_areLinesSo_303 : decode cL_areLinesSo 303 = .ok (.iload_n 2, 1) := by decide +kernel
theorem dL_areLinesSo_304 : decode cL_areLinesSo 304 = .ok (.imul, 1) := by decide +kernel
theorem dL_areLinesSo_305 : decode cL_areLinesSo 305 = .ok (.if_icmp .ne 27, 3) := by decide +kernel
theorem dL_areLinesSo_308 : decode cL_areLinesSo 308 = .ok (.aload_n 0, 1) := by decide +kernel
theorem dL_areLinesSo_309 : decode cL_areLinesSo 309 = .ok (.iload_n 1, 1) := by decide +kernel
theorem dL_areLinesSo_310 : decode cL_areLinesSo 310 = .ok (.invokevirtual 80, 3) := by decide +kernel
theorem dL_areLinesSo_313 : decode cL_areLinesSo 313 = .ok (.iload 5, 2) := by decide +kernel
theorem dL_areLinesSo_315 : decode cL_areLinesSo 315 = .ok (.if_icmp .ne 17, 3) := by decide +kernel
theorem dL_areLinesSo_318 : decode cL_areLinesSo 318 = .ok (.aload_n 0, 1) := by decide +kernel
theorem dL_areLinesSo_319 : decode cL_areLinesSo 319 = .ok (.iload_n 1, 1) := by decide +kernel
theorem dL_areLinesSo_320 : decode cL_areLinesSo 320 = .ok (.invokevirtual 83, 3) := by decide +kernel
theorem dL_areLinesSo_323 : decode cL_areLinesSo 323 = .ok (.iload 6, 2) := by decide +kernel
theorem dL_areLinesSo_325 : decode cL_areLinesSo 325 = .ok (.if_icmp .ne 7, 3) := by decide +kernel
theorem dL_areLinesSo_328 : decode cL_areLinesSo 328 = .ok (.iconst 1, 1) := by decide +kernel
theorem dL_areLinesSo_329 : decode cL_areLinesSo 329 = .ok (.goto 4, 3) := by decide +kernel
theorem dL_areLinesSo_332 : decode cL_areLinesSo 332 = .ok (.iconst 0, 1) := by decide +kernel
theorem dL_areLinesSo_333 : decode cL_areLinesSo 333 = .ok (.istore 7, 2) := by decide +kernel
theorem dL_areLinesSo_335 : decode cL_areLinesSo 335 = .ok (.iload 7, 2) := by decide +kernel
theorem dL_areLinesSo_337 : decode cL_areLinesSo 337 = .ok (.ifCond .eq 49, 3) := by decide +kernel
theorem dL_areLinesSo_340 : decode cL_areLinesSo 340 = .ok (.aload_n 0, 1) := by decide +kernel
theorem dL_areLinesSo_341 : decode cL_areLinesSo 341 = .ok (.iload_n 1, 1) := by decide +kernel
theorem dL_areLinesSo_342 : decode cL_areLinesSo 342 = .ok (.invokevirtual 86, 3) := by decide +kernel
theorem dL_areLinesSo_345 : decode cL_areLinesSo 345 = .ok (.iload 8, 2) := by decide +kernel
theorem dL_areLinesSo_347 : decode cL_areLinesSo 347 = .ok (.if_icmp .ne 39, 3) := by decide +kernel
theorem dL_areLinesSo_350 : decode cL_areLinesSo 350 = .ok (.aload_n 0, 1) := by decide +kernel
theorem dL_areLinesSo_351 : decode cL_areLinesSo 351 = .ok (.iload_n 1, 1) := by decide +kernel
theorem dL_areLinesSo_352 : decode cL_areLinesSo 352 = .ok (.invokevirtual 89, 3) := by decide +kernel
theorem dL_areLinesSo_355 : decode cL_areLinesSo 355 = .ok (.aload_n 0, 1) := by decide +kernel
theorem dL_areLinesSo_356 : decode cL_areLinesSo 356 = .ok (.iload_n 1, 1) := by decide +kernel
theorem dL_areLinesSo_357 : decode cL_areLinesSo 357 = .ok (.invokevirtual 92, 3) := by decide +kernel
theorem dL_areLinesSo_360 : decode cL_areLinesSo 360 = .ok (.iadd, 1) := by decide +kernel
theorem dL_areLinesSo_361 : decode cL_areLinesSo 361 = .ok (.iload 8, 2) := by decide +kernel
theorem dL_areLinesSo_363 : decode cL_areLinesSo 363 = .ok (.iconst 1, 1) := by decide +kernel
theorem dL_areLinesSo_364 : decode cL_areLinesSo 364 = .ok (.iadd, 1) := by decide +kernel
theorem dL_areLinesSo_365 : decode cL_areLinesSo 365 = .ok (.if_icmp .ne 21, 3) := by decide +kernel
theorem dL_areLinesSo_368 : decode cL_areLinesSo 368 = .ok (.aload_n 0, 1) := by decide +kernel
theorem dL_areLinesSo_369 : decode cL_areLinesSo 369 = .ok (.iload_n 1, 1) := by decide +kernel
theorem dL_areLinesSo_370 : decode cL_areLinesSo 370 = .ok (.invokevirtual 95, 3) := by decide +kernel
theorem dL_areLinesSo_373 : decode cL_areLinesSo 373 = .ok (.iload 8, 2) := by decide +kernel
theorem dL_areLinesSo_375 : decode cL_areLinesSo 375 = .ok (.iload_n 3, 1) := by decide +kernel
theorem dL_areLinesSo_376 : decode cL_areLinesSo 376 = .ok (.iconst 2, 1) := by decide +kernel
theorem dL_areLinesSo_377 : decode cL_areLinesSo 377 = .ok (.idiv, 1) := by decide +kernel
theorem dL_areLinesSo_378 : decode cL_areLinesSo 378 = .ok (.isub, 1) := by decide +kernel
theorem dL_areLinesSo_379 : decode cL_areLinesSo 379 = .ok (.if_icmp .ne 7, 3) := by decide +kernel
theorem dL_areLinesSo_382 : decode cL_areLinesSo 382 = .ok (.iconst 1, 1) := by decide +kernel
theorem dL_areLinesSo_383 : decode cL_areLinesSo 383 = .ok (.goto 4, 3) := by decide +kernel
theorem dL_areLinesSo_386 : decode cL_areLinesSo 386 = .ok (.iconst 0, 1) := by decide +kernel
theorem dL_areLinesSo_387 : decode cL_areLinesSo 387 = .ok (.istore 7, 2) := by decide +kernel
theorem dL_areLinesSo_389 : decode cL_areLinesSo 389 = .ok (.iload 7, 2) := by decide +kernel
theorem dL_areLinesSo_391 : decode cL_areLinesSo 391 = .ok (.ifCond .eq 86, 3) := by decide +kernel
theorem dL_areLinesSo_394 : decode cL_areLinesSo 394 = .ok (.aload_n 0, 1) := by decide +kernel
theorem dL_areLinesSo_395 : decode cL_areLinesSo 395 = .ok (.iload_n 1, 1) := by decide +kernel
theorem dL_areLinesSo_396 : decode cL_areLinesSo 396 = .ok (.invokevirtual 98, 3) := by decide +kernel
theorem dL_areLinesSo_399 : decode cL_areLinesSo 399 = .ok (.iload 4, 2) := by decide +kernel
theorem dL_areLinesSo_401 : decode cL_areLinesSo 401 = .ok (.if_icmp .gt 76, 3) := by decide +kernel
theorem dL_areLinesSo_404 : decode cL_areLinesSo 404 = .ok (.aload_n 0, 1) := by decide +kernel
theorem dL_areLinesSo_405 : decode cL_areLinesSo 405 = .ok (.iload_n 1, 1) := by decide +kernel
theorem dL_areLinesSo_406 : decode cL_areLinesSo 406 = .ok (.invokevirtual 98, 3) := by decide +kernel
theorem dL_areLinesSo_409 : decode cL_areLinesSo 409 = .ok (.ifCond .ne 7, 3) := by decide +kernel
theorem dL_areLinesSo_412 : decode cL_areLinesSo 412 = .ok (.iconst 1, 1) := by decide +kernel
theorem dL_areLinesSo_413 : decode cL_areLinesSo 413 = .ok (.goto 4, 3) := by decide +kernel
theorem dL_areLinesSo_416 : decode cL_areLinesSo 416 = .ok (.iconst 0, 1) := by decide +kernel
theorem dL_areLinesSo_417 : decode cL_areLinesSo 417 = .ok (.iload 8, 2) := by decide +kernel
theorem dL_areLinesSo_419 : decode cL_areLinesSo 419 = .ok (.ifCond .ne 7, 3) := by decide +kernel
theorem dL_areLinesSo_422 : decode cL_areLinesSo 422 = .ok (.iconst 1, 1) := by decide +kernel
theorem dL_areLinesSo_423 : decode cL_areLinesSo 423 = .ok (.goto 4, 3) := by decide +kernel
theorem dL_areLinesSo_426 : decode cL_areLinesSo 426 = .ok (.iconst 0, 1) := by decide +kernel
theorem dL_areLinesSo_427 : decode cL_areLinesSo 427 = .ok (.if_icmp .ne 50, 3) := by decide +kernel
theorem dL_areLinesSo_430 : decode cL_areLinesSo 430 = .ok (.aload_n 0, 1) := by decide +kernel
theorem dL_areLinesSo_431 : decode cL_areLinesSo 431 = .ok (.iload_n 1, 1) := by decide +kernel
theorem dL_areLinesSo_432 : decode cL_areLinesSo 432 = .ok (.invokevirtual 98, 3) := by decide +kernel
theorem dL_areLinesSo_435 : decode cL_areLinesSo 435 = .ok (.iload 8, 2) := by decide +kernel
theorem dL_areLinesSo_437 : decode cL_areLinesSo 437 = .ok (.imul, 1) := by decide +kernel
theorem dL_areLinesSo_438 : decode cL_areLinesSo 438 = .ok (.iload 4, 2) := by decide +kernel
theorem dL_areLinesSo_440 : decode cL_areLinesSo 440 = .ok (.if_icmp .lt 37, 3) := by decide +kernel
theorem dL_areLinesSo_443 : decode cL_areLinesSo 443 = .ok (.iload 8, 2) := by decide +kernel
theorem dL_areLinesSo_445 : decode cL_areLinesSo 445 = .ok (.ifCond .ne 7, 3) := by decide +kernel
theorem dL_areLinesSo_448 : decode cL_areLinesSo 448 = .ok (.iconst 1, 1) := by decide +kernel
theorem dL_areLinesSo_449 : decode cL_areLinesSo 449 = .ok (.goto 4, 3) := by decide +kernel
theorem dL_areLinesSo_452 : decode cL_areLinesSo 452 = .ok (.iconst 0, 1) := by decide +kernel
theorem dL_areLinesSo_453 : decode cL_areLinesSo 453 = .ok (.iload 5, 2) := by decide +kernel
theorem dL_areLinesSo_455 : decode cL_areLinesSo 455 = .ok (.ifCond .eq 10, 3) := by decide +kernel
theorem dL_areLinesSo_458 : decode cL_areLinesSo 458 = .ok (.iload 5, 2) := by decide +kernel
theorem dL_areLinesSo_460 : decode cL_areLinesSo 460 = .ok (.bipush 49, 2) := by decide +kernel
theorem dL_areLinesSo_462 : decode cL_areLinesSo 462 = .ok (.if_icmp .ne 7, 3) := by decide +kernel
theorem dL_areLinesSo_465 : decode cL_areLinesSo 465 = .ok (.iconst 1, 1) := by decide +kernel
theorem dL_areLinesSo_466 : decode cL_areLinesSo 466 = .ok (.goto 4, 3) := by decide +kernel
theorem dL_areLinesSo_469 : decode cL_areLinesSo 469 = .ok (.iconst 0, 1) := by decide +kernel
theorem dL_areLinesSo_470 : decode cL_areLinesSo 470 = .ok (.if_icmp .ne 7, 3) := by decide +kernel
theorem dL_areLinesSo_473 : decode cL_areLinesSo 473 = .ok (.iconst 1, 1) := by decide +kernel
theorem dL_areLinesSo_474 : decode cL_areLinesSo 474 = .ok (.goto 4, 3) := by decide +kernel
theorem dL_areLinesSo_477 : decode cL_areLinesSo 477 = .ok (.iconst 0, 1) := by decide +kernel
theorem dL_areLinesSo_478 : decode cL_areLinesSo 478 = .ok (.ireturn, 1) := by decide +kernel
theorem dL_isPointSo_0 : decode cL_isPointSo 0 = .ok (.iload_n 1, 1) := by decide +kernel
theorem dL_isPointSo_1 : decode cL_isPointSo 1 = .ok (.bipush 7, 2) := by decide +kernel
theorem dL_isPointSo_3 : decode cL_isPointSo 3 = .ok (.idiv, 1) := by decide +kernel
theorem dL_isPointSo_4 : decode cL_isPointSo 4 = .ok (.istore_n 2, 1) := by decide +kernel
theorem dL_isPointSo_5 : decode cL_isPointSo 5 = .ok (.iload_n 1, 1) := by decide +kernel
theorem dL_isPointSo_6 : decode cL_isPointSo 6 = .ok (.bipush 7, 2) := by decide +kernel
theorem dL_isPointSo_8 : decode cL_isPointSo 8 = .ok (.irem, 1) := by decide +kernel
theorem dL_isPointSo_9 : decode cL_isPointSo 9 = .ok (.istore_n 3, 1) := by decide +kernel
theorem dL_isPointSo_10 : decode cL_isPointSo 10 = .ok (.aload_n 0, 1) := by decide +kernel
theorem dL_isPointSo_11 : decode cL_isPointSo 11 = .ok (.iload_n 2, 1) := by decide +kernel
theorem dL_isPointSo_12 : decode cL_isPointSo 12 = .ok (.iload_n 3, 1) := by decide +kernel
theorem dL_isPointSo_13 : decode cL_isPointSo 13 = .ok (.invokevirtual 52, 3) := by decide +kernel
theorem dL_isPointSo_16 : decode cL_isPointSo 16 = .ok (.istore 4, 2) := by decide +kernel
theorem dL_isPointSo_18 : decode cL_isPointSo 18 = .ok (.aload_n 0, 1) := by decide +kernel
theorem dL_isPointSo_19 : decode cL_isPointSo 19 = .ok (.iload_n 2, 1) := by decide +kernel
theorem dL_isPointSo_20 : decode cL_isPointSo 20 = .ok (.iload_n 3, 1) := by decide +kernel
theorem dL_isPointSo_21 : decode cL_isPointSo 21 = .ok (.invokevirtual 101, 3) := by decide +kernel
theorem dL_isPointSo_24 : decode cL_isPointSo 24 = .ok (.istore 5, 2) := by decide +kernel
theorem dL_isPointSo_26 : decode cL_isPointSo 26 = .ok (.aload_n 0, 1) := by decide +kernel
theorem dL_isPointSo_27 : decode cL_isPointSo 27 = .ok (.iload_n 2, 1) := by decide +kernel
theorem dL_isPointSo_28 : decode cL_isPointSo 28 = .ok (.iload_n 3, 1) := by decide +kernel
theorem dL_isPointSo_29 : decode cL_isPointSo 29 = .ok (.invokevirtual 104, 3) := by decide +kernel
theorem dL_isPointSo_32 : decode cL_isPointSo 32 = .ok (.istore 6, 2) := by decide +kernel
theorem dL_isPointSo_34 : decode cL_isPointSo 34 = .ok (.aload_n 0, 1) := by decide +kernel
theorem dL_isPointSo_35 : decode cL_isPointSo 35 = .ok (.iload_n 2, 1) := by decide +kernel
theorem dL_isPointSo_36 : decode cL_isPointSo 36 = .ok (.iload_n 3, 1) := by decide +kernel
theorem dL_isPointSo_37 : decode cL_isPointSo 37 = .ok (.invokevirtual 107, 3) := by decide +kernel
theorem dL_isPointSo_40 : decode cL_isPointSo 40 = .ok (.iload 4, 2) := by decide +kernel
theorem dL_isPointSo_42 : decode cL_isPointSo 42 = .ok (.ifCond .ne 7, 3) := by decide +kernel
theorem dL_isPointSo_45 : decode cL_isPointSo 45 = .ok (.iconst 1, 1) := by decide +kernel
theorem dL_isPointSo_46 : decode cL_isPointSo 46 = .ok (.goto 4, 3) := by decide +kernel
theorem dL_isPointSo_49 : decode cL_isPointSo 49 = .ok (.iconst 0, 1) := by decide +kernel
theorem dL_isPointSo_50 : decode cL_isPointSo 50 = .ok (.if_icmp .ne 116, 3) := by decide +kernel
theorem dL_isPointSo_53 : decode cL_isPointSo 53 = .ok (.aload_n 0, 1) := by decide +kernel
theorem dL_isPointSo_54 : decode cL_isPointSo 54 = .ok (.iload 5, 2) := by decide +kernel
theorem dL_isPointSo_56 : decode cL_isPointSo 56 = .ok (.bipush 7, 2) := by decide +kernel
theorem dL_isPointSo_58 : decode cL_isPointSo 58 = .ok (.idiv, 1) := by decide +kernel
theorem dL_isPointSo_59 : decode cL_isPointSo 59 = .ok (.iload 5, 2) := by decide +kernel
theorem dL_isPointSo_61 : decode cL_isPointSo 61 = .ok (.bipush 7, 2) := by decide +kernel
theorem dL_isPointSo_63 : decode cL_isPointSo 63 = .ok (.irem, 1) := by decide +kernel
theorem dL_isPointSo_64 : decode cL_isPointSo 64 = .ok (.invokevirtual 107, 3) := by decide +kernel
theorem dL_isPointSo_67 : decode cL_isPointSo 67 = .ok (.ifCond .eq 99, 3) := by decide +kernel
theorem dL_isPointSo_70 : decode cL_isPointSo 70 = .ok (.aload_n 0, 1) := by decide +kernel
theorem dL_isPointSo_71 : decode cL_isPointSo 71 = .ok (.iload 5, 2) := by decide +kernel
theorem dL_isPointSo_73 : decode cL_isPointSo 73 = .ok (.invokestatic 42, 3) := by decide +kernel
theorem dL_isPointSo_76 : decode cL_isPointSo 76 = .ok (.aload_n 0, 1) := by decide +kernel
theorem dL_isPointSo_77 : decode cL_isPointSo 77 = .ok (.iload_n 1, 1) := by decide +kernel
theorem dL_isPointSo_78 : decode cL_isPointSo 78 = .ok (.invokestatic 42, 3) := by decide +kernel
theorem dL_isPointSo_81 : decode cL_isPointSo 81 = .ok (.if_icmp .gt 85, 3) := by decide +kernel
theorem dL_isPointSo_84 : decode cL_isPointSo 84 = .ok (.aload_n 0, 1) := by decide +kernel
theorem dL_isPointSo_85 : decode cL_isPointSo 85 = .ok (.iload_n 2, 1) := by decide +kernel
theorem dL_isPointSo_86 : decode cL_isPointSo 86 = .ok (.iload_n 3, 1) := by decide +kernel
theorem dL_isPointSo_87 : decode cL_isPointSo 87 = .ok (.invokevirtual 111, 3) := by decide +kernel
theorem dL_isPointSo_90 : decode cL_isPointSo 90 = .ok (.ifCond .ne 7, 3) := by decide +kernel
theorem dL_isPointSo_93 : decode cL_isPointSo 93 = .ok (.iconst 1, 1) := by decide +kernel
theorem dL_isPointSo_94 : decode cL_isPointSo 94 = .ok (.goto 4, 3) := by decide +kernel
theorem dL_isPointSo_97 : decode cL_isPointSo 97 = .ok (.iconst 0, 1) := by decide +kernel
theorem dL_isPointSo_98 : decode cL_isPointSo 98 = .ok (.iload 4, 2) := by decide +kernel
theorem dL_isPointSo_100 : decode cL_isPointSo 100 = .ok (.ifCond .ne 7, 3) := by decide +kernel
theorem dL_isPointSo_103 : decode cL_isPointSo 103 = .ok (.iconst 1, 1) := by decide +kernel
theorem dL_isPointSo_104 : decode cL_isPointSo 104 = .ok (.goto 4, 3) := by decide +kernel
theorem dL_isPointSo_107 : decode cL_isPointSo 107 = .ok (.iconst 0, 1) := by decide +kernel
theorem dL_isPointSo_108 : decode cL_isPointSo 108 = .ok (.if_icmp .ne 58, 3) := by decide +kernel
theorem dL_isPointSo_111 : decode cL_isPointSo 111 = .ok (.aload_n 0, 1) := by decide +kernel
theorem dL_isPointSo_112 : decode cL_isPointSo 112 = .ok (.iload_n 2, 1) := by decide +kernel
theorem dL_isPointSo_113 : decode cL_isPointSo 113 = .ok (.iload_n 3, 1) := by decide +kernel
theorem dL_isPointSo_114 : decode cL_isPointSo 114 = .ok (.invokevirtual 114, 3) := by decide +kernel
theorem dL_isPointSo_117 : decode cL_isPointSo 117 = .ok (.aload_n 0, 1) := by decide +kernel
theorem dL_isPointSo_118 : decode cL_isPointSo 118 = .ok (.iload_n 2, 1) := by decide +kernel
theorem dL_isPointSo_119 : decode cL_isPointSo 119 = .ok (.iload_n 3, 1) := by decide +kernel
theorem dL_isPointSo_120 : decode cL_isPointSo 120 = .ok (.invokevirtual 117, 3) := by decide +kernel
theorem dL_isPointSo_123 : decode cL_isPointSo 123 = .ok (.if_icmp .ne 43, 3) := by decide +kernel
theorem dL_isPointSo_126 : decode cL_isPointSo 126 = .ok (.aload_n 0, 1) := by decide +kernel
theorem dL_isPointSo_127 : decode cL_isPointSo 127 = .ok (.iload_n 2, 1) := by decide +kernel
theorem dL_isPointSo_128 : decode cL_isPointSo 128 = .ok (.iload_n 3, 1) := by decide +kernel
theorem dL_isPointSo_129 : decode cL_isPointSo 129 = .ok (.invokevirtual 114, 3) := by decide +kernel
theorem dL_isPointSo_132 : decode cL_isPointSo 132 = .ok (.ifCond .ne 7, 3) := by decide +kernel
theorem dL_isPointSo_135 : decode cL_isPointSo 135 = .ok (.iconst 1, 1) := by decide +kernel
theorem dL_isPointSo_136 : decode cL_isPointSo 136 = .ok (.goto 4, 3) := by decide +kernel
theorem dL_isPointSo_139 : decode cL_isPointSo 139 = .ok (.iconst 0, 1) := by decide +kernel
theorem dL_isPointSo_140 : decode cL_isPointSo 140 = .ok (.iload 4, 2) := by decide +kernel
theorem dL_isPointSo_142 : decode cL_isPointSo 142 = .ok (.ifCond .le 7, 3) := by decide +kernel
theorem dL_isPointSo_145 : decode cL_isPointSo 145 = .ok (.iconst 1, 1) := by decide +kernel
theorem dL_isPointSo_146 : decode cL_isPointSo 146 = .ok (.goto 4, 3) := by decide +kernel
theorem dL_isPointSo_149 : decode cL_isPointSo 149 = .ok (.iconst 0, 1) := by decide +kernel
theorem dL_isPointSo_150 : decode cL_isPointSo 150 = .ok (.if_icmp .ne 16, 3) := by decide +kernel
theorem dL_isPointSo_153 : decode cL_isPointSo 153 = .ok (.aload_n 0, 1) := by decide +kernel
theorem dL_isPointSo_154 : decode cL_isPointSo 154 = .ok (.iload_n 2, 1) := by decide +kernel
theorem dL_isPointSo_155 : decode cL_isPointSo 155 = .ok (.iload_n 3, 1) := by decide +kernel
theorem dL_isPointSo_156 : decode cL_isPointSo 156 = .ok (.invokevirtual 120, 3) := by decide +kernel
theorem dL_isPointSo_159 : decode cL_isPointSo 159 = .ok (.ifCond .le 7, 3) := by decide +kernel
theorem dL_isPointSo_162 : decode cL_isPointSo 162 = .ok (.iconst 1, 1) := by decide +kernel
theorem dL_isPointSo_163 : decode cL_isPointSo 163 = .ok (.goto 4, 3) := by decide +kernel
theorem dL_isPointSo_166 : decode cL_isPointSo 166 = .ok (.iconst 0, 1) := by decide +kernel
theorem dL_isPointSo_167 : decode cL_isPointSo 167 = .ok (.istore 7, 2) := by decide +kernel
theorem dL_isPointSo_169 : decode cL_isPointSo 169 = .ok (.iload 4, 2) := by decide +kernel
theorem dL_isPointSo_171 : decode cL_isPointSo 171 = .ok (.ifCond .le 152, 3) := by decide +kernel
theorem dL_isPointSo_174 : decode cL_isPointSo 174 = .ok (.aload_n 0, 1) := by decide +kernel
theorem dL_isPointSo_175 : decode cL_isPointSo 175 = .ok (.iload_n 2, 1) := by decide +kernel
theorem dL_isPointSo_176 : decode cL_isPointSo 176 = .ok (.iload_n 3, 1) := by decide +kernel
theorem dL_isPointSo_177 : decode cL_isPointSo 177 = .ok (.invokevirtual 123, 3) := by decide +kernel
theorem dL_isPointSo_180 : decode cL_isPointSo 180 = .ok (.istore 8, 2) := by decide +kernel
theorem dL_isPointSo_182 : decode cL_isPointSo 182 = .ok (.iload 8, 2) := by decide +kernel
theorem dL_isPointSo_184 : decode cL_isPointSo 184 = .ok (.iload_n 1, 1) := by decide +kernel
theorem dL_isPointSo_185 : decode cL_isPointSo 185 = .ok (.isub, 1) := by decide +kernel
theorem dL_isPointSo_186 : decode cL_isPointSo 186 = .ok (.istore 9, 2) := by decide +kernel
theorem dL_isPointSo_188 : decode cL_isPointSo 188 = .ok (.iload 7, 2) := by decide +kernel
theorem dL_isPointSo_190 : decode cL_isPointSo 190 = .ok (.ifCond .eq 127, 3) := by decide +kernel
theorem dL_isPointSo_193 : decode cL_isPointSo 193 = .ok (.aload_n 0, 1) := by decide +kernel
theorem dL_isPointSo_194 : decode cL_isPointSo 194 = .ok (.iload 8, 2) := by decide +kernel
theorem dL_isPointSo_196 : decode cL_isPointSo 196 = .ok (.invokestatic 42, 3) := by decide +kernel
theorem dL_isPointSo_199 : decode cL_isPointSo 199 = .ok (.aload_n 0, 1) := by decide +kernel
theorem dL_isPointSo_200 : decode cL_isPointSo 200 = .ok (.iload_n 1, 1) := by decide +kernel
theorem dL_isPointSo_201 : decode cL_isPointSo 201 = .ok (.invokestatic 42, 3) := by decide +kernel
theorem dL_isPointSo_204 : decode cL_isPointSo 204 = .ok (.iload 4, 2) := by decide +kernel
theorem dL_isPointSo_206 : decode cL_isPointSo 206 = .ok (.isub, 1) := by decide +kernel
theorem dL_isPointSo_207 : decode cL_isPointSo 207 = .ok (.if_icmp .ne 110, 3) := by decide +kernel
theorem dL_isPointSo_210 : decode cL_isPointSo 210 = .ok (.iload 9, 2) := by decide +kernel
theorem dL_isPointSo_212 : decode cL_isPointSo 212 = .ok (.bipush 7, 2) := by decide +kernel
theorem dL_isPointSo_214 : decode cL_isPointSo 214 = .ok (.if_icmp .eq 32, 3) := by decide +kernel
theorem dL_isPointSo_217 : decode cL_isPointSo 217 = .ok (.iload 9, 2) := by decide +kernel
theorem dL_isPointSo_219 : decode cL_isPointSo 219 = .ok (.bipush (-7), 2) := by decide +kernel
theorem dL_isPointSo_221 : decode cL_isPointSo 221 = .ok (.if_icmp .eq 25, 3) := by decide +kernel
theorem dL_isPointSo_224 : decode cL_isPointSo 224 = .ok (.iload 9, 2) := by decide +kernel
theorem dL_isPointSo_226 : decode cL_isPointSo 226 = .ok (.iconst 1, 1) := by decide +kernel
theorem dL_isPointSo_227 : decode cL_isPointSo 227 = .ok (.if_icmp .ne 9, 3) := by decide +kernel
theorem dL_isPointSo_230 : decode cL_isPointSo 230 = .ok (.iload_n 3, 1) := by decide +kernel
theorem dL_isPointSo_231 : decode cL_isPointSo 231 = .ok (.bipush 6, 2) := by decide +kernel
theorem dL_isPointSo_233 : decode cL_isPointSo 233 = .ok (.if_icmp .lt 13, 3) := by decide +kernel
theorem dL_isPointSo_236 : decode cL_isPointSo 236 = .ok (.iload 9, 2) := by decide +kernel
theorem dL_isPointSo_238 : decode cL_isPointSo 238 = .ok (.iconst (-1), 1) := by decide +kernel
theorem dL_isPointSo_239 : decode cL_isPointSo 239 = .ok (.if_icmp .ne 78, 3) := by decide +kernel
theorem dL_isPointSo_242 : decode cL_isPointSo 242 = .ok (.iload_n 3, 1) := by decide +kernel
theorem dL_isPointSo_243 : decode cL_isPointSo 243 = .ok (.ifCond .le 74, 3) := by decide +kernel
theorem dL_isPointSo_246 : decode cL_isPointSo 246 = .ok (.aload_n 0, 1) := by decide +kernel
theorem dL_isPointSo_247 : decode cL_isPointSo 247 = .ok (.iload_n 2, 1) := by decide +kernel
theorem dL_isPointSo_248 : decode cL_isPointSo 248 = .ok (.iload_n 3, 1) := by decide +kernel
theorem dL_isPointSo_249 : decode cL_isPointSo 249 = .ok (.invokevirtual 111, 3) := by decide +kernel
theorem dL_isPointSo_252 : decode cL_isPointSo 252 = .ok (.iconst 1, 1) := by decide +kernel
theorem dL_isPointSo_253 : decode cL_isPointSo 253 = .ok (.aload_n 0, 1) := by decide +kernel
theorem dL_isPointSo_254 : decode cL_isPointSo 254 = .ok (.iload 8, 2) := by decide +kernel
theorem dL_isPointSo_256 : decode cL_isPointSo 256 = .ok (.bipush 7, 2) := by decide +kernel
theorem dL_isPointSo_258 : decode cL_isPointSo 258 = .ok (.idiv, 1) := by decide +kernel
theorem dL_isPointSo_259 : decode cL_isPointSo 259 = .ok (.iload 8, 2) := by decide +kernel
theorem dL_isPointSo_261 : decode cL_isPointSo 261 = .ok (.bipush 7, 2) := by decide +kernel
theorem dL_isPointSo_263 : decode cL_isPointSo 263 = .ok (.irem, 1) := by decide +kernel
theorem dL_isPointSo_264 : decode cL_isPointSo 264 = .ok (.invokevirtual 111, 3) := by decide +kernel
theorem dL_isPointSo_267 : decode cL_isPointSo 267 = .ok (.iadd, 1) := by decide +kernel
theorem dL_isPointSo_268 : decode cL_isPointSo 268 = .ok (.if_icmp .ne 49, 3) := by decide +kernel
theorem dL_isPointSo_271 : decode cL_isPointSo 271 = .ok (.aload_n 0, 1) := by decide +kernel
theorem dL_isPointSo_272 : decode cL_isPointSo 272 = .ok (.iload 8, 2) := by decide +kernel
theorem dL_isPointSo_274 : decode cL_isPointSo 274 = .ok (.bipush 7, 2) := by decide +kernel
theorem dL_isPointSo_276 : decode cL_isPointSo 276 = .ok (.idiv, 1) := by decide +kernel
theorem dL_isPointSo_277 : decode cL_isPointSo 277 = .ok (.iload 8, 2) := by decide +kernel
theorem dL_isPointSo_279 : decode cL_isPointSo 279 = .ok (.bipush 7, 2) := by decide +kernel
theorem dL_isPointSo_281 : decode cL_isPointSo 281 = .ok (.irem, 1) := by decide +kernel
theorem dL_isPointSo_282 : decode cL_isPointSo 282 = .ok (.invokevirtual 101, 3) := by decide +kernel
theorem dL_isPointSo_285 : decode cL_isPointSo 285 = .ok (.iload 5, 2) := by decide +kernel
theorem dL_isPointSo_287 : decode cL_isPointSo 287 = .ok (.if_icmp .ne 30, 3) := by decide +kernel
theorem dL_isPointSo_290 : decode cL_isPointSo 290 = .ok (.aload_n 0, 1) := by decide +kernel
theorem dL_isPointSo_291 : decode cL_isPointSo 291 = .ok (.iload 8, 2) := by decide +kernel
theorem dL_isPointSo_293 : decode cL_isPointSo 293 = .ok (.bipush 7, 2) := by decide +kernel
theorem dL_isPointSo_295 : decode cL_isPointSo 295 = .ok (.idiv, 1) := by decide +kernel
theorem dL_isPointSo_296 : decode cL_isPointSo 296 = .ok (.iload 8, 2) := by decide +kernel
theorem dL_isPointSo_298 : decode cL_isPointSo 298 = .ok (.bipush 7, 2) := by decide +kernel
theorem dL_isPointSo_300 : decode cL_isPointSo 300 = .ok (.irem, 1) := by decide +kernel
theorem dL_isPointSo_301 : decode cL_isPointSo 301 = .ok (.invokevirtual 120, 3) := by decide +kernel
theorem dL_isPointSo_304 : decode cL_isPointSo 304 = .ok (.aload_n 0, 1) := by decide +kernel
theorem dL_isPointSo_305 : decode cL_isPointSo 305 = .ok (.iload_n 2, 1) := by decide +kernel
theorem dL_isPointSo_306 : decode cL_isPointSo 306 = .ok (.iload_n 3, 1) := by decide +kernel
theorem dL_isPointSo_307 : decode cL_isPointSo 307 = .ok (.invokevirtual 120, 3) := by decide +kernel
theorem dL_isPointSo_310 : decode cL_isPointSo 310 = .ok (.if_icmp .le 7, 3) := by decide +kernel
theorem dL_isPointSo_313 : decode cL_isPointSo 313 = .ok (.iconst 1, 1) := by decide +kernel
theorem dL_isPointSo_314 : decode cL_isPointSo 314 = .ok (.goto 4, 3) := by decide +kernel
theorem dL_isPointSo_317 : decode cL_isPointSo 317 = .ok (.iconst 0, 1) := by decide +kernel
theorem dL_isPointSo_318 : decode cL_isPointSo 318 = .ok (.istore 7, 2) := by decide +kernel
theorem dL_isPointSo_320 : decode cL_isPointSo 320 = .ok (.goto 63, 3) := by decide +kernel
theorem dL_isPointSo_323 : decode cL_isPointSo 323 = .ok (.iload 7, 2) := by decide +kernel
theorem dL_isPointSo_325 : decode cL_isPointSo 325 = .ok (.ifCond .eq 55, 3) := by decide +kernel
theorem dL_isPointSo_328 : decode cL_isPointSo 328 = .ok (.iload 5, 2) := by decide +kernel
theorem dL_isPointSo_330 : decode cL_isPointSo 330 = .ok (.iload_n 1, 1) := by decide +kernel
theorem dL_isPointSo_331 : decode cL_isPointSo 331 = .ok (.if_icmp .ne 49, 3) := by decide +kernel
theorem dL_isPointSo_334 : decode cL_isPointSo 334 = .ok (.aload_n 0, 1) := by decide +kernel
theorem dL_isPointSo_335 : decode cL_isPointSo 335 = .ok (.iload_n 2, 1) := by decide +kernel
theorem dL_isPointSo_336 : decode cL_isPointSo 336 = .ok (.iload_n 3, 1) := by decide +kernel
theorem dL_isPointSo_337 : decode cL_isPointSo 337 = .ok (.invokevirtual 114, 3) := by decide +kernel
theorem dL_isPointSo_340 : decode cL_isPointSo 340 = .ok (.aload_n 0, 1) := by decide +kernel
theorem dL_isPointSo_341 : decode cL_isPointSo 341 = .ok (.iload_n 2, 1) := by decide +kernel
theorem dL_isPointSo_342 : decode cL_isPointSo 342 = .ok (.iload_n 3, 1) := by decide +kernel
theorem dL_isPointSo_343 : decode cL_isPointSo 343 = .ok (.invokevirtual 120, 3) := by decide +kernel
theorem dL_isPointSo_346 : decode cL_isPointSo 346 = .ok (.if_icmp .ne 34, 3) := by decide +kernel
theorem dL_isPointSo_349 : decode cL_isPointSo 349 = .ok (.aload_n 0, 1) := by decide +kernel
theorem dL_isPointSo_350 : decode cL_isPointSo 350 = .ok (.iload_n 2, 1) := by decide +kernel
theorem dL_isPointSo_351 : decode cL_isPointSo 351 = .ok (.iload_n 3, 1) := by decide +kernel
theorem dL_isPointSo_352 : decode cL_isPointSo 352 = .ok (.invokevirtual 114, 3) := by decide +kernel
theorem dL_isPointSo_355 : decode cL_isPointSo 355 = .ok (.aload_n 0, 1) := by decide +kernel
theorem dL_isPointSo_356 : decode cL_isPointSo 356 = .ok (.aload_n 0, 1) := by decide +kernel
theorem dL_isPointSo_357 : decode cL_isPointSo 357 = .ok (.invokevirtual 126, 3) := by decide +kernel
theorem dL_isPointSo_360 : decode cL_isPointSo 360 = .ok (.bipush 7, 2) := by decide +kernel
theorem dL_isPointSo_362 : decode cL_isPointSo 362 = .ok (.idiv, 1) := by decide +kernel
theorem dL_isPointSo_363 : decode cL_isPointSo 363 = .ok (.aload_n 0, 1) := by decide +kernel
theorem dL_isPointSo_364 : decode cL_isPointSo 364 = .ok (.invokevirtual 126, 3) := by decide +kernel
theorem dL_isPointSo_367 : decode cL_isPointSo 367 = .ok (.bipush 7, 2) := by decide +kernel
theorem dL_isPointSo_369 : decode cL_isPointSo 369 = .ok (.irem, 1) := by decide +kernel
theorem dL_isPointSo_370 : decode cL_isPointSo 370 = .ok (.invokevirtual 114, 3) := by decide +kernel
theorem dL_isPointSo_373 : decode cL_isPointSo 373 = .ok (.if_icmp .gt 7, 3) := by decide +kernel
theorem dL_isPointSo_376 : decode cL_isPointSo 376 = .ok (.iconst 1, 1) := by decide +kernel
theorem dL_isPointSo_377 : decode cL_isPointSo 377 = .ok (.goto 4, 3) := by decide +kernel
theorem dL_isPointSo_380 : decode cL_isPointSo 380 = .ok (.iconst 0, 1) := by decide +kernel
theorem dL_isPointSo_381 : decode cL_isPointSo 381 = .ok (.istore 7, 2) := by decide +kernel
theorem dL_isPointSo_383 : decode cL_isPointSo 383 = .ok (.iload_n 2, 1) := by decide +kernel
theorem dL_isPointSo_384 : decode cL_isPointSo 384 = .ok (.ifCond .eq 19, 3) := by decide +kernel
theorem dL_isPointSo_387 : decode cL_isPointSo 387 = .ok (.iload_n 2, 1) := by decide +kernel
theorem dL_isPointSo_388 : decode cL_isPointSo 388 = .ok (.bipush 6, 2) := by decide +kernel
theorem dL_isPointSo_390 : decode cL_isPointSo 390 = .ok (.if_icmp .eq 13, 3) := by decide +kernel
theorem dL_isPointSo_393 : decode cL_isPointSo 393 = .ok (.iload_n 3, 1) := by decide +kernel
theorem dL_isPointSo_394 : decode cL_isPointSo 394 = .ok (.ifCond .eq 9, 3) := by decide +kernel
theorem dL_isPointSo_397 : decode cL_isPointSo 397 = .ok (.iload_n 3, 1) := by decide +kernel
theorem dL_isPointSo_398 : decode cL_isPointSo 398 = .ok (.bipush 6, 2) := by decide +kernel
theorem dL_isPointSo_400 : decode cL_isPointSo 400 = .ok (.if_icmp .ne 7, 3) := by decide +kernel
theorem dL_isPointSo_403 : decode cL_isPointSo 403 = .ok (.iconst 1, 1) := by decide +kernel
theorem dL_isPointSo_404 : decode cL_isPointSo 404 = .ok (.goto 4, 3) := by decide +kernel
theorem dL_isPointSo_407 : decode cL_isPointSo 407 = .ok (.iconst 0, 1) := by decide +kernel
theorem dL_isPointSo_408 : decode cL_isPointSo 408 = .ok (.istore 8, 2) := by decide +kernel
theorem dL_isPointSo_410 : decode cL_isPointSo 410 = .ok (.iload 7, 2) := by decide +kernel
theorem dL_isPointSo_412 : decode cL_isPointSo 412 = .ok (.ifCond .eq 60, 3) := by decide +kernel
theorem dL_isPointSo_415 : decode cL_isPointSo 415 = .ok (.aload_n 0, 1) := by decide +kernel
theorem dL_isPointSo_416 : decode cL_isPointSo 416 = .ok (.iload_n 2, 1) := by decide +kernel
theorem dL_isPointSo_417 : decode cL_isPointSo 417 = .ok (.iload_n 3, 1) := by decide +kernel
theorem dL_isPointSo_418 : decode cL_isPointSo 418 = .ok (.invokevirtual 129, 3) := by decide +kernel
theorem dL_isPointSo_421 : decode cL_isPointSo 421 = .ok (.iload 6, 2) := by decide +kernel
theorem dL_isPointSo_423 : decode cL_isPointSo 423 = .ok (.if_icmp .ne 49, 3) := by decide +kernel
theorem dL_isPointSo_426 : decode cL_isPointSo 426 = .ok (.iload 6, 2) := by decide +kernel
theorem dL_isPointSo_428 : decode cL_isPointSo 428 = .ok (.aload_n 0, 1) := by decide +kernel
theorem dL_isPointSo_429 : decode cL_isPointSo 429 = .ok (.iload_n 1, 1) := by decide +kernel
theorem dL_isPointSo_430 : decode cL_isPointSo 430 = .ok (.invokestatic 42, 3) := by decide +kernel
theorem dL_isPointSo_433 : decode cL_isPointSo 433 = .ok (.if_icmp .lt 39, 3) := by decide +kernel
theorem dL_isPointSo_436 : decode cL_isPointSo 436 = .ok (.iload 8, 2) := by decide +kernel
theorem dL_isPointSo_438 : decode cL_isPointSo 438 = .ok (.ifCond .eq 13, 3) := by decide +kernel
theorem dL_isPointSo_441 : decode cL_isPointSo 441 = .ok (.iload 6, 2) := by decide +kernel
theorem dL_isPointSo_443 : decode cL_isPointSo 443 = .ok (.aload_n 0, 1) := by decide +kernel
theorem dL_isPointSo_444 : decode cL_isPointSo 444 = .ok (.iload_n 1, 1) := by decide +kernel
theorem dL_isPointSo_445 : decode cL_isPointSo 445 = .ok (.invokestatic 42, 3) := by decide +kernel
theorem dL_isPointSo_448 : decode cL_isPointSo 448 = .ok (.if_icmp .ne 24, 3) := by decide +kernel
theorem dL_isPointSo_451 : decode cL_isPointSo 451 = .ok (.aload_n 0, 1) := by decide +kernel
theorem dL_isPointSo_452 : decode cL_isPointSo 452 = .ok (.iload_n 2, 1) := by decide +kernel
theorem dL_isPointSo_453 : decode cL_isPointSo 453 = .ok (.iload_n 3, 1) := by decide +kernel
theorem dL_isPointSo_454 : decode cL_isPointSo 454 = .ok (.invokevirtual 132, 3) := by decide +kernel
theorem dL_isPointSo_457 : decode cL_isPointSo 457 = .ok (.iload 6, 2) := by decide +kernel
theorem dL_isPointSo_459 : decode cL_isPointSo 459 = .ok (.aload_n 0, 1) := by decide +kernel
theorem dL_isPointSo_460 : decode cL_isPointSo 460 = .ok (.iload_n 1, 1) := by decide +kernel
theorem dL_isPointSo_461 : decode cL_isPointSo 461 = .ok (.invokestatic 42, 3) := by decide +kernel
theorem dL_isPointSo_464 : decode cL_isPointSo 464 = .ok (.isub, 1) := by decide +kernel
theorem dL_isPointSo_465 : decode cL_isPointSo 465 = .ok (.if_icmp .ne 7, 3) := by decide +kernel
theorem dL_isPointSo_468 : decode cL_isPointSo 468 = .ok (.iconst 1, 1) := by decide +kernel
theorem dL_isPointSo_469 : decode cL_isPointSo 469 = .ok (.goto 4, 3) := by decide +kernel
theorem dL_isPointSo_472 : decode cL_isPointSo 472 = .ok (.iconst 0, 1) := by decide +kernel
theorem dL_isPointSo_473 : decode cL_isPointSo 473 = .ok (.istore 7, 2) := by decide +kernel
theorem dL_isPointSo_475 : decode cL_isPointSo 475 = .ok (.iload_n 2, 1) := by decide +kernel
theorem dL_isPointSo_476 : decode cL_isPointSo 476 = .ok (.bipush 6, 2) := by decide +kernel
theorem dL_isPointSo_478 : decode cL_isPointSo 478 = .ok (.if_icmp .ge 14, 3) := by decide +kernel
theorem dL_isPointSo_481 : decode cL_isPointSo 481 = .ok (.aload_n 0, 1) := by decide +kernel
theorem dL_isPointSo_482 : decode cL_isPointSo 482 = .ok (.iload_n 2, 1) := by decide +kernel
theorem dL_isPointSo_483 : decode cL_isPointSo 483 = .ok (.iconst 1, 1) := by decide +kernel
theorem dL_isPointSo_484 : decode cL_isPointSo 484 = .ok (.iadd, 1) := by decide +kernel
theorem dL_isPointSo_485 : decode cL_isPointSo 485 = .ok (.iload_n 3, 1) := by decide +kernel
theorem dL_isPointSo_486 : decode cL_isPointSo 486 = .ok (.invokevirtual 104, 3) := by decide +kernel
theorem dL_isPointSo_489 : decode cL_isPointSo 489 = .ok (.goto 5, 3) := by decide +kernel
theorem dL_isPointSo_492 : decode cL_isPointSo 492 = .ok (.iload 6, 2) := by decide +kernel
theorem dL_isPointSo_494 : decode cL_isPointSo 494 = .ok (.istore 9, 2) := by decide +kernel
theorem dL_isPointSo_496 : decode cL_isPointSo 496 = .ok (.iload 7, 2) := by decide +kernel
theorem dL_isPointSo_498 : decode cL_isPointSo 498 = .ok (.ifCond .eq 43, 3) := by decide +kernel
theorem dL_isPointSo_501 : decode cL_isPointSo 501 = .ok (.iload_n 2, 1) := by decide +kernel
theorem dL_isPointSo_502 : decode cL_isPointSo 502 = .ok (.bipush 6, 2) := by decide +kernel
theorem dL_isPointSo_504 : decode cL_isPointSo 504 = .ok (.if_icmp .eq 33, 3) := by decide +kernel
theorem dL_isPointSo_507 : decode cL_isPointSo 507 = .ok (.iload 8, 2) := by decide +kernel
theorem dL_isPointSo_509 : decode cL_isPointSo 509 = .ok (.ifCond .ne 28, 3) := by decide +kernel
theorem dL_isPointSo_512 : decode cL_isPointSo 512 = .ok (.iload 6, 2) := by decide +kernel
theorem dL_isPointSo_514 : decode cL_isPointSo 514 = .ok (.iload 9, 2) := by decide +kernel
theorem dL_isPointSo_516 : decode cL_isPointSo 516 = .ok (.aload_n 0, 1) := by decide +kernel
theorem dL_isPointSo_517 : decode cL_isPointSo 517 = .ok (.iload_n 1, 1) := by decide +kernel
theorem dL_isPointSo_518 : decode cL_isPointSo 518 = .ok (.invokestatic 42, 3) := by decide +kernel
theorem dL_isPointSo_521 : decode cL_isPointSo 521 = .ok (.if_icmp .le 8, 3) := by decide +kernel
theorem dL_isPointSo_524 : decode cL_isPointSo 524 = .ok (.iload 9, 2) := by decide +kernel
theorem dL_isPointSo_526 : decode cL_isPointSo 526 = .ok (.goto 8, 3) := by decide +kernel
theorem dL_isPointSo_529 : decode cL_isPointSo 529 = .ok (.aload_n 0, 1) := by decide +kernel
theorem dL_isPointSo_530 : decode cL_isPointSo 530 = .ok (.iload_n 1, 1) := by decide +kernel
theorem dL_isPointSo_531 : decode cL_isPointSo 531 = .ok (.invokestatic 42, 3) := by decide +kernel
theorem dL_isPointSo_534 : decode cL_isPointSo 534 = .ok (.if_icmp .gt 7, 3) := by decide +kernel
theorem dL_isPointSo_537 : decode cL_isPointSo 537 = .ok (.iconst 1, 1) := by decide +kernel
theorem dL_isPointSo_538 : decode cL_isPointSo 538 = .ok (.goto 4, 3) := by decide +kernel
theorem dL_isPointSo_541 : decode cL_isPointSo 541 = .ok (.iconst 0, 1) := by decide +kernel
theorem dL_isPointSo_542 : decode cL_isPointSo 542 = .ok (.ireturn, 1) := by decide +kernel
theorem dL_isCutSo_0 : decode cL_isCutSo 0 = .ok (.aload_n 0, 1) := by decide +kernel
theorem dL_isCutSo_1 : decode cL_isCutSo 1 = .ok (.iload_n 1, 1) := by decide +kernel
theorem dL_isCutSo_2 : decode cL_isCutSo 2 = .ok (.bipush 7, 2) := by decide +kernel
theorem dL_isCutSo_4 : decode cL_isCutSo 4 = .ok (.idiv, 1) := by decide +kernel
theorem dL_isCutSo_5 : decode cL_isCutSo 5 = .ok (.iload_n 1, 1) := by decide +kernel
theorem dL_isCutSo_6 : decode cL_isCutSo 6 = .ok (.bipush 7, 2) := by decide +kernel
theorem dL_isCutSo_8 : decode cL_isCutSo 8 = .ok (.irem, 1) := by decide +kernel
theorem dL_isCutSo_9 : decode cL_isCutSo 9 = .ok (.iload_n 2, 1) := by decide +kernel
theorem dL_isCutSo_10 : decode cL_isCutSo 10 = .ok (.bipush 7, 2) := by decide +kernel
theorem dL_isCutSo_12 : decode cL_isCutSo 12 = .ok (.idiv, 1) := by decide +kernel
theorem dL_isCutSo_13 : decode cL_isCutSo 13 = .ok (.iload_n 2, 1) := by decide +kernel
theorem dL_isCutSo_14 : decode cL_isCutSo 14 = .ok (.bipush 7, 2) := by decide +kernel
theorem dL_isCutSo_16 : decode cL_isCutSo 16 = .ok (.irem, 1) := by decide +kernel
theorem dL_isCutSo_17 : decode cL_isCutSo 17 = .ok (.invokevirtual 135, 3) := by decide +kernel
theorem dL_isCutSo_20 : decode cL_isCutSo 20 = .ok (.istore_n 3, 1) := by decide +kernel
theorem dL_isCutSo_21 : decode cL_isCutSo 21 = .ok (.iconst 0, 1) := by decide +kernel
theorem dL_isCutSo_22 : decode cL_isCutSo 22 = .ok (.istore 4, 2) := by decide +kernel
theorem dL_isCutSo_24 : decode cL_isCutSo 24 = .ok (.iconst 0, 1) := by decide +kernel
theorem dL_isCutSo_25 : decode cL_isCutSo 25 = .ok (.istore 5, 2) := by decide +kernel
theorem dL_isCutSo_27 : decode cL_isCutSo 27 = .ok (.iconst 0, 1) := by decide +kernel
theorem dL_isCutSo_28 : decode cL_isCutSo 28 = .ok (.istore 6, 2) := by decide +kernel
theorem dL_isCutSo_30 : decode cL_isCutSo 30 = .ok (.iload 6, 2) := by decide +kernel
theorem dL_isCutSo_32 : decode cL_isCutSo 32 = .ok (.iload_n 3, 1) := by decide +kernel
theorem dL_isCutSo_33 : decode cL_isCutSo 33 = .ok (.if_icmp .ge 109, 3) := by decide +kernel
theorem dL_isCutSo_36 : decode cL_isCutSo 36 = .ok (.aload_n 0, 1) := by decide +kernel
theorem dL_isCutSo_37 : decode cL_isCutSo 37 = .ok (.iload_n 1, 1) := by decide +kernel
theorem dL_isCutSo_38 : decode cL_isCutSo 38 = .ok (.bipush 7, 2) := by decide +kernel
theorem dL_isCutSo_40 : decode cL_isCutSo 40 = .ok (.idiv, 1) := by decide +kernel
theorem dL_isCutSo_41 : decode cL_isCutSo 41 = .ok (.iload_n 1, 1) := by decide +kernel
theorem dL_isCutSo_42 : decode cL_isCutSo 42 = .ok (.bipush 7, 2) := by decide +kernel
theorem dL_isCutSo_44 : decode cL_isCutSo 44 = .ok (.irem, 1) := by decide +kernel
theorem dL_isCutSo_45 : decode cL_isCutSo 45 = .ok (.iload_n 2, 1) := by decide +kernel
theorem dL_isCutSo_46 : decode cL_isCutSo 46 = .ok (.bipush 7, 2) := by decide +kernel
theorem dL_isCutSo_48 : decode cL_isCutSo 48 = .ok (.idiv, 1) := by decide +kernel
theorem dL_isCutSo_49 : decode cL_isCutSo 49 = .ok (.iload_n 2, 1) := by decide +kernel
theorem dL_isCutSo_50 : decode cL_isCutSo 50 = .ok (.bipush 7, 2) := by decide +kernel
theorem dL_isCutSo_52 : decode cL_isCutSo 52 = .ok (.irem, 1) := by decide +kernel
theorem dL_isCutSo_53 : decode cL_isCutSo 53 = .ok (.iload 6, 2) := by decide +kernel
theorem dL_isCutSo_55 : decode cL_isCutSo 55 = .ok (.invokevirtual 139, 3) := by decide +kernel
theorem dL_isCutSo_58 : decode cL_isCutSo 58 = .ok (.istore 7, 2) := by decide +kernel
theorem dL_isCutSo_60 : decode cL_isCutSo 60 = .ok (.iload 6, 2) := by decide +kernel
theorem dL_isCutSo_62 : decode cL_isCutSo 62 = .ok (.iload_n 3, 1) := by decide +kernel
theorem dL_isCutSo_63 : decode cL_isCutSo 63 = .ok (.iconst 1, 1) := by decide +kernel
theorem dL_isCutSo_64 : decode cL_isCutSo 64 = .ok (.isub, 1) := by decide +kernel
theorem dL_isCutSo_65 : decode cL_isCutSo 65 = .ok (.if_icmp .ge 30, 3) := by decide +kernel
theorem dL_isCutSo_68 : decode cL_isCutSo 68 = .ok (.aload_n 0, 1) := by decide +kernel
theorem dL_isCutSo_69 : decode cL_isCutSo 69 = .ok (.iload_n 1, 1) := by decide +kernel
theorem dL_isCutSo_70 : decode cL_isCutSo 70 = .ok (.bipush 7, 2) := by decide +kernel
theorem dL_isCutSo_72 : decode cL_isCutSo 72 = .ok (.idiv, 1) := by decide +kernel
theorem dL_isCutSo_73 : decode cL_isCutSo 73 = .ok (.iload_n 1, 1) := by decide +kernel
theorem dL_isCutSo_74 : decode cL_isCutSo 74 = .ok (.bipush 7, 2) := by decide +kernel
theorem dL_isCutSo_76 : decode cL_isCutSo 76 = .ok (.irem, 1) := by decide +kernel
theorem dL_isCutSo_77 : decode cL_isCutSo 77 = .ok (.iload_n 2, 1) := by decide +kernel
theorem dL_isCutSo_78 : decode cL_isCutSo 78 = .ok (.bipush 7, 2) := by decide +kernel
theorem dL_isCutSo_80 : decode cL_isCutSo 80 = .ok (.idiv, 1) := by decide +kernel
theorem dL_isCutSo_81 : decode cL_isCutSo 81 = .ok (.iload_n 2, 1) := by decide +kernel
theorem dL_isCutSo_82 : decode cL_isCutSo 82 = .ok (.bipush 7, 2) := by decide +kernel
theorem dL_isCutSo_84 : decode cL_isCutSo 84 = .ok (.irem, 1) := by decide +kernel
theorem dL_isCutSo_85 : decode cL_isCutSo 85 = .ok (.iload 6, 2) := by decide +kernel
theorem dL_isCutSo_87 : decode cL_isCutSo 87 = .ok (.iconst 1, 1) := by decide +kernel
theorem dL_isCutSo_88 : decode cL_isCutSo 88 = .ok (.iadd, 1) := by decide +kernel
theorem dL_isCutSo_89 : decode cL_isCutSo 89 = .ok (.invokevirtual 139, 3) := by decide +kernel
theorem dL_isCutSo_92 : decode cL_isCutSo 92 = .ok (.goto 5, 3) := by decide +kernel
theorem dL_isCutSo_95 : decode cL_isCutSo 95 = .ok (.iload 7, 2) := by decide +kernel
theorem dL_isCutSo_97 : decode cL_isCutSo 97 = .ok (.istore 8, 2) := by decide +kernel
theorem dL_isCutSo_99 : decode cL_isCutSo 99 = .ok (.iload 4, 2) := by decide +kernel
theorem dL_isCutSo_101 : decode cL_isCutSo 101 = .ok (.iload 8, 2) := by decide +kernel
theorem dL_isCutSo_103 : decode cL_isCutSo 103 = .ok (.iload 7, 2) := by decide +kernel
theorem dL_isCutSo_105 : decode cL_isCutSo 105 = .ok (.if_icmp .le 11, 3) := by decide +kernel
theorem dL_isCutSo_108 : decode cL_isCutSo 108 = .ok (.iload 8, 2) := by decide +kernel
theorem dL_isCutSo_110 : decode cL_isCutSo 110 = .ok (.iload 7, 2) := by decide +kernel
theorem dL_isCutSo_112 : decode cL_isCutSo 112 = .ok (.isub, 1) := by decide +kernel
theorem dL_isCutSo_113 : decode cL_isCutSo 113 = .ok (.goto 4, 3) := by decide +kernel
theorem dL_isCutSo_116 : decode cL_isCutSo 116 = .ok (.iconst 0, 1) := by decide +kernel
theorem dL_isCutSo_117 : decode cL_isCutSo 117 = .ok (.iadd, 1) := by decide +kernel
theorem dL_isCutSo_118 : decode cL_isCutSo 118 = .ok (.istore 4, 2) := by decide +kernel
theorem dL_isCutSo_120 : decode cL_isCutSo 120 = .ok (.iload 7, 2) := by decide +kernel
theorem dL_isCutSo_122 : decode cL_isCutSo 122 = .ok (.iload 5, 2) := by decide +kernel
theorem dL_isCutSo_124 : decode cL_isCutSo 124 = .ok (.if_icmp .le 8, 3) := by decide +kernel
theorem dL_isCutSo_127 : decode cL_isCutSo 127 = .ok (.iload 7, 2) := by decide +kernel
theorem dL_isCutSo_129 : decode cL_isCutSo 129 = .ok (.goto 5, 3) := by decide +kernel
theorem dL_isCutSo_132 : decode cL_isCutSo 132 = .ok (.iload 5, 2) := by decide +kernel
theorem dL_isCutSo_134 : decode cL_isCutSo 134 = .ok (.istore 5, 2) := by decide +kernel
theorem dL_isCutSo_136 : decode cL_isCutSo 136 = .ok (.iinc 6 1, 3) := by decide +kernel
theorem dL_isCutSo_139 : decode cL_isCutSo 139 = .ok (.goto (-109), 3) := by decide +kernel
theorem dL_isCutSo_142 : decode cL_isCutSo 142 = .ok (.iload_n 3, 1) := by decide +kernel
theorem dL_isCutSo_143 : decode cL_isCutSo 143 = .ok (.ifCond .le 97, 3) := by decide +kernel
theorem dL_isCutSo_146 : decode cL_isCutSo 146 = .ok (.iload_n 3, 1) := by decide +kernel
theorem dL_isCutSo_147 : decode cL_isCutSo 147 = .ok (.bipush 8, 2) := by decide +kernel
theorem dL_isCutSo_149 : decode cL_isCutSo 149 = .ok (.if_icmp .ge 91, 3) := by decide +kernel
theorem dL_isCutSo_152 : decode cL_isCutSo 152 = .ok (.aload_n 0, 1) := by decide +kernel
theorem dL_isCutSo_153 : decode cL_isCutSo 153 = .ok (.iload_n 2, 1) := by decide +kernel
theorem dL_isCutSo_154 : decode cL_isCutSo 154 = .ok (.bipush 7, 2) := by decide +kernel
theorem dL_isCutSo_156 : decode cL_isCutSo 156 = .ok (.idiv, 1) := by decide +kernel
theorem dL_isCutSo_157 : decode cL_isCutSo 157 = .ok (.iload_n 2, 1) := by decide +kernel
theorem dL_isCutSo_158 : decode cL_isCutSo 158 = .ok (.bipush 7, 2) := by decide +kernel
theorem dL_isCutSo_160 : decode cL_isCutSo 160 = .ok (.irem, 1) := by decide +kernel
theorem dL_isCutSo_161 : decode cL_isCutSo 161 = .ok (.iload_n 1, 1) := by decide +kernel
theorem dL_isCutSo_162 : decode cL_isCutSo 162 = .ok (.bipush 7, 2) := by decide +kernel
theorem dL_isCutSo_164 : decode cL_isCutSo 164 = .ok (.idiv, 1) := by decide +kernel
theorem dL_isCutSo_165 : decode cL_isCutSo 165 = .ok (.iload_n 1, 1) := by decide +kernel
theorem dL_isCutSo_166 : decode cL_isCutSo 166 = .ok (.bipush 7, 2) := by decide +kernel
theorem dL_isCutSo_168 : decode cL_isCutSo 168 = .ok (.irem, 1) := by decide +kernel
theorem dL_isCutSo_169 : decode cL_isCutSo 169 = .ok (.invokevirtual 135, 3) := by decide +kernel
theorem dL_isCutSo_172 : decode cL_isCutSo 172 = .ok (.iload_n 3, 1) := by decide +kernel
theorem dL_isCutSo_173 : decode cL_isCutSo 173 = .ok (.if_icmp .ne 67, 3) := by decide +kernel
theorem dL_isCutSo_176 : decode cL_isCutSo 176 = .ok (.aload_n 0, 1) := by decide +kernel
theorem dL_isCutSo_177 : decode cL_isCutSo 177 = .ok (.iload_n 1, 1) := by decide +kernel
theorem dL_isCutSo_178 : decode cL_isCutSo 178 = .ok (.bipush 7, 2) := by decide +kernel
theorem dL_isCutSo_180 : decode cL_isCutSo 180 = .ok (.idiv, 1) := by decide +kernel
theorem dL_isCutSo_181 : decode cL_isCutSo 181 = .ok (.iload_n 1, 1) := by decide +kernel
theorem dL_isCutSo_182 : decode cL_isCutSo 182 = .ok (.bipush 7, 2) := by decide +kernel
theorem dL_isCutSo_184 : decode cL_isCutSo 184 = .ok (.irem, 1) := by decide +kernel
theorem dL_isCutSo_185 : decode cL_isCutSo 185 = .ok (.iload_n 2, 1) := by decide +kernel
theorem dL_isCutSo_186 : decode cL_isCutSo 186 = .ok (.bipush 7, 2) := by decide +kernel
theorem dL_isCutSo_188 : decode cL_isCutSo 188 = .ok (.idiv, 1) := by decide +kernel
theorem dL_isCutSo_189 : decode cL_isCutSo 189 = .ok (.iload_n 2, 1) := by decide +kernel
theorem dL_isCutSo_190 : decode cL_isCutSo 190 = .ok (.bipush 7, 2) := by decide +kernel
theorem dL_isCutSo_192 : decode cL_isCutSo 192 = .ok (.irem, 1) := by decide +kernel
theorem dL_isCutSo_193 : decode cL_isCutSo 193 = .ok (.iconst 0, 1) := by decide +kernel
theorem dL_isCutSo_194 : decode cL_isCutSo 194 = .ok (.invokevirtual 139, 3) := by decide +kernel
theorem dL_isCutSo_197 : decode cL_isCutSo 197 = .ok (.aload_n 0, 1) := by decide +kernel
theorem dL_isCutSo_198 : decode cL_isCutSo 198 = .ok (.iload_n 1, 1) := by decide +kernel
theorem dL_isCutSo_199 : decode cL_isCutSo 199 = .ok (.invokestatic 42, 3) := by decide +kernel
theorem dL_isCutSo_202 : decode cL_isCutSo 202 = .ok (.if_icmp .ne 38, 3) := by decide +kernel
theorem dL_isCutSo_205 : decode cL_isCutSo 205 = .ok (.aload_n 0, 1) := by decide +kernel
theorem dL_isCutSo_206 : decode cL_isCutSo 206 = .ok (.iload_n 1, 1) := by decide +kernel
theorem dL_isCutSo_207 : decode cL_isCutSo 207 = .ok (.bipush 7, 2) := by decide +kernel
theorem dL_isCutSo_209 : decode cL_isCutSo 209 = .ok (.idiv, 1) := by decide +kernel
theorem dL_isCutSo_210 : decode cL_isCutSo 210 = .ok (.iload_n 1, 1) := by decide +kernel
theorem dL_isCutSo_211 : decode cL_isCutSo 211 = .ok (.bipush 7, 2) := by decide +kernel
theorem dL_isCutSo_213 : decode cL_isCutSo 213 = .ok (.irem, 1) := by decide +kernel
theorem dL_isCutSo_214 : decode cL_isCutSo 214 = .ok (.iload_n 2, 1) := by decide +kernel
theorem dL_isCutSo_215 : decode cL_isCutSo 215 = .ok (.bipush 7, 2) := by decide +kernel
theorem dL_isCutSo_217 : decode cL_isCutSo 217 = .ok (.idiv, 1) := by decide +kernel
theorem dL_isCutSo_218 : decode cL_isCutSo 218 = .ok (.iload_n 2, 1) := by decide +kernel
theorem dL_isCutSo_219 : decode cL_isCutSo 219 = .ok (.bipush 7, 2) := by decide +kernel
theorem dL_isCutSo_221 : decode cL_isCutSo 221 = .ok (.irem, 1) := by decide +kernel
theorem dL_isCutSo_222 : decode cL_isCutSo 222 = .ok (.iload_n 3, 1) := by decide +kernel
theorem dL_isCutSo_223 : decode cL_isCutSo 223 = .ok (.iconst 1, 1) := by decide +kernel
theorem dL_isCutSo_224 : decode cL_isCutSo 224 = .ok (.isub, 1) := by decide +kernel
theorem dL_isCutSo_225 : decode cL_isCutSo 225 = .ok (.invokevirtual 139, 3) := by decide +kernel
theorem dL_isCutSo_228 : decode cL_isCutSo 228 = .ok (.aload_n 0, 1) := by decide +kernel
theorem dL_isCutSo_229 : decode cL_isCutSo 229 = .ok (.iload_n 2, 1) := by decide +kernel
theorem dL_isCutSo_230 : decode cL_isCutSo 230 = .ok (.invokestatic 42, 3) := by decide +kernel
theorem dL_isCutSo_233 : decode cL_isCutSo 233 = .ok (.if_icmp .ne 7, 3) := by decide +kernel
theorem dL_isCutSo_236 : decode cL_isCutSo 236 = .ok (.iconst 1, 1) := by decide +kernel
theorem dL_isCutSo_237 : decode cL_isCutSo 237 = .ok (.goto 4, 3) := by decide +kernel
theorem dL_isCutSo_240 : decode cL_isCutSo 240 = .ok (.iconst 0, 1) := by decide +kernel
theorem dL_isCutSo_241 : decode cL_isCutSo 241 = .ok (.istore 6, 2) := by decide +kernel
theorem dL_isCutSo_243 : decode cL_isCutSo 243 = .ok (.iload 6, 2) := by decide +kernel
theorem dL_isCutSo_245 : decode cL_isCutSo 245 = .ok (.ifCond .eq 85, 3) := by decide +kernel
theorem dL_isCutSo_248 : decode cL_isCutSo 248 = .ok (.aload_n 0, 1) := by decide +kernel
theorem dL_isCutSo_249 : decode cL_isCutSo 249 = .ok (.iload_n 1, 1) := by decide +kernel
theorem dL_isCutSo_250 : decode cL_isCutSo 250 = .ok (.bipush 7, 2) := by decide +kernel
theorem dL_isCutSo_252 : decode cL_isCutSo 252 = .ok (.idiv, 1) := by decide +kernel
theorem dL_isCutSo_253 : decode cL_isCutSo 253 = .ok (.iload_n 1, 1) := by decide +kernel
theorem dL_isCutSo_254 : decode cL_isCutSo 254 = .ok (.bipush 7, 2) := by decide +kernel
theorem dL_isCutSo_256 : decode cL_isCutSo 256 = .ok (.irem, 1) := by decide +kernel
theorem dL_isCutSo_257 : decode cL_isCutSo 257 = .ok (.iload_n 2, 1) := by decide +kernel
theorem dL_isCutSo_258 : decode cL_isCutSo 258 = .ok (.bipush 7, 2) := by decide +kernel
theorem dL_isCutSo_260 : decode cL_isCutSo 260 = .ok (.idiv, 1) := by decide +kernel
theorem dL_isCutSo_261 : decode cL_isCutSo 261 = .ok (.iload_n 2, 1) := by decide +kernel
theorem dL_isCutSo_262 : decode cL_isCutSo 262 = .ok (.bipush 7, 2) := by decide +kernel
theorem dL_isCutSo_264 : decode cL_isCutSo 264 = .ok (.irem, 1) := by decide +kernel
theorem dL_isCutSo_265 : decode cL_isCutSo 265 = .ok (.invokevirtual 143, 3) := by decide +kernel
theorem dL_isCutSo_268 : decode cL_isCutSo 268 = .ok (.iload 4, 2) := by decide +kernel
theorem dL_isCutSo_270 : decode cL_isCutSo 270 = .ok (.if_icmp .ne 60, 3) := by decide +kernel
theorem dL_isCutSo_273 : decode cL_isCutSo 273 = .ok (.aload_n 0, 1) := by decide +kernel
theorem dL_isCutSo_274 : decode cL_isCutSo 274 = .ok (.iload_n 1, 1) := by decide +kernel
theorem dL_isCutSo_275 : decode cL_isCutSo 275 = .ok (.bipush 7, 2) := by decide +kernel
theorem dL_isCutSo_277 : decode cL_isCutSo 277 = .ok (.idiv, 1) := by decide +kernel
theorem dL_isCutSo_278 : decode cL_isCutSo 278 = .ok (.iload_n 1, 1) := by decide +kernel
theorem dL_isCutSo_279 : decode cL_isCutSo 279 = .ok (.bipush 7, 2) := by decide +kernel
theorem dL_isCutSo_281 : decode cL_isCutSo 281 = .ok (.irem, 1) := by decide +kernel
theorem dL_isCutSo_282 : decode cL_isCutSo 282 = .ok (.iload_n 2, 1) := by decide +kernel
theorem dL_isCutSo_283 : decode cL_isCutSo 283 = .ok (.bipush 7, 2) := by decide +kernel
theorem dL_isCutSo_285 : decode cL_isCutSo 285 = .ok (.idiv, 1) := by decide +kernel
theorem dL_isCutSo_286 : decode cL_isCutSo 286 = .ok (.iload_n 2, 1) := by decide +kernel
theorem dL_isCutSo_287 : decode cL_isCutSo 287 = .ok (.bipush 7, 2) := by decide +kernel
theorem dL_isCutSo_289 : decode cL_isCutSo 289 = .ok (.irem, 1) := by decide +kernel
theorem dL_isCutSo_290 : decode cL_isCutSo 290 = .ok (.invokevirtual 146, 3) := by decide +kernel
theorem dL_isCutSo_293 : decode cL_isCutSo 293 = .ok (.iload 5, 2) := by decide +kernel
theorem dL_isCutSo_295 : decode cL_isCutSo 295 = .ok (.if_icmp .ne 35, 3) := by decide +kernel
theorem dL_isCutSo_298 : decode cL_isCutSo 298 = .ok (.iload_n 3, 1) := by decide +kernel
theorem dL_isCutSo_299 : decode cL_isCutSo 299 = .ok (.iconst 2, 1) := by decide +kernel
theorem dL_isCutSo_300 : decode cL_isCutSo 300 = .ok (.if_icmp .gt 26, 3) := by decide +kernel
theorem dL_isCutSo_303 : decode cL_isCutSo 303 = .ok (.aload_n 0, 1) := by decide +kernel
theorem dL_isCutSo_304 : decode cL_isCutSo 304 = .ok (.iload_n 1, 1) := by decide +kernel
theorem dL_isCutSo_305 : decode cL_isCutSo 305 = .ok (.bipush 7, 2) := by decide +kernel
theorem dL_isCutSo_307 : decode cL_isCutSo 307 = .ok (.idiv, 1) := by decide +kernel
theorem dL_isCutSo_308 : decode cL_isCutSo 308 = .ok (.iload_n 1, 1) := by decide +kernel
theorem dL_isCutSo_309 : decode cL_isCutSo 309 = .ok (.bipush 7, 2) := by decide +kernel
theorem dL_isCutSo_311 : decode cL_isCutSo 311 = .ok (.irem, 1) := by decide +kernel
theorem dL_isCutSo_312 : decode cL_isCutSo 312 = .ok (.iload_n 2, 1) := by decide +kernel
theorem dL_isCutSo_313 : decode cL_isCutSo 313 = .ok (.bipush 7, 2) := by decide +kernel
theorem dL_isCutSo_315 : decode cL_isCutSo 315 = .ok (.idiv, 1) := by decide +kernel
theorem dL_isCutSo_316 : decode cL_isCutSo 316 = .ok (.iload_n 2, 1) := by decide +kernel
theorem dL_isCutSo_317 : decode cL_isCutSo 317 = .ok (.bipush 7, 2) := by decide +kernel
theorem dL_isCutSo_319 : decode cL_isCutSo 319 = .ok (.irem, 1) := by decide +kernel
theorem dL_isCutSo_320 : decode cL_isCutSo 320 = .ok (.invokevirtual 149, 3) := by decide +kernel
theorem dL_isCutSo_323 : decode cL_isCutSo 323 = .ok (.ifCond .eq 7, 3) := by decide +kernel
theorem dL_isCutSo_326 : decode cL_isCutSo 326 = .ok (.iconst 1, 1) := by decide +kernel
theorem dL_isCutSo_327 : decode cL_isCutSo 327 = .ok (.goto 4, 3) := by decide +kernel
theorem dL_isCutSo_330 : decode cL_isCutSo 330 = .ok (.iconst 0, 1) := by decide +kernel
theorem dL_isCutSo_331 : decode cL_isCutSo 331 = .ok (.istore 6, 2) := by decide +kernel
theorem dL_isCutSo_333 : decode cL_isCutSo 333 = .ok (.aload_n 0, 1) := by decide +kernel
theorem dL_isCutSo_334 : decode cL_isCutSo 334 = .ok (.iload_n 1, 1) := by decide +kernel
theorem dL_isCutSo_335 : decode cL_isCutSo 335 = .ok (.bipush 7, 2) := by decide +kernel
theorem dL_isCutSo_337 : decode cL_isCutSo 337 = .ok (.idiv, 1) := by decide +kernel
theorem dL_isCutSo_338 : decode cL_isCutSo 338 = .ok (.iload_n 1, 1) := by decide +kernel
theorem dL_isCutSo_339 : decode cL_isCutSo 339 = .ok (.bipush 7, 2) := by decide +kernel
theorem dL_isCutSo_341 : decode cL_isCutSo 341 = .ok (.irem, 1) := by decide +kernel
theorem dL_isCutSo_342 : decode cL_isCutSo 342 = .ok (.invokevirtual 153, 3) := by decide +kernel
theorem dL_isCutSo_345 : decode cL_isCutSo 345 = .ok (.istore 7, 2) := by decide +kernel
theorem dL_isCutSo_347 : decode cL_isCutSo 347 = .ok (.iload 6, 2) := by decide +kernel
theorem dL_isCutSo_349 : decode cL_isCutSo 349 = .ok (.ifCond .eq 20, 3) := by decide +kernel
theorem dL_isCutSo_352 : decode cL_isCutSo 352 = .ok (.iload 7, 2) := by decide +kernel
theorem dL_isCutSo_354 : decode cL_isCutSo 354 = .ok (.iconst 1, 1) := by decide +kernel
theorem dL_isCutSo_355 : decode cL_isCutSo 355 = .ok (.if_icmp .le 14, 3) := by decide +kernel
theorem dL_isCutSo_358 : decode cL_isCutSo 358 = .ok (.iload 7, 2) := by decide +kernel
theorem dL_isCutSo_360 : decode cL_isCutSo 360 = .ok (.bipush 49, 2) := by decide +kernel
theorem dL_isCutSo_362 : decode cL_isCutSo 362 = .ok (.if_icmp .ge 7, 3) := by decide +kernel
theorem dL_isCutSo_365 : decode cL_isCutSo 365 = .ok (.iconst 1, 1) := by decide +kernel
theorem dL_isCutSo_366 : decode cL_isCutSo 366 = .ok (.goto 4, 3) := by decide +kernel
theorem dL_isCutSo_369 : decode cL_isCutSo 369 = .ok (.iconst 0, 1) := by decide +kernel
theorem dL_isCutSo_370 : decode cL_isCutSo 370 = .ok (.ireturn, 1) := by decide +kernel
theorem dL_areAllSo_0 : decode cL_areAllSo 0 = .ok (.iconst 0, 1) := by decide +kernel
theorem dL_areAllSo_1 : decode cL_areAllSo 1 = .ok (.istore_n 1, 1) := by decide +kernel
theorem dL_areAllSo_2 : decode cL_areAllSo 2 = .ok (.iconst 0, 1) := by decide +kernel
theorem dL_areAllSo_3 : decode cL_areAllSo 3 = .ok (.istore_n 2, 1) := by decide +kernel
theorem dL_areAllSo_4 : decode cL_areAllSo 4 = .ok (.iconst 0, 1) := by decide +kernel
theorem dL_areAllSo_5 : decode cL_areAllSo 5 = .ok (.istore_n 3, 1) := by decide +kernel
theorem dL_areAllSo_6 : decode cL_areAllSo 6 = .ok (.iconst 0, 1) := by decide +kernel
theorem dL_areAllSo_7 : decode cL_areAllSo 7 = .ok (.istore 4, 2) := by decide +kernel
theorem dL_areAllSo_9 : decode cL_areAllSo 9 = .ok (.iconst 0, 1) := by decide +kernel
theorem dL_areAllSo_10 : decode cL_areAllSo 10 = .ok (.istore 5, 2) := by decide +kernel
theorem dL_areAllSo_12 : decode cL_areAllSo 12 = .ok (.aload_n 0, 1) := by decide +kernel
theorem dL_areAllSo_13 : decode cL_areAllSo 13 = .ok (.invokevirtual 156, 3) := by decide +kernel
theorem dL_areAllSo_16 : decode cL_areAllSo 16 = .ok (.istore 6, 2) := by decide +kernel
theorem dL_areAllSo_18 : decode cL_areAllSo 18 = .ok (.iconst 1, 1) := by decide +kernel
theorem dL_areAllSo_19 : decode cL_areAllSo 19 = .ok (.istore 7, 2) := by decide +kernel
theorem dL_areAllSo_21 : decode cL_areAllSo 21 = .ok (.iconst 0, 1) := by decide +kernel
theorem dL_areAllSo_22 : decode cL_areAllSo 22 = .ok (.istore 8, 2) := by decide +kernel
theorem dL_areAllSo_24 : decode cL_areAllSo 24 = .ok (.iload 8, 2) := by decide +kernel
theorem dL_areAllSo_26 : decode cL_areAllSo 26 = .ok (.bipush 49, 2) := by decide +kernel
theorem dL_areAllSo_28 : decode cL_areAllSo 28 = .ok (.if_icmp .ge 167, 3) := by decide +kernel
theorem dL_areAllSo_31 : decode cL_areAllSo 31 = .ok (.iload_n 1, 1) := by decide +kernel
theorem dL_areAllSo_32 : decode cL_areAllSo 32 = .ok (.aload_n 0, 1) := by decide +kernel
theorem dL_areAllSo_33 : decode cL_areAllSo 33 = .ok (.iload 8, 2) := by decide +kernel
theorem dL_areAllSo_35 : decode cL_areAllSo 35 = .ok (.invokestatic 42, 3) := by decide +kernel
theorem dL_areAllSo_38 : decode cL_areAllSo 38 = .ok (.iadd, 1) := by decide +kernel
theorem dL_areAllSo_39 : decode cL_areAllSo 39 = .ok (.istore_n 1, 1) := by decide +kernel
theorem dL_areAllSo_40 : decode cL_areAllSo 40 = .ok (.iload_n 2, 1) := by decide +kernel
theorem dL_areAllSo_41 : decode cL_areAllSo 41 = .ok (.aload_n 0, 1) := by decide +kernel
theorem dL_areAllSo_42 : decode cL_areAllSo 42 = .ok (.iload 8, 2) := by decide +kernel
theorem dL_areAllSo_44 : decode cL_areAllSo 44 = .ok (.bipush 7, 2) := by decide +kernel
theorem dL_areAllSo_46 : decode cL_areAllSo 46 = .ok (.idiv, 1) := by decide +kernel
theorem dL_areAllSo_47 : decode cL_areAllSo 47 = .ok (.iload 8, 2) := by decide +kernel
theorem dL_areAllSo_49 : decode cL_areAllSo 49 = .ok (.bipush 7, 2) := by decide +kernel
theorem dL_areAllSo_51 : decode cL_areAllSo 51 = .ok (.irem, 1) := by decide +kernel
theorem dL_areAllSo_52 : decode cL_areAllSo 52 = .ok (.invokevirtual 107, 3) := by decide +kernel
theorem dL_areAllSo_55 : decode cL_areAllSo 55 = .ok (.ifCond .eq 7, 3) := by decide +kernel
theorem dL_areAllSo_58 : decode cL_areAllSo 58 = .ok (.iconst 1, 1) := by decide +kernel
theorem dL_areAllSo_59 : decode cL_areAllSo 59 = .ok (.goto 4, 3) := by decide +kernel
theorem dL_areAllSo_62 : decode cL_areAllSo 62 = .ok (.iconst 0, 1) := by decide +kernel
theorem dL_areAllSo_63 : decode cL_areAllSo 63 = .ok (.iadd, 1) := by decide +kernel
theorem dL_areAllSo_64 : decode cL_areAllSo 64 = .ok (.istore_n 2, 1) := by decide +kernel
theorem dL_areAllSo_65 : decode cL_areAllSo 65 = .ok (.iload_n 3, 1) := by decide +kernel
theorem dL_areAllSo_66 : decode cL_areAllSo 66 = .ok (.aload_n 0, 1) := by decide +kernel
theorem dL_areAllSo_67 : decode cL_areAllSo 67 = .ok (.iload 8, 2) := by decide +kernel
theorem dL_areAllSo_69 : decode cL_areAllSo 69 = .ok (.bipush 7, 2) := by decide +kernel
theorem dL_areAllSo_71 : decode cL_areAllSo 71 = .ok (.idiv, 1) := by decide +kernel
theorem dL_areAllSo_72 : decode cL_areAllSo 72 = .ok (.iload 8, 2) := by decide +kernel
theorem dL_areAllSo_74 : decode cL_areAllSo 74 = .ok (.bipush 7, 2) := by decide +kernel
theorem dL_areAllSo_76 : decode cL_areAllSo 76 = .ok (.irem, 1) := by decide +kernel
theorem dL_areAllSo_77 : decode cL_areAllSo 77 = .ok (.invokevirtual 114, 3) := by decide +kernel
theorem dL_areAllSo_80 : decode cL_areAllSo 80 = .ok (.iadd, 1) := by decide +kernel
theorem dL_areAllSo_81 : decode cL_areAllSo 81 = .ok (.istore_n 3, 1) := by decide +kernel
theorem dL_areAllSo_82 : decode cL_areAllSo 82 = .ok (.iload 4, 2) := by decide +kernel
theorem dL_areAllSo_84 : decode cL_areAllSo 84 = .ok (.aload_n 0, 1) := by decide +kernel
theorem dL_areAllSo_85 : decode cL_areAllSo 85 = .ok (.iload 8, 2) := by decide +kernel
theorem dL_areAllSo_87 : decode cL_areAllSo 87 = .ok (.bipush 7, 2) := by decide +kernel
theorem dL_areAllSo_89 : decode cL_areAllSo 89 = .ok (.idiv, 1) := by decide +kernel
theorem dL_areAllSo_90 : decode cL_areAllSo 90 = .ok (.iload 8, 2) := by decide +kernel
theorem dL_areAllSo_92 : decode cL_areAllSo 92 = .ok (.bipush 7, 2) := by decide +kernel
theorem dL_areAllSo_94 : decode cL_areAllSo 94 = .ok (.irem, 1) := by decide +kernel
theorem dL_areAllSo_95 : decode cL_areAllSo 95 = .ok (.invokevirtual 132, 3) := by decide +kernel
theorem dL_areAllSo_98 : decode cL_areAllSo 98 = .ok (.iadd, 1) := by decide +kernel
theorem dL_areAllSo_99 : decode cL_areAllSo 99 = .ok (.istore 4, 2) := by decide +kernel
theorem dL_areAllSo_101 : decode cL_areAllSo 101 = .ok (.iload 5, 2) := by decide +kernel
theorem dL_areAllSo_103 : decode cL_areAllSo 103 = .ok (.aload_n 0, 1) := by decide +kernel
theorem dL_areAllSo_104 : decode cL_areAllSo 104 = .ok (.iload 8, 2) := by decide +kernel
theorem dL_areAllSo_106 : decode cL_areAllSo 106 = .ok (.bipush 7, 2) := by decide +kernel
theorem dL_areAllSo_108 : decode cL_areAllSo 108 = .ok (.idiv, 1) := by decide +kernel
theorem dL_areAllSo_109 : decode cL_areAllSo 109 = .ok (.iload 8, 2) := by decide +kernel
theorem dL_areAllSo_111 : decode cL_areAllSo 111 = .ok (.bipush 7, 2) := by decide +kernel
theorem dL_areAllSo_113 : decode cL_areAllSo 113 = .ok (.irem, 1) := by decide +kernel
theorem dL_areAllSo_114 : decode cL_areAllSo 114 = .ok (.invokevirtual 52, 3) := by decide +kernel
theorem dL_areAllSo_117 : decode cL_areAllSo 117 = .ok (.iadd, 1) := by decide +kernel
theorem dL_areAllSo_118 : decode cL_areAllSo 118 = .ok (.istore 5, 2) := by decide +kernel
theorem dL_areAllSo_120 : decode cL_areAllSo 120 = .ok (.iload 7, 2) := by decide +kernel
theorem dL_areAllSo_122 : decode cL_areAllSo 122 = .ok (.ifCond .eq 64, 3) := by decide +kernel
theorem dL_areAllSo_125 : decode cL_areAllSo 125 = .ok (.aload_n 0, 1) := by decide +kernel
theorem dL_areAllSo_126 : decode cL_areAllSo 126 = .ok (.iload 8, 2) := by decide +kernel
theorem dL_areAllSo_128 : decode cL_areAllSo 128 = .ok (.invokestatic 42, 3) := by decide +kernel
theorem dL_areAllSo_131 : decode cL_areAllSo 131 = .ok (.ifCond .lt 55, 3) := by decide +kernel
theorem dL_areAllSo_134 : decode cL_areAllSo 134 = .ok (.aload_n 0, 1) := by decide +kernel
theorem dL_areAllSo_135 : decode cL_areAllSo 135 = .ok (.iload 8, 2) := by decide +kernel
theorem dL_areAllSo_137 : decode cL_areAllSo 137 = .ok (.invokestatic 42, 3) := by decide +kernel
theorem dL_areAllSo_140 : decode cL_areAllSo 140 = .ok (.bipush 100, 2) := by decide +kernel
theorem dL_areAllSo_142 : decode cL_areAllSo 142 = .ok (.if_icmp .ge 44, 3) := by decide +kernel
theorem dL_areAllSo_145 : decode cL_areAllSo 145 = .ok (.aload_n 0, 1) := by decide +kernel
theorem dL_areAllSo_146 : decode cL_areAllSo 146 = .ok (.iload 8, 2) := by decide +kernel
theorem dL_areAllSo_148 : decode cL_areAllSo 148 = .ok (.invokestatic 42, 3) := by decide +kernel
theorem dL_areAllSo_151 : decode cL_areAllSo 151 = .ok (.aload_n 0, 1) := by decide +kernel
theorem dL_areAllSo_152 : decode cL_areAllSo 152 = .ok (.iload 6, 2) := by decide +kernel
theorem dL_areAllSo_154 : decode cL_areAllSo 154 = .ok (.invokestatic 42, 3) := by decide +kernel
theorem dL_areAllSo_157 : decode cL_areAllSo 157 = .ok (.if_icmp .lt 25, 3) := by decide +kernel
theorem dL_areAllSo_160 : decode cL_areAllSo 160 = .ok (.aload_n 0, 1) := by decide +kernel
theorem dL_areAllSo_161 : decode cL_areAllSo 161 = .ok (.iload 8, 2) := by decide +kernel
theorem dL_areAllSo_163 : decode cL_areAllSo 163 = .ok (.invokestatic 42, 3) := by decide +kernel
theorem dL_areAllSo_166 : decode cL_areAllSo 166 = .ok (.aload_n 0, 1) := by decide +kernel
theorem dL_areAllSo_167 : decode cL_areAllSo 167 = .ok (.iload 6, 2) := by decide +kernel
theorem dL_areAllSo_169 : decode cL_areAllSo 169 = .ok (.invokestatic 42, 3) := by decide +kernel
theorem dL_areAllSo_172 : decode cL_areAllSo 172 = .ok (.if_icmp .ne 14, 3) := by decide +kernel
theorem dL_areAllSo_175 : decode cL_areAllSo 175 = .ok (.iload 8, 2) := by decide +kernel
theorem dL_areAllSo_177 : decode cL_areAllSo 177 = .ok (.iload 6, 2) := by decide +kernel
theorem dL_areAllSo_179 : decode cL_areAllSo 179 = .ok (.if_icmp .lt 7, 3) := by decide +kernel
theorem dL_areAllSo_182 : decode cL_areAllSo 182 = .ok (.iconst 1, 1) := by decide +kernel
theorem dL_areAllSo_183 : decode cL_areAllSo 183 = .ok (.goto 4, 3) := by decide +kernel
theorem dL_areAllSo_186 : decode cL_areAllSo 186 = .ok (.iconst 0, 1) := by decide +kernel
theorem dL_areAllSo_187 : decode cL_areAllSo 187 = .ok (.istore 7, 2) := by decide +kernel
theorem dL_areAllSo_189 : decode cL_areAllSo 189 = .ok (.iinc 8 1, 3) := by decide +kernel
theorem dL_areAllSo_192 : decode cL_areAllSo 192 = .ok (.goto (-168), 3) := by decide +kernel
theorem dL_areAllSo_195 : decode cL_areAllSo 195 = .ok (.iload 7, 2) := by decide +kernel
theorem dL_areAllSo_197 : decode cL_areAllSo 197 = .ok (.ifCond .eq 63, 3) := by decide +kernel
theorem dL_areAllSo_200 : decode cL_areAllSo 200 = .ok (.aload_n 0, 1) := by decide +kernel
theorem dL_areAllSo_201 : decode cL_areAllSo 201 = .ok (.invokevirtual 46, 3) := by decide +kernel
theorem dL_areAllSo_204 : decode cL_areAllSo 204 = .ok (.iload_n 1, 1) := by decide +kernel
theorem dL_areAllSo_205 : decode cL_areAllSo 205 = .ok (.if_icmp .ne 55, 3) := by decide +kernel
theorem dL_areAllSo_208 : decode cL_areAllSo 208 = .ok (.aload_n 0, 1) := by decide +kernel
theorem dL_areAllSo_209 : decode cL_areAllSo 209 = .ok (.invokevirtual 159, 3) := by decide +kernel
theorem dL_areAllSo_212 : decode cL_areAllSo 212 = .ok (.iload_n 2, 1) := by decide +kernel
theorem dL_areAllSo_213 : decode cL_areAllSo 213 = .ok (.if_icmp .ne 47, 3) := by decide +kernel
theorem dL_areAllSo_216 : decode cL_areAllSo 216 = .ok (.iload_n 3, 1) := by decide +kernel
theorem dL_areAllSo_217 : decode cL_areAllSo 217 = .ok (.bipush 49, 2) := by decide +kernel
theorem dL_areAllSo_219 : decode cL_areAllSo 219 = .ok (.if_icmp .ne 41, 3) := by decide +kernel
theorem dL_areAllSo_222 : decode cL_areAllSo 222 = .ok (.aload_n 0, 1) := by decide +kernel
theorem dL_areAllSo_223 : decode cL_areAllSo 223 = .ok (.invokevirtual 59, 3) := by decide +kernel
theorem dL_areAllSo_226 : decode cL_areAllSo 226 = .ok (.iload 4, 2) := by decide +kernel
theorem dL_areAllSo_228 : decode cL_areAllSo 228 = .ok (.if_icmp .ne 32, 3) := by decide +kernel
theorem dL_areAllSo_231 : decode cL_areAllSo 231 = .ok (.aload_n 0, 1) := by decide +kernel
theorem dL_areAllSo_232 : decode cL_areAllSo 232 = .ok (.invokevirtual 62, 3) := by decide +kernel
theorem dL_areAllSo_235 : decode cL_areAllSo 235 = .ok (.ifCond .ne 7, 3) := by decide +kernel
theorem dL_areAllSo_238 : decode cL_areAllSo 238 = .ok (.iconst 1, 1) := by decide +kernel
theorem dL_areAllSo_239 : decode cL_areAllSo 239 = .ok (.goto 4, 3) := by decide +kernel
theorem dL_areAllSo_242 : decode cL_areAllSo 242 = .ok (.iconst 0, 1) := by decide +kernel
theorem dL_areAllSo_243 : decode cL_areAllSo 243 = .ok (.iload 4, 2) := by decide +kernel
theorem dL_areAllSo_245 : decode cL_areAllSo 245 = .ok (.ifCond .ne 7, 3) := by decide +kernel
theorem dL_areAllSo_248 : decode cL_areAllSo 248 = .ok (.iconst 1, 1) := by decide +kernel
theorem dL_areAllSo_249 : decode cL_areAllSo 249 = .ok (.goto 4, 3) := by decide +kernel
theorem dL_areAllSo_252 : decode cL_areAllSo 252 = .ok (.iconst 0, 1) := by decide +kernel
theorem dL_areAllSo_253 : decode cL_areAllSo 253 = .ok (.if_icmp .ne 7, 3) := by decide +kernel
theorem dL_areAllSo_256 : decode cL_areAllSo 256 = .ok (.iconst 1, 1) := by decide +kernel
theorem dL_areAllSo_257 : decode cL_areAllSo 257 = .ok (.goto 4, 3) := by decide +kernel
theorem dL_areAllSo_260 : decode cL_areAllSo 260 = .ok (.iconst 0, 1) := by decide +kernel
theorem dL_areAllSo_261 : decode cL_areAllSo 261 = .ok (.istore 7, 2) := by decide +kernel
theorem dL_areAllSo_263 : decode cL_areAllSo 263 = .ok (.iload 7, 2) := by decide +kernel
theorem dL_areAllSo_265 : decode cL_areAllSo 265 = .ok (.ifCond .eq 41, 3) := by decide +kernel
theorem dL_areAllSo_268 : decode cL_areAllSo 268 = .ok (.aload_n 0, 1) := by decide +kernel
theorem dL_areAllSo_269 : decode cL_areAllSo 269 = .ok (.invokevirtual 162, 3) := by decide +kernel
theorem dL_areAllSo_272 : decode cL_areAllSo 272 = .ok (.ldc2_w 166, 3) := by decide +kernel
theorem dL_areAllSo_275 : decode cL_areAllSo 275 = .ok (.dmul, 1) := by decide +kernel
theorem dL_areAllSo_276 : decode cL_areAllSo 276 = .ok (.iload 5, 2) := by decide +kernel
theorem dL_areAllSo_278 : decode cL_areAllSo 278 = .ok (.iconst 1, 1) := by decide +kernel
theorem dL_areAllSo_279 : decode cL_areAllSo 279 = .ok (.isub, 1) := by decide +kernel
theorem dL_areAllSo_280 : decode cL_areAllSo 280 = .ok (.i2d, 1) := by decide +kernel
theorem dL_areAllSo_281 : decode cL_areAllSo 281 = .ok (.dcmp .l, 1) := by decide +kernel
theorem dL_areAllSo_282 : decode cL_areAllSo 282 = .ok (.ifCond .le 24, 3) := by decide +kernel
theorem dL_areAllSo_285 : decode cL_areAllSo 285 = .ok (.aload_n 0, 1) := by decide +kernel
theorem dL_areAllSo_286 : decode cL_areAllSo 286 = .ok (.invokevirtual 162, 3) := by decide +kernel
theorem dL_areAllSo_289 : decode cL_areAllSo 289 = .ok (.ldc2_w 166, 3) := by decide +kernel
theorem dL_areAllSo_292 : decode cL_areAllSo 292 = .ok (.dmul, 1) := by decide +kernel
theorem dL_areAllSo_293 : decode cL_areAllSo 293 = .ok (.iload 5, 2) := by decide +kernel
theorem dL_areAllSo_295 : decode cL_areAllSo 295 = .ok (.iconst 1, 1) := by decide +kernel
theorem dL_areAllSo_296 : decode cL_areAllSo 296 = .ok (.iadd, 1) := by decide +kernel
theorem dL_areAllSo_297 : decode cL_areAllSo 297 = .ok (.i2d, 1) := by decide +kernel
theorem dL_areAllSo_298 : decode cL_areAllSo 298 = .ok (.dcmp .g, 1) := by decide +kernel
theorem dL_areAllSo_299 : decode cL_areAllSo 299 = .ok (.ifCond .ge 7, 3) := by decide +kernel
theorem dL_areAllSo_302 : decode cL_areAllSo 302 = .ok (.iconst 1, 1) := by decide +kernel
theorem dL_areAllSo_303 : decode cL_areAllSo 303 = .ok (.goto 4, 3) := by decide +kernel
theorem dL_areAllSo_306 : decode cL_areAllSo 306 = .ok (.iconst 0, 1) := by decide +kernel
theorem dL_areAllSo_307 : decode cL_areAllSo 307 = .ok (.ireturn, 1) := by decide +kernel
theorem dL_law_0 : decode cL_law 0 = .ok (.new 9, 3) := by decide +kernel
theorem dL_law_3 : decode cL_law 3 = .ok (.dup, 1) := by decide +kernel
theorem dL_law_4 : decode cL_law 4 = .ok (.invokespecial 168, 3) := by decide +kernel
theorem dL_law_7 : decode cL_law 7 = .ok (.astore_n 1, 1) := by decide +kernel
theorem dL_law_8 : decode cL_law 8 = .ok (.iconst 0, 1) := by decide +kernel
theorem dL_law_9 : decode cL_law 9 = .ok (.istore_n 2, 1) := by decide +kernel
theorem dL_law_10 : decode cL_law 10 = .ok (.iload_n 2, 1) := by decide +kernel
theorem dL_law_11 : decode cL_law 11 = .ok (.bipush 30, 2) := by decide +kernel
theorem dL_law_13 : decode cL_law 13 = .ok (.if_icmp .ge 125, 3) := by decide +kernel
theorem dL_law_16 : decode cL_law 16 = .ok (.aload_n 0, 1) := by decide +kernel
theorem dL_law_17 : decode cL_law 17 = .ok (.iload_n 2, 1) := by decide +kernel
theorem dL_law_18 : decode cL_law 18 = .ok (.invokestatic 169, 3) := by decide +kernel
theorem dL_law_21 : decode cL_law 21 = .ok (.istore_n 3, 1) := by decide +kernel
theorem dL_law_22 : decode cL_law 22 = .ok (.aload_n 0, 1) := by decide +kernel
theorem dL_law_23 : decode cL_law 23 = .ok (.iload_n 2, 1) := by decide +kernel
theorem dL_law_24 : decode cL_law 24 = .ok (.bipush 30, 2) := by decide +kernel
theorem dL_law_26 : decode cL_law 26 = .ok (.iadd, 1) := by decide +kernel
theorem dL_law_27 : decode cL_law 27 = .ok (.invokestatic 169, 3) := by decide +kernel
theorem dL_law_30 : decode cL_law 30 = .ok (.istore 4, 2) := by decide +kernel
theorem dL_law_32 : decode cL_law 32 = .ok (.aload_n 1, 1) := by decide +kernel
theorem dL_law_33 : decode cL_law 33 = .ok (.iload_n 3, 1) := by decide +kernel
theorem dL_law_34 : decode cL_law 34 = .ok (.iload 4, 2) := by decide +kernel
theorem dL_law_36 : decode cL_law 36 = .ok (.invokestatic 173, 3) := by decide +kernel
theorem dL_law_39 : decode cL_law 39 = .ok (.ifCond .eq 91, 3) := by decide +kernel
theorem dL_law_42 : decode cL_law 42 = .ok (.aload_n 1, 1) := by decide +kernel
theorem dL_law_43 : decode cL_law 43 = .ok (.iload_n 2, 1) := by decide +kernel
theorem dL_law_44 : decode cL_law 44 = .ok (.iconst 3, 1) := by decide +kernel
theorem dL_law_45 : decode cL_law 45 = .ok (.irem, 1) := by decide +kernel
theorem dL_law_46 : decode cL_law 46 = .ok (.ifCond .ne 15, 3) := by decide +kernel
theorem dL_law_49 : decode cL_law 49 = .ok (.iload 4, 2) := by decide +kernel
theorem dL_law_51 : decode cL_law 51 = .ok (.iconst 2, 1) := by decide +kernel
theorem dL_law_52 : decode cL_law 52 = .ok (.ishr, 1) := by decide +kernel
theorem dL_law_53 : decode cL_law 53 = .ok (.bipush 99, 2) := by decide +kernel
theorem dL_law_55 : decode cL_law 55 = .ok (.invokestatic 14, 3) := by decide +kernel
theorem dL_law_58 : decode cL_law 58 = .ok (.goto 12, 3) := by decide +kernel
theorem dL_law_61 : decode cL_law 61 = .ok (.iload 4, 2) := by decide +kernel
theorem dL_law_63 : decode cL_law 63 = .ok (.iconst 3, 1) := by decide +kernel
theorem dL_law_64 : decode cL_law 64 = .ok (.ishr, 1) := by decide +kernel
theorem dL_law_65 : decode cL_law 65 = .ok (.bipush 30, 2) := by decide +kernel
theorem dL_law_67 : decode cL_law 67 = .ok (.invokestatic 14, 3) := by decide +kernel
theorem dL_law_70 : decode cL_law 70 = .ok (.invokestatic 177, 3) := by decide +kernel
theorem dL_law_73 : decode cL_law 73 = .ok (.ifCond .eq 57, 3) := by decide +kernel
theorem dL_law_76 : decode cL_law 76 = .ok (.aload_n 1, 1) := by decide +kernel
theorem dL_law_77 : decode cL_law 77 = .ok (.iload_n 3, 1) := by decide +kernel
theorem dL_law_78 : decode cL_law 78 = .ok (.iconst 3, 1) := by decide +kernel
theorem dL_law_79 : decode cL_law 79 = .ok (.ishr, 1) := by decide +kernel
theorem dL_law_80 : decode cL_law 80 = .ok (.bipush 49, 2) := by decide +kernel
theorem dL_law_82 : decode cL_law 82 = .ok (.invokestatic 14, 3) := by decide +kernel
theorem dL_law_85 : decode cL_law 85 = .ok (.invokestatic 180, 3) := by decide +kernel
theorem dL_law_88 : decode cL_law 88 = .ok (.ifCond .eq 42, 3) := by decide +kernel
theorem dL_law_91 : decode cL_law 91 = .ok (.aload_n 1, 1) := by decide +kernel
theorem dL_law_92 : decode cL_law 92 = .ok (.iload 4, 2) := by decide +kernel
theorem dL_law_94 : decode cL_law 94 = .ok (.iconst 1, 1) := by decide +kernel
theorem dL_law_95 : decode cL_law 95 = .ok (.ishr, 1) := by decide +kernel
theorem dL_law_96 : decode cL_law 96 = .ok (.bipush 49, 2) := by decide +kernel
theorem dL_law_98 : decode cL_law 98 = .ok (.invokestatic 14, 3) := by decide +kernel
theorem dL_law_101 : decode cL_law 101 = .ok (.iload_n 3, 1) := by decide +kernel
theorem dL_law_102 : decode cL_law 102 = .ok (.iconst 2, 1) := by decide +kernel
theorem dL_law_103 : decode cL_law 103 = .ok (.ishr, 1) := by decide +kernel
theorem dL_law_104 : decode cL_law 104 = .ok (.bipush 49, 2) := by decide +kernel
theorem dL_law_106 : decode cL_law 106 = .ok (.invokestatic 14, 3) := by decide +kernel
theorem dL_law_109 : decode cL_law 109 = .ok (.invokestatic 183, 3) := by decide +kernel
theorem dL_law_112 : decode cL_law 112 = .ok (.ifCond .eq 18, 3) := by decide +kernel
theorem dL_law_115 : decode cL_law 115 = .ok (.iload_n 2, 1) := by decide +kernel
theorem dL_law_116 : decode cL_law 116 = .ok (.bipush 6, 2) := by decide +kernel
theorem dL_law_118 : decode cL_law 118 = .ok (.irem, 1) := by decide +kernel
theorem dL_law_119 : decode cL_law 119 = .ok (.iconst 5, 1) := by decide +kernel
theorem dL_law_120 : decode cL_law 120 = .ok (.if_icmp .ne 12, 3) := by decide +kernel
theorem dL_law_123 : decode cL_law 123 = .ok (.aload_n 1, 1) := by decide +kernel
theorem dL_law_124 : decode cL_law 124 = .ok (.invokestatic 186, 3) := by decide +kernel
theorem dL_law_127 : decode cL_law 127 = .ok (.ifCond .ne 5, 3) := by decide +kernel
theorem dL_law_130 : decode cL_law 130 = .ok (.iconst 0, 1) := by decide +kernel
theorem dL_law_131 : decode cL_law 131 = .ok (.ireturn, 1) := by decide +kernel
theorem dL_law_132 : decode cL_law 132 = .ok (.iinc 2 1, 3) := by decide +kernel
theorem dL_law_135 : decode cL_law 135 = .ok (.goto (-125), 3) := by decide +kernel
theorem dL_law_138 : decode cL_law 138 = .ok (.iconst 1, 1) := by decide +kernel
theorem dL_law_139 : decode cL_law 139 = .ok (.ireturn, 1) := by decide +kernel
