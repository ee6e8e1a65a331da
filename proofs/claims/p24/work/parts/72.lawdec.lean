theorem dL_cell_0 : decode cL_cell 0 = .ok (.iload_n 1, 1) := by decide +kernel
theorem dL_cell_1 : decode cL_cell 1 = .ok (.aload_n 0, 1) := by decide +kernel
theorem dL_cell_2 : decode cL_cell 2 = .ok (.arraylength, 1) := by decide +kernel
theorem dL_cell_3 : decode cL_cell 3 = .ok (.if_icmp .ge 9, 3) := by decide +kernel
theorem dL_cell_6 : decode cL_cell 6 = .ok (.aload_n 0, 1) := by decide +kernel
theorem dL_cell_7 : decode cL_cell 7 = .ok (.iload_n 1, 1) := by decide +kernel
theorem dL_cell_8 : decode cL_cell 8 = .ok (.iaload, 1) := by decide +kernel
theorem dL_cell_9 : decode cL_cell 9 = .ok (.goto 11, 3) := by decide +kernel
theorem dL_cell_12 : decode cL_cell 12 = .ok (.ldc 7, 2) := by decide +kernel
theorem dL_cell_14 : decode cL_cell 14 = .ok (.iload_n 1, 1) := by decide +kernel
theorem dL_cell_15 : decode cL_cell 15 = .ok (.sipush 887, 3) := by decide +kernel
theorem dL_cell_18 : decode cL_cell 18 = .ok (.iadd, 1) := by decide +kernel
theorem dL_cell_19 : decode cL_cell 19 = .ok (.imul, 1) := by decide +kernel
theorem dL_cell_20 : decode cL_cell 20 = .ok (.ireturn, 1) := by decide +kernel
theorem dL_up_0 : decode cL_up 0 = .ok (.iload_n 0, 1) := by decide +kernel
theorem dL_up_1 : decode cL_up 1 = .ok (.ldc 8, 2) := by decide +kernel
theorem dL_up_3 : decode cL_up 3 = .ok (.iand, 1) := by decide +kernel
theorem dL_up_4 : decode cL_up 4 = .ok (.iload_n 1, 1) := by decide +kernel
theorem dL_up_5 : decode cL_up 5 = .ok (.irem, 1) := by decide +kernel
theorem dL_up_6 : decode cL_up 6 = .ok (.ireturn, 1) := by decide +kernel
theorem dL_bits_0 : decode cL_bits 0 = .ok (.iconst 0, 1) := by decide +kernel
theorem dL_bits_1 : decode cL_bits 1 = .ok (.istore_n 1, 1) := by decide +kernel
theorem dL_bits_2 : decode cL_bits 2 = .ok (.iconst 0, 1) := by decide +kernel
theorem dL_bits_3 : decode cL_bits 3 = .ok (.istore_n 2, 1) := by decide +kernel
theorem dL_bits_4 : decode cL_bits 4 = .ok (.iload_n 2, 1) := by decide +kernel
theorem dL_bits_5 : decode cL_bits 5 = .ok (.bipush 16, 2) := by decide +kernel
theorem dL_bits_7 : decode cL_bits 7 = .ok (.if_icmp .ge 17, 3) := by decide +kernel
theorem dL_bits_10 : decode cL_bits 10 = .ok (.iload_n 1, 1) := by decide +kernel
theorem dL_bits_11 : decode cL_bits 11 = .ok (.iload_n 0, 1) := by decide +kernel
theorem dL_bits_12 : decode cL_bits 12 = .ok (.iload_n 2, 1) := by decide +kernel
theorem dL_bits_13 : decode cL_bits 13 = .ok (.ishr, 1) := by decide +kernel
theorem dL_bits_14 : decode cL_bits 14 = .ok (.iconst 1, 1) := by decide +kernel
theorem dL_bits_15 : decode cL_bits 15 = .ok (.iand, 1) := by decide +kernel
theorem dL_bits_16 : decode cL_bits 16 = .ok (.iadd, 1) := by decide +kernel
theorem dL_bits_17 : decode cL_bits 17 = .ok (.istore_n 1, 1) := by decide +kernel
theorem dL_bits_18 : decode cL_bits 18 = .ok (.iinc 2 1, 3) := by decide +kernel
theorem dL_bits_21 : decode cL_bits 21 = .ok (.goto (-17), 3) := by decide +kernel
theorem dL_bits_24 : decode cL_bits 24 = .ok (.iload_n 1, 1) := by decide +kernel
theorem dL_bits_25 : decode cL_bits 25 = .ok (.ireturn, 1) := by decide +kernel
theorem dL_there_0 : decode cL_there 0 = .ok (.iconst 0, 1) := by decide +kernel
theorem dL_there_1 : decode cL_there 1 = .ok (.istore_n 2, 1) := by decide +kernel
theorem dL_there_2 : decode cL_there 2 = .ok (.iconst 0, 1) := by decide +kernel
theorem dL_there_3 : decode cL_there 3 = .ok (.istore_n 3, 1) := by decide +kernel
theorem dL_there_4 : decode cL_there 4 = .ok (.iload_n 3, 1) := by decide +kernel
theorem dL_there_5 : decode cL_there 5 = .ok (.iload_n 1, 1) := by decide +kernel
theorem dL_there_6 : decode cL_there 6 = .ok (.if_icmp .ge 23, 3) := by decide +kernel
theorem dL_there_9 : decode cL_there 9 = .ok (.iload_n 2, 1) := by decide +kernel
theorem dL_there_10 : decode cL_there 10 = .ok (.iload_n 0, 1) := by decide +kernel
theorem dL_there_11 : decode cL_there 11 = .ok (.iload_n 3, 1) := by decide +kernel
theorem dL_there_12 : decode cL_there 12 = .ok (.ishr, 1) := by decide +kernel
theorem dL_there_13 : decode cL_there 13 = .ok (.iconst 1, 1) := by decide +kernel
theorem dL_there_14 : decode cL_there 14 = .ok (.iand, 1) := by decide +kernel
theorem dL_there_15 : decode cL_there 15 = .ok (.iload_n 1, 1) := by decide +kernel
theorem dL_there_16 : decode cL_there 16 = .ok (.iconst 1, 1) := by decide +kernel
theorem dL_there_17 : decode cL_there 17 = .ok (.isub, 1) := by decide +kernel
theorem dL_there_18 : decode cL_there 18 = .ok (.iload_n 3, 1) := by decide +kernel
theorem dL_there_19 : decode cL_there 19 = .ok (.isub, 1) := by decide +kernel
theorem dL_there_20 : decode cL_there 20 = .ok (.ishl, 1) := by decide +kernel
theorem dL_there_21 : decode cL_there 21 = .ok (.ior, 1) := by decide +kernel
theorem dL_there_22 : decode cL_there 22 = .ok (.istore_n 2, 1) := by decide +kernel
theorem dL_there_23 : decode cL_there 23 = .ok (.iinc 3 1, 3) := by decide +kernel
theorem dL_there_26 : decode cL_there 26 = .ok (.goto (-22), 3) := by decide +kernel
theorem dL_there_29 : decode cL_there 29 = .ok (.iload_n 2, 1) := by decide +kernel
theorem dL_there_30 : decode cL_there 30 = .ok (.ireturn, 1) := by decide +kernel
theorem dL_isStep_0 : decode cL_isStep 0 = .ok (.iload_n 3, 1) := by decide +kernel
theorem dL_isStep_1 : decode cL_isStep 1 = .ok (.iconst 4, 1) := by decide +kernel
theorem dL_isStep_2 : decode cL_isStep 2 = .ok (.ishr, 1) := by decide +kernel
theorem dL_isStep_3 : decode cL_isStep 3 = .ok (.istore 4, 2) := by decide +kernel
theorem dL_isStep_5 : decode cL_isStep 5 = .ok (.aload_n 0, 1) := by decide +kernel
theorem dL_isStep_6 : decode cL_isStep 6 = .ok (.iconst 1, 1) := by decide +kernel
theorem dL_isStep_7 : decode cL_isStep 7 = .ok (.invokevirtual 9, 3) := by decide +kernel
theorem dL_isStep_10 : decode cL_isStep 10 = .ok (.istore 5, 2) := by decide +kernel
theorem dL_isStep_12 : decode cL_isStep 12 = .ok (.aload_n 0, 1) := by decide +kernel
theorem dL_isStep_13 : decode cL_isStep 13 = .ok (.iconst 2, 1) := by decide +kernel
theorem dL_isStep_14 : decode cL_isStep 14 = .ok (.invokevirtual 9, 3) := by decide +kernel
theorem dL_isStep_17 : decode cL_isStep 17 = .ok (.istore 6, 2) := by decide +kernel
theorem dL_isStep_19 : decode cL_isStep 19 = .ok (.iload_n 3, 1) := by decide +kernel
theorem dL_isStep_20 : decode cL_isStep 20 = .ok (.bipush 14, 2) := by decide +kernel
theorem dL_isStep_22 : decode cL_isStep 22 = .ok (.invokestatic 15, 3) := by decide +kernel
theorem dL_isStep_25 : decode cL_isStep 25 = .ok (.istore 7, 2) := by decide +kernel
theorem dL_isStep_27 : decode cL_isStep 27 = .ok (.iload 7, 2) := by decide +kernel
theorem dL_isStep_29 : decode cL_isStep 29 = .ok (.bipush 9, 2) := by decide +kernel
theorem dL_isStep_31 : decode cL_isStep 31 = .ok (.if_icmp .ge 166, 3) := by decide +kernel
theorem dL_isStep_34 : decode cL_isStep 34 = .ok (.iload 4, 2) := by decide +kernel
theorem dL_isStep_36 : decode cL_isStep 36 = .ok (.iload_n 2, 1) := by decide +kernel
theorem dL_isStep_37 : decode cL_isStep 37 = .ok (.invokestatic 15, 3) := by decide +kernel
theorem dL_isStep_40 : decode cL_isStep 40 = .ok (.istore 8, 2) := by decide +kernel
theorem dL_isStep_42 : decode cL_isStep 42 = .ok (.iload 4, 2) := by decide +kernel
theorem dL_isStep_44 : decode cL_isStep 44 = .ok (.iconst 4, 1) := by decide +kernel
theorem dL_isStep_45 : decode cL_isStep 45 = .ok (.ishr, 1) := by decide +kernel
theorem dL_isStep_46 : decode cL_isStep 46 = .ok (.iconst 3, 1) := by decide +kernel
theorem dL_isStep_47 : decode cL_isStep 47 = .ok (.invokestatic 15, 3) := by decide +kernel
theorem dL_isStep_50 : decode cL_isStep 50 = .ok (.ifCond .ne 15, 3) := by decide +kernel
theorem dL_isStep_53 : decode cL_isStep 53 = .ok (.iload 4, 2) := by decide +kernel
theorem dL_isStep_55 : decode cL_isStep 55 = .ok (.bipush 6, 2) := by decide +kernel
theorem dL_isStep_57 : decode cL_isStep 57 = .ok (.ishr, 1) := by decide +kernel
theorem dL_isStep_58 : decode cL_isStep 58 = .ok (.iload_n 2, 1) := by decide +kernel
theorem dL_isStep_59 : decode cL_isStep 59 = .ok (.invokestatic 15, 3) := by decide +kernel
theorem dL_isStep_62 : decode cL_isStep 62 = .ok (.goto 19, 3) := by decide +kernel
theorem dL_isStep_65 : decode cL_isStep 65 = .ok (.iload 8, 2) := by decide +kernel
theorem dL_isStep_67 : decode cL_isStep 67 = .ok (.iconst 1, 1) := by decide +kernel
theorem dL_isStep_68 : decode cL_isStep 68 = .ok (.iadd, 1) := by decide +kernel
theorem dL_isStep_69 : decode cL_isStep 69 = .ok (.iload 4, 2) := by decide +kernel
theorem dL_isStep_71 : decode cL_isStep 71 = .ok (.bipush 6, 2) := by decide +kernel
theorem dL_isStep_73 : decode cL_isStep 73 = .ok (.ishr, 1) := by decide +kernel
theorem dL_isStep_74 : decode cL_isStep 74 = .ok (.iconst 2, 1) := by decide +kernel
theorem dL_isStep_75 : decode cL_isStep 75 = .ok (.invokestatic 15, 3) := by decide +kernel
theorem dL_isStep_78 : decode cL_isStep 78 = .ok (.iadd, 1) := by decide +kernel
theorem dL_isStep_79 : decode cL_isStep 79 = .ok (.iload_n 2, 1) := by decide +kernel
theorem dL_isStep_80 : decode cL_isStep 80 = .ok (.irem, 1) := by decide +kernel
theorem dL_isStep_81 : decode cL_isStep 81 = .ok (.istore 9, 2) := by decide +kernel
theorem dL_isStep_83 : decode cL_isStep 83 = .ok (.iconst 1, 1) := by decide +kernel
theorem dL_isStep_84 : decode cL_isStep 84 = .ok (.iload 4, 2) := by decide +kernel
theorem dL_isStep_86 : decode cL_isStep 86 = .ok (.bipush 11, 2) := by decide +kernel
theorem dL_isStep_88 : decode cL_isStep 88 = .ok (.ishr, 1) := by decide +kernel
theorem dL_isStep_89 : decode cL_isStep 89 = .ok (.bipush 99, 2) := by decide +kernel
theorem dL_isStep_91 : decode cL_isStep 91 = .ok (.invokestatic 15, 3) := by decide +kernel
theorem dL_isStep_94 : decode cL_isStep 94 = .ok (.iadd, 1) := by decide +kernel
theorem dL_isStep_95 : decode cL_isStep 95 = .ok (.istore 10, 2) := by decide +kernel
theorem dL_isStep_97 : decode cL_isStep 97 = .ok (.aload_n 0, 1) := by decide +kernel
theorem dL_isStep_98 : decode cL_isStep 98 = .ok (.iload 8, 2) := by decide +kernel
theorem dL_isStep_100 : decode cL_isStep 100 = .ok (.iload 9, 2) := by decide +kernel
theorem dL_isStep_102 : decode cL_isStep 102 = .ok (.iconst 2, 1) := by decide +kernel
theorem dL_isStep_103 : decode cL_isStep 103 = .ok (.invokevirtual 21, 3) := by decide +kernel
theorem dL_isStep_106 : decode cL_isStep 106 = .ok (.istore 11, 2) := by decide +kernel
theorem dL_isStep_108 : decode cL_isStep 108 = .ok (.aload_n 0, 1) := by decide +kernel
theorem dL_isStep_109 : decode cL_isStep 109 = .ok (.iload 8, 2) := by decide +kernel
theorem dL_isStep_111 : decode cL_isStep 111 = .ok (.iload 9, 2) := by decide +kernel
theorem dL_isStep_113 : decode cL_isStep 113 = .ok (.iload 10, 2) := by decide +kernel
theorem dL_isStep_115 : decode cL_isStep 115 = .ok (.invokevirtual 25, 3) := by decide +kernel
theorem dL_isStep_118 : decode cL_isStep 118 = .ok (.istore 12, 2) := by decide +kernel
theorem dL_isStep_120 : decode cL_isStep 120 = .ok (.iload 12, 2) := by decide +kernel
theorem dL_isStep_122 : decode cL_isStep 122 = .ok (.aload_n 1, 1) := by decide +kernel
theorem dL_isStep_123 : decode cL_isStep 123 = .ok (.iload_n 2, 1) := by decide +kernel
theorem dL_isStep_124 : decode cL_isStep 124 = .ok (.iconst 1, 1) := by decide +kernel
theorem dL_isStep_125 : decode cL_isStep 125 = .ok (.isub, 1) := by decide +kernel
theorem dL_isStep_126 : decode cL_isStep 126 = .ok (.iload 8, 2) := by decide +kernel
theorem dL_isStep_128 : decode cL_isStep 128 = .ok (.isub, 1) := by decide +kernel
theorem dL_isStep_129 : decode cL_isStep 129 = .ok (.iload_n 2, 1) := by decide +kernel
theorem dL_isStep_130 : decode cL_isStep 130 = .ok (.iconst 1, 1) := by decide +kernel
theorem dL_isStep_131 : decode cL_isStep 131 = .ok (.isub, 1) := by decide +kernel
theorem dL_isStep_132 : decode cL_isStep 132 = .ok (.iload 9, 2) := by decide +kernel
theorem dL_isStep_134 : decode cL_isStep 134 = .ok (.isub, 1) := by decide +kernel
theorem dL_isStep_135 : decode cL_isStep 135 = .ok (.iload 10, 2) := by decide +kernel
theorem dL_isStep_137 : decode cL_isStep 137 = .ok (.invokevirtual 25, 3) := by decide +kernel
theorem dL_isStep_140 : decode cL_isStep 140 = .ok (.if_icmp .ne 55, 3) := by decide +kernel
theorem dL_isStep_143 : decode cL_isStep 143 = .ok (.iload 8, 2) := by decide +kernel
theorem dL_isStep_145 : decode cL_isStep 145 = .ok (.iload 9, 2) := by decide +kernel
theorem dL_isStep_147 : decode cL_isStep 147 = .ok (.if_icmp .ne 13, 3) := by decide +kernel
theorem dL_isStep_150 : decode cL_isStep 150 = .ok (.iload 12, 2) := by decide +kernel
theorem dL_isStep_152 : decode cL_isStep 152 = .ok (.bipush (-2), 2) := by decide +kernel
theorem dL_isStep_154 : decode cL_isStep 154 = .ok (.if_icmp .ne 41, 3) := by decide +kernel
theorem dL_isStep_157 : decode cL_isStep 157 = .ok (.goto 34, 3) := by decide +kernel
theorem dL_isStep_160 : decode cL_isStep 160 = .ok (.iload 5, 2) := by decide +kernel
theorem dL_isStep_162 : decode cL_isStep 162 = .ok (.bipush 30, 2) := by decide +kernel
theorem dL_isStep_164 : decode cL_isStep 164 = .ok (.if_icmp .ne 13, 3) := by decide +kernel
theorem dL_isStep_167 : decode cL_isStep 167 = .ok (.iload 12, 2) := by decide +kernel
theorem dL_isStep_169 : decode cL_isStep 169 = .ok (.bipush (-4), 2) := by decide +kernel
theorem dL_isStep_171 : decode cL_isStep 171 = .ok (.if_icmp .ne 24, 3) := by decide +kernel
theorem dL_isStep_174 : decode cL_isStep 174 = .ok (.goto 17, 3) := by decide +kernel
theorem dL_isStep_177 : decode cL_isStep 177 = .ok (.iload 12, 2) := by decide +kernel
theorem dL_isStep_179 : decode cL_isStep 179 = .ok (.iload 11, 2) := by decide +kernel
theorem dL_isStep_181 : decode cL_isStep 181 = .ok (.if_icmp .ne 14, 3) := by decide +kernel
theorem dL_isStep_184 : decode cL_isStep 184 = .ok (.iload 12, 2) := by decide +kernel
theorem dL_isStep_186 : decode cL_isStep 186 = .ok (.iload 6, 2) := by decide +kernel
theorem dL_isStep_188 : decode cL_isStep 188 = .ok (.if_icmp .gt 7, 3) := by decide +kernel
theorem dL_isStep_191 : decode cL_isStep 191 = .ok (.iconst 1, 1) := by decide +kernel
theorem dL_isStep_192 : decode cL_isStep 192 = .ok (.goto 4, 3) := by decide +kernel
theorem dL_isStep_195 : decode cL_isStep 195 = .ok (.iconst 0, 1) := by decide +kernel
theorem dL_isStep_196 : decode cL_isStep 196 = .ok (.ireturn, 1) := by decide +kernel
theorem dL_isStep_197 : decode cL_isStep 197 = .ok (.iload 7, 2) := by decide +kernel
theorem dL_isStep_199 : decode cL_isStep 199 = .ok (.bipush 13, 2) := by decide +kernel
theorem dL_isStep_201 : decode cL_isStep 201 = .ok (.if_icmp .ge 98, 3) := by decide +kernel
theorem dL_isStep_204 : decode cL_isStep 204 = .ok (.iload 4, 2) := by decide +kernel
theorem dL_isStep_206 : decode cL_isStep 206 = .ok (.iload 5, 2) := by decide +kernel
theorem dL_isStep_208 : decode cL_isStep 208 = .ok (.iconst 1, 1) := by decide +kernel
theorem dL_isStep_209 : decode cL_isStep 209 = .ok (.iadd, 1) := by decide +kernel
theorem dL_isStep_210 : decode cL_isStep 210 = .ok (.invokestatic 15, 3) := by decide +kernel
theorem dL_isStep_213 : decode cL_isStep 213 = .ok (.istore 8, 2) := by decide +kernel
theorem dL_isStep_215 : decode cL_isStep 215 = .ok (.iload 8, 2) := by decide +kernel
theorem dL_isStep_217 : decode cL_isStep 217 = .ok (.iload 5, 2) := by decide +kernel
theorem dL_isStep_219 : decode cL_isStep 219 = .ok (.if_icmp .ge 18, 3) := by decide +kernel
theorem dL_isStep_222 : decode cL_isStep 222 = .ok (.aload_n 0, 1) := by decide +kernel
theorem dL_isStep_223 : decode cL_isStep 223 = .ok (.iload 8, 2) := by decide +kernel
theorem dL_isStep_225 : decode cL_isStep 225 = .ok (.iconst 3, 1) := by decide +kernel
theorem dL_isStep_226 : decode cL_isStep 226 = .ok (.invokevirtual 28, 3) := by decide +kernel
theorem dL_isStep_229 : decode cL_isStep 229 = .ok (.iconst 1, 1) := by decide +kernel
theorem dL_isStep_230 : decode cL_isStep 230 = .ok (.if_icmp .ne 7, 3) := by decide +kernel
theorem dL_isStep_233 : decode cL_isStep 233 = .ok (.iconst 1, 1) := by decide +kernel
theorem dL_isStep_234 : decode cL_isStep 234 = .ok (.goto 4, 3) := by decide +kernel
theorem dL_isStep_237 : decode cL_isStep 237 = .ok (.iconst 0, 1) := by decide +kernel
theorem dL_isStep_238 : decode cL_isStep 238 = .ok (.istore 9, 2) := by decide +kernel
theorem dL_isStep_240 : decode cL_isStep 240 = .ok (.aload_n 0, 1) := by decide +kernel
theorem dL_isStep_241 : decode cL_isStep 241 = .ok (.iload 8, 2) := by decide +kernel
theorem dL_isStep_243 : decode cL_isStep 243 = .ok (.invokevirtual 31, 3) := by decide +kernel
theorem dL_isStep_246 : decode cL_isStep 246 = .ok (.istore 10, 2) := by decide +kernel
theorem dL_isStep_248 : decode cL_isStep 248 = .ok (.iload 10, 2) := by decide +kernel
theorem dL_isStep_250 : decode cL_isStep 250 = .ok (.aload_n 1, 1) := by decide +kernel
theorem dL_isStep_251 : decode cL_isStep 251 = .ok (.iload 8, 2) := by decide +kernel
theorem dL_isStep_253 : decode cL_isStep 253 = .ok (.invokevirtual 31, 3) := by decide +kernel
theorem dL_isStep_256 : decode cL_isStep 256 = .ok (.if_icmp .ne 41, 3) := by decide +kernel
theorem dL_isStep_259 : decode cL_isStep 259 = .ok (.iload 8, 2) := by decide +kernel
theorem dL_isStep_261 : decode cL_isStep 261 = .ok (.iload 5, 2) := by decide +kernel
theorem dL_isStep_263 : decode cL_isStep 263 = .ok (.if_icmp .ne 12, 3) := by decide +kernel
theorem dL_isStep_266 : decode cL_isStep 266 = .ok (.iload 10, 2) := by decide +kernel
theorem dL_isStep_268 : decode cL_isStep 268 = .ok (.iconst (-1), 1) := by decide +kernel
theorem dL_isStep_269 : decode cL_isStep 269 = .ok (.if_icmp .ne 28, 3) := by decide +kernel
theorem dL_isStep_272 : decode cL_isStep 272 = .ok (.goto 21, 3) := by decide +kernel
theorem dL_isStep_275 : decode cL_isStep 275 = .ok (.iload 10, 2) := by decide +kernel
theorem dL_isStep_277 : decode cL_isStep 277 = .ok (.iload 6, 2) := by decide +kernel
theorem dL_isStep_279 : decode cL_isStep 279 = .ok (.iload 9, 2) := by decide +kernel
theorem dL_isStep_281 : decode cL_isStep 281 = .ok (.ifCond .eq 7, 3) := by decide +kernel
theorem dL_isStep_284 : decode cL_isStep 284 = .ok (.iconst 1, 1) := by decide +kernel
theorem dL_isStep_285 : decode cL_isStep 285 = .ok (.goto 4, 3) := by decide +kernel
theorem dL_isStep_288 : decode cL_isStep 288 = .ok (.iconst 0, 1) := by decide +kernel
theorem dL_isStep_289 : decode cL_isStep 289 = .ok (.iadd, 1) := by decide +kernel
theorem dL_isStep_290 : decode cL_isStep 290 = .ok (.if_icmp .ne 7, 3) := by decide +kernel
theorem dL_isStep_293 : decode cL_isStep 293 = .ok (.iconst 1, 1) := by decide +kernel
theorem dL_isStep_294 : decode cL_isStep 294 = .ok (.goto 4, 3) := by decide +kernel
theorem dL_isStep_297 : decode cL_isStep 297 = .ok (.iconst 0, 1) := by decide +kernel
theorem dL_isStep_298 : decode cL_isStep 298 = .ok (.ireturn, 1) := by decide +kernel
theorem dL_isStep_299 : decode cL_isStep 299 = .ok (.aload_n 0, 1) := by decide +kernel
theorem dL_isStep_300 : decode cL_isStep 300 = .ok (.bipush 9, 2) := by decide +kernel
theorem dL_isStep_302 : decode cL_isStep 302 = .ok (.invokevirtual 9, 3) := by decide +kernel
theorem dL_isStep_305 : decode cL_isStep 305 = .ok (.iconst 2, 1) := by decide +kernel
theorem dL_isStep_306 : decode cL_isStep 306 = .ok (.if_icmp .lt 14, 3) := by decide +kernel
theorem dL_isStep_309 : decode cL_isStep 309 = .ok (.aload_n 0, 1) := by decide +kernel
theorem dL_isStep_310 : decode cL_isStep 310 = .ok (.invokevirtual 34, 3) := by decide +kernel
theorem dL_isStep_313 : decode cL_isStep 313 = .ok (.aload_n 1, 1) := by decide +kernel
theorem dL_isStep_314 : decode cL_isStep 314 = .ok (.invokevirtual 34, 3) := by decide +kernel
theorem dL_isStep_317 : decode cL_isStep 317 = .ok (.if_icmp .ne 7, 3) := by decide +kernel
theorem dL_isStep_320 : decode cL_isStep 320 = .ok (.iconst 1, 1) := by decide +kernel
theorem dL_isStep_321 : decode cL_isStep 321 = .ok (.goto 4, 3) := by decide +kernel
theorem dL_isStep_324 : decode cL_isStep 324 = .ok (.iconst 0, 1) := by decide +kernel
theorem dL_isStep_325 : decode cL_isStep 325 = .ok (.ireturn, 1) := by decide +kernel
theorem dL_areAlike_0 : decode cL_areAlike 0 = .ok (.iconst 1, 1) := by decide +kernel
theorem dL_areAlike_1 : decode cL_areAlike 1 = .ok (.istore 4, 2) := by decide +kernel
theorem dL_areAlike_3 : decode cL_areAlike 3 = .ok (.iconst 0, 1) := by decide +kernel
theorem dL_areAlike_4 : decode cL_areAlike 4 = .ok (.istore 5, 2) := by decide +kernel
theorem dL_areAlike_6 : decode cL_areAlike 6 = .ok (.iload 5, 2) := by decide +kernel
theorem dL_areAlike_8 : decode cL_areAlike 8 = .ok (.bipush 8, 2) := by decide +kernel
theorem dL_areAlike_10 : decode cL_areAlike 10 = .ok (.if_icmp .ge 43, 3) := by decide +kernel
theorem dL_areAlike_13 : decode cL_areAlike 13 = .ok (.iload 4, 2) := by decide +kernel
theorem dL_areAlike_15 : decode cL_areAlike 15 = .ok (.ifCond .eq 29, 3) := by decide +kernel
theorem dL_areAlike_18 : decode cL_areAlike 18 = .ok (.iload 5, 2) := by decide +kernel
theorem dL_areAlike_20 : decode cL_areAlike 20 = .ok (.bipush 6, 2) := by decide +kernel
theorem dL_areAlike_22 : decode cL_areAlike 22 = .ok (.if_icmp .eq 18, 3) := by decide +kernel
theorem dL_areAlike_25 : decode cL_areAlike 25 = .ok (.aload_n 0, 1) := by decide +kernel
theorem dL_areAlike_26 : decode cL_areAlike 26 = .ok (.iload 5, 2) := by decide +kernel
theorem dL_areAlike_28 : decode cL_areAlike 28 = .ok (.invokevirtual 9, 3) := by decide +kernel
theorem dL_areAlike_31 : decode cL_areAlike 31 = .ok (.aload_n 1, 1) := by decide +kernel
theorem dL_areAlike_32 : decode cL_areAlike 32 = .ok (.iload 5, 2) := by decide +kernel
theorem dL_areAlike_34 : decode cL_areAlike 34 = .ok (.invokevirtual 9, 3) := by decide +kernel
theorem dL_areAlike_37 : decode cL_areAlike 37 = .ok (.if_icmp .ne 7, 3) := by decide +kernel
theorem dL_areAlike_40 : decode cL_areAlike 40 = .ok (.iconst 1, 1) := by decide +kernel
theorem dL_areAlike_41 : decode cL_areAlike 41 = .ok (.goto 4, 3) := by decide +kernel
theorem dL_areAlike_44 : decode cL_areAlike 44 = .ok (.iconst 0, 1) := by decide +kernel
theorem dL_areAlike_45 : decode cL_areAlike 45 = .ok (.istore 4, 2) := by decide +kernel
theorem dL_areAlike_47 : decode cL_areAlike 47 = .ok (.iinc 5 1, 3) := by decide +kernel
theorem dL_areAlike_50 : decode cL_areAlike 50 = .ok (.goto (-44), 3) := by decide +kernel
theorem dL_areAlike_53 : decode cL_areAlike 53 = .ok (.iconst 0, 1) := by decide +kernel
theorem dL_areAlike_54 : decode cL_areAlike 54 = .ok (.istore 5, 2) := by decide +kernel
theorem dL_areAlike_56 : decode cL_areAlike 56 = .ok (.iload 5, 2) := by decide +kernel
theorem dL_areAlike_58 : decode cL_areAlike 58 = .ok (.aload_n 0, 1) := by decide +kernel
theorem dL_areAlike_59 : decode cL_areAlike 59 = .ok (.iconst 1, 1) := by decide +kernel
theorem dL_areAlike_60 : decode cL_areAlike 60 = .ok (.invokevirtual 9, 3) := by decide +kernel
theorem dL_areAlike_63 : decode cL_areAlike 63 = .ok (.if_icmp .ge 110, 3) := by decide +kernel
theorem dL_areAlike_66 : decode cL_areAlike 66 = .ok (.iload 4, 2) := by decide +kernel
theorem dL_areAlike_68 : decode cL_areAlike 68 = .ok (.ifCond .eq 105, 3) := by decide +kernel
theorem dL_areAlike_71 : decode cL_areAlike 71 = .ok (.aload_n 0, 1) := by decide +kernel
theorem dL_areAlike_72 : decode cL_areAlike 72 = .ok (.iload 5, 2) := by decide +kernel
theorem dL_areAlike_74 : decode cL_areAlike 74 = .ok (.iconst 0, 1) := by decide +kernel
theorem dL_areAlike_75 : decode cL_areAlike 75 = .ok (.invokevirtual 28, 3) := by decide +kernel
theorem dL_areAlike_78 : decode cL_areAlike 78 = .ok (.iload_n 2, 1) := by decide +kernel
theorem dL_areAlike_79 : decode cL_areAlike 79 = .ok (.iconst 1, 1) := by decide +kernel
theorem dL_areAlike_80 : decode cL_areAlike 80 = .ok (.isub, 1) := by decide +kernel
theorem dL_areAlike_81 : decode cL_areAlike 81 = .ok (.aload_n 1, 1) := by decide +kernel
theorem dL_areAlike_82 : decode cL_areAlike 82 = .ok (.iload 5, 2) := by decide +kernel
theorem dL_areAlike_84 : decode cL_areAlike 84 = .ok (.iconst 1, 1) := by decide +kernel
theorem dL_areAlike_85 : decode cL_areAlike 85 = .ok (.invokevirtual 28, 3) := by decide +kernel
theorem dL_areAlike_88 : decode cL_areAlike 88 = .ok (.isub, 1) := by decide +kernel
theorem dL_areAlike_89 : decode cL_areAlike 89 = .ok (.if_icmp .ne 75, 3) := by decide +kernel
theorem dL_areAlike_92 : decode cL_areAlike 92 = .ok (.aload_n 0, 1) := by decide +kernel
theorem dL_areAlike_93 : decode cL_areAlike 93 = .ok (.iload 5, 2) := by decide +kernel
theorem dL_areAlike_95 : decode cL_areAlike 95 = .ok (.iconst 2, 1) := by decide +kernel
theorem dL_areAlike_96 : decode cL_areAlike 96 = .ok (.invokevirtual 28, 3) := by decide +kernel
theorem dL_areAlike_99 : decode cL_areAlike 99 = .ok (.aload_n 1, 1) := by decide +kernel
theorem dL_areAlike_100 : decode cL_areAlike 100 = .ok (.iload 5, 2) := by decide +kernel
theorem dL_areAlike_102 : decode cL_areAlike 102 = .ok (.iconst 2, 1) := by decide +kernel
theorem dL_areAlike_103 : decode cL_areAlike 103 = .ok (.invokevirtual 28, 3) := by decide +kernel
theorem dL_areAlike_106 : decode cL_areAlike 106 = .ok (.if_icmp .ne 58, 3) := by decide +kernel
theorem dL_areAlike_109 : decode cL_areAlike 109 = .ok (.aload_n 0, 1) := by decide +kernel
theorem dL_areAlike_110 : decode cL_areAlike 110 = .ok (.iload 5, 2) := by decide +kernel
theorem dL_areAlike_112 : decode cL_areAlike 112 = .ok (.iconst 3, 1) := by decide +kernel
theorem dL_areAlike_113 : decode cL_areAlike 113 = .ok (.invokevirtual 28, 3) := by decide +kernel
theorem dL_areAlike_116 : decode cL_areAlike 116 = .ok (.aload_n 1, 1) := by decide +kernel
theorem dL_areAlike_117 : decode cL_areAlike 117 = .ok (.iload 5, 2) := by decide +kernel
theorem dL_areAlike_119 : decode cL_areAlike 119 = .ok (.iconst 3, 1) := by decide +kernel
theorem dL_areAlike_120 : decode cL_areAlike 120 = .ok (.invokevirtual 28, 3) := by decide +kernel
theorem dL_areAlike_123 : decode cL_areAlike 123 = .ok (.if_icmp .ne 41, 3) := by decide +kernel
theorem dL_areAlike_126 : decode cL_areAlike 126 = .ok (.aload_n 0, 1) := by decide +kernel
theorem dL_areAlike_127 : decode cL_areAlike 127 = .ok (.iload 5, 2) := by decide +kernel
theorem dL_areAlike_129 : decode cL_areAlike 129 = .ok (.iconst 4, 1) := by decide +kernel
theorem dL_areAlike_130 : decode cL_areAlike 130 = .ok (.invokevirtual 28, 3) := by decide +kernel
theorem dL_areAlike_133 : decode cL_areAlike 133 = .ok (.aload_n 1, 1) := by decide +kernel
theorem dL_areAlike_134 : decode cL_areAlike 134 = .ok (.iload 5, 2) := by decide +kernel
theorem dL_areAlike_136 : decode cL_areAlike 136 = .ok (.iconst 4, 1) := by decide +kernel
theorem dL_areAlike_137 : decode cL_areAlike 137 = .ok (.invokevirtual 28, 3) := by decide +kernel
theorem dL_areAlike_140 : decode cL_areAlike 140 = .ok (.if_icmp .ne 24, 3) := by decide +kernel
theorem dL_areAlike_143 : decode cL_areAlike 143 = .ok (.aload_n 0, 1) := by decide +kernel
theorem dL_areAlike_144 : decode cL_areAlike 144 = .ok (.iload 5, 2) := by decide +kernel
theorem dL_areAlike_146 : decode cL_areAlike 146 = .ok (.iconst 5, 1) := by decide +kernel
theorem dL_areAlike_147 : decode cL_areAlike 147 = .ok (.invokevirtual 28, 3) := by decide +kernel
theorem dL_areAlike_150 : decode cL_areAlike 150 = .ok (.aload_n 1, 1) := by decide +kernel
theorem dL_areAlike_151 : decode cL_areAlike 151 = .ok (.iload 5, 2) := by decide +kernel
theorem dL_areAlike_153 : decode cL_areAlike 153 = .ok (.iconst 5, 1) := by decide +kernel
theorem dL_areAlike_154 : decode cL_areAlike 154 = .ok (.invokevirtual 28, 3) := by decide +kernel
theorem dL_areAlike_157 : decode cL_areAlike 157 = .ok (.if_icmp .ne 7, 3) := by decide +kernel
theorem dL_areAlike_160 : decode cL_areAlike 160 = .ok (.iconst 1, 1) := by decide +kernel
theorem dL_areAlike_161 : decode cL_areAlike 161 = .ok (.goto 4, 3) := by decide +kernel
theorem dL_areAlike_164 : decode cL_areAlike 164 = .ok (.iconst 0, 1) := by decide +kernel
theorem dL_areAlike_165 : decode cL_areAlike 165 = .ok (.istore 4, 2) := by decide +kernel
theorem dL_areAlike_167 : decode cL_areAlike 167 = .ok (.iinc 5 1, 3) := by decide +kernel
theorem dL_areAlike_170 : decode cL_areAlike 170 = .ok (.goto (-114), 3) := by decide +kernel
theorem dL_areAlike_173 : decode cL_areAlike 173 = .ok (.iconst 0, 1) := by decide +kernel
theorem dL_areAlike_174 : decode cL_areAlike 174 = .ok (.istore 5, 2) := by decide +kernel
theorem dL_areAlike_176 : decode cL_areAlike 176 = .ok (.iload 5, 2) := by decide +kernel
theorem dL_areAlike_178 : decode cL_areAlike 178 = .ok (.iload_n 2, 1) := by decide +kernel
theorem dL_areAlike_179 : decode cL_areAlike 179 = .ok (.if_icmp .ge 147, 3) := by decide +kernel
theorem dL_areAlike_182 : decode cL_areAlike 182 = .ok (.iload 4, 2) := by decide +kernel
theorem dL_areAlike_184 : decode cL_areAlike 184 = .ok (.ifCond .eq 142, 3) := by decide +kernel
theorem dL_areAlike_187 : decode cL_areAlike 187 = .ok (.iload_n 2, 1) := by decide +kernel
theorem dL_areAlike_188 : decode cL_areAlike 188 = .ok (.iconst 1, 1) := by decide +kernel
theorem dL_areAlike_189 : decode cL_areAlike 189 = .ok (.isub, 1) := by decide +kernel
theorem dL_areAlike_190 : decode cL_areAlike 190 = .ok (.iload 5, 2) := by decide +kernel
theorem dL_areAlike_192 : decode cL_areAlike 192 = .ok (.isub, 1) := by decide +kernel
theorem dL_areAlike_193 : decode cL_areAlike 193 = .ok (.istore 6, 2) := by decide +kernel
theorem dL_areAlike_195 : decode cL_areAlike 195 = .ok (.aload_n 0, 1) := by decide +kernel
theorem dL_areAlike_196 : decode cL_areAlike 196 = .ok (.iload 5, 2) := by decide +kernel
theorem dL_areAlike_198 : decode cL_areAlike 198 = .ok (.iconst 0, 1) := by decide +kernel
theorem dL_areAlike_199 : decode cL_areAlike 199 = .ok (.invokevirtual 38, 3) := by decide +kernel
theorem dL_areAlike_202 : decode cL_areAlike 202 = .ok (.aload_n 1, 1) := by decide +kernel
theorem dL_areAlike_203 : decode cL_areAlike 203 = .ok (.iload 6, 2) := by decide +kernel
theorem dL_areAlike_205 : decode cL_areAlike 205 = .ok (.iconst 0, 1) := by decide +kernel
theorem dL_areAlike_206 : decode cL_areAlike 206 = .ok (.invokevirtual 38, 3) := by decide +kernel
theorem dL_areAlike_209 : decode cL_areAlike 209 = .ok (.if_icmp .ne 108, 3) := by decide +kernel
theorem dL_areAlike_212 : decode cL_areAlike 212 = .ok (.aload_n 0, 1) := by decide +kernel
theorem dL_areAlike_213 : decode cL_areAlike 213 = .ok (.iload 5, 2) := by decide +kernel
theorem dL_areAlike_215 : decode cL_areAlike 215 = .ok (.iconst 1, 1) := by decide +kernel
theorem dL_areAlike_216 : decode cL_areAlike 216 = .ok (.invokevirtual 38, 3) := by decide +kernel
theorem dL_areAlike_219 : decode cL_areAlike 219 = .ok (.aload_n 1, 1) := by decide +kernel
theorem dL_areAlike_220 : decode cL_areAlike 220 = .ok (.iload 6, 2) := by decide +kernel
theorem dL_areAlike_222 : decode cL_areAlike 222 = .ok (.iconst 1, 1) := by decide +kernel
theorem dL_areAlike_223 : decode cL_areAlike 223 = .ok (.invokevirtual 38, 3) := by decide +kernel
theorem dL_areAlike_226 : decode cL_areAlike 226 = .ok (.if_icmp .ne 91, 3) := by decide +kernel
theorem dL_areAlike_229 : decode cL_areAlike 229 = .ok (.aload_n 0, 1) := by decide +kernel
theorem dL_areAlike_230 : decode cL_areAlike 230 = .ok (.iload 5, 2) := by decide +kernel
theorem dL_areAlike_232 : decode cL_areAlike 232 = .ok (.iconst 3, 1) := by decide +kernel
theorem dL_areAlike_233 : decode cL_areAlike 233 = .ok (.invokevirtual 38, 3) := by decide +kernel
theorem dL_areAlike_236 : decode cL_areAlike 236 = .ok (.iload_n 2, 1) := by decide +kernel
theorem dL_areAlike_237 : decode cL_areAlike 237 = .ok (.invokestatic 41, 3) := by decide +kernel
theorem dL_areAlike_240 : decode cL_areAlike 240 = .ok (.aload_n 1, 1) := by decide +kernel
theorem dL_areAlike_241 : decode cL_areAlike 241 = .ok (.iload 6, 2) := by decide +kernel
theorem dL_areAlike_243 : decode cL_areAlike 243 = .ok (.iconst 3, 1) := by decide +kernel
theorem dL_areAlike_244 : decode cL_areAlike 244 = .ok (.invokevirtual 38, 3) := by decide +kernel
theorem dL_areAlike_247 : decode cL_areAlike 247 = .ok (.if_icmp .ne 70, 3) := by decide +kernel
theorem dL_areAlike_250 : decode cL_areAlike 250 = .ok (.aload_n 0, 1) := by decide +kernel
theorem dL_areAlike_251 : decode cL_areAlike 251 = .ok (.iload 5, 2) := by decide +kernel
theorem dL_areAlike_253 : decode cL_areAlike 253 = .ok (.iconst 4, 1) := by decide +kernel
theorem dL_areAlike_254 : decode cL_areAlike 254 = .ok (.invokevirtual 38, 3) := by decide +kernel
theorem dL_areAlike_257 : decode cL_areAlike 257 = .ok (.aload_n 1, 1) := by decide +kernel
theorem dL_areAlike_258 : decode cL_areAlike 258 = .ok (.iload 6, 2) := by decide +kernel
theorem dL_areAlike_260 : decode cL_areAlike 260 = .ok (.iconst 4, 1) := by decide +kernel
theorem dL_areAlike_261 : decode cL_areAlike 261 = .ok (.invokevirtual 38, 3) := by decide +kernel
theorem dL_areAlike_264 : decode cL_areAlike 264 = .ok (.if_icmp .ne 53, 3) := by decide +kernel
theorem dL_areAlike_267 : decode cL_areAlike 267 = .ok (.aload_n 0, 1) := by decide +kernel
theorem dL_areAlike_268 : decode cL_areAlike 268 = .ok (.iload 5, 2) := by decide +kernel
theorem dL_areAlike_270 : decode cL_areAlike 270 = .ok (.invokevirtual 44, 3) := by decide +kernel
theorem dL_areAlike_273 : decode cL_areAlike 273 = .ok (.aload_n 1, 1) := by decide +kernel
theorem dL_areAlike_274 : decode cL_areAlike 274 = .ok (.iload 6, 2) := by decide +kernel
theorem dL_areAlike_276 : decode cL_areAlike 276 = .ok (.invokevirtual 44, 3) := by decide +kernel
theorem dL_areAlike_279 : decode cL_areAlike 279 = .ok (.if_icmp .ne 38, 3) := by decide +kernel
theorem dL_areAlike_282 : decode cL_areAlike 282 = .ok (.aload_n 0, 1) := by decide +kernel
theorem dL_areAlike_283 : decode cL_areAlike 283 = .ok (.aload_n 0, 1) := by decide +kernel
theorem dL_areAlike_284 : decode cL_areAlike 284 = .ok (.iload 5, 2) := by decide +kernel
theorem dL_areAlike_286 : decode cL_areAlike 286 = .ok (.iconst 2, 1) := by decide +kernel
theorem dL_areAlike_287 : decode cL_areAlike 287 = .ok (.invokevirtual 38, 3) := by decide +kernel
theorem dL_areAlike_290 : decode cL_areAlike 290 = .ok (.iconst 0, 1) := by decide +kernel
theorem dL_areAlike_291 : decode cL_areAlike 291 = .ok (.invokevirtual 47, 3) := by decide +kernel
theorem dL_areAlike_294 : decode cL_areAlike 294 = .ok (.iload_n 2, 1) := by decide +kernel
theorem dL_areAlike_295 : decode cL_areAlike 295 = .ok (.invokestatic 41, 3) := by decide +kernel
theorem dL_areAlike_298 : decode cL_areAlike 298 = .ok (.aload_n 1, 1) := by decide +kernel
theorem dL_areAlike_299 : decode cL_areAlike 299 = .ok (.aload_n 1, 1) := by decide +kernel
theorem dL_areAlike_300 : decode cL_areAlike 300 = .ok (.iload 6, 2) := by decide +kernel
theorem dL_areAlike_302 : decode cL_areAlike 302 = .ok (.iconst 2, 1) := by decide +kernel
theorem dL_areAlike_303 : decode cL_areAlike 303 = .ok (.invokevirtual 38, 3) := by decide +kernel
theorem dL_areAlike_306 : decode cL_areAlike 306 = .ok (.iconst 0, 1) := by decide +kernel
theorem dL_areAlike_307 : decode cL_areAlike 307 = .ok (.invokevirtual 47, 3) := by decide +kernel
theorem dL_areAlike_310 : decode cL_areAlike 310 = .ok (.if_icmp .ne 7, 3) := by decide +kernel
theorem dL_areAlike_313 : decode cL_areAlike 313 = .ok (.iconst 1, 1) := by decide +kernel
theorem dL_areAlike_314 : decode cL_areAlike 314 = .ok (.goto 4, 3) := by decide +kernel
theorem dL_areAlike_317 : decode cL_areAlike 317 = .ok (.iconst 0, 1) := by decide +kernel
theorem dL_areAlike_318 : decode cL_areAlike 318 = .ok (.istore 4, 2) := by decide +kernel
theorem dL_areAlike_320 : decode cL_areAlike 320 = .ok (.iinc 5 1, 3) := by decide +kernel
theorem dL_areAlike_323 : decode cL_areAlike 323 = .ok (.goto (-147), 3) := by decide +kernel
theorem dL_areAlike_326 : decode cL_areAlike 326 = .ok (.iload_n 3, 1) := by decide +kernel
theorem dL_areAlike_327 : decode cL_areAlike 327 = .ok (.iload_n 2, 1) := by decide +kernel
theorem dL_areAlike_328 : decode cL_areAlike 328 = .ok (.invokestatic 15, 3) := by decide +kernel
theorem dL_areAlike_331 : decode cL_areAlike 331 = .ok (.istore 5, 2) := by decide +kernel
theorem dL_areAlike_333 : decode cL_areAlike 333 = .ok (.iload_n 3, 1) := by decide +kernel
theorem dL_areAlike_334 : decode cL_areAlike 334 = .ok (.iconst 4, 1) := by decide +kernel
theorem dL_areAlike_335 : decode cL_areAlike 335 = .ok (.ishr, 1) := by decide +kernel
theorem dL_areAlike_336 : decode cL_areAlike 336 = .ok (.iload_n 2, 1) := by decide +kernel
theorem dL_areAlike_337 : decode cL_areAlike 337 = .ok (.invokestatic 15, 3) := by decide +kernel
theorem dL_areAlike_340 : decode cL_areAlike 340 = .ok (.istore 6, 2) := by decide +kernel
theorem dL_areAlike_342 : decode cL_areAlike 342 = .ok (.aload_n 0, 1) := by decide +kernel
theorem dL_areAlike_343 : decode cL_areAlike 343 = .ok (.iload 5, 2) := by decide +kernel
theorem dL_areAlike_345 : decode cL_areAlike 345 = .ok (.iload 6, 2) := by decide +kernel
theorem dL_areAlike_347 : decode cL_areAlike 347 = .ok (.iconst 1, 1) := by decide +kernel
theorem dL_areAlike_348 : decode cL_areAlike 348 = .ok (.invokevirtual 50, 3) := by decide +kernel
theorem dL_areAlike_351 : decode cL_areAlike 351 = .ok (.istore 7, 2) := by decide +kernel
theorem dL_areAlike_353 : decode cL_areAlike 353 = .ok (.iconst 0, 1) := by decide +kernel
theorem dL_areAlike_354 : decode cL_areAlike 354 = .ok (.istore 8, 2) := by decide +kernel
theorem dL_areAlike_356 : decode cL_areAlike 356 = .ok (.iload 8, 2) := by decide +kernel
theorem dL_areAlike_358 : decode cL_areAlike 358 = .ok (.iload 7, 2) := by decide +kernel
theorem dL_areAlike_360 : decode cL_areAlike 360 = .ok (.if_icmp .gt 52, 3) := by decide +kernel
theorem dL_areAlike_363 : decode cL_areAlike 363 = .ok (.iload 4, 2) := by decide +kernel
theorem dL_areAlike_365 : decode cL_areAlike 365 = .ok (.ifCond .eq 47, 3) := by decide +kernel
theorem dL_areAlike_368 : decode cL_areAlike 368 = .ok (.aload_n 0, 1) := by decide +kernel
theorem dL_areAlike_369 : decode cL_areAlike 369 = .ok (.iload 5, 2) := by decide +kernel
theorem dL_areAlike_371 : decode cL_areAlike 371 = .ok (.iload 6, 2) := by decide +kernel
theorem dL_areAlike_373 : decode cL_areAlike 373 = .ok (.iload 8, 2) := by decide +kernel
theorem dL_areAlike_375 : decode cL_areAlike 375 = .ok (.invokevirtual 53, 3) := by decide +kernel
theorem dL_areAlike_378 : decode cL_areAlike 378 = .ok (.aload_n 1, 1) := by decide +kernel
theorem dL_areAlike_379 : decode cL_areAlike 379 = .ok (.iload_n 2, 1) := by decide +kernel
theorem dL_areAlike_380 : decode cL_areAlike 380 = .ok (.iconst 1, 1) := by decide +kernel
theorem dL_areAlike_381 : decode cL_areAlike 381 = .ok (.isub, 1) := by decide +kernel
theorem dL_areAlike_382 : decode cL_areAlike 382 = .ok (.iload 5, 2) := by decide +kernel
theorem dL_areAlike_384 : decode cL_areAlike 384 = .ok (.isub, 1) := by decide +kernel
theorem dL_areAlike_385 : decode cL_areAlike 385 = .ok (.iload_n 2, 1) := by decide +kernel
theorem dL_areAlike_386 : decode cL_areAlike 386 = .ok (.iconst 1, 1) := by decide +kernel
theorem dL_areAlike_387 : decode cL_areAlike 387 = .ok (.isub, 1) := by decide +kernel
theorem dL_areAlike_388 : decode cL_areAlike 388 = .ok (.iload 6, 2) := by decide +kernel
theorem dL_areAlike_390 : decode cL_areAlike 390 = .ok (.isub, 1) := by decide +kernel
theorem dL_areAlike_391 : decode cL_areAlike 391 = .ok (.iload 8, 2) := by decide +kernel
theorem dL_areAlike_393 : decode cL_areAlike 393 = .ok (.invokevirtual 53, 3) := by decide +kernel
theorem dL_areAlike_396 : decode cL_areAlike 396 = .ok (.if_icmp .ne 7, 3) := by decide +kernel
theorem dL_areAlike_399 : decode cL_areAlike 399 = .ok (.iconst 1, 1) := by decide +kernel
theorem dL_areAlike_400 : decode cL_areAlike 400 = .ok (.goto 4, 3) := by decide +kernel
theorem dL_areAlike_403 : decode cL_areAlike 403 = .ok (.iconst 0, 1) := by decide +kernel
theorem dL_areAlike_404 : decode cL_areAlike 404 = .ok (.istore 4, 2) := by decide +kernel
theorem dL_areAlike_406 : decode cL_areAlike 406 = .ok (.iinc 8 1, 3) := by decide +kernel
theorem dL_areAlike_409 : decode cL_areAlike 409 = .ok (.goto (-53), 3) := by decide +kernel
theorem dL_areAlike_412 : decode cL_areAlike 412 = .ok (.iload 4, 2) := by decide +kernel
theorem dL_areAlike_414 : decode cL_areAlike 414 = .ok (.ifCond .eq 127, 3) := by decide +kernel
theorem dL_areAlike_417 : decode cL_areAlike 417 = .ok (.aload_n 0, 1) := by decide +kernel
theorem dL_areAlike_418 : decode cL_areAlike 418 = .ok (.iload 5, 2) := by decide +kernel
theorem dL_areAlike_420 : decode cL_areAlike 420 = .ok (.iload 6, 2) := by decide +kernel
theorem dL_areAlike_422 : decode cL_areAlike 422 = .ok (.iconst 0, 1) := by decide +kernel
theorem dL_areAlike_423 : decode cL_areAlike 423 = .ok (.invokevirtual 50, 3) := by decide +kernel
theorem dL_areAlike_426 : decode cL_areAlike 426 = .ok (.aload_n 1, 1) := by decide +kernel
theorem dL_areAlike_427 : decode cL_areAlike 427 = .ok (.iload_n 2, 1) := by decide +kernel
theorem dL_areAlike_428 : decode cL_areAlike 428 = .ok (.iconst 1, 1) := by decide +kernel
theorem dL_areAlike_429 : decode cL_areAlike 429 = .ok (.isub, 1) := by decide +kernel
theorem dL_areAlike_430 : decode cL_areAlike 430 = .ok (.iload 5, 2) := by decide +kernel
theorem dL_areAlike_432 : decode cL_areAlike 432 = .ok (.isub, 1) := by decide +kernel
theorem dL_areAlike_433 : decode cL_areAlike 433 = .ok (.iload_n 2, 1) := by decide +kernel
theorem dL_areAlike_434 : decode cL_areAlike 434 = .ok (.iconst 1, 1) := by decide +kernel
theorem dL_areAlike_435 : decode cL_areAlike 435 = .ok (.isub, 1) := by decide +kernel
theorem dL_areAlike_436 : decode cL_areAlike 436 = .ok (.iload 6, 2) := by decide +kernel
theorem dL_areAlike_438 : decode cL_areAlike 438 = .ok (.isub, 1) := by decide +kernel
theorem dL_areAlike_439 : decode cL_areAlike 439 = .ok (.iconst 0, 1) := by decide +kernel
theorem dL_areAlike_440 : decode cL_areAlike 440 = .ok (.invokevirtual 50, 3) := by decide +kernel
theorem dL_areAlike_443 : decode cL_areAlike 443 = .ok (.if_icmp .ne 98, 3) := by decide +kernel
theorem dL_areAlike_446 : decode cL_areAlike 446 = .ok (.iload 7, 2) := by decide +kernel
theorem dL_areAlike_448 : decode cL_areAlike 448 = .ok (.aload_n 1, 1) := by decide +kernel
theorem dL_areAlike_449 : decode cL_areAlike 449 = .ok (.iload_n 2, 1) := by decide +kernel
theorem dL_areAlike_450 : decode cL_areAlike 450 = .ok (.iconst 1, 1) := by decide +kernel
theorem dL_areAlike_451 : decode cL_areAlike 451 = .ok (.isub, 1) := by decide +kernel
theorem dL_areAlike_452 : decode cL_areAlike 452 = .ok (.iload 5, 2) := by decide +kernel
theorem dL_areAlike_454 : decode cL_areAlike 454 = .ok (.isub, 1) := by decide +kernel
theorem dL_areAlike_455 : decode cL_areAlike 455 = .ok (.iload_n 2, 1) := by decide +kernel
theorem dL_areAlike_456 : decode cL_areAlike 456 = .ok (.iconst 1, 1) := by decide +kernel
theorem dL_areAlike_457 : decode cL_areAlike 457 = .ok (.isub, 1) := by decide +kernel
theorem dL_areAlike_458 : decode cL_areAlike 458 = .ok (.iload 6, 2) := by decide +kernel
theorem dL_areAlike_460 : decode cL_areAlike 460 = .ok (.isub, 1) := by decide +kernel
theorem dL_areAlike_461 : decode cL_areAlike 461 = .ok (.iconst 1, 1) := by decide +kernel
theorem dL_areAlike_462 : decode cL_areAlike 462 = .ok (.invokevirtual 50, 3) := by decide +kernel
theorem dL_areAlike_465 : decode cL_areAlike 465 = .ok (.if_icmp .ne 76, 3) := by decide +kernel
theorem dL_areAlike_468 : decode cL_areAlike 468 = .ok (.aload_n 0, 1) := by decide +kernel
theorem dL_areAlike_469 : decode cL_areAlike 469 = .ok (.iconst 2, 1) := by decide +kernel
theorem dL_areAlike_470 : decode cL_areAlike 470 = .ok (.invokevirtual 56, 3) := by decide +kernel
theorem dL_areAlike_473 : decode cL_areAlike 473 = .ok (.aload_n 1, 1) := by decide +kernel
theorem dL_areAlike_474 : decode cL_areAlike 474 = .ok (.iconst 2, 1) := by decide +kernel
theorem dL_areAlike_475 : decode cL_areAlike 475 = .ok (.invokevirtual 56, 3) := by decide +kernel
theorem dL_areAlike_478 : decode cL_areAlike 478 = .ok (.if_icmp .ne 63, 3) := by decide +kernel
theorem dL_areAlike_481 : decode cL_areAlike 481 = .ok (.aload_n 0, 1) := by decide +kernel
theorem dL_areAlike_482 : decode cL_areAlike 482 = .ok (.iconst 0, 1) := by decide +kernel
theorem dL_areAlike_483 : decode cL_areAlike 483 = .ok (.invokevirtual 59, 3) := by decide +kernel
theorem dL_areAlike_486 : decode cL_areAlike 486 = .ok (.aload_n 1, 1) := by decide +kernel
theorem dL_areAlike_487 : decode cL_areAlike 487 = .ok (.iconst 0, 1) := by decide +kernel
theorem dL_areAlike_488 : decode cL_areAlike 488 = .ok (.invokevirtual 59, 3) := by decide +kernel
theorem dL_areAlike_491 : decode cL_areAlike 491 = .ok (.if_icmp .ne 50, 3) := by decide +kernel
theorem dL_areAlike_494 : decode cL_areAlike 494 = .ok (.aload_n 0, 1) := by decide +kernel
theorem dL_areAlike_495 : decode cL_areAlike 495 = .ok (.iconst 1, 1) := by decide +kernel
theorem dL_areAlike_496 : decode cL_areAlike 496 = .ok (.invokevirtual 59, 3) := by decide +kernel
theorem dL_areAlike_499 : decode cL_areAlike 499 = .ok (.aload_n 1, 1) := by decide +kernel
theorem dL_areAlike_500 : decode cL_areAlike 500 = .ok (.iconst 1, 1) := by decide +kernel
theorem dL_areAlike_501 : decode cL_areAlike 501 = .ok (.invokevirtual 59, 3) := by decide +kernel
theorem dL_areAlike_504 : decode cL_areAlike 504 = .ok (.if_icmp .ne 37, 3) := by decide +kernel
theorem dL_areAlike_507 : decode cL_areAlike 507 = .ok (.iload 5, 2) := by decide +kernel
theorem dL_areAlike_509 : decode cL_areAlike 509 = .ok (.iload 6, 2) := by decide +kernel
theorem dL_areAlike_511 : decode cL_areAlike 511 = .ok (.if_icmp .eq 26, 3) := by decide +kernel
theorem dL_areAlike_514 : decode cL_areAlike 514 = .ok (.aload_n 0, 1) := by decide +kernel
theorem dL_areAlike_515 : decode cL_areAlike 515 = .ok (.iload 5, 2) := by decide +kernel
theorem dL_areAlike_517 : decode cL_areAlike 517 = .ok (.iload 6, 2) := by decide +kernel
theorem dL_areAlike_519 : decode cL_areAlike 519 = .ok (.iconst 0, 1) := by decide +kernel
theorem dL_areAlike_520 : decode cL_areAlike 520 = .ok (.invokevirtual 21, 3) := by decide +kernel
theorem dL_areAlike_523 : decode cL_areAlike 523 = .ok (.iload 7, 2) := by decide +kernel
theorem dL_areAlike_525 : decode cL_areAlike 525 = .ok (.ifCond .ge 7, 3) := by decide +kernel
theorem dL_areAlike_528 : decode cL_areAlike 528 = .ok (.iconst 0, 1) := by decide +kernel
theorem dL_areAlike_529 : decode cL_areAlike 529 = .ok (.goto 5, 3) := by decide +kernel
theorem dL_areAlike_532 : decode cL_areAlike 532 = .ok (.iload 7, 2) := by decide +kernel
theorem dL_areAlike_534 : decode cL_areAlike 534 = .ok (.if_icmp .ne 7, 3) := by decide +kernel
theorem dL_areAlike_537 : decode cL_areAlike 537 = .ok (.iconst 1, 1) := by decide +kernel
theorem dL_areAlike_538 : decode cL_areAlike 538 = .ok (.goto 4, 3) := by decide +kernel
theorem dL_areAlike_541 : decode cL_areAlike 541 = .ok (.iconst 0, 1) := by decide +kernel
theorem dL_areAlike_542 : decode cL_areAlike 542 = .ok (.ireturn, 1) := by decide +kernel
theorem dL_isTree_0 : decode cL_isTree 0 = .ok (.aload_n 0, 1) := by decide +kernel
theorem dL_isTree_1 : decode cL_isTree 1 = .ok (.iconst 5, 1) := by decide +kernel
theorem dL_isTree_2 : decode cL_isTree 2 = .ok (.invokevirtual 9, 3) := by decide +kernel
theorem dL_isTree_5 : decode cL_isTree 5 = .ok (.istore_n 2, 1) := by decide +kernel
theorem dL_isTree_6 : decode cL_isTree 6 = .ok (.iconst 0, 1) := by decide +kernel
theorem dL_isTree_7 : decode cL_isTree 7 = .ok (.istore_n 3, 1) := by decide +kernel
theorem dL_isTree_8 : decode cL_isTree 8 = .ok (.iconst 0, 1) := by decide +kernel
theorem dL_isTree_9 : decode cL_isTree 9 = .ok (.istore 4, 2) := by decide +kernel
theorem dL_isTree_11 : decode cL_isTree 11 = .ok (.iconst 0, 1) := by decide +kernel
theorem dL_isTree_12 : decode cL_isTree 12 = .ok (.istore 5, 2) := by decide +kernel
theorem dL_isTree_14 : decode cL_isTree 14 = .ok (.iconst 0, 1) := by decide +kernel
theorem dL_isTree_15 : decode cL_isTree 15 = .ok (.istore 6, 2) := by decide +kernel
theorem dL_isTree_17 : decode cL_isTree 17 = .ok (.iconst 0, 1) := by decide +kernel
theorem dL_isTree_18 : decode cL_isTree 18 = .ok (.istore 7, 2) := by decide +kernel
theorem dL_isTree_20 : decode cL_isTree 20 = .ok (.aload_n 0, 1) := by decide +kernel
theorem dL_isTree_21 : decode cL_isTree 21 = .ok (.iconst 3, 1) := by decide +kernel
theorem dL_isTree_22 : decode cL_isTree 22 = .ok (.invokevirtual 9, 3) := by decide +kernel
theorem dL_isTree_25 : decode cL_isTree 25 = .ok (.iload_n 2, 1) := by decide +kernel
theorem dL_isTree_26 : decode cL_isTree 26 = .ok (.aload_n 0, 1) := by decide +kernel
theorem dL_isTree_27 : decode cL_isTree 27 = .ok (.iconst 2, 1) := by decide +kernel
theorem dL_isTree_28 : decode cL_isTree 28 = .ok (.invokevirtual 9, 3) := by decide +kernel
theorem dL_isTree_31 : decode cL_isTree 31 = .ok (.isub, 1) := by decide +kernel
theorem dL_isTree_32 : decode cL_isTree 32 = .ok (.if_icmp .ne 26, 3) := by decide +kernel
theorem dL_isTree_35 : decode cL_isTree 35 = .ok (.aload_n 0, 1) := by decide +kernel
theorem dL_isTree_36 : decode cL_isTree 36 = .ok (.iconst 2, 1) := by decide +kernel
theorem dL_isTree_37 : decode cL_isTree 37 = .ok (.invokevirtual 9, 3) := by decide +kernel
theorem dL_isTree_40 : decode cL_isTree 40 = .ok (.iconst 1, 1) := by decide +kernel
theorem dL_isTree_41 : decode cL_isTree 41 = .ok (.if_icmp .lt 17, 3) := by decide +kernel
theorem dL_isTree_44 : decode cL_isTree 44 = .ok (.aload_n 0, 1) := by decide +kernel
theorem dL_isTree_45 : decode cL_isTree 45 = .ok (.iload_n 2, 1) := by decide +kernel
theorem dL_isTree_46 : decode cL_isTree 46 = .ok (.iconst 0, 1) := by decide +kernel
theorem dL_isTree_47 : decode cL_isTree 47 = .ok (.invokevirtual 47, 3) := by decide +kernel
theorem dL_isTree_50 : decode cL_isTree 50 = .ok (.iconst (-1), 1) := by decide +kernel
theorem dL_isTree_51 : decode cL_isTree 51 = .ok (.if_icmp .ne 7, 3) := by decide +kernel
theorem dL_isTree_54 : decode cL_isTree 54 = .ok (.iconst 1, 1) := by decide +kernel
theorem dL_isTree_55 : decode cL_isTree 55 = .ok (.goto 4, 3) := by decide +kernel
theorem dL_isTree_58 : decode cL_isTree 58 = .ok (.iconst 0, 1) := by decide +kernel
theorem dL_isTree_59 : decode cL_isTree 59 = .ok (.istore 8, 2) := by decide +kernel
theorem dL_isTree_61 : decode cL_isTree 61 = .ok (.iconst 0, 1) := by decide +kernel
theorem dL_isTree_62 : decode cL_isTree 62 = .ok (.istore 9, 2) := by decide +kernel
theorem dL_isTree_64 : decode cL_isTree 64 = .ok (.iload 9, 2) := by decide +kernel
theorem dL_isTree_66 : decode cL_isTree 66 = .ok (.iload_n 2, 1) := by decide +kernel
theorem dL_isTree_67 : decode cL_isTree 67 = .ok (.if_icmp .ge 167, 3) := by decide +kernel
theorem dL_isTree_70 : decode cL_isTree 70 = .ok (.iload 8, 2) := by decide +kernel
theorem dL_isTree_72 : decode cL_isTree 72 = .ok (.ifCond .eq 162, 3) := by decide +kernel
theorem dL_isTree_75 : decode cL_isTree 75 = .ok (.aload_n 0, 1) := by decide +kernel
theorem dL_isTree_76 : decode cL_isTree 76 = .ok (.iload 9, 2) := by decide +kernel
theorem dL_isTree_78 : decode cL_isTree 78 = .ok (.iconst 0, 1) := by decide +kernel
theorem dL_isTree_79 : decode cL_isTree 79 = .ok (.invokevirtual 47, 3) := by decide +kernel
theorem dL_isTree_82 : decode cL_isTree 82 = .ok (.istore 10, 2) := by decide +kernel
theorem dL_isTree_84 : decode cL_isTree 84 = .ok (.iload 10, 2) := by decide +kernel
theorem dL_isTree_86 : decode cL_isTree 86 = .ok (.iload 10, 2) := by decide +kernel
theorem dL_isTree_88 : decode cL_isTree 88 = .ok (.ineg, 1) := by decide +kernel
theorem dL_isTree_89 : decode cL_isTree 89 = .ok (.iand, 1) := by decide +kernel
theorem dL_isTree_90 : decode cL_isTree 90 = .ok (.istore 11, 2) := by decide +kernel
theorem dL_isTree_92 : decode cL_isTree 92 = .ok (.iload 10, 2) := by decide +kernel
theorem dL_isTree_94 : decode cL_isTree 94 = .ok (.iload 5, 2) := by decide +kernel
theorem dL_isTree_96 : decode cL_isTree 96 = .ok (.iand, 1) := by decide +kernel
theorem dL_isTree_97 : decode cL_isTree 97 = .ok (.ifCond .ne 87, 3) := by decide +kernel
theorem dL_isTree_100 : decode cL_isTree 100 = .ok (.iload 9, 2) := by decide +kernel
theorem dL_isTree_102 : decode cL_isTree 102 = .ok (.ifCond .eq 28, 3) := by decide +kernel
theorem dL_isTree_105 : decode cL_isTree 105 = .ok (.iload 11, 2) := by decide +kernel
theorem dL_isTree_107 : decode cL_isTree 107 = .ok (.aload_n 0, 1) := by decide +kernel
theorem dL_isTree_108 : decode cL_isTree 108 = .ok (.iload 9, 2) := by decide +kernel
theorem dL_isTree_110 : decode cL_isTree 110 = .ok (.iconst 1, 1) := by decide +kernel
theorem dL_isTree_111 : decode cL_isTree 111 = .ok (.isub, 1) := by decide +kernel
theorem dL_isTree_112 : decode cL_isTree 112 = .ok (.iconst 0, 1) := by decide +kernel
theorem dL_isTree_113 : decode cL_isTree 113 = .ok (.invokevirtual 47, 3) := by decide +kernel
theorem dL_isTree_116 : decode cL_isTree 116 = .ok (.aload_n 0, 1) := by decide +kernel
theorem dL_isTree_117 : decode cL_isTree 117 = .ok (.iload 9, 2) := by decide +kernel
theorem dL_isTree_119 : decode cL_isTree 119 = .ok (.iconst 1, 1) := by decide +kernel
theorem dL_isTree_120 : decode cL_isTree 120 = .ok (.isub, 1) := by decide +kernel
theorem dL_isTree_121 : decode cL_isTree 121 = .ok (.iconst 0, 1) := by decide +kernel
theorem dL_isTree_122 : decode cL_isTree 122 = .ok (.invokevirtual 47, 3) := by decide +kernel
theorem dL_isTree_125 : decode cL_isTree 125 = .ok (.ineg, 1) := by decide +kernel
theorem dL_isTree_126 : decode cL_isTree 126 = .ok (.iand, 1) := by decide +kernel
theorem dL_isTree_127 : decode cL_isTree 127 = .ok (.if_icmp .le 57, 3) := by decide +kernel
theorem dL_isTree_130 : decode cL_isTree 130 = .ok (.aload_n 0, 1) := by decide +kernel
theorem dL_isTree_131 : decode cL_isTree 131 = .ok (.iload 9, 2) := by decide +kernel
theorem dL_isTree_133 : decode cL_isTree 133 = .ok (.iconst 3, 1) := by decide +kernel
theorem dL_isTree_134 : decode cL_isTree 134 = .ok (.invokevirtual 47, 3) := by decide +kernel
theorem dL_isTree_137 : decode cL_isTree 137 = .ok (.ifCond .lt 47, 3) := by decide +kernel
theorem dL_isTree_140 : decode cL_isTree 140 = .ok (.aload_n 0, 1) := by decide +kernel
theorem dL_isTree_141 : decode cL_isTree 141 = .ok (.iload 9, 2) := by decide +kernel
theorem dL_isTree_143 : decode cL_isTree 143 = .ok (.iconst 3, 1) := by decide +kernel
theorem dL_isTree_144 : decode cL_isTree 144 = .ok (.invokevirtual 47, 3) := by decide +kernel
theorem dL_isTree_147 : decode cL_isTree 147 = .ok (.ifCond .gt 12, 3) := by decide +kernel
theorem dL_isTree_150 : decode cL_isTree 150 = .ok (.iload 10, 2) := by decide +kernel
theorem dL_isTree_152 : decode cL_isTree 152 = .ok (.invokestatic 62, 3) := by decide +kernel
theorem dL_isTree_155 : decode cL_isTree 155 = .ok (.iconst 1, 1) := by decide +kernel
theorem dL_isTree_156 : decode cL_isTree 156 = .ok (.if_icmp .ne 28, 3) := by decide +kernel
theorem dL_isTree_159 : decode cL_isTree 159 = .ok (.aload_n 0, 1) := by decide +kernel
theorem dL_isTree_160 : decode cL_isTree 160 = .ok (.iload 9, 2) := by decide +kernel
theorem dL_isTree_162 : decode cL_isTree 162 = .ok (.iconst 1, 1) := by decide +kernel
theorem dL_isTree_163 : decode cL_isTree 163 = .ok (.invokevirtual 47, 3) := by decide +kernel
theorem dL_isTree_166 : decode cL_isTree 166 = .ok (.aload_n 0, 1) := by decide +kernel
theorem dL_isTree_167 : decode cL_isTree 167 = .ok (.aload_n 0, 1) := by decide +kernel
theorem dL_isTree_168 : decode cL_isTree 168 = .ok (.bipush 6, 2) := by decide +kernel
theorem dL_isTree_170 : decode cL_isTree 170 = .ok (.invokevirtual 9, 3) := by decide +kernel
theorem dL_isTree_173 : decode cL_isTree 173 = .ok (.iconst 1, 1) := by decide +kernel
theorem dL_isTree_174 : decode cL_isTree 174 = .ok (.invokevirtual 47, 3) := by decide +kernel
theorem dL_isTree_177 : decode cL_isTree 177 = .ok (.if_icmp .gt 7, 3) := by decide +kernel
theorem dL_isTree_180 : decode cL_isTree 180 = .ok (.iconst 1, 1) := by decide +kernel
theorem dL_isTree_181 : decode cL_isTree 181 = .ok (.goto 4, 3) := by decide +kernel
theorem dL_isTree_184 : decode cL_isTree 184 = .ok (.iconst 0, 1) := by decide +kernel
theorem dL_isTree_185 : decode cL_isTree 185 = .ok (.istore 8, 2) := by decide +kernel
theorem dL_isTree_187 : decode cL_isTree 187 = .ok (.iload 5, 2) := by decide +kernel
theorem dL_isTree_189 : decode cL_isTree 189 = .ok (.iload 10, 2) := by decide +kernel
theorem dL_isTree_191 : decode cL_isTree 191 = .ok (.ior, 1) := by decide +kernel
theorem dL_isTree_192 : decode cL_isTree 192 = .ok (.istore 5, 2) := by decide +kernel
theorem dL_isTree_194 : decode cL_isTree 194 = .ok (.iload_n 3, 1) := by decide +kernel
theorem dL_isTree_195 : decode cL_isTree 195 = .ok (.aload_n 0, 1) := by decide +kernel
theorem dL_isTree_196 : decode cL_isTree 196 = .ok (.iload 9, 2) := by decide +kernel
theorem dL_isTree_198 : decode cL_isTree 198 = .ok (.iconst 3, 1) := by decide +kernel
theorem dL_isTree_199 : decode cL_isTree 199 = .ok (.invokevirtual 47, 3) := by decide +kernel
theorem dL_isTree_202 : decode cL_isTree 202 = .ok (.iadd, 1) := by decide +kernel
theorem dL_isTree_203 : decode cL_isTree 203 = .ok (.istore_n 3, 1) := by decide +kernel
theorem dL_isTree_204 : decode cL_isTree 204 = .ok (.iload 4, 2) := by decide +kernel
theorem dL_isTree_206 : decode cL_isTree 206 = .ok (.aload_n 0, 1) := by decide +kernel
theorem dL_isTree_207 : decode cL_isTree 207 = .ok (.iload 9, 2) := by decide +kernel
theorem dL_isTree_209 : decode cL_isTree 209 = .ok (.iconst 2, 1) := by decide +kernel
theorem dL_isTree_210 : decode cL_isTree 210 = .ok (.invokevirtual 47, 3) := by decide +kernel
theorem dL_isTree_213 : decode cL_isTree 213 = .ok (.iadd, 1) := by decide +kernel
theorem dL_isTree_214 : decode cL_isTree 214 = .ok (.istore 4, 2) := by decide +kernel
theorem dL_isTree_216 : decode cL_isTree 216 = .ok (.iload 6, 2) := by decide +kernel
theorem dL_isTree_218 : decode cL_isTree 218 = .ok (.aload_n 0, 1) := by decide +kernel
theorem dL_isTree_219 : decode cL_isTree 219 = .ok (.iload 9, 2) := by decide +kernel
theorem dL_isTree_221 : decode cL_isTree 221 = .ok (.iconst 1, 1) := by decide +kernel
theorem dL_isTree_222 : decode cL_isTree 222 = .ok (.invokevirtual 47, 3) := by decide +kernel
theorem dL_isTree_225 : decode cL_isTree 225 = .ok (.iadd, 1) := by decide +kernel
theorem dL_isTree_226 : decode cL_isTree 226 = .ok (.istore 6, 2) := by decide +kernel
theorem dL_isTree_228 : decode cL_isTree 228 = .ok (.iinc 9 1, 3) := by decide +kernel
theorem dL_isTree_231 : decode cL_isTree 231 = .ok (.goto (-167), 3) := by decide +kernel
theorem dL_isTree_234 : decode cL_isTree 234 = .ok (.iconst 0, 1) := by decide +kernel
theorem dL_isTree_235 : decode cL_isTree 235 = .ok (.istore 9, 2) := by decide +kernel
theorem dL_isTree_237 : decode cL_isTree 237 = .ok (.iload 9, 2) := by decide +kernel
theorem dL_isTree_239 : decode cL_isTree 239 = .ok (.aload_n 0, 1) := by decide +kernel
theorem dL_isTree_240 : decode cL_isTree 240 = .ok (.iconst 1, 1) := by decide +kernel
theorem dL_isTree_241 : decode cL_isTree 241 = .ok (.invokevirtual 9, 3) := by decide +kernel
theorem dL_isTree_244 : decode cL_isTree 244 = .ok (.if_icmp .ge 241, 3) := by decide +kernel
theorem dL_isTree_247 : decode cL_isTree 247 = .ok (.iload 8, 2) := by decide +kernel
theorem dL_isTree_249 : decode cL_isTree 249 = .ok (.ifCond .eq 236, 3) := by decide +kernel
theorem dL_isTree_252 : decode cL_isTree 252 = .ok (.aload_n 0, 1) := by decide +kernel
theorem dL_isTree_253 : decode cL_isTree 253 = .ok (.iload 9, 2) := by decide +kernel
theorem dL_isTree_255 : decode cL_isTree 255 = .ok (.iconst 0, 1) := by decide +kernel
theorem dL_isTree_256 : decode cL_isTree 256 = .ok (.invokevirtual 28, 3) := by decide +kernel
theorem dL_isTree_259 : decode cL_isTree 259 = .ok (.istore 10, 2) := by decide +kernel
theorem dL_isTree_261 : decode cL_isTree 261 = .ok (.aload_n 0, 1) := by decide +kernel
theorem dL_isTree_262 : decode cL_isTree 262 = .ok (.iload 9, 2) := by decide +kernel
theorem dL_isTree_264 : decode cL_isTree 264 = .ok (.iconst 1, 1) := by decide +kernel
theorem dL_isTree_265 : decode cL_isTree 265 = .ok (.invokevirtual 28, 3) := by decide +kernel
theorem dL_isTree_268 : decode cL_isTree 268 = .ok (.istore 11, 2) := by decide +kernel
theorem dL_isTree_270 : decode cL_isTree 270 = .ok (.aload_n 0, 1) := by decide +kernel
theorem dL_isTree_271 : decode cL_isTree 271 = .ok (.iload 9, 2) := by decide +kernel
theorem dL_isTree_273 : decode cL_isTree 273 = .ok (.iconst 3, 1) := by decide +kernel
theorem dL_isTree_274 : decode cL_isTree 274 = .ok (.invokevirtual 28, 3) := by decide +kernel
theorem dL_isTree_277 : decode cL_isTree 277 = .ok (.iconst 1, 1) := by decide +kernel
theorem dL_isTree_278 : decode cL_isTree 278 = .ok (.if_icmp .ne 7, 3) := by decide +kernel
theorem dL_isTree_281 : decode cL_isTree 281 = .ok (.iconst 1, 1) := by decide +kernel
theorem dL_isTree_282 : decode cL_isTree 282 = .ok (.goto 4, 3) := by decide +kernel
theorem dL_isTree_285 : decode cL_isTree 285 = .ok (.iconst 0, 1) := by decide +kernel
theorem dL_isTree_286 : decode cL_isTree 286 = .ok (.istore 12, 2) := by decide +kernel
theorem dL_isTree_288 : decode cL_isTree 288 = .ok (.iload 7, 2) := by decide +kernel
theorem dL_isTree_290 : decode cL_isTree 290 = .ok (.iload 12, 2) := by decide +kernel
theorem dL_isTree_292 : decode cL_isTree 292 = .ok (.ifCond .eq 13, 3) := by decide +kernel
theorem dL_isTree_295 : decode cL_isTree 295 = .ok (.aload_n 0, 1) := by decide +kernel
theorem dL_isTree_296 : decode cL_isTree 296 = .ok (.iload 9, 2) := by decide +kernel
theorem dL_isTree_298 : decode cL_isTree 298 = .ok (.iconst 2, 1) := by decide +kernel
theorem dL_isTree_299 : decode cL_isTree 299 = .ok (.invokevirtual 28, 3) := by decide +kernel
theorem dL_isTree_302 : decode cL_isTree 302 = .ok (.goto 4, 3) := by decide +kernel
theorem dL_isTree_305 : decode cL_isTree 305 = .ok (.iconst 0, 1) := by decide +kernel
theorem dL_isTree_306 : decode cL_isTree 306 = .ok (.iadd, 1) := by decide +kernel
theorem dL_isTree_307 : decode cL_isTree 307 = .ok (.istore 7, 2) := by decide +kernel
theorem dL_isTree_309 : decode cL_isTree 309 = .ok (.iload 12, 2) := by decide +kernel
theorem dL_isTree_311 : decode cL_isTree 311 = .ok (.aload_n 0, 1) := by decide +kernel
theorem dL_isTree_312 : decode cL_isTree 312 = .ok (.iload 10, 2) := by decide +kernel
theorem dL_isTree_314 : decode cL_isTree 314 = .ok (.iconst 2, 1) := by decide +kernel
theorem dL_isTree_315 : decode cL_isTree 315 = .ok (.invokevirtual 38, 3) := by decide +kernel
theorem dL_isTree_318 : decode cL_isTree 318 = .ok (.aload_n 0, 1) := by decide +kernel
theorem dL_isTree_319 : decode cL_isTree 319 = .ok (.iload 11, 2) := by decide +kernel
theorem dL_isTree_321 : decode cL_isTree 321 = .ok (.iconst 2, 1) := by decide +kernel
theorem dL_isTree_322 : decode cL_isTree 322 = .ok (.invokevirtual 38, 3) := by decide +kernel
theorem dL_isTree_325 : decode cL_isTree 325 = .ok (.if_icmp .eq 7, 3) := by decide +kernel
theorem dL_isTree_328 : decode cL_isTree 328 = .ok (.iconst 1, 1) := by decide +kernel
theorem dL_isTree_329 : decode cL_isTree 329 = .ok (.goto 4, 3) := by decide +kernel
theorem dL_isTree_332 : decode cL_isTree 332 = .ok (.iconst 0, 1) := by decide +kernel
theorem dL_isTree_333 : decode cL_isTree 333 = .ok (.if_icmp .ne 143, 3) := by decide +kernel
theorem dL_isTree_336 : decode cL_isTree 336 = .ok (.aload_n 0, 1) := by decide +kernel
theorem dL_isTree_337 : decode cL_isTree 337 = .ok (.iload 9, 2) := by decide +kernel
theorem dL_isTree_339 : decode cL_isTree 339 = .ok (.iconst 5, 1) := by decide +kernel
theorem dL_isTree_340 : decode cL_isTree 340 = .ok (.invokevirtual 28, 3) := by decide +kernel
theorem dL_isTree_343 : decode cL_isTree 343 = .ok (.ifCond .le 7, 3) := by decide +kernel
theorem dL_isTree_346 : decode cL_isTree 346 = .ok (.iconst 1, 1) := by decide +kernel
theorem dL_isTree_347 : decode cL_isTree 347 = .ok (.goto 4, 3) := by decide +kernel
theorem dL_isTree_350 : decode cL_isTree 350 = .ok (.iconst 0, 1) := by decide +kernel
theorem dL_isTree_351 : decode cL_isTree 351 = .ok (.iload 12, 2) := by decide +kernel
theorem dL_isTree_353 : decode cL_isTree 353 = .ok (.if_icmp .ne 123, 3) := by decide +kernel
theorem dL_isTree_356 : decode cL_isTree 356 = .ok (.iload 12, 2) := by decide +kernel
theorem dL_isTree_358 : decode cL_isTree 358 = .ok (.ifCond .eq 18, 3) := by decide +kernel
theorem dL_isTree_361 : decode cL_isTree 361 = .ok (.aload_n 0, 1) := by decide +kernel
theorem dL_isTree_362 : decode cL_isTree 362 = .ok (.iload 9, 2) := by decide +kernel
theorem dL_isTree_364 : decode cL_isTree 364 = .ok (.iconst 4, 1) := by decide +kernel
theorem dL_isTree_365 : decode cL_isTree 365 = .ok (.invokevirtual 28, 3) := by decide +kernel
theorem dL_isTree_368 : decode cL_isTree 368 = .ok (.bipush (-6), 2) := by decide +kernel
theorem dL_isTree_370 : decode cL_isTree 370 = .ok (.if_icmp .ne 106, 3) := by decide +kernel
theorem dL_isTree_373 : decode cL_isTree 373 = .ok (.goto 25, 3) := by decide +kernel
theorem dL_isTree_376 : decode cL_isTree 376 = .ok (.aload_n 0, 1) := by decide +kernel
theorem dL_isTree_377 : decode cL_isTree 377 = .ok (.iload 9, 2) := by decide +kernel
theorem dL_isTree_379 : decode cL_isTree 379 = .ok (.iconst 4, 1) := by decide +kernel
theorem dL_isTree_380 : decode cL_isTree 380 = .ok (.invokevirtual 28, 3) := by decide +kernel
theorem dL_isTree_383 : decode cL_isTree 383 = .ok (.iconst 2, 1) := by decide +kernel
theorem dL_isTree_384 : decode cL_isTree 384 = .ok (.if_icmp .lt 92, 3) := by decide +kernel
theorem dL_isTree_387 : decode cL_isTree 387 = .ok (.aload_n 0, 1) := by decide +kernel
theorem dL_isTree_388 : decode cL_isTree 388 = .ok (.iload 9, 2) := by decide +kernel
theorem dL_isTree_390 : decode cL_isTree 390 = .ok (.iconst 4, 1) := by decide +kernel
theorem dL_isTree_391 : decode cL_isTree 391 = .ok (.invokevirtual 28, 3) := by decide +kernel
theorem dL_isTree_394 : decode cL_isTree 394 = .ok (.iload_n 1, 1) := by decide +kernel
theorem dL_isTree_395 : decode cL_isTree 395 = .ok (.if_icmp .gt 81, 3) := by decide +kernel
theorem dL_isTree_398 : decode cL_isTree 398 = .ok (.aload_n 0, 1) := by decide +kernel
theorem dL_isTree_399 : decode cL_isTree 399 = .ok (.iload 10, 2) := by decide +kernel
theorem dL_isTree_401 : decode cL_isTree 401 = .ok (.iload 11, 2) := by decide +kernel
theorem dL_isTree_403 : decode cL_isTree 403 = .ok (.iconst 0, 1) := by decide +kernel
theorem dL_isTree_404 : decode cL_isTree 404 = .ok (.invokevirtual 50, 3) := by decide +kernel
theorem dL_isTree_407 : decode cL_isTree 407 = .ok (.aload_n 0, 1) := by decide +kernel
theorem dL_isTree_408 : decode cL_isTree 408 = .ok (.iload 9, 2) := by decide +kernel
theorem dL_isTree_410 : decode cL_isTree 410 = .ok (.iconst 2, 1) := by decide +kernel
theorem dL_isTree_411 : decode cL_isTree 411 = .ok (.invokevirtual 28, 3) := by decide +kernel
theorem dL_isTree_414 : decode cL_isTree 414 = .ok (.if_icmp .gt 62, 3) := by decide +kernel
theorem dL_isTree_417 : decode cL_isTree 417 = .ok (.iload 12, 2) := by decide +kernel
theorem dL_isTree_419 : decode cL_isTree 419 = .ok (.ifCond .eq 53, 3) := by decide +kernel
theorem dL_isTree_422 : decode cL_isTree 422 = .ok (.aload_n 0, 1) := by decide +kernel
theorem dL_isTree_423 : decode cL_isTree 423 = .ok (.iload 10, 2) := by decide +kernel
theorem dL_isTree_425 : decode cL_isTree 425 = .ok (.iload 9, 2) := by decide +kernel
theorem dL_isTree_427 : decode cL_isTree 427 = .ok (.invokevirtual 65, 3) := by decide +kernel
theorem dL_isTree_430 : decode cL_isTree 430 = .ok (.iload 11, 2) := by decide +kernel
theorem dL_isTree_432 : decode cL_isTree 432 = .ok (.ishr, 1) := by decide +kernel
theorem dL_isTree_433 : decode cL_isTree 433 = .ok (.iconst 1, 1) := by decide +kernel
theorem dL_isTree_434 : decode cL_isTree 434 = .ok (.iand, 1) := by decide +kernel
theorem dL_isTree_435 : decode cL_isTree 435 = .ok (.iconst 1, 1) := by decide +kernel
theorem dL_isTree_436 : decode cL_isTree 436 = .ok (.if_icmp .ne 40, 3) := by decide +kernel
theorem dL_isTree_439 : decode cL_isTree 439 = .ok (.aload_n 0, 1) := by decide +kernel
theorem dL_isTree_440 : decode cL_isTree 440 = .ok (.iload 10, 2) := by decide +kernel
theorem dL_isTree_442 : decode cL_isTree 442 = .ok (.iload 9, 2) := by decide +kernel
theorem dL_isTree_444 : decode cL_isTree 444 = .ok (.invokevirtual 65, 3) := by decide +kernel
theorem dL_isTree_447 : decode cL_isTree 447 = .ok (.invokestatic 62, 3) := by decide +kernel
theorem dL_isTree_450 : decode cL_isTree 450 = .ok (.aload_n 0, 1) := by decide +kernel
theorem dL_isTree_451 : decode cL_isTree 451 = .ok (.iload 11, 2) := by decide +kernel
theorem dL_isTree_453 : decode cL_isTree 453 = .ok (.iload 9, 2) := by decide +kernel
theorem dL_isTree_455 : decode cL_isTree 455 = .ok (.invokevirtual 65, 3) := by decide +kernel
theorem dL_isTree_458 : decode cL_isTree 458 = .ok (.invokestatic 62, 3) := by decide +kernel
theorem dL_isTree_461 : decode cL_isTree 461 = .ok (.imul, 1) := by decide +kernel
theorem dL_isTree_462 : decode cL_isTree 462 = .ok (.aload_n 0, 1) := by decide +kernel
theorem dL_isTree_463 : decode cL_isTree 463 = .ok (.iload 9, 2) := by decide +kernel
theorem dL_isTree_465 : decode cL_isTree 465 = .ok (.iconst 5, 1) := by decide +kernel
theorem dL_isTree_466 : decode cL_isTree 466 = .ok (.invokevirtual 28, 3) := by decide +kernel
theorem dL_isTree_469 : decode cL_isTree 469 = .ok (.if_icmp .ne 7, 3) := by decide +kernel
theorem dL_isTree_472 : decode cL_isTree 472 = .ok (.iconst 1, 1) := by decide +kernel
theorem dL_isTree_473 : decode cL_isTree 473 = .ok (.goto 4, 3) := by decide +kernel
theorem dL_isTree_476 : decode cL_isTree 476 = .ok (.iconst 0, 1) := by decide +kernel
theorem dL_isTree_477 : decode cL_isTree 477 = .ok (.istore 8, 2) := by decide +kernel
theorem dL_isTree_479 : decode cL_isTree 479 = .ok (.iinc 9 1, 3) := by decide +kernel
theorem dL_isTree_482 : decode cL_isTree 482 = .ok (.goto (-245), 3) := by decide +kernel
theorem dL_isTree_485 : decode cL_isTree 485 = .ok (.iload 8, 2) := by decide +kernel
theorem dL_isTree_487 : decode cL_isTree 487 = .ok (.ifCond .eq 75, 3) := by decide +kernel
theorem dL_isTree_490 : decode cL_isTree 490 = .ok (.iload 5, 2) := by decide +kernel
theorem dL_isTree_492 : decode cL_isTree 492 = .ok (.iconst 1, 1) := by decide +kernel
theorem dL_isTree_493 : decode cL_isTree 493 = .ok (.iload_n 1, 1) := by decide +kernel
theorem dL_isTree_494 : decode cL_isTree 494 = .ok (.ishl, 1) := by decide +kernel
theorem dL_isTree_495 : decode cL_isTree 495 = .ok (.iconst 1, 1) := by decide +kernel
theorem dL_isTree_496 : decode cL_isTree 496 = .ok (.isub, 1) := by decide +kernel
theorem dL_isTree_497 : decode cL_isTree 497 = .ok (.if_icmp .ne 65, 3) := by decide +kernel
theorem dL_isTree_500 : decode cL_isTree 500 = .ok (.iload 4, 2) := by decide +kernel
theorem dL_isTree_502 : decode cL_isTree 502 = .ok (.iconst 2, 1) := by decide +kernel
theorem dL_isTree_503 : decode cL_isTree 503 = .ok (.aload_n 0, 1) := by decide +kernel
theorem dL_isTree_504 : decode cL_isTree 504 = .ok (.iconst 3, 1) := by decide +kernel
theorem dL_isTree_505 : decode cL_isTree 505 = .ok (.invokevirtual 9, 3) := by decide +kernel
theorem dL_isTree_508 : decode cL_isTree 508 = .ok (.imul, 1) := by decide +kernel
theorem dL_isTree_509 : decode cL_isTree 509 = .ok (.if_icmp .ne 53, 3) := by decide +kernel
theorem dL_isTree_512 : decode cL_isTree 512 = .ok (.iload_n 3, 1) := by decide +kernel
theorem dL_isTree_513 : decode cL_isTree 513 = .ok (.aload_n 0, 1) := by decide +kernel
theorem dL_isTree_514 : decode cL_isTree 514 = .ok (.iconst 1, 1) := by decide +kernel
theorem dL_isTree_515 : decode cL_isTree 515 = .ok (.invokevirtual 9, 3) := by decide +kernel
theorem dL_isTree_518 : decode cL_isTree 518 = .ok (.iload_n 1, 1) := by decide +kernel
theorem dL_isTree_519 : decode cL_isTree 519 = .ok (.isub, 1) := by decide +kernel
theorem dL_isTree_520 : decode cL_isTree 520 = .ok (.aload_n 0, 1) := by decide +kernel
theorem dL_isTree_521 : decode cL_isTree 521 = .ok (.iconst 2, 1) := by decide +kernel
theorem dL_isTree_522 : decode cL_isTree 522 = .ok (.invokevirtual 9, 3) := by decide +kernel
theorem dL_isTree_525 : decode cL_isTree 525 = .ok (.iadd, 1) := by decide +kernel
theorem dL_isTree_526 : decode cL_isTree 526 = .ok (.if_icmp .ne 36, 3) := by decide +kernel
theorem dL_isTree_529 : decode cL_isTree 529 = .ok (.iload 6, 2) := by decide +kernel
theorem dL_isTree_531 : decode cL_isTree 531 = .ok (.iload 7, 2) := by decide +kernel
theorem dL_isTree_533 : decode cL_isTree 533 = .ok (.iadd, 1) := by decide +kernel
theorem dL_isTree_534 : decode cL_isTree 534 = .ok (.aload_n 0, 1) := by decide +kernel
theorem dL_isTree_535 : decode cL_isTree 535 = .ok (.bipush 7, 2) := by decide +kernel
theorem dL_isTree_537 : decode cL_isTree 537 = .ok (.invokevirtual 9, 3) := by decide +kernel
theorem dL_isTree_540 : decode cL_isTree 540 = .ok (.if_icmp .ne 22, 3) := by decide +kernel
theorem dL_isTree_543 : decode cL_isTree 543 = .ok (.aload_n 0, 1) := by decide +kernel
theorem dL_isTree_544 : decode cL_isTree 544 = .ok (.iconst 2, 1) := by decide +kernel
theorem dL_isTree_545 : decode cL_isTree 545 = .ok (.invokevirtual 56, 3) := by decide +kernel
theorem dL_isTree_548 : decode cL_isTree 548 = .ok (.aload_n 0, 1) := by decide +kernel
theorem dL_isTree_549 : decode cL_isTree 549 = .ok (.iconst 3, 1) := by decide +kernel
theorem dL_isTree_550 : decode cL_isTree 550 = .ok (.invokevirtual 9, 3) := by decide +kernel
theorem dL_isTree_553 : decode cL_isTree 553 = .ok (.iconst 1, 1) := by decide +kernel
theorem dL_isTree_554 : decode cL_isTree 554 = .ok (.iadd, 1) := by decide +kernel
theorem dL_isTree_555 : decode cL_isTree 555 = .ok (.if_icmp .gt 7, 3) := by decide +kernel
theorem dL_isTree_558 : decode cL_isTree 558 = .ok (.iconst 1, 1) := by decide +kernel
theorem dL_isTree_559 : decode cL_isTree 559 = .ok (.goto 4, 3) := by decide +kernel
theorem dL_isTree_562 : decode cL_isTree 562 = .ok (.iconst 0, 1) := by decide +kernel
theorem dL_isTree_563 : decode cL_isTree 563 = .ok (.ireturn, 1) := by decide +kernel
theorem dL_law_0 : decode cL_law 0 = .ok (.new 10, 3) := by decide +kernel
theorem dL_law_3 : decode cL_law 3 = .ok (.dup, 1) := by decide +kernel
theorem dL_law_4 : decode cL_law 4 = .ok (.invokespecial 68, 3) := by decide +kernel
theorem dL_law_7 : decode cL_law 7 = .ok (.astore_n 1, 1) := by decide +kernel
theorem dL_law_8 : decode cL_law 8 = .ok (.new 10, 3) := by decide +kernel
theorem dL_law_11 : decode cL_law 11 = .ok (.dup, 1) := by decide +kernel
theorem dL_law_12 : decode cL_law 12 = .ok (.invokespecial 68, 3) := by decide +kernel
theorem dL_law_15 : decode cL_law 15 = .ok (.astore_n 2, 1) := by decide +kernel
theorem dL_law_16 : decode cL_law 16 = .ok (.iconst 3, 1) := by decide +kernel
theorem dL_law_17 : decode cL_law 17 = .ok (.aload_n 0, 1) := by decide +kernel
theorem dL_law_18 : decode cL_law 18 = .ok (.iconst 0, 1) := by decide +kernel
theorem dL_law_19 : decode cL_law 19 = .ok (.invokestatic 69, 3) := by decide +kernel
theorem dL_law_22 : decode cL_law 22 = .ok (.bipush 10, 2) := by decide +kernel
theorem dL_law_24 : decode cL_law 24 = .ok (.invokestatic 15, 3) := by decide +kernel
theorem dL_law_27 : decode cL_law 27 = .ok (.iadd, 1) := by decide +kernel
theorem dL_law_28 : decode cL_law 28 = .ok (.istore_n 3, 1) := by decide +kernel
theorem dL_law_29 : decode cL_law 29 = .ok (.aload_n 1, 1) := by decide +kernel
theorem dL_law_30 : decode cL_law 30 = .ok (.iload_n 3, 1) := by decide +kernel
theorem dL_law_31 : decode cL_law 31 = .ok (.invokevirtual 73, 3) := by decide +kernel
theorem dL_law_34 : decode cL_law 34 = .ok (.bipush 8, 2) := by decide +kernel
theorem dL_law_36 : decode cL_law 36 = .ok (.if_icmp .ne 17, 3) := by decide +kernel
theorem dL_law_39 : decode cL_law 39 = .ok (.aload_n 2, 1) := by decide +kernel
theorem dL_law_40 : decode cL_law 40 = .ok (.iload_n 3, 1) := by decide +kernel
theorem dL_law_41 : decode cL_law 41 = .ok (.invokevirtual 73, 3) := by decide +kernel
theorem dL_law_44 : decode cL_law 44 = .ok (.bipush 8, 2) := by decide +kernel
theorem dL_law_46 : decode cL_law 46 = .ok (.if_icmp .ne 7, 3) := by decide +kernel
theorem dL_law_49 : decode cL_law 49 = .ok (.iconst 1, 1) := by decide +kernel
theorem dL_law_50 : decode cL_law 50 = .ok (.goto 4, 3) := by decide +kernel
theorem dL_law_53 : decode cL_law 53 = .ok (.iconst 0, 1) := by decide +kernel
theorem dL_law_54 : decode cL_law 54 = .ok (.istore 4, 2) := by decide +kernel
theorem dL_law_56 : decode cL_law 56 = .ok (.iconst 1, 1) := by decide +kernel
theorem dL_law_57 : decode cL_law 57 = .ok (.istore 5, 2) := by decide +kernel
theorem dL_law_59 : decode cL_law 59 = .ok (.iload 5, 2) := by decide +kernel
theorem dL_law_61 : decode cL_law 61 = .ok (.bipush 36, 2) := by decide +kernel
theorem dL_law_63 : decode cL_law 63 = .ok (.if_icmp .ge 52, 3) := by decide +kernel
theorem dL_law_66 : decode cL_law 66 = .ok (.iload 4, 2) := by decide +kernel
theorem dL_law_68 : decode cL_law 68 = .ok (.ifCond .eq 47, 3) := by decide +kernel
theorem dL_law_71 : decode cL_law 71 = .ok (.aload_n 1, 1) := by decide +kernel
theorem dL_law_72 : decode cL_law 72 = .ok (.aload_n 2, 1) := by decide +kernel
theorem dL_law_73 : decode cL_law 73 = .ok (.iload_n 3, 1) := by decide +kernel
theorem dL_law_74 : decode cL_law 74 = .ok (.aload_n 0, 1) := by decide +kernel
theorem dL_law_75 : decode cL_law 75 = .ok (.iload 5, 2) := by decide +kernel
theorem dL_law_77 : decode cL_law 77 = .ok (.invokestatic 69, 3) := by decide +kernel
theorem dL_law_80 : decode cL_law 80 = .ok (.invokestatic 76, 3) := by decide +kernel
theorem dL_law_83 : decode cL_law 83 = .ok (.ifCond .eq 23, 3) := by decide +kernel
theorem dL_law_86 : decode cL_law 86 = .ok (.iload 5, 2) := by decide +kernel
theorem dL_law_88 : decode cL_law 88 = .ok (.bipush 6, 2) := by decide +kernel
theorem dL_law_90 : decode cL_law 90 = .ok (.irem, 1) := by decide +kernel
theorem dL_law_91 : decode cL_law 91 = .ok (.ifCond .gt 11, 3) := by decide +kernel
theorem dL_law_94 : decode cL_law 94 = .ok (.aload_n 1, 1) := by decide +kernel
theorem dL_law_95 : decode cL_law 95 = .ok (.iload_n 3, 1) := by decide +kernel
theorem dL_law_96 : decode cL_law 96 = .ok (.invokestatic 80, 3) := by decide +kernel
theorem dL_law_99 : decode cL_law 99 = .ok (.ifCond .eq 7, 3) := by decide +kernel
theorem dL_law_102 : decode cL_law 102 = .ok (.iconst 1, 1) := by decide +kernel
theorem dL_law_103 : decode cL_law 103 = .ok (.goto 4, 3) := by decide +kernel
theorem dL_law_106 : decode cL_law 106 = .ok (.iconst 0, 1) := by decide +kernel
theorem dL_law_107 : decode cL_law 107 = .ok (.istore 4, 2) := by decide +kernel
theorem dL_law_109 : decode cL_law 109 = .ok (.iinc 5 1, 3) := by decide +kernel
theorem dL_law_112 : decode cL_law 112 = .ok (.goto (-53), 3) := by decide +kernel
theorem dL_law_115 : decode cL_law 115 = .ok (.iload 4, 2) := by decide +kernel
theorem dL_law_117 : decode cL_law 117 = .ok (.ifCond .eq 30, 3) := by decide +kernel
theorem dL_law_120 : decode cL_law 120 = .ok (.aload_n 1, 1) := by decide +kernel
theorem dL_law_121 : decode cL_law 121 = .ok (.iload_n 3, 1) := by decide +kernel
theorem dL_law_122 : decode cL_law 122 = .ok (.invokestatic 80, 3) := by decide +kernel
theorem dL_law_125 : decode cL_law 125 = .ok (.ifCond .eq 22, 3) := by decide +kernel
theorem dL_law_128 : decode cL_law 128 = .ok (.aload_n 1, 1) := by decide +kernel
theorem dL_law_129 : decode cL_law 129 = .ok (.aload_n 2, 1) := by decide +kernel
theorem dL_law_130 : decode cL_law 130 = .ok (.iload_n 3, 1) := by decide +kernel
theorem dL_law_131 : decode cL_law 131 = .ok (.aload_n 0, 1) := by decide +kernel
theorem dL_law_132 : decode cL_law 132 = .ok (.bipush 36, 2) := by decide +kernel
theorem dL_law_134 : decode cL_law 134 = .ok (.invokestatic 69, 3) := by decide +kernel
theorem dL_law_137 : decode cL_law 137 = .ok (.invokestatic 84, 3) := by decide +kernel
theorem dL_law_140 : decode cL_law 140 = .ok (.ifCond .eq 7, 3) := by decide +kernel
theorem dL_law_143 : decode cL_law 143 = .ok (.iconst 1, 1) := by decide +kernel
theorem dL_law_144 : decode cL_law 144 = .ok (.goto 4, 3) := by decide +kernel
theorem dL_law_147 : decode cL_law 147 = .ok (.iconst 0, 1) := by decide +kernel
theorem dL_law_148 : decode cL_law 148 = .ok (.ireturn, 1) := by decide +kernel
