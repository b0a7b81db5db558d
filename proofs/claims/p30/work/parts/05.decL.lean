theorem dL_cell_0 : decode cL_cell 0 = .ok (.iload_n 1, 1) := by decide +kernel
theorem dL_cell_1 : decode cL_cell 1 = .ok (.aload_n 0, 1) := by decide +kernel
theorem dL_cell_2 : decode cL_cell 2 = .ok (.arraylength, 1) := by decide +kernel
theorem dL_cell_3 : decode cL_cell 3 = .ok (.if_icmp .ge 9, 3) := by decide +kernel
theorem dL_cell_6 : decode cL_cell 6 = .ok (.aload_n 0, 1) := by decide +kernel
theorem dL_cell_7 : decode cL_cell 7 = .ok (.iload_n 1, 1) := by decide +kernel
theorem dL_cell_8 : decode cL_cell 8 = .ok (.iaload, 1) := by decide +kernel
theorem dL_cell_9 : decode cL_cell 9 = .ok (.goto 11, 3) := by decide +kernel
theorem dL_cell_12 : decode cL_cell 12 = .ok (.ldc 7, 2) := by decide +kernel
theorem dL_cell_14 : decode cL_cell 14 = .ok (.iload_n 1, 1) := by decide +kernel
theorem dL_cell_15 : decode cL_cell 15 = .ok (.sipush 457, 3) := by decide +kernel
theorem dL_cell_18 : decode cL_cell 18 = .ok (.iadd, 1) := by decide +kernel
theorem dL_cell_19 : decode cL_cell 19 = .ok (.imul, 1) := by decide +kernel
theorem dL_cell_20 : decode cL_cell 20 = .ok (.ireturn, 1) := by decide +kernel
theorem dL_at_0 : decode cL_at 0 = .ok (.iload_n 0, 1) := by decide +kernel
theorem dL_at_1 : decode cL_at 1 = .ok (.iconst 1, 1) := by decide +kernel
theorem dL_at_2 : decode cL_at 2 = .ok (.iushr, 1) := by decide +kernel
theorem dL_at_3 : decode cL_at 3 = .ok (.iload_n 1, 1) := by decide +kernel
theorem dL_at_4 : decode cL_at 4 = .ok (.irem, 1) := by decide +kernel
theorem dL_at_5 : decode cL_at 5 = .ok (.ireturn, 1) := by decide +kernel
theorem dL_solutions_0 : decode cL_solutions 0 = .ok (.aload_n 0, 1) := by decide +kernel
theorem dL_solutions_1 : decode cL_solutions 1 = .ok (.bipush 16, 2) := by decide +kernel
theorem dL_solutions_3 : decode cL_solutions 3 = .ok (.iload_n 2, 1) := by decide +kernel
theorem dL_solutions_4 : decode cL_solutions 4 = .ok (.iadd, 1) := by decide +kernel
theorem dL_solutions_5 : decode cL_solutions 5 = .ok (.iaload, 1) := by decide +kernel
theorem dL_solutions_6 : decode cL_solutions 6 = .ok (.aload_n 0, 1) := by decide +kernel
theorem dL_solutions_7 : decode cL_solutions 7 = .ok (.iload_n 2, 1) := by decide +kernel
theorem dL_solutions_8 : decode cL_solutions 8 = .ok (.iaload, 1) := by decide +kernel
theorem dL_solutions_9 : decode cL_solutions 9 = .ok (.isub, 1) := by decide +kernel
theorem dL_solutions_10 : decode cL_solutions 10 = .ok (.istore 4, 2) := by decide +kernel
theorem dL_solutions_12 : decode cL_solutions 12 = .ok (.iconst 0, 1) := by decide +kernel
theorem dL_solutions_13 : decode cL_solutions 13 = .ok (.istore 5, 2) := by decide +kernel
theorem dL_solutions_15 : decode cL_solutions 15 = .ok (.iconst 0, 1) := by decide +kernel
theorem dL_solutions_16 : decode cL_solutions 16 = .ok (.istore 6, 2) := by decide +kernel
theorem dL_solutions_18 : decode cL_solutions 18 = .ok (.iload 6, 2) := by decide +kernel
theorem dL_solutions_20 : decode cL_solutions 20 = .ok (.bipush 9, 2) := by decide +kernel
theorem dL_solutions_22 : decode cL_solutions 22 = .ok (.if_icmp .gt 241, 3) := by decide +kernel
theorem dL_solutions_25 : decode cL_solutions 25 = .ok (.iload 6, 2) := by decide +kernel
theorem dL_solutions_27 : decode cL_solutions 27 = .ok (.aload_n 1, 1) := by decide +kernel
theorem dL_solutions_28 : decode cL_solutions 28 = .ok (.iconst 1, 1) := by decide +kernel
theorem dL_solutions_29 : decode cL_solutions 29 = .ok (.iaload, 1) := by decide +kernel
theorem dL_solutions_30 : decode cL_solutions 30 = .ok (.if_icmp .gt 233, 3) := by decide +kernel
theorem dL_solutions_33 : decode cL_solutions 33 = .ok (.iconst 0, 1) := by decide +kernel
theorem dL_solutions_34 : decode cL_solutions 34 = .ok (.istore 7, 2) := by decide +kernel
theorem dL_solutions_36 : decode cL_solutions 36 = .ok (.iload 7, 2) := by decide +kernel
theorem dL_solutions_38 : decode cL_solutions 38 = .ok (.bipush 9, 2) := by decide +kernel
theorem dL_solutions_40 : decode cL_solutions 40 = .ok (.if_icmp .gt 217, 3) := by decide +kernel
theorem dL_solutions_43 : decode cL_solutions 43 = .ok (.iload 7, 2) := by decide +kernel
theorem dL_solutions_45 : decode cL_solutions 45 = .ok (.aload_n 1, 1) := by decide +kernel
theorem dL_solutions_46 : decode cL_solutions 46 = .ok (.iconst 1, 1) := by decide +kernel
theorem dL_solutions_47 : decode cL_solutions 47 = .ok (.iaload, 1) := by decide +kernel
theorem dL_solutions_48 : decode cL_solutions 48 = .ok (.if_icmp .gt 209, 3) := by decide +kernel
theorem dL_solutions_51 : decode cL_solutions 51 = .ok (.iconst 0, 1) := by decide +kernel
theorem dL_solutions_52 : decode cL_solutions 52 = .ok (.istore 8, 2) := by decide +kernel
theorem dL_solutions_54 : decode cL_solutions 54 = .ok (.iload 8, 2) := by decide +kernel
theorem dL_solutions_56 : decode cL_solutions 56 = .ok (.bipush 9, 2) := by decide +kernel
theorem dL_solutions_58 : decode cL_solutions 58 = .ok (.if_icmp .gt 193, 3) := by decide +kernel
theorem dL_solutions_61 : decode cL_solutions 61 = .ok (.iload 8, 2) := by decide +kernel
theorem dL_solutions_63 : decode cL_solutions 63 = .ok (.aload_n 1, 1) := by decide +kernel
theorem dL_solutions_64 : decode cL_solutions 64 = .ok (.iconst 1, 1) := by decide +kernel
theorem dL_solutions_65 : decode cL_solutions 65 = .ok (.iaload, 1) := by decide +kernel
theorem dL_solutions_66 : decode cL_solutions 66 = .ok (.if_icmp .gt 185, 3) := by decide +kernel
theorem dL_solutions_69 : decode cL_solutions 69 = .ok (.aload_n 0, 1) := by decide +kernel
theorem dL_solutions_70 : decode cL_solutions 70 = .ok (.iconst 4, 1) := by decide +kernel
theorem dL_solutions_71 : decode cL_solutions 71 = .ok (.iaload, 1) := by decide +kernel
theorem dL_solutions_72 : decode cL_solutions 72 = .ok (.iload 6, 2) := by decide +kernel
theorem dL_solutions_74 : decode cL_solutions 74 = .ok (.imul, 1) := by decide +kernel
theorem dL_solutions_75 : decode cL_solutions 75 = .ok (.aload_n 0, 1) := by decide +kernel
theorem dL_solutions_76 : decode cL_solutions 76 = .ok (.iconst 5, 1) := by decide +kernel
theorem dL_solutions_77 : decode cL_solutions 77 = .ok (.iaload, 1) := by decide +kernel
theorem dL_solutions_78 : decode cL_solutions 78 = .ok (.iload 7, 2) := by decide +kernel
theorem dL_solutions_80 : decode cL_solutions 80 = .ok (.imul, 1) := by decide +kernel
theorem dL_solutions_81 : decode cL_solutions 81 = .ok (.iadd, 1) := by decide +kernel
theorem dL_solutions_82 : decode cL_solutions 82 = .ok (.aload_n 0, 1) := by decide +kernel
theorem dL_solutions_83 : decode cL_solutions 83 = .ok (.bipush 6, 2) := by decide +kernel
theorem dL_solutions_85 : decode cL_solutions 85 = .ok (.iaload, 1) := by decide +kernel
theorem dL_solutions_86 : decode cL_solutions 86 = .ok (.iload 8, 2) := by decide +kernel
theorem dL_solutions_88 : decode cL_solutions 88 = .ok (.imul, 1) := by decide +kernel
theorem dL_solutions_89 : decode cL_solutions 89 = .ok (.iadd, 1) := by decide +kernel
theorem dL_solutions_90 : decode cL_solutions 90 = .ok (.iload 4, 2) := by decide +kernel
theorem dL_solutions_92 : decode cL_solutions 92 = .ok (.if_icmp .gt 153, 3) := by decide +kernel
theorem dL_solutions_95 : decode cL_solutions 95 = .ok (.aload_n 0, 1) := by decide +kernel
theorem dL_solutions_96 : decode cL_solutions 96 = .ok (.iconst 4, 1) := by decide +kernel
theorem dL_solutions_97 : decode cL_solutions 97 = .ok (.iaload, 1) := by decide +kernel
theorem dL_solutions_98 : decode cL_solutions 98 = .ok (.ifCond .ne 8, 3) := by decide +kernel
theorem dL_solutions_101 : decode cL_solutions 101 = .ok (.iload 6, 2) := by decide +kernel
theorem dL_solutions_103 : decode cL_solutions 103 = .ok (.ifCond .gt 142, 3) := by decide +kernel
theorem dL_solutions_106 : decode cL_solutions 106 = .ok (.aload_n 0, 1) := by decide +kernel
theorem dL_solutions_107 : decode cL_solutions 107 = .ok (.iconst 5, 1) := by decide +kernel
theorem dL_solutions_108 : decode cL_solutions 108 = .ok (.iaload, 1) := by decide +kernel
theorem dL_solutions_109 : decode cL_solutions 109 = .ok (.ifCond .ne 8, 3) := by decide +kernel
theorem dL_solutions_112 : decode cL_solutions 112 = .ok (.iload 7, 2) := by decide +kernel
theorem dL_solutions_114 : decode cL_solutions 114 = .ok (.ifCond .gt 131, 3) := by decide +kernel
theorem dL_solutions_117 : decode cL_solutions 117 = .ok (.aload_n 0, 1) := by decide +kernel
theorem dL_solutions_118 : decode cL_solutions 118 = .ok (.bipush 6, 2) := by decide +kernel
theorem dL_solutions_120 : decode cL_solutions 120 = .ok (.iaload, 1) := by decide +kernel
theorem dL_solutions_121 : decode cL_solutions 121 = .ok (.ifCond .ne 11, 3) := by decide +kernel
theorem dL_solutions_124 : decode cL_solutions 124 = .ok (.iload 8, 2) := by decide +kernel
theorem dL_solutions_126 : decode cL_solutions 126 = .ok (.ifCond .le 6, 3) := by decide +kernel
theorem dL_solutions_129 : decode cL_solutions 129 = .ok (.goto 116, 3) := by decide +kernel
theorem dL_solutions_132 : decode cL_solutions 132 = .ok (.iload_n 3, 1) := by decide +kernel
theorem dL_solutions_133 : decode cL_solutions 133 = .ok (.iconst 1, 1) := by decide +kernel
theorem dL_solutions_134 : decode cL_solutions 134 = .ok (.iand, 1) := by decide +kernel
theorem dL_solutions_135 : decode cL_solutions 135 = .ok (.ifCond .eq 8, 3) := by decide +kernel
theorem dL_solutions_138 : decode cL_solutions 138 = .ok (.iload 6, 2) := by decide +kernel
theorem dL_solutions_140 : decode cL_solutions 140 = .ok (.ifCond .gt 105, 3) := by decide +kernel
theorem dL_solutions_143 : decode cL_solutions 143 = .ok (.iload_n 3, 1) := by decide +kernel
theorem dL_solutions_144 : decode cL_solutions 144 = .ok (.iconst 2, 1) := by decide +kernel
theorem dL_solutions_145 : decode cL_solutions 145 = .ok (.iand, 1) := by decide +kernel
theorem dL_solutions_146 : decode cL_solutions 146 = .ok (.ifCond .eq 8, 3) := by decide +kernel
theorem dL_solutions_149 : decode cL_solutions 149 = .ok (.iload 7, 2) := by decide +kernel
theorem dL_solutions_151 : decode cL_solutions 151 = .ok (.ifCond .gt 94, 3) := by decide +kernel
theorem dL_solutions_154 : decode cL_solutions 154 = .ok (.iload_n 3, 1) := by decide +kernel
theorem dL_solutions_155 : decode cL_solutions 155 = .ok (.iconst 4, 1) := by decide +kernel
theorem dL_solutions_156 : decode cL_solutions 156 = .ok (.iand, 1) := by decide +kernel
theorem dL_solutions_157 : decode cL_solutions 157 = .ok (.ifCond .eq 11, 3) := by decide +kernel
theorem dL_solutions_160 : decode cL_solutions 160 = .ok (.iload 8, 2) := by decide +kernel
theorem dL_solutions_162 : decode cL_solutions 162 = .ok (.ifCond .le 6, 3) := by decide +kernel
theorem dL_solutions_165 : decode cL_solutions 165 = .ok (.goto 80, 3) := by decide +kernel
theorem dL_solutions_168 : decode cL_solutions 168 = .ok (.iload 4, 2) := by decide +kernel
theorem dL_solutions_170 : decode cL_solutions 170 = .ok (.aload_n 0, 1) := by decide +kernel
theorem dL_solutions_171 : decode cL_solutions 171 = .ok (.iconst 4, 1) := by decide +kernel
theorem dL_solutions_172 : decode cL_solutions 172 = .ok (.iaload, 1) := by decide +kernel
theorem dL_solutions_173 : decode cL_solutions 173 = .ok (.iload 6, 2) := by decide +kernel
theorem dL_solutions_175 : decode cL_solutions 175 = .ok (.imul, 1) := by decide +kernel
theorem dL_solutions_176 : decode cL_solutions 176 = .ok (.isub, 1) := by decide +kernel
theorem dL_solutions_177 : decode cL_solutions 177 = .ok (.aload_n 0, 1) := by decide +kernel
theorem dL_solutions_178 : decode cL_solutions 178 = .ok (.iconst 5, 1) := by decide +kernel
theorem dL_solutions_179 : decode cL_solutions 179 = .ok (.iaload, 1) := by decide +kernel
theorem dL_solutions_180 : decode cL_solutions 180 = .ok (.iload 7, 2) := by decide +kernel
theorem dL_solutions_182 : decode cL_solutions 182 = .ok (.imul, 1) := by decide +kernel
theorem dL_solutions_183 : decode cL_solutions 183 = .ok (.isub, 1) := by decide +kernel
theorem dL_solutions_184 : decode cL_solutions 184 = .ok (.aload_n 0, 1) := by decide +kernel
theorem dL_solutions_185 : decode cL_solutions 185 = .ok (.bipush 6, 2) := by decide +kernel
theorem dL_solutions_187 : decode cL_solutions 187 = .ok (.iaload, 1) := by decide +kernel
theorem dL_solutions_188 : decode cL_solutions 188 = .ok (.iload 8, 2) := by decide +kernel
theorem dL_solutions_190 : decode cL_solutions 190 = .ok (.imul, 1) := by decide +kernel
theorem dL_solutions_191 : decode cL_solutions 191 = .ok (.isub, 1) := by decide +kernel
theorem dL_solutions_192 : decode cL_solutions 192 = .ok (.istore 9, 2) := by decide +kernel
theorem dL_solutions_194 : decode cL_solutions 194 = .ok (.aload_n 0, 1) := by decide +kernel
theorem dL_solutions_195 : decode cL_solutions 195 = .ok (.bipush 7, 2) := by decide +kernel
theorem dL_solutions_197 : decode cL_solutions 197 = .ok (.iaload, 1) := by decide +kernel
theorem dL_solutions_198 : decode cL_solutions 198 = .ok (.ifCond .eq 10, 3) := by decide +kernel
theorem dL_solutions_201 : decode cL_solutions 201 = .ok (.iload_n 3, 1) := by decide +kernel
theorem dL_solutions_202 : decode cL_solutions 202 = .ok (.bipush 8, 2) := by decide +kernel
theorem dL_solutions_204 : decode cL_solutions 204 = .ok (.iand, 1) := by decide +kernel
theorem dL_solutions_205 : decode cL_solutions 205 = .ok (.ifCond .eq 14, 3) := by decide +kernel
theorem dL_solutions_208 : decode cL_solutions 208 = .ok (.iload 9, 2) := by decide +kernel
theorem dL_solutions_210 : decode cL_solutions 210 = .ok (.ifCond .ne 35, 3) := by decide +kernel
theorem dL_solutions_213 : decode cL_solutions 213 = .ok (.iinc 5 1, 3) := by decide +kernel
theorem dL_solutions_216 : decode cL_solutions 216 = .ok (.goto 29, 3) := by decide +kernel
theorem dL_solutions_219 : decode cL_solutions 219 = .ok (.iload 9, 2) := by decide +kernel
theorem dL_solutions_221 : decode cL_solutions 221 = .ok (.aload_n 0, 1) := by decide +kernel
theorem dL_solutions_222 : decode cL_solutions 222 = .ok (.bipush 7, 2) := by decide +kernel
theorem dL_solutions_224 : decode cL_solutions 224 = .ok (.iaload, 1) := by decide +kernel
theorem dL_solutions_225 : decode cL_solutions 225 = .ok (.irem, 1) := by decide +kernel
theorem dL_solutions_226 : decode cL_solutions 226 = .ok (.ifCond .ne 19, 3) := by decide +kernel
theorem dL_solutions_229 : decode cL_solutions 229 = .ok (.iload 9, 2) := by decide +kernel
theorem dL_solutions_231 : decode cL_solutions 231 = .ok (.aload_n 0, 1) := by decide +kernel
theorem dL_solutions_232 : decode cL_solutions 232 = .ok (.bipush 7, 2) := by decide +kernel
theorem dL_solutions_234 : decode cL_solutions 234 = .ok (.iaload, 1) := by decide +kernel
theorem dL_solutions_235 : decode cL_solutions 235 = .ok (.idiv, 1) := by decide +kernel
theorem dL_solutions_236 : decode cL_solutions 236 = .ok (.aload_n 1, 1) := by decide +kernel
theorem dL_solutions_237 : decode cL_solutions 237 = .ok (.iconst 1, 1) := by decide +kernel
theorem dL_solutions_238 : decode cL_solutions 238 = .ok (.iaload, 1) := by decide +kernel
theorem dL_solutions_239 : decode cL_solutions 239 = .ok (.if_icmp .gt 6, 3) := by decide +kernel
theorem dL_solutions_242 : decode cL_solutions 242 = .ok (.iinc 5 1, 3) := by decide +kernel
theorem dL_solutions_245 : decode cL_solutions 245 = .ok (.iinc 8 1, 3) := by decide +kernel
theorem dL_solutions_248 : decode cL_solutions 248 = .ok (.goto (-194), 3) := by decide +kernel
theorem dL_solutions_251 : decode cL_solutions 251 = .ok (.iinc 7 1, 3) := by decide +kernel
theorem dL_solutions_254 : decode cL_solutions 254 = .ok (.goto (-218), 3) := by decide +kernel
theorem dL_solutions_257 : decode cL_solutions 257 = .ok (.iinc 6 1, 3) := by decide +kernel
theorem dL_solutions_260 : decode cL_solutions 260 = .ok (.goto (-242), 3) := by decide +kernel
theorem dL_solutions_263 : decode cL_solutions 263 = .ok (.iload 4, 2) := by decide +kernel
theorem dL_solutions_265 : decode cL_solutions 265 = .ok (.ifCond .ge 7, 3) := by decide +kernel
theorem dL_solutions_268 : decode cL_solutions 268 = .ok (.iconst 0, 1) := by decide +kernel
theorem dL_solutions_269 : decode cL_solutions 269 = .ok (.goto 5, 3) := by decide +kernel
theorem dL_solutions_272 : decode cL_solutions 272 = .ok (.iload 5, 2) := by decide +kernel
theorem dL_solutions_274 : decode cL_solutions 274 = .ok (.ireturn, 1) := by decide +kernel
theorem dL_matchers_0 : decode cL_matchers 0 = .ok (.iconst 0, 1) := by decide +kernel
theorem dL_matchers_1 : decode cL_matchers 1 = .ok (.istore_n 2, 1) := by decide +kernel
theorem dL_matchers_2 : decode cL_matchers 2 = .ok (.iconst 0, 1) := by decide +kernel
theorem dL_matchers_3 : decode cL_matchers 3 = .ok (.istore_n 3, 1) := by decide +kernel
theorem dL_matchers_4 : decode cL_matchers 4 = .ok (.iload_n 3, 1) := by decide +kernel
theorem dL_matchers_5 : decode cL_matchers 5 = .ok (.iconst 4, 1) := by decide +kernel
theorem dL_matchers_6 : decode cL_matchers 6 = .ok (.if_icmp .ge 23, 3) := by decide +kernel
theorem dL_matchers_9 : decode cL_matchers 9 = .ok (.aload_n 0, 1) := by decide +kernel
theorem dL_matchers_10 : decode cL_matchers 10 = .ok (.iconst 4, 1) := by decide +kernel
theorem dL_matchers_11 : decode cL_matchers 11 = .ok (.iload_n 3, 1) := by decide +kernel
theorem dL_matchers_12 : decode cL_matchers 12 = .ok (.iadd, 1) := by decide +kernel
theorem dL_matchers_13 : decode cL_matchers 13 = .ok (.iaload, 1) := by decide +kernel
theorem dL_matchers_14 : decode cL_matchers 14 = .ok (.ifCond .le 9, 3) := by decide +kernel
theorem dL_matchers_17 : decode cL_matchers 17 = .ok (.iload_n 2, 1) := by decide +kernel
theorem dL_matchers_18 : decode cL_matchers 18 = .ok (.iconst 1, 1) := by decide +kernel
theorem dL_matchers_19 : decode cL_matchers 19 = .ok (.iload_n 3, 1) := by decide +kernel
theorem dL_matchers_20 : decode cL_matchers 20 = .ok (.ishl, 1) := by decide +kernel
theorem dL_matchers_21 : decode cL_matchers 21 = .ok (.ior, 1) := by decide +kernel
theorem dL_matchers_22 : decode cL_matchers 22 = .ok (.istore_n 2, 1) := by decide +kernel
theorem dL_matchers_23 : decode cL_matchers 23 = .ok (.iinc 3 1, 3) := by decide +kernel
theorem dL_matchers_26 : decode cL_matchers 26 = .ok (.goto (-22), 3) := by decide +kernel
theorem dL_matchers_29 : decode cL_matchers 29 = .ok (.lconst 0, 1) := by decide +kernel
theorem dL_matchers_30 : decode cL_matchers 30 = .ok (.lstore_n 3, 1) := by decide +kernel
theorem dL_matchers_31 : decode cL_matchers 31 = .ok (.iconst 0, 1) := by decide +kernel
theorem dL_matchers_32 : decode cL_matchers 32 = .ok (.istore 5, 2) := by decide +kernel
theorem dL_matchers_34 : decode cL_matchers 34 = .ok (.iload 5, 2) := by decide +kernel
theorem dL_matchers_36 : decode cL_matchers 36 = .ok (.bipush 16, 2) := by decide +kernel
theorem dL_matchers_38 : decode cL_matchers 38 = .ok (.if_icmp .ge 114, 3) := by decide +kernel
theorem dL_matchers_41 : decode cL_matchers 41 = .ok (.iload 5, 2) := by decide +kernel
theorem dL_matchers_43 : decode cL_matchers 43 = .ok (.iload_n 2, 1) := by decide +kernel
theorem dL_matchers_44 : decode cL_matchers 44 = .ok (.iconst (-1), 1) := by decide +kernel
theorem dL_matchers_45 : decode cL_matchers 45 = .ok (.ixor, 1) := by decide +kernel
theorem dL_matchers_46 : decode cL_matchers 46 = .ok (.iand, 1) := by decide +kernel
theorem dL_matchers_47 : decode cL_matchers 47 = .ok (.ifCond .ne 99, 3) := by decide +kernel
theorem dL_matchers_50 : decode cL_matchers 50 = .ok (.aload_n 1, 1) := by decide +kernel
theorem dL_matchers_51 : decode cL_matchers 51 = .ok (.iconst 0, 1) := by decide +kernel
theorem dL_matchers_52 : decode cL_matchers 52 = .ok (.iaload, 1) := by decide +kernel
theorem dL_matchers_53 : decode cL_matchers 53 = .ok (.iconst 1, 1) := by decide +kernel
theorem dL_matchers_54 : decode cL_matchers 54 = .ok (.if_icmp .ne 11, 3) := by decide +kernel
theorem dL_matchers_57 : decode cL_matchers 57 = .ok (.iload 5, 2) := by decide +kernel
theorem dL_matchers_59 : decode cL_matchers 59 = .ok (.ifCond .le 6, 3) := by decide +kernel
theorem dL_matchers_62 : decode cL_matchers 62 = .ok (.goto 84, 3) := by decide +kernel
theorem dL_matchers_65 : decode cL_matchers 65 = .ok (.lconst 1, 1) := by decide +kernel
theorem dL_matchers_66 : decode cL_matchers 66 = .ok (.lstore 6, 2) := by decide +kernel
theorem dL_matchers_68 : decode cL_matchers 68 = .ok (.iconst 0, 1) := by decide +kernel
theorem dL_matchers_69 : decode cL_matchers 69 = .ok (.istore 8, 2) := by decide +kernel
theorem dL_matchers_71 : decode cL_matchers 71 = .ok (.iconst 0, 1) := by decide +kernel
theorem dL_matchers_72 : decode cL_matchers 72 = .ok (.istore 9, 2) := by decide +kernel
theorem dL_matchers_74 : decode cL_matchers 74 = .ok (.iload 9, 2) := by decide +kernel
theorem dL_matchers_76 : decode cL_matchers 76 = .ok (.iconst 4, 1) := by decide +kernel
theorem dL_matchers_77 : decode cL_matchers 77 = .ok (.if_icmp .ge 21, 3) := by decide +kernel
theorem dL_matchers_80 : decode cL_matchers 80 = .ok (.iload 8, 2) := by decide +kernel
theorem dL_matchers_82 : decode cL_matchers 82 = .ok (.iload 5, 2) := by decide +kernel
theorem dL_matchers_84 : decode cL_matchers 84 = .ok (.iload 9, 2) := by decide +kernel
theorem dL_matchers_86 : decode cL_matchers 86 = .ok (.ishr, 1) := by decide +kernel
theorem dL_matchers_87 : decode cL_matchers 87 = .ok (.iconst 1, 1) := by decide +kernel
theorem dL_matchers_88 : decode cL_matchers 88 = .ok (.iand, 1) := by decide +kernel
theorem dL_matchers_89 : decode cL_matchers 89 = .ok (.iadd, 1) := by decide +kernel
theorem dL_matchers_90 : decode cL_matchers 90 = .ok (.istore 8, 2) := by decide +kernel
theorem dL_matchers_92 : decode cL_matchers 92 = .ok (.iinc 9 1, 3) := by decide +kernel
theorem dL_matchers_95 : decode cL_matchers 95 = .ok (.goto (-21), 3) := by decide +kernel
theorem dL_matchers_98 : decode cL_matchers 98 = .ok (.iconst 0, 1) := by decide +kernel
theorem dL_matchers_99 : decode cL_matchers 99 = .ok (.istore 9, 2) := by decide +kernel
theorem dL_matchers_101 : decode cL_matchers 101 = .ok (.iload 9, 2) := by decide +kernel
theorem dL_matchers_103 : decode cL_matchers 103 = .ok (.iconst 4, 1) := by decide +kernel
theorem dL_matchers_104 : decode cL_matchers 104 = .ok (.if_icmp .ge 24, 3) := by decide +kernel
theorem dL_matchers_107 : decode cL_matchers 107 = .ok (.lload 6, 2) := by decide +kernel
theorem dL_matchers_109 : decode cL_matchers 109 = .ok (.aload_n 0, 1) := by decide +kernel
theorem dL_matchers_110 : decode cL_matchers 110 = .ok (.aload_n 1, 1) := by decide +kernel
theorem dL_matchers_111 : decode cL_matchers 111 = .ok (.iload 9, 2) := by decide +kernel
theorem dL_matchers_113 : decode cL_matchers 113 = .ok (.iload 5, 2) := by decide +kernel
theorem dL_matchers_115 : decode cL_matchers 115 = .ok (.invokestatic 8, 3) := by decide +kernel
theorem dL_matchers_118 : decode cL_matchers 118 = .ok (.i2l, 1) := by decide +kernel
theorem dL_matchers_119 : decode cL_matchers 119 = .ok (.lmul, 1) := by decide +kernel
theorem dL_matchers_120 : decode cL_matchers 120 = .ok (.lstore 6, 2) := by decide +kernel
theorem dL_matchers_122 : decode cL_matchers 122 = .ok (.iinc 9 1, 3) := by decide +kernel
theorem dL_matchers_125 : decode cL_matchers 125 = .ok (.goto (-24), 3) := by decide +kernel
theorem dL_matchers_128 : decode cL_matchers 128 = .ok (.lload_n 3, 1) := by decide +kernel
theorem dL_matchers_129 : decode cL_matchers 129 = .ok (.iload 8, 2) := by decide +kernel
theorem dL_matchers_131 : decode cL_matchers 131 = .ok (.iconst 2, 1) := by decide +kernel
theorem dL_matchers_132 : decode cL_matchers 132 = .ok (.irem, 1) := by decide +kernel
theorem dL_matchers_133 : decode cL_matchers 133 = .ok (.ifCond .ne 8, 3) := by decide +kernel
theorem dL_matchers_136 : decode cL_matchers 136 = .ok (.lload 6, 2) := by decide +kernel
theorem dL_matchers_138 : decode cL_matchers 138 = .ok (.goto 6, 3) := by decide +kernel
theorem dL_matchers_141 : decode cL_matchers 141 = .ok (.lload 6, 2) := by decide +kernel
theorem dL_matchers_143 : decode cL_matchers 143 = .ok (.lneg, 1) := by decide +kernel
theorem dL_matchers_144 : decode cL_matchers 144 = .ok (.ladd, 1) := by decide +kernel
theorem dL_matchers_145 : decode cL_matchers 145 = .ok (.lstore_n 3, 1) := by decide +kernel
theorem dL_matchers_146 : decode cL_matchers 146 = .ok (.iinc 5 1, 3) := by decide +kernel
theorem dL_matchers_149 : decode cL_matchers 149 = .ok (.goto (-115), 3) := by decide +kernel
theorem dL_matchers_152 : decode cL_matchers 152 = .ok (.lload_n 3, 1) := by decide +kernel
theorem dL_matchers_153 : decode cL_matchers 153 = .ok (.lreturn, 1) := by decide +kernel
theorem dL_least_0 : decode cL_least 0 = .ok (.bipush 64, 2) := by decide +kernel
theorem dL_least_2 : decode cL_least 2 = .ok (.newarray .int, 2) := by decide +kernel
theorem dL_least_4 : decode cL_least 4 = .ok (.astore_n 2, 1) := by decide +kernel
theorem dL_least_5 : decode cL_least 5 = .ok (.iconst 0, 1) := by decide +kernel
theorem dL_least_6 : decode cL_least 6 = .ok (.istore_n 3, 1) := by decide +kernel
theorem dL_least_7 : decode cL_least 7 = .ok (.iconst 0, 1) := by decide +kernel
theorem dL_least_8 : decode cL_least 8 = .ok (.istore 4, 2) := by decide +kernel
theorem dL_least_10 : decode cL_least 10 = .ok (.iconst 1, 1) := by decide +kernel
theorem dL_least_11 : decode cL_least 11 = .ok (.istore 5, 2) := by decide +kernel
theorem dL_least_13 : decode cL_least 13 = .ok (.iload 5, 2) := by decide +kernel
theorem dL_least_15 : decode cL_least 15 = .ok (.sipush 256, 3) := by decide +kernel
theorem dL_least_18 : decode cL_least 18 = .ok (.if_icmp .ge 269, 3) := by decide +kernel
theorem dL_least_21 : decode cL_least 21 = .ok (.iload 5, 2) := by decide +kernel
theorem dL_least_23 : decode cL_least 23 = .ok (.bipush 64, 2) := by decide +kernel
theorem dL_least_25 : decode cL_least 25 = .ok (.idiv, 1) := by decide +kernel
theorem dL_least_26 : decode cL_least 26 = .ok (.istore 6, 2) := by decide +kernel
theorem dL_least_28 : decode cL_least 28 = .ok (.iload 5, 2) := by decide +kernel
theorem dL_least_30 : decode cL_least 30 = .ok (.bipush 16, 2) := by decide +kernel
theorem dL_least_32 : decode cL_least 32 = .ok (.idiv, 1) := by decide +kernel
theorem dL_least_33 : decode cL_least 33 = .ok (.iconst 4, 1) := by decide +kernel
theorem dL_least_34 : decode cL_least 34 = .ok (.irem, 1) := by decide +kernel
theorem dL_least_35 : decode cL_least 35 = .ok (.istore 7, 2) := by decide +kernel
theorem dL_least_37 : decode cL_least 37 = .ok (.iload 5, 2) := by decide +kernel
theorem dL_least_39 : decode cL_least 39 = .ok (.iconst 4, 1) := by decide +kernel
theorem dL_least_40 : decode cL_least 40 = .ok (.idiv, 1) := by decide +kernel
theorem dL_least_41 : decode cL_least 41 = .ok (.iconst 4, 1) := by decide +kernel
theorem dL_least_42 : decode cL_least 42 = .ok (.irem, 1) := by decide +kernel
theorem dL_least_43 : decode cL_least 43 = .ok (.istore 8, 2) := by decide +kernel
theorem dL_least_45 : decode cL_least 45 = .ok (.iload 5, 2) := by decide +kernel
theorem dL_least_47 : decode cL_least 47 = .ok (.iconst 4, 1) := by decide +kernel
theorem dL_least_48 : decode cL_least 48 = .ok (.irem, 1) := by decide +kernel
theorem dL_least_49 : decode cL_least 49 = .ok (.istore 9, 2) := by decide +kernel
theorem dL_least_51 : decode cL_least 51 = .ok (.aload_n 1, 1) := by decide +kernel
theorem dL_least_52 : decode cL_least 52 = .ok (.iconst 4, 1) := by decide +kernel
theorem dL_least_53 : decode cL_least 53 = .ok (.iaload, 1) := by decide +kernel
theorem dL_least_54 : decode cL_least 54 = .ok (.aload_n 1, 1) := by decide +kernel
theorem dL_least_55 : decode cL_least 55 = .ok (.bipush 12, 2) := by decide +kernel
theorem dL_least_57 : decode cL_least 57 = .ok (.iaload, 1) := by decide +kernel
theorem dL_least_58 : decode cL_least 58 = .ok (.isub, 1) := by decide +kernel
theorem dL_least_59 : decode cL_least 59 = .ok (.iload 6, 2) := by decide +kernel
theorem dL_least_61 : decode cL_least 61 = .ok (.imul, 1) := by decide +kernel
theorem dL_least_62 : decode cL_least 62 = .ok (.aload_n 1, 1) := by decide +kernel
theorem dL_least_63 : decode cL_least 63 = .ok (.iconst 5, 1) := by decide +kernel
theorem dL_least_64 : decode cL_least 64 = .ok (.iaload, 1) := by decide +kernel
theorem dL_least_65 : decode cL_least 65 = .ok (.aload_n 1, 1) := by decide +kernel
theorem dL_least_66 : decode cL_least 66 = .ok (.bipush 13, 2) := by decide +kernel
theorem dL_least_68 : decode cL_least 68 = .ok (.iaload, 1) := by decide +kernel
theorem dL_least_69 : decode cL_least 69 = .ok (.isub, 1) := by decide +kernel
theorem dL_least_70 : decode cL_least 70 = .ok (.iload 7, 2) := by decide +kernel
theorem dL_least_72 : decode cL_least 72 = .ok (.imul, 1) := by decide +kernel
theorem dL_least_73 : decode cL_least 73 = .ok (.iadd, 1) := by decide +kernel
theorem dL_least_74 : decode cL_least 74 = .ok (.aload_n 1, 1) := by decide +kernel
theorem dL_least_75 : decode cL_least 75 = .ok (.bipush 6, 2) := by decide +kernel
theorem dL_least_77 : decode cL_least 77 = .ok (.iaload, 1) := by decide +kernel
theorem dL_least_78 : decode cL_least 78 = .ok (.aload_n 1, 1) := by decide +kernel
theorem dL_least_79 : decode cL_least 79 = .ok (.bipush 14, 2) := by decide +kernel
theorem dL_least_81 : decode cL_least 81 = .ok (.iaload, 1) := by decide +kernel
theorem dL_least_82 : decode cL_least 82 = .ok (.isub, 1) := by decide +kernel
theorem dL_least_83 : decode cL_least 83 = .ok (.iload 8, 2) := by decide +kernel
theorem dL_least_85 : decode cL_least 85 = .ok (.imul, 1) := by decide +kernel
theorem dL_least_86 : decode cL_least 86 = .ok (.iadd, 1) := by decide +kernel
theorem dL_least_87 : decode cL_least 87 = .ok (.aload_n 1, 1) := by decide +kernel
theorem dL_least_88 : decode cL_least 88 = .ok (.bipush 7, 2) := by decide +kernel
theorem dL_least_90 : decode cL_least 90 = .ok (.iaload, 1) := by decide +kernel
theorem dL_least_91 : decode cL_least 91 = .ok (.aload_n 1, 1) := by decide +kernel
theorem dL_least_92 : decode cL_least 92 = .ok (.bipush 15, 2) := by decide +kernel
theorem dL_least_94 : decode cL_least 94 = .ok (.iaload, 1) := by decide +kernel
theorem dL_least_95 : decode cL_least 95 = .ok (.isub, 1) := by decide +kernel
theorem dL_least_96 : decode cL_least 96 = .ok (.iload 9, 2) := by decide +kernel
theorem dL_least_98 : decode cL_least 98 = .ok (.imul, 1) := by decide +kernel
theorem dL_least_99 : decode cL_least 99 = .ok (.iadd, 1) := by decide +kernel
theorem dL_least_100 : decode cL_least 100 = .ok (.ifCond .eq 6, 3) := by decide +kernel
theorem dL_least_103 : decode cL_least 103 = .ok (.goto 178, 3) := by decide +kernel
theorem dL_least_106 : decode cL_least 106 = .ok (.iconst 1, 1) := by decide +kernel
theorem dL_least_107 : decode cL_least 107 = .ok (.istore 10, 2) := by decide +kernel
theorem dL_least_109 : decode cL_least 109 = .ok (.iconst 0, 1) := by decide +kernel
theorem dL_least_110 : decode cL_least 110 = .ok (.istore 11, 2) := by decide +kernel
theorem dL_least_112 : decode cL_least 112 = .ok (.iload 11, 2) := by decide +kernel
theorem dL_least_114 : decode cL_least 114 = .ok (.iload_n 3, 1) := by decide +kernel
theorem dL_least_115 : decode cL_least 115 = .ok (.if_icmp .ge 67, 3) := by decide +kernel
theorem dL_least_118 : decode cL_least 118 = .ok (.iload 10, 2) := by decide +kernel
theorem dL_least_120 : decode cL_least 120 = .ok (.ifCond .eq 62, 3) := by decide +kernel
theorem dL_least_123 : decode cL_least 123 = .ok (.aload_n 2, 1) := by decide +kernel
theorem dL_least_124 : decode cL_least 124 = .ok (.iload 11, 2) := by decide +kernel
theorem dL_least_126 : decode cL_least 126 = .ok (.iaload, 1) := by decide +kernel
theorem dL_least_127 : decode cL_least 127 = .ok (.bipush 64, 2) := by decide +kernel
theorem dL_least_129 : decode cL_least 129 = .ok (.idiv, 1) := by decide +kernel
theorem dL_least_130 : decode cL_least 130 = .ok (.iload 6, 2) := by decide +kernel
theorem dL_least_132 : decode cL_least 132 = .ok (.if_icmp .gt 44, 3) := by decide +kernel
theorem dL_least_135 : decode cL_least 135 = .ok (.aload_n 2, 1) := by decide +kernel
theorem dL_least_136 : decode cL_least 136 = .ok (.iload 11, 2) := by decide +kernel
theorem dL_least_138 : decode cL_least 138 = .ok (.iaload, 1) := by decide +kernel
theorem dL_least_139 : decode cL_least 139 = .ok (.bipush 16, 2) := by decide +kernel
theorem dL_least_141 : decode cL_least 141 = .ok (.idiv, 1) := by decide +kernel
theorem dL_least_142 : decode cL_least 142 = .ok (.iconst 4, 1) := by decide +kernel
theorem dL_least_143 : decode cL_least 143 = .ok (.irem, 1) := by decide +kernel
theorem dL_least_144 : decode cL_least 144 = .ok (.iload 7, 2) := by decide +kernel
theorem dL_least_146 : decode cL_least 146 = .ok (.if_icmp .gt 30, 3) := by decide +kernel
theorem dL_least_149 : decode cL_least 149 = .ok (.aload_n 2, 1) := by decide +kernel
theorem dL_least_150 : decode cL_least 150 = .ok (.iload 11, 2) := by decide +kernel
theorem dL_least_152 : decode cL_least 152 = .ok (.iaload, 1) := by decide +kernel
theorem dL_least_153 : decode cL_least 153 = .ok (.iconst 4, 1) := by decide +kernel
theorem dL_least_154 : decode cL_least 154 = .ok (.idiv, 1) := by decide +kernel
theorem dL_least_155 : decode cL_least 155 = .ok (.iconst 4, 1) := by decide +kernel
theorem dL_least_156 : decode cL_least 156 = .ok (.irem, 1) := by decide +kernel
theorem dL_least_157 : decode cL_least 157 = .ok (.iload 8, 2) := by decide +kernel
theorem dL_least_159 : decode cL_least 159 = .ok (.if_icmp .gt 17, 3) := by decide +kernel
theorem dL_least_162 : decode cL_least 162 = .ok (.aload_n 2, 1) := by decide +kernel
theorem dL_least_163 : decode cL_least 163 = .ok (.iload 11, 2) := by decide +kernel
theorem dL_least_165 : decode cL_least 165 = .ok (.iaload, 1) := by decide +kernel
theorem dL_least_166 : decode cL_least 166 = .ok (.iconst 4, 1) := by decide +kernel
theorem dL_least_167 : decode cL_least 167 = .ok (.irem, 1) := by decide +kernel
theorem dL_least_168 : decode cL_least 168 = .ok (.iload 9, 2) := by decide +kernel
theorem dL_least_170 : decode cL_least 170 = .ok (.if_icmp .gt 6, 3) := by decide +kernel
theorem dL_least_173 : decode cL_least 173 = .ok (.iconst 0, 1) := by decide +kernel
theorem dL_least_174 : decode cL_least 174 = .ok (.istore 10, 2) := by decide +kernel
theorem dL_least_176 : decode cL_least 176 = .ok (.iinc 11 1, 3) := by decide +kernel
theorem dL_least_179 : decode cL_least 179 = .ok (.goto (-67), 3) := by decide +kernel
theorem dL_least_182 : decode cL_least 182 = .ok (.iload 10, 2) := by decide +kernel
theorem dL_least_184 : decode cL_least 184 = .ok (.ifCond .ne 6, 3) := by decide +kernel
theorem dL_least_187 : decode cL_least 187 = .ok (.goto 94, 3) := by decide +kernel
theorem dL_least_190 : decode cL_least 190 = .ok (.iload_n 3, 1) := by decide +kernel
theorem dL_least_191 : decode cL_least 191 = .ok (.bipush 64, 2) := by decide +kernel
theorem dL_least_193 : decode cL_least 193 = .ok (.if_icmp .ne 5, 3) := by decide +kernel
theorem dL_least_196 : decode cL_least 196 = .ok (.iconst 1, 1) := by decide +kernel
theorem dL_least_197 : decode cL_least 197 = .ok (.ireturn, 1) := by decide +kernel
theorem dL_least_198 : decode cL_least 198 = .ok (.aload_n 2, 1) := by decide +kernel
theorem dL_least_199 : decode cL_least 199 = .ok (.iload_n 3, 1) := by decide +kernel
theorem dL_least_200 : decode cL_least 200 = .ok (.iload 5, 2) := by decide +kernel
theorem dL_least_202 : decode cL_least 202 = .ok (.iastore, 1) := by decide +kernel
theorem dL_least_203 : decode cL_least 203 = .ok (.aload_n 0, 1) := by decide +kernel
theorem dL_least_204 : decode cL_least 204 = .ok (.iload_n 3, 1) := by decide +kernel
theorem dL_least_205 : decode cL_least 205 = .ok (.iconst 0, 1) := by decide +kernel
theorem dL_least_206 : decode cL_least 206 = .ok (.invokevirtual 14, 3) := by decide +kernel
theorem dL_least_209 : decode cL_least 209 = .ok (.iload 6, 2) := by decide +kernel
theorem dL_least_211 : decode cL_least 211 = .ok (.if_icmp .ne 36, 3) := by decide +kernel
theorem dL_least_214 : decode cL_least 214 = .ok (.aload_n 0, 1) := by decide +kernel
theorem dL_least_215 : decode cL_least 215 = .ok (.iload_n 3, 1) := by decide +kernel
theorem dL_least_216 : decode cL_least 216 = .ok (.iconst 1, 1) := by decide +kernel
theorem dL_least_217 : decode cL_least 217 = .ok (.invokevirtual 14, 3) := by decide +kernel
theorem dL_least_220 : decode cL_least 220 = .ok (.iload 7, 2) := by decide +kernel
theorem dL_least_222 : decode cL_least 222 = .ok (.if_icmp .ne 25, 3) := by decide +kernel
theorem dL_least_225 : decode cL_least 225 = .ok (.aload_n 0, 1) := by decide +kernel
theorem dL_least_226 : decode cL_least 226 = .ok (.iload_n 3, 1) := by decide +kernel
theorem dL_least_227 : decode cL_least 227 = .ok (.iconst 2, 1) := by decide +kernel
theorem dL_least_228 : decode cL_least 228 = .ok (.invokevirtual 14, 3) := by decide +kernel
theorem dL_least_231 : decode cL_least 231 = .ok (.iload 8, 2) := by decide +kernel
theorem dL_least_233 : decode cL_least 233 = .ok (.if_icmp .ne 14, 3) := by decide +kernel
theorem dL_least_236 : decode cL_least 236 = .ok (.aload_n 0, 1) := by decide +kernel
theorem dL_least_237 : decode cL_least 237 = .ok (.iload_n 3, 1) := by decide +kernel
theorem dL_least_238 : decode cL_least 238 = .ok (.iconst 3, 1) := by decide +kernel
theorem dL_least_239 : decode cL_least 239 = .ok (.invokevirtual 14, 3) := by decide +kernel
theorem dL_least_242 : decode cL_least 242 = .ok (.iload 9, 2) := by decide +kernel
theorem dL_least_244 : decode cL_least 244 = .ok (.if_icmp .eq 5, 3) := by decide +kernel
theorem dL_least_247 : decode cL_least 247 = .ok (.iconst 0, 1) := by decide +kernel
theorem dL_least_248 : decode cL_least 248 = .ok (.ireturn, 1) := by decide +kernel
theorem dL_least_249 : decode cL_least 249 = .ok (.iinc 3 1, 3) := by decide +kernel
theorem dL_least_252 : decode cL_least 252 = .ok (.iload 6, 2) := by decide +kernel
theorem dL_least_254 : decode cL_least 254 = .ok (.iload 7, 2) := by decide +kernel
theorem dL_least_256 : decode cL_least 256 = .ok (.iadd, 1) := by decide +kernel
theorem dL_least_257 : decode cL_least 257 = .ok (.iload 8, 2) := by decide +kernel
theorem dL_least_259 : decode cL_least 259 = .ok (.iadd, 1) := by decide +kernel
theorem dL_least_260 : decode cL_least 260 = .ok (.iload 9, 2) := by decide +kernel
theorem dL_least_262 : decode cL_least 262 = .ok (.iadd, 1) := by decide +kernel
theorem dL_least_263 : decode cL_least 263 = .ok (.iload 4, 2) := by decide +kernel
theorem dL_least_265 : decode cL_least 265 = .ok (.if_icmp .le 16, 3) := by decide +kernel
theorem dL_least_268 : decode cL_least 268 = .ok (.iload 6, 2) := by decide +kernel
theorem dL_least_270 : decode cL_least 270 = .ok (.iload 7, 2) := by decide +kernel
theorem dL_least_272 : decode cL_least 272 = .ok (.iadd, 1) := by decide +kernel
theorem dL_least_273 : decode cL_least 273 = .ok (.iload 8, 2) := by decide +kernel
theorem dL_least_275 : decode cL_least 275 = .ok (.iadd, 1) := by decide +kernel
theorem dL_least_276 : decode cL_least 276 = .ok (.iload 9, 2) := by decide +kernel
theorem dL_least_278 : decode cL_least 278 = .ok (.iadd, 1) := by decide +kernel
theorem dL_least_279 : decode cL_least 279 = .ok (.istore 4, 2) := by decide +kernel
theorem dL_least_281 : decode cL_least 281 = .ok (.iinc 5 1, 3) := by decide +kernel
theorem dL_least_284 : decode cL_least 284 = .ok (.goto (-271), 3) := by decide +kernel
theorem dL_least_287 : decode cL_least 287 = .ok (.aload_n 0, 1) := by decide +kernel
theorem dL_least_288 : decode cL_least 288 = .ok (.iload_n 3, 1) := by decide +kernel
theorem dL_least_289 : decode cL_least 289 = .ok (.iconst 0, 1) := by decide +kernel
theorem dL_least_290 : decode cL_least 290 = .ok (.invokevirtual 14, 3) := by decide +kernel
theorem dL_least_293 : decode cL_least 293 = .ok (.iconst (-1), 1) := by decide +kernel
theorem dL_least_294 : decode cL_least 294 = .ok (.if_icmp .ne 26, 3) := by decide +kernel
theorem dL_least_297 : decode cL_least 297 = .ok (.aload_n 0, 1) := by decide +kernel
theorem dL_least_298 : decode cL_least 298 = .ok (.iconst 4, 1) := by decide +kernel
theorem dL_least_299 : decode cL_least 299 = .ok (.invokevirtual 20, 3) := by decide +kernel
theorem dL_least_302 : decode cL_least 302 = .ok (.iload_n 3, 1) := by decide +kernel
theorem dL_least_303 : decode cL_least 303 = .ok (.if_icmp .ne 17, 3) := by decide +kernel
theorem dL_least_306 : decode cL_least 306 = .ok (.aload_n 0, 1) := by decide +kernel
theorem dL_least_307 : decode cL_least 307 = .ok (.iconst 5, 1) := by decide +kernel
theorem dL_least_308 : decode cL_least 308 = .ok (.invokevirtual 20, 3) := by decide +kernel
theorem dL_least_311 : decode cL_least 311 = .ok (.iload 4, 2) := by decide +kernel
theorem dL_least_313 : decode cL_least 313 = .ok (.if_icmp .ne 7, 3) := by decide +kernel
theorem dL_least_316 : decode cL_least 316 = .ok (.iconst 1, 1) := by decide +kernel
theorem dL_least_317 : decode cL_least 317 = .ok (.goto 4, 3) := by decide +kernel
theorem dL_least_320 : decode cL_least 320 = .ok (.iconst 0, 1) := by decide +kernel
theorem dL_least_321 : decode cL_least 321 = .ok (.ireturn, 1) := by decide +kernel
theorem dL_act_0 : decode cL_act 0 = .ok (.iload_n 1, 1) := by decide +kernel
theorem dL_act_1 : decode cL_act 1 = .ok (.bipush 20, 2) := by decide +kernel
theorem dL_act_3 : decode cL_act 3 = .ok (.ishr, 1) := by decide +kernel
theorem dL_act_4 : decode cL_act 4 = .ok (.bipush 12, 2) := by decide +kernel
theorem dL_act_6 : decode cL_act 6 = .ok (.invokestatic 24, 3) := by decide +kernel
theorem dL_act_9 : decode cL_act 9 = .ok (.istore 5, 2) := by decide +kernel
theorem dL_act_11 : decode cL_act 11 = .ok (.iload_n 2, 1) := by decide +kernel
theorem dL_act_12 : decode cL_act 12 = .ok (.iconst 3, 1) := by decide +kernel
theorem dL_act_13 : decode cL_act 13 = .ok (.invokestatic 24, 3) := by decide +kernel
theorem dL_act_16 : decode cL_act 16 = .ok (.istore 6, 2) := by decide +kernel
theorem dL_act_18 : decode cL_act 18 = .ok (.iload_n 2, 1) := by decide +kernel
theorem dL_act_19 : decode cL_act 19 = .ok (.iconst 2, 1) := by decide +kernel
theorem dL_act_20 : decode cL_act 20 = .ok (.ishr, 1) := by decide +kernel
theorem dL_act_21 : decode cL_act 21 = .ok (.iconst 3, 1) := by decide +kernel
theorem dL_act_22 : decode cL_act 22 = .ok (.invokestatic 24, 3) := by decide +kernel
theorem dL_act_25 : decode cL_act 25 = .ok (.istore 7, 2) := by decide +kernel
theorem dL_act_27 : decode cL_act 27 = .ok (.iload_n 2, 1) := by decide +kernel
theorem dL_act_28 : decode cL_act 28 = .ok (.iconst 4, 1) := by decide +kernel
theorem dL_act_29 : decode cL_act 29 = .ok (.ishr, 1) := by decide +kernel
theorem dL_act_30 : decode cL_act 30 = .ok (.iconst 4, 1) := by decide +kernel
theorem dL_act_31 : decode cL_act 31 = .ok (.invokestatic 24, 3) := by decide +kernel
theorem dL_act_34 : decode cL_act 34 = .ok (.istore 8, 2) := by decide +kernel
theorem dL_act_36 : decode cL_act 36 = .ok (.iload 5, 2) := by decide +kernel
theorem dL_act_38 : decode cL_act 38 = .ok (.iconst 4, 1) := by decide +kernel
theorem dL_act_39 : decode cL_act 39 = .ok (.if_icmp .ge 90, 3) := by decide +kernel
theorem dL_act_42 : decode cL_act 42 = .ok (.aload_n 3, 1) := by decide +kernel
theorem dL_act_43 : decode cL_act 43 = .ok (.bipush 8, 2) := by decide +kernel
theorem dL_act_45 : decode cL_act 45 = .ok (.iload 6, 2) := by decide +kernel
theorem dL_act_47 : decode cL_act 47 = .ok (.imul, 1) := by decide +kernel
theorem dL_act_48 : decode cL_act 48 = .ok (.iload 8, 2) := by decide +kernel
theorem dL_act_50 : decode cL_act 50 = .ok (.iadd, 1) := by decide +kernel
theorem dL_act_51 : decode cL_act 51 = .ok (.iaload, 1) := by decide +kernel
theorem dL_act_52 : decode cL_act 52 = .ok (.istore 9, 2) := by decide +kernel
theorem dL_act_54 : decode cL_act 54 = .ok (.aload_n 3, 1) := by decide +kernel
theorem dL_act_55 : decode cL_act 55 = .ok (.bipush 8, 2) := by decide +kernel
theorem dL_act_57 : decode cL_act 57 = .ok (.iload 6, 2) := by decide +kernel
theorem dL_act_59 : decode cL_act 59 = .ok (.imul, 1) := by decide +kernel
theorem dL_act_60 : decode cL_act 60 = .ok (.iload 8, 2) := by decide +kernel
theorem dL_act_62 : decode cL_act 62 = .ok (.iadd, 1) := by decide +kernel
theorem dL_act_63 : decode cL_act 63 = .ok (.iload_n 2, 1) := by decide +kernel
theorem dL_act_64 : decode cL_act 64 = .ok (.bipush 6, 2) := by decide +kernel
theorem dL_act_66 : decode cL_act 66 = .ok (.ishr, 1) := by decide +kernel
theorem dL_act_67 : decode cL_act 67 = .ok (.iload 6, 2) := by decide +kernel
theorem dL_act_69 : decode cL_act 69 = .ok (.iconst 2, 1) := by decide +kernel
theorem dL_act_70 : decode cL_act 70 = .ok (.if_icmp .ne 8, 3) := by decide +kernel
theorem dL_act_73 : decode cL_act 73 = .ok (.bipush 10, 2) := by decide +kernel
theorem dL_act_75 : decode cL_act 75 = .ok (.goto 4, 3) := by decide +kernel
theorem dL_act_78 : decode cL_act 78 = .ok (.iconst 4, 1) := by decide +kernel
theorem dL_act_79 : decode cL_act 79 = .ok (.invokestatic 24, 3) := by decide +kernel
theorem dL_act_82 : decode cL_act 82 = .ok (.iastore, 1) := by decide +kernel
theorem dL_act_83 : decode cL_act 83 = .ok (.aload 4, 2) := by decide +kernel
theorem dL_act_85 : decode cL_act 85 = .ok (.iconst 2, 1) := by decide +kernel
theorem dL_act_86 : decode cL_act 86 = .ok (.iaload, 1) := by decide +kernel
theorem dL_act_87 : decode cL_act 87 = .ok (.bipush 6, 2) := by decide +kernel
theorem dL_act_89 : decode cL_act 89 = .ok (.if_icmp .ge 11, 3) := by decide +kernel
theorem dL_act_92 : decode cL_act 92 = .ok (.aload 4, 2) := by decide +kernel
theorem dL_act_94 : decode cL_act 94 = .ok (.iconst 2, 1) := by decide +kernel
theorem dL_act_95 : decode cL_act 95 = .ok (.dup2, 1) := by decide +kernel
theorem dL_act_96 : decode cL_act 96 = .ok (.iaload, 1) := by decide +kernel
theorem dL_act_97 : decode cL_act 97 = .ok (.iconst 1, 1) := by decide +kernel
theorem dL_act_98 : decode cL_act 98 = .ok (.iadd, 1) := by decide +kernel
theorem dL_act_99 : decode cL_act 99 = .ok (.iastore, 1) := by decide +kernel
theorem dL_act_100 : decode cL_act 100 = .ok (.aload_n 0, 1) := by decide +kernel
theorem dL_act_101 : decode cL_act 101 = .ok (.iload 6, 2) := by decide +kernel
theorem dL_act_103 : decode cL_act 103 = .ok (.iload 8, 2) := by decide +kernel
theorem dL_act_105 : decode cL_act 105 = .ok (.aload_n 3, 1) := by decide +kernel
theorem dL_act_106 : decode cL_act 106 = .ok (.bipush 8, 2) := by decide +kernel
theorem dL_act_108 : decode cL_act 108 = .ok (.iload 6, 2) := by decide +kernel
theorem dL_act_110 : decode cL_act 110 = .ok (.imul, 1) := by decide +kernel
theorem dL_act_111 : decode cL_act 111 = .ok (.iload 8, 2) := by decide +kernel
theorem dL_act_113 : decode cL_act 113 = .ok (.iadd, 1) := by decide +kernel
theorem dL_act_114 : decode cL_act 114 = .ok (.iaload, 1) := by decide +kernel
theorem dL_act_115 : decode cL_act 115 = .ok (.invokevirtual 27, 3) := by decide +kernel
theorem dL_act_118 : decode cL_act 118 = .ok (.iload 9, 2) := by decide +kernel
theorem dL_act_120 : decode cL_act 120 = .ok (.if_icmp .ne 7, 3) := by decide +kernel
theorem dL_act_123 : decode cL_act 123 = .ok (.iconst 1, 1) := by decide +kernel
theorem dL_act_124 : decode cL_act 124 = .ok (.goto 4, 3) := by decide +kernel
theorem dL_act_127 : decode cL_act 127 = .ok (.iconst 0, 1) := by decide +kernel
theorem dL_act_128 : decode cL_act 128 = .ok (.ireturn, 1) := by decide +kernel
theorem dL_act_129 : decode cL_act 129 = .ok (.iload 5, 2) := by decide +kernel
theorem dL_act_131 : decode cL_act 131 = .ok (.bipush 8, 2) := by decide +kernel
theorem dL_act_133 : decode cL_act 133 = .ok (.if_icmp .ge 109, 3) := by decide +kernel
theorem dL_act_136 : decode cL_act 136 = .ok (.iload 6, 2) := by decide +kernel
theorem dL_act_138 : decode cL_act 138 = .ok (.iconst 2, 1) := by decide +kernel
theorem dL_act_139 : decode cL_act 139 = .ok (.if_icmp .ne 21, 3) := by decide +kernel
theorem dL_act_142 : decode cL_act 142 = .ok (.aload_n 0, 1) := by decide +kernel
theorem dL_act_143 : decode cL_act 143 = .ok (.iconst 2, 1) := by decide +kernel
theorem dL_act_144 : decode cL_act 144 = .ok (.iconst 4, 1) := by decide +kernel
theorem dL_act_145 : decode cL_act 145 = .ok (.iload 8, 2) := by decide +kernel
theorem dL_act_147 : decode cL_act 147 = .ok (.iadd, 1) := by decide +kernel
theorem dL_act_148 : decode cL_act 148 = .ok (.invokevirtual 31, 3) := by decide +kernel
theorem dL_act_151 : decode cL_act 151 = .ok (.ifCond .ne 7, 3) := by decide +kernel
theorem dL_act_154 : decode cL_act 154 = .ok (.iconst 1, 1) := by decide +kernel
theorem dL_act_155 : decode cL_act 155 = .ok (.goto 4, 3) := by decide +kernel
theorem dL_act_158 : decode cL_act 158 = .ok (.iconst 0, 1) := by decide +kernel
theorem dL_act_159 : decode cL_act 159 = .ok (.ireturn, 1) := by decide +kernel
theorem dL_act_160 : decode cL_act 160 = .ok (.aload_n 3, 1) := by decide +kernel
theorem dL_act_161 : decode cL_act 161 = .ok (.bipush 8, 2) := by decide +kernel
theorem dL_act_163 : decode cL_act 163 = .ok (.iload 6, 2) := by decide +kernel
theorem dL_act_165 : decode cL_act 165 = .ok (.imul, 1) := by decide +kernel
theorem dL_act_166 : decode cL_act 166 = .ok (.iconst 4, 1) := by decide +kernel
theorem dL_act_167 : decode cL_act 167 = .ok (.iadd, 1) := by decide +kernel
theorem dL_act_168 : decode cL_act 168 = .ok (.iload 8, 2) := by decide +kernel
theorem dL_act_170 : decode cL_act 170 = .ok (.iadd, 1) := by decide +kernel
theorem dL_act_171 : decode cL_act 171 = .ok (.iaload, 1) := by decide +kernel
theorem dL_act_172 : decode cL_act 172 = .ok (.istore 9, 2) := by decide +kernel
theorem dL_act_174 : decode cL_act 174 = .ok (.aload_n 3, 1) := by decide +kernel
theorem dL_act_175 : decode cL_act 175 = .ok (.bipush 8, 2) := by decide +kernel
theorem dL_act_177 : decode cL_act 177 = .ok (.iload 6, 2) := by decide +kernel
theorem dL_act_179 : decode cL_act 179 = .ok (.imul, 1) := by decide +kernel
theorem dL_act_180 : decode cL_act 180 = .ok (.iconst 4, 1) := by decide +kernel
theorem dL_act_181 : decode cL_act 181 = .ok (.iadd, 1) := by decide +kernel
theorem dL_act_182 : decode cL_act 182 = .ok (.iload 8, 2) := by decide +kernel
theorem dL_act_184 : decode cL_act 184 = .ok (.iadd, 1) := by decide +kernel
theorem dL_act_185 : decode cL_act 185 = .ok (.iload_n 2, 1) := by decide +kernel
theorem dL_act_186 : decode cL_act 186 = .ok (.bipush 6, 2) := by decide +kernel
theorem dL_act_188 : decode cL_act 188 = .ok (.ishr, 1) := by decide +kernel
theorem dL_act_189 : decode cL_act 189 = .ok (.iconst 3, 1) := by decide +kernel
theorem dL_act_190 : decode cL_act 190 = .ok (.invokestatic 24, 3) := by decide +kernel
theorem dL_act_193 : decode cL_act 193 = .ok (.iastore, 1) := by decide +kernel
theorem dL_act_194 : decode cL_act 194 = .ok (.aload 4, 2) := by decide +kernel
theorem dL_act_196 : decode cL_act 196 = .ok (.iconst 2, 1) := by decide +kernel
theorem dL_act_197 : decode cL_act 197 = .ok (.iaload, 1) := by decide +kernel
theorem dL_act_198 : decode cL_act 198 = .ok (.bipush 6, 2) := by decide +kernel
theorem dL_act_200 : decode cL_act 200 = .ok (.if_icmp .ge 11, 3) := by decide +kernel
theorem dL_act_203 : decode cL_act 203 = .ok (.aload 4, 2) := by decide +kernel
theorem dL_act_205 : decode cL_act 205 = .ok (.iconst 2, 1) := by decide +kernel
theorem dL_act_206 : decode cL_act 206 = .ok (.dup2, 1) := by decide +kernel
theorem dL_act_207 : decode cL_act 207 = .ok (.iaload, 1) := by decide +kernel
theorem dL_act_208 : decode cL_act 208 = .ok (.iconst 1, 1) := by decide +kernel
theorem dL_act_209 : decode cL_act 209 = .ok (.iadd, 1) := by decide +kernel
theorem dL_act_210 : decode cL_act 210 = .ok (.iastore, 1) := by decide +kernel
theorem dL_act_211 : decode cL_act 211 = .ok (.aload_n 0, 1) := by decide +kernel
theorem dL_act_212 : decode cL_act 212 = .ok (.iload 6, 2) := by decide +kernel
theorem dL_act_214 : decode cL_act 214 = .ok (.iload 8, 2) := by decide +kernel
theorem dL_act_216 : decode cL_act 216 = .ok (.aload_n 3, 1) := by decide +kernel
theorem dL_act_217 : decode cL_act 217 = .ok (.bipush 8, 2) := by decide +kernel
theorem dL_act_219 : decode cL_act 219 = .ok (.iload 6, 2) := by decide +kernel
theorem dL_act_221 : decode cL_act 221 = .ok (.imul, 1) := by decide +kernel
theorem dL_act_222 : decode cL_act 222 = .ok (.iconst 4, 1) := by decide +kernel
theorem dL_act_223 : decode cL_act 223 = .ok (.iadd, 1) := by decide +kernel
theorem dL_act_224 : decode cL_act 224 = .ok (.iload 8, 2) := by decide +kernel
theorem dL_act_226 : decode cL_act 226 = .ok (.iadd, 1) := by decide +kernel
theorem dL_act_227 : decode cL_act 227 = .ok (.iaload, 1) := by decide +kernel
theorem dL_act_228 : decode cL_act 228 = .ok (.invokevirtual 34, 3) := by decide +kernel
theorem dL_act_231 : decode cL_act 231 = .ok (.iload 9, 2) := by decide +kernel
theorem dL_act_233 : decode cL_act 233 = .ok (.if_icmp .ne 7, 3) := by decide +kernel
theorem dL_act_236 : decode cL_act 236 = .ok (.iconst 1, 1) := by decide +kernel
theorem dL_act_237 : decode cL_act 237 = .ok (.goto 4, 3) := by decide +kernel
theorem dL_act_240 : decode cL_act 240 = .ok (.iconst 0, 1) := by decide +kernel
theorem dL_act_241 : decode cL_act 241 = .ok (.ireturn, 1) := by decide +kernel
theorem dL_act_242 : decode cL_act 242 = .ok (.iload 5, 2) := by decide +kernel
theorem dL_act_244 : decode cL_act 244 = .ok (.bipush 8, 2) := by decide +kernel
theorem dL_act_246 : decode cL_act 246 = .ok (.if_icmp .ne 150, 3) := by decide +kernel
theorem dL_act_249 : decode cL_act 249 = .ok (.iconst 0, 1) := by decide +kernel
theorem dL_act_250 : decode cL_act 250 = .ok (.istore 9, 2) := by decide +kernel
theorem dL_act_252 : decode cL_act 252 = .ok (.iconst 0, 1) := by decide +kernel
theorem dL_act_253 : decode cL_act 253 = .ok (.istore 10, 2) := by decide +kernel
theorem dL_act_255 : decode cL_act 255 = .ok (.iload 10, 2) := by decide +kernel
theorem dL_act_257 : decode cL_act 257 = .ok (.bipush 8, 2) := by decide +kernel
theorem dL_act_259 : decode cL_act 259 = .ok (.if_icmp .ge 101, 3) := by decide +kernel
theorem dL_act_262 : decode cL_act 262 = .ok (.aload_n 3, 1) := by decide +kernel
theorem dL_act_263 : decode cL_act 263 = .ok (.bipush 8, 2) := by decide +kernel
theorem dL_act_265 : decode cL_act 265 = .ok (.iload 6, 2) := by decide +kernel
theorem dL_act_267 : decode cL_act 267 = .ok (.imul, 1) := by decide +kernel
theorem dL_act_268 : decode cL_act 268 = .ok (.iload 10, 2) := by decide +kernel
theorem dL_act_270 : decode cL_act 270 = .ok (.iadd, 1) := by decide +kernel
theorem dL_act_271 : decode cL_act 271 = .ok (.iaload, 1) := by decide +kernel
theorem dL_act_272 : decode cL_act 272 = .ok (.aload_n 3, 1) := by decide +kernel
theorem dL_act_273 : decode cL_act 273 = .ok (.bipush 8, 2) := by decide +kernel
theorem dL_act_275 : decode cL_act 275 = .ok (.iload 7, 2) := by decide +kernel
theorem dL_act_277 : decode cL_act 277 = .ok (.imul, 1) := by decide +kernel
theorem dL_act_278 : decode cL_act 278 = .ok (.iload 10, 2) := by decide +kernel
theorem dL_act_280 : decode cL_act 280 = .ok (.iadd, 1) := by decide +kernel
theorem dL_act_281 : decode cL_act 281 = .ok (.iaload, 1) := by decide +kernel
theorem dL_act_282 : decode cL_act 282 = .ok (.if_icmp .ge 16, 3) := by decide +kernel
theorem dL_act_285 : decode cL_act 285 = .ok (.aload_n 3, 1) := by decide +kernel
theorem dL_act_286 : decode cL_act 286 = .ok (.bipush 8, 2) := by decide +kernel
theorem dL_act_288 : decode cL_act 288 = .ok (.iload 6, 2) := by decide +kernel
theorem dL_act_290 : decode cL_act 290 = .ok (.imul, 1) := by decide +kernel
theorem dL_act_291 : decode cL_act 291 = .ok (.iload 10, 2) := by decide +kernel
theorem dL_act_293 : decode cL_act 293 = .ok (.iadd, 1) := by decide +kernel
theorem dL_act_294 : decode cL_act 294 = .ok (.iaload, 1) := by decide +kernel
theorem dL_act_295 : decode cL_act 295 = .ok (.goto 13, 3) := by decide +kernel
theorem dL_act_298 : decode cL_act 298 = .ok (.aload_n 3, 1) := by decide +kernel
theorem dL_act_299 : decode cL_act 299 = .ok (.bipush 8, 2) := by decide +kernel
theorem dL_act_301 : decode cL_act 301 = .ok (.iload 7, 2) := by decide +kernel
theorem dL_act_303 : decode cL_act 303 = .ok (.imul, 1) := by decide +kernel
theorem dL_act_304 : decode cL_act 304 = .ok (.iload 10, 2) := by decide +kernel
theorem dL_act_306 : decode cL_act 306 = .ok (.iadd, 1) := by decide +kernel
theorem dL_act_307 : decode cL_act 307 = .ok (.iaload, 1) := by decide +kernel
theorem dL_act_308 : decode cL_act 308 = .ok (.istore 11, 2) := by decide +kernel
theorem dL_act_310 : decode cL_act 310 = .ok (.aload_n 3, 1) := by decide +kernel
theorem dL_act_311 : decode cL_act 311 = .ok (.bipush 8, 2) := by decide +kernel
theorem dL_act_313 : decode cL_act 313 = .ok (.iload 6, 2) := by decide +kernel
theorem dL_act_315 : decode cL_act 315 = .ok (.imul, 1) := by decide +kernel
theorem dL_act_316 : decode cL_act 316 = .ok (.iload 10, 2) := by decide +kernel
theorem dL_act_318 : decode cL_act 318 = .ok (.iadd, 1) := by decide +kernel
theorem dL_act_319 : decode cL_act 319 = .ok (.dup2, 1) := by decide +kernel
theorem dL_act_320 : decode cL_act 320 = .ok (.iaload, 1) := by decide +kernel
theorem dL_act_321 : decode cL_act 321 = .ok (.iload 11, 2) := by decide +kernel
theorem dL_act_323 : decode cL_act 323 = .ok (.isub, 1) := by decide +kernel
theorem dL_act_324 : decode cL_act 324 = .ok (.iastore, 1) := by decide +kernel
theorem dL_act_325 : decode cL_act 325 = .ok (.iload 6, 2) := by decide +kernel
theorem dL_act_327 : decode cL_act 327 = .ok (.iload 7, 2) := by decide +kernel
theorem dL_act_329 : decode cL_act 329 = .ok (.if_icmp .eq 18, 3) := by decide +kernel
theorem dL_act_332 : decode cL_act 332 = .ok (.aload_n 3, 1) := by decide +kernel
theorem dL_act_333 : decode cL_act 333 = .ok (.bipush 8, 2) := by decide +kernel
theorem dL_act_335 : decode cL_act 335 = .ok (.iload 7, 2) := by decide +kernel
theorem dL_act_337 : decode cL_act 337 = .ok (.imul, 1) := by decide +kernel
theorem dL_act_338 : decode cL_act 338 = .ok (.iload 10, 2) := by decide +kernel
theorem dL_act_340 : decode cL_act 340 = .ok (.iadd, 1) := by decide +kernel
theorem dL_act_341 : decode cL_act 341 = .ok (.dup2, 1) := by decide +kernel
theorem dL_act_342 : decode cL_act 342 = .ok (.iaload, 1) := by decide +kernel
theorem dL_act_343 : decode cL_act 343 = .ok (.iload 11, 2) := by decide +kernel
theorem dL_act_345 : decode cL_act 345 = .ok (.isub, 1) := by decide +kernel
theorem dL_act_346 : decode cL_act 346 = .ok (.iastore, 1) := by decide +kernel
theorem dL_act_347 : decode cL_act 347 = .ok (.iload 9, 2) := by decide +kernel
theorem dL_act_349 : decode cL_act 349 = .ok (.iload 11, 2) := by decide +kernel
theorem dL_act_351 : decode cL_act 351 = .ok (.iadd, 1) := by decide +kernel
theorem dL_act_352 : decode cL_act 352 = .ok (.istore 9, 2) := by decide +kernel
theorem dL_act_354 : decode cL_act 354 = .ok (.iinc 10 1, 3) := by decide +kernel
theorem dL_act_357 : decode cL_act 357 = .ok (.goto (-102), 3) := by decide +kernel
theorem dL_act_360 : decode cL_act 360 = .ok (.aload 4, 2) := by decide +kernel
theorem dL_act_362 : decode cL_act 362 = .ok (.iconst 2, 1) := by decide +kernel
theorem dL_act_363 : decode cL_act 363 = .ok (.iaload, 1) := by decide +kernel
theorem dL_act_364 : decode cL_act 364 = .ok (.bipush 6, 2) := by decide +kernel
theorem dL_act_366 : decode cL_act 366 = .ok (.if_icmp .ge 11, 3) := by decide +kernel
theorem dL_act_369 : decode cL_act 369 = .ok (.aload 4, 2) := by decide +kernel
theorem dL_act_371 : decode cL_act 371 = .ok (.iconst 2, 1) := by decide +kernel
theorem dL_act_372 : decode cL_act 372 = .ok (.dup2, 1) := by decide +kernel
theorem dL_act_373 : decode cL_act 373 = .ok (.iaload, 1) := by decide +kernel
theorem dL_act_374 : decode cL_act 374 = .ok (.iconst 1, 1) := by decide +kernel
theorem dL_act_375 : decode cL_act 375 = .ok (.iadd, 1) := by decide +kernel
theorem dL_act_376 : decode cL_act 376 = .ok (.iastore, 1) := by decide +kernel
theorem dL_act_377 : decode cL_act 377 = .ok (.aload_n 0, 1) := by decide +kernel
theorem dL_act_378 : decode cL_act 378 = .ok (.iload 6, 2) := by decide +kernel
theorem dL_act_380 : decode cL_act 380 = .ok (.iload 7, 2) := by decide +kernel
theorem dL_act_382 : decode cL_act 382 = .ok (.invokevirtual 37, 3) := by decide +kernel
theorem dL_act_385 : decode cL_act 385 = .ok (.iload 9, 2) := by decide +kernel
theorem dL_act_387 : decode cL_act 387 = .ok (.if_icmp .ne 7, 3) := by decide +kernel
theorem dL_act_390 : decode cL_act 390 = .ok (.iconst 1, 1) := by decide +kernel
theorem dL_act_391 : decode cL_act 391 = .ok (.goto 4, 3) := by decide +kernel
theorem dL_act_394 : decode cL_act 394 = .ok (.iconst 0, 1) := by decide +kernel
theorem dL_act_395 : decode cL_act 395 = .ok (.ireturn, 1) := by decide +kernel
theorem dL_act_396 : decode cL_act 396 = .ok (.iload 5, 2) := by decide +kernel
theorem dL_act_398 : decode cL_act 398 = .ok (.bipush 9, 2) := by decide +kernel
theorem dL_act_400 : decode cL_act 400 = .ok (.if_icmp .ne 171, 3) := by decide +kernel
theorem dL_act_403 : decode cL_act 403 = .ok (.iconst 0, 1) := by decide +kernel
theorem dL_act_404 : decode cL_act 404 = .ok (.istore 9, 2) := by decide +kernel
theorem dL_act_406 : decode cL_act 406 = .ok (.iconst 0, 1) := by decide +kernel
theorem dL_act_407 : decode cL_act 407 = .ok (.istore 10, 2) := by decide +kernel
theorem dL_act_409 : decode cL_act 409 = .ok (.iload 10, 2) := by decide +kernel
theorem dL_act_411 : decode cL_act 411 = .ok (.bipush 8, 2) := by decide +kernel
theorem dL_act_413 : decode cL_act 413 = .ok (.if_icmp .ge 83, 3) := by decide +kernel
theorem dL_act_416 : decode cL_act 416 = .ok (.aload_n 3, 1) := by decide +kernel
theorem dL_act_417 : decode cL_act 417 = .ok (.bipush 8, 2) := by decide +kernel
theorem dL_act_419 : decode cL_act 419 = .ok (.iload 6, 2) := by decide +kernel
theorem dL_act_421 : decode cL_act 421 = .ok (.imul, 1) := by decide +kernel
theorem dL_act_422 : decode cL_act 422 = .ok (.iload 10, 2) := by decide +kernel
theorem dL_act_424 : decode cL_act 424 = .ok (.iadd, 1) := by decide +kernel
theorem dL_act_425 : decode cL_act 425 = .ok (.iaload, 1) := by decide +kernel
theorem dL_act_426 : decode cL_act 426 = .ok (.aload_n 3, 1) := by decide +kernel
theorem dL_act_427 : decode cL_act 427 = .ok (.bipush 8, 2) := by decide +kernel
theorem dL_act_429 : decode cL_act 429 = .ok (.iload 7, 2) := by decide +kernel
theorem dL_act_431 : decode cL_act 431 = .ok (.imul, 1) := by decide +kernel
theorem dL_act_432 : decode cL_act 432 = .ok (.iload 10, 2) := by decide +kernel
theorem dL_act_434 : decode cL_act 434 = .ok (.iadd, 1) := by decide +kernel
theorem dL_act_435 : decode cL_act 435 = .ok (.iaload, 1) := by decide +kernel
theorem dL_act_436 : decode cL_act 436 = .ok (.iadd, 1) := by decide +kernel
theorem dL_act_437 : decode cL_act 437 = .ok (.iload 10, 2) := by decide +kernel
theorem dL_act_439 : decode cL_act 439 = .ok (.iconst 4, 1) := by decide +kernel
theorem dL_act_440 : decode cL_act 440 = .ok (.if_icmp .ge 8, 3) := by decide +kernel
theorem dL_act_443 : decode cL_act 443 = .ok (.bipush 9, 2) := by decide +kernel
theorem dL_act_445 : decode cL_act 445 = .ok (.goto 14, 3) := by decide +kernel
theorem dL_act_448 : decode cL_act 448 = .ok (.iload 6, 2) := by decide +kernel
theorem dL_act_450 : decode cL_act 450 = .ok (.iconst 2, 1) := by decide +kernel
theorem dL_act_451 : decode cL_act 451 = .ok (.if_icmp .ne 7, 3) := by decide +kernel
theorem dL_act_454 : decode cL_act 454 = .ok (.iconst 0, 1) := by decide +kernel
theorem dL_act_455 : decode cL_act 455 = .ok (.goto 4, 3) := by decide +kernel
theorem dL_act_458 : decode cL_act 458 = .ok (.iconst 2, 1) := by decide +kernel
theorem dL_act_459 : decode cL_act 459 = .ok (.if_icmp .le 5, 3) := by decide +kernel
theorem dL_act_462 : decode cL_act 462 = .ok (.iconst 1, 1) := by decide +kernel
theorem dL_act_463 : decode cL_act 463 = .ok (.ireturn, 1) := by decide +kernel
theorem dL_act_464 : decode cL_act 464 = .ok (.iload 9, 2) := by decide +kernel
theorem dL_act_466 : decode cL_act 466 = .ok (.aload_n 3, 1) := by decide +kernel
theorem dL_act_467 : decode cL_act 467 = .ok (.bipush 8, 2) := by decide +kernel
theorem dL_act_469 : decode cL_act 469 = .ok (.iload 6, 2) := by decide +kernel
theorem dL_act_471 : decode cL_act 471 = .ok (.imul, 1) := by decide +kernel
theorem dL_act_472 : decode cL_act 472 = .ok (.iload 10, 2) := by decide +kernel
theorem dL_act_474 : decode cL_act 474 = .ok (.iadd, 1) := by decide +kernel
theorem dL_act_475 : decode cL_act 475 = .ok (.iaload, 1) := by decide +kernel
theorem dL_act_476 : decode cL_act 476 = .ok (.aload_n 3, 1) := by decide +kernel
theorem dL_act_477 : decode cL_act 477 = .ok (.bipush 8, 2) := by decide +kernel
theorem dL_act_479 : decode cL_act 479 = .ok (.iload 7, 2) := by decide +kernel
theorem dL_act_481 : decode cL_act 481 = .ok (.imul, 1) := by decide +kernel
theorem dL_act_482 : decode cL_act 482 = .ok (.iload 10, 2) := by decide +kernel
theorem dL_act_484 : decode cL_act 484 = .ok (.iadd, 1) := by decide +kernel
theorem dL_act_485 : decode cL_act 485 = .ok (.iaload, 1) := by decide +kernel
theorem dL_act_486 : decode cL_act 486 = .ok (.iadd, 1) := by decide +kernel
theorem dL_act_487 : decode cL_act 487 = .ok (.iadd, 1) := by decide +kernel
theorem dL_act_488 : decode cL_act 488 = .ok (.istore 9, 2) := by decide +kernel
theorem dL_act_490 : decode cL_act 490 = .ok (.iinc 10 1, 3) := by decide +kernel
theorem dL_act_493 : decode cL_act 493 = .ok (.goto (-84), 3) := by decide +kernel
theorem dL_act_496 : decode cL_act 496 = .ok (.iconst 0, 1) := by decide +kernel
theorem dL_act_497 : decode cL_act 497 = .ok (.istore 10, 2) := by decide +kernel
theorem dL_act_499 : decode cL_act 499 = .ok (.iload 10, 2) := by decide +kernel
theorem dL_act_501 : decode cL_act 501 = .ok (.bipush 8, 2) := by decide +kernel
theorem dL_act_503 : decode cL_act 503 = .ok (.if_icmp .ge 32, 3) := by decide +kernel
theorem dL_act_506 : decode cL_act 506 = .ok (.aload_n 3, 1) := by decide +kernel
theorem dL_act_507 : decode cL_act 507 = .ok (.bipush 8, 2) := by decide +kernel
theorem dL_act_509 : decode cL_act 509 = .ok (.iload 6, 2) := by decide +kernel
theorem dL_act_511 : decode cL_act 511 = .ok (.imul, 1) := by decide +kernel
theorem dL_act_512 : decode cL_act 512 = .ok (.iload 10, 2) := by decide +kernel
theorem dL_act_514 : decode cL_act 514 = .ok (.iadd, 1) := by decide +kernel
theorem dL_act_515 : decode cL_act 515 = .ok (.dup2, 1) := by decide +kernel
theorem dL_act_516 : decode cL_act 516 = .ok (.iaload, 1) := by decide +kernel
theorem dL_act_517 : decode cL_act 517 = .ok (.aload_n 3, 1) := by decide +kernel
theorem dL_act_518 : decode cL_act 518 = .ok (.bipush 8, 2) := by decide +kernel
theorem dL_act_520 : decode cL_act 520 = .ok (.iload 7, 2) := by decide +kernel
theorem dL_act_522 : decode cL_act 522 = .ok (.imul, 1) := by decide +kernel
theorem dL_act_523 : decode cL_act 523 = .ok (.iload 10, 2) := by decide +kernel
theorem dL_act_525 : decode cL_act 525 = .ok (.iadd, 1) := by decide +kernel
theorem dL_act_526 : decode cL_act 526 = .ok (.iaload, 1) := by decide +kernel
theorem dL_act_527 : decode cL_act 527 = .ok (.iadd, 1) := by decide +kernel
theorem dL_act_528 : decode cL_act 528 = .ok (.iastore, 1) := by decide +kernel
theorem dL_act_529 : decode cL_act 529 = .ok (.iinc 10 1, 3) := by decide +kernel
theorem dL_act_532 : decode cL_act 532 = .ok (.goto (-33), 3) := by decide +kernel
theorem dL_act_535 : decode cL_act 535 = .ok (.aload 4, 2) := by decide +kernel
theorem dL_act_537 : decode cL_act 537 = .ok (.iconst 2, 1) := by decide +kernel
theorem dL_act_538 : decode cL_act 538 = .ok (.iaload, 1) := by decide +kernel
theorem dL_act_539 : decode cL_act 539 = .ok (.bipush 6, 2) := by decide +kernel
theorem dL_act_541 : decode cL_act 541 = .ok (.if_icmp .ge 11, 3) := by decide +kernel
theorem dL_act_544 : decode cL_act 544 = .ok (.aload 4, 2) := by decide +kernel
theorem dL_act_546 : decode cL_act 546 = .ok (.iconst 2, 1) := by decide +kernel
theorem dL_act_547 : decode cL_act 547 = .ok (.dup2, 1) := by decide +kernel
theorem dL_act_548 : decode cL_act 548 = .ok (.iaload, 1) := by decide +kernel
theorem dL_act_549 : decode cL_act 549 = .ok (.iconst 1, 1) := by decide +kernel
theorem dL_act_550 : decode cL_act 550 = .ok (.iadd, 1) := by decide +kernel
theorem dL_act_551 : decode cL_act 551 = .ok (.iastore, 1) := by decide +kernel
theorem dL_act_552 : decode cL_act 552 = .ok (.aload_n 0, 1) := by decide +kernel
theorem dL_act_553 : decode cL_act 553 = .ok (.iload 6, 2) := by decide +kernel
theorem dL_act_555 : decode cL_act 555 = .ok (.iload 7, 2) := by decide +kernel
theorem dL_act_557 : decode cL_act 557 = .ok (.invokevirtual 40, 3) := by decide +kernel
theorem dL_act_560 : decode cL_act 560 = .ok (.iload 9, 2) := by decide +kernel
theorem dL_act_562 : decode cL_act 562 = .ok (.if_icmp .ne 7, 3) := by decide +kernel
theorem dL_act_565 : decode cL_act 565 = .ok (.iconst 1, 1) := by decide +kernel
theorem dL_act_566 : decode cL_act 566 = .ok (.goto 4, 3) := by decide +kernel
theorem dL_act_569 : decode cL_act 569 = .ok (.iconst 0, 1) := by decide +kernel
theorem dL_act_570 : decode cL_act 570 = .ok (.ireturn, 1) := by decide +kernel
theorem dL_act_571 : decode cL_act 571 = .ok (.iload 5, 2) := by decide +kernel
theorem dL_act_573 : decode cL_act 573 = .ok (.bipush 10, 2) := by decide +kernel
theorem dL_act_575 : decode cL_act 575 = .ok (.isub, 1) := by decide +kernel
theorem dL_act_576 : decode cL_act 576 = .ok (.istore 9, 2) := by decide +kernel
theorem dL_act_578 : decode cL_act 578 = .ok (.aload 4, 2) := by decide +kernel
theorem dL_act_580 : decode cL_act 580 = .ok (.iload 9, 2) := by decide +kernel
theorem dL_act_582 : decode cL_act 582 = .ok (.iaload, 1) := by decide +kernel
theorem dL_act_583 : decode cL_act 583 = .ok (.istore 10, 2) := by decide +kernel
theorem dL_act_585 : decode cL_act 585 = .ok (.aload 4, 2) := by decide +kernel
theorem dL_act_587 : decode cL_act 587 = .ok (.iload 9, 2) := by decide +kernel
theorem dL_act_589 : decode cL_act 589 = .ok (.iload 9, 2) := by decide +kernel
theorem dL_act_591 : decode cL_act 591 = .ok (.ifCond .ne 11, 3) := by decide +kernel
theorem dL_act_594 : decode cL_act 594 = .ok (.iload_n 2, 1) := by decide +kernel
theorem dL_act_595 : decode cL_act 595 = .ok (.iconst 2, 1) := by decide +kernel
theorem dL_act_596 : decode cL_act 596 = .ok (.invokestatic 24, 3) := by decide +kernel
theorem dL_act_599 : decode cL_act 599 = .ok (.goto 9, 3) := by decide +kernel
theorem dL_act_602 : decode cL_act 602 = .ok (.iload_n 2, 1) := by decide +kernel
theorem dL_act_603 : decode cL_act 603 = .ok (.bipush 10, 2) := by decide +kernel
theorem dL_act_605 : decode cL_act 605 = .ok (.invokestatic 24, 3) := by decide +kernel
theorem dL_act_608 : decode cL_act 608 = .ok (.iastore, 1) := by decide +kernel
theorem dL_act_609 : decode cL_act 609 = .ok (.aload 4, 2) := by decide +kernel
theorem dL_act_611 : decode cL_act 611 = .ok (.iconst 2, 1) := by decide +kernel
theorem dL_act_612 : decode cL_act 612 = .ok (.iaload, 1) := by decide +kernel
theorem dL_act_613 : decode cL_act 613 = .ok (.bipush 6, 2) := by decide +kernel
theorem dL_act_615 : decode cL_act 615 = .ok (.if_icmp .ge 11, 3) := by decide +kernel
theorem dL_act_618 : decode cL_act 618 = .ok (.aload 4, 2) := by decide +kernel
theorem dL_act_620 : decode cL_act 620 = .ok (.iconst 2, 1) := by decide +kernel
theorem dL_act_621 : decode cL_act 621 = .ok (.dup2, 1) := by decide +kernel
theorem dL_act_622 : decode cL_act 622 = .ok (.iaload, 1) := by decide +kernel
theorem dL_act_623 : decode cL_act 623 = .ok (.iconst 1, 1) := by decide +kernel
theorem dL_act_624 : decode cL_act 624 = .ok (.iadd, 1) := by decide +kernel
theorem dL_act_625 : decode cL_act 625 = .ok (.iastore, 1) := by decide +kernel
theorem dL_act_626 : decode cL_act 626 = .ok (.aload_n 0, 1) := by decide +kernel
theorem dL_act_627 : decode cL_act 627 = .ok (.iload 9, 2) := by decide +kernel
theorem dL_act_629 : decode cL_act 629 = .ok (.aload 4, 2) := by decide +kernel
theorem dL_act_631 : decode cL_act 631 = .ok (.iload 9, 2) := by decide +kernel
theorem dL_act_633 : decode cL_act 633 = .ok (.iaload, 1) := by decide +kernel
theorem dL_act_634 : decode cL_act 634 = .ok (.invokevirtual 43, 3) := by decide +kernel
theorem dL_act_637 : decode cL_act 637 = .ok (.iload 10, 2) := by decide +kernel
theorem dL_act_639 : decode cL_act 639 = .ok (.if_icmp .ne 7, 3) := by decide +kernel
theorem dL_act_642 : decode cL_act 642 = .ok (.iconst 1, 1) := by decide +kernel
theorem dL_act_643 : decode cL_act 643 = .ok (.goto 4, 3) := by decide +kernel
theorem dL_act_646 : decode cL_act 646 = .ok (.iconst 0, 1) := by decide +kernel
theorem dL_act_647 : decode cL_act 647 = .ok (.ireturn, 1) := by decide +kernel
theorem dL_agree_0 : decode cL_agree 0 = .ok (.iconst 0, 1) := by decide +kernel
theorem dL_agree_1 : decode cL_agree 1 = .ok (.istore_n 3, 1) := by decide +kernel
theorem dL_agree_2 : decode cL_agree 2 = .ok (.iload_n 3, 1) := by decide +kernel
theorem dL_agree_3 : decode cL_agree 3 = .ok (.bipush 24, 2) := by decide +kernel
theorem dL_agree_5 : decode cL_agree 5 = .ok (.if_icmp .ge 29, 3) := by decide +kernel
theorem dL_agree_8 : decode cL_agree 8 = .ok (.aload_n 0, 1) := by decide +kernel
theorem dL_agree_9 : decode cL_agree 9 = .ok (.iload_n 3, 1) := by decide +kernel
theorem dL_agree_10 : decode cL_agree 10 = .ok (.bipush 8, 2) := by decide +kernel
theorem dL_agree_12 : decode cL_agree 12 = .ok (.idiv, 1) := by decide +kernel
theorem dL_agree_13 : decode cL_agree 13 = .ok (.iload_n 3, 1) := by decide +kernel
theorem dL_agree_14 : decode cL_agree 14 = .ok (.bipush 8, 2) := by decide +kernel
theorem dL_agree_16 : decode cL_agree 16 = .ok (.irem, 1) := by decide +kernel
theorem dL_agree_17 : decode cL_agree 17 = .ok (.invokevirtual 31, 3) := by decide +kernel
theorem dL_agree_20 : decode cL_agree 20 = .ok (.aload_n 1, 1) := by decide +kernel
theorem dL_agree_21 : decode cL_agree 21 = .ok (.iload_n 3, 1) := by decide +kernel
theorem dL_agree_22 : decode cL_agree 22 = .ok (.iaload, 1) := by decide +kernel
theorem dL_agree_23 : decode cL_agree 23 = .ok (.if_icmp .eq 5, 3) := by decide +kernel
theorem dL_agree_26 : decode cL_agree 26 = .ok (.iconst 0, 1) := by decide +kernel
theorem dL_agree_27 : decode cL_agree 27 = .ok (.ireturn, 1) := by decide +kernel
theorem dL_agree_28 : decode cL_agree 28 = .ok (.iinc 3 1, 3) := by decide +kernel
theorem dL_agree_31 : decode cL_agree 31 = .ok (.goto (-29), 3) := by decide +kernel
theorem dL_agree_34 : decode cL_agree 34 = .ok (.iconst 0, 1) := by decide +kernel
theorem dL_agree_35 : decode cL_agree 35 = .ok (.istore_n 3, 1) := by decide +kernel
theorem dL_agree_36 : decode cL_agree 36 = .ok (.iload_n 3, 1) := by decide +kernel
theorem dL_agree_37 : decode cL_agree 37 = .ok (.iconst 4, 1) := by decide +kernel
theorem dL_agree_38 : decode cL_agree 38 = .ok (.if_icmp .ge 44, 3) := by decide +kernel
theorem dL_agree_41 : decode cL_agree 41 = .ok (.aload_n 0, 1) := by decide +kernel
theorem dL_agree_42 : decode cL_agree 42 = .ok (.iload_n 3, 1) := by decide +kernel
theorem dL_agree_43 : decode cL_agree 43 = .ok (.invokevirtual 46, 3) := by decide +kernel
theorem dL_agree_46 : decode cL_agree 46 = .ok (.aload_n 1, 1) := by decide +kernel
theorem dL_agree_47 : decode cL_agree 47 = .ok (.bipush 16, 2) := by decide +kernel
theorem dL_agree_49 : decode cL_agree 49 = .ok (.iload_n 3, 1) := by decide +kernel
theorem dL_agree_50 : decode cL_agree 50 = .ok (.iadd, 1) := by decide +kernel
theorem dL_agree_51 : decode cL_agree 51 = .ok (.iaload, 1) := by decide +kernel
theorem dL_agree_52 : decode cL_agree 52 = .ok (.aload_n 1, 1) := by decide +kernel
theorem dL_agree_53 : decode cL_agree 53 = .ok (.iload_n 3, 1) := by decide +kernel
theorem dL_agree_54 : decode cL_agree 54 = .ok (.iaload, 1) := by decide +kernel
theorem dL_agree_55 : decode cL_agree 55 = .ok (.isub, 1) := by decide +kernel
theorem dL_agree_56 : decode cL_agree 56 = .ok (.if_icmp .ne 18, 3) := by decide +kernel
theorem dL_agree_59 : decode cL_agree 59 = .ok (.aload_n 0, 1) := by decide +kernel
theorem dL_agree_60 : decode cL_agree 60 = .ok (.iload_n 3, 1) := by decide +kernel
theorem dL_agree_61 : decode cL_agree 61 = .ok (.invokevirtual 49, 3) := by decide +kernel
theorem dL_agree_64 : decode cL_agree 64 = .ok (.aload_n 1, 1) := by decide +kernel
theorem dL_agree_65 : decode cL_agree 65 = .ok (.aload_n 2, 1) := by decide +kernel
theorem dL_agree_66 : decode cL_agree 66 = .ok (.iload_n 3, 1) := by decide +kernel
theorem dL_agree_67 : decode cL_agree 67 = .ok (.iconst 0, 1) := by decide +kernel
theorem dL_agree_68 : decode cL_agree 68 = .ok (.invokestatic 8, 3) := by decide +kernel
theorem dL_agree_71 : decode cL_agree 71 = .ok (.if_icmp .eq 5, 3) := by decide +kernel
theorem dL_agree_74 : decode cL_agree 74 = .ok (.iconst 0, 1) := by decide +kernel
theorem dL_agree_75 : decode cL_agree 75 = .ok (.ireturn, 1) := by decide +kernel
theorem dL_agree_76 : decode cL_agree 76 = .ok (.iinc 3 1, 3) := by decide +kernel
theorem dL_agree_79 : decode cL_agree 79 = .ok (.goto (-43), 3) := by decide +kernel
theorem dL_agree_82 : decode cL_agree 82 = .ok (.aload_n 1, 1) := by decide +kernel
theorem dL_agree_83 : decode cL_agree 83 = .ok (.aload_n 2, 1) := by decide +kernel
theorem dL_agree_84 : decode cL_agree 84 = .ok (.invokestatic 51, 3) := by decide +kernel
theorem dL_agree_87 : decode cL_agree 87 = .ok (.lstore_n 3, 1) := by decide +kernel
theorem dL_agree_88 : decode cL_agree 88 = .ok (.aload_n 0, 1) := by decide +kernel
theorem dL_agree_89 : decode cL_agree 89 = .ok (.iconst 0, 1) := by decide +kernel
theorem dL_agree_90 : decode cL_agree 90 = .ok (.invokevirtual 55, 3) := by decide +kernel
theorem dL_agree_93 : decode cL_agree 93 = .ok (.lload_n 3, 1) := by decide +kernel
theorem dL_agree_94 : decode cL_agree 94 = .ok (.lcmp, 1) := by decide +kernel
theorem dL_agree_95 : decode cL_agree 95 = .ok (.ifCond .ne 37, 3) := by decide +kernel
theorem dL_agree_98 : decode cL_agree 98 = .ok (.aload_n 0, 1) := by decide +kernel
theorem dL_agree_99 : decode cL_agree 99 = .ok (.iconst 1, 1) := by decide +kernel
theorem dL_agree_100 : decode cL_agree 100 = .ok (.invokevirtual 55, 3) := by decide +kernel
theorem dL_agree_103 : decode cL_agree 103 = .ok (.lload_n 3, 1) := by decide +kernel
theorem dL_agree_104 : decode cL_agree 104 = .ok (.lcmp, 1) := by decide +kernel
theorem dL_agree_105 : decode cL_agree 105 = .ok (.ifCond .ne 27, 3) := by decide +kernel
theorem dL_agree_108 : decode cL_agree 108 = .ok (.aload_n 0, 1) := by decide +kernel
theorem dL_agree_109 : decode cL_agree 109 = .ok (.bipush 10, 2) := by decide +kernel
theorem dL_agree_111 : decode cL_agree 111 = .ok (.invokevirtual 20, 3) := by decide +kernel
theorem dL_agree_114 : decode cL_agree 114 = .ok (.aload_n 2, 1) := by decide +kernel
theorem dL_agree_115 : decode cL_agree 115 = .ok (.iconst 2, 1) := by decide +kernel
theorem dL_agree_116 : decode cL_agree 116 = .ok (.iaload, 1) := by decide +kernel
theorem dL_agree_117 : decode cL_agree 117 = .ok (.if_icmp .ne 15, 3) := by decide +kernel
theorem dL_agree_120 : decode cL_agree 120 = .ok (.aload_n 0, 1) := by decide +kernel
theorem dL_agree_121 : decode cL_agree 121 = .ok (.aload_n 1, 1) := by decide +kernel
theorem dL_agree_122 : decode cL_agree 122 = .ok (.invokestatic 58, 3) := by decide +kernel
theorem dL_agree_125 : decode cL_agree 125 = .ok (.ifCond .eq 7, 3) := by decide +kernel
theorem dL_agree_128 : decode cL_agree 128 = .ok (.iconst 1, 1) := by decide +kernel
theorem dL_agree_129 : decode cL_agree 129 = .ok (.goto 4, 3) := by decide +kernel
theorem dL_agree_132 : decode cL_agree 132 = .ok (.iconst 0, 1) := by decide +kernel
theorem dL_agree_133 : decode cL_agree 133 = .ok (.ireturn, 1) := by decide +kernel
theorem dL_law_0 : decode cL_law 0 = .ok (.new 15, 3) := by decide +kernel
theorem dL_law_3 : decode cL_law 3 = .ok (.dup, 1) := by decide +kernel
theorem dL_law_4 : decode cL_law 4 = .ok (.invokespecial 61, 3) := by decide +kernel
theorem dL_law_7 : decode cL_law 7 = .ok (.astore_n 1, 1) := by decide +kernel
theorem dL_law_8 : decode cL_law 8 = .ok (.bipush 24, 2) := by decide +kernel
theorem dL_law_10 : decode cL_law 10 = .ok (.newarray .int, 2) := by decide +kernel
theorem dL_law_12 : decode cL_law 12 = .ok (.astore_n 2, 1) := by decide +kernel
theorem dL_law_13 : decode cL_law 13 = .ok (.iconst 3, 1) := by decide +kernel
theorem dL_law_14 : decode cL_law 14 = .ok (.newarray .int, 2) := by decide +kernel
theorem dL_law_16 : decode cL_law 16 = .ok (.astore_n 3, 1) := by decide +kernel
theorem dL_law_17 : decode cL_law 17 = .ok (.aload_n 3, 1) := by decide +kernel
theorem dL_law_18 : decode cL_law 18 = .ok (.iconst 0, 1) := by decide +kernel
theorem dL_law_19 : decode cL_law 19 = .ok (.iconst 1, 1) := by decide +kernel
theorem dL_law_20 : decode cL_law 20 = .ok (.iastore, 1) := by decide +kernel
theorem dL_law_21 : decode cL_law 21 = .ok (.aload_n 3, 1) := by decide +kernel
theorem dL_law_22 : decode cL_law 22 = .ok (.iconst 1, 1) := by decide +kernel
theorem dL_law_23 : decode cL_law 23 = .ok (.bipush 9, 2) := by decide +kernel
theorem dL_law_25 : decode cL_law 25 = .ok (.iastore, 1) := by decide +kernel
theorem dL_law_26 : decode cL_law 26 = .ok (.iconst 0, 1) := by decide +kernel
theorem dL_law_27 : decode cL_law 27 = .ok (.istore 4, 2) := by decide +kernel
theorem dL_law_29 : decode cL_law 29 = .ok (.iload 4, 2) := by decide +kernel
theorem dL_law_31 : decode cL_law 31 = .ok (.bipush 36, 2) := by decide +kernel
theorem dL_law_33 : decode cL_law 33 = .ok (.if_icmp .ge 47, 3) := by decide +kernel
theorem dL_law_36 : decode cL_law 36 = .ok (.aload_n 1, 1) := by decide +kernel
theorem dL_law_37 : decode cL_law 37 = .ok (.aload_n 0, 1) := by decide +kernel
theorem dL_law_38 : decode cL_law 38 = .ok (.iconst 2, 1) := by decide +kernel
theorem dL_law_39 : decode cL_law 39 = .ok (.iload 4, 2) := by decide +kernel
theorem dL_law_41 : decode cL_law 41 = .ok (.imul, 1) := by decide +kernel
theorem dL_law_42 : decode cL_law 42 = .ok (.invokestatic 62, 3) := by decide +kernel
theorem dL_law_45 : decode cL_law 45 = .ok (.aload_n 0, 1) := by decide +kernel
theorem dL_law_46 : decode cL_law 46 = .ok (.iconst 2, 1) := by decide +kernel
theorem dL_law_47 : decode cL_law 47 = .ok (.iload 4, 2) := by decide +kernel
theorem dL_law_49 : decode cL_law 49 = .ok (.imul, 1) := by decide +kernel
theorem dL_law_50 : decode cL_law 50 = .ok (.iconst 1, 1) := by decide +kernel
theorem dL_law_51 : decode cL_law 51 = .ok (.iadd, 1) := by decide +kernel
theorem dL_law_52 : decode cL_law 52 = .ok (.invokestatic 62, 3) := by decide +kernel
theorem dL_law_55 : decode cL_law 55 = .ok (.aload_n 2, 1) := by decide +kernel
theorem dL_law_56 : decode cL_law 56 = .ok (.aload_n 3, 1) := by decide +kernel
theorem dL_law_57 : decode cL_law 57 = .ok (.invokestatic 66, 3) := by decide +kernel
theorem dL_law_60 : decode cL_law 60 = .ok (.ifCond .eq 12, 3) := by decide +kernel
theorem dL_law_63 : decode cL_law 63 = .ok (.aload_n 1, 1) := by decide +kernel
theorem dL_law_64 : decode cL_law 64 = .ok (.aload_n 2, 1) := by decide +kernel
theorem dL_law_65 : decode cL_law 65 = .ok (.aload_n 3, 1) := by decide +kernel
theorem dL_law_66 : decode cL_law 66 = .ok (.invokestatic 70, 3) := by decide +kernel
theorem dL_law_69 : decode cL_law 69 = .ok (.ifCond .ne 5, 3) := by decide +kernel
theorem dL_law_72 : decode cL_law 72 = .ok (.iconst 0, 1) := by decide +kernel
theorem dL_law_73 : decode cL_law 73 = .ok (.ireturn, 1) := by decide +kernel
theorem dL_law_74 : decode cL_law 74 = .ok (.iinc 4 1, 3) := by decide +kernel
theorem dL_law_77 : decode cL_law 77 = .ok (.goto (-48), 3) := by decide +kernel
theorem dL_law_80 : decode cL_law 80 = .ok (.iconst 1, 1) := by decide +kernel
theorem dL_law_81 : decode cL_law 81 = .ok (.ireturn, 1) := by decide +kernel
