/-! the names of the law, and its words on top of those of the class -/
def RL : String := "SiltStoreLaw"
abbrev cL_below : ByteArray := method_2_code
def yL_below : MethodName := ⟨RL, "below", "(II)I"⟩
abbrev cL_cell : ByteArray := method_3_code
def yL_cell : MethodName := ⟨RL, "cell", "([II)I"⟩
abbrev cL_isSound : ByteArray := method_4_code
def yL_isSound : MethodName := ⟨RL, "isSound", "(LSiltStore;III)Z"⟩
abbrev cL_law : ByteArray := code
def yL_law : MethodName := ⟨RL, "law", "([I)Z"⟩
theorem dL_below_0 : decode cL_below 0 = .ok (.iload_n 0, 1) := by decide +kernel
theorem dL_below_1 : decode cL_below 1 = .ok (.ldc 7, 2) := by decide +kernel
theorem dL_below_3 : decode cL_below 3 = .ok (.iand, 1) := by decide +kernel
theorem dL_below_4 : decode cL_below 4 = .ok (.iload_n 1, 1) := by decide +kernel
theorem dL_below_5 : decode cL_below 5 = .ok (.irem, 1) := by decide +kernel
theorem dL_below_6 : decode cL_below 6 = .ok (.ireturn, 1) := by decide +kernel
theorem dL_cell_0 : decode cL_cell 0 = .ok (.iload_n 1, 1) := by decide +kernel
theorem dL_cell_1 : decode cL_cell 1 = .ok (.aload_n 0, 1) := by decide +kernel
theorem dL_cell_2 : decode cL_cell 2 = .ok (.arraylength, 1) := by decide +kernel
theorem dL_cell_3 : decode cL_cell 3 = .ok (.if_icmp .ge 9, 3) := by decide +kernel
theorem dL_cell_6 : decode cL_cell 6 = .ok (.aload_n 0, 1) := by decide +kernel
theorem dL_cell_7 : decode cL_cell 7 = .ok (.iload_n 1, 1) := by decide +kernel
theorem dL_cell_8 : decode cL_cell 8 = .ok (.iaload, 1) := by decide +kernel
theorem dL_cell_9 : decode cL_cell 9 = .ok (.goto 9, 3) := by decide +kernel
theorem dL_cell_12 : decode cL_cell 12 = .ok (.ldc 8, 2) := by decide +kernel
theorem dL_cell_14 : decode cL_cell 14 = .ok (.iload_n 1, 1) := by decide +kernel
theorem dL_cell_15 : decode cL_cell 15 = .ok (.iconst 3, 1) := by decide +kernel
theorem dL_cell_16 : decode cL_cell 16 = .ok (.iadd, 1) := by decide +kernel
theorem dL_cell_17 : decode cL_cell 17 = .ok (.imul, 1) := by decide +kernel
theorem dL_cell_18 : decode cL_cell 18 = .ok (.ireturn, 1) := by decide +kernel
theorem dL_isSound_0 : decode cL_isSound 0 = .ok (.iconst 0, 1) := by decide +kernel
theorem dL_isSound_1 : decode cL_isSound 1 = .ok (.istore 4, 2) := by decide +kernel
theorem dL_isSound_3 : decode cL_isSound 3 = .ok (.iconst 0, 1) := by decide +kernel
theorem dL_isSound_4 : decode cL_isSound 4 = .ok (.istore 5, 2) := by decide +kernel
theorem dL_isSound_6 : decode cL_isSound 6 = .ok (.iconst 0, 1) := by decide +kernel
theorem dL_isSound_7 : decode cL_isSound 7 = .ok (.istore 6, 2) := by decide +kernel
theorem dL_isSound_9 : decode cL_isSound 9 = .ok (.iload 6, 2) := by decide +kernel
theorem dL_isSound_11 : decode cL_isSound 11 = .ok (.iconst 4, 1) := by decide +kernel
theorem dL_isSound_12 : decode cL_isSound 12 = .ok (.if_icmp .ge 386, 3) := by decide +kernel
theorem dL_isSound_15 : decode cL_isSound 15 = .ok (.iconst 0, 1) := by decide +kernel
theorem dL_isSound_16 : decode cL_isSound 16 = .ok (.istore 7, 2) := by decide +kernel
theorem dL_isSound_18 : decode cL_isSound 18 = .ok (.iconst (-1), 1) := by decide +kernel
theorem dL_isSound_19 : decode cL_isSound 19 = .ok (.istore 8, 2) := by decide +kernel
theorem dL_isSound_21 : decode cL_isSound 21 = .ok (.iconst 0, 1) := by decide +kernel
theorem dL_isSound_22 : decode cL_isSound 22 = .ok (.istore 9, 2) := by decide +kernel
theorem dL_isSound_24 : decode cL_isSound 24 = .ok (.iload 9, 2) := by decide +kernel
theorem dL_isSound_26 : decode cL_isSound 26 = .ok (.aload_n 0, 1) := by decide +kernel
theorem dL_isSound_27 : decode cL_isSound 27 = .ok (.iload 6, 2) := by decide +kernel
theorem dL_isSound_29 : decode cL_isSound 29 = .ok (.invokevirtual 9, 3) := by decide +kernel
theorem dL_isSound_32 : decode cL_isSound 32 = .ok (.if_icmp .ge 283, 3) := by decide +kernel
theorem dL_isSound_35 : decode cL_isSound 35 = .ok (.aload_n 0, 1) := by decide +kernel
theorem dL_isSound_36 : decode cL_isSound 36 = .ok (.iload 6, 2) := by decide +kernel
theorem dL_isSound_38 : decode cL_isSound 38 = .ok (.iload 9, 2) := by decide +kernel
theorem dL_isSound_40 : decode cL_isSound 40 = .ok (.invokevirtual 15, 3) := by decide +kernel
theorem dL_isSound_43 : decode cL_isSound 43 = .ok (.istore 10, 2) := by decide +kernel
theorem dL_isSound_45 : decode cL_isSound 45 = .ok (.iconst 0, 1) := by decide +kernel
theorem dL_isSound_46 : decode cL_isSound 46 = .ok (.istore 11, 2) := by decide +kernel
theorem dL_isSound_48 : decode cL_isSound 48 = .ok (.iconst 0, 1) := by decide +kernel
theorem dL_isSound_49 : decode cL_isSound 49 = .ok (.istore 12, 2) := by decide +kernel
theorem dL_isSound_51 : decode cL_isSound 51 = .ok (.iload 12, 2) := by decide +kernel
theorem dL_isSound_53 : decode cL_isSound 53 = .ok (.iload 10, 2) := by decide +kernel
theorem dL_isSound_55 : decode cL_isSound 55 = .ok (.if_icmp .ge 218, 3) := by decide +kernel
theorem dL_isSound_58 : decode cL_isSound 58 = .ok (.aload_n 0, 1) := by decide +kernel
theorem dL_isSound_59 : decode cL_isSound 59 = .ok (.iload 6, 2) := by decide +kernel
theorem dL_isSound_61 : decode cL_isSound 61 = .ok (.iload 9, 2) := by decide +kernel
theorem dL_isSound_63 : decode cL_isSound 63 = .ok (.iload 12, 2) := by decide +kernel
theorem dL_isSound_65 : decode cL_isSound 65 = .ok (.iconst 0, 1) := by decide +kernel
theorem dL_isSound_66 : decode cL_isSound 66 = .ok (.invokevirtual 19, 3) := by decide +kernel
theorem dL_isSound_69 : decode cL_isSound 69 = .ok (.istore 13, 2) := by decide +kernel
theorem dL_isSound_71 : decode cL_isSound 71 = .ok (.aload_n 0, 1) := by decide +kernel
theorem dL_isSound_72 : decode cL_isSound 72 = .ok (.iload 6, 2) := by decide +kernel
theorem dL_isSound_74 : decode cL_isSound 74 = .ok (.iload 9, 2) := by decide +kernel
theorem dL_isSound_76 : decode cL_isSound 76 = .ok (.iload 12, 2) := by decide +kernel
theorem dL_isSound_78 : decode cL_isSound 78 = .ok (.iconst 2, 1) := by decide +kernel
theorem dL_isSound_79 : decode cL_isSound 79 = .ok (.invokevirtual 19, 3) := by decide +kernel
theorem dL_isSound_82 : decode cL_isSound 82 = .ok (.istore 14, 2) := by decide +kernel
theorem dL_isSound_84 : decode cL_isSound 84 = .ok (.iload 12, 2) := by decide +kernel
theorem dL_isSound_86 : decode cL_isSound 86 = .ok (.ifCond .eq 21, 3) := by decide +kernel
theorem dL_isSound_89 : decode cL_isSound 89 = .ok (.iload 13, 2) := by decide +kernel
theorem dL_isSound_91 : decode cL_isSound 91 = .ok (.aload_n 0, 1) := by decide +kernel
theorem dL_isSound_92 : decode cL_isSound 92 = .ok (.iload 6, 2) := by decide +kernel
theorem dL_isSound_94 : decode cL_isSound 94 = .ok (.iload 9, 2) := by decide +kernel
theorem dL_isSound_96 : decode cL_isSound 96 = .ok (.iload 12, 2) := by decide +kernel
theorem dL_isSound_98 : decode cL_isSound 98 = .ok (.iconst 1, 1) := by decide +kernel
theorem dL_isSound_99 : decode cL_isSound 99 = .ok (.isub, 1) := by decide +kernel
theorem dL_isSound_100 : decode cL_isSound 100 = .ok (.iconst 0, 1) := by decide +kernel
theorem dL_isSound_101 : decode cL_isSound 101 = .ok (.invokevirtual 19, 3) := by decide +kernel
theorem dL_isSound_104 : decode cL_isSound 104 = .ok (.if_icmp .eq 7, 3) := by decide +kernel
theorem dL_isSound_107 : decode cL_isSound 107 = .ok (.iconst 1, 1) := by decide +kernel
theorem dL_isSound_108 : decode cL_isSound 108 = .ok (.goto 4, 3) := by decide +kernel
theorem dL_isSound_111 : decode cL_isSound 111 = .ok (.iconst 0, 1) := by decide +kernel
theorem dL_isSound_112 : decode cL_isSound 112 = .ok (.istore 15, 2) := by decide +kernel
theorem dL_isSound_114 : decode cL_isSound 114 = .ok (.iload 11, 2) := by decide +kernel
theorem dL_isSound_116 : decode cL_isSound 116 = .ok (.iload 15, 2) := by decide +kernel
theorem dL_isSound_118 : decode cL_isSound 118 = .ok (.ifCond .eq 7, 3) := by decide +kernel
theorem dL_isSound_121 : decode cL_isSound 121 = .ok (.iconst 1, 1) := by decide +kernel
theorem dL_isSound_122 : decode cL_isSound 122 = .ok (.goto 4, 3) := by decide +kernel
theorem dL_isSound_125 : decode cL_isSound 125 = .ok (.iconst 0, 1) := by decide +kernel
theorem dL_isSound_126 : decode cL_isSound 126 = .ok (.iadd, 1) := by decide +kernel
theorem dL_isSound_127 : decode cL_isSound 127 = .ok (.istore 11, 2) := by decide +kernel
theorem dL_isSound_129 : decode cL_isSound 129 = .ok (.iload 5, 2) := by decide +kernel
theorem dL_isSound_131 : decode cL_isSound 131 = .ok (.iload 14, 2) := by decide +kernel
theorem dL_isSound_133 : decode cL_isSound 133 = .ok (.ifCond .ge 7, 3) := by decide +kernel
theorem dL_isSound_136 : decode cL_isSound 136 = .ok (.iconst 1, 1) := by decide +kernel
theorem dL_isSound_137 : decode cL_isSound 137 = .ok (.goto 4, 3) := by decide +kernel
theorem dL_isSound_140 : decode cL_isSound 140 = .ok (.iconst 0, 1) := by decide +kernel
theorem dL_isSound_141 : decode cL_isSound 141 = .ok (.iadd, 1) := by decide +kernel
theorem dL_isSound_142 : decode cL_isSound 142 = .ok (.istore 5, 2) := by decide +kernel
theorem dL_isSound_144 : decode cL_isSound 144 = .ok (.iload 12, 2) := by decide +kernel
theorem dL_isSound_146 : decode cL_isSound 146 = .ok (.ifCond .le 53, 3) := by decide +kernel
theorem dL_isSound_149 : decode cL_isSound 149 = .ok (.iload 13, 2) := by decide +kernel
theorem dL_isSound_151 : decode cL_isSound 151 = .ok (.aload_n 0, 1) := by decide +kernel
theorem dL_isSound_152 : decode cL_isSound 152 = .ok (.iload 6, 2) := by decide +kernel
theorem dL_isSound_154 : decode cL_isSound 154 = .ok (.iload 9, 2) := by decide +kernel
theorem dL_isSound_156 : decode cL_isSound 156 = .ok (.iload 12, 2) := by decide +kernel
theorem dL_isSound_158 : decode cL_isSound 158 = .ok (.iconst 1, 1) := by decide +kernel
theorem dL_isSound_159 : decode cL_isSound 159 = .ok (.isub, 1) := by decide +kernel
theorem dL_isSound_160 : decode cL_isSound 160 = .ok (.iconst 0, 1) := by decide +kernel
theorem dL_isSound_161 : decode cL_isSound 161 = .ok (.invokevirtual 19, 3) := by decide +kernel
theorem dL_isSound_164 : decode cL_isSound 164 = .ok (.if_icmp .lt 73, 3) := by decide +kernel
theorem dL_isSound_167 : decode cL_isSound 167 = .ok (.iload 15, 2) := by decide +kernel
theorem dL_isSound_169 : decode cL_isSound 169 = .ok (.ifCond .ne 30, 3) := by decide +kernel
theorem dL_isSound_172 : decode cL_isSound 172 = .ok (.aload_n 0, 1) := by decide +kernel
theorem dL_isSound_173 : decode cL_isSound 173 = .ok (.iload 6, 2) := by decide +kernel
theorem dL_isSound_175 : decode cL_isSound 175 = .ok (.iload 9, 2) := by decide +kernel
theorem dL_isSound_177 : decode cL_isSound 177 = .ok (.iload 12, 2) := by decide +kernel
theorem dL_isSound_179 : decode cL_isSound 179 = .ok (.iconst 1, 1) := by decide +kernel
theorem dL_isSound_180 : decode cL_isSound 180 = .ok (.invokevirtual 19, 3) := by decide +kernel
theorem dL_isSound_183 : decode cL_isSound 183 = .ok (.aload_n 0, 1) := by decide +kernel
theorem dL_isSound_184 : decode cL_isSound 184 = .ok (.iload 6, 2) := by decide +kernel
theorem dL_isSound_186 : decode cL_isSound 186 = .ok (.iload 9, 2) := by decide +kernel
theorem dL_isSound_188 : decode cL_isSound 188 = .ok (.iload 12, 2) := by decide +kernel
theorem dL_isSound_190 : decode cL_isSound 190 = .ok (.iconst 1, 1) := by decide +kernel
theorem dL_isSound_191 : decode cL_isSound 191 = .ok (.isub, 1) := by decide +kernel
theorem dL_isSound_192 : decode cL_isSound 192 = .ok (.iconst 1, 1) := by decide +kernel
theorem dL_isSound_193 : decode cL_isSound 193 = .ok (.invokevirtual 19, 3) := by decide +kernel
theorem dL_isSound_196 : decode cL_isSound 196 = .ok (.if_icmp .ge 41, 3) := by decide +kernel
theorem dL_isSound_199 : decode cL_isSound 199 = .ok (.iload 14, 2) := by decide +kernel
theorem dL_isSound_201 : decode cL_isSound 201 = .ok (.iconst (-1), 1) := by decide +kernel
theorem dL_isSound_202 : decode cL_isSound 202 = .ok (.if_icmp .lt 35, 3) := by decide +kernel
theorem dL_isSound_205 : decode cL_isSound 205 = .ok (.aload_n 0, 1) := by decide +kernel
theorem dL_isSound_206 : decode cL_isSound 206 = .ok (.iload 6, 2) := by decide +kernel
theorem dL_isSound_208 : decode cL_isSound 208 = .ok (.iload 9, 2) := by decide +kernel
theorem dL_isSound_210 : decode cL_isSound 210 = .ok (.iload 12, 2) := by decide +kernel
theorem dL_isSound_212 : decode cL_isSound 212 = .ok (.iconst 1, 1) := by decide +kernel
theorem dL_isSound_213 : decode cL_isSound 213 = .ok (.invokevirtual 19, 3) := by decide +kernel
theorem dL_isSound_216 : decode cL_isSound 216 = .ok (.aload_n 0, 1) := by decide +kernel
theorem dL_isSound_217 : decode cL_isSound 217 = .ok (.iconst 3, 1) := by decide +kernel
theorem dL_isSound_218 : decode cL_isSound 218 = .ok (.invokevirtual 23, 3) := by decide +kernel
theorem dL_isSound_221 : decode cL_isSound 221 = .ok (.if_icmp .gt 16, 3) := by decide +kernel
theorem dL_isSound_224 : decode cL_isSound 224 = .ok (.aload_n 0, 1) := by decide +kernel
theorem dL_isSound_225 : decode cL_isSound 225 = .ok (.iload 6, 2) := by decide +kernel
theorem dL_isSound_227 : decode cL_isSound 227 = .ok (.iload 9, 2) := by decide +kernel
theorem dL_isSound_229 : decode cL_isSound 229 = .ok (.iload 13, 2) := by decide +kernel
theorem dL_isSound_231 : decode cL_isSound 231 = .ok (.invokevirtual 26, 3) := by decide +kernel
theorem dL_isSound_234 : decode cL_isSound 234 = .ok (.ifCond .ne 5, 3) := by decide +kernel
theorem dL_isSound_237 : decode cL_isSound 237 = .ok (.iconst 0, 1) := by decide +kernel
theorem dL_isSound_238 : decode cL_isSound 238 = .ok (.ireturn, 1) := by decide +kernel
theorem dL_isSound_239 : decode cL_isSound 239 = .ok (.iload_n 1, 1) := by decide +kernel
theorem dL_isSound_240 : decode cL_isSound 240 = .ok (.iconst 1, 1) := by decide +kernel
theorem dL_isSound_241 : decode cL_isSound 241 = .ok (.if_icmp .ne 22, 3) := by decide +kernel
theorem dL_isSound_244 : decode cL_isSound 244 = .ok (.iload 6, 2) := by decide +kernel
theorem dL_isSound_246 : decode cL_isSound 246 = .ok (.ifCond .le 17, 3) := by decide +kernel
theorem dL_isSound_249 : decode cL_isSound 249 = .ok (.iload 15, 2) := by decide +kernel
theorem dL_isSound_251 : decode cL_isSound 251 = .ok (.ifCond .eq 12, 3) := by decide +kernel
theorem dL_isSound_254 : decode cL_isSound 254 = .ok (.iload 13, 2) := by decide +kernel
theorem dL_isSound_256 : decode cL_isSound 256 = .ok (.iload 8, 2) := by decide +kernel
theorem dL_isSound_258 : decode cL_isSound 258 = .ok (.if_icmp .gt 5, 3) := by decide +kernel
theorem dL_isSound_261 : decode cL_isSound 261 = .ok (.iconst 0, 1) := by decide +kernel
theorem dL_isSound_262 : decode cL_isSound 262 = .ok (.ireturn, 1) := by decide +kernel
theorem dL_isSound_263 : decode cL_isSound 263 = .ok (.iload 13, 2) := by decide +kernel
theorem dL_isSound_265 : decode cL_isSound 265 = .ok (.istore 8, 2) := by decide +kernel
theorem dL_isSound_267 : decode cL_isSound 267 = .ok (.iinc 12 1, 3) := by decide +kernel
theorem dL_isSound_270 : decode cL_isSound 270 = .ok (.goto (-219), 3) := by decide +kernel
theorem dL_isSound_273 : decode cL_isSound 273 = .ok (.iload 10, 2) := by decide +kernel
theorem dL_isSound_275 : decode cL_isSound 275 = .ok (.ifCond .eq 25, 3) := by decide +kernel
theorem dL_isSound_278 : decode cL_isSound 278 = .ok (.iload_n 1, 1) := by decide +kernel
theorem dL_isSound_279 : decode cL_isSound 279 = .ok (.iconst 1, 1) := by decide +kernel
theorem dL_isSound_280 : decode cL_isSound 280 = .ok (.if_icmp .ne 22, 3) := by decide +kernel
theorem dL_isSound_283 : decode cL_isSound 283 = .ok (.iload 6, 2) := by decide +kernel
theorem dL_isSound_285 : decode cL_isSound 285 = .ok (.ifCond .le 17, 3) := by decide +kernel
theorem dL_isSound_288 : decode cL_isSound 288 = .ok (.iload 10, 2) := by decide +kernel
theorem dL_isSound_290 : decode cL_isSound 290 = .ok (.iload_n 3, 1) := by decide +kernel
theorem dL_isSound_291 : decode cL_isSound 291 = .ok (.if_icmp .le 11, 3) := by decide +kernel
theorem dL_isSound_294 : decode cL_isSound 294 = .ok (.iload 11, 2) := by decide +kernel
theorem dL_isSound_296 : decode cL_isSound 296 = .ok (.iconst 1, 1) := by decide +kernel
theorem dL_isSound_297 : decode cL_isSound 297 = .ok (.if_icmp .le 5, 3) := by decide +kernel
theorem dL_isSound_300 : decode cL_isSound 300 = .ok (.iconst 0, 1) := by decide +kernel
theorem dL_isSound_301 : decode cL_isSound 301 = .ok (.ireturn, 1) := by decide +kernel
theorem dL_isSound_302 : decode cL_isSound 302 = .ok (.iload 7, 2) := by decide +kernel
theorem dL_isSound_304 : decode cL_isSound 304 = .ok (.iload 10, 2) := by decide +kernel
theorem dL_isSound_306 : decode cL_isSound 306 = .ok (.iadd, 1) := by decide +kernel
theorem dL_isSound_307 : decode cL_isSound 307 = .ok (.istore 7, 2) := by decide +kernel
theorem dL_isSound_309 : decode cL_isSound 309 = .ok (.iinc 9 1, 3) := by decide +kernel
theorem dL_isSound_312 : decode cL_isSound 312 = .ok (.goto (-288), 3) := by decide +kernel
theorem dL_isSound_315 : decode cL_isSound 315 = .ok (.iload_n 3, 1) := by decide +kernel
theorem dL_isSound_316 : decode cL_isSound 316 = .ok (.istore 9, 2) := by decide +kernel
theorem dL_isSound_318 : decode cL_isSound 318 = .ok (.iconst 0, 1) := by decide +kernel
theorem dL_isSound_319 : decode cL_isSound 319 = .ok (.istore 10, 2) := by decide +kernel
theorem dL_isSound_321 : decode cL_isSound 321 = .ok (.iload 10, 2) := by decide +kernel
theorem dL_isSound_323 : decode cL_isSound 323 = .ok (.iload 6, 2) := by decide +kernel
theorem dL_isSound_325 : decode cL_isSound 325 = .ok (.if_icmp .ge 15, 3) := by decide +kernel
theorem dL_isSound_328 : decode cL_isSound 328 = .ok (.iload 9, 2) := by decide +kernel
theorem dL_isSound_330 : decode cL_isSound 330 = .ok (.iload_n 2, 1) := by decide +kernel
theorem dL_isSound_331 : decode cL_isSound 331 = .ok (.imul, 1) := by decide +kernel
theorem dL_isSound_332 : decode cL_isSound 332 = .ok (.istore 9, 2) := by decide +kernel
theorem dL_isSound_334 : decode cL_isSound 334 = .ok (.iinc 10 1, 3) := by decide +kernel
theorem dL_isSound_337 : decode cL_isSound 337 = .ok (.goto (-16), 3) := by decide +kernel
theorem dL_isSound_340 : decode cL_isSound 340 = .ok (.iload_n 1, 1) := by decide +kernel
theorem dL_isSound_341 : decode cL_isSound 341 = .ok (.ifCond .eq 8, 3) := by decide +kernel
theorem dL_isSound_344 : decode cL_isSound 344 = .ok (.iload 6, 2) := by decide +kernel
theorem dL_isSound_346 : decode cL_isSound 346 = .ok (.ifCond .ne 13, 3) := by decide +kernel
theorem dL_isSound_349 : decode cL_isSound 349 = .ok (.aload_n 0, 1) := by decide +kernel
theorem dL_isSound_350 : decode cL_isSound 350 = .ok (.iload 6, 2) := by decide +kernel
theorem dL_isSound_352 : decode cL_isSound 352 = .ok (.invokevirtual 9, 3) := by decide +kernel
theorem dL_isSound_355 : decode cL_isSound 355 = .ok (.iload_n 2, 1) := by decide +kernel
theorem dL_isSound_356 : decode cL_isSound 356 = .ok (.if_icmp .ge 27, 3) := by decide +kernel
theorem dL_isSound_359 : decode cL_isSound 359 = .ok (.iload_n 1, 1) := by decide +kernel
theorem dL_isSound_360 : decode cL_isSound 360 = .ok (.iconst 1, 1) := by decide +kernel
theorem dL_isSound_361 : decode cL_isSound 361 = .ok (.if_icmp .ne 24, 3) := by decide +kernel
theorem dL_isSound_364 : decode cL_isSound 364 = .ok (.iload 6, 2) := by decide +kernel
theorem dL_isSound_366 : decode cL_isSound 366 = .ok (.iconst 1, 1) := by decide +kernel
theorem dL_isSound_367 : decode cL_isSound 367 = .ok (.if_icmp .eq 9, 3) := by decide +kernel
theorem dL_isSound_370 : decode cL_isSound 370 = .ok (.iload 6, 2) := by decide +kernel
theorem dL_isSound_372 : decode cL_isSound 372 = .ok (.iconst 2, 1) := by decide +kernel
theorem dL_isSound_373 : decode cL_isSound 373 = .ok (.if_icmp .ne 12, 3) := by decide +kernel
theorem dL_isSound_376 : decode cL_isSound 376 = .ok (.iload 7, 2) := by decide +kernel
theorem dL_isSound_378 : decode cL_isSound 378 = .ok (.iload 9, 2) := by decide +kernel
theorem dL_isSound_380 : decode cL_isSound 380 = .ok (.if_icmp .le 5, 3) := by decide +kernel
theorem dL_isSound_383 : decode cL_isSound 383 = .ok (.iconst 0, 1) := by decide +kernel
theorem dL_isSound_384 : decode cL_isSound 384 = .ok (.ireturn, 1) := by decide +kernel
theorem dL_isSound_385 : decode cL_isSound 385 = .ok (.iload 4, 2) := by decide +kernel
theorem dL_isSound_387 : decode cL_isSound 387 = .ok (.iload 7, 2) := by decide +kernel
theorem dL_isSound_389 : decode cL_isSound 389 = .ok (.iadd, 1) := by decide +kernel
theorem dL_isSound_390 : decode cL_isSound 390 = .ok (.istore 4, 2) := by decide +kernel
theorem dL_isSound_392 : decode cL_isSound 392 = .ok (.iinc 6 1, 3) := by decide +kernel
theorem dL_isSound_395 : decode cL_isSound 395 = .ok (.goto (-386), 3) := by decide +kernel
theorem dL_isSound_398 : decode cL_isSound 398 = .ok (.iload 4, 2) := by decide +kernel
theorem dL_isSound_400 : decode cL_isSound 400 = .ok (.aload_n 0, 1) := by decide +kernel
theorem dL_isSound_401 : decode cL_isSound 401 = .ok (.invokevirtual 30, 3) := by decide +kernel
theorem dL_isSound_404 : decode cL_isSound 404 = .ok (.if_icmp .ne 72, 3) := by decide +kernel
theorem dL_isSound_407 : decode cL_isSound 407 = .ok (.iload 5, 2) := by decide +kernel
theorem dL_isSound_409 : decode cL_isSound 409 = .ok (.aload_n 0, 1) := by decide +kernel
theorem dL_isSound_410 : decode cL_isSound 410 = .ok (.invokevirtual 34, 3) := by decide +kernel
theorem dL_isSound_413 : decode cL_isSound 413 = .ok (.if_icmp .ne 63, 3) := by decide +kernel
theorem dL_isSound_416 : decode cL_isSound 416 = .ok (.aload_n 0, 1) := by decide +kernel
theorem dL_isSound_417 : decode cL_isSound 417 = .ok (.invokevirtual 37, 3) := by decide +kernel
theorem dL_isSound_420 : decode cL_isSound 420 = .ok (.aload_n 0, 1) := by decide +kernel
theorem dL_isSound_421 : decode cL_isSound 421 = .ok (.invokevirtual 40, 3) := by decide +kernel
theorem dL_isSound_424 : decode cL_isSound 424 = .ok (.if_icmp .gt 52, 3) := by decide +kernel
theorem dL_isSound_427 : decode cL_isSound 427 = .ok (.aload_n 0, 1) := by decide +kernel
theorem dL_isSound_428 : decode cL_isSound 428 = .ok (.invokevirtual 43, 3) := by decide +kernel
theorem dL_isSound_431 : decode cL_isSound 431 = .ok (.aload_n 0, 1) := by decide +kernel
theorem dL_isSound_432 : decode cL_isSound 432 = .ok (.invokevirtual 40, 3) := by decide +kernel
theorem dL_isSound_435 : decode cL_isSound 435 = .ok (.if_icmp .gt 41, 3) := by decide +kernel
theorem dL_isSound_438 : decode cL_isSound 438 = .ok (.aload_n 0, 1) := by decide +kernel
theorem dL_isSound_439 : decode cL_isSound 439 = .ok (.invokevirtual 40, 3) := by decide +kernel
theorem dL_isSound_442 : decode cL_isSound 442 = .ok (.bipush 40, 2) := by decide +kernel
theorem dL_isSound_444 : decode cL_isSound 444 = .ok (.if_icmp .ge 32, 3) := by decide +kernel
theorem dL_isSound_447 : decode cL_isSound 447 = .ok (.aload_n 0, 1) := by decide +kernel
theorem dL_isSound_448 : decode cL_isSound 448 = .ok (.iconst 2, 1) := by decide +kernel
theorem dL_isSound_449 : decode cL_isSound 449 = .ok (.invokevirtual 23, 3) := by decide +kernel
theorem dL_isSound_452 : decode cL_isSound 452 = .ok (.aload_n 0, 1) := by decide +kernel
theorem dL_isSound_453 : decode cL_isSound 453 = .ok (.iconst 1, 1) := by decide +kernel
theorem dL_isSound_454 : decode cL_isSound 454 = .ok (.invokevirtual 23, 3) := by decide +kernel
theorem dL_isSound_457 : decode cL_isSound 457 = .ok (.if_icmp .gt 19, 3) := by decide +kernel
theorem dL_isSound_460 : decode cL_isSound 460 = .ok (.aload_n 0, 1) := by decide +kernel
theorem dL_isSound_461 : decode cL_isSound 461 = .ok (.iconst 5, 1) := by decide +kernel
theorem dL_isSound_462 : decode cL_isSound 462 = .ok (.invokevirtual 23, 3) := by decide +kernel
theorem dL_isSound_465 : decode cL_isSound 465 = .ok (.aload_n 0, 1) := by decide +kernel
theorem dL_isSound_466 : decode cL_isSound 466 = .ok (.invokevirtual 30, 3) := by decide +kernel
theorem dL_isSound_469 : decode cL_isSound 469 = .ok (.if_icmp .lt 7, 3) := by decide +kernel
theorem dL_isSound_472 : decode cL_isSound 472 = .ok (.iconst 1, 1) := by decide +kernel
theorem dL_isSound_473 : decode cL_isSound 473 = .ok (.goto 4, 3) := by decide +kernel
theorem dL_isSound_476 : decode cL_isSound 476 = .ok (.iconst 0, 1) := by decide +kernel
theorem dL_isSound_477 : decode cL_isSound 477 = .ok (.ireturn, 1) := by decide +kernel
theorem dL_law_0 : decode cL_law 0 = .ok (.new 10, 3) := by decide +kernel
theorem dL_law_3 : decode cL_law 3 = .ok (.dup, 1) := by decide +kernel
theorem dL_law_4 : decode cL_law 4 = .ok (.invokespecial 46, 3) := by decide +kernel
theorem dL_law_7 : decode cL_law 7 = .ok (.astore_n 1, 1) := by decide +kernel
theorem dL_law_8 : decode cL_law 8 = .ok (.aload_n 0, 1) := by decide +kernel
theorem dL_law_9 : decode cL_law 9 = .ok (.iconst 0, 1) := by decide +kernel
theorem dL_law_10 : decode cL_law 10 = .ok (.invokestatic 47, 3) := by decide +kernel
theorem dL_law_13 : decode cL_law 13 = .ok (.iconst 2, 1) := by decide +kernel
theorem dL_law_14 : decode cL_law 14 = .ok (.invokestatic 53, 3) := by decide +kernel
theorem dL_law_17 : decode cL_law 17 = .ok (.istore_n 2, 1) := by decide +kernel
theorem dL_law_18 : decode cL_law 18 = .ok (.iconst 2, 1) := by decide +kernel
theorem dL_law_19 : decode cL_law 19 = .ok (.aload_n 0, 1) := by decide +kernel
theorem dL_law_20 : decode cL_law 20 = .ok (.iconst 0, 1) := by decide +kernel
theorem dL_law_21 : decode cL_law 21 = .ok (.invokestatic 47, 3) := by decide +kernel
theorem dL_law_24 : decode cL_law 24 = .ok (.iconst 2, 1) := by decide +kernel
theorem dL_law_25 : decode cL_law 25 = .ok (.ishr, 1) := by decide +kernel
theorem dL_law_26 : decode cL_law 26 = .ok (.iconst 3, 1) := by decide +kernel
theorem dL_law_27 : decode cL_law 27 = .ok (.invokestatic 53, 3) := by decide +kernel
theorem dL_law_30 : decode cL_law 30 = .ok (.iadd, 1) := by decide +kernel
theorem dL_law_31 : decode cL_law 31 = .ok (.istore_n 3, 1) := by decide +kernel
theorem dL_law_32 : decode cL_law 32 = .ok (.iconst 1, 1) := by decide +kernel
theorem dL_law_33 : decode cL_law 33 = .ok (.aload_n 0, 1) := by decide +kernel
theorem dL_law_34 : decode cL_law 34 = .ok (.iconst 0, 1) := by decide +kernel
theorem dL_law_35 : decode cL_law 35 = .ok (.invokestatic 47, 3) := by decide +kernel
theorem dL_law_38 : decode cL_law 38 = .ok (.iconst 4, 1) := by decide +kernel
theorem dL_law_39 : decode cL_law 39 = .ok (.ishr, 1) := by decide +kernel
theorem dL_law_40 : decode cL_law 40 = .ok (.bipush 6, 2) := by decide +kernel
theorem dL_law_42 : decode cL_law 42 = .ok (.invokestatic 53, 3) := by decide +kernel
theorem dL_law_45 : decode cL_law 45 = .ok (.iadd, 1) := by decide +kernel
theorem dL_law_46 : decode cL_law 46 = .ok (.istore 4, 2) := by decide +kernel
theorem dL_law_48 : decode cL_law 48 = .ok (.aload_n 1, 1) := by decide +kernel
theorem dL_law_49 : decode cL_law 49 = .ok (.iload_n 2, 1) := by decide +kernel
theorem dL_law_50 : decode cL_law 50 = .ok (.iload_n 3, 1) := by decide +kernel
theorem dL_law_51 : decode cL_law 51 = .ok (.iload 4, 2) := by decide +kernel
theorem dL_law_53 : decode cL_law 53 = .ok (.invokevirtual 56, 3) := by decide +kernel
theorem dL_law_56 : decode cL_law 56 = .ok (.pop, 1) := by decide +kernel
theorem dL_law_57 : decode cL_law 57 = .ok (.aload_n 1, 1) := by decide +kernel
theorem dL_law_58 : decode cL_law 58 = .ok (.iconst 1, 1) := by decide +kernel
theorem dL_law_59 : decode cL_law 59 = .ok (.aload_n 0, 1) := by decide +kernel
theorem dL_law_60 : decode cL_law 60 = .ok (.iconst 1, 1) := by decide +kernel
theorem dL_law_61 : decode cL_law 61 = .ok (.invokestatic 47, 3) := by decide +kernel
theorem dL_law_64 : decode cL_law 64 = .ok (.bipush 6, 2) := by decide +kernel
theorem dL_law_66 : decode cL_law 66 = .ok (.invokestatic 53, 3) := by decide +kernel
theorem dL_law_69 : decode cL_law 69 = .ok (.iadd, 1) := by decide +kernel
theorem dL_law_70 : decode cL_law 70 = .ok (.invokevirtual 60, 3) := by decide +kernel
theorem dL_law_73 : decode cL_law 73 = .ok (.pop, 1) := by decide +kernel
theorem dL_law_74 : decode cL_law 74 = .ok (.aload_n 1, 1) := by decide +kernel
theorem dL_law_75 : decode cL_law 75 = .ok (.aload_n 0, 1) := by decide +kernel
theorem dL_law_76 : decode cL_law 76 = .ok (.iconst 1, 1) := by decide +kernel
theorem dL_law_77 : decode cL_law 77 = .ok (.invokestatic 47, 3) := by decide +kernel
theorem dL_law_80 : decode cL_law 80 = .ok (.iconst 4, 1) := by decide +kernel
theorem dL_law_81 : decode cL_law 81 = .ok (.ishr, 1) := by decide +kernel
theorem dL_law_82 : decode cL_law 82 = .ok (.iconst 4, 1) := by decide +kernel
theorem dL_law_83 : decode cL_law 83 = .ok (.invokestatic 53, 3) := by decide +kernel
theorem dL_law_86 : decode cL_law 86 = .ok (.invokevirtual 63, 3) := by decide +kernel
theorem dL_law_89 : decode cL_law 89 = .ok (.pop, 1) := by decide +kernel
theorem dL_law_90 : decode cL_law 90 = .ok (.aload_n 1, 1) := by decide +kernel
theorem dL_law_91 : decode cL_law 91 = .ok (.aload_n 0, 1) := by decide +kernel
theorem dL_law_92 : decode cL_law 92 = .ok (.iconst 2, 1) := by decide +kernel
theorem dL_law_93 : decode cL_law 93 = .ok (.invokestatic 47, 3) := by decide +kernel
theorem dL_law_96 : decode cL_law 96 = .ok (.iconst 4, 1) := by decide +kernel
theorem dL_law_97 : decode cL_law 97 = .ok (.invokestatic 53, 3) := by decide +kernel
theorem dL_law_100 : decode cL_law 100 = .ok (.ifCond .ne 7, 3) := by decide +kernel
theorem dL_law_103 : decode cL_law 103 = .ok (.iconst 0, 1) := by decide +kernel
theorem dL_law_104 : decode cL_law 104 = .ok (.goto 17, 3) := by decide +kernel
theorem dL_law_107 : decode cL_law 107 = .ok (.iconst 4, 1) := by decide +kernel
theorem dL_law_108 : decode cL_law 108 = .ok (.aload_n 0, 1) := by decide +kernel
theorem dL_law_109 : decode cL_law 109 = .ok (.iconst 2, 1) := by decide +kernel
theorem dL_law_110 : decode cL_law 110 = .ok (.invokestatic 47, 3) := by decide +kernel
theorem dL_law_113 : decode cL_law 113 = .ok (.iconst 2, 1) := by decide +kernel
theorem dL_law_114 : decode cL_law 114 = .ok (.ishr, 1) := by decide +kernel
theorem dL_law_115 : decode cL_law 115 = .ok (.bipush 50, 2) := by decide +kernel
theorem dL_law_117 : decode cL_law 117 = .ok (.invokestatic 53, 3) := by decide +kernel
theorem dL_law_120 : decode cL_law 120 = .ok (.iadd, 1) := by decide +kernel
theorem dL_law_121 : decode cL_law 121 = .ok (.iconst 1, 1) := by decide +kernel
theorem dL_law_122 : decode cL_law 122 = .ok (.aload_n 0, 1) := by decide +kernel
theorem dL_law_123 : decode cL_law 123 = .ok (.iconst 2, 1) := by decide +kernel
theorem dL_law_124 : decode cL_law 124 = .ok (.invokestatic 47, 3) := by decide +kernel
theorem dL_law_127 : decode cL_law 127 = .ok (.iconst 5, 1) := by decide +kernel
theorem dL_law_128 : decode cL_law 128 = .ok (.ishr, 1) := by decide +kernel
theorem dL_law_129 : decode cL_law 129 = .ok (.iconst 3, 1) := by decide +kernel
theorem dL_law_130 : decode cL_law 130 = .ok (.invokestatic 53, 3) := by decide +kernel
theorem dL_law_133 : decode cL_law 133 = .ok (.iadd, 1) := by decide +kernel
theorem dL_law_134 : decode cL_law 134 = .ok (.invokevirtual 66, 3) := by decide +kernel
theorem dL_law_137 : decode cL_law 137 = .ok (.pop, 1) := by decide +kernel
theorem dL_law_138 : decode cL_law 138 = .ok (.iconst 2, 1) := by decide +kernel
theorem dL_law_139 : decode cL_law 139 = .ok (.aload_n 0, 1) := by decide +kernel
theorem dL_law_140 : decode cL_law 140 = .ok (.iconst 3, 1) := by decide +kernel
theorem dL_law_141 : decode cL_law 141 = .ok (.invokestatic 47, 3) := by decide +kernel
theorem dL_law_144 : decode cL_law 144 = .ok (.bipush 30, 2) := by decide +kernel
theorem dL_law_146 : decode cL_law 146 = .ok (.invokestatic 53, 3) := by decide +kernel
theorem dL_law_149 : decode cL_law 149 = .ok (.iadd, 1) := by decide +kernel
theorem dL_law_150 : decode cL_law 150 = .ok (.istore 5, 2) := by decide +kernel
theorem dL_law_152 : decode cL_law 152 = .ok (.iconst (-1), 1) := by decide +kernel
theorem dL_law_153 : decode cL_law 153 = .ok (.istore 6, 2) := by decide +kernel
theorem dL_law_155 : decode cL_law 155 = .ok (.iload 5, 2) := by decide +kernel
theorem dL_law_157 : decode cL_law 157 = .ok (.newarray .int, 2) := by decide +kernel
theorem dL_law_159 : decode cL_law 159 = .ok (.astore 7, 2) := by decide +kernel
theorem dL_law_161 : decode cL_law 161 = .ok (.iconst 0, 1) := by decide +kernel
theorem dL_law_162 : decode cL_law 162 = .ok (.istore 8, 2) := by decide +kernel
theorem dL_law_164 : decode cL_law 164 = .ok (.iload 8, 2) := by decide +kernel
theorem dL_law_166 : decode cL_law 166 = .ok (.bipush 50, 2) := by decide +kernel
theorem dL_law_168 : decode cL_law 168 = .ok (.if_icmp .ge 470, 3) := by decide +kernel
theorem dL_law_171 : decode cL_law 171 = .ok (.aload_n 0, 1) := by decide +kernel
theorem dL_law_172 : decode cL_law 172 = .ok (.iload 8, 2) := by decide +kernel
theorem dL_law_174 : decode cL_law 174 = .ok (.bipush 16, 2) := by decide +kernel
theorem dL_law_176 : decode cL_law 176 = .ok (.irem, 1) := by decide +kernel
theorem dL_law_177 : decode cL_law 177 = .ok (.invokestatic 47, 3) := by decide +kernel
theorem dL_law_180 : decode cL_law 180 = .ok (.iload 8, 2) := by decide +kernel
theorem dL_law_182 : decode cL_law 182 = .ok (.bipush 16, 2) := by decide +kernel
theorem dL_law_184 : decode cL_law 184 = .ok (.idiv, 1) := by decide +kernel
theorem dL_law_185 : decode cL_law 185 = .ok (.iconst 4, 1) := by decide +kernel
theorem dL_law_186 : decode cL_law 186 = .ok (.imul, 1) := by decide +kernel
theorem dL_law_187 : decode cL_law 187 = .ok (.ishr, 1) := by decide +kernel
theorem dL_law_188 : decode cL_law 188 = .ok (.iload 8, 2) := by decide +kernel
theorem dL_law_190 : decode cL_law 190 = .ok (.iadd, 1) := by decide +kernel
theorem dL_law_191 : decode cL_law 191 = .ok (.istore 9, 2) := by decide +kernel
theorem dL_law_193 : decode cL_law 193 = .ok (.iload 9, 2) := by decide +kernel
theorem dL_law_195 : decode cL_law 195 = .ok (.iconst 2, 1) := by decide +kernel
theorem dL_law_196 : decode cL_law 196 = .ok (.ishr, 1) := by decide +kernel
theorem dL_law_197 : decode cL_law 197 = .ok (.iload 5, 2) := by decide +kernel
theorem dL_law_199 : decode cL_law 199 = .ok (.invokestatic 53, 3) := by decide +kernel
theorem dL_law_202 : decode cL_law 202 = .ok (.istore 10, 2) := by decide +kernel
theorem dL_law_204 : decode cL_law 204 = .ok (.iload 9, 2) := by decide +kernel
theorem dL_law_206 : decode cL_law 206 = .ok (.bipush 11, 2) := by decide +kernel
theorem dL_law_208 : decode cL_law 208 = .ok (.invokestatic 53, 3) := by decide +kernel
theorem dL_law_211 : decode cL_law 211 = .ok (.istore 11, 2) := by decide +kernel
theorem dL_law_213 : decode cL_law 213 = .ok (.iload 11, 2) := by decide +kernel
theorem dL_law_215 : decode cL_law 215 = .ok (.bipush 6, 2) := by decide +kernel
theorem dL_law_217 : decode cL_law 217 = .ok (.if_icmp .ge 23, 3) := by decide +kernel
theorem dL_law_220 : decode cL_law 220 = .ok (.aload_n 1, 1) := by decide +kernel
theorem dL_law_221 : decode cL_law 221 = .ok (.iload 10, 2) := by decide +kernel
theorem dL_law_223 : decode cL_law 223 = .ok (.iload 9, 2) := by decide +kernel
theorem dL_law_225 : decode cL_law 225 = .ok (.iconst 4, 1) := by decide +kernel
theorem dL_law_226 : decode cL_law 226 = .ok (.ishr, 1) := by decide +kernel
theorem dL_law_227 : decode cL_law 227 = .ok (.sipush 10000, 3) := by decide +kernel
theorem dL_law_230 : decode cL_law 230 = .ok (.invokestatic 53, 3) := by decide +kernel
theorem dL_law_233 : decode cL_law 233 = .ok (.invokevirtual 69, 3) := by decide +kernel
theorem dL_law_236 : decode cL_law 236 = .ok (.pop, 1) := by decide +kernel
theorem dL_law_237 : decode cL_law 237 = .ok (.goto 32, 3) := by decide +kernel
theorem dL_law_240 : decode cL_law 240 = .ok (.iload 11, 2) := by decide +kernel
theorem dL_law_242 : decode cL_law 242 = .ok (.bipush 8, 2) := by decide +kernel
theorem dL_law_244 : decode cL_law 244 = .ok (.if_icmp .ge 13, 3) := by decide +kernel
theorem dL_law_247 : decode cL_law 247 = .ok (.aload_n 1, 1) := by decide +kernel
theorem dL_law_248 : decode cL_law 248 = .ok (.iload 10, 2) := by decide +kernel
theorem dL_law_250 : decode cL_law 250 = .ok (.invokevirtual 72, 3) := by decide +kernel
theorem dL_law_253 : decode cL_law 253 = .ok (.pop, 1) := by decide +kernel
theorem dL_law_254 : decode cL_law 254 = .ok (.goto 15, 3) := by decide +kernel
theorem dL_law_257 : decode cL_law 257 = .ok (.iload 11, 2) := by decide +kernel
theorem dL_law_259 : decode cL_law 259 = .ok (.bipush 8, 2) := by decide +kernel
theorem dL_law_261 : decode cL_law 261 = .ok (.if_icmp .ne 8, 3) := by decide +kernel
theorem dL_law_264 : decode cL_law 264 = .ok (.aload_n 1, 1) := by decide +kernel
theorem dL_law_265 : decode cL_law 265 = .ok (.invokevirtual 75, 3) := by decide +kernel
theorem dL_law_268 : decode cL_law 268 = .ok (.pop, 1) := by decide +kernel
theorem dL_law_269 : decode cL_law 269 = .ok (.iload 11, 2) := by decide +kernel
theorem dL_law_271 : decode cL_law 271 = .ok (.bipush 9, 2) := by decide +kernel
theorem dL_law_273 : decode cL_law 273 = .ok (.if_icmp .ne 44, 3) := by decide +kernel
theorem dL_law_276 : decode cL_law 276 = .ok (.iload 6, 2) := by decide +kernel
theorem dL_law_278 : decode cL_law 278 = .ok (.ifCond .ge 39, 3) := by decide +kernel
theorem dL_law_281 : decode cL_law 281 = .ok (.aload_n 1, 1) := by decide +kernel
theorem dL_law_282 : decode cL_law 282 = .ok (.invokevirtual 78, 3) := by decide +kernel
theorem dL_law_285 : decode cL_law 285 = .ok (.istore 6, 2) := by decide +kernel
theorem dL_law_287 : decode cL_law 287 = .ok (.iconst 0, 1) := by decide +kernel
theorem dL_law_288 : decode cL_law 288 = .ok (.istore 12, 2) := by decide +kernel
theorem dL_law_290 : decode cL_law 290 = .ok (.iload 12, 2) := by decide +kernel
theorem dL_law_292 : decode cL_law 292 = .ok (.iload 5, 2) := by decide +kernel
theorem dL_law_294 : decode cL_law 294 = .ok (.if_icmp .ge 20, 3) := by decide +kernel
theorem dL_law_297 : decode cL_law 297 = .ok (.aload 7, 2) := by decide +kernel
theorem dL_law_299 : decode cL_law 299 = .ok (.iload 12, 2) := by decide +kernel
theorem dL_law_301 : decode cL_law 301 = .ok (.aload_n 1, 1) := by decide +kernel
theorem dL_law_302 : decode cL_law 302 = .ok (.iload 12, 2) := by decide +kernel
theorem dL_law_304 : decode cL_law 304 = .ok (.invokevirtual 81, 3) := by decide +kernel
theorem dL_law_307 : decode cL_law 307 = .ok (.iastore, 1) := by decide +kernel
theorem dL_law_308 : decode cL_law 308 = .ok (.iinc 12 1, 3) := by decide +kernel
theorem dL_law_311 : decode cL_law 311 = .ok (.goto (-21), 3) := by decide +kernel
theorem dL_law_314 : decode cL_law 314 = .ok (.goto 54, 3) := by decide +kernel
theorem dL_law_317 : decode cL_law 317 = .ok (.iload 11, 2) := by decide +kernel
theorem dL_law_319 : decode cL_law 319 = .ok (.bipush 9, 2) := by decide +kernel
theorem dL_law_321 : decode cL_law 321 = .ok (.if_icmp .ne 47, 3) := by decide +kernel
theorem dL_law_324 : decode cL_law 324 = .ok (.iconst 0, 1) := by decide +kernel
theorem dL_law_325 : decode cL_law 325 = .ok (.istore 12, 2) := by decide +kernel
theorem dL_law_327 : decode cL_law 327 = .ok (.iload 12, 2) := by decide +kernel
theorem dL_law_329 : decode cL_law 329 = .ok (.iload 5, 2) := by decide +kernel
theorem dL_law_331 : decode cL_law 331 = .ok (.if_icmp .ge 27, 3) := by decide +kernel
theorem dL_law_334 : decode cL_law 334 = .ok (.aload_n 1, 1) := by decide +kernel
theorem dL_law_335 : decode cL_law 335 = .ok (.iload 6, 2) := by decide +kernel
theorem dL_law_337 : decode cL_law 337 = .ok (.iload 12, 2) := by decide +kernel
theorem dL_law_339 : decode cL_law 339 = .ok (.invokevirtual 84, 3) := by decide +kernel
theorem dL_law_342 : decode cL_law 342 = .ok (.aload 7, 2) := by decide +kernel
theorem dL_law_344 : decode cL_law 344 = .ok (.iload 12, 2) := by decide +kernel
theorem dL_law_346 : decode cL_law 346 = .ok (.iaload, 1) := by decide +kernel
theorem dL_law_347 : decode cL_law 347 = .ok (.if_icmp .eq 5, 3) := by decide +kernel
theorem dL_law_350 : decode cL_law 350 = .ok (.iconst 0, 1) := by decide +kernel
theorem dL_law_351 : decode cL_law 351 = .ok (.ireturn, 1) := by decide +kernel
theorem dL_law_352 : decode cL_law 352 = .ok (.iinc 12 1, 3) := by decide +kernel
theorem dL_law_355 : decode cL_law 355 = .ok (.goto (-28), 3) := by decide +kernel
theorem dL_law_358 : decode cL_law 358 = .ok (.aload_n 1, 1) := by decide +kernel
theorem dL_law_359 : decode cL_law 359 = .ok (.iload 6, 2) := by decide +kernel
theorem dL_law_361 : decode cL_law 361 = .ok (.invokevirtual 87, 3) := by decide +kernel
theorem dL_law_364 : decode cL_law 364 = .ok (.pop, 1) := by decide +kernel
theorem dL_law_365 : decode cL_law 365 = .ok (.iconst (-1), 1) := by decide +kernel
theorem dL_law_366 : decode cL_law 366 = .ok (.istore 6, 2) := by decide +kernel
theorem dL_law_368 : decode cL_law 368 = .ok (.iload 11, 2) := by decide +kernel
theorem dL_law_370 : decode cL_law 370 = .ok (.bipush 10, 2) := by decide +kernel
theorem dL_law_372 : decode cL_law 372 = .ok (.if_icmp .ne 76, 3) := by decide +kernel
theorem dL_law_375 : decode cL_law 375 = .ok (.iload 5, 2) := by decide +kernel
theorem dL_law_377 : decode cL_law 377 = .ok (.newarray .int, 2) := by decide +kernel
theorem dL_law_379 : decode cL_law 379 = .ok (.astore 12, 2) := by decide +kernel
theorem dL_law_381 : decode cL_law 381 = .ok (.iconst 0, 1) := by decide +kernel
theorem dL_law_382 : decode cL_law 382 = .ok (.istore 13, 2) := by decide +kernel
theorem dL_law_384 : decode cL_law 384 = .ok (.iload 13, 2) := by decide +kernel
theorem dL_law_386 : decode cL_law 386 = .ok (.iload 5, 2) := by decide +kernel
theorem dL_law_388 : decode cL_law 388 = .ok (.if_icmp .ge 20, 3) := by decide +kernel
theorem dL_law_391 : decode cL_law 391 = .ok (.aload 12, 2) := by decide +kernel
theorem dL_law_393 : decode cL_law 393 = .ok (.iload 13, 2) := by decide +kernel
theorem dL_law_395 : decode cL_law 395 = .ok (.aload_n 1, 1) := by decide +kernel
theorem dL_law_396 : decode cL_law 396 = .ok (.iload 13, 2) := by decide +kernel
theorem dL_law_398 : decode cL_law 398 = .ok (.invokevirtual 90, 3) := by decide +kernel
theorem dL_law_401 : decode cL_law 401 = .ok (.iastore, 1) := by decide +kernel
theorem dL_law_402 : decode cL_law 402 = .ok (.iinc 13 1, 3) := by decide +kernel
theorem dL_law_405 : decode cL_law 405 = .ok (.goto (-21), 3) := by decide +kernel
theorem dL_law_408 : decode cL_law 408 = .ok (.aload_n 1, 1) := by decide +kernel
theorem dL_law_409 : decode cL_law 409 = .ok (.invokevirtual 93, 3) := by decide +kernel
theorem dL_law_412 : decode cL_law 412 = .ok (.pop, 1) := by decide +kernel
theorem dL_law_413 : decode cL_law 413 = .ok (.iconst 0, 1) := by decide +kernel
theorem dL_law_414 : decode cL_law 414 = .ok (.istore 13, 2) := by decide +kernel
theorem dL_law_416 : decode cL_law 416 = .ok (.iload 13, 2) := by decide +kernel
theorem dL_law_418 : decode cL_law 418 = .ok (.iload 5, 2) := by decide +kernel
theorem dL_law_420 : decode cL_law 420 = .ok (.if_icmp .ge 25, 3) := by decide +kernel
theorem dL_law_423 : decode cL_law 423 = .ok (.aload_n 1, 1) := by decide +kernel
theorem dL_law_424 : decode cL_law 424 = .ok (.iload 13, 2) := by decide +kernel
theorem dL_law_426 : decode cL_law 426 = .ok (.invokevirtual 81, 3) := by decide +kernel
theorem dL_law_429 : decode cL_law 429 = .ok (.aload 12, 2) := by decide +kernel
theorem dL_law_431 : decode cL_law 431 = .ok (.iload 13, 2) := by decide +kernel
theorem dL_law_433 : decode cL_law 433 = .ok (.iaload, 1) := by decide +kernel
theorem dL_law_434 : decode cL_law 434 = .ok (.if_icmp .eq 5, 3) := by decide +kernel
theorem dL_law_437 : decode cL_law 437 = .ok (.iconst 0, 1) := by decide +kernel
theorem dL_law_438 : decode cL_law 438 = .ok (.ireturn, 1) := by decide +kernel
theorem dL_law_439 : decode cL_law 439 = .ok (.iinc 13 1, 3) := by decide +kernel
theorem dL_law_442 : decode cL_law 442 = .ok (.goto (-26), 3) := by decide +kernel
theorem dL_law_445 : decode cL_law 445 = .ok (.iconst (-1), 1) := by decide +kernel
theorem dL_law_446 : decode cL_law 446 = .ok (.istore 6, 2) := by decide +kernel
theorem dL_law_448 : decode cL_law 448 = .ok (.iload 9, 2) := by decide +kernel
theorem dL_law_450 : decode cL_law 450 = .ok (.iconst 3, 1) := by decide +kernel
theorem dL_law_451 : decode cL_law 451 = .ok (.ishr, 1) := by decide +kernel
theorem dL_law_452 : decode cL_law 452 = .ok (.iconst 4, 1) := by decide +kernel
theorem dL_law_453 : decode cL_law 453 = .ok (.invokestatic 53, 3) := by decide +kernel
theorem dL_law_456 : decode cL_law 456 = .ok (.istore 12, 2) := by decide +kernel
theorem dL_law_458 : decode cL_law 458 = .ok (.aload_n 1, 1) := by decide +kernel
theorem dL_law_459 : decode cL_law 459 = .ok (.invokevirtual 96, 3) := by decide +kernel
theorem dL_law_462 : decode cL_law 462 = .ok (.lstore 13, 2) := by decide +kernel
theorem dL_law_464 : decode cL_law 464 = .ok (.aload_n 1, 1) := by decide +kernel
theorem dL_law_465 : decode cL_law 465 = .ok (.iload 12, 2) := by decide +kernel
theorem dL_law_467 : decode cL_law 467 = .ok (.invokevirtual 100, 3) := by decide +kernel
theorem dL_law_470 : decode cL_law 470 = .ok (.istore 15, 2) := by decide +kernel
theorem dL_law_472 : decode cL_law 472 = .ok (.aload_n 1, 1) := by decide +kernel
theorem dL_law_473 : decode cL_law 473 = .ok (.invokevirtual 30, 3) := by decide +kernel
theorem dL_law_476 : decode cL_law 476 = .ok (.istore 16, 2) := by decide +kernel
theorem dL_law_478 : decode cL_law 478 = .ok (.aload_n 1, 1) := by decide +kernel
theorem dL_law_479 : decode cL_law 479 = .ok (.invokevirtual 103, 3) := by decide +kernel
theorem dL_law_482 : decode cL_law 482 = .ok (.istore 17, 2) := by decide +kernel
theorem dL_law_484 : decode cL_law 484 = .ok (.aload_n 1, 1) := by decide +kernel
theorem dL_law_485 : decode cL_law 485 = .ok (.iconst 0, 1) := by decide +kernel
theorem dL_law_486 : decode cL_law 486 = .ok (.sipush 9999, 3) := by decide +kernel
theorem dL_law_489 : decode cL_law 489 = .ok (.invokevirtual 106, 3) := by decide +kernel
theorem dL_law_492 : decode cL_law 492 = .ok (.istore 18, 2) := by decide +kernel
theorem dL_law_494 : decode cL_law 494 = .ok (.iload 15, 2) := by decide +kernel
theorem dL_law_496 : decode cL_law 496 = .ok (.ifCond .lt 62, 3) := by decide +kernel
theorem dL_law_499 : decode cL_law 499 = .ok (.iload 15, 2) := by decide +kernel
theorem dL_law_501 : decode cL_law 501 = .ok (.iload 16, 2) := by decide +kernel
theorem dL_law_503 : decode cL_law 503 = .ok (.if_icmp .gt 55, 3) := by decide +kernel
theorem dL_law_506 : decode cL_law 506 = .ok (.aload_n 1, 1) := by decide +kernel
theorem dL_law_507 : decode cL_law 507 = .ok (.iload 10, 2) := by decide +kernel
theorem dL_law_509 : decode cL_law 509 = .ok (.invokevirtual 109, 3) := by decide +kernel
theorem dL_law_512 : decode cL_law 512 = .ok (.aload_n 1, 1) := by decide +kernel
theorem dL_law_513 : decode cL_law 513 = .ok (.iconst 0, 1) := by decide +kernel
theorem dL_law_514 : decode cL_law 514 = .ok (.invokevirtual 9, 3) := by decide +kernel
theorem dL_law_517 : decode cL_law 517 = .ok (.aload_n 1, 1) := by decide +kernel
theorem dL_law_518 : decode cL_law 518 = .ok (.iconst 1, 1) := by decide +kernel
theorem dL_law_519 : decode cL_law 519 = .ok (.invokevirtual 9, 3) := by decide +kernel
theorem dL_law_522 : decode cL_law 522 = .ok (.iadd, 1) := by decide +kernel
theorem dL_law_523 : decode cL_law 523 = .ok (.aload_n 1, 1) := by decide +kernel
theorem dL_law_524 : decode cL_law 524 = .ok (.iconst 2, 1) := by decide +kernel
theorem dL_law_525 : decode cL_law 525 = .ok (.invokevirtual 9, 3) := by decide +kernel
theorem dL_law_528 : decode cL_law 528 = .ok (.iadd, 1) := by decide +kernel
theorem dL_law_529 : decode cL_law 529 = .ok (.aload_n 1, 1) := by decide +kernel
theorem dL_law_530 : decode cL_law 530 = .ok (.iconst 3, 1) := by decide +kernel
theorem dL_law_531 : decode cL_law 531 = .ok (.invokevirtual 9, 3) := by decide +kernel
theorem dL_law_534 : decode cL_law 534 = .ok (.iadd, 1) := by decide +kernel
theorem dL_law_535 : decode cL_law 535 = .ok (.if_icmp .gt 23, 3) := by decide +kernel
theorem dL_law_538 : decode cL_law 538 = .ok (.aload_n 1, 1) := by decide +kernel
theorem dL_law_539 : decode cL_law 539 = .ok (.iconst (-1), 1) := by decide +kernel
theorem dL_law_540 : decode cL_law 540 = .ok (.invokevirtual 112, 3) := by decide +kernel
theorem dL_law_543 : decode cL_law 543 = .ok (.iload 5, 2) := by decide +kernel
theorem dL_law_545 : decode cL_law 545 = .ok (.if_icmp .ge 13, 3) := by decide +kernel
theorem dL_law_548 : decode cL_law 548 = .ok (.aload_n 1, 1) := by decide +kernel
theorem dL_law_549 : decode cL_law 549 = .ok (.invokevirtual 96, 3) := by decide +kernel
theorem dL_law_552 : decode cL_law 552 = .ok (.lload 13, 2) := by decide +kernel
theorem dL_law_554 : decode cL_law 554 = .ok (.lcmp, 1) := by decide +kernel
theorem dL_law_555 : decode cL_law 555 = .ok (.ifCond .eq 5, 3) := by decide +kernel
theorem dL_law_558 : decode cL_law 558 = .ok (.iconst 0, 1) := by decide +kernel
theorem dL_law_559 : decode cL_law 559 = .ok (.ireturn, 1) := by decide +kernel
theorem dL_law_560 : decode cL_law 560 = .ok (.iload 9, 2) := by decide +kernel
theorem dL_law_562 : decode cL_law 562 = .ok (.iconst 5, 1) := by decide +kernel
theorem dL_law_563 : decode cL_law 563 = .ok (.ishr, 1) := by decide +kernel
theorem dL_law_564 : decode cL_law 564 = .ok (.bipush 6, 2) := by decide +kernel
theorem dL_law_566 : decode cL_law 566 = .ok (.invokestatic 53, 3) := by decide +kernel
theorem dL_law_569 : decode cL_law 569 = .ok (.ifCond .ne 50, 3) := by decide +kernel
theorem dL_law_572 : decode cL_law 572 = .ok (.aload_n 1, 1) := by decide +kernel
theorem dL_law_573 : decode cL_law 573 = .ok (.iload 12, 2) := by decide +kernel
theorem dL_law_575 : decode cL_law 575 = .ok (.invokevirtual 115, 3) := by decide +kernel
theorem dL_law_578 : decode cL_law 578 = .ok (.iload 15, 2) := by decide +kernel
theorem dL_law_580 : decode cL_law 580 = .ok (.if_icmp .ne 37, 3) := by decide +kernel
theorem dL_law_583 : decode cL_law 583 = .ok (.aload_n 1, 1) := by decide +kernel
theorem dL_law_584 : decode cL_law 584 = .ok (.invokevirtual 30, 3) := by decide +kernel
theorem dL_law_587 : decode cL_law 587 = .ok (.iload 16, 2) := by decide +kernel
theorem dL_law_589 : decode cL_law 589 = .ok (.iload 15, 2) := by decide +kernel
theorem dL_law_591 : decode cL_law 591 = .ok (.isub, 1) := by decide +kernel
theorem dL_law_592 : decode cL_law 592 = .ok (.if_icmp .ne 25, 3) := by decide +kernel
theorem dL_law_595 : decode cL_law 595 = .ok (.aload_n 1, 1) := by decide +kernel
theorem dL_law_596 : decode cL_law 596 = .ok (.invokevirtual 103, 3) := by decide +kernel
theorem dL_law_599 : decode cL_law 599 = .ok (.iload 17, 2) := by decide +kernel
theorem dL_law_601 : decode cL_law 601 = .ok (.if_icmp .ne 16, 3) := by decide +kernel
theorem dL_law_604 : decode cL_law 604 = .ok (.aload_n 1, 1) := by decide +kernel
theorem dL_law_605 : decode cL_law 605 = .ok (.iconst 0, 1) := by decide +kernel
theorem dL_law_606 : decode cL_law 606 = .ok (.sipush 9999, 3) := by decide +kernel
theorem dL_law_609 : decode cL_law 609 = .ok (.invokevirtual 106, 3) := by decide +kernel
theorem dL_law_612 : decode cL_law 612 = .ok (.iload 18, 2) := by decide +kernel
theorem dL_law_614 : decode cL_law 614 = .ok (.if_icmp .eq 5, 3) := by decide +kernel
theorem dL_law_617 : decode cL_law 617 = .ok (.iconst 0, 1) := by decide +kernel
theorem dL_law_618 : decode cL_law 618 = .ok (.ireturn, 1) := by decide +kernel
theorem dL_law_619 : decode cL_law 619 = .ok (.aload_n 1, 1) := by decide +kernel
theorem dL_law_620 : decode cL_law 620 = .ok (.iload_n 2, 1) := by decide +kernel
theorem dL_law_621 : decode cL_law 621 = .ok (.iload_n 3, 1) := by decide +kernel
theorem dL_law_622 : decode cL_law 622 = .ok (.iload 4, 2) := by decide +kernel
theorem dL_law_624 : decode cL_law 624 = .ok (.invokestatic 118, 3) := by decide +kernel
theorem dL_law_627 : decode cL_law 627 = .ok (.ifCond .ne 5, 3) := by decide +kernel
theorem dL_law_630 : decode cL_law 630 = .ok (.iconst 0, 1) := by decide +kernel
theorem dL_law_631 : decode cL_law 631 = .ok (.ireturn, 1) := by decide +kernel
theorem dL_law_632 : decode cL_law 632 = .ok (.iinc 8 1, 3) := by decide +kernel
theorem dL_law_635 : decode cL_law 635 = .ok (.goto (-471), 3) := by decide +kernel
theorem dL_law_638 : decode cL_law 638 = .ok (.iconst 0, 1) := by decide +kernel
theorem dL_law_639 : decode cL_law 639 = .ok (.istore 8, 2) := by decide +kernel
theorem dL_law_641 : decode cL_law 641 = .ok (.aload_n 1, 1) := by decide +kernel
theorem dL_law_642 : decode cL_law 642 = .ok (.iconst (-1), 1) := by decide +kernel
theorem dL_law_643 : decode cL_law 643 = .ok (.invokevirtual 112, 3) := by decide +kernel
theorem dL_law_646 : decode cL_law 646 = .ok (.istore 9, 2) := by decide +kernel
theorem dL_law_648 : decode cL_law 648 = .ok (.iload 9, 2) := by decide +kernel
theorem dL_law_650 : decode cL_law 650 = .ok (.ifCond .lt 17, 3) := by decide +kernel
theorem dL_law_653 : decode cL_law 653 = .ok (.iinc 8 1, 3) := by decide +kernel
theorem dL_law_656 : decode cL_law 656 = .ok (.aload_n 1, 1) := by decide +kernel
theorem dL_law_657 : decode cL_law 657 = .ok (.iload 9, 2) := by decide +kernel
theorem dL_law_659 : decode cL_law 659 = .ok (.invokevirtual 112, 3) := by decide +kernel
theorem dL_law_662 : decode cL_law 662 = .ok (.istore 9, 2) := by decide +kernel
theorem dL_law_664 : decode cL_law 664 = .ok (.goto (-16), 3) := by decide +kernel
theorem dL_law_667 : decode cL_law 667 = .ok (.iload 8, 2) := by decide +kernel
theorem dL_law_669 : decode cL_law 669 = .ok (.aload_n 1, 1) := by decide +kernel
theorem dL_law_670 : decode cL_law 670 = .ok (.invokevirtual 103, 3) := by decide +kernel
theorem dL_law_673 : decode cL_law 673 = .ok (.if_icmp .ne 32, 3) := by decide +kernel
theorem dL_law_676 : decode cL_law 676 = .ok (.aload_n 1, 1) := by decide +kernel
theorem dL_law_677 : decode cL_law 677 = .ok (.invokevirtual 122, 3) := by decide +kernel
theorem dL_law_680 : decode cL_law 680 = .ok (.aload_n 1, 1) := by decide +kernel
theorem dL_law_681 : decode cL_law 681 = .ok (.iconst 3, 1) := by decide +kernel
theorem dL_law_682 : decode cL_law 682 = .ok (.invokevirtual 23, 3) := by decide +kernel
theorem dL_law_685 : decode cL_law 685 = .ok (.i2d, 1) := by decide +kernel
theorem dL_law_686 : decode cL_law 686 = .ok (.dmul, 1) := by decide +kernel
theorem dL_law_687 : decode cL_law 687 = .ok (.aload_n 1, 1) := by decide +kernel
theorem dL_law_688 : decode cL_law 688 = .ok (.iconst 5, 1) := by decide +kernel
theorem dL_law_689 : decode cL_law 689 = .ok (.invokevirtual 23, 3) := by decide +kernel
theorem dL_law_692 : decode cL_law 692 = .ok (.i2d, 1) := by decide +kernel
theorem dL_law_693 : decode cL_law 693 = .ok (.ldc2_w 126, 3) := by decide +kernel
theorem dL_law_696 : decode cL_law 696 = .ok (.dadd, 1) := by decide +kernel
theorem dL_law_697 : decode cL_law 697 = .ok (.dcmp .g, 1) := by decide +kernel
theorem dL_law_698 : decode cL_law 698 = .ok (.ifCond .gt 7, 3) := by decide +kernel
theorem dL_law_701 : decode cL_law 701 = .ok (.iconst 1, 1) := by decide +kernel
theorem dL_law_702 : decode cL_law 702 = .ok (.goto 4, 3) := by decide +kernel
theorem dL_law_705 : decode cL_law 705 = .ok (.iconst 0, 1) := by decide +kernel
theorem dL_law_706 : decode cL_law 706 = .ok (.ireturn, 1) := by decide +kernel
def cs_L : List Cond := [.code yL_below cL_below 2 (some .int), .constant RL 7 (2147483647), .code yL_cell cL_cell 2 (some .int), .constant RL 8 (790386105), .code yL_isSound cL_isSound 16 (some .boolean), .methodLink RL 9 yX6_runs, .instanceMethod yX6_runs, .selects RX6 yX6_runs yX6_runs, .methodLink RL 15 yX6_size, .instanceMethod yX6_size, .selects RX6 yX6_size yX6_size, .methodLink RL 19 yX6_entry, .instanceMethod yX6_entry, .selects RX6 yX6_entry yX6_entry, .methodLink RL 23 yX6_counted, .instanceMethod yX6_counted, .selects RX6 yX6_counted yX6_counted, .methodLink RL 26 yX6_mayHave, .instanceMethod yX6_mayHave, .selects RX6 yX6_mayHave yX6_mayHave, .methodLink RL 30 yX6_entries, .methodLink RL 34 yX6_stones, .methodLink RL 37 yX6_hand, .methodLink RL 40 yX6_log, .methodLink RL 43 yX6_unsafe, .classLink RL 10 RX6, .instantiable RX6 15, .constantDouble RL 126 (4602678819172646912), .methodLink RL 46 yX6_init, .instanceMethod yX6_init, .methodLink RL 47 yL_cell, .static yL_cell, .initialized RL, .methodLink RL 53 yL_below, .static yL_below, .methodLink RL 56 yX6_setWay, .instanceMethod yX6_setWay, .selects RX6 yX6_setWay yX6_setWay, .methodLink RL 60 yX6_setRoom, .instanceMethod yX6_setRoom, .selects RX6 yX6_setRoom yX6_setRoom, .methodLink RL 63 yX6_setEvery, .instanceMethod yX6_setEvery, .selects RX6 yX6_setEvery yX6_setEvery, .methodLink RL 66 yX6_setFilter, .instanceMethod yX6_setFilter, .selects RX6 yX6_setFilter yX6_setFilter, .methodLink RL 69 yX6_put, .instanceMethod yX6_put, .selects RX6 yX6_put yX6_put, .methodLink RL 72 yX6_remove, .instanceMethod yX6_remove, .selects RX6 yX6_remove yX6_remove, .methodLink RL 75 yX6_flush, .instanceMethod yX6_flush, .selects RX6 yX6_flush yX6_flush, .methodLink RL 78 yX6_snap, .instanceMethod yX6_snap, .selects RX6 yX6_snap yX6_snap, .methodLink RL 81 yX6_get, .instanceMethod yX6_get, .selects RX6 yX6_get yX6_get, .methodLink RL 84 yX6_getAt, .instanceMethod yX6_getAt, .selects RX6 yX6_getAt yX6_getAt, .methodLink RL 87 yX6_release, .instanceMethod yX6_release, .selects RX6 yX6_release yX6_release, .methodLink RL 90 yX6_getSafe, .instanceMethod yX6_getSafe, .selects RX6 yX6_getSafe yX6_getSafe, .methodLink RL 93 yX6_crash, .instanceMethod yX6_crash, .selects RX6 yX6_crash yX6_crash, .methodLink RL 96 yX6_digest, .instanceMethod yX6_digest, .selects RX6 yX6_digest yX6_digest, .methodLink RL 100 yX6_wouldSave, .instanceMethod yX6_wouldSave, .selects RX6 yX6_wouldSave yX6_wouldSave, .methodLink RL 103 yX6_keys, .methodLink RL 106 yX6_sum, .methodLink RL 109 yX6_cost, .instanceMethod yX6_cost, .selects RX6 yX6_cost yX6_cost, .methodLink RL 112 yX6_next, .instanceMethod yX6_next, .selects RX6 yX6_next yX6_next, .methodLink RL 115 yX6_pack, .instanceMethod yX6_pack, .selects RX6 yX6_pack yX6_pack, .methodLink RL 118 yL_isSound, .static yL_isSound, .methodLink RL 122 yX6_amplification, .instanceMethod yX6_amplification, .selects RX6 yX6_amplification yX6_amplification]
def cs_WL : List Cond := cs_L ++ cs_WS
theorem ql_0 : (Cond.code yL_below cL_below 2 (some .int)) ∈ cs_WL := List.mem_append_left _ (List.mem_of_getElem? (i := 0) rfl)
theorem ql_1 : (Cond.constant RL 7 (2147483647)) ∈ cs_WL := List.mem_append_left _ (List.mem_of_getElem? (i := 1) rfl)
theorem ql_2 : (Cond.code yL_cell cL_cell 2 (some .int)) ∈ cs_WL := List.mem_append_left _ (List.mem_of_getElem? (i := 2) rfl)
theorem ql_3 : (Cond.constant RL 8 (790386105)) ∈ cs_WL := List.mem_append_left _ (List.mem_of_getElem? (i := 3) rfl)
theorem ql_4 : (Cond.code yL_isSound cL_isSound 16 (some .boolean)) ∈ cs_WL := List.mem_append_left _ (List.mem_of_getElem? (i := 4) rfl)
theorem ql_5 : (Cond.methodLink RL 9 yX6_runs) ∈ cs_WL := List.mem_append_left _ (List.mem_of_getElem? (i := 5) rfl)
theorem ql_6 : (Cond.instanceMethod yX6_runs) ∈ cs_WL := List.mem_append_left _ (List.mem_of_getElem? (i := 6) rfl)
theorem ql_7 : (Cond.selects RX6 yX6_runs yX6_runs) ∈ cs_WL := List.mem_append_left _ (List.mem_of_getElem? (i := 7) rfl)
theorem ql_8 : (Cond.methodLink RL 15 yX6_size) ∈ cs_WL := List.mem_append_left _ (List.mem_of_getElem? (i := 8) rfl)
theorem ql_9 : (Cond.instanceMethod yX6_size) ∈ cs_WL := List.mem_append_left _ (List.mem_of_getElem? (i := 9) rfl)
theorem ql_10 : (Cond.selects RX6 yX6_size yX6_size) ∈ cs_WL := List.mem_append_left _ (List.mem_of_getElem? (i := 10) rfl)
theorem ql_11 : (Cond.methodLink RL 19 yX6_entry) ∈ cs_WL := List.mem_append_left _ (List.mem_of_getElem? (i := 11) rfl)
theorem ql_12 : (Cond.instanceMethod yX6_entry) ∈ cs_WL := List.mem_append_left _ (List.mem_of_getElem? (i := 12) rfl)
theorem ql_13 : (Cond.selects RX6 yX6_entry yX6_entry) ∈ cs_WL := List.mem_append_left _ (List.mem_of_getElem? (i := 13) rfl)
theorem ql_14 : (Cond.methodLink RL 23 yX6_counted) ∈ cs_WL := List.mem_append_left _ (List.mem_of_getElem? (i := 14) rfl)
theorem ql_15 : (Cond.instanceMethod yX6_counted) ∈ cs_WL := List.mem_append_left _ (List.mem_of_getElem? (i := 15) rfl)
theorem ql_16 : (Cond.selects RX6 yX6_counted yX6_counted) ∈ cs_WL := List.mem_append_left _ (List.mem_of_getElem? (i := 16) rfl)
theorem ql_17 : (Cond.methodLink RL 26 yX6_mayHave) ∈ cs_WL := List.mem_append_left _ (List.mem_of_getElem? (i := 17) rfl)
theorem ql_18 : (Cond.instanceMethod yX6_mayHave) ∈ cs_WL := List.mem_append_left _ (List.mem_of_getElem? (i := 18) rfl)
theorem ql_19 : (Cond.selects RX6 yX6_mayHave yX6_mayHave) ∈ cs_WL := List.mem_append_left _ (List.mem_of_getElem? (i := 19) rfl)
theorem ql_20 : (Cond.methodLink RL 30 yX6_entries) ∈ cs_WL := List.mem_append_left _ (List.mem_of_getElem? (i := 20) rfl)
theorem ql_21 : (Cond.methodLink RL 34 yX6_stones) ∈ cs_WL := List.mem_append_left _ (List.mem_of_getElem? (i := 21) rfl)
theorem ql_22 : (Cond.methodLink RL 37 yX6_hand) ∈ cs_WL := List.mem_append_left _ (List.mem_of_getElem? (i := 22) rfl)
theorem ql_23 : (Cond.methodLink RL 40 yX6_log) ∈ cs_WL := List.mem_append_left _ (List.mem_of_getElem? (i := 23) rfl)
theorem ql_24 : (Cond.methodLink RL 43 yX6_unsafe) ∈ cs_WL := List.mem_append_left _ (List.mem_of_getElem? (i := 24) rfl)
theorem ql_25 : (Cond.classLink RL 10 RX6) ∈ cs_WL := List.mem_append_left _ (List.mem_of_getElem? (i := 25) rfl)
theorem ql_26 : (Cond.instantiable RX6 15) ∈ cs_WL := List.mem_append_left _ (List.mem_of_getElem? (i := 26) rfl)
theorem ql_27 : (Cond.constantDouble RL 126 (4602678819172646912)) ∈ cs_WL := List.mem_append_left _ (List.mem_of_getElem? (i := 27) rfl)
theorem ql_28 : (Cond.methodLink RL 46 yX6_init) ∈ cs_WL := List.mem_append_left _ (List.mem_of_getElem? (i := 28) rfl)
theorem ql_29 : (Cond.instanceMethod yX6_init) ∈ cs_WL := List.mem_append_left _ (List.mem_of_getElem? (i := 29) rfl)
theorem ql_30 : (Cond.methodLink RL 47 yL_cell) ∈ cs_WL := List.mem_append_left _ (List.mem_of_getElem? (i := 30) rfl)
theorem ql_31 : (Cond.static yL_cell) ∈ cs_WL := List.mem_append_left _ (List.mem_of_getElem? (i := 31) rfl)
theorem ql_32 : (Cond.initialized RL) ∈ cs_WL := List.mem_append_left _ (List.mem_of_getElem? (i := 32) rfl)
theorem ql_33 : (Cond.methodLink RL 53 yL_below) ∈ cs_WL := List.mem_append_left _ (List.mem_of_getElem? (i := 33) rfl)
theorem ql_34 : (Cond.static yL_below) ∈ cs_WL := List.mem_append_left _ (List.mem_of_getElem? (i := 34) rfl)
theorem ql_35 : (Cond.methodLink RL 56 yX6_setWay) ∈ cs_WL := List.mem_append_left _ (List.mem_of_getElem? (i := 35) rfl)
theorem ql_36 : (Cond.instanceMethod yX6_setWay) ∈ cs_WL := List.mem_append_left _ (List.mem_of_getElem? (i := 36) rfl)
theorem ql_37 : (Cond.selects RX6 yX6_setWay yX6_setWay) ∈ cs_WL := List.mem_append_left _ (List.mem_of_getElem? (i := 37) rfl)
theorem ql_38 : (Cond.methodLink RL 60 yX6_setRoom) ∈ cs_WL := List.mem_append_left _ (List.mem_of_getElem? (i := 38) rfl)
theorem ql_39 : (Cond.instanceMethod yX6_setRoom) ∈ cs_WL := List.mem_append_left _ (List.mem_of_getElem? (i := 39) rfl)
theorem ql_40 : (Cond.selects RX6 yX6_setRoom yX6_setRoom) ∈ cs_WL := List.mem_append_left _ (List.mem_of_getElem? (i := 40) rfl)
theorem ql_41 : (Cond.methodLink RL 63 yX6_setEvery) ∈ cs_WL := List.mem_append_left _ (List.mem_of_getElem? (i := 41) rfl)
theorem ql_42 : (Cond.instanceMethod yX6_setEvery) ∈ cs_WL := List.mem_append_left _ (List.mem_of_getElem? (i := 42) rfl)
theorem ql_43 : (Cond.selects RX6 yX6_setEvery yX6_setEvery) ∈ cs_WL := List.mem_append_left _ (List.mem_of_getElem? (i := 43) rfl)
theorem ql_44 : (Cond.methodLink RL 66 yX6_setFilter) ∈ cs_WL := List.mem_append_left _ (List.mem_of_getElem? (i := 44) rfl)
theorem ql_45 : (Cond.instanceMethod yX6_setFilter) ∈ cs_WL := List.mem_append_left _ (List.mem_of_getElem? (i := 45) rfl)
theorem ql_46 : (Cond.selects RX6 yX6_setFilter yX6_setFilter) ∈ cs_WL := List.mem_append_left _ (List.mem_of_getElem? (i := 46) rfl)
theorem ql_47 : (Cond.methodLink RL 69 yX6_put) ∈ cs_WL := List.mem_append_left _ (List.mem_of_getElem? (i := 47) rfl)
theorem ql_48 : (Cond.instanceMethod yX6_put) ∈ cs_WL := List.mem_append_left _ (List.mem_of_getElem? (i := 48) rfl)
theorem ql_49 : (Cond.selects RX6 yX6_put yX6_put) ∈ cs_WL := List.mem_append_left _ (List.mem_of_getElem? (i := 49) rfl)
theorem ql_50 : (Cond.methodLink RL 72 yX6_remove) ∈ cs_WL := List.mem_append_left _ (List.mem_of_getElem? (i := 50) rfl)
theorem ql_51 : (Cond.instanceMethod yX6_remove) ∈ cs_WL := List.mem_append_left _ (List.mem_of_getElem? (i := 51) rfl)
theorem ql_52 : (Cond.selects RX6 yX6_remove yX6_remove) ∈ cs_WL := List.mem_append_left _ (List.mem_of_getElem? (i := 52) rfl)
theorem ql_53 : (Cond.methodLink RL 75 yX6_flush) ∈ cs_WL := List.mem_append_left _ (List.mem_of_getElem? (i := 53) rfl)
theorem ql_54 : (Cond.instanceMethod yX6_flush) ∈ cs_WL := List.mem_append_left _ (List.mem_of_getElem? (i := 54) rfl)
theorem ql_55 : (Cond.selects RX6 yX6_flush yX6_flush) ∈ cs_WL := List.mem_append_left _ (List.mem_of_getElem? (i := 55) rfl)
theorem ql_56 : (Cond.methodLink RL 78 yX6_snap) ∈ cs_WL := List.mem_append_left _ (List.mem_of_getElem? (i := 56) rfl)
theorem ql_57 : (Cond.instanceMethod yX6_snap) ∈ cs_WL := List.mem_append_left _ (List.mem_of_getElem? (i := 57) rfl)
theorem ql_58 : (Cond.selects RX6 yX6_snap yX6_snap) ∈ cs_WL := List.mem_append_left _ (List.mem_of_getElem? (i := 58) rfl)
theorem ql_59 : (Cond.methodLink RL 81 yX6_get) ∈ cs_WL := List.mem_append_left _ (List.mem_of_getElem? (i := 59) rfl)
theorem ql_60 : (Cond.instanceMethod yX6_get) ∈ cs_WL := List.mem_append_left _ (List.mem_of_getElem? (i := 60) rfl)
theorem ql_61 : (Cond.selects RX6 yX6_get yX6_get) ∈ cs_WL := List.mem_append_left _ (List.mem_of_getElem? (i := 61) rfl)
theorem ql_62 : (Cond.methodLink RL 84 yX6_getAt) ∈ cs_WL := List.mem_append_left _ (List.mem_of_getElem? (i := 62) rfl)
theorem ql_63 : (Cond.instanceMethod yX6_getAt) ∈ cs_WL := List.mem_append_left _ (List.mem_of_getElem? (i := 63) rfl)
theorem ql_64 : (Cond.selects RX6 yX6_getAt yX6_getAt) ∈ cs_WL := List.mem_append_left _ (List.mem_of_getElem? (i := 64) rfl)
theorem ql_65 : (Cond.methodLink RL 87 yX6_release) ∈ cs_WL := List.mem_append_left _ (List.mem_of_getElem? (i := 65) rfl)
theorem ql_66 : (Cond.instanceMethod yX6_release) ∈ cs_WL := List.mem_append_left _ (List.mem_of_getElem? (i := 66) rfl)
theorem ql_67 : (Cond.selects RX6 yX6_release yX6_release) ∈ cs_WL := List.mem_append_left _ (List.mem_of_getElem? (i := 67) rfl)
theorem ql_68 : (Cond.methodLink RL 90 yX6_getSafe) ∈ cs_WL := List.mem_append_left _ (List.mem_of_getElem? (i := 68) rfl)
theorem ql_69 : (Cond.instanceMethod yX6_getSafe) ∈ cs_WL := List.mem_append_left _ (List.mem_of_getElem? (i := 69) rfl)
theorem ql_70 : (Cond.selects RX6 yX6_getSafe yX6_getSafe) ∈ cs_WL := List.mem_append_left _ (List.mem_of_getElem? (i := 70) rfl)
theorem ql_71 : (Cond.methodLink RL 93 yX6_crash) ∈ cs_WL := List.mem_append_left _ (List.mem_of_getElem? (i := 71) rfl)
theorem ql_72 : (Cond.instanceMethod yX6_crash) ∈ cs_WL := List.mem_append_left _ (List.mem_of_getElem? (i := 72) rfl)
theorem ql_73 : (Cond.selects RX6 yX6_crash yX6_crash) ∈ cs_WL := List.mem_append_left _ (List.mem_of_getElem? (i := 73) rfl)
theorem ql_74 : (Cond.methodLink RL 96 yX6_digest) ∈ cs_WL := List.mem_append_left _ (List.mem_of_getElem? (i := 74) rfl)
theorem ql_75 : (Cond.instanceMethod yX6_digest) ∈ cs_WL := List.mem_append_left _ (List.mem_of_getElem? (i := 75) rfl)
theorem ql_76 : (Cond.selects RX6 yX6_digest yX6_digest) ∈ cs_WL := List.mem_append_left _ (List.mem_of_getElem? (i := 76) rfl)
theorem ql_77 : (Cond.methodLink RL 100 yX6_wouldSave) ∈ cs_WL := List.mem_append_left _ (List.mem_of_getElem? (i := 77) rfl)
theorem ql_78 : (Cond.instanceMethod yX6_wouldSave) ∈ cs_WL := List.mem_append_left _ (List.mem_of_getElem? (i := 78) rfl)
theorem ql_79 : (Cond.selects RX6 yX6_wouldSave yX6_wouldSave) ∈ cs_WL := List.mem_append_left _ (List.mem_of_getElem? (i := 79) rfl)
theorem ql_80 : (Cond.methodLink RL 103 yX6_keys) ∈ cs_WL := List.mem_append_left _ (List.mem_of_getElem? (i := 80) rfl)
theorem ql_81 : (Cond.methodLink RL 106 yX6_sum) ∈ cs_WL := List.mem_append_left _ (List.mem_of_getElem? (i := 81) rfl)
theorem ql_82 : (Cond.methodLink RL 109 yX6_cost) ∈ cs_WL := List.mem_append_left _ (List.mem_of_getElem? (i := 82) rfl)
theorem ql_83 : (Cond.instanceMethod yX6_cost) ∈ cs_WL := List.mem_append_left _ (List.mem_of_getElem? (i := 83) rfl)
theorem ql_84 : (Cond.selects RX6 yX6_cost yX6_cost) ∈ cs_WL := List.mem_append_left _ (List.mem_of_getElem? (i := 84) rfl)
theorem ql_85 : (Cond.methodLink RL 112 yX6_next) ∈ cs_WL := List.mem_append_left _ (List.mem_of_getElem? (i := 85) rfl)
theorem ql_86 : (Cond.instanceMethod yX6_next) ∈ cs_WL := List.mem_append_left _ (List.mem_of_getElem? (i := 86) rfl)
theorem ql_87 : (Cond.selects RX6 yX6_next yX6_next) ∈ cs_WL := List.mem_append_left _ (List.mem_of_getElem? (i := 87) rfl)
theorem ql_88 : (Cond.methodLink RL 115 yX6_pack) ∈ cs_WL := List.mem_append_left _ (List.mem_of_getElem? (i := 88) rfl)
theorem ql_89 : (Cond.instanceMethod yX6_pack) ∈ cs_WL := List.mem_append_left _ (List.mem_of_getElem? (i := 89) rfl)
theorem ql_90 : (Cond.selects RX6 yX6_pack yX6_pack) ∈ cs_WL := List.mem_append_left _ (List.mem_of_getElem? (i := 90) rfl)
theorem ql_91 : (Cond.methodLink RL 118 yL_isSound) ∈ cs_WL := List.mem_append_left _ (List.mem_of_getElem? (i := 91) rfl)
theorem ql_92 : (Cond.static yL_isSound) ∈ cs_WL := List.mem_append_left _ (List.mem_of_getElem? (i := 92) rfl)
theorem ql_93 : (Cond.methodLink RL 122 yX6_amplification) ∈ cs_WL := List.mem_append_left _ (List.mem_of_getElem? (i := 93) rfl)
theorem ql_94 : (Cond.instanceMethod yX6_amplification) ∈ cs_WL := List.mem_append_left _ (List.mem_of_getElem? (i := 94) rfl)
theorem ql_95 : (Cond.selects RX6 yX6_amplification yX6_amplification) ∈ cs_WL := List.mem_append_left _ (List.mem_of_getElem? (i := 95) rfl)
theorem ql_w {w : Cond} (h : w ∈ cs_WS) : w ∈ cs_WL := List.mem_append_right _ h
theorem cs_goodL : cs_L.all goodWord = true := by decide +kernel
