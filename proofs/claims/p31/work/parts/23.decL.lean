theorem dL_cell_0 : decode cL_cell 0 = .ok (.iload_n 1, 1) := by decide +kernel
theorem dL_cell_1 : decode cL_cell 1 = .ok (.aload_n 0, 1) := by decide +kernel
theorem dL_cell_2 : decode cL_cell 2 = .ok (.arraylength, 1) := by decide +kernel
theorem dL_cell_3 : decode cL_cell 3 = .ok (.if_icmp .ge 9, 3) := by decide +kernel
theorem dL_cell_6 : decode cL_cell 6 = .ok (.aload_n 0, 1) := by decide +kernel
theorem dL_cell_7 : decode cL_cell 7 = .ok (.iload_n 1, 1) := by decide +kernel
theorem dL_cell_8 : decode cL_cell 8 = .ok (.iaload, 1) := by decide +kernel
theorem dL_cell_9 : decode cL_cell 9 = .ok (.goto 9, 3) := by decide +kernel
theorem dL_cell_12 : decode cL_cell 12 = .ok (.ldc 7, 2) := by decide +kernel
theorem dL_cell_14 : decode cL_cell 14 = .ok (.iload_n 1, 1) := by decide +kernel
theorem dL_cell_15 : decode cL_cell 15 = .ok (.iconst 1, 1) := by decide +kernel
theorem dL_cell_16 : decode cL_cell 16 = .ok (.iadd, 1) := by decide +kernel
theorem dL_cell_17 : decode cL_cell 17 = .ok (.imul, 1) := by decide +kernel
theorem dL_cell_18 : decode cL_cell 18 = .ok (.ireturn, 1) := by decide +kernel
theorem dL_low_0 : decode cL_low 0 = .ok (.iload_n 0, 1) := by decide +kernel
theorem dL_low_1 : decode cL_low 1 = .ok (.ldc 8, 2) := by decide +kernel
theorem dL_low_3 : decode cL_low 3 = .ok (.iand, 1) := by decide +kernel
theorem dL_low_4 : decode cL_low 4 = .ok (.iload_n 1, 1) := by decide +kernel
theorem dL_low_5 : decode cL_low 5 = .ok (.irem, 1) := by decide +kernel
theorem dL_low_6 : decode cL_low 6 = .ok (.ireturn, 1) := by decide +kernel
theorem dL_desk_0 : decode cL_desk 0 = .ok (.aload_n 1, 1) := by decide +kernel
theorem dL_desk_1 : decode cL_desk 1 = .ok (.iconst 0, 1) := by decide +kernel
theorem dL_desk_2 : decode cL_desk 2 = .ok (.invokestatic 9, 3) := by decide +kernel
theorem dL_desk_5 : decode cL_desk 5 = .ok (.istore_n 3, 1) := by decide +kernel
theorem dL_desk_6 : decode cL_desk 6 = .ok (.aload_n 2, 1) := by decide +kernel
theorem dL_desk_7 : decode cL_desk 7 = .ok (.iconst 0, 1) := by decide +kernel
theorem dL_desk_8 : decode cL_desk 8 = .ok (.bipush 15, 2) := by decide +kernel
theorem dL_desk_10 : decode cL_desk 10 = .ok (.iload_n 3, 1) := by decide +kernel
theorem dL_desk_11 : decode cL_desk 11 = .ok (.bipush 85, 2) := by decide +kernel
theorem dL_desk_13 : decode cL_desk 13 = .ok (.invokestatic 15, 3) := by decide +kernel
theorem dL_desk_16 : decode cL_desk 16 = .ok (.iadd, 1) := by decide +kernel
theorem dL_desk_17 : decode cL_desk 17 = .ok (.iastore, 1) := by decide +kernel
theorem dL_desk_18 : decode cL_desk 18 = .ok (.aload_n 2, 1) := by decide +kernel
theorem dL_desk_19 : decode cL_desk 19 = .ok (.iconst 1, 1) := by decide +kernel
theorem dL_desk_20 : decode cL_desk 20 = .ok (.iconst 1, 1) := by decide +kernel
theorem dL_desk_21 : decode cL_desk 21 = .ok (.iload_n 3, 1) := by decide +kernel
theorem dL_desk_22 : decode cL_desk 22 = .ok (.bipush 7, 2) := by decide +kernel
theorem dL_desk_24 : decode cL_desk 24 = .ok (.ishr, 1) := by decide +kernel
theorem dL_desk_25 : decode cL_desk 25 = .ok (.bipush 9, 2) := by decide +kernel
theorem dL_desk_27 : decode cL_desk 27 = .ok (.invokestatic 15, 3) := by decide +kernel
theorem dL_desk_30 : decode cL_desk 30 = .ok (.iconst 2, 1) := by decide +kernel
theorem dL_desk_31 : decode cL_desk 31 = .ok (.idiv, 1) := by decide +kernel
theorem dL_desk_32 : decode cL_desk 32 = .ok (.iadd, 1) := by decide +kernel
theorem dL_desk_33 : decode cL_desk 33 = .ok (.iastore, 1) := by decide +kernel
theorem dL_desk_34 : decode cL_desk 34 = .ok (.aload_n 2, 1) := by decide +kernel
theorem dL_desk_35 : decode cL_desk 35 = .ok (.iconst 2, 1) := by decide +kernel
theorem dL_desk_36 : decode cL_desk 36 = .ok (.iload_n 3, 1) := by decide +kernel
theorem dL_desk_37 : decode cL_desk 37 = .ok (.bipush 11, 2) := by decide +kernel
theorem dL_desk_39 : decode cL_desk 39 = .ok (.ishr, 1) := by decide +kernel
theorem dL_desk_40 : decode cL_desk 40 = .ok (.iconst 5, 1) := by decide +kernel
theorem dL_desk_41 : decode cL_desk 41 = .ok (.invokestatic 15, 3) := by decide +kernel
theorem dL_desk_44 : decode cL_desk 44 = .ok (.ifCond .ne 15, 3) := by decide +kernel
theorem dL_desk_47 : decode cL_desk 47 = .ok (.iload_n 3, 1) := by decide +kernel
theorem dL_desk_48 : decode cL_desk 48 = .ok (.bipush 14, 2) := by decide +kernel
theorem dL_desk_50 : decode cL_desk 50 = .ok (.ishr, 1) := by decide +kernel
theorem dL_desk_51 : decode cL_desk 51 = .ok (.bipush 100, 2) := by decide +kernel
theorem dL_desk_53 : decode cL_desk 53 = .ok (.invokestatic 15, 3) := by decide +kernel
theorem dL_desk_56 : decode cL_desk 56 = .ok (.goto 12, 3) := by decide +kernel
theorem dL_desk_59 : decode cL_desk 59 = .ok (.iload_n 3, 1) := by decide +kernel
theorem dL_desk_60 : decode cL_desk 60 = .ok (.bipush 14, 2) := by decide +kernel
theorem dL_desk_62 : decode cL_desk 62 = .ok (.ishr, 1) := by decide +kernel
theorem dL_desk_63 : decode cL_desk 63 = .ok (.bipush 20, 2) := by decide +kernel
theorem dL_desk_65 : decode cL_desk 65 = .ok (.invokestatic 15, 3) := by decide +kernel
theorem dL_desk_68 : decode cL_desk 68 = .ok (.iastore, 1) := by decide +kernel
theorem dL_desk_69 : decode cL_desk 69 = .ok (.aload_n 2, 1) := by decide +kernel
theorem dL_desk_70 : decode cL_desk 70 = .ok (.iconst 3, 1) := by decide +kernel
theorem dL_desk_71 : decode cL_desk 71 = .ok (.iload_n 3, 1) := by decide +kernel
theorem dL_desk_72 : decode cL_desk 72 = .ok (.bipush 21, 2) := by decide +kernel
theorem dL_desk_74 : decode cL_desk 74 = .ok (.ishr, 1) := by decide +kernel
theorem dL_desk_75 : decode cL_desk 75 = .ok (.iconst 2, 1) := by decide +kernel
theorem dL_desk_76 : decode cL_desk 76 = .ok (.invokestatic 15, 3) := by decide +kernel
theorem dL_desk_79 : decode cL_desk 79 = .ok (.iastore, 1) := by decide +kernel
theorem dL_desk_80 : decode cL_desk 80 = .ok (.aload_n 2, 1) := by decide +kernel
theorem dL_desk_81 : decode cL_desk 81 = .ok (.iconst 4, 1) := by decide +kernel
theorem dL_desk_82 : decode cL_desk 82 = .ok (.iload_n 3, 1) := by decide +kernel
theorem dL_desk_83 : decode cL_desk 83 = .ok (.bipush 22, 2) := by decide +kernel
theorem dL_desk_85 : decode cL_desk 85 = .ok (.ishr, 1) := by decide +kernel
theorem dL_desk_86 : decode cL_desk 86 = .ok (.iconst 3, 1) := by decide +kernel
theorem dL_desk_87 : decode cL_desk 87 = .ok (.invokestatic 15, 3) := by decide +kernel
theorem dL_desk_90 : decode cL_desk 90 = .ok (.ifCond .ne 7, 3) := by decide +kernel
theorem dL_desk_93 : decode cL_desk 93 = .ok (.iconst 0, 1) := by decide +kernel
theorem dL_desk_94 : decode cL_desk 94 = .ok (.goto 12, 3) := by decide +kernel
theorem dL_desk_97 : decode cL_desk 97 = .ok (.iload_n 3, 1) := by decide +kernel
theorem dL_desk_98 : decode cL_desk 98 = .ok (.bipush 24, 2) := by decide +kernel
theorem dL_desk_100 : decode cL_desk 100 = .ok (.ishr, 1) := by decide +kernel
theorem dL_desk_101 : decode cL_desk 101 = .ok (.bipush 60, 2) := by decide +kernel
theorem dL_desk_103 : decode cL_desk 103 = .ok (.invokestatic 15, 3) := by decide +kernel
theorem dL_desk_106 : decode cL_desk 106 = .ok (.iastore, 1) := by decide +kernel
theorem dL_desk_107 : decode cL_desk 107 = .ok (.aload_n 0, 1) := by decide +kernel
theorem dL_desk_108 : decode cL_desk 108 = .ok (.iconst 0, 1) := by decide +kernel
theorem dL_desk_109 : decode cL_desk 109 = .ok (.aload_n 2, 1) := by decide +kernel
theorem dL_desk_110 : decode cL_desk 110 = .ok (.iconst 0, 1) := by decide +kernel
theorem dL_desk_111 : decode cL_desk 111 = .ok (.iaload, 1) := by decide +kernel
theorem dL_desk_112 : decode cL_desk 112 = .ok (.invokevirtual 19, 3) := by decide +kernel
theorem dL_desk_115 : decode cL_desk 115 = .ok (.bipush 60, 2) := by decide +kernel
theorem dL_desk_117 : decode cL_desk 117 = .ok (.if_icmp .ne 53, 3) := by decide +kernel
theorem dL_desk_120 : decode cL_desk 120 = .ok (.aload_n 0, 1) := by decide +kernel
theorem dL_desk_121 : decode cL_desk 121 = .ok (.iconst 1, 1) := by decide +kernel
theorem dL_desk_122 : decode cL_desk 122 = .ok (.aload_n 2, 1) := by decide +kernel
theorem dL_desk_123 : decode cL_desk 123 = .ok (.iconst 1, 1) := by decide +kernel
theorem dL_desk_124 : decode cL_desk 124 = .ok (.iaload, 1) := by decide +kernel
theorem dL_desk_125 : decode cL_desk 125 = .ok (.invokevirtual 19, 3) := by decide +kernel
theorem dL_desk_128 : decode cL_desk 128 = .ok (.iconst 1, 1) := by decide +kernel
theorem dL_desk_129 : decode cL_desk 129 = .ok (.if_icmp .ne 41, 3) := by decide +kernel
theorem dL_desk_132 : decode cL_desk 132 = .ok (.aload_n 0, 1) := by decide +kernel
theorem dL_desk_133 : decode cL_desk 133 = .ok (.iconst 2, 1) := by decide +kernel
theorem dL_desk_134 : decode cL_desk 134 = .ok (.aload_n 2, 1) := by decide +kernel
theorem dL_desk_135 : decode cL_desk 135 = .ok (.iconst 2, 1) := by decide +kernel
theorem dL_desk_136 : decode cL_desk 136 = .ok (.iaload, 1) := by decide +kernel
theorem dL_desk_137 : decode cL_desk 137 = .ok (.invokevirtual 19, 3) := by decide +kernel
theorem dL_desk_140 : decode cL_desk 140 = .ok (.iconst 1, 1) := by decide +kernel
theorem dL_desk_141 : decode cL_desk 141 = .ok (.if_icmp .ne 29, 3) := by decide +kernel
theorem dL_desk_144 : decode cL_desk 144 = .ok (.aload_n 0, 1) := by decide +kernel
theorem dL_desk_145 : decode cL_desk 145 = .ok (.iconst 3, 1) := by decide +kernel
theorem dL_desk_146 : decode cL_desk 146 = .ok (.aload_n 2, 1) := by decide +kernel
theorem dL_desk_147 : decode cL_desk 147 = .ok (.iconst 3, 1) := by decide +kernel
theorem dL_desk_148 : decode cL_desk 148 = .ok (.iaload, 1) := by decide +kernel
theorem dL_desk_149 : decode cL_desk 149 = .ok (.invokevirtual 19, 3) := by decide +kernel
theorem dL_desk_152 : decode cL_desk 152 = .ok (.ifCond .ne 18, 3) := by decide +kernel
theorem dL_desk_155 : decode cL_desk 155 = .ok (.aload_n 0, 1) := by decide +kernel
theorem dL_desk_156 : decode cL_desk 156 = .ok (.iconst 4, 1) := by decide +kernel
theorem dL_desk_157 : decode cL_desk 157 = .ok (.aload_n 2, 1) := by decide +kernel
theorem dL_desk_158 : decode cL_desk 158 = .ok (.iconst 4, 1) := by decide +kernel
theorem dL_desk_159 : decode cL_desk 159 = .ok (.iaload, 1) := by decide +kernel
theorem dL_desk_160 : decode cL_desk 160 = .ok (.invokevirtual 19, 3) := by decide +kernel
theorem dL_desk_163 : decode cL_desk 163 = .ok (.ifCond .ne 7, 3) := by decide +kernel
theorem dL_desk_166 : decode cL_desk 166 = .ok (.iconst 1, 1) := by decide +kernel
theorem dL_desk_167 : decode cL_desk 167 = .ok (.goto 4, 3) := by decide +kernel
theorem dL_desk_170 : decode cL_desk 170 = .ok (.iconst 0, 1) := by decide +kernel
theorem dL_desk_171 : decode cL_desk 171 = .ok (.istore 4, 2) := by decide +kernel
theorem dL_desk_173 : decode cL_desk 173 = .ok (.aload_n 1, 1) := by decide +kernel
theorem dL_desk_174 : decode cL_desk 174 = .ok (.iconst 1, 1) := by decide +kernel
theorem dL_desk_175 : decode cL_desk 175 = .ok (.invokestatic 9, 3) := by decide +kernel
theorem dL_desk_178 : decode cL_desk 178 = .ok (.bipush 7, 2) := by decide +kernel
theorem dL_desk_180 : decode cL_desk 180 = .ok (.invokestatic 15, 3) := by decide +kernel
theorem dL_desk_183 : decode cL_desk 183 = .ok (.istore 5, 2) := by decide +kernel
theorem dL_desk_185 : decode cL_desk 185 = .ok (.iconst 0, 1) := by decide +kernel
theorem dL_desk_186 : decode cL_desk 186 = .ok (.istore 6, 2) := by decide +kernel
theorem dL_desk_188 : decode cL_desk 188 = .ok (.iload 6, 2) := by decide +kernel
theorem dL_desk_190 : decode cL_desk 190 = .ok (.iload 5, 2) := by decide +kernel
theorem dL_desk_192 : decode cL_desk 192 = .ok (.if_icmp .ge 68, 3) := by decide +kernel
theorem dL_desk_195 : decode cL_desk 195 = .ok (.iload 4, 2) := by decide +kernel
theorem dL_desk_197 : decode cL_desk 197 = .ok (.ifCond .eq 63, 3) := by decide +kernel
theorem dL_desk_200 : decode cL_desk 200 = .ok (.aload_n 2, 1) := by decide +kernel
theorem dL_desk_201 : decode cL_desk 201 = .ok (.bipush 6, 2) := by decide +kernel
theorem dL_desk_203 : decode cL_desk 203 = .ok (.iload 6, 2) := by decide +kernel
theorem dL_desk_205 : decode cL_desk 205 = .ok (.iadd, 1) := by decide +kernel
theorem dL_desk_206 : decode cL_desk 206 = .ok (.aload_n 1, 1) := by decide +kernel
theorem dL_desk_207 : decode cL_desk 207 = .ok (.iconst 1, 1) := by decide +kernel
theorem dL_desk_208 : decode cL_desk 208 = .ok (.invokestatic 9, 3) := by decide +kernel
theorem dL_desk_211 : decode cL_desk 211 = .ok (.iconst 3, 1) := by decide +kernel
theorem dL_desk_212 : decode cL_desk 212 = .ok (.iconst 2, 1) := by decide +kernel
theorem dL_desk_213 : decode cL_desk 213 = .ok (.iload 6, 2) := by decide +kernel
theorem dL_desk_215 : decode cL_desk 215 = .ok (.imul, 1) := by decide +kernel
theorem dL_desk_216 : decode cL_desk 216 = .ok (.iadd, 1) := by decide +kernel
theorem dL_desk_217 : decode cL_desk 217 = .ok (.ishr, 1) := by decide +kernel
theorem dL_desk_218 : decode cL_desk 218 = .ok (.iconst 4, 1) := by decide +kernel
theorem dL_desk_219 : decode cL_desk 219 = .ok (.invokestatic 15, 3) := by decide +kernel
theorem dL_desk_222 : decode cL_desk 222 = .ok (.iastore, 1) := by decide +kernel
theorem dL_desk_223 : decode cL_desk 223 = .ok (.aload_n 0, 1) := by decide +kernel
theorem dL_desk_224 : decode cL_desk 224 = .ok (.ldc2_w 24, 3) := by decide +kernel
theorem dL_desk_227 : decode cL_desk 227 = .ok (.aload_n 2, 1) := by decide +kernel
theorem dL_desk_228 : decode cL_desk 228 = .ok (.bipush 6, 2) := by decide +kernel
theorem dL_desk_230 : decode cL_desk 230 = .ok (.iload 6, 2) := by decide +kernel
theorem dL_desk_232 : decode cL_desk 232 = .ok (.iadd, 1) := by decide +kernel
theorem dL_desk_233 : decode cL_desk 233 = .ok (.iaload, 1) := by decide +kernel
theorem dL_desk_234 : decode cL_desk 234 = .ok (.i2l, 1) := by decide +kernel
theorem dL_desk_235 : decode cL_desk 235 = .ok (.ladd, 1) := by decide +kernel
theorem dL_desk_236 : decode cL_desk 236 = .ok (.iconst 1, 1) := by decide +kernel
theorem dL_desk_237 : decode cL_desk 237 = .ok (.invokevirtual 26, 3) := by decide +kernel
theorem dL_desk_240 : decode cL_desk 240 = .ok (.iload 6, 2) := by decide +kernel
theorem dL_desk_242 : decode cL_desk 242 = .ok (.iconst 1, 1) := by decide +kernel
theorem dL_desk_243 : decode cL_desk 243 = .ok (.iadd, 1) := by decide +kernel
theorem dL_desk_244 : decode cL_desk 244 = .ok (.if_icmp .ne 7, 3) := by decide +kernel
theorem dL_desk_247 : decode cL_desk 247 = .ok (.iconst 1, 1) := by decide +kernel
theorem dL_desk_248 : decode cL_desk 248 = .ok (.goto 4, 3) := by decide +kernel
theorem dL_desk_251 : decode cL_desk 251 = .ok (.iconst 0, 1) := by decide +kernel
theorem dL_desk_252 : decode cL_desk 252 = .ok (.istore 4, 2) := by decide +kernel
theorem dL_desk_254 : decode cL_desk 254 = .ok (.iinc 6 1, 3) := by decide +kernel
theorem dL_desk_257 : decode cL_desk 257 = .ok (.goto (-69), 3) := by decide +kernel
theorem dL_desk_260 : decode cL_desk 260 = .ok (.aload_n 2, 1) := by decide +kernel
theorem dL_desk_261 : decode cL_desk 261 = .ok (.iconst 5, 1) := by decide +kernel
theorem dL_desk_262 : decode cL_desk 262 = .ok (.iload 5, 2) := by decide +kernel
theorem dL_desk_264 : decode cL_desk 264 = .ok (.iastore, 1) := by decide +kernel
theorem dL_desk_265 : decode cL_desk 265 = .ok (.iload 4, 2) := by decide +kernel
theorem dL_desk_267 : decode cL_desk 267 = .ok (.ifCond .eq 26, 3) := by decide +kernel
theorem dL_desk_270 : decode cL_desk 270 = .ok (.aload_n 0, 1) := by decide +kernel
theorem dL_desk_271 : decode cL_desk 271 = .ok (.invokevirtual 30, 3) := by decide +kernel
theorem dL_desk_274 : decode cL_desk 274 = .ok (.iload 5, 2) := by decide +kernel
theorem dL_desk_276 : decode cL_desk 276 = .ok (.ifCond .ne 8, 3) := by decide +kernel
theorem dL_desk_279 : decode cL_desk 279 = .ok (.bipush (-20), 2) := by decide +kernel
theorem dL_desk_281 : decode cL_desk 281 = .ok (.goto 5, 3) := by decide +kernel
theorem dL_desk_284 : decode cL_desk 284 = .ok (.iload 5, 2) := by decide +kernel
theorem dL_desk_286 : decode cL_desk 286 = .ok (.if_icmp .ne 7, 3) := by decide +kernel
theorem dL_desk_289 : decode cL_desk 289 = .ok (.iconst 1, 1) := by decide +kernel
theorem dL_desk_290 : decode cL_desk 290 = .ok (.goto 4, 3) := by decide +kernel
theorem dL_desk_293 : decode cL_desk 293 = .ok (.iconst 0, 1) := by decide +kernel
theorem dL_desk_294 : decode cL_desk 294 = .ok (.istore 4, 2) := by decide +kernel
theorem dL_desk_296 : decode cL_desk 296 = .ok (.aload_n 1, 1) := by decide +kernel
theorem dL_desk_297 : decode cL_desk 297 = .ok (.iconst 2, 1) := by decide +kernel
theorem dL_desk_298 : decode cL_desk 298 = .ok (.invokestatic 9, 3) := by decide +kernel
theorem dL_desk_301 : decode cL_desk 301 = .ok (.bipush 6, 2) := by decide +kernel
theorem dL_desk_303 : decode cL_desk 303 = .ok (.invokestatic 15, 3) := by decide +kernel
theorem dL_desk_306 : decode cL_desk 306 = .ok (.istore 6, 2) := by decide +kernel
theorem dL_desk_308 : decode cL_desk 308 = .ok (.iconst 0, 1) := by decide +kernel
theorem dL_desk_309 : decode cL_desk 309 = .ok (.istore 7, 2) := by decide +kernel
theorem dL_desk_311 : decode cL_desk 311 = .ok (.iload 7, 2) := by decide +kernel
theorem dL_desk_313 : decode cL_desk 313 = .ok (.iload 6, 2) := by decide +kernel
theorem dL_desk_315 : decode cL_desk 315 = .ok (.if_icmp .ge 226, 3) := by decide +kernel
theorem dL_desk_318 : decode cL_desk 318 = .ok (.iload 4, 2) := by decide +kernel
theorem dL_desk_320 : decode cL_desk 320 = .ok (.ifCond .eq 221, 3) := by decide +kernel
theorem dL_desk_323 : decode cL_desk 323 = .ok (.aload_n 1, 1) := by decide +kernel
theorem dL_desk_324 : decode cL_desk 324 = .ok (.iconst 3, 1) := by decide +kernel
theorem dL_desk_325 : decode cL_desk 325 = .ok (.iload 7, 2) := by decide +kernel
theorem dL_desk_327 : decode cL_desk 327 = .ok (.iadd, 1) := by decide +kernel
theorem dL_desk_328 : decode cL_desk 328 = .ok (.invokestatic 9, 3) := by decide +kernel
theorem dL_desk_331 : decode cL_desk 331 = .ok (.istore 8, 2) := by decide +kernel
theorem dL_desk_333 : decode cL_desk 333 = .ok (.aload_n 2, 1) := by decide +kernel
theorem dL_desk_334 : decode cL_desk 334 = .ok (.bipush 13, 2) := by decide +kernel
theorem dL_desk_336 : decode cL_desk 336 = .ok (.iload 7, 2) := by decide +kernel
theorem dL_desk_338 : decode cL_desk 338 = .ok (.iadd, 1) := by decide +kernel
theorem dL_desk_339 : decode cL_desk 339 = .ok (.iload 8, 2) := by decide +kernel
theorem dL_desk_341 : decode cL_desk 341 = .ok (.iconst 5, 1) := by decide +kernel
theorem dL_desk_342 : decode cL_desk 342 = .ok (.invokestatic 15, 3) := by decide +kernel
theorem dL_desk_345 : decode cL_desk 345 = .ok (.iastore, 1) := by decide +kernel
theorem dL_desk_346 : decode cL_desk 346 = .ok (.aload_n 2, 1) := by decide +kernel
theorem dL_desk_347 : decode cL_desk 347 = .ok (.bipush 18, 2) := by decide +kernel
theorem dL_desk_349 : decode cL_desk 349 = .ok (.iload 7, 2) := by decide +kernel
theorem dL_desk_351 : decode cL_desk 351 = .ok (.iadd, 1) := by decide +kernel
theorem dL_desk_352 : decode cL_desk 352 = .ok (.iload 8, 2) := by decide +kernel
theorem dL_desk_354 : decode cL_desk 354 = .ok (.iconst 3, 1) := by decide +kernel
theorem dL_desk_355 : decode cL_desk 355 = .ok (.ishr, 1) := by decide +kernel
theorem dL_desk_356 : decode cL_desk 356 = .ok (.bipush 9, 2) := by decide +kernel
theorem dL_desk_358 : decode cL_desk 358 = .ok (.invokestatic 15, 3) := by decide +kernel
theorem dL_desk_361 : decode cL_desk 361 = .ok (.ifCond .ne 17, 3) := by decide +kernel
theorem dL_desk_364 : decode cL_desk 364 = .ok (.iload 8, 2) := by decide +kernel
theorem dL_desk_366 : decode cL_desk 366 = .ok (.bipush 7, 2) := by decide +kernel
theorem dL_desk_368 : decode cL_desk 368 = .ok (.ishr, 1) := by decide +kernel
theorem dL_desk_369 : decode cL_desk 369 = .ok (.sipush 1000, 3) := by decide +kernel
theorem dL_desk_372 : decode cL_desk 372 = .ok (.invokestatic 15, 3) := by decide +kernel
theorem dL_desk_375 : decode cL_desk 375 = .ok (.goto 14, 3) := by decide +kernel
theorem dL_desk_378 : decode cL_desk 378 = .ok (.iload 8, 2) := by decide +kernel
theorem dL_desk_380 : decode cL_desk 380 = .ok (.bipush 7, 2) := by decide +kernel
theorem dL_desk_382 : decode cL_desk 382 = .ok (.ishr, 1) := by decide +kernel
theorem dL_desk_383 : decode cL_desk 383 = .ok (.sipush 130, 3) := by decide +kernel
theorem dL_desk_386 : decode cL_desk 386 = .ok (.invokestatic 15, 3) := by decide +kernel
theorem dL_desk_389 : decode cL_desk 389 = .ok (.iastore, 1) := by decide +kernel
theorem dL_desk_390 : decode cL_desk 390 = .ok (.aload_n 2, 1) := by decide +kernel
theorem dL_desk_391 : decode cL_desk 391 = .ok (.bipush 23, 2) := by decide +kernel
theorem dL_desk_393 : decode cL_desk 393 = .ok (.iload 7, 2) := by decide +kernel
theorem dL_desk_395 : decode cL_desk 395 = .ok (.iadd, 1) := by decide +kernel
theorem dL_desk_396 : decode cL_desk 396 = .ok (.iload 8, 2) := by decide +kernel
theorem dL_desk_398 : decode cL_desk 398 = .ok (.bipush 17, 2) := by decide +kernel
theorem dL_desk_400 : decode cL_desk 400 = .ok (.ishr, 1) := by decide +kernel
theorem dL_desk_401 : decode cL_desk 401 = .ok (.bipush 41, 2) := by decide +kernel
theorem dL_desk_403 : decode cL_desk 403 = .ok (.invokestatic 15, 3) := by decide +kernel
theorem dL_desk_406 : decode cL_desk 406 = .ok (.iastore, 1) := by decide +kernel
theorem dL_desk_407 : decode cL_desk 407 = .ok (.aload_n 0, 1) := by decide +kernel
theorem dL_desk_408 : decode cL_desk 408 = .ok (.aload_n 2, 1) := by decide +kernel
theorem dL_desk_409 : decode cL_desk 409 = .ok (.bipush 13, 2) := by decide +kernel
theorem dL_desk_411 : decode cL_desk 411 = .ok (.iload 7, 2) := by decide +kernel
theorem dL_desk_413 : decode cL_desk 413 = .ok (.iadd, 1) := by decide +kernel
theorem dL_desk_414 : decode cL_desk 414 = .ok (.iaload, 1) := by decide +kernel
theorem dL_desk_415 : decode cL_desk 415 = .ok (.aload_n 2, 1) := by decide +kernel
theorem dL_desk_416 : decode cL_desk 416 = .ok (.bipush 18, 2) := by decide +kernel
theorem dL_desk_418 : decode cL_desk 418 = .ok (.iload 7, 2) := by decide +kernel
theorem dL_desk_420 : decode cL_desk 420 = .ok (.iadd, 1) := by decide +kernel
theorem dL_desk_421 : decode cL_desk 421 = .ok (.iaload, 1) := by decide +kernel
theorem dL_desk_422 : decode cL_desk 422 = .ok (.invokevirtual 34, 3) := by decide +kernel
theorem dL_desk_425 : decode cL_desk 425 = .ok (.iload 7, 2) := by decide +kernel
theorem dL_desk_427 : decode cL_desk 427 = .ok (.if_icmp .ne 23, 3) := by decide +kernel
theorem dL_desk_430 : decode cL_desk 430 = .ok (.aload_n 0, 1) := by decide +kernel
theorem dL_desk_431 : decode cL_desk 431 = .ok (.iload 7, 2) := by decide +kernel
theorem dL_desk_433 : decode cL_desk 433 = .ok (.aload_n 2, 1) := by decide +kernel
theorem dL_desk_434 : decode cL_desk 434 = .ok (.bipush 23, 2) := by decide +kernel
theorem dL_desk_436 : decode cL_desk 436 = .ok (.iload 7, 2) := by decide +kernel
theorem dL_desk_438 : decode cL_desk 438 = .ok (.iadd, 1) := by decide +kernel
theorem dL_desk_439 : decode cL_desk 439 = .ok (.iaload, 1) := by decide +kernel
theorem dL_desk_440 : decode cL_desk 440 = .ok (.invokevirtual 37, 3) := by decide +kernel
theorem dL_desk_443 : decode cL_desk 443 = .ok (.ifCond .ne 7, 3) := by decide +kernel
theorem dL_desk_446 : decode cL_desk 446 = .ok (.iconst 1, 1) := by decide +kernel
theorem dL_desk_447 : decode cL_desk 447 = .ok (.goto 4, 3) := by decide +kernel
theorem dL_desk_450 : decode cL_desk 450 = .ok (.iconst 0, 1) := by decide +kernel
theorem dL_desk_451 : decode cL_desk 451 = .ok (.istore 4, 2) := by decide +kernel
theorem dL_desk_453 : decode cL_desk 453 = .ok (.iconst 0, 1) := by decide +kernel
theorem dL_desk_454 : decode cL_desk 454 = .ok (.istore 9, 2) := by decide +kernel
theorem dL_desk_456 : decode cL_desk 456 = .ok (.iload 9, 2) := by decide +kernel
theorem dL_desk_458 : decode cL_desk 458 = .ok (.iconst 4, 1) := by decide +kernel
theorem dL_desk_459 : decode cL_desk 459 = .ok (.if_icmp .ge 76, 3) := by decide +kernel
theorem dL_desk_462 : decode cL_desk 462 = .ok (.iload 4, 2) := by decide +kernel
theorem dL_desk_464 : decode cL_desk 464 = .ok (.ifCond .eq 71, 3) := by decide +kernel
theorem dL_desk_467 : decode cL_desk 467 = .ok (.aload_n 2, 1) := by decide +kernel
theorem dL_desk_468 : decode cL_desk 468 = .ok (.bipush 28, 2) := by decide +kernel
theorem dL_desk_470 : decode cL_desk 470 = .ok (.iconst 4, 1) := by decide +kernel
theorem dL_desk_471 : decode cL_desk 471 = .ok (.iload 7, 2) := by decide +kernel
theorem dL_desk_473 : decode cL_desk 473 = .ok (.imul, 1) := by decide +kernel
theorem dL_desk_474 : decode cL_desk 474 = .ok (.iadd, 1) := by decide +kernel
theorem dL_desk_475 : decode cL_desk 475 = .ok (.iload 9, 2) := by decide +kernel
theorem dL_desk_477 : decode cL_desk 477 = .ok (.iadd, 1) := by decide +kernel
theorem dL_desk_478 : decode cL_desk 478 = .ok (.aload_n 1, 1) := by decide +kernel
theorem dL_desk_479 : decode cL_desk 479 = .ok (.bipush 8, 2) := by decide +kernel
theorem dL_desk_481 : decode cL_desk 481 = .ok (.iload 7, 2) := by decide +kernel
theorem dL_desk_483 : decode cL_desk 483 = .ok (.iadd, 1) := by decide +kernel
theorem dL_desk_484 : decode cL_desk 484 = .ok (.invokestatic 9, 3) := by decide +kernel
theorem dL_desk_487 : decode cL_desk 487 = .ok (.bipush 7, 2) := by decide +kernel
theorem dL_desk_489 : decode cL_desk 489 = .ok (.iload 9, 2) := by decide +kernel
theorem dL_desk_491 : decode cL_desk 491 = .ok (.imul, 1) := by decide +kernel
theorem dL_desk_492 : decode cL_desk 492 = .ok (.ishr, 1) := by decide +kernel
theorem dL_desk_493 : decode cL_desk 493 = .ok (.bipush 100, 2) := by decide +kernel
theorem dL_desk_495 : decode cL_desk 495 = .ok (.invokestatic 15, 3) := by decide +kernel
theorem dL_desk_498 : decode cL_desk 498 = .ok (.iastore, 1) := by decide +kernel
theorem dL_desk_499 : decode cL_desk 499 = .ok (.aload_n 0, 1) := by decide +kernel
theorem dL_desk_500 : decode cL_desk 500 = .ok (.iload 7, 2) := by decide +kernel
theorem dL_desk_502 : decode cL_desk 502 = .ok (.iload 9, 2) := by decide +kernel
theorem dL_desk_504 : decode cL_desk 504 = .ok (.aload_n 2, 1) := by decide +kernel
theorem dL_desk_505 : decode cL_desk 505 = .ok (.bipush 28, 2) := by decide +kernel
theorem dL_desk_507 : decode cL_desk 507 = .ok (.iconst 4, 1) := by decide +kernel
theorem dL_desk_508 : decode cL_desk 508 = .ok (.iload 7, 2) := by decide +kernel
theorem dL_desk_510 : decode cL_desk 510 = .ok (.imul, 1) := by decide +kernel
theorem dL_desk_511 : decode cL_desk 511 = .ok (.iadd, 1) := by decide +kernel
theorem dL_desk_512 : decode cL_desk 512 = .ok (.iload 9, 2) := by decide +kernel
theorem dL_desk_514 : decode cL_desk 514 = .ok (.iadd, 1) := by decide +kernel
theorem dL_desk_515 : decode cL_desk 515 = .ok (.iaload, 1) := by decide +kernel
theorem dL_desk_516 : decode cL_desk 516 = .ok (.invokevirtual 40, 3) := by decide +kernel
theorem dL_desk_519 : decode cL_desk 519 = .ok (.ifCond .ne 7, 3) := by decide +kernel
theorem dL_desk_522 : decode cL_desk 522 = .ok (.iconst 1, 1) := by decide +kernel
theorem dL_desk_523 : decode cL_desk 523 = .ok (.goto 4, 3) := by decide +kernel
theorem dL_desk_526 : decode cL_desk 526 = .ok (.iconst 0, 1) := by decide +kernel
theorem dL_desk_527 : decode cL_desk 527 = .ok (.istore 4, 2) := by decide +kernel
theorem dL_desk_529 : decode cL_desk 529 = .ok (.iinc 9 1, 3) := by decide +kernel
theorem dL_desk_532 : decode cL_desk 532 = .ok (.goto (-76), 3) := by decide +kernel
theorem dL_desk_535 : decode cL_desk 535 = .ok (.iinc 7 1, 3) := by decide +kernel
theorem dL_desk_538 : decode cL_desk 538 = .ok (.goto (-227), 3) := by decide +kernel
theorem dL_desk_541 : decode cL_desk 541 = .ok (.aload_n 2, 1) := by decide +kernel
theorem dL_desk_542 : decode cL_desk 542 = .ok (.bipush 12, 2) := by decide +kernel
theorem dL_desk_544 : decode cL_desk 544 = .ok (.iload 6, 2) := by decide +kernel
theorem dL_desk_546 : decode cL_desk 546 = .ok (.iastore, 1) := by decide +kernel
theorem dL_desk_547 : decode cL_desk 547 = .ok (.iload 4, 2) := by decide +kernel
theorem dL_desk_549 : decode cL_desk 549 = .ok (.ifCond .eq 24, 3) := by decide +kernel
theorem dL_desk_552 : decode cL_desk 552 = .ok (.iload 6, 2) := by decide +kernel
theorem dL_desk_554 : decode cL_desk 554 = .ok (.iconst 5, 1) := by decide +kernel
theorem dL_desk_555 : decode cL_desk 555 = .ok (.if_icmp .lt 14, 3) := by decide +kernel
theorem dL_desk_558 : decode cL_desk 558 = .ok (.aload_n 0, 1) := by decide +kernel
theorem dL_desk_559 : decode cL_desk 559 = .ok (.iconst 0, 1) := by decide +kernel
theorem dL_desk_560 : decode cL_desk 560 = .ok (.iconst 0, 1) := by decide +kernel
theorem dL_desk_561 : decode cL_desk 561 = .ok (.invokevirtual 34, 3) := by decide +kernel
theorem dL_desk_564 : decode cL_desk 564 = .ok (.bipush (-3), 2) := by decide +kernel
theorem dL_desk_566 : decode cL_desk 566 = .ok (.if_icmp .ne 7, 3) := by decide +kernel
theorem dL_desk_569 : decode cL_desk 569 = .ok (.iconst 1, 1) := by decide +kernel
theorem dL_desk_570 : decode cL_desk 570 = .ok (.goto 4, 3) := by decide +kernel
theorem dL_desk_573 : decode cL_desk 573 = .ok (.iconst 0, 1) := by decide +kernel
theorem dL_desk_574 : decode cL_desk 574 = .ok (.ireturn, 1) := by decide +kernel
theorem dL_act_0 : decode cL_act 0 = .ok (.iload_n 1, 1) := by decide +kernel
theorem dL_act_1 : decode cL_act 1 = .ok (.iconst 4, 1) := by decide +kernel
theorem dL_act_2 : decode cL_act 2 = .ok (.ishr, 1) := by decide +kernel
theorem dL_act_3 : decode cL_act 3 = .ok (.bipush 6, 2) := by decide +kernel
theorem dL_act_5 : decode cL_act 5 = .ok (.invokestatic 15, 3) := by decide +kernel
theorem dL_act_8 : decode cL_act 8 = .ok (.istore_n 2, 1) := by decide +kernel
theorem dL_act_9 : decode cL_act 9 = .ok (.iload_n 1, 1) := by decide +kernel
theorem dL_act_10 : decode cL_act 10 = .ok (.bipush 7, 2) := by decide +kernel
theorem dL_act_12 : decode cL_act 12 = .ok (.ishr, 1) := by decide +kernel
theorem dL_act_13 : decode cL_act 13 = .ok (.iconst 5, 1) := by decide +kernel
theorem dL_act_14 : decode cL_act 14 = .ok (.invokestatic 15, 3) := by decide +kernel
theorem dL_act_17 : decode cL_act 17 = .ok (.istore_n 3, 1) := by decide +kernel
theorem dL_act_18 : decode cL_act 18 = .ok (.iload_n 1, 1) := by decide +kernel
theorem dL_act_19 : decode cL_act 19 = .ok (.bipush 10, 2) := by decide +kernel
theorem dL_act_21 : decode cL_act 21 = .ok (.ishr, 1) := by decide +kernel
theorem dL_act_22 : decode cL_act 22 = .ok (.bipush 100, 2) := by decide +kernel
theorem dL_act_24 : decode cL_act 24 = .ok (.invokestatic 15, 3) := by decide +kernel
theorem dL_act_27 : decode cL_act 27 = .ok (.istore 4, 2) := by decide +kernel
theorem dL_act_29 : decode cL_act 29 = .ok (.iload_n 1, 1) := by decide +kernel
theorem dL_act_30 : decode cL_act 30 = .ok (.bipush 15, 2) := by decide +kernel
theorem dL_act_32 : decode cL_act 32 = .ok (.iand, 1) := by decide +kernel
theorem dL_act_33 : decode cL_act 33 = .ok (.tableswitch 270 0 14 #[75, 83, 94, 94, 103, 113, 123, 158, 199, 199, 199, 204, 225, 238, 251], 75) := by decide +kernel
theorem dL_act_108 : decode cL_act 108 = .ok (.aload_n 0, 1) := by decide +kernel
theorem dL_act_109 : decode cL_act 109 = .ok (.iload_n 3, 1) := by decide +kernel
theorem dL_act_110 : decode cL_act 110 = .ok (.iload 4, 2) := by decide +kernel
theorem dL_act_112 : decode cL_act 112 = .ok (.invokevirtual 19, 3) := by decide +kernel
theorem dL_act_115 : decode cL_act 115 = .ok (.ireturn, 1) := by decide +kernel
theorem dL_act_116 : decode cL_act 116 = .ok (.aload_n 0, 1) := by decide +kernel
theorem dL_act_117 : decode cL_act 117 = .ok (.iload_n 3, 1) := by decide +kernel
theorem dL_act_118 : decode cL_act 118 = .ok (.bipush 9, 2) := by decide +kernel
theorem dL_act_120 : decode cL_act 120 = .ok (.iload 4, 2) := by decide +kernel
theorem dL_act_122 : decode cL_act 122 = .ok (.imul, 1) := by decide +kernel
theorem dL_act_123 : decode cL_act 123 = .ok (.invokevirtual 34, 3) := by decide +kernel
theorem dL_act_126 : decode cL_act 126 = .ok (.ireturn, 1) := by decide +kernel
theorem dL_act_127 : decode cL_act 127 = .ok (.aload_n 0, 1) := by decide +kernel
theorem dL_act_128 : decode cL_act 128 = .ok (.iload_n 2, 1) := by decide +kernel
theorem dL_act_129 : decode cL_act 129 = .ok (.iload_n 3, 1) := by decide +kernel
theorem dL_act_130 : decode cL_act 130 = .ok (.iload 4, 2) := by decide +kernel
theorem dL_act_132 : decode cL_act 132 = .ok (.invokevirtual 40, 3) := by decide +kernel
theorem dL_act_135 : decode cL_act 135 = .ok (.ireturn, 1) := by decide +kernel
theorem dL_act_136 : decode cL_act 136 = .ok (.aload_n 0, 1) := by decide +kernel
theorem dL_act_137 : decode cL_act 137 = .ok (.iload_n 2, 1) := by decide +kernel
theorem dL_act_138 : decode cL_act 138 = .ok (.iload 4, 2) := by decide +kernel
theorem dL_act_140 : decode cL_act 140 = .ok (.iconst 2, 1) := by decide +kernel
theorem dL_act_141 : decode cL_act 141 = .ok (.idiv, 1) := by decide +kernel
theorem dL_act_142 : decode cL_act 142 = .ok (.invokevirtual 37, 3) := by decide +kernel
theorem dL_act_145 : decode cL_act 145 = .ok (.ireturn, 1) := by decide +kernel
theorem dL_act_146 : decode cL_act 146 = .ok (.aload_n 0, 1) := by decide +kernel
theorem dL_act_147 : decode cL_act 147 = .ok (.iload_n 2, 1) := by decide +kernel
theorem dL_act_148 : decode cL_act 148 = .ok (.iconst 1, 1) := by decide +kernel
theorem dL_act_149 : decode cL_act 149 = .ok (.iload 4, 2) := by decide +kernel
theorem dL_act_151 : decode cL_act 151 = .ok (.iadd, 1) := by decide +kernel
theorem dL_act_152 : decode cL_act 152 = .ok (.invokevirtual 68, 3) := by decide +kernel
theorem dL_act_155 : decode cL_act 155 = .ok (.ireturn, 1) := by decide +kernel
theorem dL_act_156 : decode cL_act 156 = .ok (.aload_n 0, 1) := by decide +kernel
theorem dL_act_157 : decode cL_act 157 = .ok (.ldc2_w 24, 3) := by decide +kernel
theorem dL_act_160 : decode cL_act 160 = .ok (.iload_n 2, 1) := by decide +kernel
theorem dL_act_161 : decode cL_act 161 = .ok (.iconst 5, 1) := by decide +kernel
theorem dL_act_162 : decode cL_act 162 = .ok (.irem, 1) := by decide +kernel
theorem dL_act_163 : decode cL_act 163 = .ok (.i2l, 1) := by decide +kernel
theorem dL_act_164 : decode cL_act 164 = .ok (.ladd, 1) := by decide +kernel
theorem dL_act_165 : decode cL_act 165 = .ok (.iconst 1, 1) := by decide +kernel
theorem dL_act_166 : decode cL_act 166 = .ok (.invokevirtual 26, 3) := by decide +kernel
theorem dL_act_169 : decode cL_act 169 = .ok (.bipush 100, 2) := by decide +kernel
theorem dL_act_171 : decode cL_act 171 = .ok (.iload_n 1, 1) := by decide +kernel
theorem dL_act_172 : decode cL_act 172 = .ok (.bipush 17, 2) := by decide +kernel
theorem dL_act_174 : decode cL_act 174 = .ok (.ishr, 1) := by decide +kernel
theorem dL_act_175 : decode cL_act 175 = .ok (.iconst 1, 1) := by decide +kernel
theorem dL_act_176 : decode cL_act 176 = .ok (.iand, 1) := by decide +kernel
theorem dL_act_177 : decode cL_act 177 = .ok (.ifCond .ne 10, 3) := by decide +kernel
theorem dL_act_180 : decode cL_act 180 = .ok (.aload_n 0, 1) := by decide +kernel
theorem dL_act_181 : decode cL_act 181 = .ok (.invokevirtual 30, 3) := by decide +kernel
theorem dL_act_184 : decode cL_act 184 = .ok (.goto 4, 3) := by decide +kernel
theorem dL_act_187 : decode cL_act 187 = .ok (.iconst 0, 1) := by decide +kernel
theorem dL_act_188 : decode cL_act 188 = .ok (.imul, 1) := by decide +kernel
theorem dL_act_189 : decode cL_act 189 = .ok (.iadd, 1) := by decide +kernel
theorem dL_act_190 : decode cL_act 190 = .ok (.ireturn, 1) := by decide +kernel
theorem dL_act_191 : decode cL_act 191 = .ok (.aload_n 0, 1) := by decide +kernel
theorem dL_act_192 : decode cL_act 192 = .ok (.ldc2_w 71, 3) := by decide +kernel
theorem dL_act_195 : decode cL_act 195 = .ok (.iload 4, 2) := by decide +kernel
theorem dL_act_197 : decode cL_act 197 = .ok (.bipush 10, 2) := by decide +kernel
theorem dL_act_199 : decode cL_act 199 = .ok (.irem, 1) := by decide +kernel
theorem dL_act_200 : decode cL_act 200 = .ok (.bipush 24, 2) := by decide +kernel
theorem dL_act_202 : decode cL_act 202 = .ok (.ishl, 1) := by decide +kernel
theorem dL_act_203 : decode cL_act 203 = .ok (.i2l, 1) := by decide +kernel
theorem dL_act_204 : decode cL_act 204 = .ok (.ladd, 1) := by decide +kernel
theorem dL_act_205 : decode cL_act 205 = .ok (.bipush 6, 2) := by decide +kernel
theorem dL_act_207 : decode cL_act 207 = .ok (.invokevirtual 26, 3) := by decide +kernel
theorem dL_act_210 : decode cL_act 210 = .ok (.bipush 100, 2) := by decide +kernel
theorem dL_act_212 : decode cL_act 212 = .ok (.iload_n 1, 1) := by decide +kernel
theorem dL_act_213 : decode cL_act 213 = .ok (.bipush 17, 2) := by decide +kernel
theorem dL_act_215 : decode cL_act 215 = .ok (.ishr, 1) := by decide +kernel
theorem dL_act_216 : decode cL_act 216 = .ok (.iconst 1, 1) := by decide +kernel
theorem dL_act_217 : decode cL_act 217 = .ok (.iand, 1) := by decide +kernel
theorem dL_act_218 : decode cL_act 218 = .ok (.ifCond .ne 10, 3) := by decide +kernel
theorem dL_act_221 : decode cL_act 221 = .ok (.aload_n 0, 1) := by decide +kernel
theorem dL_act_222 : decode cL_act 222 = .ok (.invokevirtual 73, 3) := by decide +kernel
theorem dL_act_225 : decode cL_act 225 = .ok (.goto 4, 3) := by decide +kernel
theorem dL_act_228 : decode cL_act 228 = .ok (.iconst 0, 1) := by decide +kernel
theorem dL_act_229 : decode cL_act 229 = .ok (.imul, 1) := by decide +kernel
theorem dL_act_230 : decode cL_act 230 = .ok (.iadd, 1) := by decide +kernel
theorem dL_act_231 : decode cL_act 231 = .ok (.ireturn, 1) := by decide +kernel
theorem dL_act_232 : decode cL_act 232 = .ok (.aload_n 0, 1) := by decide +kernel
theorem dL_act_233 : decode cL_act 233 = .ok (.invokevirtual 76, 3) := by decide +kernel
theorem dL_act_236 : decode cL_act 236 = .ok (.ireturn, 1) := by decide +kernel
theorem dL_act_237 : decode cL_act 237 = .ok (.iload_n 1, 1) := by decide +kernel
theorem dL_act_238 : decode cL_act 238 = .ok (.bipush 17, 2) := by decide +kernel
theorem dL_act_240 : decode cL_act 240 = .ok (.ishr, 1) := by decide +kernel
theorem dL_act_241 : decode cL_act 241 = .ok (.iconst 3, 1) := by decide +kernel
theorem dL_act_242 : decode cL_act 242 = .ok (.iand, 1) := by decide +kernel
theorem dL_act_243 : decode cL_act 243 = .ok (.ifCond .ne 10, 3) := by decide +kernel
theorem dL_act_246 : decode cL_act 246 = .ok (.aload_n 0, 1) := by decide +kernel
theorem dL_act_247 : decode cL_act 247 = .ok (.invokevirtual 79, 3) := by decide +kernel
theorem dL_act_250 : decode cL_act 250 = .ok (.goto 7, 3) := by decide +kernel
theorem dL_act_253 : decode cL_act 253 = .ok (.aload_n 0, 1) := by decide +kernel
theorem dL_act_254 : decode cL_act 254 = .ok (.invokevirtual 82, 3) := by decide +kernel
theorem dL_act_257 : decode cL_act 257 = .ok (.ireturn, 1) := by decide +kernel
theorem dL_act_258 : decode cL_act 258 = .ok (.aload_n 0, 1) := by decide +kernel
theorem dL_act_259 : decode cL_act 259 = .ok (.iload_n 2, 1) := by decide +kernel
theorem dL_act_260 : decode cL_act 260 = .ok (.iload_n 3, 1) := by decide +kernel
theorem dL_act_261 : decode cL_act 261 = .ok (.iconst 3, 1) := by decide +kernel
theorem dL_act_262 : decode cL_act 262 = .ok (.irem, 1) := by decide +kernel
theorem dL_act_263 : decode cL_act 263 = .ok (.iload 4, 2) := by decide +kernel
theorem dL_act_265 : decode cL_act 265 = .ok (.iconst 5, 1) := by decide +kernel
theorem dL_act_266 : decode cL_act 266 = .ok (.idiv, 1) := by decide +kernel
theorem dL_act_267 : decode cL_act 267 = .ok (.invokevirtual 85, 3) := by decide +kernel
theorem dL_act_270 : decode cL_act 270 = .ok (.ireturn, 1) := by decide +kernel
theorem dL_act_271 : decode cL_act 271 = .ok (.aload_n 0, 1) := by decide +kernel
theorem dL_act_272 : decode cL_act 272 = .ok (.iload_n 2, 1) := by decide +kernel
theorem dL_act_273 : decode cL_act 273 = .ok (.iload_n 3, 1) := by decide +kernel
theorem dL_act_274 : decode cL_act 274 = .ok (.iconst 3, 1) := by decide +kernel
theorem dL_act_275 : decode cL_act 275 = .ok (.irem, 1) := by decide +kernel
theorem dL_act_276 : decode cL_act 276 = .ok (.iload 4, 2) := by decide +kernel
theorem dL_act_278 : decode cL_act 278 = .ok (.iconst 4, 1) := by decide +kernel
theorem dL_act_279 : decode cL_act 279 = .ok (.irem, 1) := by decide +kernel
theorem dL_act_280 : decode cL_act 280 = .ok (.invokevirtual 88, 3) := by decide +kernel
theorem dL_act_283 : decode cL_act 283 = .ok (.ireturn, 1) := by decide +kernel
theorem dL_act_284 : decode cL_act 284 = .ok (.aload_n 0, 1) := by decide +kernel
theorem dL_act_285 : decode cL_act 285 = .ok (.iload_n 2, 1) := by decide +kernel
theorem dL_act_286 : decode cL_act 286 = .ok (.iload_n 3, 1) := by decide +kernel
theorem dL_act_287 : decode cL_act 287 = .ok (.iconst 3, 1) := by decide +kernel
theorem dL_act_288 : decode cL_act 288 = .ok (.irem, 1) := by decide +kernel
theorem dL_act_289 : decode cL_act 289 = .ok (.iload 4, 2) := by decide +kernel
theorem dL_act_291 : decode cL_act 291 = .ok (.iconst 4, 1) := by decide +kernel
theorem dL_act_292 : decode cL_act 292 = .ok (.irem, 1) := by decide +kernel
theorem dL_act_293 : decode cL_act 293 = .ok (.iload_n 1, 1) := by decide +kernel
theorem dL_act_294 : decode cL_act 294 = .ok (.bipush 17, 2) := by decide +kernel
theorem dL_act_296 : decode cL_act 296 = .ok (.ishr, 1) := by decide +kernel
theorem dL_act_297 : decode cL_act 297 = .ok (.iconst 1, 1) := by decide +kernel
theorem dL_act_298 : decode cL_act 298 = .ok (.iand, 1) := by decide +kernel
theorem dL_act_299 : decode cL_act 299 = .ok (.invokevirtual 91, 3) := by decide +kernel
theorem dL_act_302 : decode cL_act 302 = .ok (.ireturn, 1) := by decide +kernel
theorem dL_act_303 : decode cL_act 303 = .ok (.iload_n 1, 1) := by decide +kernel
theorem dL_act_304 : decode cL_act 304 = .ok (.bipush 17, 2) := by decide +kernel
theorem dL_act_306 : decode cL_act 306 = .ok (.ishr, 1) := by decide +kernel
theorem dL_act_307 : decode cL_act 307 = .ok (.iconst 3, 1) := by decide +kernel
theorem dL_act_308 : decode cL_act 308 = .ok (.iand, 1) := by decide +kernel
theorem dL_act_309 : decode cL_act 309 = .ok (.ifCond .ne 10, 3) := by decide +kernel
theorem dL_act_312 : decode cL_act 312 = .ok (.aload_n 0, 1) := by decide +kernel
theorem dL_act_313 : decode cL_act 313 = .ok (.invokevirtual 95, 3) := by decide +kernel
theorem dL_act_316 : decode cL_act 316 = .ok (.goto 8, 3) := by decide +kernel
theorem dL_act_319 : decode cL_act 319 = .ok (.aload_n 0, 1) := by decide +kernel
theorem dL_act_320 : decode cL_act 320 = .ok (.iload_n 2, 1) := by decide +kernel
theorem dL_act_321 : decode cL_act 321 = .ok (.invokevirtual 98, 3) := by decide +kernel
theorem dL_act_324 : decode cL_act 324 = .ok (.ireturn, 1) := by decide +kernel
theorem dL_isLeft_0 : decode cL_isLeft 0 = .ok (.iload_n 1, 1) := by decide +kernel
theorem dL_isLeft_1 : decode cL_isLeft 1 = .ok (.iconst 1, 1) := by decide +kernel
theorem dL_isLeft_2 : decode cL_isLeft 2 = .ok (.iand, 1) := by decide +kernel
theorem dL_isLeft_3 : decode cL_isLeft 3 = .ok (.ifCond .ne 16, 3) := by decide +kernel
theorem dL_isLeft_6 : decode cL_isLeft 6 = .ok (.bipush 6, 2) := by decide +kernel
theorem dL_isLeft_8 : decode cL_isLeft 8 = .ok (.iload_n 1, 1) := by decide +kernel
theorem dL_isLeft_9 : decode cL_isLeft 9 = .ok (.iconst 1, 1) := by decide +kernel
theorem dL_isLeft_10 : decode cL_isLeft 10 = .ok (.ishr, 1) := by decide +kernel
theorem dL_isLeft_11 : decode cL_isLeft 11 = .ok (.sipush 1023, 3) := by decide +kernel
theorem dL_isLeft_14 : decode cL_isLeft 14 = .ok (.iand, 1) := by decide +kernel
theorem dL_isLeft_15 : decode cL_isLeft 15 = .ok (.iadd, 1) := by decide +kernel
theorem dL_isLeft_16 : decode cL_isLeft 16 = .ok (.goto 13, 3) := by decide +kernel
theorem dL_isLeft_19 : decode cL_isLeft 19 = .ok (.bipush (-3), 2) := by decide +kernel
theorem dL_isLeft_21 : decode cL_isLeft 21 = .ok (.iload_n 1, 1) := by decide +kernel
theorem dL_isLeft_22 : decode cL_isLeft 22 = .ok (.iconst 1, 1) := by decide +kernel
theorem dL_isLeft_23 : decode cL_isLeft 23 = .ok (.ishr, 1) := by decide +kernel
theorem dL_isLeft_24 : decode cL_isLeft 24 = .ok (.sipush 1023, 3) := by decide +kernel
theorem dL_isLeft_27 : decode cL_isLeft 27 = .ok (.iand, 1) := by decide +kernel
theorem dL_isLeft_28 : decode cL_isLeft 28 = .ok (.isub, 1) := by decide +kernel
theorem dL_isLeft_29 : decode cL_isLeft 29 = .ok (.istore_n 2, 1) := by decide +kernel
theorem dL_isLeft_30 : decode cL_isLeft 30 = .ok (.aload_n 0, 1) := by decide +kernel
theorem dL_isLeft_31 : decode cL_isLeft 31 = .ok (.iload_n 2, 1) := by decide +kernel
theorem dL_isLeft_32 : decode cL_isLeft 32 = .ok (.iconst 5, 1) := by decide +kernel
theorem dL_isLeft_33 : decode cL_isLeft 33 = .ok (.invokevirtual 19, 3) := by decide +kernel
theorem dL_isLeft_36 : decode cL_isLeft 36 = .ok (.iconst (-1), 1) := by decide +kernel
theorem dL_isLeft_37 : decode cL_isLeft 37 = .ok (.if_icmp .ne 305, 3) := by decide +kernel
theorem dL_isLeft_40 : decode cL_isLeft 40 = .ok (.aload_n 0, 1) := by decide +kernel
theorem dL_isLeft_41 : decode cL_isLeft 41 = .ok (.iconst 1, 1) := by decide +kernel
theorem dL_isLeft_42 : decode cL_isLeft 42 = .ok (.bipush 10, 2) := by decide +kernel
theorem dL_isLeft_44 : decode cL_isLeft 44 = .ok (.invokevirtual 19, 3) := by decide +kernel
theorem dL_isLeft_47 : decode cL_isLeft 47 = .ok (.iconst (-1), 1) := by decide +kernel
theorem dL_isLeft_48 : decode cL_isLeft 48 = .ok (.if_icmp .ne 294, 3) := by decide +kernel
theorem dL_isLeft_51 : decode cL_isLeft 51 = .ok (.aload_n 0, 1) := by decide +kernel
theorem dL_isLeft_52 : decode cL_isLeft 52 = .ok (.iload_n 2, 1) := by decide +kernel
theorem dL_isLeft_53 : decode cL_isLeft 53 = .ok (.iconst 0, 1) := by decide +kernel
theorem dL_isLeft_54 : decode cL_isLeft 54 = .ok (.invokevirtual 34, 3) := by decide +kernel
theorem dL_isLeft_57 : decode cL_isLeft 57 = .ok (.iconst (-1), 1) := by decide +kernel
theorem dL_isLeft_58 : decode cL_isLeft 58 = .ok (.if_icmp .ne 284, 3) := by decide +kernel
theorem dL_isLeft_61 : decode cL_isLeft 61 = .ok (.aload_n 0, 1) := by decide +kernel
theorem dL_isLeft_62 : decode cL_isLeft 62 = .ok (.iconst 0, 1) := by decide +kernel
theorem dL_isLeft_63 : decode cL_isLeft 63 = .ok (.sipush 1000, 3) := by decide +kernel
theorem dL_isLeft_66 : decode cL_isLeft 66 = .ok (.invokevirtual 34, 3) := by decide +kernel
theorem dL_isLeft_69 : decode cL_isLeft 69 = .ok (.iconst (-1), 1) := by decide +kernel
theorem dL_isLeft_70 : decode cL_isLeft 70 = .ok (.if_icmp .ne 272, 3) := by decide +kernel
theorem dL_isLeft_73 : decode cL_isLeft 73 = .ok (.aload_n 0, 1) := by decide +kernel
theorem dL_isLeft_74 : decode cL_isLeft 74 = .ok (.iload_n 2, 1) := by decide +kernel
theorem dL_isLeft_75 : decode cL_isLeft 75 = .ok (.iconst 0, 1) := by decide +kernel
theorem dL_isLeft_76 : decode cL_isLeft 76 = .ok (.iconst 0, 1) := by decide +kernel
theorem dL_isLeft_77 : decode cL_isLeft 77 = .ok (.invokevirtual 40, 3) := by decide +kernel
theorem dL_isLeft_80 : decode cL_isLeft 80 = .ok (.iconst (-1), 1) := by decide +kernel
theorem dL_isLeft_81 : decode cL_isLeft 81 = .ok (.if_icmp .ne 261, 3) := by decide +kernel
theorem dL_isLeft_84 : decode cL_isLeft 84 = .ok (.aload_n 0, 1) := by decide +kernel
theorem dL_isLeft_85 : decode cL_isLeft 85 = .ok (.iconst 0, 1) := by decide +kernel
theorem dL_isLeft_86 : decode cL_isLeft 86 = .ok (.iload_n 2, 1) := by decide +kernel
theorem dL_isLeft_87 : decode cL_isLeft 87 = .ok (.iconst 0, 1) := by decide +kernel
theorem dL_isLeft_88 : decode cL_isLeft 88 = .ok (.invokevirtual 40, 3) := by decide +kernel
theorem dL_isLeft_91 : decode cL_isLeft 91 = .ok (.iconst (-1), 1) := by decide +kernel
theorem dL_isLeft_92 : decode cL_isLeft 92 = .ok (.if_icmp .ne 250, 3) := by decide +kernel
theorem dL_isLeft_95 : decode cL_isLeft 95 = .ok (.aload_n 0, 1) := by decide +kernel
theorem dL_isLeft_96 : decode cL_isLeft 96 = .ok (.iconst 0, 1) := by decide +kernel
theorem dL_isLeft_97 : decode cL_isLeft 97 = .ok (.bipush 41, 2) := by decide +kernel
theorem dL_isLeft_99 : decode cL_isLeft 99 = .ok (.invokevirtual 37, 3) := by decide +kernel
theorem dL_isLeft_102 : decode cL_isLeft 102 = .ok (.iconst (-1), 1) := by decide +kernel
theorem dL_isLeft_103 : decode cL_isLeft 103 = .ok (.if_icmp .ne 239, 3) := by decide +kernel
theorem dL_isLeft_106 : decode cL_isLeft 106 = .ok (.aload_n 0, 1) := by decide +kernel
theorem dL_isLeft_107 : decode cL_isLeft 107 = .ok (.iload_n 2, 1) := by decide +kernel
theorem dL_isLeft_108 : decode cL_isLeft 108 = .ok (.iconst 0, 1) := by decide +kernel
theorem dL_isLeft_109 : decode cL_isLeft 109 = .ok (.invokevirtual 102, 3) := by decide +kernel
theorem dL_isLeft_112 : decode cL_isLeft 112 = .ok (.ldc 105, 2) := by decide +kernel
theorem dL_isLeft_114 : decode cL_isLeft 114 = .ok (.if_icmp .ne 228, 3) := by decide +kernel
theorem dL_isLeft_117 : decode cL_isLeft 117 = .ok (.aload_n 0, 1) := by decide +kernel
theorem dL_isLeft_118 : decode cL_isLeft 118 = .ok (.iconst 0, 1) := by decide +kernel
theorem dL_isLeft_119 : decode cL_isLeft 119 = .ok (.iconst 0, 1) := by decide +kernel
theorem dL_isLeft_120 : decode cL_isLeft 120 = .ok (.invokevirtual 68, 3) := by decide +kernel
theorem dL_isLeft_123 : decode cL_isLeft 123 = .ok (.ldc 105, 2) := by decide +kernel
theorem dL_isLeft_125 : decode cL_isLeft 125 = .ok (.if_icmp .ne 217, 3) := by decide +kernel
theorem dL_isLeft_128 : decode cL_isLeft 128 = .ok (.aload_n 0, 1) := by decide +kernel
theorem dL_isLeft_129 : decode cL_isLeft 129 = .ok (.lconst 0, 1) := by decide +kernel
theorem dL_isLeft_130 : decode cL_isLeft 130 = .ok (.iconst 1, 1) := by decide +kernel
theorem dL_isLeft_131 : decode cL_isLeft 131 = .ok (.invokevirtual 26, 3) := by decide +kernel
theorem dL_isLeft_134 : decode cL_isLeft 134 = .ok (.iconst (-1), 1) := by decide +kernel
theorem dL_isLeft_135 : decode cL_isLeft 135 = .ok (.if_icmp .ne 207, 3) := by decide +kernel
theorem dL_isLeft_138 : decode cL_isLeft 138 = .ok (.aload_n 0, 1) := by decide +kernel
theorem dL_isLeft_139 : decode cL_isLeft 139 = .ok (.iload_n 2, 1) := by decide +kernel
theorem dL_isLeft_140 : decode cL_isLeft 140 = .ok (.invokevirtual 106, 3) := by decide +kernel
theorem dL_isLeft_143 : decode cL_isLeft 143 = .ok (.iconst (-1), 1) := by decide +kernel
theorem dL_isLeft_144 : decode cL_isLeft 144 = .ok (.if_icmp .ne 198, 3) := by decide +kernel
theorem dL_isLeft_147 : decode cL_isLeft 147 = .ok (.aload_n 0, 1) := by decide +kernel
theorem dL_isLeft_148 : decode cL_isLeft 148 = .ok (.iload_n 2, 1) := by decide +kernel
theorem dL_isLeft_149 : decode cL_isLeft 149 = .ok (.iconst 0, 1) := by decide +kernel
theorem dL_isLeft_150 : decode cL_isLeft 150 = .ok (.invokevirtual 109, 3) := by decide +kernel
theorem dL_isLeft_153 : decode cL_isLeft 153 = .ok (.iconst (-1), 1) := by decide +kernel
theorem dL_isLeft_154 : decode cL_isLeft 154 = .ok (.if_icmp .ne 188, 3) := by decide +kernel
theorem dL_isLeft_157 : decode cL_isLeft 157 = .ok (.aload_n 0, 1) := by decide +kernel
theorem dL_isLeft_158 : decode cL_isLeft 158 = .ok (.iload_n 2, 1) := by decide +kernel
theorem dL_isLeft_159 : decode cL_isLeft 159 = .ok (.invokevirtual 112, 3) := by decide +kernel
theorem dL_isLeft_162 : decode cL_isLeft 162 = .ok (.ldc 105, 2) := by decide +kernel
theorem dL_isLeft_164 : decode cL_isLeft 164 = .ok (.if_icmp .ne 178, 3) := by decide +kernel
theorem dL_isLeft_167 : decode cL_isLeft 167 = .ok (.aload_n 0, 1) := by decide +kernel
theorem dL_isLeft_168 : decode cL_isLeft 168 = .ok (.iload_n 2, 1) := by decide +kernel
theorem dL_isLeft_169 : decode cL_isLeft 169 = .ok (.invokevirtual 115, 3) := by decide +kernel
theorem dL_isLeft_172 : decode cL_isLeft 172 = .ok (.iconst (-1), 1) := by decide +kernel
theorem dL_isLeft_173 : decode cL_isLeft 173 = .ok (.if_icmp .ne 169, 3) := by decide +kernel
theorem dL_isLeft_176 : decode cL_isLeft 176 = .ok (.aload_n 0, 1) := by decide +kernel
theorem dL_isLeft_177 : decode cL_isLeft 177 = .ok (.iload_n 2, 1) := by decide +kernel
theorem dL_isLeft_178 : decode cL_isLeft 178 = .ok (.iconst 0, 1) := by decide +kernel
theorem dL_isLeft_179 : decode cL_isLeft 179 = .ok (.iconst 0, 1) := by decide +kernel
theorem dL_isLeft_180 : decode cL_isLeft 180 = .ok (.invokevirtual 118, 3) := by decide +kernel
theorem dL_isLeft_183 : decode cL_isLeft 183 = .ok (.iconst (-1), 1) := by decide +kernel
theorem dL_isLeft_184 : decode cL_isLeft 184 = .ok (.if_icmp .ne 158, 3) := by decide +kernel
theorem dL_isLeft_187 : decode cL_isLeft 187 = .ok (.aload_n 0, 1) := by decide +kernel
theorem dL_isLeft_188 : decode cL_isLeft 188 = .ok (.iload_n 2, 1) := by decide +kernel
theorem dL_isLeft_189 : decode cL_isLeft 189 = .ok (.invokevirtual 121, 3) := by decide +kernel
theorem dL_isLeft_192 : decode cL_isLeft 192 = .ok (.iconst (-1), 1) := by decide +kernel
theorem dL_isLeft_193 : decode cL_isLeft 193 = .ok (.if_icmp .ne 149, 3) := by decide +kernel
theorem dL_isLeft_196 : decode cL_isLeft 196 = .ok (.aload_n 0, 1) := by decide +kernel
theorem dL_isLeft_197 : decode cL_isLeft 197 = .ok (.iload_n 2, 1) := by decide +kernel
theorem dL_isLeft_198 : decode cL_isLeft 198 = .ok (.invokevirtual 124, 3) := by decide +kernel
theorem dL_isLeft_201 : decode cL_isLeft 201 = .ok (.iconst (-1), 1) := by decide +kernel
theorem dL_isLeft_202 : decode cL_isLeft 202 = .ok (.if_icmp .ne 140, 3) := by decide +kernel
theorem dL_isLeft_205 : decode cL_isLeft 205 = .ok (.aload_n 0, 1) := by decide +kernel
theorem dL_isLeft_206 : decode cL_isLeft 206 = .ok (.iload_n 2, 1) := by decide +kernel
theorem dL_isLeft_207 : decode cL_isLeft 207 = .ok (.invokevirtual 127, 3) := by decide +kernel
theorem dL_isLeft_210 : decode cL_isLeft 210 = .ok (.iconst (-1), 1) := by decide +kernel
theorem dL_isLeft_211 : decode cL_isLeft 211 = .ok (.if_icmp .ne 131, 3) := by decide +kernel
theorem dL_isLeft_214 : decode cL_isLeft 214 = .ok (.aload_n 0, 1) := by decide +kernel
theorem dL_isLeft_215 : decode cL_isLeft 215 = .ok (.bipush 64, 2) := by decide +kernel
theorem dL_isLeft_217 : decode cL_isLeft 217 = .ok (.invokevirtual 130, 3) := by decide +kernel
theorem dL_isLeft_220 : decode cL_isLeft 220 = .ok (.ldc 105, 2) := by decide +kernel
theorem dL_isLeft_222 : decode cL_isLeft 222 = .ok (.if_icmp .ne 120, 3) := by decide +kernel
theorem dL_isLeft_225 : decode cL_isLeft 225 = .ok (.aload_n 0, 1) := by decide +kernel
theorem dL_isLeft_226 : decode cL_isLeft 226 = .ok (.iconst 1, 1) := by decide +kernel
theorem dL_isLeft_227 : decode cL_isLeft 227 = .ok (.invokevirtual 130, 3) := by decide +kernel
theorem dL_isLeft_230 : decode cL_isLeft 230 = .ok (.ldc 105, 2) := by decide +kernel
theorem dL_isLeft_232 : decode cL_isLeft 232 = .ok (.if_icmp .ne 110, 3) := by decide +kernel
theorem dL_isLeft_235 : decode cL_isLeft 235 = .ok (.aload_n 0, 1) := by decide +kernel
theorem dL_isLeft_236 : decode cL_isLeft 236 = .ok (.iload_n 2, 1) := by decide +kernel
theorem dL_isLeft_237 : decode cL_isLeft 237 = .ok (.iconst 0, 1) := by decide +kernel
theorem dL_isLeft_238 : decode cL_isLeft 238 = .ok (.iconst 0, 1) := by decide +kernel
theorem dL_isLeft_239 : decode cL_isLeft 239 = .ok (.invokevirtual 85, 3) := by decide +kernel
theorem dL_isLeft_242 : decode cL_isLeft 242 = .ok (.iconst (-1), 1) := by decide +kernel
theorem dL_isLeft_243 : decode cL_isLeft 243 = .ok (.if_icmp .ne 99, 3) := by decide +kernel
theorem dL_isLeft_246 : decode cL_isLeft 246 = .ok (.aload_n 0, 1) := by decide +kernel
theorem dL_isLeft_247 : decode cL_isLeft 247 = .ok (.iconst 0, 1) := by decide +kernel
theorem dL_isLeft_248 : decode cL_isLeft 248 = .ok (.iconst 3, 1) := by decide +kernel
theorem dL_isLeft_249 : decode cL_isLeft 249 = .ok (.iconst 0, 1) := by decide +kernel
theorem dL_isLeft_250 : decode cL_isLeft 250 = .ok (.invokevirtual 85, 3) := by decide +kernel
theorem dL_isLeft_253 : decode cL_isLeft 253 = .ok (.iconst (-1), 1) := by decide +kernel
theorem dL_isLeft_254 : decode cL_isLeft 254 = .ok (.if_icmp .ne 88, 3) := by decide +kernel
theorem dL_isLeft_257 : decode cL_isLeft 257 = .ok (.aload_n 0, 1) := by decide +kernel
theorem dL_isLeft_258 : decode cL_isLeft 258 = .ok (.iconst 0, 1) := by decide +kernel
theorem dL_isLeft_259 : decode cL_isLeft 259 = .ok (.iconst 0, 1) := by decide +kernel
theorem dL_isLeft_260 : decode cL_isLeft 260 = .ok (.bipush 17, 2) := by decide +kernel
theorem dL_isLeft_262 : decode cL_isLeft 262 = .ok (.invokevirtual 85, 3) := by decide +kernel
theorem dL_isLeft_265 : decode cL_isLeft 265 = .ok (.iconst (-1), 1) := by decide +kernel
theorem dL_isLeft_266 : decode cL_isLeft 266 = .ok (.if_icmp .ne 76, 3) := by decide +kernel
theorem dL_isLeft_269 : decode cL_isLeft 269 = .ok (.aload_n 0, 1) := by decide +kernel
theorem dL_isLeft_270 : decode cL_isLeft 270 = .ok (.iconst 0, 1) := by decide +kernel
theorem dL_isLeft_271 : decode cL_isLeft 271 = .ok (.iconst 0, 1) := by decide +kernel
theorem dL_isLeft_272 : decode cL_isLeft 272 = .ok (.iconst (-1), 1) := by decide +kernel
theorem dL_isLeft_273 : decode cL_isLeft 273 = .ok (.invokevirtual 85, 3) := by decide +kernel
theorem dL_isLeft_276 : decode cL_isLeft 276 = .ok (.bipush (-14), 2) := by decide +kernel
theorem dL_isLeft_278 : decode cL_isLeft 278 = .ok (.if_icmp .ne 64, 3) := by decide +kernel
theorem dL_isLeft_281 : decode cL_isLeft 281 = .ok (.aload_n 0, 1) := by decide +kernel
theorem dL_isLeft_282 : decode cL_isLeft 282 = .ok (.iload_n 2, 1) := by decide +kernel
theorem dL_isLeft_283 : decode cL_isLeft 283 = .ok (.invokevirtual 98, 3) := by decide +kernel
theorem dL_isLeft_286 : decode cL_isLeft 286 = .ok (.iconst (-1), 1) := by decide +kernel
theorem dL_isLeft_287 : decode cL_isLeft 287 = .ok (.if_icmp .ne 55, 3) := by decide +kernel
theorem dL_isLeft_290 : decode cL_isLeft 290 = .ok (.aload_n 0, 1) := by decide +kernel
theorem dL_isLeft_291 : decode cL_isLeft 291 = .ok (.iload_n 2, 1) := by decide +kernel
theorem dL_isLeft_292 : decode cL_isLeft 292 = .ok (.iconst 0, 1) := by decide +kernel
theorem dL_isLeft_293 : decode cL_isLeft 293 = .ok (.iconst 0, 1) := by decide +kernel
theorem dL_isLeft_294 : decode cL_isLeft 294 = .ok (.lconst 0, 1) := by decide +kernel
theorem dL_isLeft_295 : decode cL_isLeft 295 = .ok (.invokevirtual 133, 3) := by decide +kernel
theorem dL_isLeft_298 : decode cL_isLeft 298 = .ok (.iconst (-1), 1) := by decide +kernel
theorem dL_isLeft_299 : decode cL_isLeft 299 = .ok (.if_icmp .ne 43, 3) := by decide +kernel
theorem dL_isLeft_302 : decode cL_isLeft 302 = .ok (.aload_n 0, 1) := by decide +kernel
theorem dL_isLeft_303 : decode cL_isLeft 303 = .ok (.iload_n 2, 1) := by decide +kernel
theorem dL_isLeft_304 : decode cL_isLeft 304 = .ok (.iconst 0, 1) := by decide +kernel
theorem dL_isLeft_305 : decode cL_isLeft 305 = .ok (.iconst 0, 1) := by decide +kernel
theorem dL_isLeft_306 : decode cL_isLeft 306 = .ok (.iconst 0, 1) := by decide +kernel
theorem dL_isLeft_307 : decode cL_isLeft 307 = .ok (.iconst 0, 1) := by decide +kernel
theorem dL_isLeft_308 : decode cL_isLeft 308 = .ok (.invokevirtual 137, 3) := by decide +kernel
theorem dL_isLeft_311 : decode cL_isLeft 311 = .ok (.iconst (-1), 1) := by decide +kernel
theorem dL_isLeft_312 : decode cL_isLeft 312 = .ok (.if_icmp .ne 30, 3) := by decide +kernel
theorem dL_isLeft_315 : decode cL_isLeft 315 = .ok (.aload_n 0, 1) := by decide +kernel
theorem dL_isLeft_316 : decode cL_isLeft 316 = .ok (.iload_n 2, 1) := by decide +kernel
theorem dL_isLeft_317 : decode cL_isLeft 317 = .ok (.iconst 0, 1) := by decide +kernel
theorem dL_isLeft_318 : decode cL_isLeft 318 = .ok (.iconst 0, 1) := by decide +kernel
theorem dL_isLeft_319 : decode cL_isLeft 319 = .ok (.invokevirtual 88, 3) := by decide +kernel
theorem dL_isLeft_322 : decode cL_isLeft 322 = .ok (.iconst (-1), 1) := by decide +kernel
theorem dL_isLeft_323 : decode cL_isLeft 323 = .ok (.if_icmp .ne 19, 3) := by decide +kernel
theorem dL_isLeft_326 : decode cL_isLeft 326 = .ok (.aload_n 0, 1) := by decide +kernel
theorem dL_isLeft_327 : decode cL_isLeft 327 = .ok (.iconst 0, 1) := by decide +kernel
theorem dL_isLeft_328 : decode cL_isLeft 328 = .ok (.iconst 0, 1) := by decide +kernel
theorem dL_isLeft_329 : decode cL_isLeft 329 = .ok (.iconst 0, 1) := by decide +kernel
theorem dL_isLeft_330 : decode cL_isLeft 330 = .ok (.iconst 2, 1) := by decide +kernel
theorem dL_isLeft_331 : decode cL_isLeft 331 = .ok (.invokevirtual 91, 3) := by decide +kernel
theorem dL_isLeft_334 : decode cL_isLeft 334 = .ok (.iconst (-1), 1) := by decide +kernel
theorem dL_isLeft_335 : decode cL_isLeft 335 = .ok (.if_icmp .ne 7, 3) := by decide +kernel
theorem dL_isLeft_338 : decode cL_isLeft 338 = .ok (.iconst 1, 1) := by decide +kernel
theorem dL_isLeft_339 : decode cL_isLeft 339 = .ok (.goto 4, 3) := by decide +kernel
theorem dL_isLeft_342 : decode cL_isLeft 342 = .ok (.iconst 0, 1) := by decide +kernel
theorem dL_isLeft_343 : decode cL_isLeft 343 = .ok (.istore_n 3, 1) := by decide +kernel
theorem dL_isLeft_344 : decode cL_isLeft 344 = .ok (.aload_n 0, 1) := by decide +kernel
theorem dL_isLeft_345 : decode cL_isLeft 345 = .ok (.iconst 0, 1) := by decide +kernel
theorem dL_isLeft_346 : decode cL_isLeft 346 = .ok (.invokevirtual 115, 3) := by decide +kernel
theorem dL_isLeft_349 : decode cL_isLeft 349 = .ok (.aload_n 0, 1) := by decide +kernel
theorem dL_isLeft_350 : decode cL_isLeft 350 = .ok (.iconst 1, 1) := by decide +kernel
theorem dL_isLeft_351 : decode cL_isLeft 351 = .ok (.invokevirtual 115, 3) := by decide +kernel
theorem dL_isLeft_354 : decode cL_isLeft 354 = .ok (.iadd, 1) := by decide +kernel
theorem dL_isLeft_355 : decode cL_isLeft 355 = .ok (.aload_n 0, 1) := by decide +kernel
theorem dL_isLeft_356 : decode cL_isLeft 356 = .ok (.iconst 2, 1) := by decide +kernel
theorem dL_isLeft_357 : decode cL_isLeft 357 = .ok (.invokevirtual 115, 3) := by decide +kernel
theorem dL_isLeft_360 : decode cL_isLeft 360 = .ok (.iadd, 1) := by decide +kernel
theorem dL_isLeft_361 : decode cL_isLeft 361 = .ok (.aload_n 0, 1) := by decide +kernel
theorem dL_isLeft_362 : decode cL_isLeft 362 = .ok (.iconst 3, 1) := by decide +kernel
theorem dL_isLeft_363 : decode cL_isLeft 363 = .ok (.invokevirtual 106, 3) := by decide +kernel
theorem dL_isLeft_366 : decode cL_isLeft 366 = .ok (.iadd, 1) := by decide +kernel
theorem dL_isLeft_367 : decode cL_isLeft 367 = .ok (.aload_n 0, 1) := by decide +kernel
theorem dL_isLeft_368 : decode cL_isLeft 368 = .ok (.iconst 0, 1) := by decide +kernel
theorem dL_isLeft_369 : decode cL_isLeft 369 = .ok (.invokevirtual 121, 3) := by decide +kernel
theorem dL_isLeft_372 : decode cL_isLeft 372 = .ok (.iadd, 1) := by decide +kernel
theorem dL_isLeft_373 : decode cL_isLeft 373 = .ok (.aload_n 0, 1) := by decide +kernel
theorem dL_isLeft_374 : decode cL_isLeft 374 = .ok (.iconst 0, 1) := by decide +kernel
theorem dL_isLeft_375 : decode cL_isLeft 375 = .ok (.invokevirtual 127, 3) := by decide +kernel
theorem dL_isLeft_378 : decode cL_isLeft 378 = .ok (.iadd, 1) := by decide +kernel
theorem dL_isLeft_379 : decode cL_isLeft 379 = .ok (.aload_n 0, 1) := by decide +kernel
theorem dL_isLeft_380 : decode cL_isLeft 380 = .ok (.iconst 0, 1) := by decide +kernel
theorem dL_isLeft_381 : decode cL_isLeft 381 = .ok (.iconst 1, 1) := by decide +kernel
theorem dL_isLeft_382 : decode cL_isLeft 382 = .ok (.invokevirtual 109, 3) := by decide +kernel
theorem dL_isLeft_385 : decode cL_isLeft 385 = .ok (.ifCond .ge 7, 3) := by decide +kernel
theorem dL_isLeft_388 : decode cL_isLeft 388 = .ok (.iconst 0, 1) := by decide +kernel
theorem dL_isLeft_389 : decode cL_isLeft 389 = .ok (.goto 9, 3) := by decide +kernel
theorem dL_isLeft_392 : decode cL_isLeft 392 = .ok (.aload_n 0, 1) := by decide +kernel
theorem dL_isLeft_393 : decode cL_isLeft 393 = .ok (.iconst 0, 1) := by decide +kernel
theorem dL_isLeft_394 : decode cL_isLeft 394 = .ok (.iconst 2, 1) := by decide +kernel
theorem dL_isLeft_395 : decode cL_isLeft 395 = .ok (.invokevirtual 109, 3) := by decide +kernel
theorem dL_isLeft_398 : decode cL_isLeft 398 = .ok (.iadd, 1) := by decide +kernel
theorem dL_isLeft_399 : decode cL_isLeft 399 = .ok (.istore 4, 2) := by decide +kernel
theorem dL_isLeft_401 : decode cL_isLeft 401 = .ok (.iload_n 3, 1) := by decide +kernel
theorem dL_isLeft_402 : decode cL_isLeft 402 = .ok (.ifCond .eq 14, 3) := by decide +kernel
theorem dL_isLeft_405 : decode cL_isLeft 405 = .ok (.iload 4, 2) := by decide +kernel
theorem dL_isLeft_407 : decode cL_isLeft 407 = .ok (.bipush (-99), 2) := by decide +kernel
theorem dL_isLeft_409 : decode cL_isLeft 409 = .ok (.if_icmp .le 7, 3) := by decide +kernel
theorem dL_isLeft_412 : decode cL_isLeft 412 = .ok (.iconst 1, 1) := by decide +kernel
theorem dL_isLeft_413 : decode cL_isLeft 413 = .ok (.goto 4, 3) := by decide +kernel
theorem dL_isLeft_416 : decode cL_isLeft 416 = .ok (.iconst 0, 1) := by decide +kernel
theorem dL_isLeft_417 : decode cL_isLeft 417 = .ok (.ireturn, 1) := by decide +kernel
theorem dL_areAlike_0 : decode cL_areAlike 0 = .ok (.iconst 1, 1) := by decide +kernel
theorem dL_areAlike_1 : decode cL_areAlike 1 = .ok (.istore_n 2, 1) := by decide +kernel
theorem dL_areAlike_2 : decode cL_areAlike 2 = .ok (.iconst 0, 1) := by decide +kernel
theorem dL_areAlike_3 : decode cL_areAlike 3 = .ok (.istore_n 3, 1) := by decide +kernel
theorem dL_areAlike_4 : decode cL_areAlike 4 = .ok (.iload_n 3, 1) := by decide +kernel
theorem dL_areAlike_5 : decode cL_areAlike 5 = .ok (.iconst 5, 1) := by decide +kernel
theorem dL_areAlike_6 : decode cL_areAlike 6 = .ok (.if_icmp .ge 138, 3) := by decide +kernel
theorem dL_areAlike_9 : decode cL_areAlike 9 = .ok (.iload_n 2, 1) := by decide +kernel
theorem dL_areAlike_10 : decode cL_areAlike 10 = .ok (.ifCond .eq 126, 3) := by decide +kernel
theorem dL_areAlike_13 : decode cL_areAlike 13 = .ok (.aload_n 0, 1) := by decide +kernel
theorem dL_areAlike_14 : decode cL_areAlike 14 = .ok (.iload_n 3, 1) := by decide +kernel
theorem dL_areAlike_15 : decode cL_areAlike 15 = .ok (.invokevirtual 106, 3) := by decide +kernel
theorem dL_areAlike_18 : decode cL_areAlike 18 = .ok (.aload_n 1, 1) := by decide +kernel
theorem dL_areAlike_19 : decode cL_areAlike 19 = .ok (.iload_n 3, 1) := by decide +kernel
theorem dL_areAlike_20 : decode cL_areAlike 20 = .ok (.invokevirtual 106, 3) := by decide +kernel
theorem dL_areAlike_23 : decode cL_areAlike 23 = .ok (.if_icmp .ne 113, 3) := by decide +kernel
theorem dL_areAlike_26 : decode cL_areAlike 26 = .ok (.aload_n 0, 1) := by decide +kernel
theorem dL_areAlike_27 : decode cL_areAlike 27 = .ok (.iload_n 3, 1) := by decide +kernel
theorem dL_areAlike_28 : decode cL_areAlike 28 = .ok (.iload_n 3, 1) := by decide +kernel
theorem dL_areAlike_29 : decode cL_areAlike 29 = .ok (.invokevirtual 102, 3) := by decide +kernel
theorem dL_areAlike_32 : decode cL_areAlike 32 = .ok (.aload_n 1, 1) := by decide +kernel
theorem dL_areAlike_33 : decode cL_areAlike 33 = .ok (.iload_n 3, 1) := by decide +kernel
theorem dL_areAlike_34 : decode cL_areAlike 34 = .ok (.iload_n 3, 1) := by decide +kernel
theorem dL_areAlike_35 : decode cL_areAlike 35 = .ok (.invokevirtual 102, 3) := by decide +kernel
theorem dL_areAlike_38 : decode cL_areAlike 38 = .ok (.if_icmp .ne 98, 3) := by decide +kernel
theorem dL_areAlike_41 : decode cL_areAlike 41 = .ok (.aload_n 0, 1) := by decide +kernel
theorem dL_areAlike_42 : decode cL_areAlike 42 = .ok (.iload_n 3, 1) := by decide +kernel
theorem dL_areAlike_43 : decode cL_areAlike 43 = .ok (.bipush 6, 2) := by decide +kernel
theorem dL_areAlike_45 : decode cL_areAlike 45 = .ok (.invokevirtual 102, 3) := by decide +kernel
theorem dL_areAlike_48 : decode cL_areAlike 48 = .ok (.aload_n 1, 1) := by decide +kernel
theorem dL_areAlike_49 : decode cL_areAlike 49 = .ok (.iload_n 3, 1) := by decide +kernel
theorem dL_areAlike_50 : decode cL_areAlike 50 = .ok (.bipush 6, 2) := by decide +kernel
theorem dL_areAlike_52 : decode cL_areAlike 52 = .ok (.invokevirtual 102, 3) := by decide +kernel
theorem dL_areAlike_55 : decode cL_areAlike 55 = .ok (.if_icmp .ne 81, 3) := by decide +kernel
theorem dL_areAlike_58 : decode cL_areAlike 58 = .ok (.aload_n 0, 1) := by decide +kernel
theorem dL_areAlike_59 : decode cL_areAlike 59 = .ok (.iload_n 3, 1) := by decide +kernel
theorem dL_areAlike_60 : decode cL_areAlike 60 = .ok (.invokevirtual 112, 3) := by decide +kernel
theorem dL_areAlike_63 : decode cL_areAlike 63 = .ok (.aload_n 1, 1) := by decide +kernel
theorem dL_areAlike_64 : decode cL_areAlike 64 = .ok (.iload_n 3, 1) := by decide +kernel
theorem dL_areAlike_65 : decode cL_areAlike 65 = .ok (.invokevirtual 112, 3) := by decide +kernel
theorem dL_areAlike_68 : decode cL_areAlike 68 = .ok (.if_icmp .ne 68, 3) := by decide +kernel
theorem dL_areAlike_71 : decode cL_areAlike 71 = .ok (.aload_n 0, 1) := by decide +kernel
theorem dL_areAlike_72 : decode cL_areAlike 72 = .ok (.iload_n 3, 1) := by decide +kernel
theorem dL_areAlike_73 : decode cL_areAlike 73 = .ok (.iload_n 3, 1) := by decide +kernel
theorem dL_areAlike_74 : decode cL_areAlike 74 = .ok (.iconst 4, 1) := by decide +kernel
theorem dL_areAlike_75 : decode cL_areAlike 75 = .ok (.irem, 1) := by decide +kernel
theorem dL_areAlike_76 : decode cL_areAlike 76 = .ok (.iconst 0, 1) := by decide +kernel
theorem dL_areAlike_77 : decode cL_areAlike 77 = .ok (.invokevirtual 118, 3) := by decide +kernel
theorem dL_areAlike_80 : decode cL_areAlike 80 = .ok (.aload_n 1, 1) := by decide +kernel
theorem dL_areAlike_81 : decode cL_areAlike 81 = .ok (.iload_n 3, 1) := by decide +kernel
theorem dL_areAlike_82 : decode cL_areAlike 82 = .ok (.iload_n 3, 1) := by decide +kernel
theorem dL_areAlike_83 : decode cL_areAlike 83 = .ok (.iconst 4, 1) := by decide +kernel
theorem dL_areAlike_84 : decode cL_areAlike 84 = .ok (.irem, 1) := by decide +kernel
theorem dL_areAlike_85 : decode cL_areAlike 85 = .ok (.iconst 0, 1) := by decide +kernel
theorem dL_areAlike_86 : decode cL_areAlike 86 = .ok (.invokevirtual 118, 3) := by decide +kernel
theorem dL_areAlike_89 : decode cL_areAlike 89 = .ok (.if_icmp .ne 47, 3) := by decide +kernel
theorem dL_areAlike_92 : decode cL_areAlike 92 = .ok (.aload_n 0, 1) := by decide +kernel
theorem dL_areAlike_93 : decode cL_areAlike 93 = .ok (.iload_n 3, 1) := by decide +kernel
theorem dL_areAlike_94 : decode cL_areAlike 94 = .ok (.iconst 3, 1) := by decide +kernel
theorem dL_areAlike_95 : decode cL_areAlike 95 = .ok (.iload_n 3, 1) := by decide +kernel
theorem dL_areAlike_96 : decode cL_areAlike 96 = .ok (.iconst 4, 1) := by decide +kernel
theorem dL_areAlike_97 : decode cL_areAlike 97 = .ok (.irem, 1) := by decide +kernel
theorem dL_areAlike_98 : decode cL_areAlike 98 = .ok (.isub, 1) := by decide +kernel
theorem dL_areAlike_99 : decode cL_areAlike 99 = .ok (.iconst 1, 1) := by decide +kernel
theorem dL_areAlike_100 : decode cL_areAlike 100 = .ok (.invokevirtual 118, 3) := by decide +kernel
theorem dL_areAlike_103 : decode cL_areAlike 103 = .ok (.aload_n 1, 1) := by decide +kernel
theorem dL_areAlike_104 : decode cL_areAlike 104 = .ok (.iload_n 3, 1) := by decide +kernel
theorem dL_areAlike_105 : decode cL_areAlike 105 = .ok (.iconst 3, 1) := by decide +kernel
theorem dL_areAlike_106 : decode cL_areAlike 106 = .ok (.iload_n 3, 1) := by decide +kernel
theorem dL_areAlike_107 : decode cL_areAlike 107 = .ok (.iconst 4, 1) := by decide +kernel
theorem dL_areAlike_108 : decode cL_areAlike 108 = .ok (.irem, 1) := by decide +kernel
theorem dL_areAlike_109 : decode cL_areAlike 109 = .ok (.isub, 1) := by decide +kernel
theorem dL_areAlike_110 : decode cL_areAlike 110 = .ok (.iconst 1, 1) := by decide +kernel
theorem dL_areAlike_111 : decode cL_areAlike 111 = .ok (.invokevirtual 118, 3) := by decide +kernel
theorem dL_areAlike_114 : decode cL_areAlike 114 = .ok (.if_icmp .ne 22, 3) := by decide +kernel
theorem dL_areAlike_117 : decode cL_areAlike 117 = .ok (.aload_n 0, 1) := by decide +kernel
theorem dL_areAlike_118 : decode cL_areAlike 118 = .ok (.iload_n 3, 1) := by decide +kernel
theorem dL_areAlike_119 : decode cL_areAlike 119 = .ok (.iconst 3, 1) := by decide +kernel
theorem dL_areAlike_120 : decode cL_areAlike 120 = .ok (.invokevirtual 109, 3) := by decide +kernel
theorem dL_areAlike_123 : decode cL_areAlike 123 = .ok (.aload_n 1, 1) := by decide +kernel
theorem dL_areAlike_124 : decode cL_areAlike 124 = .ok (.iload_n 3, 1) := by decide +kernel
theorem dL_areAlike_125 : decode cL_areAlike 125 = .ok (.iconst 3, 1) := by decide +kernel
theorem dL_areAlike_126 : decode cL_areAlike 126 = .ok (.invokevirtual 109, 3) := by decide +kernel
theorem dL_areAlike_129 : decode cL_areAlike 129 = .ok (.if_icmp .ne 7, 3) := by decide +kernel
theorem dL_areAlike_132 : decode cL_areAlike 132 = .ok (.iconst 1, 1) := by decide +kernel
theorem dL_areAlike_133 : decode cL_areAlike 133 = .ok (.goto 4, 3) := by decide +kernel
theorem dL_areAlike_136 : decode cL_areAlike 136 = .ok (.iconst 0, 1) := by decide +kernel
theorem dL_areAlike_137 : decode cL_areAlike 137 = .ok (.istore_n 2, 1) := by decide +kernel
theorem dL_areAlike_138 : decode cL_areAlike 138 = .ok (.iinc 3 1, 3) := by decide +kernel
theorem dL_areAlike_141 : decode cL_areAlike 141 = .ok (.goto (-137), 3) := by decide +kernel
theorem dL_areAlike_144 : decode cL_areAlike 144 = .ok (.iload_n 2, 1) := by decide +kernel
theorem dL_areAlike_145 : decode cL_areAlike 145 = .ok (.ifCond .eq 20, 3) := by decide +kernel
theorem dL_areAlike_148 : decode cL_areAlike 148 = .ok (.aload_n 0, 1) := by decide +kernel
theorem dL_areAlike_149 : decode cL_areAlike 149 = .ok (.iconst 0, 1) := by decide +kernel
theorem dL_areAlike_150 : decode cL_areAlike 150 = .ok (.invokevirtual 115, 3) := by decide +kernel
theorem dL_areAlike_153 : decode cL_areAlike 153 = .ok (.aload_n 1, 1) := by decide +kernel
theorem dL_areAlike_154 : decode cL_areAlike 154 = .ok (.iconst 0, 1) := by decide +kernel
theorem dL_areAlike_155 : decode cL_areAlike 155 = .ok (.invokevirtual 115, 3) := by decide +kernel
theorem dL_areAlike_158 : decode cL_areAlike 158 = .ok (.if_icmp .ne 7, 3) := by decide +kernel
theorem dL_areAlike_161 : decode cL_areAlike 161 = .ok (.iconst 1, 1) := by decide +kernel
theorem dL_areAlike_162 : decode cL_areAlike 162 = .ok (.goto 4, 3) := by decide +kernel
theorem dL_areAlike_165 : decode cL_areAlike 165 = .ok (.iconst 0, 1) := by decide +kernel
theorem dL_areAlike_166 : decode cL_areAlike 166 = .ok (.ireturn, 1) := by decide +kernel
theorem dL_law_0 : decode cL_law 0 = .ok (.new 20, 3) := by decide +kernel
theorem dL_law_3 : decode cL_law 3 = .ok (.dup, 1) := by decide +kernel
theorem dL_law_4 : decode cL_law 4 = .ok (.invokespecial 141, 3) := by decide +kernel
theorem dL_law_7 : decode cL_law 7 = .ok (.astore_n 1, 1) := by decide +kernel
theorem dL_law_8 : decode cL_law 8 = .ok (.new 20, 3) := by decide +kernel
theorem dL_law_11 : decode cL_law 11 = .ok (.dup, 1) := by decide +kernel
theorem dL_law_12 : decode cL_law 12 = .ok (.invokespecial 141, 3) := by decide +kernel
theorem dL_law_15 : decode cL_law 15 = .ok (.astore_n 2, 1) := by decide +kernel
theorem dL_law_16 : decode cL_law 16 = .ok (.bipush 48, 2) := by decide +kernel
theorem dL_law_18 : decode cL_law 18 = .ok (.newarray .int, 2) := by decide +kernel
theorem dL_law_20 : decode cL_law 20 = .ok (.astore_n 3, 1) := by decide +kernel
theorem dL_law_21 : decode cL_law 21 = .ok (.aload_n 1, 1) := by decide +kernel
theorem dL_law_22 : decode cL_law 22 = .ok (.aload_n 0, 1) := by decide +kernel
theorem dL_law_23 : decode cL_law 23 = .ok (.aload_n 3, 1) := by decide +kernel
theorem dL_law_24 : decode cL_law 24 = .ok (.invokestatic 142, 3) := by decide +kernel
theorem dL_law_27 : decode cL_law 27 = .ok (.ifCond .eq 48, 3) := by decide +kernel
theorem dL_law_30 : decode cL_law 30 = .ok (.aload_n 2, 1) := by decide +kernel
theorem dL_law_31 : decode cL_law 31 = .ok (.aload_n 0, 1) := by decide +kernel
theorem dL_law_32 : decode cL_law 32 = .ok (.iconst 0, 1) := by decide +kernel
theorem dL_law_33 : decode cL_law 33 = .ok (.invokestatic 9, 3) := by decide +kernel
theorem dL_law_36 : decode cL_law 36 = .ok (.invokestatic 146, 3) := by decide +kernel
theorem dL_law_39 : decode cL_law 39 = .ok (.ifCond .eq 36, 3) := by decide +kernel
theorem dL_law_42 : decode cL_law 42 = .ok (.aload_n 2, 1) := by decide +kernel
theorem dL_law_43 : decode cL_law 43 = .ok (.aload_n 0, 1) := by decide +kernel
theorem dL_law_44 : decode cL_law 44 = .ok (.aload_n 3, 1) := by decide +kernel
theorem dL_law_45 : decode cL_law 45 = .ok (.invokestatic 142, 3) := by decide +kernel
theorem dL_law_48 : decode cL_law 48 = .ok (.ifCond .eq 27, 3) := by decide +kernel
theorem dL_law_51 : decode cL_law 51 = .ok (.aload_n 2, 1) := by decide +kernel
theorem dL_law_52 : decode cL_law 52 = .ok (.aload_n 0, 1) := by decide +kernel
theorem dL_law_53 : decode cL_law 53 = .ok (.iconst 1, 1) := by decide +kernel
theorem dL_law_54 : decode cL_law 54 = .ok (.invokestatic 9, 3) := by decide +kernel
theorem dL_law_57 : decode cL_law 57 = .ok (.invokestatic 146, 3) := by decide +kernel
theorem dL_law_60 : decode cL_law 60 = .ok (.ifCond .eq 15, 3) := by decide +kernel
theorem dL_law_63 : decode cL_law 63 = .ok (.aload_n 1, 1) := by decide +kernel
theorem dL_law_64 : decode cL_law 64 = .ok (.aload_n 2, 1) := by decide +kernel
theorem dL_law_65 : decode cL_law 65 = .ok (.invokestatic 150, 3) := by decide +kernel
theorem dL_law_68 : decode cL_law 68 = .ok (.ifCond .eq 7, 3) := by decide +kernel
theorem dL_law_71 : decode cL_law 71 = .ok (.iconst 1, 1) := by decide +kernel
theorem dL_law_72 : decode cL_law 72 = .ok (.goto 4, 3) := by decide +kernel
theorem dL_law_75 : decode cL_law 75 = .ok (.iconst 0, 1) := by decide +kernel
theorem dL_law_76 : decode cL_law 76 = .ok (.istore 4, 2) := by decide +kernel
theorem dL_law_78 : decode cL_law 78 = .ok (.iconst 0, 1) := by decide +kernel
theorem dL_law_79 : decode cL_law 79 = .ok (.istore 5, 2) := by decide +kernel
theorem dL_law_81 : decode cL_law 81 = .ok (.iload 5, 2) := by decide +kernel
theorem dL_law_83 : decode cL_law 83 = .ok (.bipush 24, 2) := by decide +kernel
theorem dL_law_85 : decode cL_law 85 = .ok (.if_icmp .ge 66, 3) := by decide +kernel
theorem dL_law_88 : decode cL_law 88 = .ok (.iload 4, 2) := by decide +kernel
theorem dL_law_90 : decode cL_law 90 = .ok (.ifCond .eq 61, 3) := by decide +kernel
theorem dL_law_93 : decode cL_law 93 = .ok (.aload_n 0, 1) := by decide +kernel
theorem dL_law_94 : decode cL_law 94 = .ok (.bipush 13, 2) := by decide +kernel
theorem dL_law_96 : decode cL_law 96 = .ok (.iload 5, 2) := by decide +kernel
theorem dL_law_98 : decode cL_law 98 = .ok (.iadd, 1) := by decide +kernel
theorem dL_law_99 : decode cL_law 99 = .ok (.invokestatic 9, 3) := by decide +kernel
theorem dL_law_102 : decode cL_law 102 = .ok (.istore 6, 2) := by decide +kernel
theorem dL_law_104 : decode cL_law 104 = .ok (.aload_n 1, 1) := by decide +kernel
theorem dL_law_105 : decode cL_law 105 = .ok (.iload 6, 2) := by decide +kernel
theorem dL_law_107 : decode cL_law 107 = .ok (.invokestatic 154, 3) := by decide +kernel
theorem dL_law_110 : decode cL_law 110 = .ok (.aload_n 2, 1) := by decide +kernel
theorem dL_law_111 : decode cL_law 111 = .ok (.iload 6, 2) := by decide +kernel
theorem dL_law_113 : decode cL_law 113 = .ok (.invokestatic 154, 3) := by decide +kernel
theorem dL_law_116 : decode cL_law 116 = .ok (.if_icmp .ne 26, 3) := by decide +kernel
theorem dL_law_119 : decode cL_law 119 = .ok (.aload_n 2, 1) := by decide +kernel
theorem dL_law_120 : decode cL_law 120 = .ok (.iload 6, 2) := by decide +kernel
theorem dL_law_122 : decode cL_law 122 = .ok (.iconst 3, 1) := by decide +kernel
theorem dL_law_123 : decode cL_law 123 = .ok (.ishr, 1) := by decide +kernel
theorem dL_law_124 : decode cL_law 124 = .ok (.invokestatic 146, 3) := by decide +kernel
theorem dL_law_127 : decode cL_law 127 = .ok (.ifCond .eq 15, 3) := by decide +kernel
theorem dL_law_130 : decode cL_law 130 = .ok (.aload_n 1, 1) := by decide +kernel
theorem dL_law_131 : decode cL_law 131 = .ok (.aload_n 2, 1) := by decide +kernel
theorem dL_law_132 : decode cL_law 132 = .ok (.invokestatic 150, 3) := by decide +kernel
theorem dL_law_135 : decode cL_law 135 = .ok (.ifCond .eq 7, 3) := by decide +kernel
theorem dL_law_138 : decode cL_law 138 = .ok (.iconst 1, 1) := by decide +kernel
theorem dL_law_139 : decode cL_law 139 = .ok (.goto 4, 3) := by decide +kernel
theorem dL_law_142 : decode cL_law 142 = .ok (.iconst 0, 1) := by decide +kernel
theorem dL_law_143 : decode cL_law 143 = .ok (.istore 4, 2) := by decide +kernel
theorem dL_law_145 : decode cL_law 145 = .ok (.iinc 5 1, 3) := by decide +kernel
theorem dL_law_148 : decode cL_law 148 = .ok (.goto (-67), 3) := by decide +kernel
theorem dL_law_151 : decode cL_law 151 = .ok (.iload 4, 2) := by decide +kernel
theorem dL_law_153 : decode cL_law 153 = .ok (.ifCond .eq 80, 3) := by decide +kernel
theorem dL_law_156 : decode cL_law 156 = .ok (.aload_n 2, 1) := by decide +kernel
theorem dL_law_157 : decode cL_law 157 = .ok (.invokevirtual 82, 3) := by decide +kernel
theorem dL_law_160 : decode cL_law 160 = .ok (.iconst 1, 1) := by decide +kernel
theorem dL_law_161 : decode cL_law 161 = .ok (.if_icmp .ne 72, 3) := by decide +kernel
theorem dL_law_164 : decode cL_law 164 = .ok (.aload_n 2, 1) := by decide +kernel
theorem dL_law_165 : decode cL_law 165 = .ok (.iconst 0, 1) := by decide +kernel
theorem dL_law_166 : decode cL_law 166 = .ok (.bipush 50, 2) := by decide +kernel
theorem dL_law_168 : decode cL_law 168 = .ok (.invokevirtual 19, 3) := by decide +kernel
theorem dL_law_171 : decode cL_law 171 = .ok (.iconst 1, 1) := by decide +kernel
theorem dL_law_172 : decode cL_law 172 = .ok (.if_icmp .lt 61, 3) := by decide +kernel
theorem dL_law_175 : decode cL_law 175 = .ok (.aload_n 2, 1) := by decide +kernel
theorem dL_law_176 : decode cL_law 176 = .ok (.invokevirtual 95, 3) := by decide +kernel
theorem dL_law_179 : decode cL_law 179 = .ok (.ifCond .lt 54, 3) := by decide +kernel
theorem dL_law_182 : decode cL_law 182 = .ok (.aload_n 2, 1) := by decide +kernel
theorem dL_law_183 : decode cL_law 183 = .ok (.iconst 1, 1) := by decide +kernel
theorem dL_law_184 : decode cL_law 184 = .ok (.invokevirtual 106, 3) := by decide +kernel
theorem dL_law_187 : decode cL_law 187 = .ok (.ifCond .eq 34, 3) := by decide +kernel
theorem dL_law_190 : decode cL_law 190 = .ok (.aload_n 2, 1) := by decide +kernel
theorem dL_law_191 : decode cL_law 191 = .ok (.iconst 0, 1) := by decide +kernel
theorem dL_law_192 : decode cL_law 192 = .ok (.iconst 3, 1) := by decide +kernel
theorem dL_law_193 : decode cL_law 193 = .ok (.invokevirtual 37, 3) := by decide +kernel
theorem dL_law_196 : decode cL_law 196 = .ok (.ifCond .lt 37, 3) := by decide +kernel
theorem dL_law_199 : decode cL_law 199 = .ok (.aload_n 2, 1) := by decide +kernel
theorem dL_law_200 : decode cL_law 200 = .ok (.iconst 0, 1) := by decide +kernel
theorem dL_law_201 : decode cL_law 201 = .ok (.iconst 1, 1) := by decide +kernel
theorem dL_law_202 : decode cL_law 202 = .ok (.bipush 9, 2) := by decide +kernel
theorem dL_law_204 : decode cL_law 204 = .ok (.invokevirtual 40, 3) := by decide +kernel
theorem dL_law_207 : decode cL_law 207 = .ok (.ifCond .lt 26, 3) := by decide +kernel
theorem dL_law_210 : decode cL_law 210 = .ok (.aload_n 2, 1) := by decide +kernel
theorem dL_law_211 : decode cL_law 211 = .ok (.iconst 0, 1) := by decide +kernel
theorem dL_law_212 : decode cL_law 212 = .ok (.iconst 1, 1) := by decide +kernel
theorem dL_law_213 : decode cL_law 213 = .ok (.invokevirtual 68, 3) := by decide +kernel
theorem dL_law_216 : decode cL_law 216 = .ok (.ldc 158, 2) := by decide +kernel
theorem dL_law_218 : decode cL_law 218 = .ok (.if_icmp .le 15, 3) := by decide +kernel
theorem dL_law_221 : decode cL_law 221 = .ok (.aload_n 2, 1) := by decide +kernel
theorem dL_law_222 : decode cL_law 222 = .ok (.invokevirtual 79, 3) := by decide +kernel
theorem dL_law_225 : decode cL_law 225 = .ok (.iconst 1, 1) := by decide +kernel
theorem dL_law_226 : decode cL_law 226 = .ok (.if_icmp .ne 7, 3) := by decide +kernel
theorem dL_law_229 : decode cL_law 229 = .ok (.iconst 1, 1) := by decide +kernel
theorem dL_law_230 : decode cL_law 230 = .ok (.goto 4, 3) := by decide +kernel
theorem dL_law_233 : decode cL_law 233 = .ok (.iconst 0, 1) := by decide +kernel
theorem dL_law_234 : decode cL_law 234 = .ok (.istore 4, 2) := by decide +kernel
theorem dL_law_236 : decode cL_law 236 = .ok (.iload 4, 2) := by decide +kernel
theorem dL_law_238 : decode cL_law 238 = .ok (.ifCond .eq 15, 3) := by decide +kernel
theorem dL_law_241 : decode cL_law 241 = .ok (.aload_n 1, 1) := by decide +kernel
theorem dL_law_242 : decode cL_law 242 = .ok (.aload_n 2, 1) := by decide +kernel
theorem dL_law_243 : decode cL_law 243 = .ok (.invokestatic 150, 3) := by decide +kernel
theorem dL_law_246 : decode cL_law 246 = .ok (.ifCond .eq 7, 3) := by decide +kernel
theorem dL_law_249 : decode cL_law 249 = .ok (.iconst 1, 1) := by decide +kernel
theorem dL_law_250 : decode cL_law 250 = .ok (.goto 4, 3) := by decide +kernel
theorem dL_law_253 : decode cL_law 253 = .ok (.iconst 0, 1) := by decide +kernel
theorem dL_law_254 : decode cL_law 254 = .ok (.ireturn, 1) := by decide +kernel
