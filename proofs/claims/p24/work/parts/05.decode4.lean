theorem dL_cell_0 : decode cL_cell 0 = .ok (.iload_n 1, 1) := by decide +kernel
theorem dL_cell_1 : decode cL_cell 1 = .ok (.aload_n 0, 1) := by decide +kernel
theorem dL_cell_2 : decode cL_cell 2 = .ok (.arraylength, 1) := by decide +kernel
theorem dL_cell_3 : decode cL_cell 3 = .ok (.if_icmp .ge 9, 3) := by decide +kernel
theorem dL_cell_6 : decode cL_cell 6 = .ok (.aload_n 0, 1) := by decide +kernel
theorem dL_cell_7 : decode cL_cell 7 = .ok (.iload_n 1, 1) := by decide +kernel
theorem dL_cell_8 : decode cL_cell 8 = .ok (.iaload, 1) := by decide +kernel
theorem dL_cell_9 : decode cL_cell 9 = .ok (.goto 15, 3) := by decide +kernel
theorem dL_cell_12 : decode cL_cell 12 = .ok (.ldc 7, 2) := by decide +kernel
theorem dL_cell_14 : decode cL_cell 14 = .ok (.iload_n 1, 1) := by decide +kernel
theorem dL_cell_15 : decode cL_cell 15 = .ok (.sipush 4096, 3) := by decide +kernel
theorem dL_cell_18 : decode cL_cell 18 = .ok (.irem, 1) := by decide +kernel
theorem dL_cell_19 : decode cL_cell 19 = .ok (.imul, 1) := by decide +kernel
theorem dL_cell_20 : decode cL_cell 20 = .ok (.sipush 181, 3) := by decide +kernel
theorem dL_cell_23 : decode cL_cell 23 = .ok (.iadd, 1) := by decide +kernel
theorem dL_cell_24 : decode cL_cell 24 = .ok (.ldc 8, 2) := by decide +kernel
theorem dL_cell_26 : decode cL_cell 26 = .ok (.iand, 1) := by decide +kernel
theorem dL_cell_27 : decode cL_cell 27 = .ok (.ireturn, 1) := by decide +kernel
theorem dL_hangs_0 : decode cL_hangs 0 = .ok (.aload_n 0, 1) := by decide +kernel
theorem dL_hangs_1 : decode cL_hangs 1 = .ok (.iconst 0, 1) := by decide +kernel
theorem dL_hangs_2 : decode cL_hangs 2 = .ok (.invokevirtual 9, 3) := by decide +kernel
theorem dL_hangs_5 : decode cL_hangs 5 = .ok (.istore_n 1, 1) := by decide +kernel
theorem dL_hangs_6 : decode cL_hangs 6 = .ok (.iconst 0, 1) := by decide +kernel
theorem dL_hangs_7 : decode cL_hangs 7 = .ok (.istore_n 2, 1) := by decide +kernel
theorem dL_hangs_8 : decode cL_hangs 8 = .ok (.iconst 0, 1) := by decide +kernel
theorem dL_hangs_9 : decode cL_hangs 9 = .ok (.istore_n 3, 1) := by decide +kernel
theorem dL_hangs_10 : decode cL_hangs 10 = .ok (.iconst 0, 1) := by decide +kernel
theorem dL_hangs_11 : decode cL_hangs 11 = .ok (.istore 4, 2) := by decide +kernel
theorem dL_hangs_13 : decode cL_hangs 13 = .ok (.iconst 0, 1) := by decide +kernel
theorem dL_hangs_14 : decode cL_hangs 14 = .ok (.istore 5, 2) := by decide +kernel
theorem dL_hangs_16 : decode cL_hangs 16 = .ok (.aload_n 0, 1) := by decide +kernel
theorem dL_hangs_17 : decode cL_hangs 17 = .ok (.iload_n 1, 1) := by decide +kernel
theorem dL_hangs_18 : decode cL_hangs 18 = .ok (.iconst 0, 1) := by decide +kernel
theorem dL_hangs_19 : decode cL_hangs 19 = .ok (.invokevirtual 15, 3) := by decide +kernel
theorem dL_hangs_22 : decode cL_hangs 22 = .ok (.iconst (-1), 1) := by decide +kernel
theorem dL_hangs_23 : decode cL_hangs 23 = .ok (.if_icmp .ne 7, 3) := by decide +kernel
theorem dL_hangs_26 : decode cL_hangs 26 = .ok (.iconst 1, 1) := by decide +kernel
theorem dL_hangs_27 : decode cL_hangs 27 = .ok (.goto 4, 3) := by decide +kernel
theorem dL_hangs_30 : decode cL_hangs 30 = .ok (.iconst 0, 1) := by decide +kernel
theorem dL_hangs_31 : decode cL_hangs 31 = .ok (.istore 6, 2) := by decide +kernel
theorem dL_hangs_33 : decode cL_hangs 33 = .ok (.iconst 0, 1) := by decide +kernel
theorem dL_hangs_34 : decode cL_hangs 34 = .ok (.istore 7, 2) := by decide +kernel
theorem dL_hangs_36 : decode cL_hangs 36 = .ok (.iload 7, 2) := by decide +kernel
theorem dL_hangs_38 : decode cL_hangs 38 = .ok (.iload_n 1, 1) := by decide +kernel
theorem dL_hangs_39 : decode cL_hangs 39 = .ok (.if_icmp .ge 370, 3) := by decide +kernel
theorem dL_hangs_42 : decode cL_hangs 42 = .ok (.iload 6, 2) := by decide +kernel
theorem dL_hangs_44 : decode cL_hangs 44 = .ok (.ifCond .eq 365, 3) := by decide +kernel
theorem dL_hangs_47 : decode cL_hangs 47 = .ok (.aload_n 0, 1) := by decide +kernel
theorem dL_hangs_48 : decode cL_hangs 48 = .ok (.iload 7, 2) := by decide +kernel
theorem dL_hangs_50 : decode cL_hangs 50 = .ok (.iconst 2, 1) := by decide +kernel
theorem dL_hangs_51 : decode cL_hangs 51 = .ok (.invokevirtual 15, 3) := by decide +kernel
theorem dL_hangs_54 : decode cL_hangs 54 = .ok (.istore 8, 2) := by decide +kernel
theorem dL_hangs_56 : decode cL_hangs 56 = .ok (.aload_n 0, 1) := by decide +kernel
theorem dL_hangs_57 : decode cL_hangs 57 = .ok (.iload 7, 2) := by decide +kernel
theorem dL_hangs_59 : decode cL_hangs 59 = .ok (.iconst 0, 1) := by decide +kernel
theorem dL_hangs_60 : decode cL_hangs 60 = .ok (.invokevirtual 15, 3) := by decide +kernel
theorem dL_hangs_63 : decode cL_hangs 63 = .ok (.istore 9, 2) := by decide +kernel
theorem dL_hangs_65 : decode cL_hangs 65 = .ok (.aload_n 0, 1) := by decide +kernel
theorem dL_hangs_66 : decode cL_hangs 66 = .ok (.iload 7, 2) := by decide +kernel
theorem dL_hangs_68 : decode cL_hangs 68 = .ok (.iconst 1, 1) := by decide +kernel
theorem dL_hangs_69 : decode cL_hangs 69 = .ok (.invokevirtual 15, 3) := by decide +kernel
theorem dL_hangs_72 : decode cL_hangs 72 = .ok (.bipush (-5), 2) := by decide +kernel
theorem dL_hangs_74 : decode cL_hangs 74 = .ok (.if_icmp .ne 7, 3) := by decide +kernel
theorem dL_hangs_77 : decode cL_hangs 77 = .ok (.iconst 1, 1) := by decide +kernel
theorem dL_hangs_78 : decode cL_hangs 78 = .ok (.goto 4, 3) := by decide +kernel
theorem dL_hangs_81 : decode cL_hangs 81 = .ok (.iconst 0, 1) := by decide +kernel
theorem dL_hangs_82 : decode cL_hangs 82 = .ok (.istore 10, 2) := by decide +kernel
theorem dL_hangs_84 : decode cL_hangs 84 = .ok (.iload 8, 2) := by decide +kernel
theorem dL_hangs_86 : decode cL_hangs 86 = .ok (.iconst 1, 1) := by decide +kernel
theorem dL_hangs_87 : decode cL_hangs 87 = .ok (.if_icmp .lt 81, 3) := by decide +kernel
theorem dL_hangs_90 : decode cL_hangs 90 = .ok (.iload 8, 2) := by decide +kernel
theorem dL_hangs_92 : decode cL_hangs 92 = .ok (.bipush 24, 2) := by decide +kernel
theorem dL_hangs_94 : decode cL_hangs 94 = .ok (.if_icmp .gt 74, 3) := by decide +kernel
theorem dL_hangs_97 : decode cL_hangs 97 = .ok (.aload_n 0, 1) := by decide +kernel
theorem dL_hangs_98 : decode cL_hangs 98 = .ok (.iload 7, 2) := by decide +kernel
theorem dL_hangs_100 : decode cL_hangs 100 = .ok (.iconst 3, 1) := by decide +kernel
theorem dL_hangs_101 : decode cL_hangs 101 = .ok (.invokevirtual 15, 3) := by decide +kernel
theorem dL_hangs_104 : decode cL_hangs 104 = .ok (.iload_n 2, 1) := by decide +kernel
theorem dL_hangs_105 : decode cL_hangs 105 = .ok (.if_icmp .ne 63, 3) := by decide +kernel
theorem dL_hangs_108 : decode cL_hangs 108 = .ok (.aload_n 0, 1) := by decide +kernel
theorem dL_hangs_109 : decode cL_hangs 109 = .ok (.iload 7, 2) := by decide +kernel
theorem dL_hangs_111 : decode cL_hangs 111 = .ok (.iconst 4, 1) := by decide +kernel
theorem dL_hangs_112 : decode cL_hangs 112 = .ok (.invokevirtual 15, 3) := by decide +kernel
theorem dL_hangs_115 : decode cL_hangs 115 = .ok (.iconst 1, 1) := by decide +kernel
theorem dL_hangs_116 : decode cL_hangs 116 = .ok (.if_icmp .lt 52, 3) := by decide +kernel
theorem dL_hangs_119 : decode cL_hangs 119 = .ok (.aload_n 0, 1) := by decide +kernel
theorem dL_hangs_120 : decode cL_hangs 120 = .ok (.iload 7, 2) := by decide +kernel
theorem dL_hangs_122 : decode cL_hangs 122 = .ok (.iconst 4, 1) := by decide +kernel
theorem dL_hangs_123 : decode cL_hangs 123 = .ok (.invokevirtual 15, 3) := by decide +kernel
theorem dL_hangs_126 : decode cL_hangs 126 = .ok (.iload 8, 2) := by decide +kernel
theorem dL_hangs_128 : decode cL_hangs 128 = .ok (.if_icmp .gt 40, 3) := by decide +kernel
theorem dL_hangs_131 : decode cL_hangs 131 = .ok (.aload_n 0, 1) := by decide +kernel
theorem dL_hangs_132 : decode cL_hangs 132 = .ok (.iload 7, 2) := by decide +kernel
theorem dL_hangs_134 : decode cL_hangs 134 = .ok (.iconst 5, 1) := by decide +kernel
theorem dL_hangs_135 : decode cL_hangs 135 = .ok (.invokevirtual 15, 3) := by decide +kernel
theorem dL_hangs_138 : decode cL_hangs 138 = .ok (.iload 8, 2) := by decide +kernel
theorem dL_hangs_140 : decode cL_hangs 140 = .ok (.if_icmp .gt 28, 3) := by decide +kernel
theorem dL_hangs_143 : decode cL_hangs 143 = .ok (.iload 9, 2) := by decide +kernel
theorem dL_hangs_145 : decode cL_hangs 145 = .ok (.iconst 1, 1) := by decide +kernel
theorem dL_hangs_146 : decode cL_hangs 146 = .ok (.if_icmp .lt 22, 3) := by decide +kernel
theorem dL_hangs_149 : decode cL_hangs 149 = .ok (.iload 9, 2) := by decide +kernel
theorem dL_hangs_151 : decode cL_hangs 151 = .ok (.iload 10, 2) := by decide +kernel
theorem dL_hangs_153 : decode cL_hangs 153 = .ok (.ifCond .eq 7, 3) := by decide +kernel
theorem dL_hangs_156 : decode cL_hangs 156 = .ok (.iconst 5, 1) := by decide +kernel
theorem dL_hangs_157 : decode cL_hangs 157 = .ok (.goto 4, 3) := by decide +kernel
theorem dL_hangs_160 : decode cL_hangs 160 = .ok (.iconst 3, 1) := by decide +kernel
theorem dL_hangs_161 : decode cL_hangs 161 = .ok (.if_icmp .gt 7, 3) := by decide +kernel
theorem dL_hangs_164 : decode cL_hangs 164 = .ok (.iconst 1, 1) := by decide +kernel
theorem dL_hangs_165 : decode cL_hangs 165 = .ok (.goto 4, 3) := by decide +kernel
theorem dL_hangs_168 : decode cL_hangs 168 = .ok (.iconst 0, 1) := by decide +kernel
theorem dL_hangs_169 : decode cL_hangs 169 = .ok (.istore 6, 2) := by decide +kernel
theorem dL_hangs_171 : decode cL_hangs 171 = .ok (.iconst 0, 1) := by decide +kernel
theorem dL_hangs_172 : decode cL_hangs 172 = .ok (.istore 11, 2) := by decide +kernel
theorem dL_hangs_174 : decode cL_hangs 174 = .ok (.iconst 1, 1) := by decide +kernel
theorem dL_hangs_175 : decode cL_hangs 175 = .ok (.istore 12, 2) := by decide +kernel
theorem dL_hangs_177 : decode cL_hangs 177 = .ok (.iload 12, 2) := by decide +kernel
theorem dL_hangs_179 : decode cL_hangs 179 = .ok (.iload 8, 2) := by decide +kernel
theorem dL_hangs_181 : decode cL_hangs 181 = .ok (.if_icmp .gt 155, 3) := by decide +kernel
theorem dL_hangs_184 : decode cL_hangs 184 = .ok (.iload 6, 2) := by decide +kernel
theorem dL_hangs_186 : decode cL_hangs 186 = .ok (.ifCond .eq 150, 3) := by decide +kernel
theorem dL_hangs_189 : decode cL_hangs 189 = .ok (.iload_n 2, 1) := by decide +kernel
theorem dL_hangs_190 : decode cL_hangs 190 = .ok (.iload 12, 2) := by decide +kernel
theorem dL_hangs_192 : decode cL_hangs 192 = .ok (.iadd, 1) := by decide +kernel
theorem dL_hangs_193 : decode cL_hangs 193 = .ok (.iconst 1, 1) := by decide +kernel
theorem dL_hangs_194 : decode cL_hangs 194 = .ok (.isub, 1) := by decide +kernel
theorem dL_hangs_195 : decode cL_hangs 195 = .ok (.istore 13, 2) := by decide +kernel
theorem dL_hangs_197 : decode cL_hangs 197 = .ok (.aload_n 0, 1) := by decide +kernel
theorem dL_hangs_198 : decode cL_hangs 198 = .ok (.iload 13, 2) := by decide +kernel
theorem dL_hangs_200 : decode cL_hangs 200 = .ok (.iconst 3, 1) := by decide +kernel
theorem dL_hangs_201 : decode cL_hangs 201 = .ok (.invokevirtual 19, 3) := by decide +kernel
theorem dL_hangs_204 : decode cL_hangs 204 = .ok (.istore 14, 2) := by decide +kernel
theorem dL_hangs_206 : decode cL_hangs 206 = .ok (.iload 11, 2) := by decide +kernel
theorem dL_hangs_208 : decode cL_hangs 208 = .ok (.aload_n 0, 1) := by decide +kernel
theorem dL_hangs_209 : decode cL_hangs 209 = .ok (.iload 13, 2) := by decide +kernel
theorem dL_hangs_211 : decode cL_hangs 211 = .ok (.iconst 4, 1) := by decide +kernel
theorem dL_hangs_212 : decode cL_hangs 212 = .ok (.invokevirtual 19, 3) := by decide +kernel
theorem dL_hangs_215 : decode cL_hangs 215 = .ok (.iadd, 1) := by decide +kernel
theorem dL_hangs_216 : decode cL_hangs 216 = .ok (.istore 11, 2) := by decide +kernel
theorem dL_hangs_218 : decode cL_hangs 218 = .ok (.aload_n 0, 1) := by decide +kernel
theorem dL_hangs_219 : decode cL_hangs 219 = .ok (.iload 13, 2) := by decide +kernel
theorem dL_hangs_221 : decode cL_hangs 221 = .ok (.iconst 0, 1) := by decide +kernel
theorem dL_hangs_222 : decode cL_hangs 222 = .ok (.invokevirtual 19, 3) := by decide +kernel
theorem dL_hangs_225 : decode cL_hangs 225 = .ok (.iload 7, 2) := by decide +kernel
theorem dL_hangs_227 : decode cL_hangs 227 = .ok (.if_icmp .ne 100, 3) := by decide +kernel
theorem dL_hangs_230 : decode cL_hangs 230 = .ok (.aload_n 0, 1) := by decide +kernel
theorem dL_hangs_231 : decode cL_hangs 231 = .ok (.iload 13, 2) := by decide +kernel
theorem dL_hangs_233 : decode cL_hangs 233 = .ok (.iconst 1, 1) := by decide +kernel
theorem dL_hangs_234 : decode cL_hangs 234 = .ok (.invokevirtual 19, 3) := by decide +kernel
theorem dL_hangs_237 : decode cL_hangs 237 = .ok (.iload 12, 2) := by decide +kernel
theorem dL_hangs_239 : decode cL_hangs 239 = .ok (.if_icmp .ne 88, 3) := by decide +kernel
theorem dL_hangs_242 : decode cL_hangs 242 = .ok (.aload_n 0, 1) := by decide +kernel
theorem dL_hangs_243 : decode cL_hangs 243 = .ok (.iload 13, 2) := by decide +kernel
theorem dL_hangs_245 : decode cL_hangs 245 = .ok (.iconst 2, 1) := by decide +kernel
theorem dL_hangs_246 : decode cL_hangs 246 = .ok (.invokevirtual 19, 3) := by decide +kernel
theorem dL_hangs_249 : decode cL_hangs 249 = .ok (.iconst 1, 1) := by decide +kernel
theorem dL_hangs_250 : decode cL_hangs 250 = .ok (.if_icmp .ne 7, 3) := by decide +kernel
theorem dL_hangs_253 : decode cL_hangs 253 = .ok (.iconst 1, 1) := by decide +kernel
theorem dL_hangs_254 : decode cL_hangs 254 = .ok (.goto 4, 3) := by decide +kernel
theorem dL_hangs_257 : decode cL_hangs 257 = .ok (.iconst 0, 1) := by decide +kernel
theorem dL_hangs_258 : decode cL_hangs 258 = .ok (.iload 12, 2) := by decide +kernel
theorem dL_hangs_260 : decode cL_hangs 260 = .ok (.aload_n 0, 1) := by decide +kernel
theorem dL_hangs_261 : decode cL_hangs 261 = .ok (.iload 7, 2) := by decide +kernel
theorem dL_hangs_263 : decode cL_hangs 263 = .ok (.iconst 4, 1) := by decide +kernel
theorem dL_hangs_264 : decode cL_hangs 264 = .ok (.invokevirtual 15, 3) := by decide +kernel
theorem dL_hangs_267 : decode cL_hangs 267 = .ok (.if_icmp .gt 7, 3) := by decide +kernel
theorem dL_hangs_270 : decode cL_hangs 270 = .ok (.iconst 1, 1) := by decide +kernel
theorem dL_hangs_271 : decode cL_hangs 271 = .ok (.goto 4, 3) := by decide +kernel
theorem dL_hangs_274 : decode cL_hangs 274 = .ok (.iconst 0, 1) := by decide +kernel
theorem dL_hangs_275 : decode cL_hangs 275 = .ok (.if_icmp .ne 52, 3) := by decide +kernel
theorem dL_hangs_278 : decode cL_hangs 278 = .ok (.iconst 2, 1) := by decide +kernel
theorem dL_hangs_279 : decode cL_hangs 279 = .ok (.iload 12, 2) := by decide +kernel
theorem dL_hangs_281 : decode cL_hangs 281 = .ok (.imul, 1) := by decide +kernel
theorem dL_hangs_282 : decode cL_hangs 282 = .ok (.iload 8, 2) := by decide +kernel
theorem dL_hangs_284 : decode cL_hangs 284 = .ok (.iconst 1, 1) := by decide +kernel
theorem dL_hangs_285 : decode cL_hangs 285 = .ok (.iadd, 1) := by decide +kernel
theorem dL_hangs_286 : decode cL_hangs 286 = .ok (.if_icmp .ne 13, 3) := by decide +kernel
theorem dL_hangs_289 : decode cL_hangs 289 = .ok (.iload 14, 2) := by decide +kernel
theorem dL_hangs_291 : decode cL_hangs 291 = .ok (.bipush (-5), 2) := by decide +kernel
theorem dL_hangs_293 : decode cL_hangs 293 = .ok (.if_icmp .ne 34, 3) := by decide +kernel
theorem dL_hangs_296 : decode cL_hangs 296 = .ok (.goto 27, 3) := by decide +kernel
theorem dL_hangs_299 : decode cL_hangs 299 = .ok (.iload 14, 2) := by decide +kernel
theorem dL_hangs_301 : decode cL_hangs 301 = .ok (.iload_n 2, 1) := by decide +kernel
theorem dL_hangs_302 : decode cL_hangs 302 = .ok (.iload 8, 2) := by decide +kernel
theorem dL_hangs_304 : decode cL_hangs 304 = .ok (.iadd, 1) := by decide +kernel
theorem dL_hangs_305 : decode cL_hangs 305 = .ok (.iload 12, 2) := by decide +kernel
theorem dL_hangs_307 : decode cL_hangs 307 = .ok (.isub, 1) := by decide +kernel
theorem dL_hangs_308 : decode cL_hangs 308 = .ok (.if_icmp .ne 19, 3) := by decide +kernel
theorem dL_hangs_311 : decode cL_hangs 311 = .ok (.aload_n 0, 1) := by decide +kernel
theorem dL_hangs_312 : decode cL_hangs 312 = .ok (.iload 14, 2) := by decide +kernel
theorem dL_hangs_314 : decode cL_hangs 314 = .ok (.iconst 3, 1) := by decide +kernel
theorem dL_hangs_315 : decode cL_hangs 315 = .ok (.invokevirtual 19, 3) := by decide +kernel
theorem dL_hangs_318 : decode cL_hangs 318 = .ok (.iload 13, 2) := by decide +kernel
theorem dL_hangs_320 : decode cL_hangs 320 = .ok (.if_icmp .ne 7, 3) := by decide +kernel
theorem dL_hangs_323 : decode cL_hangs 323 = .ok (.iconst 1, 1) := by decide +kernel
theorem dL_hangs_324 : decode cL_hangs 324 = .ok (.goto 4, 3) := by decide +kernel
theorem dL_hangs_327 : decode cL_hangs 327 = .ok (.iconst 0, 1) := by decide +kernel
theorem dL_hangs_328 : decode cL_hangs 328 = .ok (.istore 6, 2) := by decide +kernel
theorem dL_hangs_330 : decode cL_hangs 330 = .ok (.iinc 12 1, 3) := by decide +kernel
theorem dL_hangs_333 : decode cL_hangs 333 = .ok (.goto (-156), 3) := by decide +kernel
theorem dL_hangs_336 : decode cL_hangs 336 = .ok (.iload 6, 2) := by decide +kernel
theorem dL_hangs_338 : decode cL_hangs 338 = .ok (.ifCond .eq 22, 3) := by decide +kernel
theorem dL_hangs_341 : decode cL_hangs 341 = .ok (.aload_n 0, 1) := by decide +kernel
theorem dL_hangs_342 : decode cL_hangs 342 = .ok (.iload 7, 2) := by decide +kernel
theorem dL_hangs_344 : decode cL_hangs 344 = .ok (.iconst 5, 1) := by decide +kernel
theorem dL_hangs_345 : decode cL_hangs 345 = .ok (.invokevirtual 15, 3) := by decide +kernel
theorem dL_hangs_348 : decode cL_hangs 348 = .ok (.iload 8, 2) := by decide +kernel
theorem dL_hangs_350 : decode cL_hangs 350 = .ok (.iload 11, 2) := by decide +kernel
theorem dL_hangs_352 : decode cL_hangs 352 = .ok (.isub, 1) := by decide +kernel
theorem dL_hangs_353 : decode cL_hangs 353 = .ok (.if_icmp .ne 7, 3) := by decide +kernel
theorem dL_hangs_356 : decode cL_hangs 356 = .ok (.iconst 1, 1) := by decide +kernel
theorem dL_hangs_357 : decode cL_hangs 357 = .ok (.goto 4, 3) := by decide +kernel
theorem dL_hangs_360 : decode cL_hangs 360 = .ok (.iconst 0, 1) := by decide +kernel
theorem dL_hangs_361 : decode cL_hangs 361 = .ok (.istore 6, 2) := by decide +kernel
theorem dL_hangs_363 : decode cL_hangs 363 = .ok (.iload_n 2, 1) := by decide +kernel
theorem dL_hangs_364 : decode cL_hangs 364 = .ok (.iload 8, 2) := by decide +kernel
theorem dL_hangs_366 : decode cL_hangs 366 = .ok (.iadd, 1) := by decide +kernel
theorem dL_hangs_367 : decode cL_hangs 367 = .ok (.istore_n 2, 1) := by decide +kernel
theorem dL_hangs_368 : decode cL_hangs 368 = .ok (.iload_n 3, 1) := by decide +kernel
theorem dL_hangs_369 : decode cL_hangs 369 = .ok (.aload_n 0, 1) := by decide +kernel
theorem dL_hangs_370 : decode cL_hangs 370 = .ok (.iload 7, 2) := by decide +kernel
theorem dL_hangs_372 : decode cL_hangs 372 = .ok (.iconst 4, 1) := by decide +kernel
theorem dL_hangs_373 : decode cL_hangs 373 = .ok (.invokevirtual 15, 3) := by decide +kernel
theorem dL_hangs_376 : decode cL_hangs 376 = .ok (.iadd, 1) := by decide +kernel
theorem dL_hangs_377 : decode cL_hangs 377 = .ok (.istore_n 3, 1) := by decide +kernel
theorem dL_hangs_378 : decode cL_hangs 378 = .ok (.iload 4, 2) := by decide +kernel
theorem dL_hangs_380 : decode cL_hangs 380 = .ok (.iload 8, 2) := by decide +kernel
theorem dL_hangs_382 : decode cL_hangs 382 = .ok (.iload 11, 2) := by decide +kernel
theorem dL_hangs_384 : decode cL_hangs 384 = .ok (.isub, 1) := by decide +kernel
theorem dL_hangs_385 : decode cL_hangs 385 = .ok (.iadd, 1) := by decide +kernel
theorem dL_hangs_386 : decode cL_hangs 386 = .ok (.istore 4, 2) := by decide +kernel
theorem dL_hangs_388 : decode cL_hangs 388 = .ok (.iload 5, 2) := by decide +kernel
theorem dL_hangs_390 : decode cL_hangs 390 = .ok (.iload 10, 2) := by decide +kernel
theorem dL_hangs_392 : decode cL_hangs 392 = .ok (.ifCond .eq 7, 3) := by decide +kernel
theorem dL_hangs_395 : decode cL_hangs 395 = .ok (.iconst 1, 1) := by decide +kernel
theorem dL_hangs_396 : decode cL_hangs 396 = .ok (.goto 4, 3) := by decide +kernel
theorem dL_hangs_399 : decode cL_hangs 399 = .ok (.iconst 0, 1) := by decide +kernel
theorem dL_hangs_400 : decode cL_hangs 400 = .ok (.iadd, 1) := by decide +kernel
theorem dL_hangs_401 : decode cL_hangs 401 = .ok (.istore 5, 2) := by decide +kernel
theorem dL_hangs_403 : decode cL_hangs 403 = .ok (.iinc 7 1, 3) := by decide +kernel
theorem dL_hangs_406 : decode cL_hangs 406 = .ok (.goto (-370), 3) := by decide +kernel
theorem dL_hangs_409 : decode cL_hangs 409 = .ok (.iload 6, 2) := by decide +kernel
theorem dL_hangs_411 : decode cL_hangs 411 = .ok (.ifCond .eq 57, 3) := by decide +kernel
theorem dL_hangs_414 : decode cL_hangs 414 = .ok (.iload_n 2, 1) := by decide +kernel
theorem dL_hangs_415 : decode cL_hangs 415 = .ok (.aload_n 0, 1) := by decide +kernel
theorem dL_hangs_416 : decode cL_hangs 416 = .ok (.iconst 1, 1) := by decide +kernel
theorem dL_hangs_417 : decode cL_hangs 417 = .ok (.invokevirtual 9, 3) := by decide +kernel
theorem dL_hangs_420 : decode cL_hangs 420 = .ok (.if_icmp .ne 48, 3) := by decide +kernel
theorem dL_hangs_423 : decode cL_hangs 423 = .ok (.iload_n 3, 1) := by decide +kernel
theorem dL_hangs_424 : decode cL_hangs 424 = .ok (.aload_n 0, 1) := by decide +kernel
theorem dL_hangs_425 : decode cL_hangs 425 = .ok (.iconst 3, 1) := by decide +kernel
theorem dL_hangs_426 : decode cL_hangs 426 = .ok (.invokevirtual 9, 3) := by decide +kernel
theorem dL_hangs_429 : decode cL_hangs 429 = .ok (.if_icmp .ne 39, 3) := by decide +kernel
theorem dL_hangs_432 : decode cL_hangs 432 = .ok (.aload_n 0, 1) := by decide +kernel
theorem dL_hangs_433 : decode cL_hangs 433 = .ok (.iconst 2, 1) := by decide +kernel
theorem dL_hangs_434 : decode cL_hangs 434 = .ok (.invokevirtual 9, 3) := by decide +kernel
theorem dL_hangs_437 : decode cL_hangs 437 = .ok (.iload_n 2, 1) := by decide +kernel
theorem dL_hangs_438 : decode cL_hangs 438 = .ok (.iload 4, 2) := by decide +kernel
theorem dL_hangs_440 : decode cL_hangs 440 = .ok (.isub, 1) := by decide +kernel
theorem dL_hangs_441 : decode cL_hangs 441 = .ok (.if_icmp .ne 27, 3) := by decide +kernel
theorem dL_hangs_444 : decode cL_hangs 444 = .ok (.iload 5, 2) := by decide +kernel
theorem dL_hangs_446 : decode cL_hangs 446 = .ok (.aload_n 0, 1) := by decide +kernel
theorem dL_hangs_447 : decode cL_hangs 447 = .ok (.iconst 5, 1) := by decide +kernel
theorem dL_hangs_448 : decode cL_hangs 448 = .ok (.invokevirtual 9, 3) := by decide +kernel
theorem dL_hangs_451 : decode cL_hangs 451 = .ok (.if_icmp .ne 17, 3) := by decide +kernel
theorem dL_hangs_454 : decode cL_hangs 454 = .ok (.aload_n 0, 1) := by decide +kernel
theorem dL_hangs_455 : decode cL_hangs 455 = .ok (.iload_n 2, 1) := by decide +kernel
theorem dL_hangs_456 : decode cL_hangs 456 = .ok (.iconst 0, 1) := by decide +kernel
theorem dL_hangs_457 : decode cL_hangs 457 = .ok (.invokevirtual 19, 3) := by decide +kernel
theorem dL_hangs_460 : decode cL_hangs 460 = .ok (.iconst (-1), 1) := by decide +kernel
theorem dL_hangs_461 : decode cL_hangs 461 = .ok (.if_icmp .ne 7, 3) := by decide +kernel
theorem dL_hangs_464 : decode cL_hangs 464 = .ok (.iconst 1, 1) := by decide +kernel
theorem dL_hangs_465 : decode cL_hangs 465 = .ok (.goto 4, 3) := by decide +kernel
theorem dL_hangs_468 : decode cL_hangs 468 = .ok (.iconst 0, 1) := by decide +kernel
theorem dL_hangs_469 : decode cL_hangs 469 = .ok (.istore 6, 2) := by decide +kernel
theorem dL_hangs_471 : decode cL_hangs 471 = .ok (.aload_n 0, 1) := by decide +kernel
theorem dL_hangs_472 : decode cL_hangs 472 = .ok (.bipush 7, 2) := by decide +kernel
theorem dL_hangs_474 : decode cL_hangs 474 = .ok (.invokevirtual 9, 3) := by decide +kernel
theorem dL_hangs_477 : decode cL_hangs 477 = .ok (.istore 7, 2) := by decide +kernel
theorem dL_hangs_479 : decode cL_hangs 479 = .ok (.iconst 0, 1) := by decide +kernel
theorem dL_hangs_480 : decode cL_hangs 480 = .ok (.istore 8, 2) := by decide +kernel
theorem dL_hangs_482 : decode cL_hangs 482 = .ok (.iconst 0, 1) := by decide +kernel
theorem dL_hangs_483 : decode cL_hangs 483 = .ok (.istore 9, 2) := by decide +kernel
theorem dL_hangs_485 : decode cL_hangs 485 = .ok (.iload 9, 2) := by decide +kernel
theorem dL_hangs_487 : decode cL_hangs 487 = .ok (.iload 7, 2) := by decide +kernel
theorem dL_hangs_489 : decode cL_hangs 489 = .ok (.if_icmp .ge 109, 3) := by decide +kernel
theorem dL_hangs_492 : decode cL_hangs 492 = .ok (.iload 6, 2) := by decide +kernel
theorem dL_hangs_494 : decode cL_hangs 494 = .ok (.ifCond .eq 104, 3) := by decide +kernel
theorem dL_hangs_497 : decode cL_hangs 497 = .ok (.aload_n 0, 1) := by decide +kernel
theorem dL_hangs_498 : decode cL_hangs 498 = .ok (.iload 9, 2) := by decide +kernel
theorem dL_hangs_500 : decode cL_hangs 500 = .ok (.invokevirtual 22, 3) := by decide +kernel
theorem dL_hangs_503 : decode cL_hangs 503 = .ok (.istore 10, 2) := by decide +kernel
theorem dL_hangs_505 : decode cL_hangs 505 = .ok (.iload 8, 2) := by decide +kernel
theorem dL_hangs_507 : decode cL_hangs 507 = .ok (.iload 10, 2) := by decide +kernel
theorem dL_hangs_509 : decode cL_hangs 509 = .ok (.bipush 44, 2) := by decide +kernel
theorem dL_hangs_511 : decode cL_hangs 511 = .ok (.if_icmp .ne 7, 3) := by decide +kernel
theorem dL_hangs_514 : decode cL_hangs 514 = .ok (.iconst 1, 1) := by decide +kernel
theorem dL_hangs_515 : decode cL_hangs 515 = .ok (.goto 4, 3) := by decide +kernel
theorem dL_hangs_518 : decode cL_hangs 518 = .ok (.iconst 0, 1) := by decide +kernel
theorem dL_hangs_519 : decode cL_hangs 519 = .ok (.iadd, 1) := by decide +kernel
theorem dL_hangs_520 : decode cL_hangs 520 = .ok (.istore 8, 2) := by decide +kernel
theorem dL_hangs_522 : decode cL_hangs 522 = .ok (.iload 10, 2) := by decide +kernel
theorem dL_hangs_524 : decode cL_hangs 524 = .ok (.bipush 44, 2) := by decide +kernel
theorem dL_hangs_526 : decode cL_hangs 526 = .ok (.if_icmp .eq 59, 3) := by decide +kernel
theorem dL_hangs_529 : decode cL_hangs 529 = .ok (.iload 10, 2) := by decide +kernel
theorem dL_hangs_531 : decode cL_hangs 531 = .ok (.bipush 45, 2) := by decide +kernel
theorem dL_hangs_533 : decode cL_hangs 533 = .ok (.if_icmp .eq 52, 3) := by decide +kernel
theorem dL_hangs_536 : decode cL_hangs 536 = .ok (.iload 10, 2) := by decide +kernel
theorem dL_hangs_538 : decode cL_hangs 538 = .ok (.bipush 42, 2) := by decide +kernel
theorem dL_hangs_540 : decode cL_hangs 540 = .ok (.if_icmp .eq 45, 3) := by decide +kernel
theorem dL_hangs_543 : decode cL_hangs 543 = .ok (.iload 10, 2) := by decide +kernel
theorem dL_hangs_545 : decode cL_hangs 545 = .ok (.bipush 48, 2) := by decide +kernel
theorem dL_hangs_547 : decode cL_hangs 547 = .ok (.if_icmp .lt 10, 3) := by decide +kernel
theorem dL_hangs_550 : decode cL_hangs 550 = .ok (.iload 10, 2) := by decide +kernel
theorem dL_hangs_552 : decode cL_hangs 552 = .ok (.bipush 57, 2) := by decide +kernel
theorem dL_hangs_554 : decode cL_hangs 554 = .ok (.if_icmp .le 31, 3) := by decide +kernel
theorem dL_hangs_557 : decode cL_hangs 557 = .ok (.iload 10, 2) := by decide +kernel
theorem dL_hangs_559 : decode cL_hangs 559 = .ok (.bipush 65, 2) := by decide +kernel
theorem dL_hangs_561 : decode cL_hangs 561 = .ok (.if_icmp .lt 10, 3) := by decide +kernel
theorem dL_hangs_564 : decode cL_hangs 564 = .ok (.iload 10, 2) := by decide +kernel
theorem dL_hangs_566 : decode cL_hangs 566 = .ok (.bipush 90, 2) := by decide +kernel
theorem dL_hangs_568 : decode cL_hangs 568 = .ok (.if_icmp .le 17, 3) := by decide +kernel
theorem dL_hangs_571 : decode cL_hangs 571 = .ok (.iload 10, 2) := by decide +kernel
theorem dL_hangs_573 : decode cL_hangs 573 = .ok (.bipush 97, 2) := by decide +kernel
theorem dL_hangs_575 : decode cL_hangs 575 = .ok (.if_icmp .lt 14, 3) := by decide +kernel
theorem dL_hangs_578 : decode cL_hangs 578 = .ok (.iload 10, 2) := by decide +kernel
theorem dL_hangs_580 : decode cL_hangs 580 = .ok (.bipush 122, 2) := by decide +kernel
theorem dL_hangs_582 : decode cL_hangs 582 = .ok (.if_icmp .gt 7, 3) := by decide +kernel
theorem dL_hangs_585 : decode cL_hangs 585 = .ok (.iconst 1, 1) := by decide +kernel
theorem dL_hangs_586 : decode cL_hangs 586 = .ok (.goto 4, 3) := by decide +kernel
theorem dL_hangs_589 : decode cL_hangs 589 = .ok (.iconst 0, 1) := by decide +kernel
theorem dL_hangs_590 : decode cL_hangs 590 = .ok (.istore 6, 2) := by decide +kernel
theorem dL_hangs_592 : decode cL_hangs 592 = .ok (.iinc 9 1, 3) := by decide +kernel
theorem dL_hangs_595 : decode cL_hangs 595 = .ok (.goto (-110), 3) := by decide +kernel
theorem dL_hangs_598 : decode cL_hangs 598 = .ok (.iload 6, 2) := by decide +kernel
theorem dL_hangs_600 : decode cL_hangs 600 = .ok (.ifCond .eq 39, 3) := by decide +kernel
theorem dL_hangs_603 : decode cL_hangs 603 = .ok (.aload_n 0, 1) := by decide +kernel
theorem dL_hangs_604 : decode cL_hangs 604 = .ok (.iload 7, 2) := by decide +kernel
theorem dL_hangs_606 : decode cL_hangs 606 = .ok (.invokevirtual 22, 3) := by decide +kernel
theorem dL_hangs_609 : decode cL_hangs 609 = .ok (.bipush (-5), 2) := by decide +kernel
theorem dL_hangs_611 : decode cL_hangs 611 = .ok (.if_icmp .ne 28, 3) := by decide +kernel
theorem dL_hangs_614 : decode cL_hangs 614 = .ok (.aload_n 0, 1) := by decide +kernel
theorem dL_hangs_615 : decode cL_hangs 615 = .ok (.bipush 8, 2) := by decide +kernel
theorem dL_hangs_617 : decode cL_hangs 617 = .ok (.invokevirtual 9, 3) := by decide +kernel
theorem dL_hangs_620 : decode cL_hangs 620 = .ok (.iload_n 1, 1) := by decide +kernel
theorem dL_hangs_621 : decode cL_hangs 621 = .ok (.ifCond .ne 7, 3) := by decide +kernel
theorem dL_hangs_624 : decode cL_hangs 624 = .ok (.iconst 0, 1) := by decide +kernel
theorem dL_hangs_625 : decode cL_hangs 625 = .ok (.goto 7, 3) := by decide +kernel
theorem dL_hangs_628 : decode cL_hangs 628 = .ok (.iload 8, 2) := by decide +kernel
theorem dL_hangs_630 : decode cL_hangs 630 = .ok (.iconst 1, 1) := by decide +kernel
theorem dL_hangs_631 : decode cL_hangs 631 = .ok (.iadd, 1) := by decide +kernel
theorem dL_hangs_632 : decode cL_hangs 632 = .ok (.if_icmp .ne 7, 3) := by decide +kernel
theorem dL_hangs_635 : decode cL_hangs 635 = .ok (.iconst 1, 1) := by decide +kernel
theorem dL_hangs_636 : decode cL_hangs 636 = .ok (.goto 4, 3) := by decide +kernel
theorem dL_hangs_639 : decode cL_hangs 639 = .ok (.iconst 0, 1) := by decide +kernel
theorem dL_hangs_640 : decode cL_hangs 640 = .ok (.istore 6, 2) := by decide +kernel
theorem dL_hangs_642 : decode cL_hangs 642 = .ok (.aload_n 0, 1) := by decide +kernel
theorem dL_hangs_643 : decode cL_hangs 643 = .ok (.bipush 6, 2) := by decide +kernel
theorem dL_hangs_645 : decode cL_hangs 645 = .ok (.invokevirtual 9, 3) := by decide +kernel
theorem dL_hangs_648 : decode cL_hangs 648 = .ok (.istore 9, 2) := by decide +kernel
theorem dL_hangs_650 : decode cL_hangs 650 = .ok (.iconst 0, 1) := by decide +kernel
theorem dL_hangs_651 : decode cL_hangs 651 = .ok (.istore 10, 2) := by decide +kernel
theorem dL_hangs_653 : decode cL_hangs 653 = .ok (.iconst 0, 1) := by decide +kernel
theorem dL_hangs_654 : decode cL_hangs 654 = .ok (.istore 11, 2) := by decide +kernel
theorem dL_hangs_656 : decode cL_hangs 656 = .ok (.iload 11, 2) := by decide +kernel
theorem dL_hangs_658 : decode cL_hangs 658 = .ok (.iload 9, 2) := by decide +kernel
theorem dL_hangs_660 : decode cL_hangs 660 = .ok (.if_icmp .ge 89, 3) := by decide +kernel
theorem dL_hangs_663 : decode cL_hangs 663 = .ok (.iload 6, 2) := by decide +kernel
theorem dL_hangs_665 : decode cL_hangs 665 = .ok (.ifCond .eq 84, 3) := by decide +kernel
theorem dL_hangs_668 : decode cL_hangs 668 = .ok (.aload_n 0, 1) := by decide +kernel
theorem dL_hangs_669 : decode cL_hangs 669 = .ok (.iload 11, 2) := by decide +kernel
theorem dL_hangs_671 : decode cL_hangs 671 = .ok (.iconst 0, 1) := by decide +kernel
theorem dL_hangs_672 : decode cL_hangs 672 = .ok (.invokevirtual 25, 3) := by decide +kernel
theorem dL_hangs_675 : decode cL_hangs 675 = .ok (.istore 12, 2) := by decide +kernel
theorem dL_hangs_677 : decode cL_hangs 677 = .ok (.aload_n 0, 1) := by decide +kernel
theorem dL_hangs_678 : decode cL_hangs 678 = .ok (.iload 11, 2) := by decide +kernel
theorem dL_hangs_680 : decode cL_hangs 680 = .ok (.iconst 1, 1) := by decide +kernel
theorem dL_hangs_681 : decode cL_hangs 681 = .ok (.invokevirtual 25, 3) := by decide +kernel
theorem dL_hangs_684 : decode cL_hangs 684 = .ok (.istore 13, 2) := by decide +kernel
theorem dL_hangs_686 : decode cL_hangs 686 = .ok (.iload 12, 2) := by decide +kernel
theorem dL_hangs_688 : decode cL_hangs 688 = .ok (.iload 10, 2) := by decide +kernel
theorem dL_hangs_690 : decode cL_hangs 690 = .ok (.if_icmp .le 46, 3) := by decide +kernel
theorem dL_hangs_693 : decode cL_hangs 693 = .ok (.aload_n 0, 1) := by decide +kernel
theorem dL_hangs_694 : decode cL_hangs 694 = .ok (.iload 12, 2) := by decide +kernel
theorem dL_hangs_696 : decode cL_hangs 696 = .ok (.iconst 1, 1) := by decide +kernel
theorem dL_hangs_697 : decode cL_hangs 697 = .ok (.invokevirtual 15, 3) := by decide +kernel
theorem dL_hangs_700 : decode cL_hangs 700 = .ok (.bipush (-5), 2) := by decide +kernel
theorem dL_hangs_702 : decode cL_hangs 702 = .ok (.if_icmp .eq 34, 3) := by decide +kernel
theorem dL_hangs_705 : decode cL_hangs 705 = .ok (.iload 13, 2) := by decide +kernel
theorem dL_hangs_707 : decode cL_hangs 707 = .ok (.ifCond .lt 29, 3) := by decide +kernel
theorem dL_hangs_710 : decode cL_hangs 710 = .ok (.iload 13, 2) := by decide +kernel
theorem dL_hangs_712 : decode cL_hangs 712 = .ok (.iconst 2, 1) := by decide +kernel
theorem dL_hangs_713 : decode cL_hangs 713 = .ok (.if_icmp .gt 23, 3) := by decide +kernel
theorem dL_hangs_716 : decode cL_hangs 716 = .ok (.iload 13, 2) := by decide +kernel
theorem dL_hangs_718 : decode cL_hangs 718 = .ok (.iconst 2, 1) := by decide +kernel
theorem dL_hangs_719 : decode cL_hangs 719 = .ok (.if_icmp .eq 13, 3) := by decide +kernel
theorem dL_hangs_722 : decode cL_hangs 722 = .ok (.aload_n 0, 1) := by decide +kernel
theorem dL_hangs_723 : decode cL_hangs 723 = .ok (.iload 11, 2) := by decide +kernel
theorem dL_hangs_725 : decode cL_hangs 725 = .ok (.iconst 2, 1) := by decide +kernel
theorem dL_hangs_726 : decode cL_hangs 726 = .ok (.invokevirtual 25, 3) := by decide +kernel
theorem dL_hangs_729 : decode cL_hangs 729 = .ok (.ifCond .ne 7, 3) := by decide +kernel
theorem dL_hangs_732 : decode cL_hangs 732 = .ok (.iconst 1, 1) := by decide +kernel
theorem dL_hangs_733 : decode cL_hangs 733 = .ok (.goto 4, 3) := by decide +kernel
theorem dL_hangs_736 : decode cL_hangs 736 = .ok (.iconst 0, 1) := by decide +kernel
theorem dL_hangs_737 : decode cL_hangs 737 = .ok (.istore 6, 2) := by decide +kernel
theorem dL_hangs_739 : decode cL_hangs 739 = .ok (.iload 12, 2) := by decide +kernel
theorem dL_hangs_741 : decode cL_hangs 741 = .ok (.istore 10, 2) := by decide +kernel
theorem dL_hangs_743 : decode cL_hangs 743 = .ok (.iinc 11 1, 3) := by decide +kernel
theorem dL_hangs_746 : decode cL_hangs 746 = .ok (.goto (-90), 3) := by decide +kernel
theorem dL_hangs_749 : decode cL_hangs 749 = .ok (.aload_n 0, 1) := by decide +kernel
theorem dL_hangs_750 : decode cL_hangs 750 = .ok (.bipush 9, 2) := by decide +kernel
theorem dL_hangs_752 : decode cL_hangs 752 = .ok (.invokevirtual 9, 3) := by decide +kernel
theorem dL_hangs_755 : decode cL_hangs 755 = .ok (.istore 11, 2) := by decide +kernel
theorem dL_hangs_757 : decode cL_hangs 757 = .ok (.iconst (-1), 1) := by decide +kernel
theorem dL_hangs_758 : decode cL_hangs 758 = .ok (.istore 12, 2) := by decide +kernel
theorem dL_hangs_760 : decode cL_hangs 760 = .ok (.iconst 0, 1) := by decide +kernel
theorem dL_hangs_761 : decode cL_hangs 761 = .ok (.istore 13, 2) := by decide +kernel
theorem dL_hangs_763 : decode cL_hangs 763 = .ok (.iload 13, 2) := by decide +kernel
theorem dL_hangs_765 : decode cL_hangs 765 = .ok (.iload 11, 2) := by decide +kernel
theorem dL_hangs_767 : decode cL_hangs 767 = .ok (.if_icmp .ge 108, 3) := by decide +kernel
theorem dL_hangs_770 : decode cL_hangs 770 = .ok (.iload 6, 2) := by decide +kernel
theorem dL_hangs_772 : decode cL_hangs 772 = .ok (.ifCond .eq 103, 3) := by decide +kernel
theorem dL_hangs_775 : decode cL_hangs 775 = .ok (.aload_n 0, 1) := by decide +kernel
theorem dL_hangs_776 : decode cL_hangs 776 = .ok (.iload 13, 2) := by decide +kernel
theorem dL_hangs_778 : decode cL_hangs 778 = .ok (.iconst 0, 1) := by decide +kernel
theorem dL_hangs_779 : decode cL_hangs 779 = .ok (.invokevirtual 28, 3) := by decide +kernel
theorem dL_hangs_782 : decode cL_hangs 782 = .ok (.istore 14, 2) := by decide +kernel
theorem dL_hangs_784 : decode cL_hangs 784 = .ok (.aload_n 0, 1) := by decide +kernel
theorem dL_hangs_785 : decode cL_hangs 785 = .ok (.iload 13, 2) := by decide +kernel
theorem dL_hangs_787 : decode cL_hangs 787 = .ok (.iconst 1, 1) := by decide +kernel
theorem dL_hangs_788 : decode cL_hangs 788 = .ok (.invokevirtual 28, 3) := by decide +kernel
theorem dL_hangs_791 : decode cL_hangs 791 = .ok (.istore 15, 2) := by decide +kernel
theorem dL_hangs_793 : decode cL_hangs 793 = .ok (.iload 14, 2) := by decide +kernel
theorem dL_hangs_795 : decode cL_hangs 795 = .ok (.iload 12, 2) := by decide +kernel
theorem dL_hangs_797 : decode cL_hangs 797 = .ok (.if_icmp .le 65, 3) := by decide +kernel
theorem dL_hangs_800 : decode cL_hangs 800 = .ok (.aload_n 0, 1) := by decide +kernel
theorem dL_hangs_801 : decode cL_hangs 801 = .ok (.iload 14, 2) := by decide +kernel
theorem dL_hangs_803 : decode cL_hangs 803 = .ok (.iconst 4, 1) := by decide +kernel
theorem dL_hangs_804 : decode cL_hangs 804 = .ok (.invokevirtual 19, 3) := by decide +kernel
theorem dL_hangs_807 : decode cL_hangs 807 = .ok (.ifCond .ne 55, 3) := by decide +kernel
theorem dL_hangs_810 : decode cL_hangs 810 = .ok (.iload 13, 2) := by decide +kernel
theorem dL_hangs_812 : decode cL_hangs 812 = .ok (.iload 11, 2) := by decide +kernel
theorem dL_hangs_814 : decode cL_hangs 814 = .ok (.iconst 1, 1) := by decide +kernel
theorem dL_hangs_815 : decode cL_hangs 815 = .ok (.isub, 1) := by decide +kernel
theorem dL_hangs_816 : decode cL_hangs 816 = .ok (.if_icmp .ne 13, 3) := by decide +kernel
theorem dL_hangs_819 : decode cL_hangs 819 = .ok (.iload 15, 2) := by decide +kernel
theorem dL_hangs_821 : decode cL_hangs 821 = .ok (.bipush (-5), 2) := by decide +kernel
theorem dL_hangs_823 : decode cL_hangs 823 = .ok (.if_icmp .ne 39, 3) := by decide +kernel
theorem dL_hangs_826 : decode cL_hangs 826 = .ok (.goto 32, 3) := by decide +kernel
theorem dL_hangs_829 : decode cL_hangs 829 = .ok (.aload_n 0, 1) := by decide +kernel
theorem dL_hangs_830 : decode cL_hangs 830 = .ok (.aload_n 0, 1) := by decide +kernel
theorem dL_hangs_831 : decode cL_hangs 831 = .ok (.iload 13, 2) := by decide +kernel
theorem dL_hangs_833 : decode cL_hangs 833 = .ok (.iconst 1, 1) := by decide +kernel
theorem dL_hangs_834 : decode cL_hangs 834 = .ok (.iadd, 1) := by decide +kernel
theorem dL_hangs_835 : decode cL_hangs 835 = .ok (.iconst 0, 1) := by decide +kernel
theorem dL_hangs_836 : decode cL_hangs 836 = .ok (.invokevirtual 28, 3) := by decide +kernel
theorem dL_hangs_839 : decode cL_hangs 839 = .ok (.iconst 5, 1) := by decide +kernel
theorem dL_hangs_840 : decode cL_hangs 840 = .ok (.invokevirtual 19, 3) := by decide +kernel
theorem dL_hangs_843 : decode cL_hangs 843 = .ok (.aload_n 0, 1) := by decide +kernel
theorem dL_hangs_844 : decode cL_hangs 844 = .ok (.iload 14, 2) := by decide +kernel
theorem dL_hangs_846 : decode cL_hangs 846 = .ok (.iconst 5, 1) := by decide +kernel
theorem dL_hangs_847 : decode cL_hangs 847 = .ok (.invokevirtual 19, 3) := by decide +kernel
theorem dL_hangs_850 : decode cL_hangs 850 = .ok (.isub, 1) := by decide +kernel
theorem dL_hangs_851 : decode cL_hangs 851 = .ok (.iconst 1, 1) := by decide +kernel
theorem dL_hangs_852 : decode cL_hangs 852 = .ok (.isub, 1) := by decide +kernel
theorem dL_hangs_853 : decode cL_hangs 853 = .ok (.iload 15, 2) := by decide +kernel
theorem dL_hangs_855 : decode cL_hangs 855 = .ok (.if_icmp .ne 7, 3) := by decide +kernel
theorem dL_hangs_858 : decode cL_hangs 858 = .ok (.iconst 1, 1) := by decide +kernel
theorem dL_hangs_859 : decode cL_hangs 859 = .ok (.goto 4, 3) := by decide +kernel
theorem dL_hangs_862 : decode cL_hangs 862 = .ok (.iconst 0, 1) := by decide +kernel
theorem dL_hangs_863 : decode cL_hangs 863 = .ok (.istore 6, 2) := by decide +kernel
theorem dL_hangs_865 : decode cL_hangs 865 = .ok (.iload 14, 2) := by decide +kernel
theorem dL_hangs_867 : decode cL_hangs 867 = .ok (.istore 12, 2) := by decide +kernel
theorem dL_hangs_869 : decode cL_hangs 869 = .ok (.iinc 13 1, 3) := by decide +kernel
theorem dL_hangs_872 : decode cL_hangs 872 = .ok (.goto (-109), 3) := by decide +kernel
theorem dL_hangs_875 : decode cL_hangs 875 = .ok (.iload 6, 2) := by decide +kernel
theorem dL_hangs_877 : decode cL_hangs 877 = .ok (.ifCond .eq 31, 3) := by decide +kernel
theorem dL_hangs_880 : decode cL_hangs 880 = .ok (.aload_n 0, 1) := by decide +kernel
theorem dL_hangs_881 : decode cL_hangs 881 = .ok (.iload 9, 2) := by decide +kernel
theorem dL_hangs_883 : decode cL_hangs 883 = .ok (.iconst 0, 1) := by decide +kernel
theorem dL_hangs_884 : decode cL_hangs 884 = .ok (.invokevirtual 25, 3) := by decide +kernel
theorem dL_hangs_887 : decode cL_hangs 887 = .ok (.bipush (-5), 2) := by decide +kernel
theorem dL_hangs_889 : decode cL_hangs 889 = .ok (.if_icmp .ne 19, 3) := by decide +kernel
theorem dL_hangs_892 : decode cL_hangs 892 = .ok (.aload_n 0, 1) := by decide +kernel
theorem dL_hangs_893 : decode cL_hangs 893 = .ok (.iload 11, 2) := by decide +kernel
theorem dL_hangs_895 : decode cL_hangs 895 = .ok (.iconst 0, 1) := by decide +kernel
theorem dL_hangs_896 : decode cL_hangs 896 = .ok (.invokevirtual 28, 3) := by decide +kernel
theorem dL_hangs_899 : decode cL_hangs 899 = .ok (.bipush (-5), 2) := by decide +kernel
theorem dL_hangs_901 : decode cL_hangs 901 = .ok (.if_icmp .ne 7, 3) := by decide +kernel
theorem dL_hangs_904 : decode cL_hangs 904 = .ok (.iconst 1, 1) := by decide +kernel
theorem dL_hangs_905 : decode cL_hangs 905 = .ok (.goto 4, 3) := by decide +kernel
theorem dL_hangs_908 : decode cL_hangs 908 = .ok (.iconst 0, 1) := by decide +kernel
theorem dL_hangs_909 : decode cL_hangs 909 = .ok (.ireturn, 1) := by decide +kernel
theorem dL_again_0 : decode cL_again 0 = .ok (.aload_n 0, 1) := by decide +kernel
theorem dL_again_1 : decode cL_again 1 = .ok (.bipush 7, 2) := by decide +kernel
theorem dL_again_3 : decode cL_again 3 = .ok (.invokevirtual 9, 3) := by decide +kernel
theorem dL_again_6 : decode cL_again 6 = .ok (.istore_n 1, 1) := by decide +kernel
theorem dL_again_7 : decode cL_again 7 = .ok (.iload_n 1, 1) := by decide +kernel
theorem dL_again_8 : decode cL_again 8 = .ok (.ifCond .eq 9, 3) := by decide +kernel
theorem dL_again_11 : decode cL_again 11 = .ok (.iload_n 1, 1) := by decide +kernel
theorem dL_again_12 : decode cL_again 12 = .ok (.bipush 60, 2) := by decide +kernel
theorem dL_again_14 : decode cL_again 14 = .ok (.if_icmp .le 5, 3) := by decide +kernel
theorem dL_again_17 : decode cL_again 17 = .ok (.iconst 1, 1) := by decide +kernel
theorem dL_again_18 : decode cL_again 18 = .ok (.ireturn, 1) := by decide +kernel
theorem dL_again_19 : decode cL_again 19 = .ok (.new 10, 3) := by decide +kernel
theorem dL_again_22 : decode cL_again 22 = .ok (.dup, 1) := by decide +kernel
theorem dL_again_23 : decode cL_again 23 = .ok (.invokespecial 31, 3) := by decide +kernel
theorem dL_again_26 : decode cL_again 26 = .ok (.astore_n 2, 1) := by decide +kernel
theorem dL_again_27 : decode cL_again 27 = .ok (.iconst 1, 1) := by decide +kernel
theorem dL_again_28 : decode cL_again 28 = .ok (.istore_n 3, 1) := by decide +kernel
theorem dL_again_29 : decode cL_again 29 = .ok (.bipush 65, 2) := by decide +kernel
theorem dL_again_31 : decode cL_again 31 = .ok (.istore 4, 2) := by decide +kernel
theorem dL_again_33 : decode cL_again 33 = .ok (.iload 4, 2) := by decide +kernel
theorem dL_again_35 : decode cL_again 35 = .ok (.bipush 90, 2) := by decide +kernel
theorem dL_again_37 : decode cL_again 37 = .ok (.if_icmp .gt 49, 3) := by decide +kernel
theorem dL_again_40 : decode cL_again 40 = .ok (.iload_n 3, 1) := by decide +kernel
theorem dL_again_41 : decode cL_again 41 = .ok (.ifCond .eq 45, 3) := by decide +kernel
theorem dL_again_44 : decode cL_again 44 = .ok (.aload_n 2, 1) := by decide +kernel
theorem dL_again_45 : decode cL_again 45 = .ok (.iload 4, 2) := by decide +kernel
theorem dL_again_47 : decode cL_again 47 = .ok (.aload_n 0, 1) := by decide +kernel
theorem dL_again_48 : decode cL_again 48 = .ok (.iload 4, 2) := by decide +kernel
theorem dL_again_50 : decode cL_again 50 = .ok (.invokestatic 32, 3) := by decide +kernel
theorem dL_again_53 : decode cL_again 53 = .ok (.invokevirtual 38, 3) := by decide +kernel
theorem dL_again_56 : decode cL_again 56 = .ok (.istore 5, 2) := by decide +kernel
theorem dL_again_58 : decode cL_again 58 = .ok (.iload 5, 2) := by decide +kernel
theorem dL_again_60 : decode cL_again 60 = .ok (.bipush (-5), 2) := by decide +kernel
theorem dL_again_62 : decode cL_again 62 = .ok (.if_icmp .eq 8, 3) := by decide +kernel
theorem dL_again_65 : decode cL_again 65 = .ok (.iload 5, 2) := by decide +kernel
theorem dL_again_67 : decode cL_again 67 = .ok (.ifCond .le 7, 3) := by decide +kernel
theorem dL_again_70 : decode cL_again 70 = .ok (.iconst 1, 1) := by decide +kernel
theorem dL_again_71 : decode cL_again 71 = .ok (.goto 4, 3) := by decide +kernel
theorem dL_again_74 : decode cL_again 74 = .ok (.iconst 0, 1) := by decide +kernel
theorem dL_again_75 : decode cL_again 75 = .ok (.istore_n 3, 1) := by decide +kernel
theorem dL_again_76 : decode cL_again 76 = .ok (.iload 4, 2) := by decide +kernel
theorem dL_again_78 : decode cL_again 78 = .ok (.iconst 1, 1) := by decide +kernel
theorem dL_again_79 : decode cL_again 79 = .ok (.iadd, 1) := by decide +kernel
theorem dL_again_80 : decode cL_again 80 = .ok (.i2c, 1) := by decide +kernel
theorem dL_again_81 : decode cL_again 81 = .ok (.istore 4, 2) := by decide +kernel
theorem dL_again_83 : decode cL_again 83 = .ok (.goto (-50), 3) := by decide +kernel
theorem dL_again_86 : decode cL_again 86 = .ok (.iconst 0, 1) := by decide +kernel
theorem dL_again_87 : decode cL_again 87 = .ok (.istore 4, 2) := by decide +kernel
theorem dL_again_89 : decode cL_again 89 = .ok (.iload 4, 2) := by decide +kernel
theorem dL_again_91 : decode cL_again 91 = .ok (.iload_n 1, 1) := by decide +kernel
theorem dL_again_92 : decode cL_again 92 = .ok (.if_icmp .ge 37, 3) := by decide +kernel
theorem dL_again_95 : decode cL_again 95 = .ok (.iload_n 3, 1) := by decide +kernel
theorem dL_again_96 : decode cL_again 96 = .ok (.ifCond .eq 33, 3) := by decide +kernel
theorem dL_again_99 : decode cL_again 99 = .ok (.aload_n 2, 1) := by decide +kernel
theorem dL_again_100 : decode cL_again 100 = .ok (.aload_n 0, 1) := by decide +kernel
theorem dL_again_101 : decode cL_again 101 = .ok (.iload 4, 2) := by decide +kernel
theorem dL_again_103 : decode cL_again 103 = .ok (.invokevirtual 22, 3) := by decide +kernel
theorem dL_again_106 : decode cL_again 106 = .ok (.i2c, 1) := by decide +kernel
theorem dL_again_107 : decode cL_again 107 = .ok (.invokevirtual 42, 3) := by decide +kernel
theorem dL_again_110 : decode cL_again 110 = .ok (.iload 4, 2) := by decide +kernel
theorem dL_again_112 : decode cL_again 112 = .ok (.iconst 1, 1) := by decide +kernel
theorem dL_again_113 : decode cL_again 113 = .ok (.iadd, 1) := by decide +kernel
theorem dL_again_114 : decode cL_again 114 = .ok (.if_icmp .ne 7, 3) := by decide +kernel
theorem dL_again_117 : decode cL_again 117 = .ok (.iconst 1, 1) := by decide +kernel
theorem dL_again_118 : decode cL_again 118 = .ok (.goto 4, 3) := by decide +kernel
theorem dL_again_121 : decode cL_again 121 = .ok (.iconst 0, 1) := by decide +kernel
theorem dL_again_122 : decode cL_again 122 = .ok (.istore_n 3, 1) := by decide +kernel
theorem dL_again_123 : decode cL_again 123 = .ok (.iinc 4 1, 3) := by decide +kernel
theorem dL_again_126 : decode cL_again 126 = .ok (.goto (-37), 3) := by decide +kernel
theorem dL_again_129 : decode cL_again 129 = .ok (.iload_n 3, 1) := by decide +kernel
theorem dL_again_130 : decode cL_again 130 = .ok (.ifCond .eq 10, 3) := by decide +kernel
theorem dL_again_133 : decode cL_again 133 = .ok (.aload_n 2, 1) := by decide +kernel
theorem dL_again_134 : decode cL_again 134 = .ok (.invokevirtual 46, 3) := by decide +kernel
theorem dL_again_137 : decode cL_again 137 = .ok (.goto 4, 3) := by decide +kernel
theorem dL_again_140 : decode cL_again 140 = .ok (.iconst 0, 1) := by decide +kernel
theorem dL_again_141 : decode cL_again 141 = .ok (.istore 4, 2) := by decide +kernel
theorem dL_again_143 : decode cL_again 143 = .ok (.iconst 0, 1) := by decide +kernel
theorem dL_again_144 : decode cL_again 144 = .ok (.istore 5, 2) := by decide +kernel
theorem dL_again_146 : decode cL_again 146 = .ok (.iload 5, 2) := by decide +kernel
theorem dL_again_148 : decode cL_again 148 = .ok (.aload_n 0, 1) := by decide +kernel
theorem dL_again_149 : decode cL_again 149 = .ok (.iconst 0, 1) := by decide +kernel
theorem dL_again_150 : decode cL_again 150 = .ok (.invokevirtual 9, 3) := by decide +kernel
theorem dL_again_153 : decode cL_again 153 = .ok (.if_icmp .ge 38, 3) := by decide +kernel
theorem dL_again_156 : decode cL_again 156 = .ok (.aload_n 0, 1) := by decide +kernel
theorem dL_again_157 : decode cL_again 157 = .ok (.iload 5, 2) := by decide +kernel
theorem dL_again_159 : decode cL_again 159 = .ok (.iconst 1, 1) := by decide +kernel
theorem dL_again_160 : decode cL_again 160 = .ok (.invokevirtual 15, 3) := by decide +kernel
theorem dL_again_163 : decode cL_again 163 = .ok (.bipush (-5), 2) := by decide +kernel
theorem dL_again_165 : decode cL_again 165 = .ok (.if_icmp .eq 20, 3) := by decide +kernel
theorem dL_again_168 : decode cL_again 168 = .ok (.aload_n 0, 1) := by decide +kernel
theorem dL_again_169 : decode cL_again 169 = .ok (.aload_n 0, 1) := by decide +kernel
theorem dL_again_170 : decode cL_again 170 = .ok (.iload 5, 2) := by decide +kernel
theorem dL_again_172 : decode cL_again 172 = .ok (.iconst 1, 1) := by decide +kernel
theorem dL_again_173 : decode cL_again 173 = .ok (.invokevirtual 15, 3) := by decide +kernel
theorem dL_again_176 : decode cL_again 176 = .ok (.i2c, 1) := by decide +kernel
theorem dL_again_177 : decode cL_again 177 = .ok (.invokestatic 32, 3) := by decide +kernel
theorem dL_again_180 : decode cL_again 180 = .ok (.ifCond .eq 5, 3) := by decide +kernel
theorem dL_again_183 : decode cL_again 183 = .ok (.iload_n 3, 1) := by decide +kernel
theorem dL_again_184 : decode cL_again 184 = .ok (.ireturn, 1) := by decide +kernel
theorem dL_again_185 : decode cL_again 185 = .ok (.iinc 5 1, 3) := by decide +kernel
theorem dL_again_188 : decode cL_again 188 = .ok (.goto (-42), 3) := by decide +kernel
theorem dL_again_191 : decode cL_again 191 = .ok (.iload_n 3, 1) := by decide +kernel
theorem dL_again_192 : decode cL_again 192 = .ok (.ifCond .eq 45, 3) := by decide +kernel
theorem dL_again_195 : decode cL_again 195 = .ok (.iload 4, 2) := by decide +kernel
theorem dL_again_197 : decode cL_again 197 = .ok (.aload_n 0, 1) := by decide +kernel
theorem dL_again_198 : decode cL_again 198 = .ok (.iconst 0, 1) := by decide +kernel
theorem dL_again_199 : decode cL_again 199 = .ok (.invokevirtual 9, 3) := by decide +kernel
theorem dL_again_202 : decode cL_again 202 = .ok (.if_icmp .ne 35, 3) := by decide +kernel
theorem dL_again_205 : decode cL_again 205 = .ok (.aload_n 2, 1) := by decide +kernel
theorem dL_again_206 : decode cL_again 206 = .ok (.bipush 8, 2) := by decide +kernel
theorem dL_again_208 : decode cL_again 208 = .ok (.invokevirtual 9, 3) := by decide +kernel
theorem dL_again_211 : decode cL_again 211 = .ok (.aload_n 0, 1) := by decide +kernel
theorem dL_again_212 : decode cL_again 212 = .ok (.bipush 8, 2) := by decide +kernel
theorem dL_again_214 : decode cL_again 214 = .ok (.invokevirtual 9, 3) := by decide +kernel
theorem dL_again_217 : decode cL_again 217 = .ok (.if_icmp .ne 20, 3) := by decide +kernel
theorem dL_again_220 : decode cL_again 220 = .ok (.aload_n 2, 1) := by decide +kernel
theorem dL_again_221 : decode cL_again 221 = .ok (.iconst 1, 1) := by decide +kernel
theorem dL_again_222 : decode cL_again 222 = .ok (.invokevirtual 9, 3) := by decide +kernel
theorem dL_again_225 : decode cL_again 225 = .ok (.aload_n 0, 1) := by decide +kernel
theorem dL_again_226 : decode cL_again 226 = .ok (.iconst 1, 1) := by decide +kernel
theorem dL_again_227 : decode cL_again 227 = .ok (.invokevirtual 9, 3) := by decide +kernel
theorem dL_again_230 : decode cL_again 230 = .ok (.if_icmp .ne 7, 3) := by decide +kernel
theorem dL_again_233 : decode cL_again 233 = .ok (.iconst 1, 1) := by decide +kernel
theorem dL_again_234 : decode cL_again 234 = .ok (.goto 4, 3) := by decide +kernel
theorem dL_again_237 : decode cL_again 237 = .ok (.iconst 0, 1) := by decide +kernel
theorem dL_again_238 : decode cL_again 238 = .ok (.istore_n 3, 1) := by decide +kernel
theorem dL_again_239 : decode cL_again 239 = .ok (.iconst 0, 1) := by decide +kernel
theorem dL_again_240 : decode cL_again 240 = .ok (.istore 5, 2) := by decide +kernel
theorem dL_again_242 : decode cL_again 242 = .ok (.iload 5, 2) := by decide +kernel
theorem dL_again_244 : decode cL_again 244 = .ok (.aload_n 0, 1) := by decide +kernel
theorem dL_again_245 : decode cL_again 245 = .ok (.iconst 0, 1) := by decide +kernel
theorem dL_again_246 : decode cL_again 246 = .ok (.invokevirtual 9, 3) := by decide +kernel
theorem dL_again_249 : decode cL_again 249 = .ok (.if_icmp .ge 70, 3) := by decide +kernel
theorem dL_again_252 : decode cL_again 252 = .ok (.iload_n 3, 1) := by decide +kernel
theorem dL_again_253 : decode cL_again 253 = .ok (.ifCond .eq 66, 3) := by decide +kernel
theorem dL_again_256 : decode cL_again 256 = .ok (.aload_n 2, 1) := by decide +kernel
theorem dL_again_257 : decode cL_again 257 = .ok (.iload 5, 2) := by decide +kernel
theorem dL_again_259 : decode cL_again 259 = .ok (.iconst 0, 1) := by decide +kernel
theorem dL_again_260 : decode cL_again 260 = .ok (.invokevirtual 15, 3) := by decide +kernel
theorem dL_again_263 : decode cL_again 263 = .ok (.aload_n 0, 1) := by decide +kernel
theorem dL_again_264 : decode cL_again 264 = .ok (.iload 5, 2) := by decide +kernel
theorem dL_again_266 : decode cL_again 266 = .ok (.iconst 0, 1) := by decide +kernel
theorem dL_again_267 : decode cL_again 267 = .ok (.invokevirtual 15, 3) := by decide +kernel
theorem dL_again_270 : decode cL_again 270 = .ok (.if_icmp .ne 41, 3) := by decide +kernel
theorem dL_again_273 : decode cL_again 273 = .ok (.aload_n 2, 1) := by decide +kernel
theorem dL_again_274 : decode cL_again 274 = .ok (.iload 5, 2) := by decide +kernel
theorem dL_again_276 : decode cL_again 276 = .ok (.iconst 1, 1) := by decide +kernel
theorem dL_again_277 : decode cL_again 277 = .ok (.invokevirtual 15, 3) := by decide +kernel
theorem dL_again_280 : decode cL_again 280 = .ok (.aload_n 0, 1) := by decide +kernel
theorem dL_again_281 : decode cL_again 281 = .ok (.iload 5, 2) := by decide +kernel
theorem dL_again_283 : decode cL_again 283 = .ok (.iconst 1, 1) := by decide +kernel
theorem dL_again_284 : decode cL_again 284 = .ok (.invokevirtual 15, 3) := by decide +kernel
theorem dL_again_287 : decode cL_again 287 = .ok (.if_icmp .ne 24, 3) := by decide +kernel
theorem dL_again_290 : decode cL_again 290 = .ok (.aload_n 2, 1) := by decide +kernel
theorem dL_again_291 : decode cL_again 291 = .ok (.iload 5, 2) := by decide +kernel
theorem dL_again_293 : decode cL_again 293 = .ok (.iconst 2, 1) := by decide +kernel
theorem dL_again_294 : decode cL_again 294 = .ok (.invokevirtual 15, 3) := by decide +kernel
theorem dL_again_297 : decode cL_again 297 = .ok (.aload_n 0, 1) := by decide +kernel
theorem dL_again_298 : decode cL_again 298 = .ok (.iload 5, 2) := by decide +kernel
theorem dL_again_300 : decode cL_again 300 = .ok (.iconst 2, 1) := by decide +kernel
theorem dL_again_301 : decode cL_again 301 = .ok (.invokevirtual 15, 3) := by decide +kernel
theorem dL_again_304 : decode cL_again 304 = .ok (.if_icmp .ne 7, 3) := by decide +kernel
theorem dL_again_307 : decode cL_again 307 = .ok (.iconst 1, 1) := by decide +kernel
theorem dL_again_308 : decode cL_again 308 = .ok (.goto 4, 3) := by decide +kernel
theorem dL_again_311 : decode cL_again 311 = .ok (.iconst 0, 1) := by decide +kernel
theorem dL_again_312 : decode cL_again 312 = .ok (.istore_n 3, 1) := by decide +kernel
theorem dL_again_313 : decode cL_again 313 = .ok (.iinc 5 1, 3) := by decide +kernel
theorem dL_again_316 : decode cL_again 316 = .ok (.goto (-74), 3) := by decide +kernel
theorem dL_again_319 : decode cL_again 319 = .ok (.iload_n 3, 1) := by decide +kernel
theorem dL_again_320 : decode cL_again 320 = .ok (.ireturn, 1) := by decide +kernel
theorem dL_isOut_0 : decode cL_isOut 0 = .ok (.aload_n 0, 1) := by decide +kernel
theorem dL_isOut_1 : decode cL_isOut 1 = .ok (.iload_n 1, 1) := by decide +kernel
theorem dL_isOut_2 : decode cL_isOut 2 = .ok (.iconst 1, 1) := by decide +kernel
theorem dL_isOut_3 : decode cL_isOut 3 = .ok (.invokevirtual 38, 3) := by decide +kernel
theorem dL_isOut_6 : decode cL_isOut 6 = .ok (.istore_n 2, 1) := by decide +kernel
theorem dL_isOut_7 : decode cL_isOut 7 = .ok (.iload_n 2, 1) := by decide +kernel
theorem dL_isOut_8 : decode cL_isOut 8 = .ok (.bipush (-5), 2) := by decide +kernel
theorem dL_isOut_10 : decode cL_isOut 10 = .ok (.if_icmp .ne 7, 3) := by decide +kernel
theorem dL_isOut_13 : decode cL_isOut 13 = .ok (.iconst 1, 1) := by decide +kernel
theorem dL_isOut_14 : decode cL_isOut 14 = .ok (.goto 4, 3) := by decide +kernel
theorem dL_isOut_17 : decode cL_isOut 17 = .ok (.iconst 0, 1) := by decide +kernel
theorem dL_isOut_18 : decode cL_isOut 18 = .ok (.istore_n 3, 1) := by decide +kernel
theorem dL_isOut_19 : decode cL_isOut 19 = .ok (.iload_n 2, 1) := by decide +kernel
theorem dL_isOut_20 : decode cL_isOut 20 = .ok (.ifCond .lt 8, 3) := by decide +kernel
theorem dL_isOut_23 : decode cL_isOut 23 = .ok (.aload_n 0, 1) := by decide +kernel
theorem dL_isOut_24 : decode cL_isOut 24 = .ok (.invokevirtual 50, 3) := by decide +kernel
theorem dL_isOut_27 : decode cL_isOut 27 = .ok (.pop, 1) := by decide +kernel
theorem dL_isOut_28 : decode cL_isOut 28 = .ok (.iload_n 3, 1) := by decide +kernel
theorem dL_isOut_29 : decode cL_isOut 29 = .ok (.ireturn, 1) := by decide +kernel
theorem dL_law_0 : decode cL_law 0 = .ok (.new 10, 3) := by decide +kernel
theorem dL_law_3 : decode cL_law 3 = .ok (.dup, 1) := by decide +kernel
theorem dL_law_4 : decode cL_law 4 = .ok (.invokespecial 31, 3) := by decide +kernel
theorem dL_law_7 : decode cL_law 7 = .ok (.astore_n 1, 1) := by decide +kernel
theorem dL_law_8 : decode cL_law 8 = .ok (.aload_n 1, 1) := by decide +kernel
theorem dL_law_9 : decode cL_law 9 = .ok (.invokevirtual 50, 3) := by decide +kernel
theorem dL_law_12 : decode cL_law 12 = .ok (.bipush (-5), 2) := by decide +kernel
theorem dL_law_14 : decode cL_law 14 = .ok (.if_icmp .ne 53, 3) := by decide +kernel
theorem dL_law_17 : decode cL_law 17 = .ok (.aload_n 1, 1) := by decide +kernel
theorem dL_law_18 : decode cL_law 18 = .ok (.invokevirtual 53, 3) := by decide +kernel
theorem dL_law_21 : decode cL_law 21 = .ok (.bipush (-5), 2) := by decide +kernel
theorem dL_law_23 : decode cL_law 23 = .ok (.if_icmp .ne 44, 3) := by decide +kernel
theorem dL_law_26 : decode cL_law 26 = .ok (.aload_n 1, 1) := by decide +kernel
theorem dL_law_27 : decode cL_law 27 = .ok (.iconst 4, 1) := by decide +kernel
theorem dL_law_28 : decode cL_law 28 = .ok (.invokevirtual 9, 3) := by decide +kernel
theorem dL_law_31 : decode cL_law 31 = .ok (.bipush 23, 2) := by decide +kernel
theorem dL_law_33 : decode cL_law 33 = .ok (.if_icmp .ne 34, 3) := by decide +kernel
theorem dL_law_36 : decode cL_law 36 = .ok (.aload_n 1, 1) := by decide +kernel
theorem dL_law_37 : decode cL_law 37 = .ok (.bipush 7, 2) := by decide +kernel
theorem dL_law_39 : decode cL_law 39 = .ok (.invokevirtual 9, 3) := by decide +kernel
theorem dL_law_42 : decode cL_law 42 = .ok (.ifCond .ne 25, 3) := by decide +kernel
theorem dL_law_45 : decode cL_law 45 = .ok (.aload_n 1, 1) := by decide +kernel
theorem dL_law_46 : decode cL_law 46 = .ok (.invokevirtual 46, 3) := by decide +kernel
theorem dL_law_49 : decode cL_law 49 = .ok (.bipush (-100), 2) := by decide +kernel
theorem dL_law_51 : decode cL_law 51 = .ok (.if_icmp .ne 16, 3) := by decide +kernel
theorem dL_law_54 : decode cL_law 54 = .ok (.aload_n 1, 1) := by decide +kernel
theorem dL_law_55 : decode cL_law 55 = .ok (.invokevirtual 56, 3) := by decide +kernel
theorem dL_law_58 : decode cL_law 58 = .ok (.bipush (-100), 2) := by decide +kernel
theorem dL_law_60 : decode cL_law 60 = .ok (.if_icmp .ne 7, 3) := by decide +kernel
theorem dL_law_63 : decode cL_law 63 = .ok (.iconst 1, 1) := by decide +kernel
theorem dL_law_64 : decode cL_law 64 = .ok (.goto 4, 3) := by decide +kernel
theorem dL_law_67 : decode cL_law 67 = .ok (.iconst 0, 1) := by decide +kernel
theorem dL_law_68 : decode cL_law 68 = .ok (.istore_n 2, 1) := by decide +kernel
theorem dL_law_69 : decode cL_law 69 = .ok (.iconst 0, 1) := by decide +kernel
theorem dL_law_70 : decode cL_law 70 = .ok (.istore_n 3, 1) := by decide +kernel
theorem dL_law_71 : decode cL_law 71 = .ok (.iload_n 3, 1) := by decide +kernel
theorem dL_law_72 : decode cL_law 72 = .ok (.bipush 26, 2) := by decide +kernel
theorem dL_law_74 : decode cL_law 74 = .ok (.if_icmp .ge 832, 3) := by decide +kernel
theorem dL_law_77 : decode cL_law 77 = .ok (.iload_n 2, 1) := by decide +kernel
theorem dL_law_78 : decode cL_law 78 = .ok (.ifCond .eq 828, 3) := by decide +kernel
theorem dL_law_81 : decode cL_law 81 = .ok (.aload_n 0, 1) := by decide +kernel
theorem dL_law_82 : decode cL_law 82 = .ok (.iload_n 3, 1) := by decide +kernel
theorem dL_law_83 : decode cL_law 83 = .ok (.invokestatic 59, 3) := by decide +kernel
theorem dL_law_86 : decode cL_law 86 = .ok (.istore 4, 2) := by decide +kernel
theorem dL_law_88 : decode cL_law 88 = .ok (.iload 4, 2) := by decide +kernel
theorem dL_law_90 : decode cL_law 90 = .ok (.bipush 16, 2) := by decide +kernel
theorem dL_law_92 : decode cL_law 92 = .ok (.idiv, 1) := by decide +kernel
theorem dL_law_93 : decode cL_law 93 = .ok (.istore 5, 2) := by decide +kernel
theorem dL_law_95 : decode cL_law 95 = .ok (.aload_n 1, 1) := by decide +kernel
theorem dL_law_96 : decode cL_law 96 = .ok (.iconst 0, 1) := by decide +kernel
theorem dL_law_97 : decode cL_law 97 = .ok (.invokevirtual 9, 3) := by decide +kernel
theorem dL_law_100 : decode cL_law 100 = .ok (.istore 6, 2) := by decide +kernel
theorem dL_law_102 : decode cL_law 102 = .ok (.aload_n 1, 1) := by decide +kernel
theorem dL_law_103 : decode cL_law 103 = .ok (.iconst 1, 1) := by decide +kernel
theorem dL_law_104 : decode cL_law 104 = .ok (.invokevirtual 9, 3) := by decide +kernel
theorem dL_law_107 : decode cL_law 107 = .ok (.istore 7, 2) := by decide +kernel
theorem dL_law_109 : decode cL_law 109 = .ok (.iconst 1, 1) := by decide +kernel
theorem dL_law_110 : decode cL_law 110 = .ok (.iload 5, 2) := by decide +kernel
theorem dL_law_112 : decode cL_law 112 = .ok (.iconst 4, 1) := by decide +kernel
theorem dL_law_113 : decode cL_law 113 = .ok (.idiv, 1) := by decide +kernel
theorem dL_law_114 : decode cL_law 114 = .ok (.bipush 24, 2) := by decide +kernel
theorem dL_law_116 : decode cL_law 116 = .ok (.irem, 1) := by decide +kernel
theorem dL_law_117 : decode cL_law 117 = .ok (.iadd, 1) := by decide +kernel
theorem dL_law_118 : decode cL_law 118 = .ok (.istore 8, 2) := by decide +kernel
theorem dL_law_120 : decode cL_law 120 = .ok (.iload 4, 2) := by decide +kernel
theorem dL_law_122 : decode cL_law 122 = .ok (.bipush 16, 2) := by decide +kernel
theorem dL_law_124 : decode cL_law 124 = .ok (.irem, 1) := by decide +kernel
theorem dL_law_125 : decode cL_law 125 = .ok (.tableswitch 571 0 12 #[67, 67, 67, 67, 67, 140, 140, 231, 281, 281, 281, 415, 479], 67) := by decide +kernel
theorem dL_law_192 : decode cL_law 192 = .ok (.aload_n 1, 1) := by decide +kernel
theorem dL_law_193 : decode cL_law 193 = .ok (.iload 8, 2) := by decide +kernel
theorem dL_law_195 : decode cL_law 195 = .ok (.invokevirtual 63, 3) := by decide +kernel
theorem dL_law_198 : decode cL_law 198 = .ok (.istore 9, 2) := by decide +kernel
theorem dL_law_200 : decode cL_law 200 = .ok (.iload 9, 2) := by decide +kernel
theorem dL_law_202 : decode cL_law 202 = .ok (.iload 6, 2) := by decide +kernel
theorem dL_law_204 : decode cL_law 204 = .ok (.bipush 40, 2) := by decide +kernel
theorem dL_law_206 : decode cL_law 206 = .ok (.if_icmp .ne 8, 3) := by decide +kernel
theorem dL_law_209 : decode cL_law 209 = .ok (.bipush (-3), 2) := by decide +kernel
theorem dL_law_211 : decode cL_law 211 = .ok (.goto 5, 3) := by decide +kernel
theorem dL_law_214 : decode cL_law 214 = .ok (.iload 6, 2) := by decide +kernel
theorem dL_law_216 : decode cL_law 216 = .ok (.if_icmp .ne 33, 3) := by decide +kernel
theorem dL_law_219 : decode cL_law 219 = .ok (.iload 9, 2) := by decide +kernel
theorem dL_law_221 : decode cL_law 221 = .ok (.ifCond .lt 35, 3) := by decide +kernel
theorem dL_law_224 : decode cL_law 224 = .ok (.aload_n 1, 1) := by decide +kernel
theorem dL_law_225 : decode cL_law 225 = .ok (.iload 9, 2) := by decide +kernel
theorem dL_law_227 : decode cL_law 227 = .ok (.iconst 2, 1) := by decide +kernel
theorem dL_law_228 : decode cL_law 228 = .ok (.invokevirtual 15, 3) := by decide +kernel
theorem dL_law_231 : decode cL_law 231 = .ok (.iload 8, 2) := by decide +kernel
theorem dL_law_233 : decode cL_law 233 = .ok (.if_icmp .ne 16, 3) := by decide +kernel
theorem dL_law_236 : decode cL_law 236 = .ok (.aload_n 1, 1) := by decide +kernel
theorem dL_law_237 : decode cL_law 237 = .ok (.iconst 1, 1) := by decide +kernel
theorem dL_law_238 : decode cL_law 238 = .ok (.invokevirtual 9, 3) := by decide +kernel
theorem dL_law_241 : decode cL_law 241 = .ok (.iload 7, 2) := by decide +kernel
theorem dL_law_243 : decode cL_law 243 = .ok (.iload 8, 2) := by decide +kernel
theorem dL_law_245 : decode cL_law 245 = .ok (.iadd, 1) := by decide +kernel
theorem dL_law_246 : decode cL_law 246 = .ok (.if_icmp .eq 10, 3) := by decide +kernel
theorem dL_law_249 : decode cL_law 249 = .ok (.iload 9, 2) := by decide +kernel
theorem dL_law_251 : decode cL_law 251 = .ok (.bipush (-4), 2) := by decide +kernel
theorem dL_law_253 : decode cL_law 253 = .ok (.if_icmp .ne 7, 3) := by decide +kernel
theorem dL_law_256 : decode cL_law 256 = .ok (.iconst 1, 1) := by decide +kernel
theorem dL_law_257 : decode cL_law 257 = .ok (.goto 4, 3) := by decide +kernel
theorem dL_law_260 : decode cL_law 260 = .ok (.iconst 0, 1) := by decide +kernel
theorem dL_law_261 : decode cL_law 261 = .ok (.istore_n 2, 1) := by decide +kernel
theorem dL_law_262 : decode cL_law 262 = .ok (.goto 621, 3) := by decide +kernel
theorem dL_law_265 : decode cL_law 265 = .ok (.iload 5, 2) := by decide +kernel
theorem dL_law_267 : decode cL_law 267 = .ok (.sipush 128, 3) := by decide +kernel
theorem dL_law_270 : decode cL_law 270 = .ok (.idiv, 1) := by decide +kernel
theorem dL_law_271 : decode cL_law 271 = .ok (.iload 6, 2) := by decide +kernel
theorem dL_law_273 : decode cL_law 273 = .ok (.iconst 1, 1) := by decide +kernel
theorem dL_law_274 : decode cL_law 274 = .ok (.iadd, 1) := by decide +kernel
theorem dL_law_275 : decode cL_law 275 = .ok (.irem, 1) := by decide +kernel
theorem dL_law_276 : decode cL_law 276 = .ok (.istore 10, 2) := by decide +kernel
theorem dL_law_278 : decode cL_law 278 = .ok (.aload_n 1, 1) := by decide +kernel
theorem dL_law_279 : decode cL_law 279 = .ok (.iload 10, 2) := by decide +kernel
theorem dL_law_281 : decode cL_law 281 = .ok (.iconst 1, 1) := by decide +kernel
theorem dL_law_282 : decode cL_law 282 = .ok (.iload 5, 2) := by decide +kernel
theorem dL_law_284 : decode cL_law 284 = .ok (.iconst 5, 1) := by decide +kernel
theorem dL_law_285 : decode cL_law 285 = .ok (.irem, 1) := by decide +kernel
theorem dL_law_286 : decode cL_law 286 = .ok (.iadd, 1) := by decide +kernel
theorem dL_law_287 : decode cL_law 287 = .ok (.iload 8, 2) := by decide +kernel
theorem dL_law_289 : decode cL_law 289 = .ok (.invokevirtual 66, 3) := by decide +kernel
theorem dL_law_292 : decode cL_law 292 = .ok (.iload 6, 2) := by decide +kernel
theorem dL_law_294 : decode cL_law 294 = .ok (.bipush 40, 2) := by decide +kernel
theorem dL_law_296 : decode cL_law 296 = .ok (.if_icmp .ne 8, 3) := by decide +kernel
theorem dL_law_299 : decode cL_law 299 = .ok (.bipush (-3), 2) := by decide +kernel
theorem dL_law_301 : decode cL_law 301 = .ok (.goto 8, 3) := by decide +kernel
theorem dL_law_304 : decode cL_law 304 = .ok (.iload 7, 2) := by decide +kernel
theorem dL_law_306 : decode cL_law 306 = .ok (.iload 8, 2) := by decide +kernel
theorem dL_law_308 : decode cL_law 308 = .ok (.iadd, 1) := by decide +kernel
theorem dL_law_309 : decode cL_law 309 = .ok (.if_icmp .ne 42, 3) := by decide +kernel
theorem dL_law_312 : decode cL_law 312 = .ok (.iload 6, 2) := by decide +kernel
theorem dL_law_314 : decode cL_law 314 = .ok (.bipush 40, 2) := by decide +kernel
theorem dL_law_316 : decode cL_law 316 = .ok (.if_icmp .eq 31, 3) := by decide +kernel
theorem dL_law_319 : decode cL_law 319 = .ok (.aload_n 1, 1) := by decide +kernel
theorem dL_law_320 : decode cL_law 320 = .ok (.iload 10, 2) := by decide +kernel
theorem dL_law_322 : decode cL_law 322 = .ok (.iconst 1, 1) := by decide +kernel
theorem dL_law_323 : decode cL_law 323 = .ok (.invokevirtual 15, 3) := by decide +kernel
theorem dL_law_326 : decode cL_law 326 = .ok (.bipush (-5), 2) := by decide +kernel
theorem dL_law_328 : decode cL_law 328 = .ok (.if_icmp .ne 23, 3) := by decide +kernel
theorem dL_law_331 : decode cL_law 331 = .ok (.aload_n 1, 1) := by decide +kernel
theorem dL_law_332 : decode cL_law 332 = .ok (.iload 10, 2) := by decide +kernel
theorem dL_law_334 : decode cL_law 334 = .ok (.iconst 0, 1) := by decide +kernel
theorem dL_law_335 : decode cL_law 335 = .ok (.invokevirtual 15, 3) := by decide +kernel
theorem dL_law_338 : decode cL_law 338 = .ok (.iconst 1, 1) := by decide +kernel
theorem dL_law_339 : decode cL_law 339 = .ok (.iload 5, 2) := by decide +kernel
theorem dL_law_341 : decode cL_law 341 = .ok (.iconst 5, 1) := by decide +kernel
theorem dL_law_342 : decode cL_law 342 = .ok (.irem, 1) := by decide +kernel
theorem dL_law_343 : decode cL_law 343 = .ok (.iadd, 1) := by decide +kernel
theorem dL_law_344 : decode cL_law 344 = .ok (.if_icmp .ne 7, 3) := by decide +kernel
theorem dL_law_347 : decode cL_law 347 = .ok (.iconst 1, 1) := by decide +kernel
theorem dL_law_348 : decode cL_law 348 = .ok (.goto 4, 3) := by decide +kernel
theorem dL_law_351 : decode cL_law 351 = .ok (.iconst 0, 1) := by decide +kernel
theorem dL_law_352 : decode cL_law 352 = .ok (.istore_n 2, 1) := by decide +kernel
theorem dL_law_353 : decode cL_law 353 = .ok (.goto 530, 3) := by decide +kernel
theorem dL_law_356 : decode cL_law 356 = .ok (.iload 5, 2) := by decide +kernel
theorem dL_law_358 : decode cL_law 358 = .ok (.bipush 8, 2) := by decide +kernel
theorem dL_law_360 : decode cL_law 360 = .ok (.irem, 1) := by decide +kernel
theorem dL_law_361 : decode cL_law 361 = .ok (.istore 11, 2) := by decide +kernel
theorem dL_law_363 : decode cL_law 363 = .ok (.aload_n 1, 1) := by decide +kernel
theorem dL_law_364 : decode cL_law 364 = .ok (.iload 11, 2) := by decide +kernel
theorem dL_law_366 : decode cL_law 366 = .ok (.iconst 2, 1) := by decide +kernel
theorem dL_law_367 : decode cL_law 367 = .ok (.invokevirtual 15, 3) := by decide +kernel
theorem dL_law_370 : decode cL_law 370 = .ok (.istore 12, 2) := by decide +kernel
theorem dL_law_372 : decode cL_law 372 = .ok (.aload_n 1, 1) := by decide +kernel
theorem dL_law_373 : decode cL_law 373 = .ok (.iload 11, 2) := by decide +kernel
theorem dL_law_375 : decode cL_law 375 = .ok (.invokevirtual 70, 3) := by decide +kernel
theorem dL_law_378 : decode cL_law 378 = .ok (.iload 11, 2) := by decide +kernel
theorem dL_law_380 : decode cL_law 380 = .ok (.iload 6, 2) := by decide +kernel
theorem dL_law_382 : decode cL_law 382 = .ok (.if_icmp .ge 11, 3) := by decide +kernel
theorem dL_law_385 : decode cL_law 385 = .ok (.iload 7, 2) := by decide +kernel
theorem dL_law_387 : decode cL_law 387 = .ok (.iload 12, 2) := by decide +kernel
theorem dL_law_389 : decode cL_law 389 = .ok (.isub, 1) := by decide +kernel
theorem dL_law_390 : decode cL_law 390 = .ok (.goto 4, 3) := by decide +kernel
theorem dL_law_393 : decode cL_law 393 = .ok (.iconst (-1), 1) := by decide +kernel
theorem dL_law_394 : decode cL_law 394 = .ok (.if_icmp .ne 7, 3) := by decide +kernel
theorem dL_law_397 : decode cL_law 397 = .ok (.iconst 1, 1) := by decide +kernel
theorem dL_law_398 : decode cL_law 398 = .ok (.goto 4, 3) := by decide +kernel
theorem dL_law_401 : decode cL_law 401 = .ok (.iconst 0, 1) := by decide +kernel
theorem dL_law_402 : decode cL_law 402 = .ok (.istore_n 2, 1) := by decide +kernel
theorem dL_law_403 : decode cL_law 403 = .ok (.goto 480, 3) := by decide +kernel
theorem dL_law_406 : decode cL_law 406 = .ok (.iload 5, 2) := by decide +kernel
theorem dL_law_408 : decode cL_law 408 = .ok (.bipush 60, 2) := by decide +kernel
theorem dL_law_410 : decode cL_law 410 = .ok (.irem, 1) := by decide +kernel
theorem dL_law_411 : decode cL_law 411 = .ok (.istore 13, 2) := by decide +kernel
theorem dL_law_413 : decode cL_law 413 = .ok (.iload 5, 2) := by decide +kernel
theorem dL_law_415 : decode cL_law 415 = .ok (.bipush 64, 2) := by decide +kernel
theorem dL_law_417 : decode cL_law 417 = .ok (.idiv, 1) := by decide +kernel
theorem dL_law_418 : decode cL_law 418 = .ok (.iconst 4, 1) := by decide +kernel
theorem dL_law_419 : decode cL_law 419 = .ok (.irem, 1) := by decide +kernel
theorem dL_law_420 : decode cL_law 420 = .ok (.ifCond .eq 7, 3) := by decide +kernel
theorem dL_law_423 : decode cL_law 423 = .ok (.iconst 1, 1) := by decide +kernel
theorem dL_law_424 : decode cL_law 424 = .ok (.goto 4, 3) := by decide +kernel
theorem dL_law_427 : decode cL_law 427 = .ok (.iconst 0, 1) := by decide +kernel
theorem dL_law_428 : decode cL_law 428 = .ok (.istore 14, 2) := by decide +kernel
theorem dL_law_430 : decode cL_law 430 = .ok (.aload_n 1, 1) := by decide +kernel
theorem dL_law_431 : decode cL_law 431 = .ok (.iload 13, 2) := by decide +kernel
theorem dL_law_433 : decode cL_law 433 = .ok (.iconst 4, 1) := by decide +kernel
theorem dL_law_434 : decode cL_law 434 = .ok (.invokevirtual 19, 3) := by decide +kernel
theorem dL_law_437 : decode cL_law 437 = .ok (.istore 15, 2) := by decide +kernel
theorem dL_law_439 : decode cL_law 439 = .ok (.iload 7, 2) := by decide +kernel
theorem dL_law_441 : decode cL_law 441 = .ok (.aload_n 1, 1) := by decide +kernel
theorem dL_law_442 : decode cL_law 442 = .ok (.iconst 2, 1) := by decide +kernel
theorem dL_law_443 : decode cL_law 443 = .ok (.invokevirtual 9, 3) := by decide +kernel
theorem dL_law_446 : decode cL_law 446 = .ok (.isub, 1) := by decide +kernel
theorem dL_law_447 : decode cL_law 447 = .ok (.istore 16, 2) := by decide +kernel
theorem dL_law_449 : decode cL_law 449 = .ok (.aload_n 1, 1) := by decide +kernel
theorem dL_law_450 : decode cL_law 450 = .ok (.iload 13, 2) := by decide +kernel
theorem dL_law_452 : decode cL_law 452 = .ok (.iload 14, 2) := by decide +kernel
theorem dL_law_454 : decode cL_law 454 = .ok (.invokevirtual 73, 3) := by decide +kernel
theorem dL_law_457 : decode cL_law 457 = .ok (.iload 13, 2) := by decide +kernel
theorem dL_law_459 : decode cL_law 459 = .ok (.iload 7, 2) := by decide +kernel
theorem dL_law_461 : decode cL_law 461 = .ok (.if_icmp .lt 7, 3) := by decide +kernel
theorem dL_law_464 : decode cL_law 464 = .ok (.iconst (-1), 1) := by decide +kernel
theorem dL_law_465 : decode cL_law 465 = .ok (.goto 36, 3) := by decide +kernel
theorem dL_law_468 : decode cL_law 468 = .ok (.iload 15, 2) := by decide +kernel
theorem dL_law_470 : decode cL_law 470 = .ok (.iload 14, 2) := by decide +kernel
theorem dL_law_472 : decode cL_law 472 = .ok (.ifCond .eq 7, 3) := by decide +kernel
theorem dL_law_475 : decode cL_law 475 = .ok (.iconst 1, 1) := by decide +kernel
theorem dL_law_476 : decode cL_law 476 = .ok (.goto 4, 3) := by decide +kernel
theorem dL_law_479 : decode cL_law 479 = .ok (.iconst 0, 1) := by decide +kernel
theorem dL_law_480 : decode cL_law 480 = .ok (.if_icmp .ne 8, 3) := by decide +kernel
theorem dL_law_483 : decode cL_law 483 = .ok (.bipush (-5), 2) := by decide +kernel
theorem dL_law_485 : decode cL_law 485 = .ok (.goto 16, 3) := by decide +kernel
theorem dL_law_488 : decode cL_law 488 = .ok (.iload 16, 2) := by decide +kernel
theorem dL_law_490 : decode cL_law 490 = .ok (.iload 14, 2) := by decide +kernel
theorem dL_law_492 : decode cL_law 492 = .ok (.ifCond .eq 7, 3) := by decide +kernel
theorem dL_law_495 : decode cL_law 495 = .ok (.iconst (-1), 1) := by decide +kernel
theorem dL_law_496 : decode cL_law 496 = .ok (.goto 4, 3) := by decide +kernel
theorem dL_law_499 : decode cL_law 499 = .ok (.iconst 1, 1) := by decide +kernel
theorem dL_law_500 : decode cL_law 500 = .ok (.iadd, 1) := by decide +kernel
theorem dL_law_501 : decode cL_law 501 = .ok (.if_icmp .ne 34, 3) := by decide +kernel
theorem dL_law_504 : decode cL_law 504 = .ok (.iload 13, 2) := by decide +kernel
theorem dL_law_506 : decode cL_law 506 = .ok (.iload 7, 2) := by decide +kernel
theorem dL_law_508 : decode cL_law 508 = .ok (.if_icmp .ge 23, 3) := by decide +kernel
theorem dL_law_511 : decode cL_law 511 = .ok (.aload_n 1, 1) := by decide +kernel
theorem dL_law_512 : decode cL_law 512 = .ok (.iload 13, 2) := by decide +kernel
theorem dL_law_514 : decode cL_law 514 = .ok (.iconst 4, 1) := by decide +kernel
theorem dL_law_515 : decode cL_law 515 = .ok (.invokevirtual 19, 3) := by decide +kernel
theorem dL_law_518 : decode cL_law 518 = .ok (.iload 14, 2) := by decide +kernel
theorem dL_law_520 : decode cL_law 520 = .ok (.ifCond .eq 7, 3) := by decide +kernel
theorem dL_law_523 : decode cL_law 523 = .ok (.iconst 1, 1) := by decide +kernel
theorem dL_law_524 : decode cL_law 524 = .ok (.goto 4, 3) := by decide +kernel
theorem dL_law_527 : decode cL_law 527 = .ok (.iconst 0, 1) := by decide +kernel
theorem dL_law_528 : decode cL_law 528 = .ok (.if_icmp .ne 7, 3) := by decide +kernel
theorem dL_law_531 : decode cL_law 531 = .ok (.iconst 1, 1) := by decide +kernel
theorem dL_law_532 : decode cL_law 532 = .ok (.goto 4, 3) := by decide +kernel
theorem dL_law_535 : decode cL_law 535 = .ok (.iconst 0, 1) := by decide +kernel
theorem dL_law_536 : decode cL_law 536 = .ok (.istore_n 2, 1) := by decide +kernel
theorem dL_law_537 : decode cL_law 537 = .ok (.goto 346, 3) := by decide +kernel
theorem dL_law_540 : decode cL_law 540 = .ok (.iload 5, 2) := by decide +kernel
theorem dL_law_542 : decode cL_law 542 = .ok (.iconst 3, 1) := by decide +kernel
theorem dL_law_543 : decode cL_law 543 = .ok (.irem, 1) := by decide +kernel
theorem dL_law_544 : decode cL_law 544 = .ok (.istore 17, 2) := by decide +kernel
theorem dL_law_546 : decode cL_law 546 = .ok (.aload_n 1, 1) := by decide +kernel
theorem dL_law_547 : decode cL_law 547 = .ok (.bipush 10, 2) := by decide +kernel
theorem dL_law_549 : decode cL_law 549 = .ok (.invokevirtual 9, 3) := by decide +kernel
theorem dL_law_552 : decode cL_law 552 = .ok (.istore 18, 2) := by decide +kernel
theorem dL_law_554 : decode cL_law 554 = .ok (.aload_n 1, 1) := by decide +kernel
theorem dL_law_555 : decode cL_law 555 = .ok (.iload 17, 2) := by decide +kernel
theorem dL_law_557 : decode cL_law 557 = .ok (.invokevirtual 77, 3) := by decide +kernel
theorem dL_law_560 : decode cL_law 560 = .ok (.istore 19, 2) := by decide +kernel
theorem dL_law_562 : decode cL_law 562 = .ok (.iload 19, 2) := by decide +kernel
theorem dL_law_564 : decode cL_law 564 = .ok (.iload 18, 2) := by decide +kernel
theorem dL_law_566 : decode cL_law 566 = .ok (.iload 17, 2) := by decide +kernel
theorem dL_law_568 : decode cL_law 568 = .ok (.if_icmp .ne 8, 3) := by decide +kernel
theorem dL_law_571 : decode cL_law 571 = .ok (.bipush (-5), 2) := by decide +kernel
theorem dL_law_573 : decode cL_law 573 = .ok (.goto 8, 3) := by decide +kernel
theorem dL_law_576 : decode cL_law 576 = .ok (.aload_n 1, 1) := by decide +kernel
theorem dL_law_577 : decode cL_law 577 = .ok (.iconst 3, 1) := by decide +kernel
theorem dL_law_578 : decode cL_law 578 = .ok (.invokevirtual 9, 3) := by decide +kernel
theorem dL_law_581 : decode cL_law 581 = .ok (.if_icmp .ne 18, 3) := by decide +kernel
theorem dL_law_584 : decode cL_law 584 = .ok (.aload_n 1, 1) := by decide +kernel
theorem dL_law_585 : decode cL_law 585 = .ok (.bipush 10, 2) := by decide +kernel
theorem dL_law_587 : decode cL_law 587 = .ok (.invokevirtual 9, 3) := by decide +kernel
theorem dL_law_590 : decode cL_law 590 = .ok (.iload 17, 2) := by decide +kernel
theorem dL_law_592 : decode cL_law 592 = .ok (.if_icmp .ne 7, 3) := by decide +kernel
theorem dL_law_595 : decode cL_law 595 = .ok (.iconst 1, 1) := by decide +kernel
theorem dL_law_596 : decode cL_law 596 = .ok (.goto 4, 3) := by decide +kernel
theorem dL_law_599 : decode cL_law 599 = .ok (.iconst 0, 1) := by decide +kernel
theorem dL_law_600 : decode cL_law 600 = .ok (.istore_n 2, 1) := by decide +kernel
theorem dL_law_601 : decode cL_law 601 = .ok (.goto 282, 3) := by decide +kernel
theorem dL_law_604 : decode cL_law 604 = .ok (.bipush 65, 2) := by decide +kernel
theorem dL_law_606 : decode cL_law 606 = .ok (.iload 5, 2) := by decide +kernel
theorem dL_law_608 : decode cL_law 608 = .ok (.bipush 26, 2) := by decide +kernel
theorem dL_law_610 : decode cL_law 610 = .ok (.irem, 1) := by decide +kernel
theorem dL_law_611 : decode cL_law 611 = .ok (.iadd, 1) := by decide +kernel
theorem dL_law_612 : decode cL_law 612 = .ok (.i2c, 1) := by decide +kernel
theorem dL_law_613 : decode cL_law 613 = .ok (.istore 20, 2) := by decide +kernel
theorem dL_law_615 : decode cL_law 615 = .ok (.aload_n 1, 1) := by decide +kernel
theorem dL_law_616 : decode cL_law 616 = .ok (.iconst 4, 1) := by decide +kernel
theorem dL_law_617 : decode cL_law 617 = .ok (.invokevirtual 9, 3) := by decide +kernel
theorem dL_law_620 : decode cL_law 620 = .ok (.istore 21, 2) := by decide +kernel
theorem dL_law_622 : decode cL_law 622 = .ok (.iload 5, 2) := by decide +kernel
theorem dL_law_624 : decode cL_law 624 = .ok (.bipush 32, 2) := by decide +kernel
theorem dL_law_626 : decode cL_law 626 = .ok (.idiv, 1) := by decide +kernel
theorem dL_law_627 : decode cL_law 627 = .ok (.iconst 2, 1) := by decide +kernel
theorem dL_law_628 : decode cL_law 628 = .ok (.irem, 1) := by decide +kernel
theorem dL_law_629 : decode cL_law 629 = .ok (.ifCond .ne 7, 3) := by decide +kernel
theorem dL_law_632 : decode cL_law 632 = .ok (.iconst 1, 1) := by decide +kernel
theorem dL_law_633 : decode cL_law 633 = .ok (.goto 4, 3) := by decide +kernel
theorem dL_law_636 : decode cL_law 636 = .ok (.iconst 0, 1) := by decide +kernel
theorem dL_law_637 : decode cL_law 637 = .ok (.istore 22, 2) := by decide +kernel
theorem dL_law_639 : decode cL_law 639 = .ok (.aload_n 1, 1) := by decide +kernel
theorem dL_law_640 : decode cL_law 640 = .ok (.iload 20, 2) := by decide +kernel
theorem dL_law_642 : decode cL_law 642 = .ok (.iload 22, 2) := by decide +kernel
theorem dL_law_644 : decode cL_law 644 = .ok (.invokevirtual 38, 3) := by decide +kernel
theorem dL_law_647 : decode cL_law 647 = .ok (.istore 23, 2) := by decide +kernel
theorem dL_law_649 : decode cL_law 649 = .ok (.iload 23, 2) := by decide +kernel
theorem dL_law_651 : decode cL_law 651 = .ok (.bipush (-5), 2) := by decide +kernel
theorem dL_law_653 : decode cL_law 653 = .ok (.if_icmp .eq 34, 3) := by decide +kernel
theorem dL_law_656 : decode cL_law 656 = .ok (.iload 23, 2) := by decide +kernel
theorem dL_law_658 : decode cL_law 658 = .ok (.bipush (-4), 2) := by decide +kernel
theorem dL_law_660 : decode cL_law 660 = .ok (.if_icmp .ne 9, 3) := by decide +kernel
theorem dL_law_663 : decode cL_law 663 = .ok (.iload 21, 2) := by decide +kernel
theorem dL_law_665 : decode cL_law 665 = .ok (.iconst 1, 1) := by decide +kernel
theorem dL_law_666 : decode cL_law 666 = .ok (.if_icmp .eq 21, 3) := by decide +kernel
theorem dL_law_669 : decode cL_law 669 = .ok (.iload 23, 2) := by decide +kernel
theorem dL_law_671 : decode cL_law 671 = .ok (.iload 21, 2) := by decide +kernel
theorem dL_law_673 : decode cL_law 673 = .ok (.iload 22, 2) := by decide +kernel
theorem dL_law_675 : decode cL_law 675 = .ok (.ifCond .eq 7, 3) := by decide +kernel
theorem dL_law_678 : decode cL_law 678 = .ok (.iconst (-1), 1) := by decide +kernel
theorem dL_law_679 : decode cL_law 679 = .ok (.goto 4, 3) := by decide +kernel
theorem dL_law_682 : decode cL_law 682 = .ok (.iconst 1, 1) := by decide +kernel
theorem dL_law_683 : decode cL_law 683 = .ok (.iadd, 1) := by decide +kernel
theorem dL_law_684 : decode cL_law 684 = .ok (.if_icmp .ne 7, 3) := by decide +kernel
theorem dL_law_687 : decode cL_law 687 = .ok (.iconst 1, 1) := by decide +kernel
theorem dL_law_688 : decode cL_law 688 = .ok (.goto 4, 3) := by decide +kernel
theorem dL_law_691 : decode cL_law 691 = .ok (.iconst 0, 1) := by decide +kernel
theorem dL_law_692 : decode cL_law 692 = .ok (.istore_n 2, 1) := by decide +kernel
theorem dL_law_693 : decode cL_law 693 = .ok (.goto 190, 3) := by decide +kernel
theorem dL_law_696 : decode cL_law 696 = .ok (.aload_n 1, 1) := by decide +kernel
theorem dL_law_697 : decode cL_law 697 = .ok (.invokevirtual 80, 3) := by decide +kernel
theorem dL_law_700 : decode cL_law 700 = .ok (.ifCond .lt 7, 3) := by decide +kernel
theorem dL_law_703 : decode cL_law 703 = .ok (.iconst 1, 1) := by decide +kernel
theorem dL_law_704 : decode cL_law 704 = .ok (.goto 4, 3) := by decide +kernel
theorem dL_law_707 : decode cL_law 707 = .ok (.iconst 0, 1) := by decide +kernel
theorem dL_law_708 : decode cL_law 708 = .ok (.istore_n 2, 1) := by decide +kernel
theorem dL_law_709 : decode cL_law 709 = .ok (.iconst 1, 1) := by decide +kernel
theorem dL_law_710 : decode cL_law 710 = .ok (.iload 5, 2) := by decide +kernel
theorem dL_law_712 : decode cL_law 712 = .ok (.iconst 3, 1) := by decide +kernel
theorem dL_law_713 : decode cL_law 713 = .ok (.irem, 1) := by decide +kernel
theorem dL_law_714 : decode cL_law 714 = .ok (.iadd, 1) := by decide +kernel
theorem dL_law_715 : decode cL_law 715 = .ok (.istore 24, 2) := by decide +kernel
theorem dL_law_717 : decode cL_law 717 = .ok (.iconst 0, 1) := by decide +kernel
theorem dL_law_718 : decode cL_law 718 = .ok (.istore 25, 2) := by decide +kernel
theorem dL_law_720 : decode cL_law 720 = .ok (.iload 25, 2) := by decide +kernel
theorem dL_law_722 : decode cL_law 722 = .ok (.iload 24, 2) := by decide +kernel
theorem dL_law_724 : decode cL_law 724 = .ok (.if_icmp .ge 119, 3) := by decide +kernel
theorem dL_law_727 : decode cL_law 727 = .ok (.iload_n 2, 1) := by decide +kernel
theorem dL_law_728 : decode cL_law 728 = .ok (.ifCond .eq 115, 3) := by decide +kernel
theorem dL_law_731 : decode cL_law 731 = .ok (.aload_n 0, 1) := by decide +kernel
theorem dL_law_732 : decode cL_law 732 = .ok (.bipush 30, 2) := by decide +kernel
theorem dL_law_734 : decode cL_law 734 = .ok (.iconst 3, 1) := by decide +kernel
theorem dL_law_735 : decode cL_law 735 = .ok (.iload_n 3, 1) := by decide +kernel
theorem dL_law_736 : decode cL_law 736 = .ok (.imul, 1) := by decide +kernel
theorem dL_law_737 : decode cL_law 737 = .ok (.iadd, 1) := by decide +kernel
theorem dL_law_738 : decode cL_law 738 = .ok (.iload 25, 2) := by decide +kernel
theorem dL_law_740 : decode cL_law 740 = .ok (.iadd, 1) := by decide +kernel
theorem dL_law_741 : decode cL_law 741 = .ok (.invokestatic 59, 3) := by decide +kernel
theorem dL_law_744 : decode cL_law 744 = .ok (.istore 26, 2) := by decide +kernel
theorem dL_law_746 : decode cL_law 746 = .ok (.iload 25, 2) := by decide +kernel
theorem dL_law_748 : decode cL_law 748 = .ok (.ifCond .le 12, 3) := by decide +kernel
theorem dL_law_751 : decode cL_law 751 = .ok (.aload_n 1, 1) := by decide +kernel
theorem dL_law_752 : decode cL_law 752 = .ok (.bipush 44, 2) := by decide +kernel
theorem dL_law_754 : decode cL_law 754 = .ok (.invokevirtual 42, 3) := by decide +kernel
theorem dL_law_757 : decode cL_law 757 = .ok (.goto 4, 3) := by decide +kernel
theorem dL_law_760 : decode cL_law 760 = .ok (.iconst 0, 1) := by decide +kernel
theorem dL_law_761 : decode cL_law 761 = .ok (.istore 27, 2) := by decide +kernel
theorem dL_law_763 : decode cL_law 763 = .ok (.aload_n 1, 1) := by decide +kernel
theorem dL_law_764 : decode cL_law 764 = .ok (.bipush 65, 2) := by decide +kernel
theorem dL_law_766 : decode cL_law 766 = .ok (.iload 26, 2) := by decide +kernel
theorem dL_law_768 : decode cL_law 768 = .ok (.bipush 9, 2) := by decide +kernel
theorem dL_law_770 : decode cL_law 770 = .ok (.irem, 1) := by decide +kernel
theorem dL_law_771 : decode cL_law 771 = .ok (.iadd, 1) := by decide +kernel
theorem dL_law_772 : decode cL_law 772 = .ok (.i2c, 1) := by decide +kernel
theorem dL_law_773 : decode cL_law 773 = .ok (.invokevirtual 42, 3) := by decide +kernel
theorem dL_law_776 : decode cL_law 776 = .ok (.istore 27, 2) := by decide +kernel
theorem dL_law_778 : decode cL_law 778 = .ok (.iload 26, 2) := by decide +kernel
theorem dL_law_780 : decode cL_law 780 = .ok (.bipush 16, 2) := by decide +kernel
theorem dL_law_782 : decode cL_law 782 = .ok (.idiv, 1) := by decide +kernel
theorem dL_law_783 : decode cL_law 783 = .ok (.iconst 3, 1) := by decide +kernel
theorem dL_law_784 : decode cL_law 784 = .ok (.irem, 1) := by decide +kernel
theorem dL_law_785 : decode cL_law 785 = .ok (.ifCond .ne 19, 3) := by decide +kernel
theorem dL_law_788 : decode cL_law 788 = .ok (.aload_n 1, 1) := by decide +kernel
theorem dL_law_789 : decode cL_law 789 = .ok (.bipush 97, 2) := by decide +kernel
theorem dL_law_791 : decode cL_law 791 = .ok (.iload 26, 2) := by decide +kernel
theorem dL_law_793 : decode cL_law 793 = .ok (.bipush 9, 2) := by decide +kernel
theorem dL_law_795 : decode cL_law 795 = .ok (.irem, 1) := by decide +kernel
theorem dL_law_796 : decode cL_law 796 = .ok (.iadd, 1) := by decide +kernel
theorem dL_law_797 : decode cL_law 797 = .ok (.i2c, 1) := by decide +kernel
theorem dL_law_798 : decode cL_law 798 = .ok (.invokevirtual 42, 3) := by decide +kernel
theorem dL_law_801 : decode cL_law 801 = .ok (.goto 5, 3) := by decide +kernel
theorem dL_law_804 : decode cL_law 804 = .ok (.iload 27, 2) := by decide +kernel
theorem dL_law_806 : decode cL_law 806 = .ok (.istore 27, 2) := by decide +kernel
theorem dL_law_808 : decode cL_law 808 = .ok (.aload_n 1, 1) := by decide +kernel
theorem dL_law_809 : decode cL_law 809 = .ok (.bipush 49, 2) := by decide +kernel
theorem dL_law_811 : decode cL_law 811 = .ok (.iload 26, 2) := by decide +kernel
theorem dL_law_813 : decode cL_law 813 = .ok (.bipush 64, 2) := by decide +kernel
theorem dL_law_815 : decode cL_law 815 = .ok (.idiv, 1) := by decide +kernel
theorem dL_law_816 : decode cL_law 816 = .ok (.bipush 9, 2) := by decide +kernel
theorem dL_law_818 : decode cL_law 818 = .ok (.irem, 1) := by decide +kernel
theorem dL_law_819 : decode cL_law 819 = .ok (.iadd, 1) := by decide +kernel
theorem dL_law_820 : decode cL_law 820 = .ok (.i2c, 1) := by decide +kernel
theorem dL_law_821 : decode cL_law 821 = .ok (.invokevirtual 42, 3) := by decide +kernel
theorem dL_law_824 : decode cL_law 824 = .ok (.istore 27, 2) := by decide +kernel
theorem dL_law_826 : decode cL_law 826 = .ok (.iload 27, 2) := by decide +kernel
theorem dL_law_828 : decode cL_law 828 = .ok (.ifCond .le 7, 3) := by decide +kernel
theorem dL_law_831 : decode cL_law 831 = .ok (.iconst 1, 1) := by decide +kernel
theorem dL_law_832 : decode cL_law 832 = .ok (.goto 4, 3) := by decide +kernel
theorem dL_law_835 : decode cL_law 835 = .ok (.iconst 0, 1) := by decide +kernel
theorem dL_law_836 : decode cL_law 836 = .ok (.istore_n 2, 1) := by decide +kernel
theorem dL_law_837 : decode cL_law 837 = .ok (.iinc 25 1, 3) := by decide +kernel
theorem dL_law_840 : decode cL_law 840 = .ok (.goto (-120), 3) := by decide +kernel
theorem dL_law_843 : decode cL_law 843 = .ok (.aload_n 1, 1) := by decide +kernel
theorem dL_law_844 : decode cL_law 844 = .ok (.invokevirtual 46, 3) := by decide +kernel
theorem dL_law_847 : decode cL_law 847 = .ok (.istore 25, 2) := by decide +kernel
theorem dL_law_849 : decode cL_law 849 = .ok (.iload_n 2, 1) := by decide +kernel
theorem dL_law_850 : decode cL_law 850 = .ok (.ifCond .eq 31, 3) := by decide +kernel
theorem dL_law_853 : decode cL_law 853 = .ok (.iload 25, 2) := by decide +kernel
theorem dL_law_855 : decode cL_law 855 = .ok (.bipush (-100), 2) := by decide +kernel
theorem dL_law_857 : decode cL_law 857 = .ok (.if_icmp .le 20, 3) := by decide +kernel
theorem dL_law_860 : decode cL_law 860 = .ok (.iload 25, 2) := by decide +kernel
theorem dL_law_862 : decode cL_law 862 = .ok (.bipush (-3), 2) := by decide +kernel
theorem dL_law_864 : decode cL_law 864 = .ok (.if_icmp .eq 13, 3) := by decide +kernel
theorem dL_law_867 : decode cL_law 867 = .ok (.iload 25, 2) := by decide +kernel
theorem dL_law_869 : decode cL_law 869 = .ok (.iload 6, 2) := by decide +kernel
theorem dL_law_871 : decode cL_law 871 = .ok (.iload 24, 2) := by decide +kernel
theorem dL_law_873 : decode cL_law 873 = .ok (.iadd, 1) := by decide +kernel
theorem dL_law_874 : decode cL_law 874 = .ok (.if_icmp .ne 7, 3) := by decide +kernel
theorem dL_law_877 : decode cL_law 877 = .ok (.iconst 1, 1) := by decide +kernel
theorem dL_law_878 : decode cL_law 878 = .ok (.goto 4, 3) := by decide +kernel
theorem dL_law_881 : decode cL_law 881 = .ok (.iconst 0, 1) := by decide +kernel
theorem dL_law_882 : decode cL_law 882 = .ok (.istore_n 2, 1) := by decide +kernel
theorem dL_law_883 : decode cL_law 883 = .ok (.iload_n 2, 1) := by decide +kernel
theorem dL_law_884 : decode cL_law 884 = .ok (.ifCond .eq 14, 3) := by decide +kernel
theorem dL_law_887 : decode cL_law 887 = .ok (.aload_n 1, 1) := by decide +kernel
theorem dL_law_888 : decode cL_law 888 = .ok (.invokestatic 83, 3) := by decide +kernel
theorem dL_law_891 : decode cL_law 891 = .ok (.ifCond .eq 7, 3) := by decide +kernel
theorem dL_law_894 : decode cL_law 894 = .ok (.iconst 1, 1) := by decide +kernel
theorem dL_law_895 : decode cL_law 895 = .ok (.goto 4, 3) := by decide +kernel
theorem dL_law_898 : decode cL_law 898 = .ok (.iconst 0, 1) := by decide +kernel
theorem dL_law_899 : decode cL_law 899 = .ok (.istore_n 2, 1) := by decide +kernel
theorem dL_law_900 : decode cL_law 900 = .ok (.iinc 3 1, 3) := by decide +kernel
theorem dL_law_903 : decode cL_law 903 = .ok (.goto (-832), 3) := by decide +kernel
theorem dL_law_906 : decode cL_law 906 = .ok (.iload_n 2, 1) := by decide +kernel
theorem dL_law_907 : decode cL_law 907 = .ok (.ifCond .eq 14, 3) := by decide +kernel
theorem dL_law_910 : decode cL_law 910 = .ok (.aload_n 1, 1) := by decide +kernel
theorem dL_law_911 : decode cL_law 911 = .ok (.invokestatic 87, 3) := by decide +kernel
theorem dL_law_914 : decode cL_law 914 = .ok (.ifCond .eq 7, 3) := by decide +kernel
theorem dL_law_917 : decode cL_law 917 = .ok (.iconst 1, 1) := by decide +kernel
theorem dL_law_918 : decode cL_law 918 = .ok (.goto 4, 3) := by decide +kernel
theorem dL_law_921 : decode cL_law 921 = .ok (.iconst 0, 1) := by decide +kernel
theorem dL_law_922 : decode cL_law 922 = .ok (.istore_n 2, 1) := by decide +kernel
theorem dL_law_923 : decode cL_law 923 = .ok (.iconst 0, 1) := by decide +kernel
theorem dL_law_924 : decode cL_law 924 = .ok (.istore_n 3, 1) := by decide +kernel
theorem dL_law_925 : decode cL_law 925 = .ok (.iconst 0, 1) := by decide +kernel
theorem dL_law_926 : decode cL_law 926 = .ok (.istore 4, 2) := by decide +kernel
theorem dL_law_928 : decode cL_law 928 = .ok (.iload 4, 2) := by decide +kernel
theorem dL_law_930 : decode cL_law 930 = .ok (.aload_n 1, 1) := by decide +kernel
theorem dL_law_931 : decode cL_law 931 = .ok (.iconst 0, 1) := by decide +kernel
theorem dL_law_932 : decode cL_law 932 = .ok (.invokevirtual 9, 3) := by decide +kernel
theorem dL_law_935 : decode cL_law 935 = .ok (.if_icmp .ge 27, 3) := by decide +kernel
theorem dL_law_938 : decode cL_law 938 = .ok (.iload_n 2, 1) := by decide +kernel
theorem dL_law_939 : decode cL_law 939 = .ok (.ifCond .eq 23, 3) := by decide +kernel
theorem dL_law_942 : decode cL_law 942 = .ok (.iload_n 3, 1) := by decide +kernel
theorem dL_law_943 : decode cL_law 943 = .ok (.aload_n 1, 1) := by decide +kernel
theorem dL_law_944 : decode cL_law 944 = .ok (.iload 4, 2) := by decide +kernel
theorem dL_law_946 : decode cL_law 946 = .ok (.iconst 2, 1) := by decide +kernel
theorem dL_law_947 : decode cL_law 947 = .ok (.invokevirtual 15, 3) := by decide +kernel
theorem dL_law_950 : decode cL_law 950 = .ok (.iconst 3, 1) := by decide +kernel
theorem dL_law_951 : decode cL_law 951 = .ok (.iadd, 1) := by decide +kernel
theorem dL_law_952 : decode cL_law 952 = .ok (.iconst 4, 1) := by decide +kernel
theorem dL_law_953 : decode cL_law 953 = .ok (.idiv, 1) := by decide +kernel
theorem dL_law_954 : decode cL_law 954 = .ok (.iadd, 1) := by decide +kernel
theorem dL_law_955 : decode cL_law 955 = .ok (.istore_n 3, 1) := by decide +kernel
theorem dL_law_956 : decode cL_law 956 = .ok (.iinc 4 1, 3) := by decide +kernel
theorem dL_law_959 : decode cL_law 959 = .ok (.goto (-31), 3) := by decide +kernel
theorem dL_law_962 : decode cL_law 962 = .ok (.iload_n 2, 1) := by decide +kernel
theorem dL_law_963 : decode cL_law 963 = .ok (.ifCond .eq 11, 3) := by decide +kernel
theorem dL_law_966 : decode cL_law 966 = .ok (.aload_n 1, 1) := by decide +kernel
theorem dL_law_967 : decode cL_law 967 = .ok (.iconst 0, 1) := by decide +kernel
theorem dL_law_968 : decode cL_law 968 = .ok (.invokevirtual 9, 3) := by decide +kernel
theorem dL_law_971 : decode cL_law 971 = .ok (.goto 4, 3) := by decide +kernel
theorem dL_law_974 : decode cL_law 974 = .ok (.iconst 0, 1) := by decide +kernel
theorem dL_law_975 : decode cL_law 975 = .ok (.istore 4, 2) := by decide +kernel
theorem dL_law_977 : decode cL_law 977 = .ok (.iload_n 2, 1) := by decide +kernel
theorem dL_law_978 : decode cL_law 978 = .ok (.ifCond .eq 202, 3) := by decide +kernel
theorem dL_law_981 : decode cL_law 981 = .ok (.aload_n 1, 1) := by decide +kernel
theorem dL_law_982 : decode cL_law 982 = .ok (.iconst 4, 1) := by decide +kernel
theorem dL_law_983 : decode cL_law 983 = .ok (.invokevirtual 90, 3) := by decide +kernel
theorem dL_law_986 : decode cL_law 986 = .ok (.iload_n 3, 1) := by decide +kernel
theorem dL_law_987 : decode cL_law 987 = .ok (.if_icmp .ne 193, 3) := by decide +kernel
theorem dL_law_990 : decode cL_law 990 = .ok (.aload_n 1, 1) := by decide +kernel
theorem dL_law_991 : decode cL_law 991 = .ok (.iconst 3, 1) := by decide +kernel
theorem dL_law_992 : decode cL_law 992 = .ok (.invokevirtual 90, 3) := by decide +kernel
theorem dL_law_995 : decode cL_law 995 = .ok (.bipush (-2), 2) := by decide +kernel
theorem dL_law_997 : decode cL_law 997 = .ok (.if_icmp .ne 183, 3) := by decide +kernel
theorem dL_law_1000 : decode cL_law 1000 = .ok (.iload 4, 2) := by decide +kernel
theorem dL_law_1002 : decode cL_law 1002 = .ok (.bipush 40, 2) := by decide +kernel
theorem dL_law_1004 : decode cL_law 1004 = .ok (.if_icmp .eq 22, 3) := by decide +kernel
theorem dL_law_1007 : decode cL_law 1007 = .ok (.aload_n 1, 1) := by decide +kernel
theorem dL_law_1008 : decode cL_law 1008 = .ok (.iload 4, 2) := by decide +kernel
theorem dL_law_1010 : decode cL_law 1010 = .ok (.iconst 5, 1) := by decide +kernel
theorem dL_law_1011 : decode cL_law 1011 = .ok (.bipush 24, 2) := by decide +kernel
theorem dL_law_1013 : decode cL_law 1013 = .ok (.invokevirtual 66, 3) := by decide +kernel
theorem dL_law_1016 : decode cL_law 1016 = .ok (.ifCond .le 164, 3) := by decide +kernel
theorem dL_law_1019 : decode cL_law 1019 = .ok (.aload_n 1, 1) := by decide +kernel
theorem dL_law_1020 : decode cL_law 1020 = .ok (.invokevirtual 50, 3) := by decide +kernel
theorem dL_law_1023 : decode cL_law 1023 = .ok (.ifCond .lt 157, 3) := by decide +kernel
theorem dL_law_1026 : decode cL_law 1026 = .ok (.aload_n 1, 1) := by decide +kernel
theorem dL_law_1027 : decode cL_law 1027 = .ok (.iconst 0, 1) := by decide +kernel
theorem dL_law_1028 : decode cL_law 1028 = .ok (.invokevirtual 9, 3) := by decide +kernel
theorem dL_law_1031 : decode cL_law 1031 = .ok (.iload 4, 2) := by decide +kernel
theorem dL_law_1033 : decode cL_law 1033 = .ok (.if_icmp .ne 147, 3) := by decide +kernel
theorem dL_law_1036 : decode cL_law 1036 = .ok (.aload_n 1, 1) := by decide +kernel
theorem dL_law_1037 : decode cL_law 1037 = .ok (.invokestatic 83, 3) := by decide +kernel
theorem dL_law_1040 : decode cL_law 1040 = .ok (.ifCond .eq 140, 3) := by decide +kernel
theorem dL_law_1043 : decode cL_law 1043 = .ok (.aload_n 1, 1) := by decide +kernel
theorem dL_law_1044 : decode cL_law 1044 = .ok (.iload 4, 2) := by decide +kernel
theorem dL_law_1046 : decode cL_law 1046 = .ok (.iconst 1, 1) := by decide +kernel
theorem dL_law_1047 : decode cL_law 1047 = .ok (.iadd, 1) := by decide +kernel
theorem dL_law_1048 : decode cL_law 1048 = .ok (.iconst 0, 1) := by decide +kernel
theorem dL_law_1049 : decode cL_law 1049 = .ok (.iconst 0, 1) := by decide +kernel
theorem dL_law_1050 : decode cL_law 1050 = .ok (.invokevirtual 66, 3) := by decide +kernel
theorem dL_law_1053 : decode cL_law 1053 = .ok (.iconst (-1), 1) := by decide +kernel
theorem dL_law_1054 : decode cL_law 1054 = .ok (.if_icmp .ne 126, 3) := by decide +kernel
theorem dL_law_1057 : decode cL_law 1057 = .ok (.aload_n 1, 1) := by decide +kernel
theorem dL_law_1058 : decode cL_law 1058 = .ok (.iconst 0, 1) := by decide +kernel
theorem dL_law_1059 : decode cL_law 1059 = .ok (.bipush 6, 2) := by decide +kernel
theorem dL_law_1061 : decode cL_law 1061 = .ok (.iconst 1, 1) := by decide +kernel
theorem dL_law_1062 : decode cL_law 1062 = .ok (.invokevirtual 66, 3) := by decide +kernel
theorem dL_law_1065 : decode cL_law 1065 = .ok (.bipush (-2), 2) := by decide +kernel
theorem dL_law_1067 : decode cL_law 1067 = .ok (.if_icmp .ne 113, 3) := by decide +kernel
theorem dL_law_1070 : decode cL_law 1070 = .ok (.aload_n 1, 1) := by decide +kernel
theorem dL_law_1071 : decode cL_law 1071 = .ok (.bipush 25, 2) := by decide +kernel
theorem dL_law_1073 : decode cL_law 1073 = .ok (.invokevirtual 63, 3) := by decide +kernel
theorem dL_law_1076 : decode cL_law 1076 = .ok (.bipush (-2), 2) := by decide +kernel
theorem dL_law_1078 : decode cL_law 1078 = .ok (.if_icmp .ne 102, 3) := by decide +kernel
theorem dL_law_1081 : decode cL_law 1081 = .ok (.aload_n 1, 1) := by decide +kernel
theorem dL_law_1082 : decode cL_law 1082 = .ok (.bipush 97, 2) := by decide +kernel
theorem dL_law_1084 : decode cL_law 1084 = .ok (.iconst 1, 1) := by decide +kernel
theorem dL_law_1085 : decode cL_law 1085 = .ok (.invokevirtual 38, 3) := by decide +kernel
theorem dL_law_1088 : decode cL_law 1088 = .ok (.iconst (-1), 1) := by decide +kernel
theorem dL_law_1089 : decode cL_law 1089 = .ok (.if_icmp .ne 91, 3) := by decide +kernel
theorem dL_law_1092 : decode cL_law 1092 = .ok (.aload_n 1, 1) := by decide +kernel
theorem dL_law_1093 : decode cL_law 1093 = .ok (.iconst 3, 1) := by decide +kernel
theorem dL_law_1094 : decode cL_law 1094 = .ok (.invokevirtual 77, 3) := by decide +kernel
theorem dL_law_1097 : decode cL_law 1097 = .ok (.bipush (-2), 2) := by decide +kernel
theorem dL_law_1099 : decode cL_law 1099 = .ok (.if_icmp .ne 81, 3) := by decide +kernel
theorem dL_law_1102 : decode cL_law 1102 = .ok (.aload_n 1, 1) := by decide +kernel
theorem dL_law_1103 : decode cL_law 1103 = .ok (.iconst (-1), 1) := by decide +kernel
theorem dL_law_1104 : decode cL_law 1104 = .ok (.iconst 1, 1) := by decide +kernel
theorem dL_law_1105 : decode cL_law 1105 = .ok (.invokevirtual 73, 3) := by decide +kernel
theorem dL_law_1108 : decode cL_law 1108 = .ok (.iconst (-1), 1) := by decide +kernel
theorem dL_law_1109 : decode cL_law 1109 = .ok (.if_icmp .ne 71, 3) := by decide +kernel
theorem dL_law_1112 : decode cL_law 1112 = .ok (.aload_n 1, 1) := by decide +kernel
theorem dL_law_1113 : decode cL_law 1113 = .ok (.iconst 0, 1) := by decide +kernel
theorem dL_law_1114 : decode cL_law 1114 = .ok (.bipush 7, 2) := by decide +kernel
theorem dL_law_1116 : decode cL_law 1116 = .ok (.invokevirtual 15, 3) := by decide +kernel
theorem dL_law_1119 : decode cL_law 1119 = .ok (.iload 4, 2) := by decide +kernel
theorem dL_law_1121 : decode cL_law 1121 = .ok (.ifCond .le 8, 3) := by decide +kernel
theorem dL_law_1124 : decode cL_law 1124 = .ok (.bipush (-2), 2) := by decide +kernel
theorem dL_law_1126 : decode cL_law 1126 = .ok (.goto 4, 3) := by decide +kernel
theorem dL_law_1129 : decode cL_law 1129 = .ok (.iconst (-1), 1) := by decide +kernel
theorem dL_law_1130 : decode cL_law 1130 = .ok (.if_icmp .ne 50, 3) := by decide +kernel
theorem dL_law_1133 : decode cL_law 1133 = .ok (.aload_n 1, 1) := by decide +kernel
theorem dL_law_1134 : decode cL_law 1134 = .ok (.iconst (-1), 1) := by decide +kernel
theorem dL_law_1135 : decode cL_law 1135 = .ok (.invokevirtual 22, 3) := by decide +kernel
theorem dL_law_1138 : decode cL_law 1138 = .ok (.bipush (-2), 2) := by decide +kernel
theorem dL_law_1140 : decode cL_law 1140 = .ok (.if_icmp .ne 40, 3) := by decide +kernel
theorem dL_law_1143 : decode cL_law 1143 = .ok (.aload_n 1, 1) := by decide +kernel
theorem dL_law_1144 : decode cL_law 1144 = .ok (.bipush 13, 2) := by decide +kernel
theorem dL_law_1146 : decode cL_law 1146 = .ok (.invokevirtual 9, 3) := by decide +kernel
theorem dL_law_1149 : decode cL_law 1149 = .ok (.bipush (-2), 2) := by decide +kernel
theorem dL_law_1151 : decode cL_law 1151 = .ok (.if_icmp .ne 29, 3) := by decide +kernel
theorem dL_law_1154 : decode cL_law 1154 = .ok (.aload_n 1, 1) := by decide +kernel
theorem dL_law_1155 : decode cL_law 1155 = .ok (.iconst (-1), 1) := by decide +kernel
theorem dL_law_1156 : decode cL_law 1156 = .ok (.iconst 0, 1) := by decide +kernel
theorem dL_law_1157 : decode cL_law 1157 = .ok (.invokevirtual 25, 3) := by decide +kernel
theorem dL_law_1160 : decode cL_law 1160 = .ok (.bipush (-2), 2) := by decide +kernel
theorem dL_law_1162 : decode cL_law 1162 = .ok (.if_icmp .ne 18, 3) := by decide +kernel
theorem dL_law_1165 : decode cL_law 1165 = .ok (.aload_n 1, 1) := by decide +kernel
theorem dL_law_1166 : decode cL_law 1166 = .ok (.iconst 0, 1) := by decide +kernel
theorem dL_law_1167 : decode cL_law 1167 = .ok (.iconst 2, 1) := by decide +kernel
theorem dL_law_1168 : decode cL_law 1168 = .ok (.invokevirtual 28, 3) := by decide +kernel
theorem dL_law_1171 : decode cL_law 1171 = .ok (.bipush (-2), 2) := by decide +kernel
theorem dL_law_1173 : decode cL_law 1173 = .ok (.if_icmp .ne 7, 3) := by decide +kernel
theorem dL_law_1176 : decode cL_law 1176 = .ok (.iconst 1, 1) := by decide +kernel
theorem dL_law_1177 : decode cL_law 1177 = .ok (.goto 4, 3) := by decide +kernel
theorem dL_law_1180 : decode cL_law 1180 = .ok (.iconst 0, 1) := by decide +kernel
theorem dL_law_1181 : decode cL_law 1181 = .ok (.ireturn, 1) := by decide +kernel
