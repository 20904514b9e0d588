/-! THE WALKS: each method does what it means -/
theorem dL_isAhead_0 : decode cL_isAhead 0 = .ok (.aload_n 0, 1) := by decide +kernel
theorem dL_isAhead_1 : decode cL_isAhead 1 = .ok (.iconst 0, 1) := by decide +kernel
theorem dL_isAhead_2 : decode cL_isAhead 2 = .ok (.invokevirtual 91, 3) := by decide +kernel
theorem dL_isAhead_5 : decode cL_isAhead 5 = .ok (.istore_n 2, 1) := by decide +kernel
theorem dL_isAhead_6 : decode cL_isAhead 6 = .ok (.aload_n 0, 1) := by decide +kernel
theorem dL_isAhead_7 : decode cL_isAhead 7 = .ok (.iload_n 1, 1) := by decide +kernel
theorem dL_isAhead_8 : decode cL_isAhead 8 = .ok (.invokevirtual 94, 3) := by decide +kernel
theorem dL_isAhead_11 : decode cL_isAhead 11 = .ok (.istore_n 3, 1) := by decide +kernel
theorem dL_isAhead_12 : decode cL_isAhead 12 = .ok (.iload_n 2, 1) := by decide +kernel
theorem dL_isAhead_13 : decode cL_isAhead 13 = .ok (.aload_n 0, 1) := by decide +kernel
theorem dL_isAhead_14 : decode cL_isAhead 14 = .ok (.iconst 1, 1) := by decide +kernel
theorem dL_isAhead_15 : decode cL_isAhead 15 = .ok (.invokevirtual 91, 3) := by decide +kernel
theorem dL_isAhead_18 : decode cL_isAhead 18 = .ok (.if_icmp .ne 36, 3) := by decide +kernel
theorem dL_isAhead_21 : decode cL_isAhead 21 = .ok (.iload_n 2, 1) := by decide +kernel
theorem dL_isAhead_22 : decode cL_isAhead 22 = .ok (.ifCond .lt 32, 3) := by decide +kernel
theorem dL_isAhead_25 : decode cL_isAhead 25 = .ok (.iconst 2, 1) := by decide +kernel
theorem dL_isAhead_26 : decode cL_isAhead 26 = .ok (.iload_n 2, 1) := by decide +kernel
theorem dL_isAhead_27 : decode cL_isAhead 27 = .ok (.imul, 1) := by decide +kernel
theorem dL_isAhead_28 : decode cL_isAhead 28 = .ok (.aload_n 0, 1) := by decide +kernel
theorem dL_isAhead_29 : decode cL_isAhead 29 = .ok (.iconst 4, 1) := by decide +kernel
theorem dL_isAhead_30 : decode cL_isAhead 30 = .ok (.invokevirtual 13, 3) := by decide +kernel
theorem dL_isAhead_33 : decode cL_isAhead 33 = .ok (.if_icmp .gt 21, 3) := by decide +kernel
theorem dL_isAhead_36 : decode cL_isAhead 36 = .ok (.iload_n 3, 1) := by decide +kernel
theorem dL_isAhead_37 : decode cL_isAhead 37 = .ok (.iconst (-1), 1) := by decide +kernel
theorem dL_isAhead_38 : decode cL_isAhead 38 = .ok (.if_icmp .eq 12, 3) := by decide +kernel
theorem dL_isAhead_41 : decode cL_isAhead 41 = .ok (.aload_n 0, 1) := by decide +kernel
theorem dL_isAhead_42 : decode cL_isAhead 42 = .ok (.iload_n 3, 1) := by decide +kernel
theorem dL_isAhead_43 : decode cL_isAhead 43 = .ok (.iload_n 1, 1) := by decide +kernel
theorem dL_isAhead_44 : decode cL_isAhead 44 = .ok (.invokevirtual 97, 3) := by decide +kernel
theorem dL_isAhead_47 : decode cL_isAhead 47 = .ok (.ifCond .ne 7, 3) := by decide +kernel
theorem dL_isAhead_50 : decode cL_isAhead 50 = .ok (.iconst 1, 1) := by decide +kernel
theorem dL_isAhead_51 : decode cL_isAhead 51 = .ok (.goto 4, 3) := by decide +kernel
theorem dL_isAhead_54 : decode cL_isAhead 54 = .ok (.iconst 0, 1) := by decide +kernel
theorem dL_isAhead_55 : decode cL_isAhead 55 = .ok (.istore 4, 2) := by decide +kernel
theorem dL_isAhead_57 : decode cL_isAhead 57 = .ok (.iconst 0, 1) := by decide +kernel
theorem dL_isAhead_58 : decode cL_isAhead 58 = .ok (.istore 5, 2) := by decide +kernel
theorem dL_isAhead_60 : decode cL_isAhead 60 = .ok (.iconst 0, 1) := by decide +kernel
theorem dL_isAhead_61 : decode cL_isAhead 61 = .ok (.istore 6, 2) := by decide +kernel
theorem dL_isAhead_63 : decode cL_isAhead 63 = .ok (.iload 6, 2) := by decide +kernel
theorem dL_isAhead_65 : decode cL_isAhead 65 = .ok (.aload_n 0, 1) := by decide +kernel
theorem dL_isAhead_66 : decode cL_isAhead 66 = .ok (.iconst 0, 1) := by decide +kernel
theorem dL_isAhead_67 : decode cL_isAhead 67 = .ok (.invokevirtual 13, 3) := by decide +kernel
theorem dL_isAhead_70 : decode cL_isAhead 70 = .ok (.if_icmp .ge 31, 3) := by decide +kernel
theorem dL_isAhead_73 : decode cL_isAhead 73 = .ok (.iload 5, 2) := by decide +kernel
theorem dL_isAhead_75 : decode cL_isAhead 75 = .ok (.ifCond .ne 13, 3) := by decide +kernel
theorem dL_isAhead_78 : decode cL_isAhead 78 = .ok (.aload_n 0, 1) := by decide +kernel
theorem dL_isAhead_79 : decode cL_isAhead 79 = .ok (.iload 6, 2) := by decide +kernel
theorem dL_isAhead_81 : decode cL_isAhead 81 = .ok (.invokevirtual 94, 3) := by decide +kernel
theorem dL_isAhead_84 : decode cL_isAhead 84 = .ok (.iconst (-1), 1) := by decide +kernel
theorem dL_isAhead_85 : decode cL_isAhead 85 = .ok (.if_icmp .eq 7, 3) := by decide +kernel
theorem dL_isAhead_88 : decode cL_isAhead 88 = .ok (.iconst 1, 1) := by decide +kernel
theorem dL_isAhead_89 : decode cL_isAhead 89 = .ok (.goto 4, 3) := by decide +kernel
theorem dL_isAhead_92 : decode cL_isAhead 92 = .ok (.iconst 0, 1) := by decide +kernel
theorem dL_isAhead_93 : decode cL_isAhead 93 = .ok (.istore 5, 2) := by decide +kernel
theorem dL_isAhead_95 : decode cL_isAhead 95 = .ok (.iinc 6 1, 3) := by decide +kernel
theorem dL_isAhead_98 : decode cL_isAhead 98 = .ok (.goto (-35), 3) := by decide +kernel
theorem dL_isAhead_101 : decode cL_isAhead 101 = .ok (.iload 4, 2) := by decide +kernel
theorem dL_isAhead_103 : decode cL_isAhead 103 = .ok (.ifCond .eq 21, 3) := by decide +kernel
theorem dL_isAhead_106 : decode cL_isAhead 106 = .ok (.iload 5, 2) := by decide +kernel
theorem dL_isAhead_108 : decode cL_isAhead 108 = .ok (.iload_n 2, 1) := by decide +kernel
theorem dL_isAhead_109 : decode cL_isAhead 109 = .ok (.ifCond .le 7, 3) := by decide +kernel
theorem dL_isAhead_112 : decode cL_isAhead 112 = .ok (.iconst 1, 1) := by decide +kernel
theorem dL_isAhead_113 : decode cL_isAhead 113 = .ok (.goto 4, 3) := by decide +kernel
theorem dL_isAhead_116 : decode cL_isAhead 116 = .ok (.iconst 0, 1) := by decide +kernel
theorem dL_isAhead_117 : decode cL_isAhead 117 = .ok (.if_icmp .ne 7, 3) := by decide +kernel
theorem dL_isAhead_120 : decode cL_isAhead 120 = .ok (.iconst 1, 1) := by decide +kernel
theorem dL_isAhead_121 : decode cL_isAhead 121 = .ok (.goto 4, 3) := by decide +kernel
theorem dL_isAhead_124 : decode cL_isAhead 124 = .ok (.iconst 0, 1) := by decide +kernel
theorem dL_isAhead_125 : decode cL_isAhead 125 = .ok (.istore 4, 2) := by decide +kernel
theorem dL_isAhead_127 : decode cL_isAhead 127 = .ok (.iconst 0, 1) := by decide +kernel
theorem dL_isAhead_128 : decode cL_isAhead 128 = .ok (.istore 6, 2) := by decide +kernel
theorem dL_isAhead_130 : decode cL_isAhead 130 = .ok (.iload 6, 2) := by decide +kernel
theorem dL_isAhead_132 : decode cL_isAhead 132 = .ok (.bipush 8, 2) := by decide +kernel
theorem dL_isAhead_134 : decode cL_isAhead 134 = .ok (.if_icmp .ge 240, 3) := by decide +kernel
theorem dL_isAhead_137 : decode cL_isAhead 137 = .ok (.iload 4, 2) := by decide +kernel
theorem dL_isAhead_139 : decode cL_isAhead 139 = .ok (.ifCond .eq 235, 3) := by decide +kernel
theorem dL_isAhead_142 : decode cL_isAhead 142 = .ok (.aload_n 0, 1) := by decide +kernel
theorem dL_isAhead_143 : decode cL_isAhead 143 = .ok (.iload 6, 2) := by decide +kernel
theorem dL_isAhead_145 : decode cL_isAhead 145 = .ok (.iload_n 1, 1) := by decide +kernel
theorem dL_isAhead_146 : decode cL_isAhead 146 = .ok (.invokevirtual 97, 3) := by decide +kernel
theorem dL_isAhead_149 : decode cL_isAhead 149 = .ok (.istore 7, 2) := by decide +kernel
theorem dL_isAhead_151 : decode cL_isAhead 151 = .ok (.iload_n 3, 1) := by decide +kernel
theorem dL_isAhead_152 : decode cL_isAhead 152 = .ok (.ifCond .lt 77, 3) := by decide +kernel
theorem dL_isAhead_155 : decode cL_isAhead 155 = .ok (.aload_n 0, 1) := by decide +kernel
theorem dL_isAhead_156 : decode cL_isAhead 156 = .ok (.iload 6, 2) := by decide +kernel
theorem dL_isAhead_158 : decode cL_isAhead 158 = .ok (.iconst 3, 1) := by decide +kernel
theorem dL_isAhead_159 : decode cL_isAhead 159 = .ok (.invokevirtual 19, 3) := by decide +kernel
theorem dL_isAhead_162 : decode cL_isAhead 162 = .ok (.aload_n 0, 1) := by decide +kernel
theorem dL_isAhead_163 : decode cL_isAhead 163 = .ok (.iload_n 3, 1) := by decide +kernel
theorem dL_isAhead_164 : decode cL_isAhead 164 = .ok (.iconst 3, 1) := by decide +kernel
theorem dL_isAhead_165 : decode cL_isAhead 165 = .ok (.invokevirtual 19, 3) := by decide +kernel
theorem dL_isAhead_168 : decode cL_isAhead 168 = .ok (.if_icmp .lt 57, 3) := by decide +kernel
theorem dL_isAhead_171 : decode cL_isAhead 171 = .ok (.aload_n 0, 1) := by decide +kernel
theorem dL_isAhead_172 : decode cL_isAhead 172 = .ok (.iload 6, 2) := by decide +kernel
theorem dL_isAhead_174 : decode cL_isAhead 174 = .ok (.iconst 3, 1) := by decide +kernel
theorem dL_isAhead_175 : decode cL_isAhead 175 = .ok (.invokevirtual 19, 3) := by decide +kernel
theorem dL_isAhead_178 : decode cL_isAhead 178 = .ok (.aload_n 0, 1) := by decide +kernel
theorem dL_isAhead_179 : decode cL_isAhead 179 = .ok (.iload_n 3, 1) := by decide +kernel
theorem dL_isAhead_180 : decode cL_isAhead 180 = .ok (.iconst 3, 1) := by decide +kernel
theorem dL_isAhead_181 : decode cL_isAhead 181 = .ok (.invokevirtual 19, 3) := by decide +kernel
theorem dL_isAhead_184 : decode cL_isAhead 184 = .ok (.if_icmp .ne 45, 3) := by decide +kernel
theorem dL_isAhead_187 : decode cL_isAhead 187 = .ok (.aload_n 0, 1) := by decide +kernel
theorem dL_isAhead_188 : decode cL_isAhead 188 = .ok (.iload 6, 2) := by decide +kernel
theorem dL_isAhead_190 : decode cL_isAhead 190 = .ok (.iconst 0, 1) := by decide +kernel
theorem dL_isAhead_191 : decode cL_isAhead 191 = .ok (.invokevirtual 19, 3) := by decide +kernel
theorem dL_isAhead_194 : decode cL_isAhead 194 = .ok (.aload_n 0, 1) := by decide +kernel
theorem dL_isAhead_195 : decode cL_isAhead 195 = .ok (.iload_n 3, 1) := by decide +kernel
theorem dL_isAhead_196 : decode cL_isAhead 196 = .ok (.iconst 0, 1) := by decide +kernel
theorem dL_isAhead_197 : decode cL_isAhead 197 = .ok (.invokevirtual 19, 3) := by decide +kernel
theorem dL_isAhead_200 : decode cL_isAhead 200 = .ok (.if_icmp .gt 25, 3) := by decide +kernel
theorem dL_isAhead_203 : decode cL_isAhead 203 = .ok (.aload_n 0, 1) := by decide +kernel
theorem dL_isAhead_204 : decode cL_isAhead 204 = .ok (.iload 6, 2) := by decide +kernel
theorem dL_isAhead_206 : decode cL_isAhead 206 = .ok (.iconst 0, 1) := by decide +kernel
theorem dL_isAhead_207 : decode cL_isAhead 207 = .ok (.invokevirtual 19, 3) := by decide +kernel
theorem dL_isAhead_210 : decode cL_isAhead 210 = .ok (.aload_n 0, 1) := by decide +kernel
theorem dL_isAhead_211 : decode cL_isAhead 211 = .ok (.iload_n 3, 1) := by decide +kernel
theorem dL_isAhead_212 : decode cL_isAhead 212 = .ok (.iconst 0, 1) := by decide +kernel
theorem dL_isAhead_213 : decode cL_isAhead 213 = .ok (.invokevirtual 19, 3) := by decide +kernel
theorem dL_isAhead_216 : decode cL_isAhead 216 = .ok (.if_icmp .ne 13, 3) := by decide +kernel
theorem dL_isAhead_219 : decode cL_isAhead 219 = .ok (.iload 6, 2) := by decide +kernel
theorem dL_isAhead_221 : decode cL_isAhead 221 = .ok (.iload_n 3, 1) := by decide +kernel
theorem dL_isAhead_222 : decode cL_isAhead 222 = .ok (.if_icmp .ge 7, 3) := by decide +kernel
theorem dL_isAhead_225 : decode cL_isAhead 225 = .ok (.iconst 1, 1) := by decide +kernel
theorem dL_isAhead_226 : decode cL_isAhead 226 = .ok (.goto 4, 3) := by decide +kernel
theorem dL_isAhead_229 : decode cL_isAhead 229 = .ok (.iconst 0, 1) := by decide +kernel
theorem dL_isAhead_230 : decode cL_isAhead 230 = .ok (.istore 8, 2) := by decide +kernel
theorem dL_isAhead_232 : decode cL_isAhead 232 = .ok (.aload_n 0, 1) := by decide +kernel
theorem dL_isAhead_233 : decode cL_isAhead 233 = .ok (.iload 6, 2) := by decide +kernel
theorem dL_isAhead_235 : decode cL_isAhead 235 = .ok (.bipush 8, 2) := by decide +kernel
theorem dL_isAhead_237 : decode cL_isAhead 237 = .ok (.invokevirtual 19, 3) := by decide +kernel
theorem dL_isAhead_240 : decode cL_isAhead 240 = .ok (.iload_n 1, 1) := by decide +kernel
theorem dL_isAhead_241 : decode cL_isAhead 241 = .ok (.ishr, 1) := by decide +kernel
theorem dL_isAhead_242 : decode cL_isAhead 242 = .ok (.iconst 1, 1) := by decide +kernel
theorem dL_isAhead_243 : decode cL_isAhead 243 = .ok (.iand, 1) := by decide +kernel
theorem dL_isAhead_244 : decode cL_isAhead 244 = .ok (.iconst 1, 1) := by decide +kernel
theorem dL_isAhead_245 : decode cL_isAhead 245 = .ok (.if_icmp .ne 7, 3) := by decide +kernel
theorem dL_isAhead_248 : decode cL_isAhead 248 = .ok (.iconst 1, 1) := by decide +kernel
theorem dL_isAhead_249 : decode cL_isAhead 249 = .ok (.goto 4, 3) := by decide +kernel
theorem dL_isAhead_252 : decode cL_isAhead 252 = .ok (.iconst 0, 1) := by decide +kernel
theorem dL_isAhead_253 : decode cL_isAhead 253 = .ok (.istore 9, 2) := by decide +kernel
theorem dL_isAhead_255 : decode cL_isAhead 255 = .ok (.iload 7, 2) := by decide +kernel
theorem dL_isAhead_257 : decode cL_isAhead 257 = .ok (.ifCond .le 90, 3) := by decide +kernel
theorem dL_isAhead_260 : decode cL_isAhead 260 = .ok (.iload 7, 2) := by decide +kernel
theorem dL_isAhead_262 : decode cL_isAhead 262 = .ok (.iconst 4, 1) := by decide +kernel
theorem dL_isAhead_263 : decode cL_isAhead 263 = .ok (.if_icmp .lt 7, 3) := by decide +kernel
theorem dL_isAhead_266 : decode cL_isAhead 266 = .ok (.iconst 1, 1) := by decide +kernel
theorem dL_isAhead_267 : decode cL_isAhead 267 = .ok (.goto 4, 3) := by decide +kernel
theorem dL_isAhead_270 : decode cL_isAhead 270 = .ok (.iconst 0, 1) := by decide +kernel
theorem dL_isAhead_271 : decode cL_isAhead 271 = .ok (.aload_n 0, 1) := by decide +kernel
theorem dL_isAhead_272 : decode cL_isAhead 272 = .ok (.iload_n 1, 1) := by decide +kernel
theorem dL_isAhead_273 : decode cL_isAhead 273 = .ok (.bipush 8, 2) := by decide +kernel
theorem dL_isAhead_275 : decode cL_isAhead 275 = .ok (.invokevirtual 23, 3) := by decide +kernel
theorem dL_isAhead_278 : decode cL_isAhead 278 = .ok (.ifCond .ne 35, 3) := by decide +kernel
theorem dL_isAhead_281 : decode cL_isAhead 281 = .ok (.aload_n 0, 1) := by decide +kernel
theorem dL_isAhead_282 : decode cL_isAhead 282 = .ok (.iload 6, 2) := by decide +kernel
theorem dL_isAhead_284 : decode cL_isAhead 284 = .ok (.iload_n 1, 1) := by decide +kernel
theorem dL_isAhead_285 : decode cL_isAhead 285 = .ok (.invokevirtual 26, 3) := by decide +kernel
theorem dL_isAhead_288 : decode cL_isAhead 288 = .ok (.iconst (-1), 1) := by decide +kernel
theorem dL_isAhead_289 : decode cL_isAhead 289 = .ok (.if_icmp .ne 24, 3) := by decide +kernel
theorem dL_isAhead_292 : decode cL_isAhead 292 = .ok (.aload_n 0, 1) := by decide +kernel
theorem dL_isAhead_293 : decode cL_isAhead 293 = .ok (.iload_n 1, 1) := by decide +kernel
theorem dL_isAhead_294 : decode cL_isAhead 294 = .ok (.iconst 2, 1) := by decide +kernel
theorem dL_isAhead_295 : decode cL_isAhead 295 = .ok (.invokevirtual 23, 3) := by decide +kernel
theorem dL_isAhead_298 : decode cL_isAhead 298 = .ok (.invokestatic 75, 3) := by decide +kernel
theorem dL_isAhead_301 : decode cL_isAhead 301 = .ok (.aload_n 0, 1) := by decide +kernel
theorem dL_isAhead_302 : decode cL_isAhead 302 = .ok (.iconst 0, 1) := by decide +kernel
theorem dL_isAhead_303 : decode cL_isAhead 303 = .ok (.invokevirtual 29, 3) := by decide +kernel
theorem dL_isAhead_306 : decode cL_isAhead 306 = .ok (.if_icmp .ge 7, 3) := by decide +kernel
theorem dL_isAhead_309 : decode cL_isAhead 309 = .ok (.iconst 1, 1) := by decide +kernel
theorem dL_isAhead_310 : decode cL_isAhead 310 = .ok (.goto 4, 3) := by decide +kernel
theorem dL_isAhead_313 : decode cL_isAhead 313 = .ok (.iconst 0, 1) := by decide +kernel
theorem dL_isAhead_314 : decode cL_isAhead 314 = .ok (.if_icmp .ne 29, 3) := by decide +kernel
theorem dL_isAhead_317 : decode cL_isAhead 317 = .ok (.iload 7, 2) := by decide +kernel
theorem dL_isAhead_319 : decode cL_isAhead 319 = .ok (.iconst 4, 1) := by decide +kernel
theorem dL_isAhead_320 : decode cL_isAhead 320 = .ok (.if_icmp .ne 8, 3) := by decide +kernel
theorem dL_isAhead_323 : decode cL_isAhead 323 = .ok (.iload 9, 2) := by decide +kernel
theorem dL_isAhead_325 : decode cL_isAhead 325 = .ok (.ifCond .eq 18, 3) := by decide +kernel
theorem dL_isAhead_328 : decode cL_isAhead 328 = .ok (.iload 7, 2) := by decide +kernel
theorem dL_isAhead_330 : decode cL_isAhead 330 = .ok (.iconst 5, 1) := by decide +kernel
theorem dL_isAhead_331 : decode cL_isAhead 331 = .ok (.if_icmp .lt 8, 3) := by decide +kernel
theorem dL_isAhead_334 : decode cL_isAhead 334 = .ok (.iload 9, 2) := by decide +kernel
theorem dL_isAhead_336 : decode cL_isAhead 336 = .ok (.ifCond .ne 7, 3) := by decide +kernel
theorem dL_isAhead_339 : decode cL_isAhead 339 = .ok (.iconst 1, 1) := by decide +kernel
theorem dL_isAhead_340 : decode cL_isAhead 340 = .ok (.goto 26, 3) := by decide +kernel
theorem dL_isAhead_343 : decode cL_isAhead 343 = .ok (.iconst 0, 1) := by decide +kernel
theorem dL_isAhead_344 : decode cL_isAhead 344 = .ok (.goto 22, 3) := by decide +kernel
theorem dL_isAhead_347 : decode cL_isAhead 347 = .ok (.iload_n 3, 1) := by decide +kernel
theorem dL_isAhead_348 : decode cL_isAhead 348 = .ok (.ifCond .lt 17, 3) := by decide +kernel
theorem dL_isAhead_351 : decode cL_isAhead 351 = .ok (.iload 8, 2) := by decide +kernel
theorem dL_isAhead_353 : decode cL_isAhead 353 = .ok (.ifCond .ne 12, 3) := by decide +kernel
theorem dL_isAhead_356 : decode cL_isAhead 356 = .ok (.iload 9, 2) := by decide +kernel
theorem dL_isAhead_358 : decode cL_isAhead 358 = .ok (.ifCond .ne 7, 3) := by decide +kernel
theorem dL_isAhead_361 : decode cL_isAhead 361 = .ok (.iconst 1, 1) := by decide +kernel
theorem dL_isAhead_362 : decode cL_isAhead 362 = .ok (.goto 4, 3) := by decide +kernel
theorem dL_isAhead_365 : decode cL_isAhead 365 = .ok (.iconst 0, 1) := by decide +kernel
theorem dL_isAhead_366 : decode cL_isAhead 366 = .ok (.istore 4, 2) := by decide +kernel
theorem dL_isAhead_368 : decode cL_isAhead 368 = .ok (.iinc 6 1, 3) := by decide +kernel
theorem dL_isAhead_371 : decode cL_isAhead 371 = .ok (.goto (-241), 3) := by decide +kernel
theorem dL_isAhead_374 : decode cL_isAhead 374 = .ok (.iload 4, 2) := by decide +kernel
theorem dL_isAhead_376 : decode cL_isAhead 376 = .ok (.ifCond .eq 16, 3) := by decide +kernel
theorem dL_isAhead_379 : decode cL_isAhead 379 = .ok (.aload_n 0, 1) := by decide +kernel
theorem dL_isAhead_380 : decode cL_isAhead 380 = .ok (.iconst 0, 1) := by decide +kernel
theorem dL_isAhead_381 : decode cL_isAhead 381 = .ok (.invokevirtual 91, 3) := by decide +kernel
theorem dL_isAhead_384 : decode cL_isAhead 384 = .ok (.iload_n 2, 1) := by decide +kernel
theorem dL_isAhead_385 : decode cL_isAhead 385 = .ok (.if_icmp .ne 7, 3) := by decide +kernel
theorem dL_isAhead_388 : decode cL_isAhead 388 = .ok (.iconst 1, 1) := by decide +kernel
theorem dL_isAhead_389 : decode cL_isAhead 389 = .ok (.goto 4, 3) := by decide +kernel
theorem dL_isAhead_392 : decode cL_isAhead 392 = .ok (.iconst 0, 1) := by decide +kernel
theorem dL_isAhead_393 : decode cL_isAhead 393 = .ok (.ireturn, 1) := by decide +kernel
set_option maxRecDepth 100000 in
set_option maxHeartbeats 4000000 in
theorem mt_L_isAhead (r0 : Option Nat) (i1 : Int32) (S0 : PH) (y : (Nat ⊕ Int32) × PH) (h : m_L_isAhead r0 i1 S0 = some y) : MT yL_isAhead (.code yL_isAhead cL_isAhead 10 (Option.some FieldType.boolean)) 8 138 1 6 [va_rf r0, .int i1] S0 (oQ e_I (qT y)) := by
  refine mt_of (own := RL) (l0 := [(0, va_rf r0), (1, .int i1)]) rfl rfl (by cases r0 <;> exact Nat.le_of_ble_eq_true rfl) (by cases r0 <;> rfl) ?_
  intro Z hC hQ hE hN
  have J_374 : ∀ (v44 : Int32) (v45 : Int32) (S46 : PH), j_L_isAhead_374 r0 i1 v44 v45 S46 = some y → PX Z 10 S46 0 0 374 [(0, va_rf r0), (1, .int i1), (2, .int v44), (4, .int v45)] [] := by
    intro v44 v45 S46 h
    unfold j_L_isAhead_374 at h
    refine x_iload (i := 4) hC dL_isAhead_374 3 rfl ?_
    refine x_if_eq (t := 392) hC dL_isAhead_376 (by decide) (fun c47 => ?_) (fun c47 => ?_)
    · replace h := it_t c47 h
      refine x_iconst (v := (0 : Int32)) hC dL_isAhead_392 (by decide) ?_
      exact x_zret hC hQ (by decide) (z_T (Option.some.inj h)) (Nat.le_of_ble_eq_true rfl) (Nat.le_of_ble_eq_true rfl) dL_isAhead_393
    · replace h := it_f c47 h
      refine x_aload_n (i := 0) hC dL_isAhead_379 rfl 0 rfl ?_
      refine x_iconst (v := (0 : Int32)) hC dL_isAhead_380 (by decide) ?_
      replace h := dr_el h
      obtain ⟨a48, ea49, ha50, h⟩ := h
      replace h := bt_el h
      obtain ⟨v51, S52, hb56, h⟩ | ⟨j53, S54, hb56, h⟩ := h
      · refine x_callV hC (st := []) (mtr_X4_most _ _ _ (v51, S52) hb56) ea49 ha50 kf_4 q_449 q_450 q_451 q_1 q_452 ⟨rfl, hy_X4_most⟩ ⟨Nat.le_of_ble_eq_true rfl, Nat.le_of_ble_eq_true rfl⟩ ⟨Nat.le_of_ble_eq_true rfl, Nat.le_of_ble_eq_true rfl⟩ rfl (Nat.le_of_ble_eq_true rfl) dL_isAhead_381 (r_N ?_) r_NX
        show PX Z 10 S52 0 0 384 [(0, va_rf r0), (1, .int i1), (2, .int v44), (4, .int v45)] [.int v51]
        refine x_iload_n (i := 2) hC dL_isAhead_384 rfl 2 rfl ?_
        refine x_icmp_ne (t := 392) hC dL_isAhead_385 (by decide) (fun c55 => ?_) (fun c55 => ?_)
        · replace h := it_f c55 h
          refine x_iconst (v := (0 : Int32)) hC dL_isAhead_392 (by decide) ?_
          exact x_zret hC hQ (by decide) (z_T (Option.some.inj h)) (Nat.le_of_ble_eq_true rfl) (Nat.le_of_ble_eq_true rfl) dL_isAhead_393
        · replace h := it_t c55 h
          refine x_iconst (v := (1 : Int32)) hC dL_isAhead_388 (by decide) ?_
          refine x_goto (t := 393) hC dL_isAhead_389 (by decide) ?_
          exact x_zret hC hQ (by decide) (z_T (Option.some.inj h)) (Nat.le_of_ble_eq_true rfl) (Nat.le_of_ble_eq_true rfl) dL_isAhead_393
      · refine x_callV hC (st := []) (mt_X4_most _ _ _ _ hb56) ea49 ha50 kf_4 q_449 q_450 q_451 q_1 q_452 ⟨rfl, hy_X4_most⟩ ⟨Nat.le_of_ble_eq_true rfl, Nat.le_of_ble_eq_true rfl⟩ ⟨Nat.le_of_ble_eq_true rfl, Nat.le_of_ble_eq_true rfl⟩ rfl (Nat.le_of_ble_eq_true rfl) dL_isAhead_381 r_X (r_XX ?_)
        exact x_out hC hQ hE (z_X (Option.some.inj h)) (Nat.le_of_ble_eq_true rfl) (Nat.le_of_ble_eq_true rfl)
  have J_117 : ∀ (v228 : Int32) (v229 : Int32) (v230 : Int32) (v231 : Int32) (S232 : PH), j_L_isAhead_117 r0 i1 v228 v229 v230 v231 S232 = some y → PX Z 10 S232 0 0 117 [(0, va_rf r0), (1, .int i1), (2, .int v228), (3, .int v229)] [.int v231, .int v230] := by
    intro v228 v229 v230 v231 S232 h
    unfold j_L_isAhead_117 at h
    refine x_icmp_ne (t := 124) hC dL_isAhead_117 (by decide) (fun c233 => ?_) (fun c233 => ?_)
    · replace h := it_f c233 h
      refine x_iconst (v := (0 : Int32)) hC dL_isAhead_124 (by decide) ?_
      refine x_istore (i := 4) (l' := [(4, .int (0 : Int32)), (0, va_rf r0), (1, .int i1), (2, .int v228), (3, .int v229)]) hC dL_isAhead_125 (⟨fun _ => c_rf r0, ⟨fun _ => rfl, ⟨fun _ => rfl, ⟨fun _ => rfl, trivial⟩⟩⟩⟩) (by decide) rfl ?_
      refine x_iconst (v := (0 : Int32)) hC dL_isAhead_127 (by decide) ?_
      refine x_istore (i := 6) (l' := [(6, .int (0 : Int32)), (4, .int (0 : Int32)), (0, va_rf r0), (1, .int i1), (2, .int v228), (3, .int v229)]) hC dL_isAhead_128 (⟨fun _ => rfl, ⟨fun _ => c_rf r0, ⟨fun _ => rfl, ⟨fun _ => rfl, ⟨fun _ => rfl, trivial⟩⟩⟩⟩⟩) (by decide) rfl ?_
      refine x_sub (l' := [(0, va_rf r0), (1, .int i1), (2, .int v228), (3, .int v229), (4, .int (0 : Int32)), (6, .int (0 : Int32))]) [2, 3, 4, 5, 1, 0] rfl ?_
      refine lp_sim (P := fun (t : (Int32 × Int32 × Int32 × Int32 × PH)) => PX Z 10 t.2.2.2.2 0 0 130 [(0, va_rf r0), (1, .int i1), (2, .int t.1), (3, .int t.2.1), (4, .int t.2.2.1), (6, .int t.2.2.2.1)] []) (G := fun r => r = y) ?_ h rfl
      clear h
      intro t x_130 h hg_130
      obtain ⟨v234, v235, v236, v237, S238⟩ := t
      show PX Z 10 S238 0 0 130 [(0, va_rf r0), (1, .int i1), (2, .int v234), (3, .int v235), (4, .int v236), (6, .int v237)] []
      have J_328 : ∀ (v117 : Int32) (v118 : Int32) (v119 : Int32) (v120 : Int32) (v121 : Int32) (S122 : PH), j_L_isAhead_328 r0 i1 v117 v118 v119 v120 v121 S122 = some x_130 → PX Z 10 S122 0 0 328 [(0, va_rf r0), (1, .int i1), (2, .int v117), (3, .int v118), (6, .int v119), (7, .int v120), (9, .int v121)] [] := by
        intro v117 v118 v119 v120 v121 S122 h
        unfold j_L_isAhead_328 at h
        refine x_iload (i := 7) hC dL_isAhead_328 5 rfl ?_
        refine x_iconst (v := (5 : Int32)) hC dL_isAhead_330 (by decide) ?_
        refine x_icmp_lt (t := 339) hC dL_isAhead_331 (by decide) (fun c123 => ?_) (fun c123 => ?_)
        · replace h := it_t c123 h
          refine x_iconst (v := (1 : Int32)) hC dL_isAhead_339 (by decide) ?_
          refine x_goto (t := 366) hC dL_isAhead_340 (by decide) ?_
          refine x_istore (i := 4) (l' := [(4, .int (1 : Int32)), (0, va_rf r0), (1, .int i1), (2, .int v117), (3, .int v118), (6, .int v119), (7, .int v120), (9, .int v121)]) hC dL_isAhead_366 (⟨fun _ => c_rf r0, ⟨fun _ => rfl, ⟨fun _ => rfl, ⟨fun _ => rfl, ⟨fun _ => rfl, ⟨fun _ => rfl, ⟨fun _ => rfl, trivial⟩⟩⟩⟩⟩⟩⟩) (by decide) rfl ?_
          refine x_iinc (i := 6) (v := (v119 + (1 : Int32))) (l' := [(6, .int (v119 + (1 : Int32))), (4, .int (1 : Int32)), (0, va_rf r0), (1, .int i1), (2, .int v117), (3, .int v118), (7, .int v120), (9, .int v121)]) hC dL_isAhead_368 5 rfl rfl (⟨fun _ => rfl, ⟨fun _ => c_rf r0, ⟨fun _ => rfl, ⟨fun _ => rfl, ⟨fun _ => rfl, ⟨fun _ => rfl, ⟨fun _ => rfl, ⟨fun _ => rfl, trivial⟩⟩⟩⟩⟩⟩⟩⟩) (by decide) rfl ?_
          refine x_goto (t := 130) hC dL_isAhead_371 (by decide) ?_
          refine x_sub (l' := [(0, va_rf r0), (1, .int i1), (2, .int v117), (3, .int v118), (4, .int (1 : Int32)), (6, .int (v119 + (1 : Int32)))]) [2, 3, 4, 5, 1, 0] rfl ?_
          have hb := bk_x h hg_130
          exact hb
        · replace h := it_f c123 h
          refine x_iload (i := 9) hC dL_isAhead_334 6 rfl ?_
          refine x_if_ne (t := 343) hC dL_isAhead_336 (by decide) (fun c124 => ?_) (fun c124 => ?_)
          · replace h := it_f c124 h
            refine x_iconst (v := (0 : Int32)) hC dL_isAhead_343 (by decide) ?_
            refine x_goto (t := 366) hC dL_isAhead_344 (by decide) ?_
            refine x_istore (i := 4) (l' := [(4, .int (0 : Int32)), (0, va_rf r0), (1, .int i1), (2, .int v117), (3, .int v118), (6, .int v119), (7, .int v120), (9, .int v121)]) hC dL_isAhead_366 (⟨fun _ => c_rf r0, ⟨fun _ => rfl, ⟨fun _ => rfl, ⟨fun _ => rfl, ⟨fun _ => rfl, ⟨fun _ => rfl, ⟨fun _ => rfl, trivial⟩⟩⟩⟩⟩⟩⟩) (by decide) rfl ?_
            refine x_iinc (i := 6) (v := (v119 + (1 : Int32))) (l' := [(6, .int (v119 + (1 : Int32))), (4, .int (0 : Int32)), (0, va_rf r0), (1, .int i1), (2, .int v117), (3, .int v118), (7, .int v120), (9, .int v121)]) hC dL_isAhead_368 5 rfl rfl (⟨fun _ => rfl, ⟨fun _ => c_rf r0, ⟨fun _ => rfl, ⟨fun _ => rfl, ⟨fun _ => rfl, ⟨fun _ => rfl, ⟨fun _ => rfl, ⟨fun _ => rfl, trivial⟩⟩⟩⟩⟩⟩⟩⟩) (by decide) rfl ?_
            refine x_goto (t := 130) hC dL_isAhead_371 (by decide) ?_
            refine x_sub (l' := [(0, va_rf r0), (1, .int i1), (2, .int v117), (3, .int v118), (4, .int (0 : Int32)), (6, .int (v119 + (1 : Int32)))]) [2, 3, 4, 5, 1, 0] rfl ?_
            have hb := bk_x h hg_130
            exact hb
          · replace h := it_t c124 h
            refine x_iconst (v := (1 : Int32)) hC dL_isAhead_339 (by decide) ?_
            refine x_goto (t := 366) hC dL_isAhead_340 (by decide) ?_
            refine x_istore (i := 4) (l' := [(4, .int (1 : Int32)), (0, va_rf r0), (1, .int i1), (2, .int v117), (3, .int v118), (6, .int v119), (7, .int v120), (9, .int v121)]) hC dL_isAhead_366 (⟨fun _ => c_rf r0, ⟨fun _ => rfl, ⟨fun _ => rfl, ⟨fun _ => rfl, ⟨fun _ => rfl, ⟨fun _ => rfl, ⟨fun _ => rfl, trivial⟩⟩⟩⟩⟩⟩⟩) (by decide) rfl ?_
            refine x_iinc (i := 6) (v := (v119 + (1 : Int32))) (l' := [(6, .int (v119 + (1 : Int32))), (4, .int (1 : Int32)), (0, va_rf r0), (1, .int i1), (2, .int v117), (3, .int v118), (7, .int v120), (9, .int v121)]) hC dL_isAhead_368 5 rfl rfl (⟨fun _ => rfl, ⟨fun _ => c_rf r0, ⟨fun _ => rfl, ⟨fun _ => rfl, ⟨fun _ => rfl, ⟨fun _ => rfl, ⟨fun _ => rfl, ⟨fun _ => rfl, trivial⟩⟩⟩⟩⟩⟩⟩⟩) (by decide) rfl ?_
            refine x_goto (t := 130) hC dL_isAhead_371 (by decide) ?_
            refine x_sub (l' := [(0, va_rf r0), (1, .int i1), (2, .int v117), (3, .int v118), (4, .int (1 : Int32)), (6, .int (v119 + (1 : Int32)))]) [2, 3, 4, 5, 1, 0] rfl ?_
            have hb := bk_x h hg_130
            exact hb
      have J_314 : ∀ (v107 : Int32) (v108 : Int32) (v109 : Int32) (v110 : Int32) (v111 : Int32) (v112 : Int32) (v113 : Int32) (S114 : PH), j_L_isAhead_314 r0 i1 v107 v108 v109 v110 v111 v112 v113 S114 = some x_130 → PX Z 10 S114 0 0 314 [(0, va_rf r0), (1, .int i1), (2, .int v107), (3, .int v108), (6, .int v109), (7, .int v110), (9, .int v111)] [.int v113, .int v112] := by
        intro v107 v108 v109 v110 v111 v112 v113 S114 h
        unfold j_L_isAhead_314 at h
        refine x_icmp_ne (t := 343) hC dL_isAhead_314 (by decide) (fun c115 => ?_) (fun c115 => ?_)
        · replace h := it_f c115 h
          refine x_iconst (v := (0 : Int32)) hC dL_isAhead_343 (by decide) ?_
          refine x_goto (t := 366) hC dL_isAhead_344 (by decide) ?_
          refine x_istore (i := 4) (l' := [(4, .int (0 : Int32)), (0, va_rf r0), (1, .int i1), (2, .int v107), (3, .int v108), (6, .int v109), (7, .int v110), (9, .int v111)]) hC dL_isAhead_366 (⟨fun _ => c_rf r0, ⟨fun _ => rfl, ⟨fun _ => rfl, ⟨fun _ => rfl, ⟨fun _ => rfl, ⟨fun _ => rfl, ⟨fun _ => rfl, trivial⟩⟩⟩⟩⟩⟩⟩) (by decide) rfl ?_
          refine x_iinc (i := 6) (v := (v109 + (1 : Int32))) (l' := [(6, .int (v109 + (1 : Int32))), (4, .int (0 : Int32)), (0, va_rf r0), (1, .int i1), (2, .int v107), (3, .int v108), (7, .int v110), (9, .int v111)]) hC dL_isAhead_368 5 rfl rfl (⟨fun _ => rfl, ⟨fun _ => c_rf r0, ⟨fun _ => rfl, ⟨fun _ => rfl, ⟨fun _ => rfl, ⟨fun _ => rfl, ⟨fun _ => rfl, ⟨fun _ => rfl, trivial⟩⟩⟩⟩⟩⟩⟩⟩) (by decide) rfl ?_
          refine x_goto (t := 130) hC dL_isAhead_371 (by decide) ?_
          refine x_sub (l' := [(0, va_rf r0), (1, .int i1), (2, .int v107), (3, .int v108), (4, .int (0 : Int32)), (6, .int (v109 + (1 : Int32)))]) [2, 3, 4, 5, 1, 0] rfl ?_
          have hb := bk_x h hg_130
          exact hb
        · replace h := it_t c115 h
          refine x_iload (i := 7) hC dL_isAhead_317 5 rfl ?_
          refine x_iconst (v := (4 : Int32)) hC dL_isAhead_319 (by decide) ?_
          refine x_icmp_ne (t := 328) hC dL_isAhead_320 (by decide) (fun c116 => ?_) (fun c116 => ?_)
          · replace h := it_f c116 h
            exact J_328 _ _ _ _ _ _ h
          · replace h := it_t c116 h
            refine x_iload (i := 9) hC dL_isAhead_323 6 rfl ?_
            refine x_if_eq (t := 343) hC dL_isAhead_325 (by decide) (fun c125 => ?_) (fun c125 => ?_)
            · replace h := it_t c125 h
              refine x_iconst (v := (0 : Int32)) hC dL_isAhead_343 (by decide) ?_
              refine x_goto (t := 366) hC dL_isAhead_344 (by decide) ?_
              refine x_istore (i := 4) (l' := [(4, .int (0 : Int32)), (0, va_rf r0), (1, .int i1), (2, .int v107), (3, .int v108), (6, .int v109), (7, .int v110), (9, .int v111)]) hC dL_isAhead_366 (⟨fun _ => c_rf r0, ⟨fun _ => rfl, ⟨fun _ => rfl, ⟨fun _ => rfl, ⟨fun _ => rfl, ⟨fun _ => rfl, ⟨fun _ => rfl, trivial⟩⟩⟩⟩⟩⟩⟩) (by decide) rfl ?_
              refine x_iinc (i := 6) (v := (v109 + (1 : Int32))) (l' := [(6, .int (v109 + (1 : Int32))), (4, .int (0 : Int32)), (0, va_rf r0), (1, .int i1), (2, .int v107), (3, .int v108), (7, .int v110), (9, .int v111)]) hC dL_isAhead_368 5 rfl rfl (⟨fun _ => rfl, ⟨fun _ => c_rf r0, ⟨fun _ => rfl, ⟨fun _ => rfl, ⟨fun _ => rfl, ⟨fun _ => rfl, ⟨fun _ => rfl, ⟨fun _ => rfl, trivial⟩⟩⟩⟩⟩⟩⟩⟩) (by decide) rfl ?_
              refine x_goto (t := 130) hC dL_isAhead_371 (by decide) ?_
              refine x_sub (l' := [(0, va_rf r0), (1, .int i1), (2, .int v107), (3, .int v108), (4, .int (0 : Int32)), (6, .int (v109 + (1 : Int32)))]) [2, 3, 4, 5, 1, 0] rfl ?_
              have hb := bk_x h hg_130
              exact hb
            · replace h := it_f c125 h
              exact J_328 _ _ _ _ _ _ h
      have J_271 : ∀ (v92 : Int32) (v93 : Int32) (v94 : Int32) (v95 : Int32) (v96 : Int32) (v97 : Int32) (S98 : PH), j_L_isAhead_271 r0 i1 v92 v93 v94 v95 v96 v97 S98 = some x_130 → PX Z 10 S98 0 0 271 [(0, va_rf r0), (1, .int i1), (2, .int v92), (3, .int v93), (6, .int v94), (7, .int v95), (9, .int v96)] [.int v97] := by
        intro v92 v93 v94 v95 v96 v97 S98 h
        unfold j_L_isAhead_271 at h
        refine x_aload_n (i := 0) hC dL_isAhead_271 rfl 0 rfl ?_
        refine x_iload_n (i := 1) hC dL_isAhead_272 rfl 1 rfl ?_
        refine x_bipush (v := (8 : Int32)) hC dL_isAhead_273 (by decide) ?_
        replace h := dr_el h
        obtain ⟨a99, ea100, ha101, h⟩ := h
        replace h := bt_el h
        obtain ⟨v102, S103, hb155, h⟩ | ⟨j104, S105, hb155, h⟩ := h
        · refine x_callV hC (st := [.int v97]) (mtr_X4_paperOf _ _ _ _ (v102, S103) hb155) ea100 ha101 kf_4 q_527 q_528 q_529 q_1 q_530 ⟨rfl, hy_X4_paperOf⟩ ⟨Nat.le_of_ble_eq_true rfl, Nat.le_of_ble_eq_true rfl⟩ ⟨Nat.le_of_ble_eq_true rfl, Nat.le_of_ble_eq_true rfl⟩ rfl (Nat.le_of_ble_eq_true rfl) dL_isAhead_275 (r_N ?_) r_NX
          show PX Z 10 S103 0 0 278 [(0, va_rf r0), (1, .int i1), (2, .int v92), (3, .int v93), (6, .int v94), (7, .int v95), (9, .int v96)] [.int v102, .int v97]
          refine x_if_ne (t := 313) hC dL_isAhead_278 (by decide) (fun c106 => ?_) (fun c106 => ?_)
          · replace h := it_f c106 h
            refine x_iconst (v := (0 : Int32)) hC dL_isAhead_313 (by decide) ?_
            exact J_314 _ _ _ _ _ _ _ _ h
          · replace h := it_t c106 h
            refine x_aload_n (i := 0) hC dL_isAhead_281 rfl 0 rfl ?_
            refine x_iload (i := 6) hC dL_isAhead_282 4 rfl ?_
            refine x_iload_n (i := 1) hC dL_isAhead_284 rfl 1 rfl ?_
            replace h := dr_el h
            obtain ⟨a126, ea127, ha128, h⟩ := h
            replace h := bt_el h
            obtain ⟨v129, S130, hb154, h⟩ | ⟨j131, S132, hb154, h⟩ := h
            · refine x_callV hC (st := [.int v97]) (mtr_X4_score _ _ _ _ (v129, S130) hb154) ea127 ha128 kf_4 q_548 q_549 q_550 q_1 q_551 ⟨rfl, hy_X4_score⟩ ⟨Nat.le_of_ble_eq_true rfl, Nat.le_of_ble_eq_true rfl⟩ ⟨Nat.le_of_ble_eq_true rfl, Nat.le_of_ble_eq_true rfl⟩ rfl (Nat.le_of_ble_eq_true rfl) dL_isAhead_285 (r_N ?_) r_NX
              show PX Z 10 S130 0 0 288 [(0, va_rf r0), (1, .int i1), (2, .int v92), (3, .int v93), (6, .int v94), (7, .int v95), (9, .int v96)] [.int v129, .int v97]
              refine x_iconst (v := (-1 : Int32)) hC dL_isAhead_288 (by decide) ?_
              refine x_icmp_ne (t := 313) hC dL_isAhead_289 (by decide) (fun c133 => ?_) (fun c133 => ?_)
              · replace h := it_f c133 h
                refine x_iconst (v := (0 : Int32)) hC dL_isAhead_313 (by decide) ?_
                exact J_314 _ _ _ _ _ _ _ _ h
              · replace h := it_t c133 h
                refine x_aload_n (i := 0) hC dL_isAhead_292 rfl 0 rfl ?_
                refine x_iload_n (i := 1) hC dL_isAhead_293 rfl 1 rfl ?_
                refine x_iconst (v := (2 : Int32)) hC dL_isAhead_294 (by decide) ?_
                replace h := dr_el h
                obtain ⟨a134, ea135, ha136, h⟩ := h
                replace h := bt_el h
                obtain ⟨v137, S138, hb153, h⟩ | ⟨j139, S140, hb153, h⟩ := h
                · refine x_callV hC (st := [.int v97]) (mtr_X4_paperOf _ _ _ _ (v137, S138) hb153) ea135 ha136 kf_4 q_527 q_528 q_529 q_1 q_530 ⟨rfl, hy_X4_paperOf⟩ ⟨Nat.le_of_ble_eq_true rfl, Nat.le_of_ble_eq_true rfl⟩ ⟨Nat.le_of_ble_eq_true rfl, Nat.le_of_ble_eq_true rfl⟩ rfl (Nat.le_of_ble_eq_true rfl) dL_isAhead_295 (r_N ?_) r_NX
                  show PX Z 10 S138 0 0 298 [(0, va_rf r0), (1, .int i1), (2, .int v92), (3, .int v93), (6, .int v94), (7, .int v95), (9, .int v96)] [.int v137, .int v97]
                  replace h := bd_el h
                  obtain ⟨v141, S142, hb143, h⟩ := h
                  refine x_callS hC (st := [.int v97]) (mt_L_bits _ _ _ hb143) q_656 q_657 q_0 q_658 hy_L_bits ⟨Nat.le_of_ble_eq_true rfl, Nat.le_of_ble_eq_true rfl⟩ ⟨Nat.le_of_ble_eq_true rfl, Nat.le_of_ble_eq_true rfl⟩ rfl (Nat.le_of_ble_eq_true rfl) dL_isAhead_298 (r_N ?_) r_NX
                  show PX Z 10 S142 0 0 301 [(0, va_rf r0), (1, .int i1), (2, .int v92), (3, .int v93), (6, .int v94), (7, .int v95), (9, .int v96)] [.int v141, .int v97]
                  refine x_aload_n (i := 0) hC dL_isAhead_301 rfl 0 rfl ?_
                  refine x_iconst (v := (0 : Int32)) hC dL_isAhead_302 (by decide) ?_
                  replace h := dr_el h
                  obtain ⟨a144, ea145, ha146, h⟩ := h
                  replace h := bt_el h
                  obtain ⟨v147, S148, hb152, h⟩ | ⟨j149, S150, hb152, h⟩ := h
                  · refine x_callV hC (st := [.int v141, .int v97]) (mtr_X4_setting _ _ _ (v147, S148) hb152) ea145 ha146 kf_4 q_552 q_553 q_554 q_1 q_555 ⟨rfl, hy_X4_setting⟩ ⟨Nat.le_of_ble_eq_true rfl, Nat.le_of_ble_eq_true rfl⟩ ⟨Nat.le_of_ble_eq_true rfl, Nat.le_of_ble_eq_true rfl⟩ rfl (Nat.le_of_ble_eq_true rfl) dL_isAhead_303 (r_N ?_) r_NX
                    show PX Z 10 S148 0 0 306 [(0, va_rf r0), (1, .int i1), (2, .int v92), (3, .int v93), (6, .int v94), (7, .int v95), (9, .int v96)] [.int v147, .int v141, .int v97]
                    refine x_icmp_ge (t := 313) hC dL_isAhead_306 (by decide) (fun c151 => ?_) (fun c151 => ?_)
                    · replace h := it_t c151 h
                      refine x_iconst (v := (0 : Int32)) hC dL_isAhead_313 (by decide) ?_
                      exact J_314 _ _ _ _ _ _ _ _ h
                    · replace h := it_f c151 h
                      refine x_iconst (v := (1 : Int32)) hC dL_isAhead_309 (by decide) ?_
                      refine x_goto (t := 314) hC dL_isAhead_310 (by decide) ?_
                      exact J_314 _ _ _ _ _ _ _ _ h
                  · refine x_callV hC (st := [.int v141, .int v97]) (mt_X4_setting _ _ _ _ hb152) ea145 ha146 kf_4 q_552 q_553 q_554 q_1 q_555 ⟨rfl, hy_X4_setting⟩ ⟨Nat.le_of_ble_eq_true rfl, Nat.le_of_ble_eq_true rfl⟩ ⟨Nat.le_of_ble_eq_true rfl, Nat.le_of_ble_eq_true rfl⟩ rfl (Nat.le_of_ble_eq_true rfl) dL_isAhead_303 r_X (r_XX ?_)
                    replace h := ir_x h hg_130
                    exact x_out hC hQ hE (z_X (Option.some.inj h)) (Nat.le_of_ble_eq_true rfl) (Nat.le_of_ble_eq_true rfl)
                · refine x_callV hC (st := [.int v97]) (mt_X4_paperOf _ _ _ _ _ hb153) ea135 ha136 kf_4 q_527 q_528 q_529 q_1 q_530 ⟨rfl, hy_X4_paperOf⟩ ⟨Nat.le_of_ble_eq_true rfl, Nat.le_of_ble_eq_true rfl⟩ ⟨Nat.le_of_ble_eq_true rfl, Nat.le_of_ble_eq_true rfl⟩ rfl (Nat.le_of_ble_eq_true rfl) dL_isAhead_295 r_X (r_XX ?_)
                  replace h := ir_x h hg_130
                  exact x_out hC hQ hE (z_X (Option.some.inj h)) (Nat.le_of_ble_eq_true rfl) (Nat.le_of_ble_eq_true rfl)
            · refine x_callV hC (st := [.int v97]) (mt_X4_score _ _ _ _ _ hb154) ea127 ha128 kf_4 q_548 q_549 q_550 q_1 q_551 ⟨rfl, hy_X4_score⟩ ⟨Nat.le_of_ble_eq_true rfl, Nat.le_of_ble_eq_true rfl⟩ ⟨Nat.le_of_ble_eq_true rfl, Nat.le_of_ble_eq_true rfl⟩ rfl (Nat.le_of_ble_eq_true rfl) dL_isAhead_285 r_X (r_XX ?_)
              replace h := ir_x h hg_130
              exact x_out hC hQ hE (z_X (Option.some.inj h)) (Nat.le_of_ble_eq_true rfl) (Nat.le_of_ble_eq_true rfl)
        · refine x_callV hC (st := [.int v97]) (mt_X4_paperOf _ _ _ _ _ hb155) ea100 ha101 kf_4 q_527 q_528 q_529 q_1 q_530 ⟨rfl, hy_X4_paperOf⟩ ⟨Nat.le_of_ble_eq_true rfl, Nat.le_of_ble_eq_true rfl⟩ ⟨Nat.le_of_ble_eq_true rfl, Nat.le_of_ble_eq_true rfl⟩ rfl (Nat.le_of_ble_eq_true rfl) dL_isAhead_275 r_X (r_XX ?_)
          replace h := ir_x h hg_130
          exact x_out hC hQ hE (z_X (Option.some.inj h)) (Nat.le_of_ble_eq_true rfl) (Nat.le_of_ble_eq_true rfl)
      have J_253 : ∀ (v80 : Int32) (v81 : Int32) (v82 : Int32) (v83 : Int32) (v84 : Int32) (v85 : Int32) (S86 : PH), j_L_isAhead_253 r0 i1 v80 v81 v82 v83 v84 v85 S86 = some x_130 → PX Z 10 S86 0 0 253 [(0, va_rf r0), (1, .int i1), (2, .int v80), (3, .int v81), (6, .int v82), (7, .int v83), (8, .int v84)] [.int v85] := by
        intro v80 v81 v82 v83 v84 v85 S86 h
        unfold j_L_isAhead_253 at h
        refine x_istore (i := 9) (l' := [(9, .int v85), (0, va_rf r0), (1, .int i1), (2, .int v80), (3, .int v81), (6, .int v82), (7, .int v83), (8, .int v84)]) hC dL_isAhead_253 (⟨fun _ => c_rf r0, ⟨fun _ => rfl, ⟨fun _ => rfl, ⟨fun _ => rfl, ⟨fun _ => rfl, ⟨fun _ => rfl, ⟨fun _ => rfl, trivial⟩⟩⟩⟩⟩⟩⟩) (by decide) rfl ?_
        refine x_iload (i := 7) hC dL_isAhead_255 6 rfl ?_
        refine x_if_le (t := 347) hC dL_isAhead_257 (by decide) (fun c87 => ?_) (fun c87 => ?_)
        · replace h := it_t c87 h
          refine x_iload_n (i := 3) hC dL_isAhead_347 rfl 4 rfl ?_
          refine x_if_lt (t := 365) hC dL_isAhead_348 (by decide) (fun c88 => ?_) (fun c88 => ?_)
          · replace h := it_t c88 h
            refine x_iconst (v := (0 : Int32)) hC dL_isAhead_365 (by decide) ?_
            refine x_istore (i := 4) (l' := [(4, .int (0 : Int32)), (9, .int v85), (0, va_rf r0), (1, .int i1), (2, .int v80), (3, .int v81), (6, .int v82), (7, .int v83), (8, .int v84)]) hC dL_isAhead_366 (⟨fun _ => rfl, ⟨fun _ => c_rf r0, ⟨fun _ => rfl, ⟨fun _ => rfl, ⟨fun _ => rfl, ⟨fun _ => rfl, ⟨fun _ => rfl, ⟨fun _ => rfl, trivial⟩⟩⟩⟩⟩⟩⟩⟩) (by decide) rfl ?_
            refine x_iinc (i := 6) (v := (v82 + (1 : Int32))) (l' := [(6, .int (v82 + (1 : Int32))), (4, .int (0 : Int32)), (9, .int v85), (0, va_rf r0), (1, .int i1), (2, .int v80), (3, .int v81), (7, .int v83), (8, .int v84)]) hC dL_isAhead_368 6 rfl rfl (⟨fun _ => rfl, ⟨fun _ => rfl, ⟨fun _ => c_rf r0, ⟨fun _ => rfl, ⟨fun _ => rfl, ⟨fun _ => rfl, ⟨fun _ => rfl, ⟨fun _ => rfl, ⟨fun _ => rfl, trivial⟩⟩⟩⟩⟩⟩⟩⟩⟩) (by decide) rfl ?_
            refine x_goto (t := 130) hC dL_isAhead_371 (by decide) ?_
            refine x_sub (l' := [(0, va_rf r0), (1, .int i1), (2, .int v80), (3, .int v81), (4, .int (0 : Int32)), (6, .int (v82 + (1 : Int32)))]) [3, 4, 5, 6, 1, 0] rfl ?_
            have hb := bk_x h hg_130
            exact hb
          · replace h := it_f c88 h
            refine x_iload (i := 8) hC dL_isAhead_351 7 rfl ?_
            refine x_if_ne (t := 365) hC dL_isAhead_353 (by decide) (fun c89 => ?_) (fun c89 => ?_)
            · replace h := it_f c89 h
              refine x_iconst (v := (0 : Int32)) hC dL_isAhead_365 (by decide) ?_
              refine x_istore (i := 4) (l' := [(4, .int (0 : Int32)), (9, .int v85), (0, va_rf r0), (1, .int i1), (2, .int v80), (3, .int v81), (6, .int v82), (7, .int v83), (8, .int v84)]) hC dL_isAhead_366 (⟨fun _ => rfl, ⟨fun _ => c_rf r0, ⟨fun _ => rfl, ⟨fun _ => rfl, ⟨fun _ => rfl, ⟨fun _ => rfl, ⟨fun _ => rfl, ⟨fun _ => rfl, trivial⟩⟩⟩⟩⟩⟩⟩⟩) (by decide) rfl ?_
              refine x_iinc (i := 6) (v := (v82 + (1 : Int32))) (l' := [(6, .int (v82 + (1 : Int32))), (4, .int (0 : Int32)), (9, .int v85), (0, va_rf r0), (1, .int i1), (2, .int v80), (3, .int v81), (7, .int v83), (8, .int v84)]) hC dL_isAhead_368 6 rfl rfl (⟨fun _ => rfl, ⟨fun _ => rfl, ⟨fun _ => c_rf r0, ⟨fun _ => rfl, ⟨fun _ => rfl, ⟨fun _ => rfl, ⟨fun _ => rfl, ⟨fun _ => rfl, ⟨fun _ => rfl, trivial⟩⟩⟩⟩⟩⟩⟩⟩⟩) (by decide) rfl ?_
              refine x_goto (t := 130) hC dL_isAhead_371 (by decide) ?_
              refine x_sub (l' := [(0, va_rf r0), (1, .int i1), (2, .int v80), (3, .int v81), (4, .int (0 : Int32)), (6, .int (v82 + (1 : Int32)))]) [3, 4, 5, 6, 1, 0] rfl ?_
              have hb := bk_x h hg_130
              exact hb
            · replace h := it_t c89 h
              refine x_iload (i := 9) hC dL_isAhead_356 0 rfl ?_
              refine x_if_ne (t := 365) hC dL_isAhead_358 (by decide) (fun c90 => ?_) (fun c90 => ?_)
              · replace h := it_f c90 h
                refine x_iconst (v := (0 : Int32)) hC dL_isAhead_365 (by decide) ?_
                refine x_istore (i := 4) (l' := [(4, .int (0 : Int32)), (9, .int v85), (0, va_rf r0), (1, .int i1), (2, .int v80), (3, .int v81), (6, .int v82), (7, .int v83), (8, .int v84)]) hC dL_isAhead_366 (⟨fun _ => rfl, ⟨fun _ => c_rf r0, ⟨fun _ => rfl, ⟨fun _ => rfl, ⟨fun _ => rfl, ⟨fun _ => rfl, ⟨fun _ => rfl, ⟨fun _ => rfl, trivial⟩⟩⟩⟩⟩⟩⟩⟩) (by decide) rfl ?_
                refine x_iinc (i := 6) (v := (v82 + (1 : Int32))) (l' := [(6, .int (v82 + (1 : Int32))), (4, .int (0 : Int32)), (9, .int v85), (0, va_rf r0), (1, .int i1), (2, .int v80), (3, .int v81), (7, .int v83), (8, .int v84)]) hC dL_isAhead_368 6 rfl rfl (⟨fun _ => rfl, ⟨fun _ => rfl, ⟨fun _ => c_rf r0, ⟨fun _ => rfl, ⟨fun _ => rfl, ⟨fun _ => rfl, ⟨fun _ => rfl, ⟨fun _ => rfl, ⟨fun _ => rfl, trivial⟩⟩⟩⟩⟩⟩⟩⟩⟩) (by decide) rfl ?_
                refine x_goto (t := 130) hC dL_isAhead_371 (by decide) ?_
                refine x_sub (l' := [(0, va_rf r0), (1, .int i1), (2, .int v80), (3, .int v81), (4, .int (0 : Int32)), (6, .int (v82 + (1 : Int32)))]) [3, 4, 5, 6, 1, 0] rfl ?_
                have hb := bk_x h hg_130
                exact hb
              · replace h := it_t c90 h
                refine x_iconst (v := (1 : Int32)) hC dL_isAhead_361 (by decide) ?_
                refine x_goto (t := 366) hC dL_isAhead_362 (by decide) ?_
                refine x_istore (i := 4) (l' := [(4, .int (1 : Int32)), (9, .int v85), (0, va_rf r0), (1, .int i1), (2, .int v80), (3, .int v81), (6, .int v82), (7, .int v83), (8, .int v84)]) hC dL_isAhead_366 (⟨fun _ => rfl, ⟨fun _ => c_rf r0, ⟨fun _ => rfl, ⟨fun _ => rfl, ⟨fun _ => rfl, ⟨fun _ => rfl, ⟨fun _ => rfl, ⟨fun _ => rfl, trivial⟩⟩⟩⟩⟩⟩⟩⟩) (by decide) rfl ?_
                refine x_iinc (i := 6) (v := (v82 + (1 : Int32))) (l' := [(6, .int (v82 + (1 : Int32))), (4, .int (1 : Int32)), (9, .int v85), (0, va_rf r0), (1, .int i1), (2, .int v80), (3, .int v81), (7, .int v83), (8, .int v84)]) hC dL_isAhead_368 6 rfl rfl (⟨fun _ => rfl, ⟨fun _ => rfl, ⟨fun _ => c_rf r0, ⟨fun _ => rfl, ⟨fun _ => rfl, ⟨fun _ => rfl, ⟨fun _ => rfl, ⟨fun _ => rfl, ⟨fun _ => rfl, trivial⟩⟩⟩⟩⟩⟩⟩⟩⟩) (by decide) rfl ?_
                refine x_goto (t := 130) hC dL_isAhead_371 (by decide) ?_
                refine x_sub (l' := [(0, va_rf r0), (1, .int i1), (2, .int v80), (3, .int v81), (4, .int (1 : Int32)), (6, .int (v82 + (1 : Int32)))]) [3, 4, 5, 6, 1, 0] rfl ?_
                have hb := bk_x h hg_130
                exact hb
        · replace h := it_f c87 h
          refine x_iload (i := 7) hC dL_isAhead_260 6 rfl ?_
          refine x_iconst (v := (4 : Int32)) hC dL_isAhead_262 (by decide) ?_
          refine x_icmp_lt (t := 270) hC dL_isAhead_263 (by decide) (fun c91 => ?_) (fun c91 => ?_)
          · replace h := it_t c91 h
            refine x_iconst (v := (0 : Int32)) hC dL_isAhead_270 (by decide) ?_
            refine x_sub (l' := [(0, va_rf r0), (1, .int i1), (2, .int v80), (3, .int v81), (6, .int v82), (7, .int v83), (9, .int v85)]) [1, 2, 3, 4, 5, 6, 0] rfl ?_
            exact J_271 _ _ _ _ _ _ _ h
          · replace h := it_f c91 h
            refine x_iconst (v := (1 : Int32)) hC dL_isAhead_266 (by decide) ?_
            refine x_goto (t := 271) hC dL_isAhead_267 (by decide) ?_
            refine x_sub (l' := [(0, va_rf r0), (1, .int i1), (2, .int v80), (3, .int v81), (6, .int v82), (7, .int v83), (9, .int v85)]) [1, 2, 3, 4, 5, 6, 0] rfl ?_
            exact J_271 _ _ _ _ _ _ _ h
      have J_230 : ∀ (v66 : Int32) (v67 : Int32) (v68 : Int32) (v69 : Int32) (v70 : Int32) (S71 : PH), j_L_isAhead_230 r0 i1 v66 v67 v68 v69 v70 S71 = some x_130 → PX Z 10 S71 0 0 230 [(0, va_rf r0), (1, .int i1), (2, .int v66), (3, .int v67), (6, .int v68), (7, .int v69)] [.int v70] := by
        intro v66 v67 v68 v69 v70 S71 h
        unfold j_L_isAhead_230 at h
        refine x_istore (i := 8) (l' := [(8, .int v70), (0, va_rf r0), (1, .int i1), (2, .int v66), (3, .int v67), (6, .int v68), (7, .int v69)]) hC dL_isAhead_230 (⟨fun _ => c_rf r0, ⟨fun _ => rfl, ⟨fun _ => rfl, ⟨fun _ => rfl, ⟨fun _ => rfl, ⟨fun _ => rfl, trivial⟩⟩⟩⟩⟩⟩) (by decide) rfl ?_
        refine x_aload_n (i := 0) hC dL_isAhead_232 rfl 1 rfl ?_
        refine x_iload (i := 6) hC dL_isAhead_233 5 rfl ?_
        refine x_bipush (v := (8 : Int32)) hC dL_isAhead_235 (by decide) ?_
        replace h := dr_el h
        obtain ⟨a72, ea73, ha74, h⟩ := h
        replace h := bt_el h
        obtain ⟨v75, S76, hb156, h⟩ | ⟨j77, S78, hb156, h⟩ := h
        · refine x_callV hC (st := []) (mtr_X4_personOf _ _ _ _ (v75, S76) hb156) ea73 ha74 kf_4 q_506 q_507 q_508 q_1 q_509 ⟨rfl, hy_X4_personOf⟩ ⟨Nat.le_of_ble_eq_true rfl, Nat.le_of_ble_eq_true rfl⟩ ⟨Nat.le_of_ble_eq_true rfl, Nat.le_of_ble_eq_true rfl⟩ rfl (Nat.le_of_ble_eq_true rfl) dL_isAhead_237 (r_N ?_) r_NX
          show PX Z 10 S76 0 0 240 [(8, .int v70), (0, va_rf r0), (1, .int i1), (2, .int v66), (3, .int v67), (6, .int v68), (7, .int v69)] [.int v75]
          refine x_iload_n (i := 1) hC dL_isAhead_240 rfl 2 rfl ?_
          refine x_ishr hC dL_isAhead_241 ?_
          refine x_iconst (v := (1 : Int32)) hC dL_isAhead_242 (by decide) ?_
          refine x_iand hC dL_isAhead_243 ?_
          refine x_iconst (v := (1 : Int32)) hC dL_isAhead_244 (by decide) ?_
          refine x_icmp_ne (t := 252) hC dL_isAhead_245 (by decide) (fun c79 => ?_) (fun c79 => ?_)
          · replace h := it_f c79 h
            refine x_iconst (v := (0 : Int32)) hC dL_isAhead_252 (by decide) ?_
            refine x_sub (l' := [(0, va_rf r0), (1, .int i1), (2, .int v66), (3, .int v67), (6, .int v68), (7, .int v69), (8, .int v70)]) [1, 2, 3, 4, 5, 6, 0] rfl ?_
            exact J_253 _ _ _ _ _ _ _ h
          · replace h := it_t c79 h
            refine x_iconst (v := (1 : Int32)) hC dL_isAhead_248 (by decide) ?_
            refine x_goto (t := 253) hC dL_isAhead_249 (by decide) ?_
            refine x_sub (l' := [(0, va_rf r0), (1, .int i1), (2, .int v66), (3, .int v67), (6, .int v68), (7, .int v69), (8, .int v70)]) [1, 2, 3, 4, 5, 6, 0] rfl ?_
            exact J_253 _ _ _ _ _ _ _ h
        · refine x_callV hC (st := []) (mt_X4_personOf _ _ _ _ _ hb156) ea73 ha74 kf_4 q_506 q_507 q_508 q_1 q_509 ⟨rfl, hy_X4_personOf⟩ ⟨Nat.le_of_ble_eq_true rfl, Nat.le_of_ble_eq_true rfl⟩ ⟨Nat.le_of_ble_eq_true rfl, Nat.le_of_ble_eq_true rfl⟩ rfl (Nat.le_of_ble_eq_true rfl) dL_isAhead_237 r_X (r_XX ?_)
          replace h := ir_x h hg_130
          exact x_out hC hQ hE (z_X (Option.some.inj h)) (Nat.le_of_ble_eq_true rfl) (Nat.le_of_ble_eq_true rfl)
      unfold st_L_isAhead_130 at h
      refine x_iload (i := 6) hC dL_isAhead_130 5 rfl ?_
      refine x_bipush (v := (8 : Int32)) hC dL_isAhead_132 (by decide) ?_
      refine x_icmp_ge (t := 374) hC dL_isAhead_134 (by decide) (fun c239 => ?_) (fun c239 => ?_)
      · replace h := it_t c239 h
        replace h := ir_x h hg_130
        refine x_sub (l' := [(0, va_rf r0), (1, .int i1), (2, .int v234), (4, .int v236)]) [0, 1, 2, 4] rfl ?_
        exact J_374 _ _ _ h
      · replace h := it_f c239 h
        refine x_iload (i := 4) hC dL_isAhead_137 4 rfl ?_
        refine x_if_eq (t := 374) hC dL_isAhead_139 (by decide) (fun c240 => ?_) (fun c240 => ?_)
        · replace h := it_t c240 h
          replace h := ir_x h hg_130
          refine x_sub (l' := [(0, va_rf r0), (1, .int i1), (2, .int v234), (4, .int v236)]) [0, 1, 2, 4] rfl ?_
          exact J_374 _ _ _ h
        · replace h := it_f c240 h
          refine x_aload_n (i := 0) hC dL_isAhead_142 rfl 0 rfl ?_
          refine x_iload (i := 6) hC dL_isAhead_143 5 rfl ?_
          refine x_iload_n (i := 1) hC dL_isAhead_145 rfl 1 rfl ?_
          replace h := dr_el h
          obtain ⟨a241, ea242, ha243, h⟩ := h
          replace h := bt_el h
          obtain ⟨v244, S245, hb318, h⟩ | ⟨j246, S247, hb318, h⟩ := h
          · refine x_callV hC (st := []) (mtr_X4_whyNot _ _ _ _ (v244, S245) hb318) ea242 ha243 kf_4 q_445 q_446 q_447 q_1 q_448 ⟨rfl, hy_X4_whyNot⟩ ⟨Nat.le_of_ble_eq_true rfl, Nat.le_of_ble_eq_true rfl⟩ ⟨Nat.le_of_ble_eq_true rfl, Nat.le_of_ble_eq_true rfl⟩ rfl (Nat.le_of_ble_eq_true rfl) dL_isAhead_146 (r_N ?_) r_NX
            show PX Z 10 S245 0 0 149 [(0, va_rf r0), (1, .int i1), (2, .int v234), (3, .int v235), (4, .int v236), (6, .int v237)] [.int v244]
            refine x_istore (i := 7) (l' := [(7, .int v244), (0, va_rf r0), (1, .int i1), (2, .int v234), (3, .int v235), (4, .int v236), (6, .int v237)]) hC dL_isAhead_149 (⟨fun _ => c_rf r0, ⟨fun _ => rfl, ⟨fun _ => rfl, ⟨fun _ => rfl, ⟨fun _ => rfl, ⟨fun _ => rfl, trivial⟩⟩⟩⟩⟩⟩) (by decide) rfl ?_
            refine x_iload_n (i := 3) hC dL_isAhead_151 rfl 4 rfl ?_
            refine x_if_lt (t := 229) hC dL_isAhead_152 (by decide) (fun c248 => ?_) (fun c248 => ?_)
            · replace h := it_t c248 h
              refine x_iconst (v := (0 : Int32)) hC dL_isAhead_229 (by decide) ?_
              refine x_sub (l' := [(0, va_rf r0), (1, .int i1), (2, .int v234), (3, .int v235), (6, .int v237), (7, .int v244)]) [1, 2, 3, 4, 6, 0] rfl ?_
              exact J_230 _ _ _ _ _ _ h
            · replace h := it_f c248 h
              refine x_aload_n (i := 0) hC dL_isAhead_155 rfl 1 rfl ?_
              refine x_iload (i := 6) hC dL_isAhead_156 6 rfl ?_
              refine x_iconst (v := (3 : Int32)) hC dL_isAhead_158 (by decide) ?_
              replace h := dr_el h
              obtain ⟨a249, ea250, ha251, h⟩ := h
              replace h := bt_el h
              obtain ⟨v252, S253, hb317, h⟩ | ⟨j254, S255, hb317, h⟩ := h
              · refine x_callV hC (st := []) (mtr_X4_personOf _ _ _ _ (v252, S253) hb317) ea250 ha251 kf_4 q_506 q_507 q_508 q_1 q_509 ⟨rfl, hy_X4_personOf⟩ ⟨Nat.le_of_ble_eq_true rfl, Nat.le_of_ble_eq_true rfl⟩ ⟨Nat.le_of_ble_eq_true rfl, Nat.le_of_ble_eq_true rfl⟩ rfl (Nat.le_of_ble_eq_true rfl) dL_isAhead_159 (r_N ?_) r_NX
                show PX Z 10 S253 0 0 162 [(7, .int v244), (0, va_rf r0), (1, .int i1), (2, .int v234), (3, .int v235), (4, .int v236), (6, .int v237)] [.int v252]
                refine x_aload_n (i := 0) hC dL_isAhead_162 rfl 1 rfl ?_
                refine x_iload_n (i := 3) hC dL_isAhead_163 rfl 4 rfl ?_
                refine x_iconst (v := (3 : Int32)) hC dL_isAhead_164 (by decide) ?_
                replace h := dr_el h
                obtain ⟨a256, ea257, ha258, h⟩ := h
                replace h := bt_el h
                obtain ⟨v259, S260, hb316, h⟩ | ⟨j261, S262, hb316, h⟩ := h
                · refine x_callV hC (st := [.int v252]) (mtr_X4_personOf _ _ _ _ (v259, S260) hb316) ea257 ha258 kf_4 q_506 q_507 q_508 q_1 q_509 ⟨rfl, hy_X4_personOf⟩ ⟨Nat.le_of_ble_eq_true rfl, Nat.le_of_ble_eq_true rfl⟩ ⟨Nat.le_of_ble_eq_true rfl, Nat.le_of_ble_eq_true rfl⟩ rfl (Nat.le_of_ble_eq_true rfl) dL_isAhead_165 (r_N ?_) r_NX
                  show PX Z 10 S260 0 0 168 [(7, .int v244), (0, va_rf r0), (1, .int i1), (2, .int v234), (3, .int v235), (4, .int v236), (6, .int v237)] [.int v259, .int v252]
                  refine x_icmp_lt (t := 225) hC dL_isAhead_168 (by decide) (fun c263 => ?_) (fun c263 => ?_)
                  · replace h := it_t c263 h
                    refine x_iconst (v := (1 : Int32)) hC dL_isAhead_225 (by decide) ?_
                    refine x_goto (t := 230) hC dL_isAhead_226 (by decide) ?_
                    refine x_sub (l' := [(0, va_rf r0), (1, .int i1), (2, .int v234), (3, .int v235), (6, .int v237), (7, .int v244)]) [1, 2, 3, 4, 6, 0] rfl ?_
                    exact J_230 _ _ _ _ _ _ h
                  · replace h := it_f c263 h
                    refine x_aload_n (i := 0) hC dL_isAhead_171 rfl 1 rfl ?_
                    refine x_iload (i := 6) hC dL_isAhead_172 6 rfl ?_
                    refine x_iconst (v := (3 : Int32)) hC dL_isAhead_174 (by decide) ?_
                    replace h := dr_el h
                    obtain ⟨a264, ea265, ha266, h⟩ := h
                    replace h := bt_el h
                    obtain ⟨v267, S268, hb315, h⟩ | ⟨j269, S270, hb315, h⟩ := h
                    · refine x_callV hC (st := []) (mtr_X4_personOf _ _ _ _ (v267, S268) hb315) ea265 ha266 kf_4 q_506 q_507 q_508 q_1 q_509 ⟨rfl, hy_X4_personOf⟩ ⟨Nat.le_of_ble_eq_true rfl, Nat.le_of_ble_eq_true rfl⟩ ⟨Nat.le_of_ble_eq_true rfl, Nat.le_of_ble_eq_true rfl⟩ rfl (Nat.le_of_ble_eq_true rfl) dL_isAhead_175 (r_N ?_) r_NX
                      show PX Z 10 S268 0 0 178 [(7, .int v244), (0, va_rf r0), (1, .int i1), (2, .int v234), (3, .int v235), (4, .int v236), (6, .int v237)] [.int v267]
                      refine x_aload_n (i := 0) hC dL_isAhead_178 rfl 1 rfl ?_
                      refine x_iload_n (i := 3) hC dL_isAhead_179 rfl 4 rfl ?_
                      refine x_iconst (v := (3 : Int32)) hC dL_isAhead_180 (by decide) ?_
                      replace h := dr_el h
                      obtain ⟨a271, ea272, ha273, h⟩ := h
                      replace h := bt_el h
                      obtain ⟨v274, S275, hb314, h⟩ | ⟨j276, S277, hb314, h⟩ := h
                      · refine x_callV hC (st := [.int v267]) (mtr_X4_personOf _ _ _ _ (v274, S275) hb314) ea272 ha273 kf_4 q_506 q_507 q_508 q_1 q_509 ⟨rfl, hy_X4_personOf⟩ ⟨Nat.le_of_ble_eq_true rfl, Nat.le_of_ble_eq_true rfl⟩ ⟨Nat.le_of_ble_eq_true rfl, Nat.le_of_ble_eq_true rfl⟩ rfl (Nat.le_of_ble_eq_true rfl) dL_isAhead_181 (r_N ?_) r_NX
                        show PX Z 10 S275 0 0 184 [(7, .int v244), (0, va_rf r0), (1, .int i1), (2, .int v234), (3, .int v235), (4, .int v236), (6, .int v237)] [.int v274, .int v267]
                        refine x_icmp_ne (t := 229) hC dL_isAhead_184 (by decide) (fun c278 => ?_) (fun c278 => ?_)
                        · replace h := it_f c278 h
                          refine x_iconst (v := (0 : Int32)) hC dL_isAhead_229 (by decide) ?_
                          refine x_sub (l' := [(0, va_rf r0), (1, .int i1), (2, .int v234), (3, .int v235), (6, .int v237), (7, .int v244)]) [1, 2, 3, 4, 6, 0] rfl ?_
                          exact J_230 _ _ _ _ _ _ h
                        · replace h := it_t c278 h
                          refine x_aload_n (i := 0) hC dL_isAhead_187 rfl 1 rfl ?_
                          refine x_iload (i := 6) hC dL_isAhead_188 6 rfl ?_
                          refine x_iconst (v := (0 : Int32)) hC dL_isAhead_190 (by decide) ?_
                          replace h := dr_el h
                          obtain ⟨a279, ea280, ha281, h⟩ := h
                          replace h := bt_el h
                          obtain ⟨v282, S283, hb313, h⟩ | ⟨j284, S285, hb313, h⟩ := h
                          · refine x_callV hC (st := []) (mtr_X4_personOf _ _ _ _ (v282, S283) hb313) ea280 ha281 kf_4 q_506 q_507 q_508 q_1 q_509 ⟨rfl, hy_X4_personOf⟩ ⟨Nat.le_of_ble_eq_true rfl, Nat.le_of_ble_eq_true rfl⟩ ⟨Nat.le_of_ble_eq_true rfl, Nat.le_of_ble_eq_true rfl⟩ rfl (Nat.le_of_ble_eq_true rfl) dL_isAhead_191 (r_N ?_) r_NX
                            show PX Z 10 S283 0 0 194 [(7, .int v244), (0, va_rf r0), (1, .int i1), (2, .int v234), (3, .int v235), (4, .int v236), (6, .int v237)] [.int v282]
                            refine x_aload_n (i := 0) hC dL_isAhead_194 rfl 1 rfl ?_
                            refine x_iload_n (i := 3) hC dL_isAhead_195 rfl 4 rfl ?_
                            refine x_iconst (v := (0 : Int32)) hC dL_isAhead_196 (by decide) ?_
                            replace h := dr_el h
                            obtain ⟨a286, ea287, ha288, h⟩ := h
                            replace h := bt_el h
                            obtain ⟨v289, S290, hb312, h⟩ | ⟨j291, S292, hb312, h⟩ := h
                            · refine x_callV hC (st := [.int v282]) (mtr_X4_personOf _ _ _ _ (v289, S290) hb312) ea287 ha288 kf_4 q_506 q_507 q_508 q_1 q_509 ⟨rfl, hy_X4_personOf⟩ ⟨Nat.le_of_ble_eq_true rfl, Nat.le_of_ble_eq_true rfl⟩ ⟨Nat.le_of_ble_eq_true rfl, Nat.le_of_ble_eq_true rfl⟩ rfl (Nat.le_of_ble_eq_true rfl) dL_isAhead_197 (r_N ?_) r_NX
                              show PX Z 10 S290 0 0 200 [(7, .int v244), (0, va_rf r0), (1, .int i1), (2, .int v234), (3, .int v235), (4, .int v236), (6, .int v237)] [.int v289, .int v282]
                              refine x_icmp_gt (t := 225) hC dL_isAhead_200 (by decide) (fun c293 => ?_) (fun c293 => ?_)
                              · replace h := it_t c293 h
                                refine x_iconst (v := (1 : Int32)) hC dL_isAhead_225 (by decide) ?_
                                refine x_goto (t := 230) hC dL_isAhead_226 (by decide) ?_
                                refine x_sub (l' := [(0, va_rf r0), (1, .int i1), (2, .int v234), (3, .int v235), (6, .int v237), (7, .int v244)]) [1, 2, 3, 4, 6, 0] rfl ?_
                                exact J_230 _ _ _ _ _ _ h
                              · replace h := it_f c293 h
                                refine x_aload_n (i := 0) hC dL_isAhead_203 rfl 1 rfl ?_
                                refine x_iload (i := 6) hC dL_isAhead_204 6 rfl ?_
                                refine x_iconst (v := (0 : Int32)) hC dL_isAhead_206 (by decide) ?_
                                replace h := dr_el h
                                obtain ⟨a294, ea295, ha296, h⟩ := h
                                replace h := bt_el h
                                obtain ⟨v297, S298, hb311, h⟩ | ⟨j299, S300, hb311, h⟩ := h
                                · refine x_callV hC (st := []) (mtr_X4_personOf _ _ _ _ (v297, S298) hb311) ea295 ha296 kf_4 q_506 q_507 q_508 q_1 q_509 ⟨rfl, hy_X4_personOf⟩ ⟨Nat.le_of_ble_eq_true rfl, Nat.le_of_ble_eq_true rfl⟩ ⟨Nat.le_of_ble_eq_true rfl, Nat.le_of_ble_eq_true rfl⟩ rfl (Nat.le_of_ble_eq_true rfl) dL_isAhead_207 (r_N ?_) r_NX
                                  show PX Z 10 S298 0 0 210 [(7, .int v244), (0, va_rf r0), (1, .int i1), (2, .int v234), (3, .int v235), (4, .int v236), (6, .int v237)] [.int v297]
                                  refine x_aload_n (i := 0) hC dL_isAhead_210 rfl 1 rfl ?_
                                  refine x_iload_n (i := 3) hC dL_isAhead_211 rfl 4 rfl ?_
                                  refine x_iconst (v := (0 : Int32)) hC dL_isAhead_212 (by decide) ?_
                                  replace h := dr_el h
                                  obtain ⟨a301, ea302, ha303, h⟩ := h
                                  replace h := bt_el h
                                  obtain ⟨v304, S305, hb310, h⟩ | ⟨j306, S307, hb310, h⟩ := h
                                  · refine x_callV hC (st := [.int v297]) (mtr_X4_personOf _ _ _ _ (v304, S305) hb310) ea302 ha303 kf_4 q_506 q_507 q_508 q_1 q_509 ⟨rfl, hy_X4_personOf⟩ ⟨Nat.le_of_ble_eq_true rfl, Nat.le_of_ble_eq_true rfl⟩ ⟨Nat.le_of_ble_eq_true rfl, Nat.le_of_ble_eq_true rfl⟩ rfl (Nat.le_of_ble_eq_true rfl) dL_isAhead_213 (r_N ?_) r_NX
                                    show PX Z 10 S305 0 0 216 [(7, .int v244), (0, va_rf r0), (1, .int i1), (2, .int v234), (3, .int v235), (4, .int v236), (6, .int v237)] [.int v304, .int v297]
                                    refine x_icmp_ne (t := 229) hC dL_isAhead_216 (by decide) (fun c308 => ?_) (fun c308 => ?_)
                                    · replace h := it_f c308 h
                                      refine x_iconst (v := (0 : Int32)) hC dL_isAhead_229 (by decide) ?_
                                      refine x_sub (l' := [(0, va_rf r0), (1, .int i1), (2, .int v234), (3, .int v235), (6, .int v237), (7, .int v244)]) [1, 2, 3, 4, 6, 0] rfl ?_
                                      exact J_230 _ _ _ _ _ _ h
                                    · replace h := it_t c308 h
                                      refine x_iload (i := 6) hC dL_isAhead_219 6 rfl ?_
                                      refine x_iload_n (i := 3) hC dL_isAhead_221 rfl 4 rfl ?_
                                      refine x_icmp_ge (t := 229) hC dL_isAhead_222 (by decide) (fun c309 => ?_) (fun c309 => ?_)
                                      · replace h := it_t c309 h
                                        refine x_iconst (v := (0 : Int32)) hC dL_isAhead_229 (by decide) ?_
                                        refine x_sub (l' := [(0, va_rf r0), (1, .int i1), (2, .int v234), (3, .int v235), (6, .int v237), (7, .int v244)]) [1, 2, 3, 4, 6, 0] rfl ?_
                                        exact J_230 _ _ _ _ _ _ h
                                      · replace h := it_f c309 h
                                        refine x_iconst (v := (1 : Int32)) hC dL_isAhead_225 (by decide) ?_
                                        refine x_goto (t := 230) hC dL_isAhead_226 (by decide) ?_
                                        refine x_sub (l' := [(0, va_rf r0), (1, .int i1), (2, .int v234), (3, .int v235), (6, .int v237), (7, .int v244)]) [1, 2, 3, 4, 6, 0] rfl ?_
                                        exact J_230 _ _ _ _ _ _ h
                                  · refine x_callV hC (st := [.int v297]) (mt_X4_personOf _ _ _ _ _ hb310) ea302 ha303 kf_4 q_506 q_507 q_508 q_1 q_509 ⟨rfl, hy_X4_personOf⟩ ⟨Nat.le_of_ble_eq_true rfl, Nat.le_of_ble_eq_true rfl⟩ ⟨Nat.le_of_ble_eq_true rfl, Nat.le_of_ble_eq_true rfl⟩ rfl (Nat.le_of_ble_eq_true rfl) dL_isAhead_213 r_X (r_XX ?_)
                                    replace h := ir_x h hg_130
                                    exact x_out hC hQ hE (z_X (Option.some.inj h)) (Nat.le_of_ble_eq_true rfl) (Nat.le_of_ble_eq_true rfl)
                                · refine x_callV hC (st := []) (mt_X4_personOf _ _ _ _ _ hb311) ea295 ha296 kf_4 q_506 q_507 q_508 q_1 q_509 ⟨rfl, hy_X4_personOf⟩ ⟨Nat.le_of_ble_eq_true rfl, Nat.le_of_ble_eq_true rfl⟩ ⟨Nat.le_of_ble_eq_true rfl, Nat.le_of_ble_eq_true rfl⟩ rfl (Nat.le_of_ble_eq_true rfl) dL_isAhead_207 r_X (r_XX ?_)
                                  replace h := ir_x h hg_130
                                  exact x_out hC hQ hE (z_X (Option.some.inj h)) (Nat.le_of_ble_eq_true rfl) (Nat.le_of_ble_eq_true rfl)
                            · refine x_callV hC (st := [.int v282]) (mt_X4_personOf _ _ _ _ _ hb312) ea287 ha288 kf_4 q_506 q_507 q_508 q_1 q_509 ⟨rfl, hy_X4_personOf⟩ ⟨Nat.le_of_ble_eq_true rfl, Nat.le_of_ble_eq_true rfl⟩ ⟨Nat.le_of_ble_eq_true rfl, Nat.le_of_ble_eq_true rfl⟩ rfl (Nat.le_of_ble_eq_true rfl) dL_isAhead_197 r_X (r_XX ?_)
                              replace h := ir_x h hg_130
                              exact x_out hC hQ hE (z_X (Option.some.inj h)) (Nat.le_of_ble_eq_true rfl) (Nat.le_of_ble_eq_true rfl)
                          · refine x_callV hC (st := []) (mt_X4_personOf _ _ _ _ _ hb313) ea280 ha281 kf_4 q_506 q_507 q_508 q_1 q_509 ⟨rfl, hy_X4_personOf⟩ ⟨Nat.le_of_ble_eq_true rfl, Nat.le_of_ble_eq_true rfl⟩ ⟨Nat.le_of_ble_eq_true rfl, Nat.le_of_ble_eq_true rfl⟩ rfl (Nat.le_of_ble_eq_true rfl) dL_isAhead_191 r_X (r_XX ?_)
                            replace h := ir_x h hg_130
                            exact x_out hC hQ hE (z_X (Option.some.inj h)) (Nat.le_of_ble_eq_true rfl) (Nat.le_of_ble_eq_true rfl)
                      · refine x_callV hC (st := [.int v267]) (mt_X4_personOf _ _ _ _ _ hb314) ea272 ha273 kf_4 q_506 q_507 q_508 q_1 q_509 ⟨rfl, hy_X4_personOf⟩ ⟨Nat.le_of_ble_eq_true rfl, Nat.le_of_ble_eq_true rfl⟩ ⟨Nat.le_of_ble_eq_true rfl, Nat.le_of_ble_eq_true rfl⟩ rfl (Nat.le_of_ble_eq_true rfl) dL_isAhead_181 r_X (r_XX ?_)
                        replace h := ir_x h hg_130
                        exact x_out hC hQ hE (z_X (Option.some.inj h)) (Nat.le_of_ble_eq_true rfl) (Nat.le_of_ble_eq_true rfl)
                    · refine x_callV hC (st := []) (mt_X4_personOf _ _ _ _ _ hb315) ea265 ha266 kf_4 q_506 q_507 q_508 q_1 q_509 ⟨rfl, hy_X4_personOf⟩ ⟨Nat.le_of_ble_eq_true rfl, Nat.le_of_ble_eq_true rfl⟩ ⟨Nat.le_of_ble_eq_true rfl, Nat.le_of_ble_eq_true rfl⟩ rfl (Nat.le_of_ble_eq_true rfl) dL_isAhead_175 r_X (r_XX ?_)
                      replace h := ir_x h hg_130
                      exact x_out hC hQ hE (z_X (Option.some.inj h)) (Nat.le_of_ble_eq_true rfl) (Nat.le_of_ble_eq_true rfl)
                · refine x_callV hC (st := [.int v252]) (mt_X4_personOf _ _ _ _ _ hb316) ea257 ha258 kf_4 q_506 q_507 q_508 q_1 q_509 ⟨rfl, hy_X4_personOf⟩ ⟨Nat.le_of_ble_eq_true rfl, Nat.le_of_ble_eq_true rfl⟩ ⟨Nat.le_of_ble_eq_true rfl, Nat.le_of_ble_eq_true rfl⟩ rfl (Nat.le_of_ble_eq_true rfl) dL_isAhead_165 r_X (r_XX ?_)
                  replace h := ir_x h hg_130
                  exact x_out hC hQ hE (z_X (Option.some.inj h)) (Nat.le_of_ble_eq_true rfl) (Nat.le_of_ble_eq_true rfl)
              · refine x_callV hC (st := []) (mt_X4_personOf _ _ _ _ _ hb317) ea250 ha251 kf_4 q_506 q_507 q_508 q_1 q_509 ⟨rfl, hy_X4_personOf⟩ ⟨Nat.le_of_ble_eq_true rfl, Nat.le_of_ble_eq_true rfl⟩ ⟨Nat.le_of_ble_eq_true rfl, Nat.le_of_ble_eq_true rfl⟩ rfl (Nat.le_of_ble_eq_true rfl) dL_isAhead_159 r_X (r_XX ?_)
                replace h := ir_x h hg_130
                exact x_out hC hQ hE (z_X (Option.some.inj h)) (Nat.le_of_ble_eq_true rfl) (Nat.le_of_ble_eq_true rfl)
          · refine x_callV hC (st := []) (mt_X4_whyNot _ _ _ _ _ hb318) ea242 ha243 kf_4 q_445 q_446 q_447 q_1 q_448 ⟨rfl, hy_X4_whyNot⟩ ⟨Nat.le_of_ble_eq_true rfl, Nat.le_of_ble_eq_true rfl⟩ ⟨Nat.le_of_ble_eq_true rfl, Nat.le_of_ble_eq_true rfl⟩ rfl (Nat.le_of_ble_eq_true rfl) dL_isAhead_146 r_X (r_XX ?_)
            replace h := ir_x h hg_130
            exact x_out hC hQ hE (z_X (Option.some.inj h)) (Nat.le_of_ble_eq_true rfl) (Nat.le_of_ble_eq_true rfl)
    · replace h := it_t c233 h
      refine x_iconst (v := (1 : Int32)) hC dL_isAhead_120 (by decide) ?_
      refine x_goto (t := 125) hC dL_isAhead_121 (by decide) ?_
      refine x_istore (i := 4) (l' := [(4, .int (1 : Int32)), (0, va_rf r0), (1, .int i1), (2, .int v228), (3, .int v229)]) hC dL_isAhead_125 (⟨fun _ => c_rf r0, ⟨fun _ => rfl, ⟨fun _ => rfl, ⟨fun _ => rfl, trivial⟩⟩⟩⟩) (by decide) rfl ?_
      refine x_iconst (v := (0 : Int32)) hC dL_isAhead_127 (by decide) ?_
      refine x_istore (i := 6) (l' := [(6, .int (0 : Int32)), (4, .int (1 : Int32)), (0, va_rf r0), (1, .int i1), (2, .int v228), (3, .int v229)]) hC dL_isAhead_128 (⟨fun _ => rfl, ⟨fun _ => c_rf r0, ⟨fun _ => rfl, ⟨fun _ => rfl, ⟨fun _ => rfl, trivial⟩⟩⟩⟩⟩) (by decide) rfl ?_
      refine x_sub (l' := [(0, va_rf r0), (1, .int i1), (2, .int v228), (3, .int v229), (4, .int (1 : Int32)), (6, .int (0 : Int32))]) [2, 3, 4, 5, 1, 0] rfl ?_
      refine lp_sim (P := fun (t : (Int32 × Int32 × Int32 × Int32 × PH)) => PX Z 10 t.2.2.2.2 0 0 130 [(0, va_rf r0), (1, .int i1), (2, .int t.1), (3, .int t.2.1), (4, .int t.2.2.1), (6, .int t.2.2.2.1)] []) (G := fun r => r = y) ?_ h rfl
      clear h
      intro t x_130 h hg_130
      obtain ⟨v319, v320, v321, v322, S323⟩ := t
      show PX Z 10 S323 0 0 130 [(0, va_rf r0), (1, .int i1), (2, .int v319), (3, .int v320), (4, .int v321), (6, .int v322)] []
      have J_328 : ∀ (v117 : Int32) (v118 : Int32) (v119 : Int32) (v120 : Int32) (v121 : Int32) (S122 : PH), j_L_isAhead_328 r0 i1 v117 v118 v119 v120 v121 S122 = some x_130 → PX Z 10 S122 0 0 328 [(0, va_rf r0), (1, .int i1), (2, .int v117), (3, .int v118), (6, .int v119), (7, .int v120), (9, .int v121)] [] := by
        intro v117 v118 v119 v120 v121 S122 h
        unfold j_L_isAhead_328 at h
        refine x_iload (i := 7) hC dL_isAhead_328 5 rfl ?_
        refine x_iconst (v := (5 : Int32)) hC dL_isAhead_330 (by decide) ?_
        refine x_icmp_lt (t := 339) hC dL_isAhead_331 (by decide) (fun c123 => ?_) (fun c123 => ?_)
        · replace h := it_t c123 h
          refine x_iconst (v := (1 : Int32)) hC dL_isAhead_339 (by decide) ?_
          refine x_goto (t := 366) hC dL_isAhead_340 (by decide) ?_
          refine x_istore (i := 4) (l' := [(4, .int (1 : Int32)), (0, va_rf r0), (1, .int i1), (2, .int v117), (3, .int v118), (6, .int v119), (7, .int v120), (9, .int v121)]) hC dL_isAhead_366 (⟨fun _ => c_rf r0, ⟨fun _ => rfl, ⟨fun _ => rfl, ⟨fun _ => rfl, ⟨fun _ => rfl, ⟨fun _ => rfl, ⟨fun _ => rfl, trivial⟩⟩⟩⟩⟩⟩⟩) (by decide) rfl ?_
          refine x_iinc (i := 6) (v := (v119 + (1 : Int32))) (l' := [(6, .int (v119 + (1 : Int32))), (4, .int (1 : Int32)), (0, va_rf r0), (1, .int i1), (2, .int v117), (3, .int v118), (7, .int v120), (9, .int v121)]) hC dL_isAhead_368 5 rfl rfl (⟨fun _ => rfl, ⟨fun _ => c_rf r0, ⟨fun _ => rfl, ⟨fun _ => rfl, ⟨fun _ => rfl, ⟨fun _ => rfl, ⟨fun _ => rfl, ⟨fun _ => rfl, trivial⟩⟩⟩⟩⟩⟩⟩⟩) (by decide) rfl ?_
          refine x_goto (t := 130) hC dL_isAhead_371 (by decide) ?_
          refine x_sub (l' := [(0, va_rf r0), (1, .int i1), (2, .int v117), (3, .int v118), (4, .int (1 : Int32)), (6, .int (v119 + (1 : Int32)))]) [2, 3, 4, 5, 1, 0] rfl ?_
          have hb := bk_x h hg_130
          exact hb
        · replace h := it_f c123 h
          refine x_iload (i := 9) hC dL_isAhead_334 6 rfl ?_
          refine x_if_ne (t := 343) hC dL_isAhead_336 (by decide) (fun c124 => ?_) (fun c124 => ?_)
          · replace h := it_f c124 h
            refine x_iconst (v := (0 : Int32)) hC dL_isAhead_343 (by decide) ?_
            refine x_goto (t := 366) hC dL_isAhead_344 (by decide) ?_
            refine x_istore (i := 4) (l' := [(4, .int (0 : Int32)), (0, va_rf r0), (1, .int i1), (2, .int v117), (3, .int v118), (6, .int v119), (7, .int v120), (9, .int v121)]) hC dL_isAhead_366 (⟨fun _ => c_rf r0, ⟨fun _ => rfl, ⟨fun _ => rfl, ⟨fun _ => rfl, ⟨fun _ => rfl, ⟨fun _ => rfl, ⟨fun _ => rfl, trivial⟩⟩⟩⟩⟩⟩⟩) (by decide) rfl ?_
            refine x_iinc (i := 6) (v := (v119 + (1 : Int32))) (l' := [(6, .int (v119 + (1 : Int32))), (4, .int (0 : Int32)), (0, va_rf r0), (1, .int i1), (2, .int v117), (3, .int v118), (7, .int v120), (9, .int v121)]) hC dL_isAhead_368 5 rfl rfl (⟨fun _ => rfl, ⟨fun _ => c_rf r0, ⟨fun _ => rfl, ⟨fun _ => rfl, ⟨fun _ => rfl, ⟨fun _ => rfl, ⟨fun _ => rfl, ⟨fun _ => rfl, trivial⟩⟩⟩⟩⟩⟩⟩⟩) (by decide) rfl ?_
            refine x_goto (t := 130) hC dL_isAhead_371 (by decide) ?_
            refine x_sub (l' := [(0, va_rf r0), (1, .int i1), (2, .int v117), (3, .int v118), (4, .int (0 : Int32)), (6, .int (v119 + (1 : Int32)))]) [2, 3, 4, 5, 1, 0] rfl ?_
            have hb := bk_x h hg_130
            exact hb
          · replace h := it_t c124 h
            refine x_iconst (v := (1 : Int32)) hC dL_isAhead_339 (by decide) ?_
            refine x_goto (t := 366) hC dL_isAhead_340 (by decide) ?_
            refine x_istore (i := 4) (l' := [(4, .int (1 : Int32)), (0, va_rf r0), (1, .int i1), (2, .int v117), (3, .int v118), (6, .int v119), (7, .int v120), (9, .int v121)]) hC dL_isAhead_366 (⟨fun _ => c_rf r0, ⟨fun _ => rfl, ⟨fun _ => rfl, ⟨fun _ => rfl, ⟨fun _ => rfl, ⟨fun _ => rfl, ⟨fun _ => rfl, trivial⟩⟩⟩⟩⟩⟩⟩) (by decide) rfl ?_
            refine x_iinc (i := 6) (v := (v119 + (1 : Int32))) (l' := [(6, .int (v119 + (1 : Int32))), (4, .int (1 : Int32)), (0, va_rf r0), (1, .int i1), (2, .int v117), (3, .int v118), (7, .int v120), (9, .int v121)]) hC dL_isAhead_368 5 rfl rfl (⟨fun _ => rfl, ⟨fun _ => c_rf r0, ⟨fun _ => rfl, ⟨fun _ => rfl, ⟨fun _ => rfl, ⟨fun _ => rfl, ⟨fun _ => rfl, ⟨fun _ => rfl, trivial⟩⟩⟩⟩⟩⟩⟩⟩) (by decide) rfl ?_
            refine x_goto (t := 130) hC dL_isAhead_371 (by decide) ?_
            refine x_sub (l' := [(0, va_rf r0), (1, .int i1), (2, .int v117), (3, .int v118), (4, .int (1 : Int32)), (6, .int (v119 + (1 : Int32)))]) [2, 3, 4, 5, 1, 0] rfl ?_
            have hb := bk_x h hg_130
            exact hb
      have J_314 : ∀ (v107 : Int32) (v108 : Int32) (v109 : Int32) (v110 : Int32) (v111 : Int32) (v112 : Int32) (v113 : Int32) (S114 : PH), j_L_isAhead_314 r0 i1 v107 v108 v109 v110 v111 v112 v113 S114 = some x_130 → PX Z 10 S114 0 0 314 [(0, va_rf r0), (1, .int i1), (2, .int v107), (3, .int v108), (6, .int v109), (7, .int v110), (9, .int v111)] [.int v113, .int v112] := by
        intro v107 v108 v109 v110 v111 v112 v113 S114 h
        unfold j_L_isAhead_314 at h
        refine x_icmp_ne (t := 343) hC dL_isAhead_314 (by decide) (fun c115 => ?_) (fun c115 => ?_)
        · replace h := it_f c115 h
          refine x_iconst (v := (0 : Int32)) hC dL_isAhead_343 (by decide) ?_
          refine x_goto (t := 366) hC dL_isAhead_344 (by decide) ?_
          refine x_istore (i := 4) (l' := [(4, .int (0 : Int32)), (0, va_rf r0), (1, .int i1), (2, .int v107), (3, .int v108), (6, .int v109), (7, .int v110), (9, .int v111)]) hC dL_isAhead_366 (⟨fun _ => c_rf r0, ⟨fun _ => rfl, ⟨fun _ => rfl, ⟨fun _ => rfl, ⟨fun _ => rfl, ⟨fun _ => rfl, ⟨fun _ => rfl, trivial⟩⟩⟩⟩⟩⟩⟩) (by decide) rfl ?_
          refine x_iinc (i := 6) (v := (v109 + (1 : Int32))) (l' := [(6, .int (v109 + (1 : Int32))), (4, .int (0 : Int32)), (0, va_rf r0), (1, .int i1), (2, .int v107), (3, .int v108), (7, .int v110), (9, .int v111)]) hC dL_isAhead_368 5 rfl rfl (⟨fun _ => rfl, ⟨fun _ => c_rf r0, ⟨fun _ => rfl, ⟨fun _ => rfl, ⟨fun _ => rfl, ⟨fun _ => rfl, ⟨fun _ => rfl, ⟨fun _ => rfl, trivial⟩⟩⟩⟩⟩⟩⟩⟩) (by decide) rfl ?_
          refine x_goto (t := 130) hC dL_isAhead_371 (by decide) ?_
          refine x_sub (l' := [(0, va_rf r0), (1, .int i1), (2, .int v107), (3, .int v108), (4, .int (0 : Int32)), (6, .int (v109 + (1 : Int32)))]) [2, 3, 4, 5, 1, 0] rfl ?_
          have hb := bk_x h hg_130
          exact hb
        · replace h := it_t c115 h
          refine x_iload (i := 7) hC dL_isAhead_317 5 rfl ?_
          refine x_iconst (v := (4 : Int32)) hC dL_isAhead_319 (by decide) ?_
          refine x_icmp_ne (t := 328) hC dL_isAhead_320 (by decide) (fun c116 => ?_) (fun c116 => ?_)
          · replace h := it_f c116 h
            exact J_328 _ _ _ _ _ _ h
          · replace h := it_t c116 h
            refine x_iload (i := 9) hC dL_isAhead_323 6 rfl ?_
            refine x_if_eq (t := 343) hC dL_isAhead_325 (by decide) (fun c125 => ?_) (fun c125 => ?_)
            · replace h := it_t c125 h
              refine x_iconst (v := (0 : Int32)) hC dL_isAhead_343 (by decide) ?_
              refine x_goto (t := 366) hC dL_isAhead_344 (by decide) ?_
              refine x_istore (i := 4) (l' := [(4, .int (0 : Int32)), (0, va_rf r0), (1, .int i1), (2, .int v107), (3, .int v108), (6, .int v109), (7, .int v110), (9, .int v111)]) hC dL_isAhead_366 (⟨fun _ => c_rf r0, ⟨fun _ => rfl, ⟨fun _ => rfl, ⟨fun _ => rfl, ⟨fun _ => rfl, ⟨fun _ => rfl, ⟨fun _ => rfl, trivial⟩⟩⟩⟩⟩⟩⟩) (by decide) rfl ?_
              refine x_iinc (i := 6) (v := (v109 + (1 : Int32))) (l' := [(6, .int (v109 + (1 : Int32))), (4, .int (0 : Int32)), (0, va_rf r0), (1, .int i1), (2, .int v107), (3, .int v108), (7, .int v110), (9, .int v111)]) hC dL_isAhead_368 5 rfl rfl (⟨fun _ => rfl, ⟨fun _ => c_rf r0, ⟨fun _ => rfl, ⟨fun _ => rfl, ⟨fun _ => rfl, ⟨fun _ => rfl, ⟨fun _ => rfl, ⟨fun _ => rfl, trivial⟩⟩⟩⟩⟩⟩⟩⟩) (by decide) rfl ?_
              refine x_goto (t := 130) hC dL_isAhead_371 (by decide) ?_
              refine x_sub (l' := [(0, va_rf r0), (1, .int i1), (2, .int v107), (3, .int v108), (4, .int (0 : Int32)), (6, .int (v109 + (1 : Int32)))]) [2, 3, 4, 5, 1, 0] rfl ?_
              have hb := bk_x h hg_130
              exact hb
            · replace h := it_f c125 h
              exact J_328 _ _ _ _ _ _ h
      have J_271 : ∀ (v92 : Int32) (v93 : Int32) (v94 : Int32) (v95 : Int32) (v96 : Int32) (v97 : Int32) (S98 : PH), j_L_isAhead_271 r0 i1 v92 v93 v94 v95 v96 v97 S98 = some x_130 → PX Z 10 S98 0 0 271 [(0, va_rf r0), (1, .int i1), (2, .int v92), (3, .int v93), (6, .int v94), (7, .int v95), (9, .int v96)] [.int v97] := by
        intro v92 v93 v94 v95 v96 v97 S98 h
        unfold j_L_isAhead_271 at h
        refine x_aload_n (i := 0) hC dL_isAhead_271 rfl 0 rfl ?_
        refine x_iload_n (i := 1) hC dL_isAhead_272 rfl 1 rfl ?_
        refine x_bipush (v := (8 : Int32)) hC dL_isAhead_273 (by decide) ?_
        replace h := dr_el h
        obtain ⟨a99, ea100, ha101, h⟩ := h
        replace h := bt_el h
        obtain ⟨v102, S103, hb155, h⟩ | ⟨j104, S105, hb155, h⟩ := h
        · refine x_callV hC (st := [.int v97]) (mtr_X4_paperOf _ _ _ _ (v102, S103) hb155) ea100 ha101 kf_4 q_527 q_528 q_529 q_1 q_530 ⟨rfl, hy_X4_paperOf⟩ ⟨Nat.le_of_ble_eq_true rfl, Nat.le_of_ble_eq_true rfl⟩ ⟨Nat.le_of_ble_eq_true rfl, Nat.le_of_ble_eq_true rfl⟩ rfl (Nat.le_of_ble_eq_true rfl) dL_isAhead_275 (r_N ?_) r_NX
          show PX Z 10 S103 0 0 278 [(0, va_rf r0), (1, .int i1), (2, .int v92), (3, .int v93), (6, .int v94), (7, .int v95), (9, .int v96)] [.int v102, .int v97]
          refine x_if_ne (t := 313) hC dL_isAhead_278 (by decide) (fun c106 => ?_) (fun c106 => ?_)
          · replace h := it_f c106 h
            refine x_iconst (v := (0 : Int32)) hC dL_isAhead_313 (by decide) ?_
            exact J_314 _ _ _ _ _ _ _ _ h
          · replace h := it_t c106 h
            refine x_aload_n (i := 0) hC dL_isAhead_281 rfl 0 rfl ?_
            refine x_iload (i := 6) hC dL_isAhead_282 4 rfl ?_
            refine x_iload_n (i := 1) hC dL_isAhead_284 rfl 1 rfl ?_
            replace h := dr_el h
            obtain ⟨a126, ea127, ha128, h⟩ := h
            replace h := bt_el h
            obtain ⟨v129, S130, hb154, h⟩ | ⟨j131, S132, hb154, h⟩ := h
            · refine x_callV hC (st := [.int v97]) (mtr_X4_score _ _ _ _ (v129, S130) hb154) ea127 ha128 kf_4 q_548 q_549 q_550 q_1 q_551 ⟨rfl, hy_X4_score⟩ ⟨Nat.le_of_ble_eq_true rfl, Nat.le_of_ble_eq_true rfl⟩ ⟨Nat.le_of_ble_eq_true rfl, Nat.le_of_ble_eq_true rfl⟩ rfl (Nat.le_of_ble_eq_true rfl) dL_isAhead_285 (r_N ?_) r_NX
              show PX Z 10 S130 0 0 288 [(0, va_rf r0), (1, .int i1), (2, .int v92), (3, .int v93), (6, .int v94), (7, .int v95), (9, .int v96)] [.int v129, .int v97]
              refine x_iconst (v := (-1 : Int32)) hC dL_isAhead_288 (by decide) ?_
              refine x_icmp_ne (t := 313) hC dL_isAhead_289 (by decide) (fun c133 => ?_) (fun c133 => ?_)
              · replace h := it_f c133 h
                refine x_iconst (v := (0 : Int32)) hC dL_isAhead_313 (by decide) ?_
                exact J_314 _ _ _ _ _ _ _ _ h
              · replace h := it_t c133 h
                refine x_aload_n (i := 0) hC dL_isAhead_292 rfl 0 rfl ?_
                refine x_iload_n (i := 1) hC dL_isAhead_293 rfl 1 rfl ?_
                refine x_iconst (v := (2 : Int32)) hC dL_isAhead_294 (by decide) ?_
                replace h := dr_el h
                obtain ⟨a134, ea135, ha136, h⟩ := h
                replace h := bt_el h
                obtain ⟨v137, S138, hb153, h⟩ | ⟨j139, S140, hb153, h⟩ := h
                · refine x_callV hC (st := [.int v97]) (mtr_X4_paperOf _ _ _ _ (v137, S138) hb153) ea135 ha136 kf_4 q_527 q_528 q_529 q_1 q_530 ⟨rfl, hy_X4_paperOf⟩ ⟨Nat.le_of_ble_eq_true rfl, Nat.le_of_ble_eq_true rfl⟩ ⟨Nat.le_of_ble_eq_true rfl, Nat.le_of_ble_eq_true rfl⟩ rfl (Nat.le_of_ble_eq_true rfl) dL_isAhead_295 (r_N ?_) r_NX
                  show PX Z 10 S138 0 0 298 [(0, va_rf r0), (1, .int i1), (2, .int v92), (3, .int v93), (6, .int v94), (7, .int v95), (9, .int v96)] [.int v137, .int v97]
                  replace h := bd_el h
                  obtain ⟨v141, S142, hb143, h⟩ := h
                  refine x_callS hC (st := [.int v97]) (mt_L_bits _ _ _ hb143) q_656 q_657 q_0 q_658 hy_L_bits ⟨Nat.le_of_ble_eq_true rfl, Nat.le_of_ble_eq_true rfl⟩ ⟨Nat.le_of_ble_eq_true rfl, Nat.le_of_ble_eq_true rfl⟩ rfl (Nat.le_of_ble_eq_true rfl) dL_isAhead_298 (r_N ?_) r_NX
                  show PX Z 10 S142 0 0 301 [(0, va_rf r0), (1, .int i1), (2, .int v92), (3, .int v93), (6, .int v94), (7, .int v95), (9, .int v96)] [.int v141, .int v97]
                  refine x_aload_n (i := 0) hC dL_isAhead_301 rfl 0 rfl ?_
                  refine x_iconst (v := (0 : Int32)) hC dL_isAhead_302 (by decide) ?_
                  replace h := dr_el h
                  obtain ⟨a144, ea145, ha146, h⟩ := h
                  replace h := bt_el h
                  obtain ⟨v147, S148, hb152, h⟩ | ⟨j149, S150, hb152, h⟩ := h
                  · refine x_callV hC (st := [.int v141, .int v97]) (mtr_X4_setting _ _ _ (v147, S148) hb152) ea145 ha146 kf_4 q_552 q_553 q_554 q_1 q_555 ⟨rfl, hy_X4_setting⟩ ⟨Nat.le_of_ble_eq_true rfl, Nat.le_of_ble_eq_true rfl⟩ ⟨Nat.le_of_ble_eq_true rfl, Nat.le_of_ble_eq_true rfl⟩ rfl (Nat.le_of_ble_eq_true rfl) dL_isAhead_303 (r_N ?_) r_NX
                    show PX Z 10 S148 0 0 306 [(0, va_rf r0), (1, .int i1), (2, .int v92), (3, .int v93), (6, .int v94), (7, .int v95), (9, .int v96)] [.int v147, .int v141, .int v97]
                    refine x_icmp_ge (t := 313) hC dL_isAhead_306 (by decide) (fun c151 => ?_) (fun c151 => ?_)
                    · replace h := it_t c151 h
                      refine x_iconst (v := (0 : Int32)) hC dL_isAhead_313 (by decide) ?_
                      exact J_314 _ _ _ _ _ _ _ _ h
                    · replace h := it_f c151 h
                      refine x_iconst (v := (1 : Int32)) hC dL_isAhead_309 (by decide) ?_
                      refine x_goto (t := 314) hC dL_isAhead_310 (by decide) ?_
                      exact J_314 _ _ _ _ _ _ _ _ h
                  · refine x_callV hC (st := [.int v141, .int v97]) (mt_X4_setting _ _ _ _ hb152) ea145 ha146 kf_4 q_552 q_553 q_554 q_1 q_555 ⟨rfl, hy_X4_setting⟩ ⟨Nat.le_of_ble_eq_true rfl, Nat.le_of_ble_eq_true rfl⟩ ⟨Nat.le_of_ble_eq_true rfl, Nat.le_of_ble_eq_true rfl⟩ rfl (Nat.le_of_ble_eq_true rfl) dL_isAhead_303 r_X (r_XX ?_)
                    replace h := ir_x h hg_130
                    exact x_out hC hQ hE (z_X (Option.some.inj h)) (Nat.le_of_ble_eq_true rfl) (Nat.le_of_ble_eq_true rfl)
                · refine x_callV hC (st := [.int v97]) (mt_X4_paperOf _ _ _ _ _ hb153) ea135 ha136 kf_4 q_527 q_528 q_529 q_1 q_530 ⟨rfl, hy_X4_paperOf⟩ ⟨Nat.le_of_ble_eq_true rfl, Nat.le_of_ble_eq_true rfl⟩ ⟨Nat.le_of_ble_eq_true rfl, Nat.le_of_ble_eq_true rfl⟩ rfl (Nat.le_of_ble_eq_true rfl) dL_isAhead_295 r_X (r_XX ?_)
                  replace h := ir_x h hg_130
                  exact x_out hC hQ hE (z_X (Option.some.inj h)) (Nat.le_of_ble_eq_true rfl) (Nat.le_of_ble_eq_true rfl)
            · refine x_callV hC (st := [.int v97]) (mt_X4_score _ _ _ _ _ hb154) ea127 ha128 kf_4 q_548 q_549 q_550 q_1 q_551 ⟨rfl, hy_X4_score⟩ ⟨Nat.le_of_ble_eq_true rfl, Nat.le_of_ble_eq_true rfl⟩ ⟨Nat.le_of_ble_eq_true rfl, Nat.le_of_ble_eq_true rfl⟩ rfl (Nat.le_of_ble_eq_true rfl) dL_isAhead_285 r_X (r_XX ?_)
              replace h := ir_x h hg_130
              exact x_out hC hQ hE (z_X (Option.some.inj h)) (Nat.le_of_ble_eq_true rfl) (Nat.le_of_ble_eq_true rfl)
        · refine x_callV hC (st := [.int v97]) (mt_X4_paperOf _ _ _ _ _ hb155) ea100 ha101 kf_4 q_527 q_528 q_529 q_1 q_530 ⟨rfl, hy_X4_paperOf⟩ ⟨Nat.le_of_ble_eq_true rfl, Nat.le_of_ble_eq_true rfl⟩ ⟨Nat.le_of_ble_eq_true rfl, Nat.le_of_ble_eq_true rfl⟩ rfl (Nat.le_of_ble_eq_true rfl) dL_isAhead_275 r_X (r_XX ?_)
          replace h := ir_x h hg_130
          exact x_out hC hQ hE (z_X (Option.some.inj h)) (Nat.le_of_ble_eq_true rfl) (Nat.le_of_ble_eq_true rfl)
      have J_253 : ∀ (v80 : Int32) (v81 : Int32) (v82 : Int32) (v83 : Int32) (v84 : Int32) (v85 : Int32) (S86 : PH), j_L_isAhead_253 r0 i1 v80 v81 v82 v83 v84 v85 S86 = some x_130 → PX Z 10 S86 0 0 253 [(0, va_rf r0), (1, .int i1), (2, .int v80), (3, .int v81), (6, .int v82), (7, .int v83), (8, .int v84)] [.int v85] := by
        intro v80 v81 v82 v83 v84 v85 S86 h
        unfold j_L_isAhead_253 at h
        refine x_istore (i := 9) (l' := [(9, .int v85), (0, va_rf r0), (1, .int i1), (2, .int v80), (3, .int v81), (6, .int v82), (7, .int v83), (8, .int v84)]) hC dL_isAhead_253 (⟨fun _ => c_rf r0, ⟨fun _ => rfl, ⟨fun _ => rfl, ⟨fun _ => rfl, ⟨fun _ => rfl, ⟨fun _ => rfl, ⟨fun _ => rfl, trivial⟩⟩⟩⟩⟩⟩⟩) (by decide) rfl ?_
        refine x_iload (i := 7) hC dL_isAhead_255 6 rfl ?_
        refine x_if_le (t := 347) hC dL_isAhead_257 (by decide) (fun c87 => ?_) (fun c87 => ?_)
        · replace h := it_t c87 h
          refine x_iload_n (i := 3) hC dL_isAhead_347 rfl 4 rfl ?_
          refine x_if_lt (t := 365) hC dL_isAhead_348 (by decide) (fun c88 => ?_) (fun c88 => ?_)
          · replace h := it_t c88 h
            refine x_iconst (v := (0 : Int32)) hC dL_isAhead_365 (by decide) ?_
            refine x_istore (i := 4) (l' := [(4, .int (0 : Int32)), (9, .int v85), (0, va_rf r0), (1, .int i1), (2, .int v80), (3, .int v81), (6, .int v82), (7, .int v83), (8, .int v84)]) hC dL_isAhead_366 (⟨fun _ => rfl, ⟨fun _ => c_rf r0, ⟨fun _ => rfl, ⟨fun _ => rfl, ⟨fun _ => rfl, ⟨fun _ => rfl, ⟨fun _ => rfl, ⟨fun _ => rfl, trivial⟩⟩⟩⟩⟩⟩⟩⟩) (by decide) rfl ?_
            refine x_iinc (i := 6) (v := (v82 + (1 : Int32))) (l' := [(6, .int (v82 + (1 : Int32))), (4, .int (0 : Int32)), (9, .int v85), (0, va_rf r0), (1, .int i1), (2, .int v80), (3, .int v81), (7, .int v83), (8, .int v84)]) hC dL_isAhead_368 6 rfl rfl (⟨fun _ => rfl, ⟨fun _ => rfl, ⟨fun _ => c_rf r0, ⟨fun _ => rfl, ⟨fun _ => rfl, ⟨fun _ => rfl, ⟨fun _ => rfl, ⟨fun _ => rfl, ⟨fun _ => rfl, trivial⟩⟩⟩⟩⟩⟩⟩⟩⟩) (by decide) rfl ?_
            refine x_goto (t := 130) hC dL_isAhead_371 (by decide) ?_
            refine x_sub (l' := [(0, va_rf r0), (1, .int i1), (2, .int v80), (3, .int v81), (4, .int (0 : Int32)), (6, .int (v82 + (1 : Int32)))]) [3, 4, 5, 6, 1, 0] rfl ?_
            have hb := bk_x h hg_130
            exact hb
          · replace h := it_f c88 h
            refine x_iload (i := 8) hC dL_isAhead_351 7 rfl ?_
            refine x_if_ne (t := 365) hC dL_isAhead_353 (by decide) (fun c89 => ?_) (fun c89 => ?_)
            · replace h := it_f c89 h
              refine x_iconst (v := (0 : Int32)) hC dL_isAhead_365 (by decide) ?_
              refine x_istore (i := 4) (l' := [(4, .int (0 : Int32)), (9, .int v85), (0, va_rf r0), (1, .int i1), (2, .int v80), (3, .int v81), (6, .int v82), (7, .int v83), (8, .int v84)]) hC dL_isAhead_366 (⟨fun _ => rfl, ⟨fun _ => c_rf r0, ⟨fun _ => rfl, ⟨fun _ => rfl, ⟨fun _ => rfl, ⟨fun _ => rfl, ⟨fun _ => rfl, ⟨fun _ => rfl, trivial⟩⟩⟩⟩⟩⟩⟩⟩) (by decide) rfl ?_
              refine x_iinc (i := 6) (v := (v82 + (1 : Int32))) (l' := [(6, .int (v82 + (1 : Int32))), (4, .int (0 : Int32)), (9, .int v85), (0, va_rf r0), (1, .int i1), (2, .int v80), (3, .int v81), (7, .int v83), (8, .int v84)]) hC dL_isAhead_368 6 rfl rfl (⟨fun _ => rfl, ⟨fun _ => rfl, ⟨fun _ => c_rf r0, ⟨fun _ => rfl, ⟨fun _ => rfl, ⟨fun _ => rfl, ⟨fun _ => rfl, ⟨fun _ => rfl, ⟨fun _ => rfl, trivial⟩⟩⟩⟩⟩⟩⟩⟩⟩) (by decide) rfl ?_
              refine x_goto (t := 130) hC dL_isAhead_371 (by decide) ?_
              refine x_sub (l' := [(0, va_rf r0), (1, .int i1), (2, .int v80), (3, .int v81), (4, .int (0 : Int32)), (6, .int (v82 + (1 : Int32)))]) [3, 4, 5, 6, 1, 0] rfl ?_
              have hb := bk_x h hg_130
              exact hb
            · replace h := it_t c89 h
              refine x_iload (i := 9) hC dL_isAhead_356 0 rfl ?_
              refine x_if_ne (t := 365) hC dL_isAhead_358 (by decide) (fun c90 => ?_) (fun c90 => ?_)
              · replace h := it_f c90 h
                refine x_iconst (v := (0 : Int32)) hC dL_isAhead_365 (by decide) ?_
                refine x_istore (i := 4) (l' := [(4, .int (0 : Int32)), (9, .int v85), (0, va_rf r0), (1, .int i1), (2, .int v80), (3, .int v81), (6, .int v82), (7, .int v83), (8, .int v84)]) hC dL_isAhead_366 (⟨fun _ => rfl, ⟨fun _ => c_rf r0, ⟨fun _ => rfl, ⟨fun _ => rfl, ⟨fun _ => rfl, ⟨fun _ => rfl, ⟨fun _ => rfl, ⟨fun _ => rfl, trivial⟩⟩⟩⟩⟩⟩⟩⟩) (by decide) rfl ?_
                refine x_iinc (i := 6) (v := (v82 + (1 : Int32))) (l' := [(6, .int (v82 + (1 : Int32))), (4, .int (0 : Int32)), (9, .int v85), (0, va_rf r0), (1, .int i1), (2, .int v80), (3, .int v81), (7, .int v83), (8, .int v84)]) hC dL_isAhead_368 6 rfl rfl (⟨fun _ => rfl, ⟨fun _ => rfl, ⟨fun _ => c_rf r0, ⟨fun _ => rfl, ⟨fun _ => rfl, ⟨fun _ => rfl, ⟨fun _ => rfl, ⟨fun _ => rfl, ⟨fun _ => rfl, trivial⟩⟩⟩⟩⟩⟩⟩⟩⟩) (by decide) rfl ?_
                refine x_goto (t := 130) hC dL_isAhead_371 (by decide) ?_
                refine x_sub (l' := [(0, va_rf r0), (1, .int i1), (2, .int v80), (3, .int v81), (4, .int (0 : Int32)), (6, .int (v82 + (1 : Int32)))]) [3, 4, 5, 6, 1, 0] rfl ?_
                have hb := bk_x h hg_130
                exact hb
              · replace h := it_t c90 h
                refine x_iconst (v := (1 : Int32)) hC dL_isAhead_361 (by decide) ?_
                refine x_goto (t := 366) hC dL_isAhead_362 (by decide) ?_
                refine x_istore (i := 4) (l' := [(4, .int (1 : Int32)), (9, .int v85), (0, va_rf r0), (1, .int i1), (2, .int v80), (3, .int v81), (6, .int v82), (7, .int v83), (8, .int v84)]) hC dL_isAhead_366 (⟨fun _ => rfl, ⟨fun _ => c_rf r0, ⟨fun _ => rfl, ⟨fun _ => rfl, ⟨fun _ => rfl, ⟨fun _ => rfl, ⟨fun _ => rfl, ⟨fun _ => rfl, trivial⟩⟩⟩⟩⟩⟩⟩⟩) (by decide) rfl ?_
                refine x_iinc (i := 6) (v := (v82 + (1 : Int32))) (l' := [(6, .int (v82 + (1 : Int32))), (4, .int (1 : Int32)), (9, .int v85), (0, va_rf r0), (1, .int i1), (2, .int v80), (3, .int v81), (7, .int v83), (8, .int v84)]) hC dL_isAhead_368 6 rfl rfl (⟨fun _ => rfl, ⟨fun _ => rfl, ⟨fun _ => c_rf r0, ⟨fun _ => rfl, ⟨fun _ => rfl, ⟨fun _ => rfl, ⟨fun _ => rfl, ⟨fun _ => rfl, ⟨fun _ => rfl, trivial⟩⟩⟩⟩⟩⟩⟩⟩⟩) (by decide) rfl ?_
                refine x_goto (t := 130) hC dL_isAhead_371 (by decide) ?_
                refine x_sub (l' := [(0, va_rf r0), (1, .int i1), (2, .int v80), (3, .int v81), (4, .int (1 : Int32)), (6, .int (v82 + (1 : Int32)))]) [3, 4, 5, 6, 1, 0] rfl ?_
                have hb := bk_x h hg_130
                exact hb
        · replace h := it_f c87 h
          refine x_iload (i := 7) hC dL_isAhead_260 6 rfl ?_
          refine x_iconst (v := (4 : Int32)) hC dL_isAhead_262 (by decide) ?_
          refine x_icmp_lt (t := 270) hC dL_isAhead_263 (by decide) (fun c91 => ?_) (fun c91 => ?_)
          · replace h := it_t c91 h
            refine x_iconst (v := (0 : Int32)) hC dL_isAhead_270 (by decide) ?_
            refine x_sub (l' := [(0, va_rf r0), (1, .int i1), (2, .int v80), (3, .int v81), (6, .int v82), (7, .int v83), (9, .int v85)]) [1, 2, 3, 4, 5, 6, 0] rfl ?_
            exact J_271 _ _ _ _ _ _ _ h
          · replace h := it_f c91 h
            refine x_iconst (v := (1 : Int32)) hC dL_isAhead_266 (by decide) ?_
            refine x_goto (t := 271) hC dL_isAhead_267 (by decide) ?_
            refine x_sub (l' := [(0, va_rf r0), (1, .int i1), (2, .int v80), (3, .int v81), (6, .int v82), (7, .int v83), (9, .int v85)]) [1, 2, 3, 4, 5, 6, 0] rfl ?_
            exact J_271 _ _ _ _ _ _ _ h
      have J_230 : ∀ (v66 : Int32) (v67 : Int32) (v68 : Int32) (v69 : Int32) (v70 : Int32) (S71 : PH), j_L_isAhead_230 r0 i1 v66 v67 v68 v69 v70 S71 = some x_130 → PX Z 10 S71 0 0 230 [(0, va_rf r0), (1, .int i1), (2, .int v66), (3, .int v67), (6, .int v68), (7, .int v69)] [.int v70] := by
        intro v66 v67 v68 v69 v70 S71 h
        unfold j_L_isAhead_230 at h
        refine x_istore (i := 8) (l' := [(8, .int v70), (0, va_rf r0), (1, .int i1), (2, .int v66), (3, .int v67), (6, .int v68), (7, .int v69)]) hC dL_isAhead_230 (⟨fun _ => c_rf r0, ⟨fun _ => rfl, ⟨fun _ => rfl, ⟨fun _ => rfl, ⟨fun _ => rfl, ⟨fun _ => rfl, trivial⟩⟩⟩⟩⟩⟩) (by decide) rfl ?_
        refine x_aload_n (i := 0) hC dL_isAhead_232 rfl 1 rfl ?_
        refine x_iload (i := 6) hC dL_isAhead_233 5 rfl ?_
        refine x_bipush (v := (8 : Int32)) hC dL_isAhead_235 (by decide) ?_
        replace h := dr_el h
        obtain ⟨a72, ea73, ha74, h⟩ := h
        replace h := bt_el h
        obtain ⟨v75, S76, hb156, h⟩ | ⟨j77, S78, hb156, h⟩ := h
        · refine x_callV hC (st := []) (mtr_X4_personOf _ _ _ _ (v75, S76) hb156) ea73 ha74 kf_4 q_506 q_507 q_508 q_1 q_509 ⟨rfl, hy_X4_personOf⟩ ⟨Nat.le_of_ble_eq_true rfl, Nat.le_of_ble_eq_true rfl⟩ ⟨Nat.le_of_ble_eq_true rfl, Nat.le_of_ble_eq_true rfl⟩ rfl (Nat.le_of_ble_eq_true rfl) dL_isAhead_237 (r_N ?_) r_NX
          show PX Z 10 S76 0 0 240 [(8, .int v70), (0, va_rf r0), (1, .int i1), (2, .int v66), (3, .int v67), (6, .int v68), (7, .int v69)] [.int v75]
          refine x_iload_n (i := 1) hC dL_isAhead_240 rfl 2 rfl ?_
          refine x_ishr hC dL_isAhead_241 ?_
          refine x_iconst (v := (1 : Int32)) hC dL_isAhead_242 (by decide) ?_
          refine x_iand hC dL_isAhead_243 ?_
          refine x_iconst (v := (1 : Int32)) hC dL_isAhead_244 (by decide) ?_
          refine x_icmp_ne (t := 252) hC dL_isAhead_245 (by decide) (fun c79 => ?_) (fun c79 => ?_)
          · replace h := it_f c79 h
            refine x_iconst (v := (0 : Int32)) hC dL_isAhead_252 (by decide) ?_
            refine x_sub (l' := [(0, va_rf r0), (1, .int i1), (2, .int v66), (3, .int v67), (6, .int v68), (7, .int v69), (8, .int v70)]) [1, 2, 3, 4, 5, 6, 0] rfl ?_
            exact J_253 _ _ _ _ _ _ _ h
          · replace h := it_t c79 h
            refine x_iconst (v := (1 : Int32)) hC dL_isAhead_248 (by decide) ?_
            refine x_goto (t := 253) hC dL_isAhead_249 (by decide) ?_
            refine x_sub (l' := [(0, va_rf r0), (1, .int i1), (2, .int v66), (3, .int v67), (6, .int v68), (7, .int v69), (8, .int v70)]) [1, 2, 3, 4, 5, 6, 0] rfl ?_
            exact J_253 _ _ _ _ _ _ _ h
        · refine x_callV hC (st := []) (mt_X4_personOf _ _ _ _ _ hb156) ea73 ha74 kf_4 q_506 q_507 q_508 q_1 q_509 ⟨rfl, hy_X4_personOf⟩ ⟨Nat.le_of_ble_eq_true rfl, Nat.le_of_ble_eq_true rfl⟩ ⟨Nat.le_of_ble_eq_true rfl, Nat.le_of_ble_eq_true rfl⟩ rfl (Nat.le_of_ble_eq_true rfl) dL_isAhead_237 r_X (r_XX ?_)
          replace h := ir_x h hg_130
          exact x_out hC hQ hE (z_X (Option.some.inj h)) (Nat.le_of_ble_eq_true rfl) (Nat.le_of_ble_eq_true rfl)
      unfold st_L_isAhead_130 at h
      refine x_iload (i := 6) hC dL_isAhead_130 5 rfl ?_
      refine x_bipush (v := (8 : Int32)) hC dL_isAhead_132 (by decide) ?_
      refine x_icmp_ge (t := 374) hC dL_isAhead_134 (by decide) (fun c324 => ?_) (fun c324 => ?_)
      · replace h := it_t c324 h
        replace h := ir_x h hg_130
        refine x_sub (l' := [(0, va_rf r0), (1, .int i1), (2, .int v319), (4, .int v321)]) [0, 1, 2, 4] rfl ?_
        exact J_374 _ _ _ h
      · replace h := it_f c324 h
        refine x_iload (i := 4) hC dL_isAhead_137 4 rfl ?_
        refine x_if_eq (t := 374) hC dL_isAhead_139 (by decide) (fun c325 => ?_) (fun c325 => ?_)
        · replace h := it_t c325 h
          replace h := ir_x h hg_130
          refine x_sub (l' := [(0, va_rf r0), (1, .int i1), (2, .int v319), (4, .int v321)]) [0, 1, 2, 4] rfl ?_
          exact J_374 _ _ _ h
        · replace h := it_f c325 h
          refine x_aload_n (i := 0) hC dL_isAhead_142 rfl 0 rfl ?_
          refine x_iload (i := 6) hC dL_isAhead_143 5 rfl ?_
          refine x_iload_n (i := 1) hC dL_isAhead_145 rfl 1 rfl ?_
          replace h := dr_el h
          obtain ⟨a326, ea327, ha328, h⟩ := h
          replace h := bt_el h
          obtain ⟨v329, S330, hb403, h⟩ | ⟨j331, S332, hb403, h⟩ := h
          · refine x_callV hC (st := []) (mtr_X4_whyNot _ _ _ _ (v329, S330) hb403) ea327 ha328 kf_4 q_445 q_446 q_447 q_1 q_448 ⟨rfl, hy_X4_whyNot⟩ ⟨Nat.le_of_ble_eq_true rfl, Nat.le_of_ble_eq_true rfl⟩ ⟨Nat.le_of_ble_eq_true rfl, Nat.le_of_ble_eq_true rfl⟩ rfl (Nat.le_of_ble_eq_true rfl) dL_isAhead_146 (r_N ?_) r_NX
            show PX Z 10 S330 0 0 149 [(0, va_rf r0), (1, .int i1), (2, .int v319), (3, .int v320), (4, .int v321), (6, .int v322)] [.int v329]
            refine x_istore (i := 7) (l' := [(7, .int v329), (0, va_rf r0), (1, .int i1), (2, .int v319), (3, .int v320), (4, .int v321), (6, .int v322)]) hC dL_isAhead_149 (⟨fun _ => c_rf r0, ⟨fun _ => rfl, ⟨fun _ => rfl, ⟨fun _ => rfl, ⟨fun _ => rfl, ⟨fun _ => rfl, trivial⟩⟩⟩⟩⟩⟩) (by decide) rfl ?_
            refine x_iload_n (i := 3) hC dL_isAhead_151 rfl 4 rfl ?_
            refine x_if_lt (t := 229) hC dL_isAhead_152 (by decide) (fun c333 => ?_) (fun c333 => ?_)
            · replace h := it_t c333 h
              refine x_iconst (v := (0 : Int32)) hC dL_isAhead_229 (by decide) ?_
              refine x_sub (l' := [(0, va_rf r0), (1, .int i1), (2, .int v319), (3, .int v320), (6, .int v322), (7, .int v329)]) [1, 2, 3, 4, 6, 0] rfl ?_
              exact J_230 _ _ _ _ _ _ h
            · replace h := it_f c333 h
              refine x_aload_n (i := 0) hC dL_isAhead_155 rfl 1 rfl ?_
              refine x_iload (i := 6) hC dL_isAhead_156 6 rfl ?_
              refine x_iconst (v := (3 : Int32)) hC dL_isAhead_158 (by decide) ?_
              replace h := dr_el h
              obtain ⟨a334, ea335, ha336, h⟩ := h
              replace h := bt_el h
              obtain ⟨v337, S338, hb402, h⟩ | ⟨j339, S340, hb402, h⟩ := h
              · refine x_callV hC (st := []) (mtr_X4_personOf _ _ _ _ (v337, S338) hb402) ea335 ha336 kf_4 q_506 q_507 q_508 q_1 q_509 ⟨rfl, hy_X4_personOf⟩ ⟨Nat.le_of_ble_eq_true rfl, Nat.le_of_ble_eq_true rfl⟩ ⟨Nat.le_of_ble_eq_true rfl, Nat.le_of_ble_eq_true rfl⟩ rfl (Nat.le_of_ble_eq_true rfl) dL_isAhead_159 (r_N ?_) r_NX
                show PX Z 10 S338 0 0 162 [(7, .int v329), (0, va_rf r0), (1, .int i1), (2, .int v319), (3, .int v320), (4, .int v321), (6, .int v322)] [.int v337]
                refine x_aload_n (i := 0) hC dL_isAhead_162 rfl 1 rfl ?_
                refine x_iload_n (i := 3) hC dL_isAhead_163 rfl 4 rfl ?_
                refine x_iconst (v := (3 : Int32)) hC dL_isAhead_164 (by decide) ?_
                replace h := dr_el h
                obtain ⟨a341, ea342, ha343, h⟩ := h
                replace h := bt_el h
                obtain ⟨v344, S345, hb401, h⟩ | ⟨j346, S347, hb401, h⟩ := h
                · refine x_callV hC (st := [.int v337]) (mtr_X4_personOf _ _ _ _ (v344, S345) hb401) ea342 ha343 kf_4 q_506 q_507 q_508 q_1 q_509 ⟨rfl, hy_X4_personOf⟩ ⟨Nat.le_of_ble_eq_true rfl, Nat.le_of_ble_eq_true rfl⟩ ⟨Nat.le_of_ble_eq_true rfl, Nat.le_of_ble_eq_true rfl⟩ rfl (Nat.le_of_ble_eq_true rfl) dL_isAhead_165 (r_N ?_) r_NX
                  show PX Z 10 S345 0 0 168 [(7, .int v329), (0, va_rf r0), (1, .int i1), (2, .int v319), (3, .int v320), (4, .int v321), (6, .int v322)] [.int v344, .int v337]
                  refine x_icmp_lt (t := 225) hC dL_isAhead_168 (by decide) (fun c348 => ?_) (fun c348 => ?_)
                  · replace h := it_t c348 h
                    refine x_iconst (v := (1 : Int32)) hC dL_isAhead_225 (by decide) ?_
                    refine x_goto (t := 230) hC dL_isAhead_226 (by decide) ?_
                    refine x_sub (l' := [(0, va_rf r0), (1, .int i1), (2, .int v319), (3, .int v320), (6, .int v322), (7, .int v329)]) [1, 2, 3, 4, 6, 0] rfl ?_
                    exact J_230 _ _ _ _ _ _ h
                  · replace h := it_f c348 h
                    refine x_aload_n (i := 0) hC dL_isAhead_171 rfl 1 rfl ?_
                    refine x_iload (i := 6) hC dL_isAhead_172 6 rfl ?_
                    refine x_iconst (v := (3 : Int32)) hC dL_isAhead_174 (by decide) ?_
                    replace h := dr_el h
                    obtain ⟨a349, ea350, ha351, h⟩ := h
                    replace h := bt_el h
                    obtain ⟨v352, S353, hb400, h⟩ | ⟨j354, S355, hb400, h⟩ := h
                    · refine x_callV hC (st := []) (mtr_X4_personOf _ _ _ _ (v352, S353) hb400) ea350 ha351 kf_4 q_506 q_507 q_508 q_1 q_509 ⟨rfl, hy_X4_personOf⟩ ⟨Nat.le_of_ble_eq_true rfl, Nat.le_of_ble_eq_true rfl⟩ ⟨Nat.le_of_ble_eq_true rfl, Nat.le_of_ble_eq_true rfl⟩ rfl (Nat.le_of_ble_eq_true rfl) dL_isAhead_175 (r_N ?_) r_NX
                      show PX Z 10 S353 0 0 178 [(7, .int v329), (0, va_rf r0), (1, .int i1), (2, .int v319), (3, .int v320), (4, .int v321), (6, .int v322)] [.int v352]
                      refine x_aload_n (i := 0) hC dL_isAhead_178 rfl 1 rfl ?_
                      refine x_iload_n (i := 3) hC dL_isAhead_179 rfl 4 rfl ?_
                      refine x_iconst (v := (3 : Int32)) hC dL_isAhead_180 (by decide) ?_
                      replace h := dr_el h
                      obtain ⟨a356, ea357, ha358, h⟩ := h
                      replace h := bt_el h
                      obtain ⟨v359, S360, hb399, h⟩ | ⟨j361, S362, hb399, h⟩ := h
                      · refine x_callV hC (st := [.int v352]) (mtr_X4_personOf _ _ _ _ (v359, S360) hb399) ea357 ha358 kf_4 q_506 q_507 q_508 q_1 q_509 ⟨rfl, hy_X4_personOf⟩ ⟨Nat.le_of_ble_eq_true rfl, Nat.le_of_ble_eq_true rfl⟩ ⟨Nat.le_of_ble_eq_true rfl, Nat.le_of_ble_eq_true rfl⟩ rfl (Nat.le_of_ble_eq_true rfl) dL_isAhead_181 (r_N ?_) r_NX
                        show PX Z 10 S360 0 0 184 [(7, .int v329), (0, va_rf r0), (1, .int i1), (2, .int v319), (3, .int v320), (4, .int v321), (6, .int v322)] [.int v359, .int v352]
                        refine x_icmp_ne (t := 229) hC dL_isAhead_184 (by decide) (fun c363 => ?_) (fun c363 => ?_)
                        · replace h := it_f c363 h
                          refine x_iconst (v := (0 : Int32)) hC dL_isAhead_229 (by decide) ?_
                          refine x_sub (l' := [(0, va_rf r0), (1, .int i1), (2, .int v319), (3, .int v320), (6, .int v322), (7, .int v329)]) [1, 2, 3, 4, 6, 0] rfl ?_
                          exact J_230 _ _ _ _ _ _ h
                        · replace h := it_t c363 h
                          refine x_aload_n (i := 0) hC dL_isAhead_187 rfl 1 rfl ?_
                          refine x_iload (i := 6) hC dL_isAhead_188 6 rfl ?_
                          refine x_iconst (v := (0 : Int32)) hC dL_isAhead_190 (by decide) ?_
                          replace h := dr_el h
                          obtain ⟨a364, ea365, ha366, h⟩ := h
                          replace h := bt_el h
                          obtain ⟨v367, S368, hb398, h⟩ | ⟨j369, S370, hb398, h⟩ := h
                          · refine x_callV hC (st := []) (mtr_X4_personOf _ _ _ _ (v367, S368) hb398) ea365 ha366 kf_4 q_506 q_507 q_508 q_1 q_509 ⟨rfl, hy_X4_personOf⟩ ⟨Nat.le_of_ble_eq_true rfl, Nat.le_of_ble_eq_true rfl⟩ ⟨Nat.le_of_ble_eq_true rfl, Nat.le_of_ble_eq_true rfl⟩ rfl (Nat.le_of_ble_eq_true rfl) dL_isAhead_191 (r_N ?_) r_NX
                            show PX Z 10 S368 0 0 194 [(7, .int v329), (0, va_rf r0), (1, .int i1), (2, .int v319), (3, .int v320), (4, .int v321), (6, .int v322)] [.int v367]
                            refine x_aload_n (i := 0) hC dL_isAhead_194 rfl 1 rfl ?_
                            refine x_iload_n (i := 3) hC dL_isAhead_195 rfl 4 rfl ?_
                            refine x_iconst (v := (0 : Int32)) hC dL_isAhead_196 (by decide) ?_
                            replace h := dr_el h
                            obtain ⟨a371, ea372, ha373, h⟩ := h
                            replace h := bt_el h
                            obtain ⟨v374, S375, hb397, h⟩ | ⟨j376, S377, hb397, h⟩ := h
                            · refine x_callV hC (st := [.int v367]) (mtr_X4_personOf _ _ _ _ (v374, S375) hb397) ea372 ha373 kf_4 q_506 q_507 q_508 q_1 q_509 ⟨rfl, hy_X4_personOf⟩ ⟨Nat.le_of_ble_eq_true rfl, Nat.le_of_ble_eq_true rfl⟩ ⟨Nat.le_of_ble_eq_true rfl, Nat.le_of_ble_eq_true rfl⟩ rfl (Nat.le_of_ble_eq_true rfl) dL_isAhead_197 (r_N ?_) r_NX
                              show PX Z 10 S375 0 0 200 [(7, .int v329), (0, va_rf r0), (1, .int i1), (2, .int v319), (3, .int v320), (4, .int v321), (6, .int v322)] [.int v374, .int v367]
                              refine x_icmp_gt (t := 225) hC dL_isAhead_200 (by decide) (fun c378 => ?_) (fun c378 => ?_)
                              · replace h := it_t c378 h
                                refine x_iconst (v := (1 : Int32)) hC dL_isAhead_225 (by decide) ?_
                                refine x_goto (t := 230) hC dL_isAhead_226 (by decide) ?_
                                refine x_sub (l' := [(0, va_rf r0), (1, .int i1), (2, .int v319), (3, .int v320), (6, .int v322), (7, .int v329)]) [1, 2, 3, 4, 6, 0] rfl ?_
                                exact J_230 _ _ _ _ _ _ h
                              · replace h := it_f c378 h
                                refine x_aload_n (i := 0) hC dL_isAhead_203 rfl 1 rfl ?_
                                refine x_iload (i := 6) hC dL_isAhead_204 6 rfl ?_
                                refine x_iconst (v := (0 : Int32)) hC dL_isAhead_206 (by decide) ?_
                                replace h := dr_el h
                                obtain ⟨a379, ea380, ha381, h⟩ := h
                                replace h := bt_el h
                                obtain ⟨v382, S383, hb396, h⟩ | ⟨j384, S385, hb396, h⟩ := h
                                · refine x_callV hC (st := []) (mtr_X4_personOf _ _ _ _ (v382, S383) hb396) ea380 ha381 kf_4 q_506 q_507 q_508 q_1 q_509 ⟨rfl, hy_X4_personOf⟩ ⟨Nat.le_of_ble_eq_true rfl, Nat.le_of_ble_eq_true rfl⟩ ⟨Nat.le_of_ble_eq_true rfl, Nat.le_of_ble_eq_true rfl⟩ rfl (Nat.le_of_ble_eq_true rfl) dL_isAhead_207 (r_N ?_) r_NX
                                  show PX Z 10 S383 0 0 210 [(7, .int v329), (0, va_rf r0), (1, .int i1), (2, .int v319), (3, .int v320), (4, .int v321), (6, .int v322)] [.int v382]
                                  refine x_aload_n (i := 0) hC dL_isAhead_210 rfl 1 rfl ?_
                                  refine x_iload_n (i := 3) hC dL_isAhead_211 rfl 4 rfl ?_
                                  refine x_iconst (v := (0 : Int32)) hC dL_isAhead_212 (by decide) ?_
                                  replace h := dr_el h
                                  obtain ⟨a386, ea387, ha388, h⟩ := h
                                  replace h := bt_el h
                                  obtain ⟨v389, S390, hb395, h⟩ | ⟨j391, S392, hb395, h⟩ := h
                                  · refine x_callV hC (st := [.int v382]) (mtr_X4_personOf _ _ _ _ (v389, S390) hb395) ea387 ha388 kf_4 q_506 q_507 q_508 q_1 q_509 ⟨rfl, hy_X4_personOf⟩ ⟨Nat.le_of_ble_eq_true rfl, Nat.le_of_ble_eq_true rfl⟩ ⟨Nat.le_of_ble_eq_true rfl, Nat.le_of_ble_eq_true rfl⟩ rfl (Nat.le_of_ble_eq_true rfl) dL_isAhead_213 (r_N ?_) r_NX
                                    show PX Z 10 S390 0 0 216 [(7, .int v329), (0, va_rf r0), (1, .int i1), (2, .int v319), (3, .int v320), (4, .int v321), (6, .int v322)] [.int v389, .int v382]
                                    refine x_icmp_ne (t := 229) hC dL_isAhead_216 (by decide) (fun c393 => ?_) (fun c393 => ?_)
                                    · replace h := it_f c393 h
                                      refine x_iconst (v := (0 : Int32)) hC dL_isAhead_229 (by decide) ?_
                                      refine x_sub (l' := [(0, va_rf r0), (1, .int i1), (2, .int v319), (3, .int v320), (6, .int v322), (7, .int v329)]) [1, 2, 3, 4, 6, 0] rfl ?_
                                      exact J_230 _ _ _ _ _ _ h
                                    · replace h := it_t c393 h
                                      refine x_iload (i := 6) hC dL_isAhead_219 6 rfl ?_
                                      refine x_iload_n (i := 3) hC dL_isAhead_221 rfl 4 rfl ?_
                                      refine x_icmp_ge (t := 229) hC dL_isAhead_222 (by decide) (fun c394 => ?_) (fun c394 => ?_)
                                      · replace h := it_t c394 h
                                        refine x_iconst (v := (0 : Int32)) hC dL_isAhead_229 (by decide) ?_
                                        refine x_sub (l' := [(0, va_rf r0), (1, .int i1), (2, .int v319), (3, .int v320), (6, .int v322), (7, .int v329)]) [1, 2, 3, 4, 6, 0] rfl ?_
                                        exact J_230 _ _ _ _ _ _ h
                                      · replace h := it_f c394 h
                                        refine x_iconst (v := (1 : Int32)) hC dL_isAhead_225 (by decide) ?_
                                        refine x_goto (t := 230) hC dL_isAhead_226 (by decide) ?_
                                        refine x_sub (l' := [(0, va_rf r0), (1, .int i1), (2, .int v319), (3, .int v320), (6, .int v322), (7, .int v329)]) [1, 2, 3, 4, 6, 0] rfl ?_
                                        exact J_230 _ _ _ _ _ _ h
                                  · refine x_callV hC (st := [.int v382]) (mt_X4_personOf _ _ _ _ _ hb395) ea387 ha388 kf_4 q_506 q_507 q_508 q_1 q_509 ⟨rfl, hy_X4_personOf⟩ ⟨Nat.le_of_ble_eq_true rfl, Nat.le_of_ble_eq_true rfl⟩ ⟨Nat.le_of_ble_eq_true rfl, Nat.le_of_ble_eq_true rfl⟩ rfl (Nat.le_of_ble_eq_true rfl) dL_isAhead_213 r_X (r_XX ?_)
                                    replace h := ir_x h hg_130
                                    exact x_out hC hQ hE (z_X (Option.some.inj h)) (Nat.le_of_ble_eq_true rfl) (Nat.le_of_ble_eq_true rfl)
                                · refine x_callV hC (st := []) (mt_X4_personOf _ _ _ _ _ hb396) ea380 ha381 kf_4 q_506 q_507 q_508 q_1 q_509 ⟨rfl, hy_X4_personOf⟩ ⟨Nat.le_of_ble_eq_true rfl, Nat.le_of_ble_eq_true rfl⟩ ⟨Nat.le_of_ble_eq_true rfl, Nat.le_of_ble_eq_true rfl⟩ rfl (Nat.le_of_ble_eq_true rfl) dL_isAhead_207 r_X (r_XX ?_)
                                  replace h := ir_x h hg_130
                                  exact x_out hC hQ hE (z_X (Option.some.inj h)) (Nat.le_of_ble_eq_true rfl) (Nat.le_of_ble_eq_true rfl)
                            · refine x_callV hC (st := [.int v367]) (mt_X4_personOf _ _ _ _ _ hb397) ea372 ha373 kf_4 q_506 q_507 q_508 q_1 q_509 ⟨rfl, hy_X4_personOf⟩ ⟨Nat.le_of_ble_eq_true rfl, Nat.le_of_ble_eq_true rfl⟩ ⟨Nat.le_of_ble_eq_true rfl, Nat.le_of_ble_eq_true rfl⟩ rfl (Nat.le_of_ble_eq_true rfl) dL_isAhead_197 r_X (r_XX ?_)
                              replace h := ir_x h hg_130
                              exact x_out hC hQ hE (z_X (Option.some.inj h)) (Nat.le_of_ble_eq_true rfl) (Nat.le_of_ble_eq_true rfl)
                          · refine x_callV hC (st := []) (mt_X4_personOf _ _ _ _ _ hb398) ea365 ha366 kf_4 q_506 q_507 q_508 q_1 q_509 ⟨rfl, hy_X4_personOf⟩ ⟨Nat.le_of_ble_eq_true rfl, Nat.le_of_ble_eq_true rfl⟩ ⟨Nat.le_of_ble_eq_true rfl, Nat.le_of_ble_eq_true rfl⟩ rfl (Nat.le_of_ble_eq_true rfl) dL_isAhead_191 r_X (r_XX ?_)
                            replace h := ir_x h hg_130
                            exact x_out hC hQ hE (z_X (Option.some.inj h)) (Nat.le_of_ble_eq_true rfl) (Nat.le_of_ble_eq_true rfl)
                      · refine x_callV hC (st := [.int v352]) (mt_X4_personOf _ _ _ _ _ hb399) ea357 ha358 kf_4 q_506 q_507 q_508 q_1 q_509 ⟨rfl, hy_X4_personOf⟩ ⟨Nat.le_of_ble_eq_true rfl, Nat.le_of_ble_eq_true rfl⟩ ⟨Nat.le_of_ble_eq_true rfl, Nat.le_of_ble_eq_true rfl⟩ rfl (Nat.le_of_ble_eq_true rfl) dL_isAhead_181 r_X (r_XX ?_)
                        replace h := ir_x h hg_130
                        exact x_out hC hQ hE (z_X (Option.some.inj h)) (Nat.le_of_ble_eq_true rfl) (Nat.le_of_ble_eq_true rfl)
                    · refine x_callV hC (st := []) (mt_X4_personOf _ _ _ _ _ hb400) ea350 ha351 kf_4 q_506 q_507 q_508 q_1 q_509 ⟨rfl, hy_X4_personOf⟩ ⟨Nat.le_of_ble_eq_true rfl, Nat.le_of_ble_eq_true rfl⟩ ⟨Nat.le_of_ble_eq_true rfl, Nat.le_of_ble_eq_true rfl⟩ rfl (Nat.le_of_ble_eq_true rfl) dL_isAhead_175 r_X (r_XX ?_)
                      replace h := ir_x h hg_130
                      exact x_out hC hQ hE (z_X (Option.some.inj h)) (Nat.le_of_ble_eq_true rfl) (Nat.le_of_ble_eq_true rfl)
                · refine x_callV hC (st := [.int v337]) (mt_X4_personOf _ _ _ _ _ hb401) ea342 ha343 kf_4 q_506 q_507 q_508 q_1 q_509 ⟨rfl, hy_X4_personOf⟩ ⟨Nat.le_of_ble_eq_true rfl, Nat.le_of_ble_eq_true rfl⟩ ⟨Nat.le_of_ble_eq_true rfl, Nat.le_of_ble_eq_true rfl⟩ rfl (Nat.le_of_ble_eq_true rfl) dL_isAhead_165 r_X (r_XX ?_)
                  replace h := ir_x h hg_130
                  exact x_out hC hQ hE (z_X (Option.some.inj h)) (Nat.le_of_ble_eq_true rfl) (Nat.le_of_ble_eq_true rfl)
              · refine x_callV hC (st := []) (mt_X4_personOf _ _ _ _ _ hb402) ea335 ha336 kf_4 q_506 q_507 q_508 q_1 q_509 ⟨rfl, hy_X4_personOf⟩ ⟨Nat.le_of_ble_eq_true rfl, Nat.le_of_ble_eq_true rfl⟩ ⟨Nat.le_of_ble_eq_true rfl, Nat.le_of_ble_eq_true rfl⟩ rfl (Nat.le_of_ble_eq_true rfl) dL_isAhead_159 r_X (r_XX ?_)
                replace h := ir_x h hg_130
                exact x_out hC hQ hE (z_X (Option.some.inj h)) (Nat.le_of_ble_eq_true rfl) (Nat.le_of_ble_eq_true rfl)
          · refine x_callV hC (st := []) (mt_X4_whyNot _ _ _ _ _ hb403) ea327 ha328 kf_4 q_445 q_446 q_447 q_1 q_448 ⟨rfl, hy_X4_whyNot⟩ ⟨Nat.le_of_ble_eq_true rfl, Nat.le_of_ble_eq_true rfl⟩ ⟨Nat.le_of_ble_eq_true rfl, Nat.le_of_ble_eq_true rfl⟩ rfl (Nat.le_of_ble_eq_true rfl) dL_isAhead_146 r_X (r_XX ?_)
            replace h := ir_x h hg_130
            exact x_out hC hQ hE (z_X (Option.some.inj h)) (Nat.le_of_ble_eq_true rfl) (Nat.le_of_ble_eq_true rfl)
  unfold m_L_isAhead at h
  refine x_aload_n (i := 0) hC dL_isAhead_0 rfl 0 rfl ?_
  refine x_iconst (v := (0 : Int32)) hC dL_isAhead_1 (by decide) ?_
  replace h := dr_el h
  obtain ⟨a1, ea2, ha3, h⟩ := h
  replace h := bt_el h
  obtain ⟨v4, S5, hb997, h⟩ | ⟨j6, S7, hb997, h⟩ := h
  · refine x_callV hC (st := []) (mtr_X4_most _ _ _ (v4, S5) hb997) ea2 ha3 kf_4 q_449 q_450 q_451 q_1 q_452 ⟨rfl, hy_X4_most⟩ ⟨Nat.le_of_ble_eq_true rfl, Nat.le_of_ble_eq_true rfl⟩ ⟨Nat.le_of_ble_eq_true rfl, Nat.le_of_ble_eq_true rfl⟩ rfl (Nat.le_of_ble_eq_true rfl) dL_isAhead_2 (r_N ?_) r_NX
    show PX Z 10 S5 0 0 5 [(0, va_rf r0), (1, .int i1)] [.int v4]
    refine x_istore_n (i := 2) (l' := [(2, .int v4), (0, va_rf r0), (1, .int i1)]) hC dL_isAhead_5 rfl (⟨fun _ => c_rf r0, ⟨fun _ => rfl, trivial⟩⟩) (by decide) rfl ?_
    refine x_aload_n (i := 0) hC dL_isAhead_6 rfl 1 rfl ?_
    refine x_iload_n (i := 1) hC dL_isAhead_7 rfl 2 rfl ?_
    replace h := dr_el h
    obtain ⟨a8, ea9, ha10, h⟩ := h
    replace h := bt_el h
    obtain ⟨v11, S12, hb996, h⟩ | ⟨j13, S14, hb996, h⟩ := h
    · refine x_callV hC (st := []) (mtr_X4_bestReviewer _ _ _ (v11, S12) hb996) ea9 ha10 kf_4 q_688 q_689 q_690 q_1 q_691 ⟨rfl, hy_X4_bestReviewer⟩ ⟨Nat.le_of_ble_eq_true rfl, Nat.le_of_ble_eq_true rfl⟩ ⟨Nat.le_of_ble_eq_true rfl, Nat.le_of_ble_eq_true rfl⟩ rfl (Nat.le_of_ble_eq_true rfl) dL_isAhead_8 (r_N ?_) r_NX
      show PX Z 10 S12 0 0 11 [(2, .int v4), (0, va_rf r0), (1, .int i1)] [.int v11]
      refine x_istore_n (i := 3) (l' := [(3, .int v11), (2, .int v4), (0, va_rf r0), (1, .int i1)]) hC dL_isAhead_11 rfl (⟨fun _ => rfl, ⟨fun _ => c_rf r0, ⟨fun _ => rfl, trivial⟩⟩⟩) (by decide) rfl ?_
      refine x_iload_n (i := 2) hC dL_isAhead_12 rfl 1 rfl ?_
      refine x_aload_n (i := 0) hC dL_isAhead_13 rfl 2 rfl ?_
      refine x_iconst (v := (1 : Int32)) hC dL_isAhead_14 (by decide) ?_
      replace h := dr_el h
      obtain ⟨a15, ea16, ha17, h⟩ := h
      replace h := bt_el h
      obtain ⟨v18, S19, hb995, h⟩ | ⟨j20, S21, hb995, h⟩ := h
      · refine x_callV hC (st := [.int v4]) (mtr_X4_most _ _ _ (v18, S19) hb995) ea16 ha17 kf_4 q_449 q_450 q_451 q_1 q_452 ⟨rfl, hy_X4_most⟩ ⟨Nat.le_of_ble_eq_true rfl, Nat.le_of_ble_eq_true rfl⟩ ⟨Nat.le_of_ble_eq_true rfl, Nat.le_of_ble_eq_true rfl⟩ rfl (Nat.le_of_ble_eq_true rfl) dL_isAhead_15 (r_N ?_) r_NX
        show PX Z 10 S19 0 0 18 [(3, .int v11), (2, .int v4), (0, va_rf r0), (1, .int i1)] [.int v18, .int v4]
        refine x_icmp_ne (t := 54) hC dL_isAhead_18 (by decide) (fun c22 => ?_) (fun c22 => ?_)
        · replace h := it_f c22 h
          refine x_iconst (v := (0 : Int32)) hC dL_isAhead_54 (by decide) ?_
          refine x_istore (i := 4) (l' := [(4, .int (0 : Int32)), (3, .int v11), (2, .int v4), (0, va_rf r0), (1, .int i1)]) hC dL_isAhead_55 (⟨fun _ => rfl, ⟨fun _ => rfl, ⟨fun _ => c_rf r0, ⟨fun _ => rfl, trivial⟩⟩⟩⟩) (by decide) rfl ?_
          refine x_iconst (v := (0 : Int32)) hC dL_isAhead_57 (by decide) ?_
          refine x_istore (i := 5) (l' := [(5, .int (0 : Int32)), (4, .int (0 : Int32)), (3, .int v11), (2, .int v4), (0, va_rf r0), (1, .int i1)]) hC dL_isAhead_58 (⟨fun _ => rfl, ⟨fun _ => rfl, ⟨fun _ => rfl, ⟨fun _ => c_rf r0, ⟨fun _ => rfl, trivial⟩⟩⟩⟩⟩) (by decide) rfl ?_
          refine x_iconst (v := (0 : Int32)) hC dL_isAhead_60 (by decide) ?_
          refine x_istore (i := 6) (l' := [(6, .int (0 : Int32)), (5, .int (0 : Int32)), (4, .int (0 : Int32)), (3, .int v11), (2, .int v4), (0, va_rf r0), (1, .int i1)]) hC dL_isAhead_61 (⟨fun _ => rfl, ⟨fun _ => rfl, ⟨fun _ => rfl, ⟨fun _ => rfl, ⟨fun _ => c_rf r0, ⟨fun _ => rfl, trivial⟩⟩⟩⟩⟩⟩) (by decide) rfl ?_
          refine x_sub (l' := [(0, va_rf r0), (1, .int i1), (2, .int v4), (3, .int v11), (4, .int (0 : Int32)), (5, .int (0 : Int32)), (6, .int (0 : Int32))]) [5, 6, 4, 3, 2, 1, 0] rfl ?_
          refine lp_sim (P := fun (t : (Int32 × Int32 × Int32 × Int32 × Int32 × PH)) => PX Z 10 t.2.2.2.2.2 0 0 63 [(0, va_rf r0), (1, .int i1), (2, .int t.1), (3, .int t.2.1), (4, .int t.2.2.1), (5, .int t.2.2.2.1), (6, .int t.2.2.2.2.1)] []) (G := fun r => r = y) ?_ h rfl
          clear h
          intro t x_63 h hg_63
          obtain ⟨v23, v24, v25, v26, v27, S28⟩ := t
          show PX Z 10 S28 0 0 63 [(0, va_rf r0), (1, .int i1), (2, .int v23), (3, .int v24), (4, .int v25), (5, .int v26), (6, .int v27)] []
          unfold st_L_isAhead_63 at h
          refine x_iload (i := 6) hC dL_isAhead_63 6 rfl ?_
          refine x_aload_n (i := 0) hC dL_isAhead_65 rfl 0 rfl ?_
          refine x_iconst (v := (0 : Int32)) hC dL_isAhead_66 (by decide) ?_
          replace h := dr_el h
          obtain ⟨a29, ea30, ha31, h⟩ := h
          replace h := bt_el h
          obtain ⟨v32, S33, hb414, h⟩ | ⟨j34, S35, hb414, h⟩ := h
          · refine x_callV hC (st := [.int v27]) (mtr_X4_count _ _ _ (v32, S33) hb414) ea30 ha31 kf_4 q_406 q_407 q_408 q_1 q_409 ⟨rfl, hy_X4_count⟩ ⟨Nat.le_of_ble_eq_true rfl, Nat.le_of_ble_eq_true rfl⟩ ⟨Nat.le_of_ble_eq_true rfl, Nat.le_of_ble_eq_true rfl⟩ rfl (Nat.le_of_ble_eq_true rfl) dL_isAhead_67 (r_N ?_) r_NX
            show PX Z 10 S33 0 0 70 [(0, va_rf r0), (1, .int i1), (2, .int v23), (3, .int v24), (4, .int v25), (5, .int v26), (6, .int v27)] [.int v32, .int v27]
            refine x_icmp_ge (t := 101) hC dL_isAhead_70 (by decide) (fun c36 => ?_) (fun c36 => ?_)
            · replace h := it_t c36 h
              replace h := ir_x h hg_63
              refine x_iload (i := 4) hC dL_isAhead_101 4 rfl ?_
              refine x_if_eq (t := 124) hC dL_isAhead_103 (by decide) (fun c37 => ?_) (fun c37 => ?_)
              · replace h := it_t c37 h
                refine x_iconst (v := (0 : Int32)) hC dL_isAhead_124 (by decide) ?_
                refine x_istore (i := 4) (l' := [(4, .int (0 : Int32)), (0, va_rf r0), (1, .int i1), (2, .int v23), (3, .int v24), (5, .int v26), (6, .int v27)]) hC dL_isAhead_125 (⟨fun _ => c_rf r0, ⟨fun _ => rfl, ⟨fun _ => rfl, ⟨fun _ => rfl, ⟨fun _ => rfl, ⟨fun _ => rfl, ⟨fun _ => rfl, trivial⟩⟩⟩⟩⟩⟩⟩) (by decide) rfl ?_
                refine x_iconst (v := (0 : Int32)) hC dL_isAhead_127 (by decide) ?_
                refine x_istore (i := 6) (l' := [(6, .int (0 : Int32)), (4, .int (0 : Int32)), (0, va_rf r0), (1, .int i1), (2, .int v23), (3, .int v24), (5, .int v26)]) hC dL_isAhead_128 (⟨fun _ => rfl, ⟨fun _ => c_rf r0, ⟨fun _ => rfl, ⟨fun _ => rfl, ⟨fun _ => rfl, ⟨fun _ => rfl, ⟨fun _ => rfl, trivial⟩⟩⟩⟩⟩⟩⟩) (by decide) rfl ?_
                refine x_sub (l' := [(0, va_rf r0), (1, .int i1), (2, .int v23), (3, .int v24), (4, .int (0 : Int32)), (6, .int (0 : Int32))]) [2, 3, 4, 5, 1, 0] rfl ?_
                refine lp_sim (P := fun (t : (Int32 × Int32 × Int32 × Int32 × PH)) => PX Z 10 t.2.2.2.2 0 0 130 [(0, va_rf r0), (1, .int i1), (2, .int t.1), (3, .int t.2.1), (4, .int t.2.2.1), (6, .int t.2.2.2.1)] []) (G := fun r => r = y) ?_ h rfl
                clear h
                intro t x_130 h hg_130
                obtain ⟨v38, v39, v40, v41, S42⟩ := t
                show PX Z 10 S42 0 0 130 [(0, va_rf r0), (1, .int i1), (2, .int v38), (3, .int v39), (4, .int v40), (6, .int v41)] []
                have J_328 : ∀ (v117 : Int32) (v118 : Int32) (v119 : Int32) (v120 : Int32) (v121 : Int32) (S122 : PH), j_L_isAhead_328 r0 i1 v117 v118 v119 v120 v121 S122 = some x_130 → PX Z 10 S122 0 0 328 [(0, va_rf r0), (1, .int i1), (2, .int v117), (3, .int v118), (6, .int v119), (7, .int v120), (9, .int v121)] [] := by
                  intro v117 v118 v119 v120 v121 S122 h
                  unfold j_L_isAhead_328 at h
                  refine x_iload (i := 7) hC dL_isAhead_328 5 rfl ?_
                  refine x_iconst (v := (5 : Int32)) hC dL_isAhead_330 (by decide) ?_
                  refine x_icmp_lt (t := 339) hC dL_isAhead_331 (by decide) (fun c123 => ?_) (fun c123 => ?_)
                  · replace h := it_t c123 h
                    refine x_iconst (v := (1 : Int32)) hC dL_isAhead_339 (by decide) ?_
                    refine x_goto (t := 366) hC dL_isAhead_340 (by decide) ?_
                    refine x_istore (i := 4) (l' := [(4, .int (1 : Int32)), (0, va_rf r0), (1, .int i1), (2, .int v117), (3, .int v118), (6, .int v119), (7, .int v120), (9, .int v121)]) hC dL_isAhead_366 (⟨fun _ => c_rf r0, ⟨fun _ => rfl, ⟨fun _ => rfl, ⟨fun _ => rfl, ⟨fun _ => rfl, ⟨fun _ => rfl, ⟨fun _ => rfl, trivial⟩⟩⟩⟩⟩⟩⟩) (by decide) rfl ?_
                    refine x_iinc (i := 6) (v := (v119 + (1 : Int32))) (l' := [(6, .int (v119 + (1 : Int32))), (4, .int (1 : Int32)), (0, va_rf r0), (1, .int i1), (2, .int v117), (3, .int v118), (7, .int v120), (9, .int v121)]) hC dL_isAhead_368 5 rfl rfl (⟨fun _ => rfl, ⟨fun _ => c_rf r0, ⟨fun _ => rfl, ⟨fun _ => rfl, ⟨fun _ => rfl, ⟨fun _ => rfl, ⟨fun _ => rfl, ⟨fun _ => rfl, trivial⟩⟩⟩⟩⟩⟩⟩⟩) (by decide) rfl ?_
                    refine x_goto (t := 130) hC dL_isAhead_371 (by decide) ?_
                    refine x_sub (l' := [(0, va_rf r0), (1, .int i1), (2, .int v117), (3, .int v118), (4, .int (1 : Int32)), (6, .int (v119 + (1 : Int32)))]) [2, 3, 4, 5, 1, 0] rfl ?_
                    have hb := bk_x h hg_130
                    exact hb
                  · replace h := it_f c123 h
                    refine x_iload (i := 9) hC dL_isAhead_334 6 rfl ?_
                    refine x_if_ne (t := 343) hC dL_isAhead_336 (by decide) (fun c124 => ?_) (fun c124 => ?_)
                    · replace h := it_f c124 h
                      refine x_iconst (v := (0 : Int32)) hC dL_isAhead_343 (by decide) ?_
                      refine x_goto (t := 366) hC dL_isAhead_344 (by decide) ?_
                      refine x_istore (i := 4) (l' := [(4, .int (0 : Int32)), (0, va_rf r0), (1, .int i1), (2, .int v117), (3, .int v118), (6, .int v119), (7, .int v120), (9, .int v121)]) hC dL_isAhead_366 (⟨fun _ => c_rf r0, ⟨fun _ => rfl, ⟨fun _ => rfl, ⟨fun _ => rfl, ⟨fun _ => rfl, ⟨fun _ => rfl, ⟨fun _ => rfl, trivial⟩⟩⟩⟩⟩⟩⟩) (by decide) rfl ?_
                      refine x_iinc (i := 6) (v := (v119 + (1 : Int32))) (l' := [(6, .int (v119 + (1 : Int32))), (4, .int (0 : Int32)), (0, va_rf r0), (1, .int i1), (2, .int v117), (3, .int v118), (7, .int v120), (9, .int v121)]) hC dL_isAhead_368 5 rfl rfl (⟨fun _ => rfl, ⟨fun _ => c_rf r0, ⟨fun _ => rfl, ⟨fun _ => rfl, ⟨fun _ => rfl, ⟨fun _ => rfl, ⟨fun _ => rfl, ⟨fun _ => rfl, trivial⟩⟩⟩⟩⟩⟩⟩⟩) (by decide) rfl ?_
                      refine x_goto (t := 130) hC dL_isAhead_371 (by decide) ?_
                      refine x_sub (l' := [(0, va_rf r0), (1, .int i1), (2, .int v117), (3, .int v118), (4, .int (0 : Int32)), (6, .int (v119 + (1 : Int32)))]) [2, 3, 4, 5, 1, 0] rfl ?_
                      have hb := bk_x h hg_130
                      exact hb
                    · replace h := it_t c124 h
                      refine x_iconst (v := (1 : Int32)) hC dL_isAhead_339 (by decide) ?_
                      refine x_goto (t := 366) hC dL_isAhead_340 (by decide) ?_
                      refine x_istore (i := 4) (l' := [(4, .int (1 : Int32)), (0, va_rf r0), (1, .int i1), (2, .int v117), (3, .int v118), (6, .int v119), (7, .int v120), (9, .int v121)]) hC dL_isAhead_366 (⟨fun _ => c_rf r0, ⟨fun _ => rfl, ⟨fun _ => rfl, ⟨fun _ => rfl, ⟨fun _ => rfl, ⟨fun _ => rfl, ⟨fun _ => rfl, trivial⟩⟩⟩⟩⟩⟩⟩) (by decide) rfl ?_
                      refine x_iinc (i := 6) (v := (v119 + (1 : Int32))) (l' := [(6, .int (v119 + (1 : Int32))), (4, .int (1 : Int32)), (0, va_rf r0), (1, .int i1), (2, .int v117), (3, .int v118), (7, .int v120), (9, .int v121)]) hC dL_isAhead_368 5 rfl rfl (⟨fun _ => rfl, ⟨fun _ => c_rf r0, ⟨fun _ => rfl, ⟨fun _ => rfl, ⟨fun _ => rfl, ⟨fun _ => rfl, ⟨fun _ => rfl, ⟨fun _ => rfl, trivial⟩⟩⟩⟩⟩⟩⟩⟩) (by decide) rfl ?_
                      refine x_goto (t := 130) hC dL_isAhead_371 (by decide) ?_
                      refine x_sub (l' := [(0, va_rf r0), (1, .int i1), (2, .int v117), (3, .int v118), (4, .int (1 : Int32)), (6, .int (v119 + (1 : Int32)))]) [2, 3, 4, 5, 1, 0] rfl ?_
                      have hb := bk_x h hg_130
                      exact hb
                have J_314 : ∀ (v107 : Int32) (v108 : Int32) (v109 : Int32) (v110 : Int32) (v111 : Int32) (v112 : Int32) (v113 : Int32) (S114 : PH), j_L_isAhead_314 r0 i1 v107 v108 v109 v110 v111 v112 v113 S114 = some x_130 → PX Z 10 S114 0 0 314 [(0, va_rf r0), (1, .int i1), (2, .int v107), (3, .int v108), (6, .int v109), (7, .int v110), (9, .int v111)] [.int v113, .int v112] := by
                  intro v107 v108 v109 v110 v111 v112 v113 S114 h
                  unfold j_L_isAhead_314 at h
                  refine x_icmp_ne (t := 343) hC dL_isAhead_314 (by decide) (fun c115 => ?_) (fun c115 => ?_)
                  · replace h := it_f c115 h
                    refine x_iconst (v := (0 : Int32)) hC dL_isAhead_343 (by decide) ?_
                    refine x_goto (t := 366) hC dL_isAhead_344 (by decide) ?_
                    refine x_istore (i := 4) (l' := [(4, .int (0 : Int32)), (0, va_rf r0), (1, .int i1), (2, .int v107), (3, .int v108), (6, .int v109), (7, .int v110), (9, .int v111)]) hC dL_isAhead_366 (⟨fun _ => c_rf r0, ⟨fun _ => rfl, ⟨fun _ => rfl, ⟨fun _ => rfl, ⟨fun _ => rfl, ⟨fun _ => rfl, ⟨fun _ => rfl, trivial⟩⟩⟩⟩⟩⟩⟩) (by decide) rfl ?_
                    refine x_iinc (i := 6) (v := (v109 + (1 : Int32))) (l' := [(6, .int (v109 + (1 : Int32))), (4, .int (0 : Int32)), (0, va_rf r0), (1, .int i1), (2, .int v107), (3, .int v108), (7, .int v110), (9, .int v111)]) hC dL_isAhead_368 5 rfl rfl (⟨fun _ => rfl, ⟨fun _ => c_rf r0, ⟨fun _ => rfl, ⟨fun _ => rfl, ⟨fun _ => rfl, ⟨fun _ => rfl, ⟨fun _ => rfl, ⟨fun _ => rfl, trivial⟩⟩⟩⟩⟩⟩⟩⟩) (by decide) rfl ?_
                    refine x_goto (t := 130) hC dL_isAhead_371 (by decide) ?_
                    refine x_sub (l' := [(0, va_rf r0), (1, .int i1), (2, .int v107), (3, .int v108), (4, .int (0 : Int32)), (6, .int (v109 + (1 : Int32)))]) [2, 3, 4, 5, 1, 0] rfl ?_
                    have hb := bk_x h hg_130
                    exact hb
                  · replace h := it_t c115 h
                    refine x_iload (i := 7) hC dL_isAhead_317 5 rfl ?_
                    refine x_iconst (v := (4 : Int32)) hC dL_isAhead_319 (by decide) ?_
                    refine x_icmp_ne (t := 328) hC dL_isAhead_320 (by decide) (fun c116 => ?_) (fun c116 => ?_)
                    · replace h := it_f c116 h
                      exact J_328 _ _ _ _ _ _ h
                    · replace h := it_t c116 h
                      refine x_iload (i := 9) hC dL_isAhead_323 6 rfl ?_
                      refine x_if_eq (t := 343) hC dL_isAhead_325 (by decide) (fun c125 => ?_) (fun c125 => ?_)
                      · replace h := it_t c125 h
                        refine x_iconst (v := (0 : Int32)) hC dL_isAhead_343 (by decide) ?_
                        refine x_goto (t := 366) hC dL_isAhead_344 (by decide) ?_
                        refine x_istore (i := 4) (l' := [(4, .int (0 : Int32)), (0, va_rf r0), (1, .int i1), (2, .int v107), (3, .int v108), (6, .int v109), (7, .int v110), (9, .int v111)]) hC dL_isAhead_366 (⟨fun _ => c_rf r0, ⟨fun _ => rfl, ⟨fun _ => rfl, ⟨fun _ => rfl, ⟨fun _ => rfl, ⟨fun _ => rfl, ⟨fun _ => rfl, trivial⟩⟩⟩⟩⟩⟩⟩) (by decide) rfl ?_
                        refine x_iinc (i := 6) (v := (v109 + (1 : Int32))) (l' := [(6, .int (v109 + (1 : Int32))), (4, .int (0 : Int32)), (0, va_rf r0), (1, .int i1), (2, .int v107), (3, .int v108), (7, .int v110), (9, .int v111)]) hC dL_isAhead_368 5 rfl rfl (⟨fun _ => rfl, ⟨fun _ => c_rf r0, ⟨fun _ => rfl, ⟨fun _ => rfl, ⟨fun _ => rfl, ⟨fun _ => rfl, ⟨fun _ => rfl, ⟨fun _ => rfl, trivial⟩⟩⟩⟩⟩⟩⟩⟩) (by decide) rfl ?_
                        refine x_goto (t := 130) hC dL_isAhead_371 (by decide) ?_
                        refine x_sub (l' := [(0, va_rf r0), (1, .int i1), (2, .int v107), (3, .int v108), (4, .int (0 : Int32)), (6, .int (v109 + (1 : Int32)))]) [2, 3, 4, 5, 1, 0] rfl ?_
                        have hb := bk_x h hg_130
                        exact hb
                      · replace h := it_f c125 h
                        exact J_328 _ _ _ _ _ _ h
                have J_271 : ∀ (v92 : Int32) (v93 : Int32) (v94 : Int32) (v95 : Int32) (v96 : Int32) (v97 : Int32) (S98 : PH), j_L_isAhead_271 r0 i1 v92 v93 v94 v95 v96 v97 S98 = some x_130 → PX Z 10 S98 0 0 271 [(0, va_rf r0), (1, .int i1), (2, .int v92), (3, .int v93), (6, .int v94), (7, .int v95), (9, .int v96)] [.int v97] := by
                  intro v92 v93 v94 v95 v96 v97 S98 h
                  unfold j_L_isAhead_271 at h
                  refine x_aload_n (i := 0) hC dL_isAhead_271 rfl 0 rfl ?_
                  refine x_iload_n (i := 1) hC dL_isAhead_272 rfl 1 rfl ?_
                  refine x_bipush (v := (8 : Int32)) hC dL_isAhead_273 (by decide) ?_
                  replace h := dr_el h
                  obtain ⟨a99, ea100, ha101, h⟩ := h
                  replace h := bt_el h
                  obtain ⟨v102, S103, hb155, h⟩ | ⟨j104, S105, hb155, h⟩ := h
                  · refine x_callV hC (st := [.int v97]) (mtr_X4_paperOf _ _ _ _ (v102, S103) hb155) ea100 ha101 kf_4 q_527 q_528 q_529 q_1 q_530 ⟨rfl, hy_X4_paperOf⟩ ⟨Nat.le_of_ble_eq_true rfl, Nat.le_of_ble_eq_true rfl⟩ ⟨Nat.le_of_ble_eq_true rfl, Nat.le_of_ble_eq_true rfl⟩ rfl (Nat.le_of_ble_eq_true rfl) dL_isAhead_275 (r_N ?_) r_NX
                    show PX Z 10 S103 0 0 278 [(0, va_rf r0), (1, .int i1), (2, .int v92), (3, .int v93), (6, .int v94), (7, .int v95), (9, .int v96)] [.int v102, .int v97]
                    refine x_if_ne (t := 313) hC dL_isAhead_278 (by decide) (fun c106 => ?_) (fun c106 => ?_)
                    · replace h := it_f c106 h
                      refine x_iconst (v := (0 : Int32)) hC dL_isAhead_313 (by decide) ?_
                      exact J_314 _ _ _ _ _ _ _ _ h
                    · replace h := it_t c106 h
                      refine x_aload_n (i := 0) hC dL_isAhead_281 rfl 0 rfl ?_
                      refine x_iload (i := 6) hC dL_isAhead_282 4 rfl ?_
                      refine x_iload_n (i := 1) hC dL_isAhead_284 rfl 1 rfl ?_
                      replace h := dr_el h
                      obtain ⟨a126, ea127, ha128, h⟩ := h
                      replace h := bt_el h
                      obtain ⟨v129, S130, hb154, h⟩ | ⟨j131, S132, hb154, h⟩ := h
                      · refine x_callV hC (st := [.int v97]) (mtr_X4_score _ _ _ _ (v129, S130) hb154) ea127 ha128 kf_4 q_548 q_549 q_550 q_1 q_551 ⟨rfl, hy_X4_score⟩ ⟨Nat.le_of_ble_eq_true rfl, Nat.le_of_ble_eq_true rfl⟩ ⟨Nat.le_of_ble_eq_true rfl, Nat.le_of_ble_eq_true rfl⟩ rfl (Nat.le_of_ble_eq_true rfl) dL_isAhead_285 (r_N ?_) r_NX
                        show PX Z 10 S130 0 0 288 [(0, va_rf r0), (1, .int i1), (2, .int v92), (3, .int v93), (6, .int v94), (7, .int v95), (9, .int v96)] [.int v129, .int v97]
                        refine x_iconst (v := (-1 : Int32)) hC dL_isAhead_288 (by decide) ?_
                        refine x_icmp_ne (t := 313) hC dL_isAhead_289 (by decide) (fun c133 => ?_) (fun c133 => ?_)
                        · replace h := it_f c133 h
                          refine x_iconst (v := (0 : Int32)) hC dL_isAhead_313 (by decide) ?_
                          exact J_314 _ _ _ _ _ _ _ _ h
                        · replace h := it_t c133 h
                          refine x_aload_n (i := 0) hC dL_isAhead_292 rfl 0 rfl ?_
                          refine x_iload_n (i := 1) hC dL_isAhead_293 rfl 1 rfl ?_
                          refine x_iconst (v := (2 : Int32)) hC dL_isAhead_294 (by decide) ?_
                          replace h := dr_el h
                          obtain ⟨a134, ea135, ha136, h⟩ := h
                          replace h := bt_el h
                          obtain ⟨v137, S138, hb153, h⟩ | ⟨j139, S140, hb153, h⟩ := h
                          · refine x_callV hC (st := [.int v97]) (mtr_X4_paperOf _ _ _ _ (v137, S138) hb153) ea135 ha136 kf_4 q_527 q_528 q_529 q_1 q_530 ⟨rfl, hy_X4_paperOf⟩ ⟨Nat.le_of_ble_eq_true rfl, Nat.le_of_ble_eq_true rfl⟩ ⟨Nat.le_of_ble_eq_true rfl, Nat.le_of_ble_eq_true rfl⟩ rfl (Nat.le_of_ble_eq_true rfl) dL_isAhead_295 (r_N ?_) r_NX
                            show PX Z 10 S138 0 0 298 [(0, va_rf r0), (1, .int i1), (2, .int v92), (3, .int v93), (6, .int v94), (7, .int v95), (9, .int v96)] [.int v137, .int v97]
                            replace h := bd_el h
                            obtain ⟨v141, S142, hb143, h⟩ := h
                            refine x_callS hC (st := [.int v97]) (mt_L_bits _ _ _ hb143) q_656 q_657 q_0 q_658 hy_L_bits ⟨Nat.le_of_ble_eq_true rfl, Nat.le_of_ble_eq_true rfl⟩ ⟨Nat.le_of_ble_eq_true rfl, Nat.le_of_ble_eq_true rfl⟩ rfl (Nat.le_of_ble_eq_true rfl) dL_isAhead_298 (r_N ?_) r_NX
                            show PX Z 10 S142 0 0 301 [(0, va_rf r0), (1, .int i1), (2, .int v92), (3, .int v93), (6, .int v94), (7, .int v95), (9, .int v96)] [.int v141, .int v97]
                            refine x_aload_n (i := 0) hC dL_isAhead_301 rfl 0 rfl ?_
                            refine x_iconst (v := (0 : Int32)) hC dL_isAhead_302 (by decide) ?_
                            replace h := dr_el h
                            obtain ⟨a144, ea145, ha146, h⟩ := h
                            replace h := bt_el h
                            obtain ⟨v147, S148, hb152, h⟩ | ⟨j149, S150, hb152, h⟩ := h
                            · refine x_callV hC (st := [.int v141, .int v97]) (mtr_X4_setting _ _ _ (v147, S148) hb152) ea145 ha146 kf_4 q_552 q_553 q_554 q_1 q_555 ⟨rfl, hy_X4_setting⟩ ⟨Nat.le_of_ble_eq_true rfl, Nat.le_of_ble_eq_true rfl⟩ ⟨Nat.le_of_ble_eq_true rfl, Nat.le_of_ble_eq_true rfl⟩ rfl (Nat.le_of_ble_eq_true rfl) dL_isAhead_303 (r_N ?_) r_NX
                              show PX Z 10 S148 0 0 306 [(0, va_rf r0), (1, .int i1), (2, .int v92), (3, .int v93), (6, .int v94), (7, .int v95), (9, .int v96)] [.int v147, .int v141, .int v97]
                              refine x_icmp_ge (t := 313) hC dL_isAhead_306 (by decide) (fun c151 => ?_) (fun c151 => ?_)
                              · replace h := it_t c151 h
                                refine x_iconst (v := (0 : Int32)) hC dL_isAhead_313 (by decide) ?_
                                exact J_314 _ _ _ _ _ _ _ _ h
                              · replace h := it_f c151 h
                                refine x_iconst (v := (1 : Int32)) hC dL_isAhead_309 (by decide) ?_
                                refine x_goto (t := 314) hC dL_isAhead_310 (by decide) ?_
                                exact J_314 _ _ _ _ _ _ _ _ h
                            · refine x_callV hC (st := [.int v141, .int v97]) (mt_X4_setting _ _ _ _ hb152) ea145 ha146 kf_4 q_552 q_553 q_554 q_1 q_555 ⟨rfl, hy_X4_setting⟩ ⟨Nat.le_of_ble_eq_true rfl, Nat.le_of_ble_eq_true rfl⟩ ⟨Nat.le_of_ble_eq_true rfl, Nat.le_of_ble_eq_true rfl⟩ rfl (Nat.le_of_ble_eq_true rfl) dL_isAhead_303 r_X (r_XX ?_)
                              replace h := ir_x h hg_130
                              exact x_out hC hQ hE (z_X (Option.some.inj h)) (Nat.le_of_ble_eq_true rfl) (Nat.le_of_ble_eq_true rfl)
                          · refine x_callV hC (st := [.int v97]) (mt_X4_paperOf _ _ _ _ _ hb153) ea135 ha136 kf_4 q_527 q_528 q_529 q_1 q_530 ⟨rfl, hy_X4_paperOf⟩ ⟨Nat.le_of_ble_eq_true rfl, Nat.le_of_ble_eq_true rfl⟩ ⟨Nat.le_of_ble_eq_true rfl, Nat.le_of_ble_eq_true rfl⟩ rfl (Nat.le_of_ble_eq_true rfl) dL_isAhead_295 r_X (r_XX ?_)
                            replace h := ir_x h hg_130
                            exact x_out hC hQ hE (z_X (Option.some.inj h)) (Nat.le_of_ble_eq_true rfl) (Nat.le_of_ble_eq_true rfl)
                      · refine x_callV hC (st := [.int v97]) (mt_X4_score _ _ _ _ _ hb154) ea127 ha128 kf_4 q_548 q_549 q_550 q_1 q_551 ⟨rfl, hy_X4_score⟩ ⟨Nat.le_of_ble_eq_true rfl, Nat.le_of_ble_eq_true rfl⟩ ⟨Nat.le_of_ble_eq_true rfl, Nat.le_of_ble_eq_true rfl⟩ rfl (Nat.le_of_ble_eq_true rfl) dL_isAhead_285 r_X (r_XX ?_)
                        replace h := ir_x h hg_130
                        exact x_out hC hQ hE (z_X (Option.some.inj h)) (Nat.le_of_ble_eq_true rfl) (Nat.le_of_ble_eq_true rfl)
                  · refine x_callV hC (st := [.int v97]) (mt_X4_paperOf _ _ _ _ _ hb155) ea100 ha101 kf_4 q_527 q_528 q_529 q_1 q_530 ⟨rfl, hy_X4_paperOf⟩ ⟨Nat.le_of_ble_eq_true rfl, Nat.le_of_ble_eq_true rfl⟩ ⟨Nat.le_of_ble_eq_true rfl, Nat.le_of_ble_eq_true rfl⟩ rfl (Nat.le_of_ble_eq_true rfl) dL_isAhead_275 r_X (r_XX ?_)
                    replace h := ir_x h hg_130
                    exact x_out hC hQ hE (z_X (Option.some.inj h)) (Nat.le_of_ble_eq_true rfl) (Nat.le_of_ble_eq_true rfl)
                have J_253 : ∀ (v80 : Int32) (v81 : Int32) (v82 : Int32) (v83 : Int32) (v84 : Int32) (v85 : Int32) (S86 : PH), j_L_isAhead_253 r0 i1 v80 v81 v82 v83 v84 v85 S86 = some x_130 → PX Z 10 S86 0 0 253 [(0, va_rf r0), (1, .int i1), (2, .int v80), (3, .int v81), (6, .int v82), (7, .int v83), (8, .int v84)] [.int v85] := by
                  intro v80 v81 v82 v83 v84 v85 S86 h
                  unfold j_L_isAhead_253 at h
                  refine x_istore (i := 9) (l' := [(9, .int v85), (0, va_rf r0), (1, .int i1), (2, .int v80), (3, .int v81), (6, .int v82), (7, .int v83), (8, .int v84)]) hC dL_isAhead_253 (⟨fun _ => c_rf r0, ⟨fun _ => rfl, ⟨fun _ => rfl, ⟨fun _ => rfl, ⟨fun _ => rfl, ⟨fun _ => rfl, ⟨fun _ => rfl, trivial⟩⟩⟩⟩⟩⟩⟩) (by decide) rfl ?_
                  refine x_iload (i := 7) hC dL_isAhead_255 6 rfl ?_
                  refine x_if_le (t := 347) hC dL_isAhead_257 (by decide) (fun c87 => ?_) (fun c87 => ?_)
                  · replace h := it_t c87 h
                    refine x_iload_n (i := 3) hC dL_isAhead_347 rfl 4 rfl ?_
                    refine x_if_lt (t := 365) hC dL_isAhead_348 (by decide) (fun c88 => ?_) (fun c88 => ?_)
                    · replace h := it_t c88 h
                      refine x_iconst (v := (0 : Int32)) hC dL_isAhead_365 (by decide) ?_
                      refine x_istore (i := 4) (l' := [(4, .int (0 : Int32)), (9, .int v85), (0, va_rf r0), (1, .int i1), (2, .int v80), (3, .int v81), (6, .int v82), (7, .int v83), (8, .int v84)]) hC dL_isAhead_366 (⟨fun _ => rfl, ⟨fun _ => c_rf r0, ⟨fun _ => rfl, ⟨fun _ => rfl, ⟨fun _ => rfl, ⟨fun _ => rfl, ⟨fun _ => rfl, ⟨fun _ => rfl, trivial⟩⟩⟩⟩⟩⟩⟩⟩) (by decide) rfl ?_
                      refine x_iinc (i := 6) (v := (v82 + (1 : Int32))) (l' := [(6, .int (v82 + (1 : Int32))), (4, .int (0 : Int32)), (9, .int v85), (0, va_rf r0), (1, .int i1), (2, .int v80), (3, .int v81), (7, .int v83), (8, .int v84)]) hC dL_isAhead_368 6 rfl rfl (⟨fun _ => rfl, ⟨fun _ => rfl, ⟨fun _ => c_rf r0, ⟨fun _ => rfl, ⟨fun _ => rfl, ⟨fun _ => rfl, ⟨fun _ => rfl, ⟨fun _ => rfl, ⟨fun _ => rfl, trivial⟩⟩⟩⟩⟩⟩⟩⟩⟩) (by decide) rfl ?_
                      refine x_goto (t := 130) hC dL_isAhead_371 (by decide) ?_
                      refine x_sub (l' := [(0, va_rf r0), (1, .int i1), (2, .int v80), (3, .int v81), (4, .int (0 : Int32)), (6, .int (v82 + (1 : Int32)))]) [3, 4, 5, 6, 1, 0] rfl ?_
                      have hb := bk_x h hg_130
                      exact hb
                    · replace h := it_f c88 h
                      refine x_iload (i := 8) hC dL_isAhead_351 7 rfl ?_
                      refine x_if_ne (t := 365) hC dL_isAhead_353 (by decide) (fun c89 => ?_) (fun c89 => ?_)
                      · replace h := it_f c89 h
                        refine x_iconst (v := (0 : Int32)) hC dL_isAhead_365 (by decide) ?_
                        refine x_istore (i := 4) (l' := [(4, .int (0 : Int32)), (9, .int v85), (0, va_rf r0), (1, .int i1), (2, .int v80), (3, .int v81), (6, .int v82), (7, .int v83), (8, .int v84)]) hC dL_isAhead_366 (⟨fun _ => rfl, ⟨fun _ => c_rf r0, ⟨fun _ => rfl, ⟨fun _ => rfl, ⟨fun _ => rfl, ⟨fun _ => rfl, ⟨fun _ => rfl, ⟨fun _ => rfl, trivial⟩⟩⟩⟩⟩⟩⟩⟩) (by decide) rfl ?_
                        refine x_iinc (i := 6) (v := (v82 + (1 : Int32))) (l' := [(6, .int (v82 + (1 : Int32))), (4, .int (0 : Int32)), (9, .int v85), (0, va_rf r0), (1, .int i1), (2, .int v80), (3, .int v81), (7, .int v83), (8, .int v84)]) hC dL_isAhead_368 6 rfl rfl (⟨fun _ => rfl, ⟨fun _ => rfl, ⟨fun _ => c_rf r0, ⟨fun _ => rfl, ⟨fun _ => rfl, ⟨fun _ => rfl, ⟨fun _ => rfl, ⟨fun _ => rfl, ⟨fun _ => rfl, trivial⟩⟩⟩⟩⟩⟩⟩⟩⟩) (by decide) rfl ?_
                        refine x_goto (t := 130) hC dL_isAhead_371 (by decide) ?_
                        refine x_sub (l' := [(0, va_rf r0), (1, .int i1), (2, .int v80), (3, .int v81), (4, .int (0 : Int32)), (6, .int (v82 + (1 : Int32)))]) [3, 4, 5, 6, 1, 0] rfl ?_
                        have hb := bk_x h hg_130
                        exact hb
                      · replace h := it_t c89 h
                        refine x_iload (i := 9) hC dL_isAhead_356 0 rfl ?_
                        refine x_if_ne (t := 365) hC dL_isAhead_358 (by decide) (fun c90 => ?_) (fun c90 => ?_)
                        · replace h := it_f c90 h
                          refine x_iconst (v := (0 : Int32)) hC dL_isAhead_365 (by decide) ?_
                          refine x_istore (i := 4) (l' := [(4, .int (0 : Int32)), (9, .int v85), (0, va_rf r0), (1, .int i1), (2, .int v80), (3, .int v81), (6, .int v82), (7, .int v83), (8, .int v84)]) hC dL_isAhead_366 (⟨fun _ => rfl, ⟨fun _ => c_rf r0, ⟨fun _ => rfl, ⟨fun _ => rfl, ⟨fun _ => rfl, ⟨fun _ => rfl, ⟨fun _ => rfl, ⟨fun _ => rfl, trivial⟩⟩⟩⟩⟩⟩⟩⟩) (by decide) rfl ?_
                          refine x_iinc (i := 6) (v := (v82 + (1 : Int32))) (l' := [(6, .int (v82 + (1 : Int32))), (4, .int (0 : Int32)), (9, .int v85), (0, va_rf r0), (1, .int i1), (2, .int v80), (3, .int v81), (7, .int v83), (8, .int v84)]) hC dL_isAhead_368 6 rfl rfl (⟨fun _ => rfl, ⟨fun _ => rfl, ⟨fun _ => c_rf r0, ⟨fun _ => rfl, ⟨fun _ => rfl, ⟨fun _ => rfl, ⟨fun _ => rfl, ⟨fun _ => rfl, ⟨fun _ => rfl, trivial⟩⟩⟩⟩⟩⟩⟩⟩⟩) (by decide) rfl ?_
                          refine x_goto (t := 130) hC dL_isAhead_371 (by decide) ?_
                          refine x_sub (l' := [(0, va_rf r0), (1, .int i1), (2, .int v80), (3, .int v81), (4, .int (0 : Int32)), (6, .int (v82 + (1 : Int32)))]) [3, 4, 5, 6, 1, 0] rfl ?_
                          have hb := bk_x h hg_130
                          exact hb
                        · replace h := it_t c90 h
                          refine x_iconst (v := (1 : Int32)) hC dL_isAhead_361 (by decide) ?_
                          refine x_goto (t := 366) hC dL_isAhead_362 (by decide) ?_
                          refine x_istore (i := 4) (l' := [(4, .int (1 : Int32)), (9, .int v85), (0, va_rf r0), (1, .int i1), (2, .int v80), (3, .int v81), (6, .int v82), (7, .int v83), (8, .int v84)]) hC dL_isAhead_366 (⟨fun _ => rfl, ⟨fun _ => c_rf r0, ⟨fun _ => rfl, ⟨fun _ => rfl, ⟨fun _ => rfl, ⟨fun _ => rfl, ⟨fun _ => rfl, ⟨fun _ => rfl, trivial⟩⟩⟩⟩⟩⟩⟩⟩) (by decide) rfl ?_
                          refine x_iinc (i := 6) (v := (v82 + (1 : Int32))) (l' := [(6, .int (v82 + (1 : Int32))), (4, .int (1 : Int32)), (9, .int v85), (0, va_rf r0), (1, .int i1), (2, .int v80), (3, .int v81), (7, .int v83), (8, .int v84)]) hC dL_isAhead_368 6 rfl rfl (⟨fun _ => rfl, ⟨fun _ => rfl, ⟨fun _ => c_rf r0, ⟨fun _ => rfl, ⟨fun _ => rfl, ⟨fun _ => rfl, ⟨fun _ => rfl, ⟨fun _ => rfl, ⟨fun _ => rfl, trivial⟩⟩⟩⟩⟩⟩⟩⟩⟩) (by decide) rfl ?_
                          refine x_goto (t := 130) hC dL_isAhead_371 (by decide) ?_
                          refine x_sub (l' := [(0, va_rf r0), (1, .int i1), (2, .int v80), (3, .int v81), (4, .int (1 : Int32)), (6, .int (v82 + (1 : Int32)))]) [3, 4, 5, 6, 1, 0] rfl ?_
                          have hb := bk_x h hg_130
                          exact hb
                  · replace h := it_f c87 h
                    refine x_iload (i := 7) hC dL_isAhead_260 6 rfl ?_
                    refine x_iconst (v := (4 : Int32)) hC dL_isAhead_262 (by decide) ?_
                    refine x_icmp_lt (t := 270) hC dL_isAhead_263 (by decide) (fun c91 => ?_) (fun c91 => ?_)
                    · replace h := it_t c91 h
                      refine x_iconst (v := (0 : Int32)) hC dL_isAhead_270 (by decide) ?_
                      refine x_sub (l' := [(0, va_rf r0), (1, .int i1), (2, .int v80), (3, .int v81), (6, .int v82), (7, .int v83), (9, .int v85)]) [1, 2, 3, 4, 5, 6, 0] rfl ?_
                      exact J_271 _ _ _ _ _ _ _ h
                    · replace h := it_f c91 h
                      refine x_iconst (v := (1 : Int32)) hC dL_isAhead_266 (by decide) ?_
                      refine x_goto (t := 271) hC dL_isAhead_267 (by decide) ?_
                      refine x_sub (l' := [(0, va_rf r0), (1, .int i1), (2, .int v80), (3, .int v81), (6, .int v82), (7, .int v83), (9, .int v85)]) [1, 2, 3, 4, 5, 6, 0] rfl ?_
                      exact J_271 _ _ _ _ _ _ _ h
                have J_230 : ∀ (v66 : Int32) (v67 : Int32) (v68 : Int32) (v69 : Int32) (v70 : Int32) (S71 : PH), j_L_isAhead_230 r0 i1 v66 v67 v68 v69 v70 S71 = some x_130 → PX Z 10 S71 0 0 230 [(0, va_rf r0), (1, .int i1), (2, .int v66), (3, .int v67), (6, .int v68), (7, .int v69)] [.int v70] := by
                  intro v66 v67 v68 v69 v70 S71 h
                  unfold j_L_isAhead_230 at h
                  refine x_istore (i := 8) (l' := [(8, .int v70), (0, va_rf r0), (1, .int i1), (2, .int v66), (3, .int v67), (6, .int v68), (7, .int v69)]) hC dL_isAhead_230 (⟨fun _ => c_rf r0, ⟨fun _ => rfl, ⟨fun _ => rfl, ⟨fun _ => rfl, ⟨fun _ => rfl, ⟨fun _ => rfl, trivial⟩⟩⟩⟩⟩⟩) (by decide) rfl ?_
                  refine x_aload_n (i := 0) hC dL_isAhead_232 rfl 1 rfl ?_
                  refine x_iload (i := 6) hC dL_isAhead_233 5 rfl ?_
                  refine x_bipush (v := (8 : Int32)) hC dL_isAhead_235 (by decide) ?_
                  replace h := dr_el h
                  obtain ⟨a72, ea73, ha74, h⟩ := h
                  replace h := bt_el h
                  obtain ⟨v75, S76, hb156, h⟩ | ⟨j77, S78, hb156, h⟩ := h
                  · refine x_callV hC (st := []) (mtr_X4_personOf _ _ _ _ (v75, S76) hb156) ea73 ha74 kf_4 q_506 q_507 q_508 q_1 q_509 ⟨rfl, hy_X4_personOf⟩ ⟨Nat.le_of_ble_eq_true rfl, Nat.le_of_ble_eq_true rfl⟩ ⟨Nat.le_of_ble_eq_true rfl, Nat.le_of_ble_eq_true rfl⟩ rfl (Nat.le_of_ble_eq_true rfl) dL_isAhead_237 (r_N ?_) r_NX
                    show PX Z 10 S76 0 0 240 [(8, .int v70), (0, va_rf r0), (1, .int i1), (2, .int v66), (3, .int v67), (6, .int v68), (7, .int v69)] [.int v75]
                    refine x_iload_n (i := 1) hC dL_isAhead_240 rfl 2 rfl ?_
                    refine x_ishr hC dL_isAhead_241 ?_
                    refine x_iconst (v := (1 : Int32)) hC dL_isAhead_242 (by decide) ?_
                    refine x_iand hC dL_isAhead_243 ?_
                    refine x_iconst (v := (1 : Int32)) hC dL_isAhead_244 (by decide) ?_
                    refine x_icmp_ne (t := 252) hC dL_isAhead_245 (by decide) (fun c79 => ?_) (fun c79 => ?_)
                    · replace h := it_f c79 h
                      refine x_iconst (v := (0 : Int32)) hC dL_isAhead_252 (by decide) ?_
                      refine x_sub (l' := [(0, va_rf r0), (1, .int i1), (2, .int v66), (3, .int v67), (6, .int v68), (7, .int v69), (8, .int v70)]) [1, 2, 3, 4, 5, 6, 0] rfl ?_
                      exact J_253 _ _ _ _ _ _ _ h
                    · replace h := it_t c79 h
                      refine x_iconst (v := (1 : Int32)) hC dL_isAhead_248 (by decide) ?_
                      refine x_goto (t := 253) hC dL_isAhead_249 (by decide) ?_
                      refine x_sub (l' := [(0, va_rf r0), (1, .int i1), (2, .int v66), (3, .int v67), (6, .int v68), (7, .int v69), (8, .int v70)]) [1, 2, 3, 4, 5, 6, 0] rfl ?_
                      exact J_253 _ _ _ _ _ _ _ h
                  · refine x_callV hC (st := []) (mt_X4_personOf _ _ _ _ _ hb156) ea73 ha74 kf_4 q_506 q_507 q_508 q_1 q_509 ⟨rfl, hy_X4_personOf⟩ ⟨Nat.le_of_ble_eq_true rfl, Nat.le_of_ble_eq_true rfl⟩ ⟨Nat.le_of_ble_eq_true rfl, Nat.le_of_ble_eq_true rfl⟩ rfl (Nat.le_of_ble_eq_true rfl) dL_isAhead_237 r_X (r_XX ?_)
                    replace h := ir_x h hg_130
                    exact x_out hC hQ hE (z_X (Option.some.inj h)) (Nat.le_of_ble_eq_true rfl) (Nat.le_of_ble_eq_true rfl)
                unfold st_L_isAhead_130 at h
                refine x_iload (i := 6) hC dL_isAhead_130 5 rfl ?_
                refine x_bipush (v := (8 : Int32)) hC dL_isAhead_132 (by decide) ?_
                refine x_icmp_ge (t := 374) hC dL_isAhead_134 (by decide) (fun c43 => ?_) (fun c43 => ?_)
                · replace h := it_t c43 h
                  replace h := ir_x h hg_130
                  refine x_sub (l' := [(0, va_rf r0), (1, .int i1), (2, .int v38), (4, .int v40)]) [0, 1, 2, 4] rfl ?_
                  exact J_374 _ _ _ h
                · replace h := it_f c43 h
                  refine x_iload (i := 4) hC dL_isAhead_137 4 rfl ?_
                  refine x_if_eq (t := 374) hC dL_isAhead_139 (by decide) (fun c57 => ?_) (fun c57 => ?_)
                  · replace h := it_t c57 h
                    replace h := ir_x h hg_130
                    refine x_sub (l' := [(0, va_rf r0), (1, .int i1), (2, .int v38), (4, .int v40)]) [0, 1, 2, 4] rfl ?_
                    exact J_374 _ _ _ h
                  · replace h := it_f c57 h
                    refine x_aload_n (i := 0) hC dL_isAhead_142 rfl 0 rfl ?_
                    refine x_iload (i := 6) hC dL_isAhead_143 5 rfl ?_
                    refine x_iload_n (i := 1) hC dL_isAhead_145 rfl 1 rfl ?_
                    replace h := dr_el h
                    obtain ⟨a58, ea59, ha60, h⟩ := h
                    replace h := bt_el h
                    obtain ⟨v61, S62, hb226, h⟩ | ⟨j63, S64, hb226, h⟩ := h
                    · refine x_callV hC (st := []) (mtr_X4_whyNot _ _ _ _ (v61, S62) hb226) ea59 ha60 kf_4 q_445 q_446 q_447 q_1 q_448 ⟨rfl, hy_X4_whyNot⟩ ⟨Nat.le_of_ble_eq_true rfl, Nat.le_of_ble_eq_true rfl⟩ ⟨Nat.le_of_ble_eq_true rfl, Nat.le_of_ble_eq_true rfl⟩ rfl (Nat.le_of_ble_eq_true rfl) dL_isAhead_146 (r_N ?_) r_NX
                      show PX Z 10 S62 0 0 149 [(0, va_rf r0), (1, .int i1), (2, .int v38), (3, .int v39), (4, .int v40), (6, .int v41)] [.int v61]
                      refine x_istore (i := 7) (l' := [(7, .int v61), (0, va_rf r0), (1, .int i1), (2, .int v38), (3, .int v39), (4, .int v40), (6, .int v41)]) hC dL_isAhead_149 (⟨fun _ => c_rf r0, ⟨fun _ => rfl, ⟨fun _ => rfl, ⟨fun _ => rfl, ⟨fun _ => rfl, ⟨fun _ => rfl, trivial⟩⟩⟩⟩⟩⟩) (by decide) rfl ?_
                      refine x_iload_n (i := 3) hC dL_isAhead_151 rfl 4 rfl ?_
                      refine x_if_lt (t := 229) hC dL_isAhead_152 (by decide) (fun c65 => ?_) (fun c65 => ?_)
                      · replace h := it_t c65 h
                        refine x_iconst (v := (0 : Int32)) hC dL_isAhead_229 (by decide) ?_
                        refine x_sub (l' := [(0, va_rf r0), (1, .int i1), (2, .int v38), (3, .int v39), (6, .int v41), (7, .int v61)]) [1, 2, 3, 4, 6, 0] rfl ?_
                        exact J_230 _ _ _ _ _ _ h
                      · replace h := it_f c65 h
                        refine x_aload_n (i := 0) hC dL_isAhead_155 rfl 1 rfl ?_
                        refine x_iload (i := 6) hC dL_isAhead_156 6 rfl ?_
                        refine x_iconst (v := (3 : Int32)) hC dL_isAhead_158 (by decide) ?_
                        replace h := dr_el h
                        obtain ⟨a157, ea158, ha159, h⟩ := h
                        replace h := bt_el h
                        obtain ⟨v160, S161, hb225, h⟩ | ⟨j162, S163, hb225, h⟩ := h
                        · refine x_callV hC (st := []) (mtr_X4_personOf _ _ _ _ (v160, S161) hb225) ea158 ha159 kf_4 q_506 q_507 q_508 q_1 q_509 ⟨rfl, hy_X4_personOf⟩ ⟨Nat.le_of_ble_eq_true rfl, Nat.le_of_ble_eq_true rfl⟩ ⟨Nat.le_of_ble_eq_true rfl, Nat.le_of_ble_eq_true rfl⟩ rfl (Nat.le_of_ble_eq_true rfl) dL_isAhead_159 (r_N ?_) r_NX
                          show PX Z 10 S161 0 0 162 [(7, .int v61), (0, va_rf r0), (1, .int i1), (2, .int v38), (3, .int v39), (4, .int v40), (6, .int v41)] [.int v160]
                          refine x_aload_n (i := 0) hC dL_isAhead_162 rfl 1 rfl ?_
                          refine x_iload_n (i := 3) hC dL_isAhead_163 rfl 4 rfl ?_
                          refine x_iconst (v := (3 : Int32)) hC dL_isAhead_164 (by decide) ?_
                          replace h := dr_el h
                          obtain ⟨a164, ea165, ha166, h⟩ := h
                          replace h := bt_el h
                          obtain ⟨v167, S168, hb224, h⟩ | ⟨j169, S170, hb224, h⟩ := h
                          · refine x_callV hC (st := [.int v160]) (mtr_X4_personOf _ _ _ _ (v167, S168) hb224) ea165 ha166 kf_4 q_506 q_507 q_508 q_1 q_509 ⟨rfl, hy_X4_personOf⟩ ⟨Nat.le_of_ble_eq_true rfl, Nat.le_of_ble_eq_true rfl⟩ ⟨Nat.le_of_ble_eq_true rfl, Nat.le_of_ble_eq_true rfl⟩ rfl (Nat.le_of_ble_eq_true rfl) dL_isAhead_165 (r_N ?_) r_NX
                            show PX Z 10 S168 0 0 168 [(7, .int v61), (0, va_rf r0), (1, .int i1), (2, .int v38), (3, .int v39), (4, .int v40), (6, .int v41)] [.int v167, .int v160]
                            refine x_icmp_lt (t := 225) hC dL_isAhead_168 (by decide) (fun c171 => ?_) (fun c171 => ?_)
                            · replace h := it_t c171 h
                              refine x_iconst (v := (1 : Int32)) hC dL_isAhead_225 (by decide) ?_
                              refine x_goto (t := 230) hC dL_isAhead_226 (by decide) ?_
                              refine x_sub (l' := [(0, va_rf r0), (1, .int i1), (2, .int v38), (3, .int v39), (6, .int v41), (7, .int v61)]) [1, 2, 3, 4, 6, 0] rfl ?_
                              exact J_230 _ _ _ _ _ _ h
                            · replace h := it_f c171 h
                              refine x_aload_n (i := 0) hC dL_isAhead_171 rfl 1 rfl ?_
                              refine x_iload (i := 6) hC dL_isAhead_172 6 rfl ?_
                              refine x_iconst (v := (3 : Int32)) hC dL_isAhead_174 (by decide) ?_
                              replace h := dr_el h
                              obtain ⟨a172, ea173, ha174, h⟩ := h
                              replace h := bt_el h
                              obtain ⟨v175, S176, hb223, h⟩ | ⟨j177, S178, hb223, h⟩ := h
                              · refine x_callV hC (st := []) (mtr_X4_personOf _ _ _ _ (v175, S176) hb223) ea173 ha174 kf_4 q_506 q_507 q_508 q_1 q_509 ⟨rfl, hy_X4_personOf⟩ ⟨Nat.le_of_ble_eq_true rfl, Nat.le_of_ble_eq_true rfl⟩ ⟨Nat.le_of_ble_eq_true rfl, Nat.le_of_ble_eq_true rfl⟩ rfl (Nat.le_of_ble_eq_true rfl) dL_isAhead_175 (r_N ?_) r_NX
                                show PX Z 10 S176 0 0 178 [(7, .int v61), (0, va_rf r0), (1, .int i1), (2, .int v38), (3, .int v39), (4, .int v40), (6, .int v41)] [.int v175]
                                refine x_aload_n (i := 0) hC dL_isAhead_178 rfl 1 rfl ?_
                                refine x_iload_n (i := 3) hC dL_isAhead_179 rfl 4 rfl ?_
                                refine x_iconst (v := (3 : Int32)) hC dL_isAhead_180 (by decide) ?_
                                replace h := dr_el h
                                obtain ⟨a179, ea180, ha181, h⟩ := h
                                replace h := bt_el h
                                obtain ⟨v182, S183, hb222, h⟩ | ⟨j184, S185, hb222, h⟩ := h
                                · refine x_callV hC (st := [.int v175]) (mtr_X4_personOf _ _ _ _ (v182, S183) hb222) ea180 ha181 kf_4 q_506 q_507 q_508 q_1 q_509 ⟨rfl, hy_X4_personOf⟩ ⟨Nat.le_of_ble_eq_true rfl, Nat.le_of_ble_eq_true rfl⟩ ⟨Nat.le_of_ble_eq_true rfl, Nat.le_of_ble_eq_true rfl⟩ rfl (Nat.le_of_ble_eq_true rfl) dL_isAhead_181 (r_N ?_) r_NX
                                  show PX Z 10 S183 0 0 184 [(7, .int v61), (0, va_rf r0), (1, .int i1), (2, .int v38), (3, .int v39), (4, .int v40), (6, .int v41)] [.int v182, .int v175]
                                  refine x_icmp_ne (t := 229) hC dL_isAhead_184 (by decide) (fun c186 => ?_) (fun c186 => ?_)
                                  · replace h := it_f c186 h
                                    refine x_iconst (v := (0 : Int32)) hC dL_isAhead_229 (by decide) ?_
                                    refine x_sub (l' := [(0, va_rf r0), (1, .int i1), (2, .int v38), (3, .int v39), (6, .int v41), (7, .int v61)]) [1, 2, 3, 4, 6, 0] rfl ?_
                                    exact J_230 _ _ _ _ _ _ h
                                  · replace h := it_t c186 h
                                    refine x_aload_n (i := 0) hC dL_isAhead_187 rfl 1 rfl ?_
                                    refine x_iload (i := 6) hC dL_isAhead_188 6 rfl ?_
                                    refine x_iconst (v := (0 : Int32)) hC dL_isAhead_190 (by decide) ?_
                                    replace h := dr_el h
                                    obtain ⟨a187, ea188, ha189, h⟩ := h
                                    replace h := bt_el h
                                    obtain ⟨v190, S191, hb221, h⟩ | ⟨j192, S193, hb221, h⟩ := h
                                    · refine x_callV hC (st := []) (mtr_X4_personOf _ _ _ _ (v190, S191) hb221) ea188 ha189 kf_4 q_506 q_507 q_508 q_1 q_509 ⟨rfl, hy_X4_personOf⟩ ⟨Nat.le_of_ble_eq_true rfl, Nat.le_of_ble_eq_true rfl⟩ ⟨Nat.le_of_ble_eq_true rfl, Nat.le_of_ble_eq_true rfl⟩ rfl (Nat.le_of_ble_eq_true rfl) dL_isAhead_191 (r_N ?_) r_NX
                                      show PX Z 10 S191 0 0 194 [(7, .int v61), (0, va_rf r0), (1, .int i1), (2, .int v38), (3, .int v39), (4, .int v40), (6, .int v41)] [.int v190]
                                      refine x_aload_n (i := 0) hC dL_isAhead_194 rfl 1 rfl ?_
                                      refine x_iload_n (i := 3) hC dL_isAhead_195 rfl 4 rfl ?_
                                      refine x_iconst (v := (0 : Int32)) hC dL_isAhead_196 (by decide) ?_
                                      replace h := dr_el h
                                      obtain ⟨a194, ea195, ha196, h⟩ := h
                                      replace h := bt_el h
                                      obtain ⟨v197, S198, hb220, h⟩ | ⟨j199, S200, hb220, h⟩ := h
                                      · refine x_callV hC (st := [.int v190]) (mtr_X4_personOf _ _ _ _ (v197, S198) hb220) ea195 ha196 kf_4 q_506 q_507 q_508 q_1 q_509 ⟨rfl, hy_X4_personOf⟩ ⟨Nat.le_of_ble_eq_true rfl, Nat.le_of_ble_eq_true rfl⟩ ⟨Nat.le_of_ble_eq_true rfl, Nat.le_of_ble_eq_true rfl⟩ rfl (Nat.le_of_ble_eq_true rfl) dL_isAhead_197 (r_N ?_) r_NX
                                        show PX Z 10 S198 0 0 200 [(7, .int v61), (0, va_rf r0), (1, .int i1), (2, .int v38), (3, .int v39), (4, .int v40), (6, .int v41)] [.int v197, .int v190]
                                        refine x_icmp_gt (t := 225) hC dL_isAhead_200 (by decide) (fun c201 => ?_) (fun c201 => ?_)
                                        · replace h := it_t c201 h
                                          refine x_iconst (v := (1 : Int32)) hC dL_isAhead_225 (by decide) ?_
                                          refine x_goto (t := 230) hC dL_isAhead_226 (by decide) ?_
                                          refine x_sub (l' := [(0, va_rf r0), (1, .int i1), (2, .int v38), (3, .int v39), (6, .int v41), (7, .int v61)]) [1, 2, 3, 4, 6, 0] rfl ?_
                                          exact J_230 _ _ _ _ _ _ h
                                        · replace h := it_f c201 h
                                          refine x_aload_n (i := 0) hC dL_isAhead_203 rfl 1 rfl ?_
                                          refine x_iload (i := 6) hC dL_isAhead_204 6 rfl ?_
                                          refine x_iconst (v := (0 : Int32)) hC dL_isAhead_206 (by decide) ?_
                                          replace h := dr_el h
                                          obtain ⟨a202, ea203, ha204, h⟩ := h
                                          replace h := bt_el h
                                          obtain ⟨v205, S206, hb219, h⟩ | ⟨j207, S208, hb219, h⟩ := h
                                          · refine x_callV hC (st := []) (mtr_X4_personOf _ _ _ _ (v205, S206) hb219) ea203 ha204 kf_4 q_506 q_507 q_508 q_1 q_509 ⟨rfl, hy_X4_personOf⟩ ⟨Nat.le_of_ble_eq_true rfl, Nat.le_of_ble_eq_true rfl⟩ ⟨Nat.le_of_ble_eq_true rfl, Nat.le_of_ble_eq_true rfl⟩ rfl (Nat.le_of_ble_eq_true rfl) dL_isAhead_207 (r_N ?_) r_NX
                                            show PX Z 10 S206 0 0 210 [(7, .int v61), (0, va_rf r0), (1, .int i1), (2, .int v38), (3, .int v39), (4, .int v40), (6, .int v41)] [.int v205]
                                            refine x_aload_n (i := 0) hC dL_isAhead_210 rfl 1 rfl ?_
                                            refine x_iload_n (i := 3) hC dL_isAhead_211 rfl 4 rfl ?_
                                            refine x_iconst (v := (0 : Int32)) hC dL_isAhead_212 (by decide) ?_
                                            replace h := dr_el h
                                            obtain ⟨a209, ea210, ha211, h⟩ := h
                                            replace h := bt_el h
                                            obtain ⟨v212, S213, hb218, h⟩ | ⟨j214, S215, hb218, h⟩ := h
                                            · refine x_callV hC (st := [.int v205]) (mtr_X4_personOf _ _ _ _ (v212, S213) hb218) ea210 ha211 kf_4 q_506 q_507 q_508 q_1 q_509 ⟨rfl, hy_X4_personOf⟩ ⟨Nat.le_of_ble_eq_true rfl, Nat.le_of_ble_eq_true rfl⟩ ⟨Nat.le_of_ble_eq_true rfl, Nat.le_of_ble_eq_true rfl⟩ rfl (Nat.le_of_ble_eq_true rfl) dL_isAhead_213 (r_N ?_) r_NX
                                              show PX Z 10 S213 0 0 216 [(7, .int v61), (0, va_rf r0), (1, .int i1), (2, .int v38), (3, .int v39), (4, .int v40), (6, .int v41)] [.int v212, .int v205]
                                              refine x_icmp_ne (t := 229) hC dL_isAhead_216 (by decide) (fun c216 => ?_) (fun c216 => ?_)
                                              · replace h := it_f c216 h
                                                refine x_iconst (v := (0 : Int32)) hC dL_isAhead_229 (by decide) ?_
                                                refine x_sub (l' := [(0, va_rf r0), (1, .int i1), (2, .int v38), (3, .int v39), (6, .int v41), (7, .int v61)]) [1, 2, 3, 4, 6, 0] rfl ?_
                                                exact J_230 _ _ _ _ _ _ h
                                              · replace h := it_t c216 h
                                                refine x_iload (i := 6) hC dL_isAhead_219 6 rfl ?_
                                                refine x_iload_n (i := 3) hC dL_isAhead_221 rfl 4 rfl ?_
                                                refine x_icmp_ge (t := 229) hC dL_isAhead_222 (by decide) (fun c217 => ?_) (fun c217 => ?_)
                                                · replace h := it_t c217 h
                                                  refine x_iconst (v := (0 : Int32)) hC dL_isAhead_229 (by decide) ?_
                                                  refine x_sub (l' := [(0, va_rf r0), (1, .int i1), (2, .int v38), (3, .int v39), (6, .int v41), (7, .int v61)]) [1, 2, 3, 4, 6, 0] rfl ?_
                                                  exact J_230 _ _ _ _ _ _ h
                                                · replace h := it_f c217 h
                                                  refine x_iconst (v := (1 : Int32)) hC dL_isAhead_225 (by decide) ?_
                                                  refine x_goto (t := 230) hC dL_isAhead_226 (by decide) ?_
                                                  refine x_sub (l' := [(0, va_rf r0), (1, .int i1), (2, .int v38), (3, .int v39), (6, .int v41), (7, .int v61)]) [1, 2, 3, 4, 6, 0] rfl ?_
                                                  exact J_230 _ _ _ _ _ _ h
                                            · refine x_callV hC (st := [.int v205]) (mt_X4_personOf _ _ _ _ _ hb218) ea210 ha211 kf_4 q_506 q_507 q_508 q_1 q_509 ⟨rfl, hy_X4_personOf⟩ ⟨Nat.le_of_ble_eq_true rfl, Nat.le_of_ble_eq_true rfl⟩ ⟨Nat.le_of_ble_eq_true rfl, Nat.le_of_ble_eq_true rfl⟩ rfl (Nat.le_of_ble_eq_true rfl) dL_isAhead_213 r_X (r_XX ?_)
                                              replace h := ir_x h hg_130
                                              exact x_out hC hQ hE (z_X (Option.some.inj h)) (Nat.le_of_ble_eq_true rfl) (Nat.le_of_ble_eq_true rfl)
                                          · refine x_callV hC (st := []) (mt_X4_personOf _ _ _ _ _ hb219) ea203 ha204 kf_4 q_506 q_507 q_508 q_1 q_509 ⟨rfl, hy_X4_personOf⟩ ⟨Nat.le_of_ble_eq_true rfl, Nat.le_of_ble_eq_true rfl⟩ ⟨Nat.le_of_ble_eq_true rfl, Nat.le_of_ble_eq_true rfl⟩ rfl (Nat.le_of_ble_eq_true rfl) dL_isAhead_207 r_X (r_XX ?_)
                                            replace h := ir_x h hg_130
                                            exact x_out hC hQ hE (z_X (Option.some.inj h)) (Nat.le_of_ble_eq_true rfl) (Nat.le_of_ble_eq_true rfl)
                                      · refine x_callV hC (st := [.int v190]) (mt_X4_personOf _ _ _ _ _ hb220) ea195 ha196 kf_4 q_506 q_507 q_508 q_1 q_509 ⟨rfl, hy_X4_personOf⟩ ⟨Nat.le_of_ble_eq_true rfl, Nat.le_of_ble_eq_true rfl⟩ ⟨Nat.le_of_ble_eq_true rfl, Nat.le_of_ble_eq_true rfl⟩ rfl (Nat.le_of_ble_eq_true rfl) dL_isAhead_197 r_X (r_XX ?_)
                                        replace h := ir_x h hg_130
                                        exact x_out hC hQ hE (z_X (Option.some.inj h)) (Nat.le_of_ble_eq_true rfl) (Nat.le_of_ble_eq_true rfl)
                                    · refine x_callV hC (st := []) (mt_X4_personOf _ _ _ _ _ hb221) ea188 ha189 kf_4 q_506 q_507 q_508 q_1 q_509 ⟨rfl, hy_X4_personOf⟩ ⟨Nat.le_of_ble_eq_true rfl, Nat.le_of_ble_eq_true rfl⟩ ⟨Nat.le_of_ble_eq_true rfl, Nat.le_of_ble_eq_true rfl⟩ rfl (Nat.le_of_ble_eq_true rfl) dL_isAhead_191 r_X (r_XX ?_)
                                      replace h := ir_x h hg_130
                                      exact x_out hC hQ hE (z_X (Option.some.inj h)) (Nat.le_of_ble_eq_true rfl) (Nat.le_of_ble_eq_true rfl)
                                · refine x_callV hC (st := [.int v175]) (mt_X4_personOf _ _ _ _ _ hb222) ea180 ha181 kf_4 q_506 q_507 q_508 q_1 q_509 ⟨rfl, hy_X4_personOf⟩ ⟨Nat.le_of_ble_eq_true rfl, Nat.le_of_ble_eq_true rfl⟩ ⟨Nat.le_of_ble_eq_true rfl, Nat.le_of_ble_eq_true rfl⟩ rfl (Nat.le_of_ble_eq_true rfl) dL_isAhead_181 r_X (r_XX ?_)
                                  replace h := ir_x h hg_130
                                  exact x_out hC hQ hE (z_X (Option.some.inj h)) (Nat.le_of_ble_eq_true rfl) (Nat.le_of_ble_eq_true rfl)
                              · refine x_callV hC (st := []) (mt_X4_personOf _ _ _ _ _ hb223) ea173 ha174 kf_4 q_506 q_507 q_508 q_1 q_509 ⟨rfl, hy_X4_personOf⟩ ⟨Nat.le_of_ble_eq_true rfl, Nat.le_of_ble_eq_true rfl⟩ ⟨Nat.le_of_ble_eq_true rfl, Nat.le_of_ble_eq_true rfl⟩ rfl (Nat.le_of_ble_eq_true rfl) dL_isAhead_175 r_X (r_XX ?_)
                                replace h := ir_x h hg_130
                                exact x_out hC hQ hE (z_X (Option.some.inj h)) (Nat.le_of_ble_eq_true rfl) (Nat.le_of_ble_eq_true rfl)
                          · refine x_callV hC (st := [.int v160]) (mt_X4_personOf _ _ _ _ _ hb224) ea165 ha166 kf_4 q_506 q_507 q_508 q_1 q_509 ⟨rfl, hy_X4_personOf⟩ ⟨Nat.le_of_ble_eq_true rfl, Nat.le_of_ble_eq_true rfl⟩ ⟨Nat.le_of_ble_eq_true rfl, Nat.le_of_ble_eq_true rfl⟩ rfl (Nat.le_of_ble_eq_true rfl) dL_isAhead_165 r_X (r_XX ?_)
                            replace h := ir_x h hg_130
                            exact x_out hC hQ hE (z_X (Option.some.inj h)) (Nat.le_of_ble_eq_true rfl) (Nat.le_of_ble_eq_true rfl)
                        · refine x_callV hC (st := []) (mt_X4_personOf _ _ _ _ _ hb225) ea158 ha159 kf_4 q_506 q_507 q_508 q_1 q_509 ⟨rfl, hy_X4_personOf⟩ ⟨Nat.le_of_ble_eq_true rfl, Nat.le_of_ble_eq_true rfl⟩ ⟨Nat.le_of_ble_eq_true rfl, Nat.le_of_ble_eq_true rfl⟩ rfl (Nat.le_of_ble_eq_true rfl) dL_isAhead_159 r_X (r_XX ?_)
                          replace h := ir_x h hg_130
                          exact x_out hC hQ hE (z_X (Option.some.inj h)) (Nat.le_of_ble_eq_true rfl) (Nat.le_of_ble_eq_true rfl)
                    · refine x_callV hC (st := []) (mt_X4_whyNot _ _ _ _ _ hb226) ea59 ha60 kf_4 q_445 q_446 q_447 q_1 q_448 ⟨rfl, hy_X4_whyNot⟩ ⟨Nat.le_of_ble_eq_true rfl, Nat.le_of_ble_eq_true rfl⟩ ⟨Nat.le_of_ble_eq_true rfl, Nat.le_of_ble_eq_true rfl⟩ rfl (Nat.le_of_ble_eq_true rfl) dL_isAhead_146 r_X (r_XX ?_)
                      replace h := ir_x h hg_130
                      exact x_out hC hQ hE (z_X (Option.some.inj h)) (Nat.le_of_ble_eq_true rfl) (Nat.le_of_ble_eq_true rfl)
              · replace h := it_f c37 h
                refine x_iload (i := 5) hC dL_isAhead_106 5 rfl ?_
                refine x_iload_n (i := 2) hC dL_isAhead_108 rfl 2 rfl ?_
                refine x_if_le (t := 116) hC dL_isAhead_109 (by decide) (fun c227 => ?_) (fun c227 => ?_)
                · replace h := it_t c227 h
                  refine x_iconst (v := (0 : Int32)) hC dL_isAhead_116 (by decide) ?_
                  refine x_sub (l' := [(0, va_rf r0), (1, .int i1), (2, .int v23), (3, .int v24)]) [0, 1, 2, 3] rfl ?_
                  exact J_117 _ _ _ _ _ h
                · replace h := it_f c227 h
                  refine x_iconst (v := (1 : Int32)) hC dL_isAhead_112 (by decide) ?_
                  refine x_goto (t := 117) hC dL_isAhead_113 (by decide) ?_
                  refine x_sub (l' := [(0, va_rf r0), (1, .int i1), (2, .int v23), (3, .int v24)]) [0, 1, 2, 3] rfl ?_
                  exact J_117 _ _ _ _ _ h
            · replace h := it_f c36 h
              refine x_iload (i := 5) hC dL_isAhead_73 5 rfl ?_
              refine x_if_ne (t := 88) hC dL_isAhead_75 (by decide) (fun c404 => ?_) (fun c404 => ?_)
              · replace h := it_f c404 h
                refine x_iconst (v := (1 : Int32)) hC dL_isAhead_88 (by decide) ?_
                refine x_goto (t := 93) hC dL_isAhead_89 (by decide) ?_
                refine x_istore (i := 5) (l' := [(5, .int (1 : Int32)), (0, va_rf r0), (1, .int i1), (2, .int v23), (3, .int v24), (4, .int v25), (6, .int v27)]) hC dL_isAhead_93 (⟨fun _ => c_rf r0, ⟨fun _ => rfl, ⟨fun _ => rfl, ⟨fun _ => rfl, ⟨fun _ => rfl, ⟨fun _ => rfl, ⟨fun _ => rfl, trivial⟩⟩⟩⟩⟩⟩⟩) (by decide) rfl ?_
                refine x_iinc (i := 6) (v := (v27 + (1 : Int32))) (l' := [(6, .int (v27 + (1 : Int32))), (5, .int (1 : Int32)), (0, va_rf r0), (1, .int i1), (2, .int v23), (3, .int v24), (4, .int v25)]) hC dL_isAhead_95 6 rfl rfl (⟨fun _ => rfl, ⟨fun _ => c_rf r0, ⟨fun _ => rfl, ⟨fun _ => rfl, ⟨fun _ => rfl, ⟨fun _ => rfl, ⟨fun _ => rfl, trivial⟩⟩⟩⟩⟩⟩⟩) (by decide) rfl ?_
                refine x_goto (t := 63) hC dL_isAhead_98 (by decide) ?_
                refine x_sub (l' := [(0, va_rf r0), (1, .int i1), (2, .int v23), (3, .int v24), (4, .int v25), (5, .int (1 : Int32)), (6, .int (v27 + (1 : Int32)))]) [2, 3, 4, 5, 6, 1, 0] rfl ?_
                have hb := bk_x h hg_63
                exact hb
              · replace h := it_t c404 h
                refine x_aload_n (i := 0) hC dL_isAhead_78 rfl 0 rfl ?_
                refine x_iload (i := 6) hC dL_isAhead_79 6 rfl ?_
                replace h := dr_el h
                obtain ⟨a405, ea406, ha407, h⟩ := h
                replace h := bt_el h
                obtain ⟨v408, S409, hb413, h⟩ | ⟨j410, S411, hb413, h⟩ := h
                · refine x_callV hC (st := []) (mtr_X4_bestReviewer _ _ _ (v408, S409) hb413) ea406 ha407 kf_4 q_688 q_689 q_690 q_1 q_691 ⟨rfl, hy_X4_bestReviewer⟩ ⟨Nat.le_of_ble_eq_true rfl, Nat.le_of_ble_eq_true rfl⟩ ⟨Nat.le_of_ble_eq_true rfl, Nat.le_of_ble_eq_true rfl⟩ rfl (Nat.le_of_ble_eq_true rfl) dL_isAhead_81 (r_N ?_) r_NX
                  show PX Z 10 S409 0 0 84 [(0, va_rf r0), (1, .int i1), (2, .int v23), (3, .int v24), (4, .int v25), (5, .int v26), (6, .int v27)] [.int v408]
                  refine x_iconst (v := (-1 : Int32)) hC dL_isAhead_84 (by decide) ?_
                  refine x_icmp_eq (t := 92) hC dL_isAhead_85 (by decide) (fun c412 => ?_) (fun c412 => ?_)
                  · replace h := it_t c412 h
                    refine x_iconst (v := (0 : Int32)) hC dL_isAhead_92 (by decide) ?_
                    refine x_istore (i := 5) (l' := [(5, .int (0 : Int32)), (0, va_rf r0), (1, .int i1), (2, .int v23), (3, .int v24), (4, .int v25), (6, .int v27)]) hC dL_isAhead_93 (⟨fun _ => c_rf r0, ⟨fun _ => rfl, ⟨fun _ => rfl, ⟨fun _ => rfl, ⟨fun _ => rfl, ⟨fun _ => rfl, ⟨fun _ => rfl, trivial⟩⟩⟩⟩⟩⟩⟩) (by decide) rfl ?_
                    refine x_iinc (i := 6) (v := (v27 + (1 : Int32))) (l' := [(6, .int (v27 + (1 : Int32))), (5, .int (0 : Int32)), (0, va_rf r0), (1, .int i1), (2, .int v23), (3, .int v24), (4, .int v25)]) hC dL_isAhead_95 6 rfl rfl (⟨fun _ => rfl, ⟨fun _ => c_rf r0, ⟨fun _ => rfl, ⟨fun _ => rfl, ⟨fun _ => rfl, ⟨fun _ => rfl, ⟨fun _ => rfl, trivial⟩⟩⟩⟩⟩⟩⟩) (by decide) rfl ?_
                    refine x_goto (t := 63) hC dL_isAhead_98 (by decide) ?_
                    refine x_sub (l' := [(0, va_rf r0), (1, .int i1), (2, .int v23), (3, .int v24), (4, .int v25), (5, .int (0 : Int32)), (6, .int (v27 + (1 : Int32)))]) [2, 3, 4, 5, 6, 1, 0] rfl ?_
                    have hb := bk_x h hg_63
                    exact hb
                  · replace h := it_f c412 h
                    refine x_iconst (v := (1 : Int32)) hC dL_isAhead_88 (by decide) ?_
                    refine x_goto (t := 93) hC dL_isAhead_89 (by decide) ?_
                    refine x_istore (i := 5) (l' := [(5, .int (1 : Int32)), (0, va_rf r0), (1, .int i1), (2, .int v23), (3, .int v24), (4, .int v25), (6, .int v27)]) hC dL_isAhead_93 (⟨fun _ => c_rf r0, ⟨fun _ => rfl, ⟨fun _ => rfl, ⟨fun _ => rfl, ⟨fun _ => rfl, ⟨fun _ => rfl, ⟨fun _ => rfl, trivial⟩⟩⟩⟩⟩⟩⟩) (by decide) rfl ?_
                    refine x_iinc (i := 6) (v := (v27 + (1 : Int32))) (l' := [(6, .int (v27 + (1 : Int32))), (5, .int (1 : Int32)), (0, va_rf r0), (1, .int i1), (2, .int v23), (3, .int v24), (4, .int v25)]) hC dL_isAhead_95 6 rfl rfl (⟨fun _ => rfl, ⟨fun _ => c_rf r0, ⟨fun _ => rfl, ⟨fun _ => rfl, ⟨fun _ => rfl, ⟨fun _ => rfl, ⟨fun _ => rfl, trivial⟩⟩⟩⟩⟩⟩⟩) (by decide) rfl ?_
                    refine x_goto (t := 63) hC dL_isAhead_98 (by decide) ?_
                    refine x_sub (l' := [(0, va_rf r0), (1, .int i1), (2, .int v23), (3, .int v24), (4, .int v25), (5, .int (1 : Int32)), (6, .int (v27 + (1 : Int32)))]) [2, 3, 4, 5, 6, 1, 0] rfl ?_
                    have hb := bk_x h hg_63
                    exact hb
                · refine x_callV hC (st := []) (mt_X4_bestReviewer _ _ _ _ hb413) ea406 ha407 kf_4 q_688 q_689 q_690 q_1 q_691 ⟨rfl, hy_X4_bestReviewer⟩ ⟨Nat.le_of_ble_eq_true rfl, Nat.le_of_ble_eq_true rfl⟩ ⟨Nat.le_of_ble_eq_true rfl, Nat.le_of_ble_eq_true rfl⟩ rfl (Nat.le_of_ble_eq_true rfl) dL_isAhead_81 r_X (r_XX ?_)
                  replace h := ir_x h hg_63
                  exact x_out hC hQ hE (z_X (Option.some.inj h)) (Nat.le_of_ble_eq_true rfl) (Nat.le_of_ble_eq_true rfl)
          · refine x_callV hC (st := [.int v27]) (mt_X4_count _ _ _ _ hb414) ea30 ha31 kf_4 q_406 q_407 q_408 q_1 q_409 ⟨rfl, hy_X4_count⟩ ⟨Nat.le_of_ble_eq_true rfl, Nat.le_of_ble_eq_true rfl⟩ ⟨Nat.le_of_ble_eq_true rfl, Nat.le_of_ble_eq_true rfl⟩ rfl (Nat.le_of_ble_eq_true rfl) dL_isAhead_67 r_X (r_XX ?_)
            replace h := ir_x h hg_63
            exact x_out hC hQ hE (z_X (Option.some.inj h)) (Nat.le_of_ble_eq_true rfl) (Nat.le_of_ble_eq_true rfl)
        · replace h := it_t c22 h
          refine x_iload_n (i := 2) hC dL_isAhead_21 rfl 1 rfl ?_
          refine x_if_lt (t := 54) hC dL_isAhead_22 (by decide) (fun c415 => ?_) (fun c415 => ?_)
          · replace h := it_t c415 h
            refine x_iconst (v := (0 : Int32)) hC dL_isAhead_54 (by decide) ?_
            refine x_istore (i := 4) (l' := [(4, .int (0 : Int32)), (3, .int v11), (2, .int v4), (0, va_rf r0), (1, .int i1)]) hC dL_isAhead_55 (⟨fun _ => rfl, ⟨fun _ => rfl, ⟨fun _ => c_rf r0, ⟨fun _ => rfl, trivial⟩⟩⟩⟩) (by decide) rfl ?_
            refine x_iconst (v := (0 : Int32)) hC dL_isAhead_57 (by decide) ?_
            refine x_istore (i := 5) (l' := [(5, .int (0 : Int32)), (4, .int (0 : Int32)), (3, .int v11), (2, .int v4), (0, va_rf r0), (1, .int i1)]) hC dL_isAhead_58 (⟨fun _ => rfl, ⟨fun _ => rfl, ⟨fun _ => rfl, ⟨fun _ => c_rf r0, ⟨fun _ => rfl, trivial⟩⟩⟩⟩⟩) (by decide) rfl ?_
            refine x_iconst (v := (0 : Int32)) hC dL_isAhead_60 (by decide) ?_
            refine x_istore (i := 6) (l' := [(6, .int (0 : Int32)), (5, .int (0 : Int32)), (4, .int (0 : Int32)), (3, .int v11), (2, .int v4), (0, va_rf r0), (1, .int i1)]) hC dL_isAhead_61 (⟨fun _ => rfl, ⟨fun _ => rfl, ⟨fun _ => rfl, ⟨fun _ => rfl, ⟨fun _ => c_rf r0, ⟨fun _ => rfl, trivial⟩⟩⟩⟩⟩⟩) (by decide) rfl ?_
            refine x_sub (l' := [(0, va_rf r0), (1, .int i1), (2, .int v4), (3, .int v11), (4, .int (0 : Int32)), (5, .int (0 : Int32)), (6, .int (0 : Int32))]) [5, 6, 4, 3, 2, 1, 0] rfl ?_
            refine lp_sim (P := fun (t : (Int32 × Int32 × Int32 × Int32 × Int32 × PH)) => PX Z 10 t.2.2.2.2.2 0 0 63 [(0, va_rf r0), (1, .int i1), (2, .int t.1), (3, .int t.2.1), (4, .int t.2.2.1), (5, .int t.2.2.2.1), (6, .int t.2.2.2.2.1)] []) (G := fun r => r = y) ?_ h rfl
            clear h
            intro t x_63 h hg_63
            obtain ⟨v416, v417, v418, v419, v420, S421⟩ := t
            show PX Z 10 S421 0 0 63 [(0, va_rf r0), (1, .int i1), (2, .int v416), (3, .int v417), (4, .int v418), (5, .int v419), (6, .int v420)] []
            unfold st_L_isAhead_63 at h
            refine x_iload (i := 6) hC dL_isAhead_63 6 rfl ?_
            refine x_aload_n (i := 0) hC dL_isAhead_65 rfl 0 rfl ?_
            refine x_iconst (v := (0 : Int32)) hC dL_isAhead_66 (by decide) ?_
            replace h := dr_el h
            obtain ⟨a422, ea423, ha424, h⟩ := h
            replace h := bt_el h
            obtain ⟨v425, S426, hb527, h⟩ | ⟨j427, S428, hb527, h⟩ := h
            · refine x_callV hC (st := [.int v420]) (mtr_X4_count _ _ _ (v425, S426) hb527) ea423 ha424 kf_4 q_406 q_407 q_408 q_1 q_409 ⟨rfl, hy_X4_count⟩ ⟨Nat.le_of_ble_eq_true rfl, Nat.le_of_ble_eq_true rfl⟩ ⟨Nat.le_of_ble_eq_true rfl, Nat.le_of_ble_eq_true rfl⟩ rfl (Nat.le_of_ble_eq_true rfl) dL_isAhead_67 (r_N ?_) r_NX
              show PX Z 10 S426 0 0 70 [(0, va_rf r0), (1, .int i1), (2, .int v416), (3, .int v417), (4, .int v418), (5, .int v419), (6, .int v420)] [.int v425, .int v420]
              refine x_icmp_ge (t := 101) hC dL_isAhead_70 (by decide) (fun c429 => ?_) (fun c429 => ?_)
              · replace h := it_t c429 h
                replace h := ir_x h hg_63
                refine x_iload (i := 4) hC dL_isAhead_101 4 rfl ?_
                refine x_if_eq (t := 124) hC dL_isAhead_103 (by decide) (fun c430 => ?_) (fun c430 => ?_)
                · replace h := it_t c430 h
                  refine x_iconst (v := (0 : Int32)) hC dL_isAhead_124 (by decide) ?_
                  refine x_istore (i := 4) (l' := [(4, .int (0 : Int32)), (0, va_rf r0), (1, .int i1), (2, .int v416), (3, .int v417), (5, .int v419), (6, .int v420)]) hC dL_isAhead_125 (⟨fun _ => c_rf r0, ⟨fun _ => rfl, ⟨fun _ => rfl, ⟨fun _ => rfl, ⟨fun _ => rfl, ⟨fun _ => rfl, ⟨fun _ => rfl, trivial⟩⟩⟩⟩⟩⟩⟩) (by decide) rfl ?_
                  refine x_iconst (v := (0 : Int32)) hC dL_isAhead_127 (by decide) ?_
                  refine x_istore (i := 6) (l' := [(6, .int (0 : Int32)), (4, .int (0 : Int32)), (0, va_rf r0), (1, .int i1), (2, .int v416), (3, .int v417), (5, .int v419)]) hC dL_isAhead_128 (⟨fun _ => rfl, ⟨fun _ => c_rf r0, ⟨fun _ => rfl, ⟨fun _ => rfl, ⟨fun _ => rfl, ⟨fun _ => rfl, ⟨fun _ => rfl, trivial⟩⟩⟩⟩⟩⟩⟩) (by decide) rfl ?_
                  refine x_sub (l' := [(0, va_rf r0), (1, .int i1), (2, .int v416), (3, .int v417), (4, .int (0 : Int32)), (6, .int (0 : Int32))]) [2, 3, 4, 5, 1, 0] rfl ?_
                  refine lp_sim (P := fun (t : (Int32 × Int32 × Int32 × Int32 × PH)) => PX Z 10 t.2.2.2.2 0 0 130 [(0, va_rf r0), (1, .int i1), (2, .int t.1), (3, .int t.2.1), (4, .int t.2.2.1), (6, .int t.2.2.2.1)] []) (G := fun r => r = y) ?_ h rfl
                  clear h
                  intro t x_130 h hg_130
                  obtain ⟨v431, v432, v433, v434, S435⟩ := t
                  show PX Z 10 S435 0 0 130 [(0, va_rf r0), (1, .int i1), (2, .int v431), (3, .int v432), (4, .int v433), (6, .int v434)] []
                  have J_328 : ∀ (v117 : Int32) (v118 : Int32) (v119 : Int32) (v120 : Int32) (v121 : Int32) (S122 : PH), j_L_isAhead_328 r0 i1 v117 v118 v119 v120 v121 S122 = some x_130 → PX Z 10 S122 0 0 328 [(0, va_rf r0), (1, .int i1), (2, .int v117), (3, .int v118), (6, .int v119), (7, .int v120), (9, .int v121)] [] := by
                    intro v117 v118 v119 v120 v121 S122 h
                    unfold j_L_isAhead_328 at h
                    refine x_iload (i := 7) hC dL_isAhead_328 5 rfl ?_
                    refine x_iconst (v := (5 : Int32)) hC dL_isAhead_330 (by decide) ?_
                    refine x_icmp_lt (t := 339) hC dL_isAhead_331 (by decide) (fun c123 => ?_) (fun c123 => ?_)
                    · replace h := it_t c123 h
                      refine x_iconst (v := (1 : Int32)) hC dL_isAhead_339 (by decide) ?_
                      refine x_goto (t := 366) hC dL_isAhead_340 (by decide) ?_
                      refine x_istore (i := 4) (l' := [(4, .int (1 : Int32)), (0, va_rf r0), (1, .int i1), (2, .int v117), (3, .int v118), (6, .int v119), (7, .int v120), (9, .int v121)]) hC dL_isAhead_366 (⟨fun _ => c_rf r0, ⟨fun _ => rfl, ⟨fun _ => rfl, ⟨fun _ => rfl, ⟨fun _ => rfl, ⟨fun _ => rfl, ⟨fun _ => rfl, trivial⟩⟩⟩⟩⟩⟩⟩) (by decide) rfl ?_
                      refine x_iinc (i := 6) (v := (v119 + (1 : Int32))) (l' := [(6, .int (v119 + (1 : Int32))), (4, .int (1 : Int32)), (0, va_rf r0), (1, .int i1), (2, .int v117), (3, .int v118), (7, .int v120), (9, .int v121)]) hC dL_isAhead_368 5 rfl rfl (⟨fun _ => rfl, ⟨fun _ => c_rf r0, ⟨fun _ => rfl, ⟨fun _ => rfl, ⟨fun _ => rfl, ⟨fun _ => rfl, ⟨fun _ => rfl, ⟨fun _ => rfl, trivial⟩⟩⟩⟩⟩⟩⟩⟩) (by decide) rfl ?_
                      refine x_goto (t := 130) hC dL_isAhead_371 (by decide) ?_
                      refine x_sub (l' := [(0, va_rf r0), (1, .int i1), (2, .int v117), (3, .int v118), (4, .int (1 : Int32)), (6, .int (v119 + (1 : Int32)))]) [2, 3, 4, 5, 1, 0] rfl ?_
                      have hb := bk_x h hg_130
                      exact hb
                    · replace h := it_f c123 h
                      refine x_iload (i := 9) hC dL_isAhead_334 6 rfl ?_
                      refine x_if_ne (t := 343) hC dL_isAhead_336 (by decide) (fun c124 => ?_) (fun c124 => ?_)
                      · replace h := it_f c124 h
                        refine x_iconst (v := (0 : Int32)) hC dL_isAhead_343 (by decide) ?_
                        refine x_goto (t := 366) hC dL_isAhead_344 (by decide) ?_
                        refine x_istore (i := 4) (l' := [(4, .int (0 : Int32)), (0, va_rf r0), (1, .int i1), (2, .int v117), (3, .int v118), (6, .int v119), (7, .int v120), (9, .int v121)]) hC dL_isAhead_366 (⟨fun _ => c_rf r0, ⟨fun _ => rfl, ⟨fun _ => rfl, ⟨fun _ => rfl, ⟨fun _ => rfl, ⟨fun _ => rfl, ⟨fun _ => rfl, trivial⟩⟩⟩⟩⟩⟩⟩) (by decide) rfl ?_
                        refine x_iinc (i := 6) (v := (v119 + (1 : Int32))) (l' := [(6, .int (v119 + (1 : Int32))), (4, .int (0 : Int32)), (0, va_rf r0), (1, .int i1), (2, .int v117), (3, .int v118), (7, .int v120), (9, .int v121)]) hC dL_isAhead_368 5 rfl rfl (⟨fun _ => rfl, ⟨fun _ => c_rf r0, ⟨fun _ => rfl, ⟨fun _ => rfl, ⟨fun _ => rfl, ⟨fun _ => rfl, ⟨fun _ => rfl, ⟨fun _ => rfl, trivial⟩⟩⟩⟩⟩⟩⟩⟩) (by decide) rfl ?_
                        refine x_goto (t := 130) hC dL_isAhead_371 (by decide) ?_
                        refine x_sub (l' := [(0, va_rf r0), (1, .int i1), (2, .int v117), (3, .int v118), (4, .int (0 : Int32)), (6, .int (v119 + (1 : Int32)))]) [2, 3, 4, 5, 1, 0] rfl ?_
                        have hb := bk_x h hg_130
                        exact hb
                      · replace h := it_t c124 h
                        refine x_iconst (v := (1 : Int32)) hC dL_isAhead_339 (by decide) ?_
                        refine x_goto (t := 366) hC dL_isAhead_340 (by decide) ?_
                        refine x_istore (i := 4) (l' := [(4, .int (1 : Int32)), (0, va_rf r0), (1, .int i1), (2, .int v117), (3, .int v118), (6, .int v119), (7, .int v120), (9, .int v121)]) hC dL_isAhead_366 (⟨fun _ => c_rf r0, ⟨fun _ => rfl, ⟨fun _ => rfl, ⟨fun _ => rfl, ⟨fun _ => rfl, ⟨fun _ => rfl, ⟨fun _ => rfl, trivial⟩⟩⟩⟩⟩⟩⟩) (by decide) rfl ?_
                        refine x_iinc (i := 6) (v := (v119 + (1 : Int32))) (l' := [(6, .int (v119 + (1 : Int32))), (4, .int (1 : Int32)), (0, va_rf r0), (1, .int i1), (2, .int v117), (3, .int v118), (7, .int v120), (9, .int v121)]) hC dL_isAhead_368 5 rfl rfl (⟨fun _ => rfl, ⟨fun _ => c_rf r0, ⟨fun _ => rfl, ⟨fun _ => rfl, ⟨fun _ => rfl, ⟨fun _ => rfl, ⟨fun _ => rfl, ⟨fun _ => rfl, trivial⟩⟩⟩⟩⟩⟩⟩⟩) (by decide) rfl ?_
                        refine x_goto (t := 130) hC dL_isAhead_371 (by decide) ?_
                        refine x_sub (l' := [(0, va_rf r0), (1, .int i1), (2, .int v117), (3, .int v118), (4, .int (1 : Int32)), (6, .int (v119 + (1 : Int32)))]) [2, 3, 4, 5, 1, 0] rfl ?_
                        have hb := bk_x h hg_130
                        exact hb
                  have J_314 : ∀ (v107 : Int32) (v108 : Int32) (v109 : Int32) (v110 : Int32) (v111 : Int32) (v112 : Int32) (v113 : Int32) (S114 : PH), j_L_isAhead_314 r0 i1 v107 v108 v109 v110 v111 v112 v113 S114 = some x_130 → PX Z 10 S114 0 0 314 [(0, va_rf r0), (1, .int i1), (2, .int v107), (3, .int v108), (6, .int v109), (7, .int v110), (9, .int v111)] [.int v113, .int v112] := by
                    intro v107 v108 v109 v110 v111 v112 v113 S114 h
                    unfold j_L_isAhead_314 at h
                    refine x_icmp_ne (t := 343) hC dL_isAhead_314 (by decide) (fun c115 => ?_) (fun c115 => ?_)
                    · replace h := it_f c115 h
                      refine x_iconst (v := (0 : Int32)) hC dL_isAhead_343 (by decide) ?_
                      refine x_goto (t := 366) hC dL_isAhead_344 (by decide) ?_
                      refine x_istore (i := 4) (l' := [(4, .int (0 : Int32)), (0, va_rf r0), (1, .int i1), (2, .int v107), (3, .int v108), (6, .int v109), (7, .int v110), (9, .int v111)]) hC dL_isAhead_366 (⟨fun _ => c_rf r0, ⟨fun _ => rfl, ⟨fun _ => rfl, ⟨fun _ => rfl, ⟨fun _ => rfl, ⟨fun _ => rfl, ⟨fun _ => rfl, trivial⟩⟩⟩⟩⟩⟩⟩) (by decide) rfl ?_
                      refine x_iinc (i := 6) (v := (v109 + (1 : Int32))) (l' := [(6, .int (v109 + (1 : Int32))), (4, .int (0 : Int32)), (0, va_rf r0), (1, .int i1), (2, .int v107), (3, .int v108), (7, .int v110), (9, .int v111)]) hC dL_isAhead_368 5 rfl rfl (⟨fun _ => rfl, ⟨fun _ => c_rf r0, ⟨fun _ => rfl, ⟨fun _ => rfl, ⟨fun _ => rfl, ⟨fun _ => rfl, ⟨fun _ => rfl, ⟨fun _ => rfl, trivial⟩⟩⟩⟩⟩⟩⟩⟩) (by decide) rfl ?_
                      refine x_goto (t := 130) hC dL_isAhead_371 (by decide) ?_
                      refine x_sub (l' := [(0, va_rf r0), (1, .int i1), (2, .int v107), (3, .int v108), (4, .int (0 : Int32)), (6, .int (v109 + (1 : Int32)))]) [2, 3, 4, 5, 1, 0] rfl ?_
                      have hb := bk_x h hg_130
                      exact hb
                    · replace h := it_t c115 h
                      refine x_iload (i := 7) hC dL_isAhead_317 5 rfl ?_
                      refine x_iconst (v := (4 : Int32)) hC dL_isAhead_319 (by decide) ?_
                      refine x_icmp_ne (t := 328) hC dL_isAhead_320 (by decide) (fun c116 => ?_) (fun c116 => ?_)
                      · replace h := it_f c116 h
                        exact J_328 _ _ _ _ _ _ h
                      · replace h := it_t c116 h
                        refine x_iload (i := 9) hC dL_isAhead_323 6 rfl ?_
                        refine x_if_eq (t := 343) hC dL_isAhead_325 (by decide) (fun c125 => ?_) (fun c125 => ?_)
                        · replace h := it_t c125 h
                          refine x_iconst (v := (0 : Int32)) hC dL_isAhead_343 (by decide) ?_
                          refine x_goto (t := 366) hC dL_isAhead_344 (by decide) ?_
                          refine x_istore (i := 4) (l' := [(4, .int (0 : Int32)), (0, va_rf r0), (1, .int i1), (2, .int v107), (3, .int v108), (6, .int v109), (7, .int v110), (9, .int v111)]) hC dL_isAhead_366 (⟨fun _ => c_rf r0, ⟨fun _ => rfl, ⟨fun _ => rfl, ⟨fun _ => rfl, ⟨fun _ => rfl, ⟨fun _ => rfl, ⟨fun _ => rfl, trivial⟩⟩⟩⟩⟩⟩⟩) (by decide) rfl ?_
                          refine x_iinc (i := 6) (v := (v109 + (1 : Int32))) (l' := [(6, .int (v109 + (1 : Int32))), (4, .int (0 : Int32)), (0, va_rf r0), (1, .int i1), (2, .int v107), (3, .int v108), (7, .int v110), (9, .int v111)]) hC dL_isAhead_368 5 rfl rfl (⟨fun _ => rfl, ⟨fun _ => c_rf r0, ⟨fun _ => rfl, ⟨fun _ => rfl, ⟨fun _ => rfl, ⟨fun _ => rfl, ⟨fun _ => rfl, ⟨fun _ => rfl, trivial⟩⟩⟩⟩⟩⟩⟩⟩) (by decide) rfl ?_
                          refine x_goto (t := 130) hC dL_isAhead_371 (by decide) ?_
                          refine x_sub (l' := [(0, va_rf r0), (1, .int i1), (2, .int v107), (3, .int v108), (4, .int (0 : Int32)), (6, .int (v109 + (1 : Int32)))]) [2, 3, 4, 5, 1, 0] rfl ?_
                          have hb := bk_x h hg_130
                          exact hb
                        · replace h := it_f c125 h
                          exact J_328 _ _ _ _ _ _ h
                  have J_271 : ∀ (v92 : Int32) (v93 : Int32) (v94 : Int32) (v95 : Int32) (v96 : Int32) (v97 : Int32) (S98 : PH), j_L_isAhead_271 r0 i1 v92 v93 v94 v95 v96 v97 S98 = some x_130 → PX Z 10 S98 0 0 271 [(0, va_rf r0), (1, .int i1), (2, .int v92), (3, .int v93), (6, .int v94), (7, .int v95), (9, .int v96)] [.int v97] := by
                    intro v92 v93 v94 v95 v96 v97 S98 h
                    unfold j_L_isAhead_271 at h
                    refine x_aload_n (i := 0) hC dL_isAhead_271 rfl 0 rfl ?_
                    refine x_iload_n (i := 1) hC dL_isAhead_272 rfl 1 rfl ?_
                    refine x_bipush (v := (8 : Int32)) hC dL_isAhead_273 (by decide) ?_
                    replace h := dr_el h
                    obtain ⟨a99, ea100, ha101, h⟩ := h
                    replace h := bt_el h
                    obtain ⟨v102, S103, hb155, h⟩ | ⟨j104, S105, hb155, h⟩ := h
                    · refine x_callV hC (st := [.int v97]) (mtr_X4_paperOf _ _ _ _ (v102, S103) hb155) ea100 ha101 kf_4 q_527 q_528 q_529 q_1 q_530 ⟨rfl, hy_X4_paperOf⟩ ⟨Nat.le_of_ble_eq_true rfl, Nat.le_of_ble_eq_true rfl⟩ ⟨Nat.le_of_ble_eq_true rfl, Nat.le_of_ble_eq_true rfl⟩ rfl (Nat.le_of_ble_eq_true rfl) dL_isAhead_275 (r_N ?_) r_NX
                      show PX Z 10 S103 0 0 278 [(0, va_rf r0), (1, .int i1), (2, .int v92), (3, .int v93), (6, .int v94), (7, .int v95), (9, .int v96)] [.int v102, .int v97]
                      refine x_if_ne (t := 313) hC dL_isAhead_278 (by decide) (fun c106 => ?_) (fun c106 => ?_)
                      · replace h := it_f c106 h
                        refine x_iconst (v := (0 : Int32)) hC dL_isAhead_313 (by decide) ?_
                        exact J_314 _ _ _ _ _ _ _ _ h
                      · replace h := it_t c106 h
                        refine x_aload_n (i := 0) hC dL_isAhead_281 rfl 0 rfl ?_
                        refine x_iload (i := 6) hC dL_isAhead_282 4 rfl ?_
                        refine x_iload_n (i := 1) hC dL_isAhead_284 rfl 1 rfl ?_
                        replace h := dr_el h
                        obtain ⟨a126, ea127, ha128, h⟩ := h
                        replace h := bt_el h
                        obtain ⟨v129, S130, hb154, h⟩ | ⟨j131, S132, hb154, h⟩ := h
                        · refine x_callV hC (st := [.int v97]) (mtr_X4_score _ _ _ _ (v129, S130) hb154) ea127 ha128 kf_4 q_548 q_549 q_550 q_1 q_551 ⟨rfl, hy_X4_score⟩ ⟨Nat.le_of_ble_eq_true rfl, Nat.le_of_ble_eq_true rfl⟩ ⟨Nat.le_of_ble_eq_true rfl, Nat.le_of_ble_eq_true rfl⟩ rfl (Nat.le_of_ble_eq_true rfl) dL_isAhead_285 (r_N ?_) r_NX
                          show PX Z 10 S130 0 0 288 [(0, va_rf r0), (1, .int i1), (2, .int v92), (3, .int v93), (6, .int v94), (7, .int v95), (9, .int v96)] [.int v129, .int v97]
                          refine x_iconst (v := (-1 : Int32)) hC dL_isAhead_288 (by decide) ?_
                          refine x_icmp_ne (t := 313) hC dL_isAhead_289 (by decide) (fun c133 => ?_) (fun c133 => ?_)
                          · replace h := it_f c133 h
                            refine x_iconst (v := (0 : Int32)) hC dL_isAhead_313 (by decide) ?_
                            exact J_314 _ _ _ _ _ _ _ _ h
                          · replace h := it_t c133 h
                            refine x_aload_n (i := 0) hC dL_isAhead_292 rfl 0 rfl ?_
                            refine x_iload_n (i := 1) hC dL_isAhead_293 rfl 1 rfl ?_
                            refine x_iconst (v := (2 : Int32)) hC dL_isAhead_294 (by decide) ?_
                            replace h := dr_el h
                            obtain ⟨a134, ea135, ha136, h⟩ := h
                            replace h := bt_el h
                            obtain ⟨v137, S138, hb153, h⟩ | ⟨j139, S140, hb153, h⟩ := h
                            · refine x_callV hC (st := [.int v97]) (mtr_X4_paperOf _ _ _ _ (v137, S138) hb153) ea135 ha136 kf_4 q_527 q_528 q_529 q_1 q_530 ⟨rfl, hy_X4_paperOf⟩ ⟨Nat.le_of_ble_eq_true rfl, Nat.le_of_ble_eq_true rfl⟩ ⟨Nat.le_of_ble_eq_true rfl, Nat.le_of_ble_eq_true rfl⟩ rfl (Nat.le_of_ble_eq_true rfl) dL_isAhead_295 (r_N ?_) r_NX
                              show PX Z 10 S138 0 0 298 [(0, va_rf r0), (1, .int i1), (2, .int v92), (3, .int v93), (6, .int v94), (7, .int v95), (9, .int v96)] [.int v137, .int v97]
                              replace h := bd_el h
                              obtain ⟨v141, S142, hb143, h⟩ := h
                              refine x_callS hC (st := [.int v97]) (mt_L_bits _ _ _ hb143) q_656 q_657 q_0 q_658 hy_L_bits ⟨Nat.le_of_ble_eq_true rfl, Nat.le_of_ble_eq_true rfl⟩ ⟨Nat.le_of_ble_eq_true rfl, Nat.le_of_ble_eq_true rfl⟩ rfl (Nat.le_of_ble_eq_true rfl) dL_isAhead_298 (r_N ?_) r_NX
                              show PX Z 10 S142 0 0 301 [(0, va_rf r0), (1, .int i1), (2, .int v92), (3, .int v93), (6, .int v94), (7, .int v95), (9, .int v96)] [.int v141, .int v97]
                              refine x_aload_n (i := 0) hC dL_isAhead_301 rfl 0 rfl ?_
                              refine x_iconst (v := (0 : Int32)) hC dL_isAhead_302 (by decide) ?_
                              replace h := dr_el h
                              obtain ⟨a144, ea145, ha146, h⟩ := h
                              replace h := bt_el h
                              obtain ⟨v147, S148, hb152, h⟩ | ⟨j149, S150, hb152, h⟩ := h
                              · refine x_callV hC (st := [.int v141, .int v97]) (mtr_X4_setting _ _ _ (v147, S148) hb152) ea145 ha146 kf_4 q_552 q_553 q_554 q_1 q_555 ⟨rfl, hy_X4_setting⟩ ⟨Nat.le_of_ble_eq_true rfl, Nat.le_of_ble_eq_true rfl⟩ ⟨Nat.le_of_ble_eq_true rfl, Nat.le_of_ble_eq_true rfl⟩ rfl (Nat.le_of_ble_eq_true rfl) dL_isAhead_303 (r_N ?_) r_NX
                                show PX Z 10 S148 0 0 306 [(0, va_rf r0), (1, .int i1), (2, .int v92), (3, .int v93), (6, .int v94), (7, .int v95), (9, .int v96)] [.int v147, .int v141, .int v97]
                                refine x_icmp_ge (t := 313) hC dL_isAhead_306 (by decide) (fun c151 => ?_) (fun c151 => ?_)
                                · replace h := it_t c151 h
                                  refine x_iconst (v := (0 : Int32)) hC dL_isAhead_313 (by decide) ?_
                                  exact J_314 _ _ _ _ _ _ _ _ h
                                · replace h := it_f c151 h
                                  refine x_iconst (v := (1 : Int32)) hC dL_isAhead_309 (by decide) ?_
                                  refine x_goto (t := 314) hC dL_isAhead_310 (by decide) ?_
                                  exact J_314 _ _ _ _ _ _ _ _ h
                              · refine x_callV hC (st := [.int v141, .int v97]) (mt_X4_setting _ _ _ _ hb152) ea145 ha146 kf_4 q_552 q_553 q_554 q_1 q_555 ⟨rfl, hy_X4_setting⟩ ⟨Nat.le_of_ble_eq_true rfl, Nat.le_of_ble_eq_true rfl⟩ ⟨Nat.le_of_ble_eq_true rfl, Nat.le_of_ble_eq_true rfl⟩ rfl (Nat.le_of_ble_eq_true rfl) dL_isAhead_303 r_X (r_XX ?_)
                                replace h := ir_x h hg_130
                                exact x_out hC hQ hE (z_X (Option.some.inj h)) (Nat.le_of_ble_eq_true rfl) (Nat.le_of_ble_eq_true rfl)
                            · refine x_callV hC (st := [.int v97]) (mt_X4_paperOf _ _ _ _ _ hb153) ea135 ha136 kf_4 q_527 q_528 q_529 q_1 q_530 ⟨rfl, hy_X4_paperOf⟩ ⟨Nat.le_of_ble_eq_true rfl, Nat.le_of_ble_eq_true rfl⟩ ⟨Nat.le_of_ble_eq_true rfl, Nat.le_of_ble_eq_true rfl⟩ rfl (Nat.le_of_ble_eq_true rfl) dL_isAhead_295 r_X (r_XX ?_)
                              replace h := ir_x h hg_130
                              exact x_out hC hQ hE (z_X (Option.some.inj h)) (Nat.le_of_ble_eq_true rfl) (Nat.le_of_ble_eq_true rfl)
                        · refine x_callV hC (st := [.int v97]) (mt_X4_score _ _ _ _ _ hb154) ea127 ha128 kf_4 q_548 q_549 q_550 q_1 q_551 ⟨rfl, hy_X4_score⟩ ⟨Nat.le_of_ble_eq_true rfl, Nat.le_of_ble_eq_true rfl⟩ ⟨Nat.le_of_ble_eq_true rfl, Nat.le_of_ble_eq_true rfl⟩ rfl (Nat.le_of_ble_eq_true rfl) dL_isAhead_285 r_X (r_XX ?_)
                          replace h := ir_x h hg_130
                          exact x_out hC hQ hE (z_X (Option.some.inj h)) (Nat.le_of_ble_eq_true rfl) (Nat.le_of_ble_eq_true rfl)
                    · refine x_callV hC (st := [.int v97]) (mt_X4_paperOf _ _ _ _ _ hb155) ea100 ha101 kf_4 q_527 q_528 q_529 q_1 q_530 ⟨rfl, hy_X4_paperOf⟩ ⟨Nat.le_of_ble_eq_true rfl, Nat.le_of_ble_eq_true rfl⟩ ⟨Nat.le_of_ble_eq_true rfl, Nat.le_of_ble_eq_true rfl⟩ rfl (Nat.le_of_ble_eq_true rfl) dL_isAhead_275 r_X (r_XX ?_)
                      replace h := ir_x h hg_130
                      exact x_out hC hQ hE (z_X (Option.some.inj h)) (Nat.le_of_ble_eq_true rfl) (Nat.le_of_ble_eq_true rfl)
                  have J_253 : ∀ (v80 : Int32) (v81 : Int32) (v82 : Int32) (v83 : Int32) (v84 : Int32) (v85 : Int32) (S86 : PH), j_L_isAhead_253 r0 i1 v80 v81 v82 v83 v84 v85 S86 = some x_130 → PX Z 10 S86 0 0 253 [(0, va_rf r0), (1, .int i1), (2, .int v80), (3, .int v81), (6, .int v82), (7, .int v83), (8, .int v84)] [.int v85] := by
                    intro v80 v81 v82 v83 v84 v85 S86 h
                    unfold j_L_isAhead_253 at h
                    refine x_istore (i := 9) (l' := [(9, .int v85), (0, va_rf r0), (1, .int i1), (2, .int v80), (3, .int v81), (6, .int v82), (7, .int v83), (8, .int v84)]) hC dL_isAhead_253 (⟨fun _ => c_rf r0, ⟨fun _ => rfl, ⟨fun _ => rfl, ⟨fun _ => rfl, ⟨fun _ => rfl, ⟨fun _ => rfl, ⟨fun _ => rfl, trivial⟩⟩⟩⟩⟩⟩⟩) (by decide) rfl ?_
                    refine x_iload (i := 7) hC dL_isAhead_255 6 rfl ?_
                    refine x_if_le (t := 347) hC dL_isAhead_257 (by decide) (fun c87 => ?_) (fun c87 => ?_)
                    · replace h := it_t c87 h
                      refine x_iload_n (i := 3) hC dL_isAhead_347 rfl 4 rfl ?_
                      refine x_if_lt (t := 365) hC dL_isAhead_348 (by decide) (fun c88 => ?_) (fun c88 => ?_)
                      · replace h := it_t c88 h
                        refine x_iconst (v := (0 : Int32)) hC dL_isAhead_365 (by decide) ?_
                        refine x_istore (i := 4) (l' := [(4, .int (0 : Int32)), (9, .int v85), (0, va_rf r0), (1, .int i1), (2, .int v80), (3, .int v81), (6, .int v82), (7, .int v83), (8, .int v84)]) hC dL_isAhead_366 (⟨fun _ => rfl, ⟨fun _ => c_rf r0, ⟨fun _ => rfl, ⟨fun _ => rfl, ⟨fun _ => rfl, ⟨fun _ => rfl, ⟨fun _ => rfl, ⟨fun _ => rfl, trivial⟩⟩⟩⟩⟩⟩⟩⟩) (by decide) rfl ?_
                        refine x_iinc (i := 6) (v := (v82 + (1 : Int32))) (l' := [(6, .int (v82 + (1 : Int32))), (4, .int (0 : Int32)), (9, .int v85), (0, va_rf r0), (1, .int i1), (2, .int v80), (3, .int v81), (7, .int v83), (8, .int v84)]) hC dL_isAhead_368 6 rfl rfl (⟨fun _ => rfl, ⟨fun _ => rfl, ⟨fun _ => c_rf r0, ⟨fun _ => rfl, ⟨fun _ => rfl, ⟨fun _ => rfl, ⟨fun _ => rfl, ⟨fun _ => rfl, ⟨fun _ => rfl, trivial⟩⟩⟩⟩⟩⟩⟩⟩⟩) (by decide) rfl ?_
                        refine x_goto (t := 130) hC dL_isAhead_371 (by decide) ?_
                        refine x_sub (l' := [(0, va_rf r0), (1, .int i1), (2, .int v80), (3, .int v81), (4, .int (0 : Int32)), (6, .int (v82 + (1 : Int32)))]) [3, 4, 5, 6, 1, 0] rfl ?_
                        have hb := bk_x h hg_130
                        exact hb
                      · replace h := it_f c88 h
                        refine x_iload (i := 8) hC dL_isAhead_351 7 rfl ?_
                        refine x_if_ne (t := 365) hC dL_isAhead_353 (by decide) (fun c89 => ?_) (fun c89 => ?_)
                        · replace h := it_f c89 h
                          refine x_iconst (v := (0 : Int32)) hC dL_isAhead_365 (by decide) ?_
                          refine x_istore (i := 4) (l' := [(4, .int (0 : Int32)), (9, .int v85), (0, va_rf r0), (1, .int i1), (2, .int v80), (3, .int v81), (6, .int v82), (7, .int v83), (8, .int v84)]) hC dL_isAhead_366 (⟨fun _ => rfl, ⟨fun _ => c_rf r0, ⟨fun _ => rfl, ⟨fun _ => rfl, ⟨fun _ => rfl, ⟨fun _ => rfl, ⟨fun _ => rfl, ⟨fun _ => rfl, trivial⟩⟩⟩⟩⟩⟩⟩⟩) (by decide) rfl ?_
                          refine x_iinc (i := 6) (v := (v82 + (1 : Int32))) (l' := [(6, .int (v82 + (1 : Int32))), (4, .int (0 : Int32)), (9, .int v85), (0, va_rf r0), (1, .int i1), (2, .int v80), (3, .int v81), (7, .int v83), (8, .int v84)]) hC dL_isAhead_368 6 rfl rfl (⟨fun _ => rfl, ⟨fun _ => rfl, ⟨fun _ => c_rf r0, ⟨fun _ => rfl, ⟨fun _ => rfl, ⟨fun _ => rfl, ⟨fun _ => rfl, ⟨fun _ => rfl, ⟨fun _ => rfl, trivial⟩⟩⟩⟩⟩⟩⟩⟩⟩) (by decide) rfl ?_
                          refine x_goto (t := 130) hC dL_isAhead_371 (by decide) ?_
                          refine x_sub (l' := [(0, va_rf r0), (1, .int i1), (2, .int v80), (3, .int v81), (4, .int (0 : Int32)), (6, .int (v82 + (1 : Int32)))]) [3, 4, 5, 6, 1, 0] rfl ?_
                          have hb := bk_x h hg_130
                          exact hb
                        · replace h := it_t c89 h
                          refine x_iload (i := 9) hC dL_isAhead_356 0 rfl ?_
                          refine x_if_ne (t := 365) hC dL_isAhead_358 (by decide) (fun c90 => ?_) (fun c90 => ?_)
                          · replace h := it_f c90 h
                            refine x_iconst (v := (0 : Int32)) hC dL_isAhead_365 (by decide) ?_
                            refine x_istore (i := 4) (l' := [(4, .int (0 : Int32)), (9, .int v85), (0, va_rf r0), (1, .int i1), (2, .int v80), (3, .int v81), (6, .int v82), (7, .int v83), (8, .int v84)]) hC dL_isAhead_366 (⟨fun _ => rfl, ⟨fun _ => c_rf r0, ⟨fun _ => rfl, ⟨fun _ => rfl, ⟨fun _ => rfl, ⟨fun _ => rfl, ⟨fun _ => rfl, ⟨fun _ => rfl, trivial⟩⟩⟩⟩⟩⟩⟩⟩) (by decide) rfl ?_
                            refine x_iinc (i := 6) (v := (v82 + (1 : Int32))) (l' := [(6, .int (v82 + (1 : Int32))), (4, .int (0 : Int32)), (9, .int v85), (0, va_rf r0), (1, .int i1), (2, .int v80), (3, .int v81), (7, .int v83), (8, .int v84)]) hC dL_isAhead_368 6 rfl rfl (⟨fun _ => rfl, ⟨fun _ => rfl, ⟨fun _ => c_rf r0, ⟨fun _ => rfl, ⟨fun _ => rfl, ⟨fun _ => rfl, ⟨fun _ => rfl, ⟨fun _ => rfl, ⟨fun _ => rfl, trivial⟩⟩⟩⟩⟩⟩⟩⟩⟩) (by decide) rfl ?_
                            refine x_goto (t := 130) hC dL_isAhead_371 (by decide) ?_
                            refine x_sub (l' := [(0, va_rf r0), (1, .int i1), (2, .int v80), (3, .int v81), (4, .int (0 : Int32)), (6, .int (v82 + (1 : Int32)))]) [3, 4, 5, 6, 1, 0] rfl ?_
                            have hb := bk_x h hg_130
                            exact hb
                          · replace h := it_t c90 h
                            refine x_iconst (v := (1 : Int32)) hC dL_isAhead_361 (by decide) ?_
                            refine x_goto (t := 366) hC dL_isAhead_362 (by decide) ?_
                            refine x_istore (i := 4) (l' := [(4, .int (1 : Int32)), (9, .int v85), (0, va_rf r0), (1, .int i1), (2, .int v80), (3, .int v81), (6, .int v82), (7, .int v83), (8, .int v84)]) hC dL_isAhead_366 (⟨fun _ => rfl, ⟨fun _ => c_rf r0, ⟨fun _ => rfl, ⟨fun _ => rfl, ⟨fun _ => rfl, ⟨fun _ => rfl, ⟨fun _ => rfl, ⟨fun _ => rfl, trivial⟩⟩⟩⟩⟩⟩⟩⟩) (by decide) rfl ?_
                            refine x_iinc (i := 6) (v := (v82 + (1 : Int32))) (l' := [(6, .int (v82 + (1 : Int32))), (4, .int (1 : Int32)), (9, .int v85), (0, va_rf r0), (1, .int i1), (2, .int v80), (3, .int v81), (7, .int v83), (8, .int v84)]) hC dL_isAhead_368 6 rfl rfl (⟨fun _ => rfl, ⟨fun _ => rfl, ⟨fun _ => c_rf r0, ⟨fun _ => rfl, ⟨fun _ => rfl, ⟨fun _ => rfl, ⟨fun _ => rfl, ⟨fun _ => rfl, ⟨fun _ => rfl, trivial⟩⟩⟩⟩⟩⟩⟩⟩⟩) (by decide) rfl ?_
                            refine x_goto (t := 130) hC dL_isAhead_371 (by decide) ?_
                            refine x_sub (l' := [(0, va_rf r0), (1, .int i1), (2, .int v80), (3, .int v81), (4, .int (1 : Int32)), (6, .int (v82 + (1 : Int32)))]) [3, 4, 5, 6, 1, 0] rfl ?_
                            have hb := bk_x h hg_130
                            exact hb
                    · replace h := it_f c87 h
                      refine x_iload (i := 7) hC dL_isAhead_260 6 rfl ?_
                      refine x_iconst (v := (4 : Int32)) hC dL_isAhead_262 (by decide) ?_
                      refine x_icmp_lt (t := 270) hC dL_isAhead_263 (by decide) (fun c91 => ?_) (fun c91 => ?_)
                      · replace h := it_t c91 h
                        refine x_iconst (v := (0 : Int32)) hC dL_isAhead_270 (by decide) ?_
                        refine x_sub (l' := [(0, va_rf r0), (1, .int i1), (2, .int v80), (3, .int v81), (6, .int v82), (7, .int v83), (9, .int v85)]) [1, 2, 3, 4, 5, 6, 0] rfl ?_
                        exact J_271 _ _ _ _ _ _ _ h
                      · replace h := it_f c91 h
                        refine x_iconst (v := (1 : Int32)) hC dL_isAhead_266 (by decide) ?_
                        refine x_goto (t := 271) hC dL_isAhead_267 (by decide) ?_
                        refine x_sub (l' := [(0, va_rf r0), (1, .int i1), (2, .int v80), (3, .int v81), (6, .int v82), (7, .int v83), (9, .int v85)]) [1, 2, 3, 4, 5, 6, 0] rfl ?_
                        exact J_271 _ _ _ _ _ _ _ h
                  have J_230 : ∀ (v66 : Int32) (v67 : Int32) (v68 : Int32) (v69 : Int32) (v70 : Int32) (S71 : PH), j_L_isAhead_230 r0 i1 v66 v67 v68 v69 v70 S71 = some x_130 → PX Z 10 S71 0 0 230 [(0, va_rf r0), (1, .int i1), (2, .int v66), (3, .int v67), (6, .int v68), (7, .int v69)] [.int v70] := by
                    intro v66 v67 v68 v69 v70 S71 h
                    unfold j_L_isAhead_230 at h
                    refine x_istore (i := 8) (l' := [(8, .int v70), (0, va_rf r0), (1, .int i1), (2, .int v66), (3, .int v67), (6, .int v68), (7, .int v69)]) hC dL_isAhead_230 (⟨fun _ => c_rf r0, ⟨fun _ => rfl, ⟨fun _ => rfl, ⟨fun _ => rfl, ⟨fun _ => rfl, ⟨fun _ => rfl, trivial⟩⟩⟩⟩⟩⟩) (by decide) rfl ?_
                    refine x_aload_n (i := 0) hC dL_isAhead_232 rfl 1 rfl ?_
                    refine x_iload (i := 6) hC dL_isAhead_233 5 rfl ?_
                    refine x_bipush (v := (8 : Int32)) hC dL_isAhead_235 (by decide) ?_
                    replace h := dr_el h
                    obtain ⟨a72, ea73, ha74, h⟩ := h
                    replace h := bt_el h
                    obtain ⟨v75, S76, hb156, h⟩ | ⟨j77, S78, hb156, h⟩ := h
                    · refine x_callV hC (st := []) (mtr_X4_personOf _ _ _ _ (v75, S76) hb156) ea73 ha74 kf_4 q_506 q_507 q_508 q_1 q_509 ⟨rfl, hy_X4_personOf⟩ ⟨Nat.le_of_ble_eq_true rfl, Nat.le_of_ble_eq_true rfl⟩ ⟨Nat.le_of_ble_eq_true rfl, Nat.le_of_ble_eq_true rfl⟩ rfl (Nat.le_of_ble_eq_true rfl) dL_isAhead_237 (r_N ?_) r_NX
                      show PX Z 10 S76 0 0 240 [(8, .int v70), (0, va_rf r0), (1, .int i1), (2, .int v66), (3, .int v67), (6, .int v68), (7, .int v69)] [.int v75]
                      refine x_iload_n (i := 1) hC dL_isAhead_240 rfl 2 rfl ?_
                      refine x_ishr hC dL_isAhead_241 ?_
                      refine x_iconst (v := (1 : Int32)) hC dL_isAhead_242 (by decide) ?_
                      refine x_iand hC dL_isAhead_243 ?_
                      refine x_iconst (v := (1 : Int32)) hC dL_isAhead_244 (by decide) ?_
                      refine x_icmp_ne (t := 252) hC dL_isAhead_245 (by decide) (fun c79 => ?_) (fun c79 => ?_)
                      · replace h := it_f c79 h
                        refine x_iconst (v := (0 : Int32)) hC dL_isAhead_252 (by decide) ?_
                        refine x_sub (l' := [(0, va_rf r0), (1, .int i1), (2, .int v66), (3, .int v67), (6, .int v68), (7, .int v69), (8, .int v70)]) [1, 2, 3, 4, 5, 6, 0] rfl ?_
                        exact J_253 _ _ _ _ _ _ _ h
                      · replace h := it_t c79 h
                        refine x_iconst (v := (1 : Int32)) hC dL_isAhead_248 (by decide) ?_
                        refine x_goto (t := 253) hC dL_isAhead_249 (by decide) ?_
                        refine x_sub (l' := [(0, va_rf r0), (1, .int i1), (2, .int v66), (3, .int v67), (6, .int v68), (7, .int v69), (8, .int v70)]) [1, 2, 3, 4, 5, 6, 0] rfl ?_
                        exact J_253 _ _ _ _ _ _ _ h
                    · refine x_callV hC (st := []) (mt_X4_personOf _ _ _ _ _ hb156) ea73 ha74 kf_4 q_506 q_507 q_508 q_1 q_509 ⟨rfl, hy_X4_personOf⟩ ⟨Nat.le_of_ble_eq_true rfl, Nat.le_of_ble_eq_true rfl⟩ ⟨Nat.le_of_ble_eq_true rfl, Nat.le_of_ble_eq_true rfl⟩ rfl (Nat.le_of_ble_eq_true rfl) dL_isAhead_237 r_X (r_XX ?_)
                      replace h := ir_x h hg_130
                      exact x_out hC hQ hE (z_X (Option.some.inj h)) (Nat.le_of_ble_eq_true rfl) (Nat.le_of_ble_eq_true rfl)
                  unfold st_L_isAhead_130 at h
                  refine x_iload (i := 6) hC dL_isAhead_130 5 rfl ?_
                  refine x_bipush (v := (8 : Int32)) hC dL_isAhead_132 (by decide) ?_
                  refine x_icmp_ge (t := 374) hC dL_isAhead_134 (by decide) (fun c436 => ?_) (fun c436 => ?_)
                  · replace h := it_t c436 h
                    replace h := ir_x h hg_130
                    refine x_sub (l' := [(0, va_rf r0), (1, .int i1), (2, .int v431), (4, .int v433)]) [0, 1, 2, 4] rfl ?_
                    exact J_374 _ _ _ h
                  · replace h := it_f c436 h
                    refine x_iload (i := 4) hC dL_isAhead_137 4 rfl ?_
                    refine x_if_eq (t := 374) hC dL_isAhead_139 (by decide) (fun c437 => ?_) (fun c437 => ?_)
                    · replace h := it_t c437 h
                      replace h := ir_x h hg_130
                      refine x_sub (l' := [(0, va_rf r0), (1, .int i1), (2, .int v431), (4, .int v433)]) [0, 1, 2, 4] rfl ?_
                      exact J_374 _ _ _ h
                    · replace h := it_f c437 h
                      refine x_aload_n (i := 0) hC dL_isAhead_142 rfl 0 rfl ?_
                      refine x_iload (i := 6) hC dL_isAhead_143 5 rfl ?_
                      refine x_iload_n (i := 1) hC dL_isAhead_145 rfl 1 rfl ?_
                      replace h := dr_el h
                      obtain ⟨a438, ea439, ha440, h⟩ := h
                      replace h := bt_el h
                      obtain ⟨v441, S442, hb515, h⟩ | ⟨j443, S444, hb515, h⟩ := h
                      · refine x_callV hC (st := []) (mtr_X4_whyNot _ _ _ _ (v441, S442) hb515) ea439 ha440 kf_4 q_445 q_446 q_447 q_1 q_448 ⟨rfl, hy_X4_whyNot⟩ ⟨Nat.le_of_ble_eq_true rfl, Nat.le_of_ble_eq_true rfl⟩ ⟨Nat.le_of_ble_eq_true rfl, Nat.le_of_ble_eq_true rfl⟩ rfl (Nat.le_of_ble_eq_true rfl) dL_isAhead_146 (r_N ?_) r_NX
                        show PX Z 10 S442 0 0 149 [(0, va_rf r0), (1, .int i1), (2, .int v431), (3, .int v432), (4, .int v433), (6, .int v434)] [.int v441]
                        refine x_istore (i := 7) (l' := [(7, .int v441), (0, va_rf r0), (1, .int i1), (2, .int v431), (3, .int v432), (4, .int v433), (6, .int v434)]) hC dL_isAhead_149 (⟨fun _ => c_rf r0, ⟨fun _ => rfl, ⟨fun _ => rfl, ⟨fun _ => rfl, ⟨fun _ => rfl, ⟨fun _ => rfl, trivial⟩⟩⟩⟩⟩⟩) (by decide) rfl ?_
                        refine x_iload_n (i := 3) hC dL_isAhead_151 rfl 4 rfl ?_
                        refine x_if_lt (t := 229) hC dL_isAhead_152 (by decide) (fun c445 => ?_) (fun c445 => ?_)
                        · replace h := it_t c445 h
                          refine x_iconst (v := (0 : Int32)) hC dL_isAhead_229 (by decide) ?_
                          refine x_sub (l' := [(0, va_rf r0), (1, .int i1), (2, .int v431), (3, .int v432), (6, .int v434), (7, .int v441)]) [1, 2, 3, 4, 6, 0] rfl ?_
                          exact J_230 _ _ _ _ _ _ h
                        · replace h := it_f c445 h
                          refine x_aload_n (i := 0) hC dL_isAhead_155 rfl 1 rfl ?_
                          refine x_iload (i := 6) hC dL_isAhead_156 6 rfl ?_
                          refine x_iconst (v := (3 : Int32)) hC dL_isAhead_158 (by decide) ?_
                          replace h := dr_el h
                          obtain ⟨a446, ea447, ha448, h⟩ := h
                          replace h := bt_el h
                          obtain ⟨v449, S450, hb514, h⟩ | ⟨j451, S452, hb514, h⟩ := h
                          · refine x_callV hC (st := []) (mtr_X4_personOf _ _ _ _ (v449, S450) hb514) ea447 ha448 kf_4 q_506 q_507 q_508 q_1 q_509 ⟨rfl, hy_X4_personOf⟩ ⟨Nat.le_of_ble_eq_true rfl, Nat.le_of_ble_eq_true rfl⟩ ⟨Nat.le_of_ble_eq_true rfl, Nat.le_of_ble_eq_true rfl⟩ rfl (Nat.le_of_ble_eq_true rfl) dL_isAhead_159 (r_N ?_) r_NX
                            show PX Z 10 S450 0 0 162 [(7, .int v441), (0, va_rf r0), (1, .int i1), (2, .int v431), (3, .int v432), (4, .int v433), (6, .int v434)] [.int v449]
                            refine x_aload_n (i := 0) hC dL_isAhead_162 rfl 1 rfl ?_
                            refine x_iload_n (i := 3) hC dL_isAhead_163 rfl 4 rfl ?_
                            refine x_iconst (v := (3 : Int32)) hC dL_isAhead_164 (by decide) ?_
                            replace h := dr_el h
                            obtain ⟨a453, ea454, ha455, h⟩ := h
                            replace h := bt_el h
                            obtain ⟨v456, S457, hb513, h⟩ | ⟨j458, S459, hb513, h⟩ := h
                            · refine x_callV hC (st := [.int v449]) (mtr_X4_personOf _ _ _ _ (v456, S457) hb513) ea454 ha455 kf_4 q_506 q_507 q_508 q_1 q_509 ⟨rfl, hy_X4_personOf⟩ ⟨Nat.le_of_ble_eq_true rfl, Nat.le_of_ble_eq_true rfl⟩ ⟨Nat.le_of_ble_eq_true rfl, Nat.le_of_ble_eq_true rfl⟩ rfl (Nat.le_of_ble_eq_true rfl) dL_isAhead_165 (r_N ?_) r_NX
                              show PX Z 10 S457 0 0 168 [(7, .int v441), (0, va_rf r0), (1, .int i1), (2, .int v431), (3, .int v432), (4, .int v433), (6, .int v434)] [.int v456, .int v449]
                              refine x_icmp_lt (t := 225) hC dL_isAhead_168 (by decide) (fun c460 => ?_) (fun c460 => ?_)
                              · replace h := it_t c460 h
                                refine x_iconst (v := (1 : Int32)) hC dL_isAhead_225 (by decide) ?_
                                refine x_goto (t := 230) hC dL_isAhead_226 (by decide) ?_
                                refine x_sub (l' := [(0, va_rf r0), (1, .int i1), (2, .int v431), (3, .int v432), (6, .int v434), (7, .int v441)]) [1, 2, 3, 4, 6, 0] rfl ?_
                                exact J_230 _ _ _ _ _ _ h
                              · replace h := it_f c460 h
                                refine x_aload_n (i := 0) hC dL_isAhead_171 rfl 1 rfl ?_
                                refine x_iload (i := 6) hC dL_isAhead_172 6 rfl ?_
                                refine x_iconst (v := (3 : Int32)) hC dL_isAhead_174 (by decide) ?_
                                replace h := dr_el h
                                obtain ⟨a461, ea462, ha463, h⟩ := h
                                replace h := bt_el h
                                obtain ⟨v464, S465, hb512, h⟩ | ⟨j466, S467, hb512, h⟩ := h
                                · refine x_callV hC (st := []) (mtr_X4_personOf _ _ _ _ (v464, S465) hb512) ea462 ha463 kf_4 q_506 q_507 q_508 q_1 q_509 ⟨rfl, hy_X4_personOf⟩ ⟨Nat.le_of_ble_eq_true rfl, Nat.le_of_ble_eq_true rfl⟩ ⟨Nat.le_of_ble_eq_true rfl, Nat.le_of_ble_eq_true rfl⟩ rfl (Nat.le_of_ble_eq_true rfl) dL_isAhead_175 (r_N ?_) r_NX
                                  show PX Z 10 S465 0 0 178 [(7, .int v441), (0, va_rf r0), (1, .int i1), (2, .int v431), (3, .int v432), (4, .int v433), (6, .int v434)] [.int v464]
                                  refine x_aload_n (i := 0) hC dL_isAhead_178 rfl 1 rfl ?_
                                  refine x_iload_n (i := 3) hC dL_isAhead_179 rfl 4 rfl ?_
                                  refine x_iconst (v := (3 : Int32)) hC dL_isAhead_180 (by decide) ?_
                                  replace h := dr_el h
                                  obtain ⟨a468, ea469, ha470, h⟩ := h
                                  replace h := bt_el h
                                  obtain ⟨v471, S472, hb511, h⟩ | ⟨j473, S474, hb511, h⟩ := h
                                  · refine x_callV hC (st := [.int v464]) (mtr_X4_personOf _ _ _ _ (v471, S472) hb511) ea469 ha470 kf_4 q_506 q_507 q_508 q_1 q_509 ⟨rfl, hy_X4_personOf⟩ ⟨Nat.le_of_ble_eq_true rfl, Nat.le_of_ble_eq_true rfl⟩ ⟨Nat.le_of_ble_eq_true rfl, Nat.le_of_ble_eq_true rfl⟩ rfl (Nat.le_of_ble_eq_true rfl) dL_isAhead_181 (r_N ?_) r_NX
                                    show PX Z 10 S472 0 0 184 [(7, .int v441), (0, va_rf r0), (1, .int i1), (2, .int v431), (3, .int v432), (4, .int v433), (6, .int v434)] [.int v471, .int v464]
                                    refine x_icmp_ne (t := 229) hC dL_isAhead_184 (by decide) (fun c475 => ?_) (fun c475 => ?_)
                                    · replace h := it_f c475 h
                                      refine x_iconst (v := (0 : Int32)) hC dL_isAhead_229 (by decide) ?_
                                      refine x_sub (l' := [(0, va_rf r0), (1, .int i1), (2, .int v431), (3, .int v432), (6, .int v434), (7, .int v441)]) [1, 2, 3, 4, 6, 0] rfl ?_
                                      exact J_230 _ _ _ _ _ _ h
                                    · replace h := it_t c475 h
                                      refine x_aload_n (i := 0) hC dL_isAhead_187 rfl 1 rfl ?_
                                      refine x_iload (i := 6) hC dL_isAhead_188 6 rfl ?_
                                      refine x_iconst (v := (0 : Int32)) hC dL_isAhead_190 (by decide) ?_
                                      replace h := dr_el h
                                      obtain ⟨a476, ea477, ha478, h⟩ := h
                                      replace h := bt_el h
                                      obtain ⟨v479, S480, hb510, h⟩ | ⟨j481, S482, hb510, h⟩ := h
                                      · refine x_callV hC (st := []) (mtr_X4_personOf _ _ _ _ (v479, S480) hb510) ea477 ha478 kf_4 q_506 q_507 q_508 q_1 q_509 ⟨rfl, hy_X4_personOf⟩ ⟨Nat.le_of_ble_eq_true rfl, Nat.le_of_ble_eq_true rfl⟩ ⟨Nat.le_of_ble_eq_true rfl, Nat.le_of_ble_eq_true rfl⟩ rfl (Nat.le_of_ble_eq_true rfl) dL_isAhead_191 (r_N ?_) r_NX
                                        show PX Z 10 S480 0 0 194 [(7, .int v441), (0, va_rf r0), (1, .int i1), (2, .int v431), (3, .int v432), (4, .int v433), (6, .int v434)] [.int v479]
                                        refine x_aload_n (i := 0) hC dL_isAhead_194 rfl 1 rfl ?_
                                        refine x_iload_n (i := 3) hC dL_isAhead_195 rfl 4 rfl ?_
                                        refine x_iconst (v := (0 : Int32)) hC dL_isAhead_196 (by decide) ?_
                                        replace h := dr_el h
                                        obtain ⟨a483, ea484, ha485, h⟩ := h
                                        replace h := bt_el h
                                        obtain ⟨v486, S487, hb509, h⟩ | ⟨j488, S489, hb509, h⟩ := h
                                        · refine x_callV hC (st := [.int v479]) (mtr_X4_personOf _ _ _ _ (v486, S487) hb509) ea484 ha485 kf_4 q_506 q_507 q_508 q_1 q_509 ⟨rfl, hy_X4_personOf⟩ ⟨Nat.le_of_ble_eq_true rfl, Nat.le_of_ble_eq_true rfl⟩ ⟨Nat.le_of_ble_eq_true rfl, Nat.le_of_ble_eq_true rfl⟩ rfl (Nat.le_of_ble_eq_true rfl) dL_isAhead_197 (r_N ?_) r_NX
                                          show PX Z 10 S487 0 0 200 [(7, .int v441), (0, va_rf r0), (1, .int i1), (2, .int v431), (3, .int v432), (4, .int v433), (6, .int v434)] [.int v486, .int v479]
                                          refine x_icmp_gt (t := 225) hC dL_isAhead_200 (by decide) (fun c490 => ?_) (fun c490 => ?_)
                                          · replace h := it_t c490 h
                                            refine x_iconst (v := (1 : Int32)) hC dL_isAhead_225 (by decide) ?_
                                            refine x_goto (t := 230) hC dL_isAhead_226 (by decide) ?_
                                            refine x_sub (l' := [(0, va_rf r0), (1, .int i1), (2, .int v431), (3, .int v432), (6, .int v434), (7, .int v441)]) [1, 2, 3, 4, 6, 0] rfl ?_
                                            exact J_230 _ _ _ _ _ _ h
                                          · replace h := it_f c490 h
                                            refine x_aload_n (i := 0) hC dL_isAhead_203 rfl 1 rfl ?_
                                            refine x_iload (i := 6) hC dL_isAhead_204 6 rfl ?_
                                            refine x_iconst (v := (0 : Int32)) hC dL_isAhead_206 (by decide) ?_
                                            replace h := dr_el h
                                            obtain ⟨a491, ea492, ha493, h⟩ := h
                                            replace h := bt_el h
                                            obtain ⟨v494, S495, hb508, h⟩ | ⟨j496, S497, hb508, h⟩ := h
                                            · refine x_callV hC (st := []) (mtr_X4_personOf _ _ _ _ (v494, S495) hb508) ea492 ha493 kf_4 q_506 q_507 q_508 q_1 q_509 ⟨rfl, hy_X4_personOf⟩ ⟨Nat.le_of_ble_eq_true rfl, Nat.le_of_ble_eq_true rfl⟩ ⟨Nat.le_of_ble_eq_true rfl, Nat.le_of_ble_eq_true rfl⟩ rfl (Nat.le_of_ble_eq_true rfl) dL_isAhead_207 (r_N ?_) r_NX
                                              show PX Z 10 S495 0 0 210 [(7, .int v441), (0, va_rf r0), (1, .int i1), (2, .int v431), (3, .int v432), (4, .int v433), (6, .int v434)] [.int v494]
                                              refine x_aload_n (i := 0) hC dL_isAhead_210 rfl 1 rfl ?_
                                              refine x_iload_n (i := 3) hC dL_isAhead_211 rfl 4 rfl ?_
                                              refine x_iconst (v := (0 : Int32)) hC dL_isAhead_212 (by decide) ?_
                                              replace h := dr_el h
                                              obtain ⟨a498, ea499, ha500, h⟩ := h
                                              replace h := bt_el h
                                              obtain ⟨v501, S502, hb507, h⟩ | ⟨j503, S504, hb507, h⟩ := h
                                              · refine x_callV hC (st := [.int v494]) (mtr_X4_personOf _ _ _ _ (v501, S502) hb507) ea499 ha500 kf_4 q_506 q_507 q_508 q_1 q_509 ⟨rfl, hy_X4_personOf⟩ ⟨Nat.le_of_ble_eq_true rfl, Nat.le_of_ble_eq_true rfl⟩ ⟨Nat.le_of_ble_eq_true rfl, Nat.le_of_ble_eq_true rfl⟩ rfl (Nat.le_of_ble_eq_true rfl) dL_isAhead_213 (r_N ?_) r_NX
                                                show PX Z 10 S502 0 0 216 [(7, .int v441), (0, va_rf r0), (1, .int i1), (2, .int v431), (3, .int v432), (4, .int v433), (6, .int v434)] [.int v501, .int v494]
                                                refine x_icmp_ne (t := 229) hC dL_isAhead_216 (by decide) (fun c505 => ?_) (fun c505 => ?_)
                                                · replace h := it_f c505 h
                                                  refine x_iconst (v := (0 : Int32)) hC dL_isAhead_229 (by decide) ?_
                                                  refine x_sub (l' := [(0, va_rf r0), (1, .int i1), (2, .int v431), (3, .int v432), (6, .int v434), (7, .int v441)]) [1, 2, 3, 4, 6, 0] rfl ?_
                                                  exact J_230 _ _ _ _ _ _ h
                                                · replace h := it_t c505 h
                                                  refine x_iload (i := 6) hC dL_isAhead_219 6 rfl ?_
                                                  refine x_iload_n (i := 3) hC dL_isAhead_221 rfl 4 rfl ?_
                                                  refine x_icmp_ge (t := 229) hC dL_isAhead_222 (by decide) (fun c506 => ?_) (fun c506 => ?_)
                                                  · replace h := it_t c506 h
                                                    refine x_iconst (v := (0 : Int32)) hC dL_isAhead_229 (by decide) ?_
                                                    refine x_sub (l' := [(0, va_rf r0), (1, .int i1), (2, .int v431), (3, .int v432), (6, .int v434), (7, .int v441)]) [1, 2, 3, 4, 6, 0] rfl ?_
                                                    exact J_230 _ _ _ _ _ _ h
                                                  · replace h := it_f c506 h
                                                    refine x_iconst (v := (1 : Int32)) hC dL_isAhead_225 (by decide) ?_
                                                    refine x_goto (t := 230) hC dL_isAhead_226 (by decide) ?_
                                                    refine x_sub (l' := [(0, va_rf r0), (1, .int i1), (2, .int v431), (3, .int v432), (6, .int v434), (7, .int v441)]) [1, 2, 3, 4, 6, 0] rfl ?_
                                                    exact J_230 _ _ _ _ _ _ h
                                              · refine x_callV hC (st := [.int v494]) (mt_X4_personOf _ _ _ _ _ hb507) ea499 ha500 kf_4 q_506 q_507 q_508 q_1 q_509 ⟨rfl, hy_X4_personOf⟩ ⟨Nat.le_of_ble_eq_true rfl, Nat.le_of_ble_eq_true rfl⟩ ⟨Nat.le_of_ble_eq_true rfl, Nat.le_of_ble_eq_true rfl⟩ rfl (Nat.le_of_ble_eq_true rfl) dL_isAhead_213 r_X (r_XX ?_)
                                                replace h := ir_x h hg_130
                                                exact x_out hC hQ hE (z_X (Option.some.inj h)) (Nat.le_of_ble_eq_true rfl) (Nat.le_of_ble_eq_true rfl)
                                            · refine x_callV hC (st := []) (mt_X4_personOf _ _ _ _ _ hb508) ea492 ha493 kf_4 q_506 q_507 q_508 q_1 q_509 ⟨rfl, hy_X4_personOf⟩ ⟨Nat.le_of_ble_eq_true rfl, Nat.le_of_ble_eq_true rfl⟩ ⟨Nat.le_of_ble_eq_true rfl, Nat.le_of_ble_eq_true rfl⟩ rfl (Nat.le_of_ble_eq_true rfl) dL_isAhead_207 r_X (r_XX ?_)
                                              replace h := ir_x h hg_130
                                              exact x_out hC hQ hE (z_X (Option.some.inj h)) (Nat.le_of_ble_eq_true rfl) (Nat.le_of_ble_eq_true rfl)
                                        · refine x_callV hC (st := [.int v479]) (mt_X4_personOf _ _ _ _ _ hb509) ea484 ha485 kf_4 q_506 q_507 q_508 q_1 q_509 ⟨rfl, hy_X4_personOf⟩ ⟨Nat.le_of_ble_eq_true rfl, Nat.le_of_ble_eq_true rfl⟩ ⟨Nat.le_of_ble_eq_true rfl, Nat.le_of_ble_eq_true rfl⟩ rfl (Nat.le_of_ble_eq_true rfl) dL_isAhead_197 r_X (r_XX ?_)
                                          replace h := ir_x h hg_130
                                          exact x_out hC hQ hE (z_X (Option.some.inj h)) (Nat.le_of_ble_eq_true rfl) (Nat.le_of_ble_eq_true rfl)
                                      · refine x_callV hC (st := []) (mt_X4_personOf _ _ _ _ _ hb510) ea477 ha478 kf_4 q_506 q_507 q_508 q_1 q_509 ⟨rfl, hy_X4_personOf⟩ ⟨Nat.le_of_ble_eq_true rfl, Nat.le_of_ble_eq_true rfl⟩ ⟨Nat.le_of_ble_eq_true rfl, Nat.le_of_ble_eq_true rfl⟩ rfl (Nat.le_of_ble_eq_true rfl) dL_isAhead_191 r_X (r_XX ?_)
                                        replace h := ir_x h hg_130
                                        exact x_out hC hQ hE (z_X (Option.some.inj h)) (Nat.le_of_ble_eq_true rfl) (Nat.le_of_ble_eq_true rfl)
                                  · refine x_callV hC (st := [.int v464]) (mt_X4_personOf _ _ _ _ _ hb511) ea469 ha470 kf_4 q_506 q_507 q_508 q_1 q_509 ⟨rfl, hy_X4_personOf⟩ ⟨Nat.le_of_ble_eq_true rfl, Nat.le_of_ble_eq_true rfl⟩ ⟨Nat.le_of_ble_eq_true rfl, Nat.le_of_ble_eq_true rfl⟩ rfl (Nat.le_of_ble_eq_true rfl) dL_isAhead_181 r_X (r_XX ?_)
                                    replace h := ir_x h hg_130
                                    exact x_out hC hQ hE (z_X (Option.some.inj h)) (Nat.le_of_ble_eq_true rfl) (Nat.le_of_ble_eq_true rfl)
                                · refine x_callV hC (st := []) (mt_X4_personOf _ _ _ _ _ hb512) ea462 ha463 kf_4 q_506 q_507 q_508 q_1 q_509 ⟨rfl, hy_X4_personOf⟩ ⟨Nat.le_of_ble_eq_true rfl, Nat.le_of_ble_eq_true rfl⟩ ⟨Nat.le_of_ble_eq_true rfl, Nat.le_of_ble_eq_true rfl⟩ rfl (Nat.le_of_ble_eq_true rfl) dL_isAhead_175 r_X (r_XX ?_)
                                  replace h := ir_x h hg_130
                                  exact x_out hC hQ hE (z_X (Option.some.inj h)) (Nat.le_of_ble_eq_true rfl) (Nat.le_of_ble_eq_true rfl)
                            · refine x_callV hC (st := [.int v449]) (mt_X4_personOf _ _ _ _ _ hb513) ea454 ha455 kf_4 q_506 q_507 q_508 q_1 q_509 ⟨rfl, hy_X4_personOf⟩ ⟨Nat.le_of_ble_eq_true rfl, Nat.le_of_ble_eq_true rfl⟩ ⟨Nat.le_of_ble_eq_true rfl, Nat.le_of_ble_eq_true rfl⟩ rfl (Nat.le_of_ble_eq_true rfl) dL_isAhead_165 r_X (r_XX ?_)
                              replace h := ir_x h hg_130
                              exact x_out hC hQ hE (z_X (Option.some.inj h)) (Nat.le_of_ble_eq_true rfl) (Nat.le_of_ble_eq_true rfl)
                          · refine x_callV hC (st := []) (mt_X4_personOf _ _ _ _ _ hb514) ea447 ha448 kf_4 q_506 q_507 q_508 q_1 q_509 ⟨rfl, hy_X4_personOf⟩ ⟨Nat.le_of_ble_eq_true rfl, Nat.le_of_ble_eq_true rfl⟩ ⟨Nat.le_of_ble_eq_true rfl, Nat.le_of_ble_eq_true rfl⟩ rfl (Nat.le_of_ble_eq_true rfl) dL_isAhead_159 r_X (r_XX ?_)
                            replace h := ir_x h hg_130
                            exact x_out hC hQ hE (z_X (Option.some.inj h)) (Nat.le_of_ble_eq_true rfl) (Nat.le_of_ble_eq_true rfl)
                      · refine x_callV hC (st := []) (mt_X4_whyNot _ _ _ _ _ hb515) ea439 ha440 kf_4 q_445 q_446 q_447 q_1 q_448 ⟨rfl, hy_X4_whyNot⟩ ⟨Nat.le_of_ble_eq_true rfl, Nat.le_of_ble_eq_true rfl⟩ ⟨Nat.le_of_ble_eq_true rfl, Nat.le_of_ble_eq_true rfl⟩ rfl (Nat.le_of_ble_eq_true rfl) dL_isAhead_146 r_X (r_XX ?_)
                        replace h := ir_x h hg_130
                        exact x_out hC hQ hE (z_X (Option.some.inj h)) (Nat.le_of_ble_eq_true rfl) (Nat.le_of_ble_eq_true rfl)
                · replace h := it_f c430 h
                  refine x_iload (i := 5) hC dL_isAhead_106 5 rfl ?_
                  refine x_iload_n (i := 2) hC dL_isAhead_108 rfl 2 rfl ?_
                  refine x_if_le (t := 116) hC dL_isAhead_109 (by decide) (fun c516 => ?_) (fun c516 => ?_)
                  · replace h := it_t c516 h
                    refine x_iconst (v := (0 : Int32)) hC dL_isAhead_116 (by decide) ?_
                    refine x_sub (l' := [(0, va_rf r0), (1, .int i1), (2, .int v416), (3, .int v417)]) [0, 1, 2, 3] rfl ?_
                    exact J_117 _ _ _ _ _ h
                  · replace h := it_f c516 h
                    refine x_iconst (v := (1 : Int32)) hC dL_isAhead_112 (by decide) ?_
                    refine x_goto (t := 117) hC dL_isAhead_113 (by decide) ?_
                    refine x_sub (l' := [(0, va_rf r0), (1, .int i1), (2, .int v416), (3, .int v417)]) [0, 1, 2, 3] rfl ?_
                    exact J_117 _ _ _ _ _ h
              · replace h := it_f c429 h
                refine x_iload (i := 5) hC dL_isAhead_73 5 rfl ?_
                refine x_if_ne (t := 88) hC dL_isAhead_75 (by decide) (fun c517 => ?_) (fun c517 => ?_)
                · replace h := it_f c517 h
                  refine x_iconst (v := (1 : Int32)) hC dL_isAhead_88 (by decide) ?_
                  refine x_goto (t := 93) hC dL_isAhead_89 (by decide) ?_
                  refine x_istore (i := 5) (l' := [(5, .int (1 : Int32)), (0, va_rf r0), (1, .int i1), (2, .int v416), (3, .int v417), (4, .int v418), (6, .int v420)]) hC dL_isAhead_93 (⟨fun _ => c_rf r0, ⟨fun _ => rfl, ⟨fun _ => rfl, ⟨fun _ => rfl, ⟨fun _ => rfl, ⟨fun _ => rfl, ⟨fun _ => rfl, trivial⟩⟩⟩⟩⟩⟩⟩) (by decide) rfl ?_
                  refine x_iinc (i := 6) (v := (v420 + (1 : Int32))) (l' := [(6, .int (v420 + (1 : Int32))), (5, .int (1 : Int32)), (0, va_rf r0), (1, .int i1), (2, .int v416), (3, .int v417), (4, .int v418)]) hC dL_isAhead_95 6 rfl rfl (⟨fun _ => rfl, ⟨fun _ => c_rf r0, ⟨fun _ => rfl, ⟨fun _ => rfl, ⟨fun _ => rfl, ⟨fun _ => rfl, ⟨fun _ => rfl, trivial⟩⟩⟩⟩⟩⟩⟩) (by decide) rfl ?_
                  refine x_goto (t := 63) hC dL_isAhead_98 (by decide) ?_
                  refine x_sub (l' := [(0, va_rf r0), (1, .int i1), (2, .int v416), (3, .int v417), (4, .int v418), (5, .int (1 : Int32)), (6, .int (v420 + (1 : Int32)))]) [2, 3, 4, 5, 6, 1, 0] rfl ?_
                  have hb := bk_x h hg_63
                  exact hb
                · replace h := it_t c517 h
                  refine x_aload_n (i := 0) hC dL_isAhead_78 rfl 0 rfl ?_
                  refine x_iload (i := 6) hC dL_isAhead_79 6 rfl ?_
                  replace h := dr_el h
                  obtain ⟨a518, ea519, ha520, h⟩ := h
                  replace h := bt_el h
                  obtain ⟨v521, S522, hb526, h⟩ | ⟨j523, S524, hb526, h⟩ := h
                  · refine x_callV hC (st := []) (mtr_X4_bestReviewer _ _ _ (v521, S522) hb526) ea519 ha520 kf_4 q_688 q_689 q_690 q_1 q_691 ⟨rfl, hy_X4_bestReviewer⟩ ⟨Nat.le_of_ble_eq_true rfl, Nat.le_of_ble_eq_true rfl⟩ ⟨Nat.le_of_ble_eq_true rfl, Nat.le_of_ble_eq_true rfl⟩ rfl (Nat.le_of_ble_eq_true rfl) dL_isAhead_81 (r_N ?_) r_NX
                    show PX Z 10 S522 0 0 84 [(0, va_rf r0), (1, .int i1), (2, .int v416), (3, .int v417), (4, .int v418), (5, .int v419), (6, .int v420)] [.int v521]
                    refine x_iconst (v := (-1 : Int32)) hC dL_isAhead_84 (by decide) ?_
                    refine x_icmp_eq (t := 92) hC dL_isAhead_85 (by decide) (fun c525 => ?_) (fun c525 => ?_)
                    · replace h := it_t c525 h
                      refine x_iconst (v := (0 : Int32)) hC dL_isAhead_92 (by decide) ?_
                      refine x_istore (i := 5) (l' := [(5, .int (0 : Int32)), (0, va_rf r0), (1, .int i1), (2, .int v416), (3, .int v417), (4, .int v418), (6, .int v420)]) hC dL_isAhead_93 (⟨fun _ => c_rf r0, ⟨fun _ => rfl, ⟨fun _ => rfl, ⟨fun _ => rfl, ⟨fun _ => rfl, ⟨fun _ => rfl, ⟨fun _ => rfl, trivial⟩⟩⟩⟩⟩⟩⟩) (by decide) rfl ?_
                      refine x_iinc (i := 6) (v := (v420 + (1 : Int32))) (l' := [(6, .int (v420 + (1 : Int32))), (5, .int (0 : Int32)), (0, va_rf r0), (1, .int i1), (2, .int v416), (3, .int v417), (4, .int v418)]) hC dL_isAhead_95 6 rfl rfl (⟨fun _ => rfl, ⟨fun _ => c_rf r0, ⟨fun _ => rfl, ⟨fun _ => rfl, ⟨fun _ => rfl, ⟨fun _ => rfl, ⟨fun _ => rfl, trivial⟩⟩⟩⟩⟩⟩⟩) (by decide) rfl ?_
                      refine x_goto (t := 63) hC dL_isAhead_98 (by decide) ?_
                      refine x_sub (l' := [(0, va_rf r0), (1, .int i1), (2, .int v416), (3, .int v417), (4, .int v418), (5, .int (0 : Int32)), (6, .int (v420 + (1 : Int32)))]) [2, 3, 4, 5, 6, 1, 0] rfl ?_
                      have hb := bk_x h hg_63
                      exact hb
                    · replace h := it_f c525 h
                      refine x_iconst (v := (1 : Int32)) hC dL_isAhead_88 (by decide) ?_
                      refine x_goto (t := 93) hC dL_isAhead_89 (by decide) ?_
                      refine x_istore (i := 5) (l' := [(5, .int (1 : Int32)), (0, va_rf r0), (1, .int i1), (2, .int v416), (3, .int v417), (4, .int v418), (6, .int v420)]) hC dL_isAhead_93 (⟨fun _ => c_rf r0, ⟨fun _ => rfl, ⟨fun _ => rfl, ⟨fun _ => rfl, ⟨fun _ => rfl, ⟨fun _ => rfl, ⟨fun _ => rfl, trivial⟩⟩⟩⟩⟩⟩⟩) (by decide) rfl ?_
                      refine x_iinc (i := 6) (v := (v420 + (1 : Int32))) (l' := [(6, .int (v420 + (1 : Int32))), (5, .int (1 : Int32)), (0, va_rf r0), (1, .int i1), (2, .int v416), (3, .int v417), (4, .int v418)]) hC dL_isAhead_95 6 rfl rfl (⟨fun _ => rfl, ⟨fun _ => c_rf r0, ⟨fun _ => rfl, ⟨fun _ => rfl, ⟨fun _ => rfl, ⟨fun _ => rfl, ⟨fun _ => rfl, trivial⟩⟩⟩⟩⟩⟩⟩) (by decide) rfl ?_
                      refine x_goto (t := 63) hC dL_isAhead_98 (by decide) ?_
                      refine x_sub (l' := [(0, va_rf r0), (1, .int i1), (2, .int v416), (3, .int v417), (4, .int v418), (5, .int (1 : Int32)), (6, .int (v420 + (1 : Int32)))]) [2, 3, 4, 5, 6, 1, 0] rfl ?_
                      have hb := bk_x h hg_63
                      exact hb
                  · refine x_callV hC (st := []) (mt_X4_bestReviewer _ _ _ _ hb526) ea519 ha520 kf_4 q_688 q_689 q_690 q_1 q_691 ⟨rfl, hy_X4_bestReviewer⟩ ⟨Nat.le_of_ble_eq_true rfl, Nat.le_of_ble_eq_true rfl⟩ ⟨Nat.le_of_ble_eq_true rfl, Nat.le_of_ble_eq_true rfl⟩ rfl (Nat.le_of_ble_eq_true rfl) dL_isAhead_81 r_X (r_XX ?_)
                    replace h := ir_x h hg_63
                    exact x_out hC hQ hE (z_X (Option.some.inj h)) (Nat.le_of_ble_eq_true rfl) (Nat.le_of_ble_eq_true rfl)
            · refine x_callV hC (st := [.int v420]) (mt_X4_count _ _ _ _ hb527) ea423 ha424 kf_4 q_406 q_407 q_408 q_1 q_409 ⟨rfl, hy_X4_count⟩ ⟨Nat.le_of_ble_eq_true rfl, Nat.le_of_ble_eq_true rfl⟩ ⟨Nat.le_of_ble_eq_true rfl, Nat.le_of_ble_eq_true rfl⟩ rfl (Nat.le_of_ble_eq_true rfl) dL_isAhead_67 r_X (r_XX ?_)
              replace h := ir_x h hg_63
              exact x_out hC hQ hE (z_X (Option.some.inj h)) (Nat.le_of_ble_eq_true rfl) (Nat.le_of_ble_eq_true rfl)
          · replace h := it_f c415 h
            refine x_iconst (v := (2 : Int32)) hC dL_isAhead_25 (by decide) ?_
            refine x_iload_n (i := 2) hC dL_isAhead_26 rfl 1 rfl ?_
            refine x_imul hC dL_isAhead_27 ?_
            refine x_aload_n (i := 0) hC dL_isAhead_28 rfl 2 rfl ?_
            refine x_iconst (v := (4 : Int32)) hC dL_isAhead_29 (by decide) ?_
            replace h := dr_el h
            obtain ⟨a528, ea529, ha530, h⟩ := h
            replace h := bt_el h
            obtain ⟨v531, S532, hb994, h⟩ | ⟨j533, S534, hb994, h⟩ := h
            · refine x_callV hC (st := [.int ((2 : Int32) * v4)]) (mtr_X4_count _ _ _ (v531, S532) hb994) ea529 ha530 kf_4 q_406 q_407 q_408 q_1 q_409 ⟨rfl, hy_X4_count⟩ ⟨Nat.le_of_ble_eq_true rfl, Nat.le_of_ble_eq_true rfl⟩ ⟨Nat.le_of_ble_eq_true rfl, Nat.le_of_ble_eq_true rfl⟩ rfl (Nat.le_of_ble_eq_true rfl) dL_isAhead_30 (r_N ?_) r_NX
              show PX Z 10 S532 0 0 33 [(3, .int v11), (2, .int v4), (0, va_rf r0), (1, .int i1)] [.int v531, .int ((2 : Int32) * v4)]
              refine x_icmp_gt (t := 54) hC dL_isAhead_33 (by decide) (fun c535 => ?_) (fun c535 => ?_)
              · replace h := it_t c535 h
                refine x_iconst (v := (0 : Int32)) hC dL_isAhead_54 (by decide) ?_
                refine x_istore (i := 4) (l' := [(4, .int (0 : Int32)), (3, .int v11), (2, .int v4), (0, va_rf r0), (1, .int i1)]) hC dL_isAhead_55 (⟨fun _ => rfl, ⟨fun _ => rfl, ⟨fun _ => c_rf r0, ⟨fun _ => rfl, trivial⟩⟩⟩⟩) (by decide) rfl ?_
                refine x_iconst (v := (0 : Int32)) hC dL_isAhead_57 (by decide) ?_
                refine x_istore (i := 5) (l' := [(5, .int (0 : Int32)), (4, .int (0 : Int32)), (3, .int v11), (2, .int v4), (0, va_rf r0), (1, .int i1)]) hC dL_isAhead_58 (⟨fun _ => rfl, ⟨fun _ => rfl, ⟨fun _ => rfl, ⟨fun _ => c_rf r0, ⟨fun _ => rfl, trivial⟩⟩⟩⟩⟩) (by decide) rfl ?_
                refine x_iconst (v := (0 : Int32)) hC dL_isAhead_60 (by decide) ?_
                refine x_istore (i := 6) (l' := [(6, .int (0 : Int32)), (5, .int (0 : Int32)), (4, .int (0 : Int32)), (3, .int v11), (2, .int v4), (0, va_rf r0), (1, .int i1)]) hC dL_isAhead_61 (⟨fun _ => rfl, ⟨fun _ => rfl, ⟨fun _ => rfl, ⟨fun _ => rfl, ⟨fun _ => c_rf r0, ⟨fun _ => rfl, trivial⟩⟩⟩⟩⟩⟩) (by decide) rfl ?_
                refine x_sub (l' := [(0, va_rf r0), (1, .int i1), (2, .int v4), (3, .int v11), (4, .int (0 : Int32)), (5, .int (0 : Int32)), (6, .int (0 : Int32))]) [5, 6, 4, 3, 2, 1, 0] rfl ?_
                refine lp_sim (P := fun (t : (Int32 × Int32 × Int32 × Int32 × Int32 × PH)) => PX Z 10 t.2.2.2.2.2 0 0 63 [(0, va_rf r0), (1, .int i1), (2, .int t.1), (3, .int t.2.1), (4, .int t.2.2.1), (5, .int t.2.2.2.1), (6, .int t.2.2.2.2.1)] []) (G := fun r => r = y) ?_ h rfl
                clear h
                intro t x_63 h hg_63
                obtain ⟨v536, v537, v538, v539, v540, S541⟩ := t
                show PX Z 10 S541 0 0 63 [(0, va_rf r0), (1, .int i1), (2, .int v536), (3, .int v537), (4, .int v538), (5, .int v539), (6, .int v540)] []
                unfold st_L_isAhead_63 at h
                refine x_iload (i := 6) hC dL_isAhead_63 6 rfl ?_
                refine x_aload_n (i := 0) hC dL_isAhead_65 rfl 0 rfl ?_
                refine x_iconst (v := (0 : Int32)) hC dL_isAhead_66 (by decide) ?_
                replace h := dr_el h
                obtain ⟨a542, ea543, ha544, h⟩ := h
                replace h := bt_el h
                obtain ⟨v545, S546, hb647, h⟩ | ⟨j547, S548, hb647, h⟩ := h
                · refine x_callV hC (st := [.int v540]) (mtr_X4_count _ _ _ (v545, S546) hb647) ea543 ha544 kf_4 q_406 q_407 q_408 q_1 q_409 ⟨rfl, hy_X4_count⟩ ⟨Nat.le_of_ble_eq_true rfl, Nat.le_of_ble_eq_true rfl⟩ ⟨Nat.le_of_ble_eq_true rfl, Nat.le_of_ble_eq_true rfl⟩ rfl (Nat.le_of_ble_eq_true rfl) dL_isAhead_67 (r_N ?_) r_NX
                  show PX Z 10 S546 0 0 70 [(0, va_rf r0), (1, .int i1), (2, .int v536), (3, .int v537), (4, .int v538), (5, .int v539), (6, .int v540)] [.int v545, .int v540]
                  refine x_icmp_ge (t := 101) hC dL_isAhead_70 (by decide) (fun c549 => ?_) (fun c549 => ?_)
                  · replace h := it_t c549 h
                    replace h := ir_x h hg_63
                    refine x_iload (i := 4) hC dL_isAhead_101 4 rfl ?_
                    refine x_if_eq (t := 124) hC dL_isAhead_103 (by decide) (fun c550 => ?_) (fun c550 => ?_)
                    · replace h := it_t c550 h
                      refine x_iconst (v := (0 : Int32)) hC dL_isAhead_124 (by decide) ?_
                      refine x_istore (i := 4) (l' := [(4, .int (0 : Int32)), (0, va_rf r0), (1, .int i1), (2, .int v536), (3, .int v537), (5, .int v539), (6, .int v540)]) hC dL_isAhead_125 (⟨fun _ => c_rf r0, ⟨fun _ => rfl, ⟨fun _ => rfl, ⟨fun _ => rfl, ⟨fun _ => rfl, ⟨fun _ => rfl, ⟨fun _ => rfl, trivial⟩⟩⟩⟩⟩⟩⟩) (by decide) rfl ?_
                      refine x_iconst (v := (0 : Int32)) hC dL_isAhead_127 (by decide) ?_
                      refine x_istore (i := 6) (l' := [(6, .int (0 : Int32)), (4, .int (0 : Int32)), (0, va_rf r0), (1, .int i1), (2, .int v536), (3, .int v537), (5, .int v539)]) hC dL_isAhead_128 (⟨fun _ => rfl, ⟨fun _ => c_rf r0, ⟨fun _ => rfl, ⟨fun _ => rfl, ⟨fun _ => rfl, ⟨fun _ => rfl, ⟨fun _ => rfl, trivial⟩⟩⟩⟩⟩⟩⟩) (by decide) rfl ?_
                      refine x_sub (l' := [(0, va_rf r0), (1, .int i1), (2, .int v536), (3, .int v537), (4, .int (0 : Int32)), (6, .int (0 : Int32))]) [2, 3, 4, 5, 1, 0] rfl ?_
                      refine lp_sim (P := fun (t : (Int32 × Int32 × Int32 × Int32 × PH)) => PX Z 10 t.2.2.2.2 0 0 130 [(0, va_rf r0), (1, .int i1), (2, .int t.1), (3, .int t.2.1), (4, .int t.2.2.1), (6, .int t.2.2.2.1)] []) (G := fun r => r = y) ?_ h rfl
                      clear h
                      intro t x_130 h hg_130
                      obtain ⟨v551, v552, v553, v554, S555⟩ := t
                      show PX Z 10 S555 0 0 130 [(0, va_rf r0), (1, .int i1), (2, .int v551), (3, .int v552), (4, .int v553), (6, .int v554)] []
                      have J_328 : ∀ (v117 : Int32) (v118 : Int32) (v119 : Int32) (v120 : Int32) (v121 : Int32) (S122 : PH), j_L_isAhead_328 r0 i1 v117 v118 v119 v120 v121 S122 = some x_130 → PX Z 10 S122 0 0 328 [(0, va_rf r0), (1, .int i1), (2, .int v117), (3, .int v118), (6, .int v119), (7, .int v120), (9, .int v121)] [] := by
                        intro v117 v118 v119 v120 v121 S122 h
                        unfold j_L_isAhead_328 at h
                        refine x_iload (i := 7) hC dL_isAhead_328 5 rfl ?_
                        refine x_iconst (v := (5 : Int32)) hC dL_isAhead_330 (by decide) ?_
                        refine x_icmp_lt (t := 339) hC dL_isAhead_331 (by decide) (fun c123 => ?_) (fun c123 => ?_)
                        · replace h := it_t c123 h
                          refine x_iconst (v := (1 : Int32)) hC dL_isAhead_339 (by decide) ?_
                          refine x_goto (t := 366) hC dL_isAhead_340 (by decide) ?_
                          refine x_istore (i := 4) (l' := [(4, .int (1 : Int32)), (0, va_rf r0), (1, .int i1), (2, .int v117), (3, .int v118), (6, .int v119), (7, .int v120), (9, .int v121)]) hC dL_isAhead_366 (⟨fun _ => c_rf r0, ⟨fun _ => rfl, ⟨fun _ => rfl, ⟨fun _ => rfl, ⟨fun _ => rfl, ⟨fun _ => rfl, ⟨fun _ => rfl, trivial⟩⟩⟩⟩⟩⟩⟩) (by decide) rfl ?_
                          refine x_iinc (i := 6) (v := (v119 + (1 : Int32))) (l' := [(6, .int (v119 + (1 : Int32))), (4, .int (1 : Int32)), (0, va_rf r0), (1, .int i1), (2, .int v117), (3, .int v118), (7, .int v120), (9, .int v121)]) hC dL_isAhead_368 5 rfl rfl (⟨fun _ => rfl, ⟨fun _ => c_rf r0, ⟨fun _ => rfl, ⟨fun _ => rfl, ⟨fun _ => rfl, ⟨fun _ => rfl, ⟨fun _ => rfl, ⟨fun _ => rfl, trivial⟩⟩⟩⟩⟩⟩⟩⟩) (by decide) rfl ?_
                          refine x_goto (t := 130) hC dL_isAhead_371 (by decide) ?_
                          refine x_sub (l' := [(0, va_rf r0), (1, .int i1), (2, .int v117), (3, .int v118), (4, .int (1 : Int32)), (6, .int (v119 + (1 : Int32)))]) [2, 3, 4, 5, 1, 0] rfl ?_
                          have hb := bk_x h hg_130
                          exact hb
                        · replace h := it_f c123 h
                          refine x_iload (i := 9) hC dL_isAhead_334 6 rfl ?_
                          refine x_if_ne (t := 343) hC dL_isAhead_336 (by decide) (fun c124 => ?_) (fun c124 => ?_)
                          · replace h := it_f c124 h
                            refine x_iconst (v := (0 : Int32)) hC dL_isAhead_343 (by decide) ?_
                            refine x_goto (t := 366) hC dL_isAhead_344 (by decide) ?_
                            refine x_istore (i := 4) (l' := [(4, .int (0 : Int32)), (0, va_rf r0), (1, .int i1), (2, .int v117), (3, .int v118), (6, .int v119), (7, .int v120), (9, .int v121)]) hC dL_isAhead_366 (⟨fun _ => c_rf r0, ⟨fun _ => rfl, ⟨fun _ => rfl, ⟨fun _ => rfl, ⟨fun _ => rfl, ⟨fun _ => rfl, ⟨fun _ => rfl, trivial⟩⟩⟩⟩⟩⟩⟩) (by decide) rfl ?_
                            refine x_iinc (i := 6) (v := (v119 + (1 : Int32))) (l' := [(6, .int (v119 + (1 : Int32))), (4, .int (0 : Int32)), (0, va_rf r0), (1, .int i1), (2, .int v117), (3, .int v118), (7, .int v120), (9, .int v121)]) hC dL_isAhead_368 5 rfl rfl (⟨fun _ => rfl, ⟨fun _ => c_rf r0, ⟨fun _ => rfl, ⟨fun _ => rfl, ⟨fun _ => rfl, ⟨fun _ => rfl, ⟨fun _ => rfl, ⟨fun _ => rfl, trivial⟩⟩⟩⟩⟩⟩⟩⟩) (by decide) rfl ?_
                            refine x_goto (t := 130) hC dL_isAhead_371 (by decide) ?_
                            refine x_sub (l' := [(0, va_rf r0), (1, .int i1), (2, .int v117), (3, .int v118), (4, .int (0 : Int32)), (6, .int (v119 + (1 : Int32)))]) [2, 3, 4, 5, 1, 0] rfl ?_
                            have hb := bk_x h hg_130
                            exact hb
                          · replace h := it_t c124 h
                            refine x_iconst (v := (1 : Int32)) hC dL_isAhead_339 (by decide) ?_
                            refine x_goto (t := 366) hC dL_isAhead_340 (by decide) ?_
                            refine x_istore (i := 4) (l' := [(4, .int (1 : Int32)), (0, va_rf r0), (1, .int i1), (2, .int v117), (3, .int v118), (6, .int v119), (7, .int v120), (9, .int v121)]) hC dL_isAhead_366 (⟨fun _ => c_rf r0, ⟨fun _ => rfl, ⟨fun _ => rfl, ⟨fun _ => rfl, ⟨fun _ => rfl, ⟨fun _ => rfl, ⟨fun _ => rfl, trivial⟩⟩⟩⟩⟩⟩⟩) (by decide) rfl ?_
                            refine x_iinc (i := 6) (v := (v119 + (1 : Int32))) (l' := [(6, .int (v119 + (1 : Int32))), (4, .int (1 : Int32)), (0, va_rf r0), (1, .int i1), (2, .int v117), (3, .int v118), (7, .int v120), (9, .int v121)]) hC dL_isAhead_368 5 rfl rfl (⟨fun _ => rfl, ⟨fun _ => c_rf r0, ⟨fun _ => rfl, ⟨fun _ => rfl, ⟨fun _ => rfl, ⟨fun _ => rfl, ⟨fun _ => rfl, ⟨fun _ => rfl, trivial⟩⟩⟩⟩⟩⟩⟩⟩) (by decide) rfl ?_
                            refine x_goto (t := 130) hC dL_isAhead_371 (by decide) ?_
                            refine x_sub (l' := [(0, va_rf r0), (1, .int i1), (2, .int v117), (3, .int v118), (4, .int (1 : Int32)), (6, .int (v119 + (1 : Int32)))]) [2, 3, 4, 5, 1, 0] rfl ?_
                            have hb := bk_x h hg_130
                            exact hb
                      have J_314 : ∀ (v107 : Int32) (v108 : Int32) (v109 : Int32) (v110 : Int32) (v111 : Int32) (v112 : Int32) (v113 : Int32) (S114 : PH), j_L_isAhead_314 r0 i1 v107 v108 v109 v110 v111 v112 v113 S114 = some x_130 → PX Z 10 S114 0 0 314 [(0, va_rf r0), (1, .int i1), (2, .int v107), (3, .int v108), (6, .int v109), (7, .int v110), (9, .int v111)] [.int v113, .int v112] := by
                        intro v107 v108 v109 v110 v111 v112 v113 S114 h
                        unfold j_L_isAhead_314 at h
                        refine x_icmp_ne (t := 343) hC dL_isAhead_314 (by decide) (fun c115 => ?_) (fun c115 => ?_)
                        · replace h := it_f c115 h
                          refine x_iconst (v := (0 : Int32)) hC dL_isAhead_343 (by decide) ?_
                          refine x_goto (t := 366) hC dL_isAhead_344 (by decide) ?_
                          refine x_istore (i := 4) (l' := [(4, .int (0 : Int32)), (0, va_rf r0), (1, .int i1), (2, .int v107), (3, .int v108), (6, .int v109), (7, .int v110), (9, .int v111)]) hC dL_isAhead_366 (⟨fun _ => c_rf r0, ⟨fun _ => rfl, ⟨fun _ => rfl, ⟨fun _ => rfl, ⟨fun _ => rfl, ⟨fun _ => rfl, ⟨fun _ => rfl, trivial⟩⟩⟩⟩⟩⟩⟩) (by decide) rfl ?_
                          refine x_iinc (i := 6) (v := (v109 + (1 : Int32))) (l' := [(6, .int (v109 + (1 : Int32))), (4, .int (0 : Int32)), (0, va_rf r0), (1, .int i1), (2, .int v107), (3, .int v108), (7, .int v110), (9, .int v111)]) hC dL_isAhead_368 5 rfl rfl (⟨fun _ => rfl, ⟨fun _ => c_rf r0, ⟨fun _ => rfl, ⟨fun _ => rfl, ⟨fun _ => rfl, ⟨fun _ => rfl, ⟨fun _ => rfl, ⟨fun _ => rfl, trivial⟩⟩⟩⟩⟩⟩⟩⟩) (by decide) rfl ?_
                          refine x_goto (t := 130) hC dL_isAhead_371 (by decide) ?_
                          refine x_sub (l' := [(0, va_rf r0), (1, .int i1), (2, .int v107), (3, .int v108), (4, .int (0 : Int32)), (6, .int (v109 + (1 : Int32)))]) [2, 3, 4, 5, 1, 0] rfl ?_
                          have hb := bk_x h hg_130
                          exact hb
                        · replace h := it_t c115 h
                          refine x_iload (i := 7) hC dL_isAhead_317 5 rfl ?_
                          refine x_iconst (v := (4 : Int32)) hC dL_isAhead_319 (by decide) ?_
                          refine x_icmp_ne (t := 328) hC dL_isAhead_320 (by decide) (fun c116 => ?_) (fun c116 => ?_)
                          · replace h := it_f c116 h
                            exact J_328 _ _ _ _ _ _ h
                          · replace h := it_t c116 h
                            refine x_iload (i := 9) hC dL_isAhead_323 6 rfl ?_
                            refine x_if_eq (t := 343) hC dL_isAhead_325 (by decide) (fun c125 => ?_) (fun c125 => ?_)
                            · replace h := it_t c125 h
                              refine x_iconst (v := (0 : Int32)) hC dL_isAhead_343 (by decide) ?_
                              refine x_goto (t := 366) hC dL_isAhead_344 (by decide) ?_
                              refine x_istore (i := 4) (l' := [(4, .int (0 : Int32)), (0, va_rf r0), (1, .int i1), (2, .int v107), (3, .int v108), (6, .int v109), (7, .int v110), (9, .int v111)]) hC dL_isAhead_366 (⟨fun _ => c_rf r0, ⟨fun _ => rfl, ⟨fun _ => rfl, ⟨fun _ => rfl, ⟨fun _ => rfl, ⟨fun _ => rfl, ⟨fun _ => rfl, trivial⟩⟩⟩⟩⟩⟩⟩) (by decide) rfl ?_
                              refine x_iinc (i := 6) (v := (v109 + (1 : Int32))) (l' := [(6, .int (v109 + (1 : Int32))), (4, .int (0 : Int32)), (0, va_rf r0), (1, .int i1), (2, .int v107), (3, .int v108), (7, .int v110), (9, .int v111)]) hC dL_isAhead_368 5 rfl rfl (⟨fun _ => rfl, ⟨fun _ => c_rf r0, ⟨fun _ => rfl, ⟨fun _ => rfl, ⟨fun _ => rfl, ⟨fun _ => rfl, ⟨fun _ => rfl, ⟨fun _ => rfl, trivial⟩⟩⟩⟩⟩⟩⟩⟩) (by decide) rfl ?_
                              refine x_goto (t := 130) hC dL_isAhead_371 (by decide) ?_
                              refine x_sub (l' := [(0, va_rf r0), (1, .int i1), (2, .int v107), (3, .int v108), (4, .int (0 : Int32)), (6, .int (v109 + (1 : Int32)))]) [2, 3, 4, 5, 1, 0] rfl ?_
                              have hb := bk_x h hg_130
                              exact hb
                            · replace h := it_f c125 h
                              exact J_328 _ _ _ _ _ _ h
                      have J_271 : ∀ (v92 : Int32) (v93 : Int32) (v94 : Int32) (v95 : Int32) (v96 : Int32) (v97 : Int32) (S98 : PH), j_L_isAhead_271 r0 i1 v92 v93 v94 v95 v96 v97 S98 = some x_130 → PX Z 10 S98 0 0 271 [(0, va_rf r0), (1, .int i1), (2, .int v92), (3, .int v93), (6, .int v94), (7, .int v95), (9, .int v96)] [.int v97] := by
                        intro v92 v93 v94 v95 v96 v97 S98 h
                        unfold j_L_isAhead_271 at h
                        refine x_aload_n (i := 0) hC dL_isAhead_271 rfl 0 rfl ?_
                        refine x_iload_n (i := 1) hC dL_isAhead_272 rfl 1 rfl ?_
                        refine x_bipush (v := (8 : Int32)) hC dL_isAhead_273 (by decide) ?_
                        replace h := dr_el h
                        obtain ⟨a99, ea100, ha101, h⟩ := h
                        replace h := bt_el h
                        obtain ⟨v102, S103, hb155, h⟩ | ⟨j104, S105, hb155, h⟩ := h
                        · refine x_callV hC (st := [.int v97]) (mtr_X4_paperOf _ _ _ _ (v102, S103) hb155) ea100 ha101 kf_4 q_527 q_528 q_529 q_1 q_530 ⟨rfl, hy_X4_paperOf⟩ ⟨Nat.le_of_ble_eq_true rfl, Nat.le_of_ble_eq_true rfl⟩ ⟨Nat.le_of_ble_eq_true rfl, Nat.le_of_ble_eq_true rfl⟩ rfl (Nat.le_of_ble_eq_true rfl) dL_isAhead_275 (r_N ?_) r_NX
                          show PX Z 10 S103 0 0 278 [(0, va_rf r0), (1, .int i1), (2, .int v92), (3, .int v93), (6, .int v94), (7, .int v95), (9, .int v96)] [.int v102, .int v97]
                          refine x_if_ne (t := 313) hC dL_isAhead_278 (by decide) (fun c106 => ?_) (fun c106 => ?_)
                          · replace h := it_f c106 h
                            refine x_iconst (v := (0 : Int32)) hC dL_isAhead_313 (by decide) ?_
                            exact J_314 _ _ _ _ _ _ _ _ h
                          · replace h := it_t c106 h
                            refine x_aload_n (i := 0) hC dL_isAhead_281 rfl 0 rfl ?_
                            refine x_iload (i := 6) hC dL_isAhead_282 4 rfl ?_
                            refine x_iload_n (i := 1) hC dL_isAhead_284 rfl 1 rfl ?_
                            replace h := dr_el h
                            obtain ⟨a126, ea127, ha128, h⟩ := h
                            replace h := bt_el h
                            obtain ⟨v129, S130, hb154, h⟩ | ⟨j131, S132, hb154, h⟩ := h
                            · refine x_callV hC (st := [.int v97]) (mtr_X4_score _ _ _ _ (v129, S130) hb154) ea127 ha128 kf_4 q_548 q_549 q_550 q_1 q_551 ⟨rfl, hy_X4_score⟩ ⟨Nat.le_of_ble_eq_true rfl, Nat.le_of_ble_eq_true rfl⟩ ⟨Nat.le_of_ble_eq_true rfl, Nat.le_of_ble_eq_true rfl⟩ rfl (Nat.le_of_ble_eq_true rfl) dL_isAhead_285 (r_N ?_) r_NX
                              show PX Z 10 S130 0 0 288 [(0, va_rf r0), (1, .int i1), (2, .int v92), (3, .int v93), (6, .int v94), (7, .int v95), (9, .int v96)] [.int v129, .int v97]
                              refine x_iconst (v := (-1 : Int32)) hC dL_isAhead_288 (by decide) ?_
                              refine x_icmp_ne (t := 313) hC dL_isAhead_289 (by decide) (fun c133 => ?_) (fun c133 => ?_)
                              · replace h := it_f c133 h
                                refine x_iconst (v := (0 : Int32)) hC dL_isAhead_313 (by decide) ?_
                                exact J_314 _ _ _ _ _ _ _ _ h
                              · replace h := it_t c133 h
                                refine x_aload_n (i := 0) hC dL_isAhead_292 rfl 0 rfl ?_
                                refine x_iload_n (i := 1) hC dL_isAhead_293 rfl 1 rfl ?_
                                refine x_iconst (v := (2 : Int32)) hC dL_isAhead_294 (by decide) ?_
                                replace h := dr_el h
                                obtain ⟨a134, ea135, ha136, h⟩ := h
                                replace h := bt_el h
                                obtain ⟨v137, S138, hb153, h⟩ | ⟨j139, S140, hb153, h⟩ := h
                                · refine x_callV hC (st := [.int v97]) (mtr_X4_paperOf _ _ _ _ (v137, S138) hb153) ea135 ha136 kf_4 q_527 q_528 q_529 q_1 q_530 ⟨rfl, hy_X4_paperOf⟩ ⟨Nat.le_of_ble_eq_true rfl, Nat.le_of_ble_eq_true rfl⟩ ⟨Nat.le_of_ble_eq_true rfl, Nat.le_of_ble_eq_true rfl⟩ rfl (Nat.le_of_ble_eq_true rfl) dL_isAhead_295 (r_N ?_) r_NX
                                  show PX Z 10 S138 0 0 298 [(0, va_rf r0), (1, .int i1), (2, .int v92), (3, .int v93), (6, .int v94), (7, .int v95), (9, .int v96)] [.int v137, .int v97]
                                  replace h := bd_el h
                                  obtain ⟨v141, S142, hb143, h⟩ := h
                                  refine x_callS hC (st := [.int v97]) (mt_L_bits _ _ _ hb143) q_656 q_657 q_0 q_658 hy_L_bits ⟨Nat.le_of_ble_eq_true rfl, Nat.le_of_ble_eq_true rfl⟩ ⟨Nat.le_of_ble_eq_true rfl, Nat.le_of_ble_eq_true rfl⟩ rfl (Nat.le_of_ble_eq_true rfl) dL_isAhead_298 (r_N ?_) r_NX
                                  show PX Z 10 S142 0 0 301 [(0, va_rf r0), (1, .int i1), (2, .int v92), (3, .int v93), (6, .int v94), (7, .int v95), (9, .int v96)] [.int v141, .int v97]
                                  refine x_aload_n (i := 0) hC dL_isAhead_301 rfl 0 rfl ?_
                                  refine x_iconst (v := (0 : Int32)) hC dL_isAhead_302 (by decide) ?_
                                  replace h := dr_el h
                                  obtain ⟨a144, ea145, ha146, h⟩ := h
                                  replace h := bt_el h
                                  obtain ⟨v147, S148, hb152, h⟩ | ⟨j149, S150, hb152, h⟩ := h
                                  · refine x_callV hC (st := [.int v141, .int v97]) (mtr_X4_setting _ _ _ (v147, S148) hb152) ea145 ha146 kf_4 q_552 q_553 q_554 q_1 q_555 ⟨rfl, hy_X4_setting⟩ ⟨Nat.le_of_ble_eq_true rfl, Nat.le_of_ble_eq_true rfl⟩ ⟨Nat.le_of_ble_eq_true rfl, Nat.le_of_ble_eq_true rfl⟩ rfl (Nat.le_of_ble_eq_true rfl) dL_isAhead_303 (r_N ?_) r_NX
                                    show PX Z 10 S148 0 0 306 [(0, va_rf r0), (1, .int i1), (2, .int v92), (3, .int v93), (6, .int v94), (7, .int v95), (9, .int v96)] [.int v147, .int v141, .int v97]
                                    refine x_icmp_ge (t := 313) hC dL_isAhead_306 (by decide) (fun c151 => ?_) (fun c151 => ?_)
                                    · replace h := it_t c151 h
                                      refine x_iconst (v := (0 : Int32)) hC dL_isAhead_313 (by decide) ?_
                                      exact J_314 _ _ _ _ _ _ _ _ h
                                    · replace h := it_f c151 h
                                      refine x_iconst (v := (1 : Int32)) hC dL_isAhead_309 (by decide) ?_
                                      refine x_goto (t := 314) hC dL_isAhead_310 (by decide) ?_
                                      exact J_314 _ _ _ _ _ _ _ _ h
                                  · refine x_callV hC (st := [.int v141, .int v97]) (mt_X4_setting _ _ _ _ hb152) ea145 ha146 kf_4 q_552 q_553 q_554 q_1 q_555 ⟨rfl, hy_X4_setting⟩ ⟨Nat.le_of_ble_eq_true rfl, Nat.le_of_ble_eq_true rfl⟩ ⟨Nat.le_of_ble_eq_true rfl, Nat.le_of_ble_eq_true rfl⟩ rfl (Nat.le_of_ble_eq_true rfl) dL_isAhead_303 r_X (r_XX ?_)
                                    replace h := ir_x h hg_130
                                    exact x_out hC hQ hE (z_X (Option.some.inj h)) (Nat.le_of_ble_eq_true rfl) (Nat.le_of_ble_eq_true rfl)
                                · refine x_callV hC (st := [.int v97]) (mt_X4_paperOf _ _ _ _ _ hb153) ea135 ha136 kf_4 q_527 q_528 q_529 q_1 q_530 ⟨rfl, hy_X4_paperOf⟩ ⟨Nat.le_of_ble_eq_true rfl, Nat.le_of_ble_eq_true rfl⟩ ⟨Nat.le_of_ble_eq_true rfl, Nat.le_of_ble_eq_true rfl⟩ rfl (Nat.le_of_ble_eq_true rfl) dL_isAhead_295 r_X (r_XX ?_)
                                  replace h := ir_x h hg_130
                                  exact x_out hC hQ hE (z_X (Option.some.inj h)) (Nat.le_of_ble_eq_true rfl) (Nat.le_of_ble_eq_true rfl)
                            · refine x_callV hC (st := [.int v97]) (mt_X4_score _ _ _ _ _ hb154) ea127 ha128 kf_4 q_548 q_549 q_550 q_1 q_551 ⟨rfl, hy_X4_score⟩ ⟨Nat.le_of_ble_eq_true rfl, Nat.le_of_ble_eq_true rfl⟩ ⟨Nat.le_of_ble_eq_true rfl, Nat.le_of_ble_eq_true rfl⟩ rfl (Nat.le_of_ble_eq_true rfl) dL_isAhead_285 r_X (r_XX ?_)
                              replace h := ir_x h hg_130
                              exact x_out hC hQ hE (z_X (Option.some.inj h)) (Nat.le_of_ble_eq_true rfl) (Nat.le_of_ble_eq_true rfl)
                        · refine x_callV hC (st := [.int v97]) (mt_X4_paperOf _ _ _ _ _ hb155) ea100 ha101 kf_4 q_527 q_528 q_529 q_1 q_530 ⟨rfl, hy_X4_paperOf⟩ ⟨Nat.le_of_ble_eq_true rfl, Nat.le_of_ble_eq_true rfl⟩ ⟨Nat.le_of_ble_eq_true rfl, Nat.le_of_ble_eq_true rfl⟩ rfl (Nat.le_of_ble_eq_true rfl) dL_isAhead_275 r_X (r_XX ?_)
                          replace h := ir_x h hg_130
                          exact x_out hC hQ hE (z_X (Option.some.inj h)) (Nat.le_of_ble_eq_true rfl) (Nat.le_of_ble_eq_true rfl)
                      have J_253 : ∀ (v80 : Int32) (v81 : Int32) (v82 : Int32) (v83 : Int32) (v84 : Int32) (v85 : Int32) (S86 : PH), j_L_isAhead_253 r0 i1 v80 v81 v82 v83 v84 v85 S86 = some x_130 → PX Z 10 S86 0 0 253 [(0, va_rf r0), (1, .int i1), (2, .int v80), (3, .int v81), (6, .int v82), (7, .int v83), (8, .int v84)] [.int v85] := by
                        intro v80 v81 v82 v83 v84 v85 S86 h
                        unfold j_L_isAhead_253 at h
                        refine x_istore (i := 9) (l' := [(9, .int v85), (0, va_rf r0), (1, .int i1), (2, .int v80), (3, .int v81), (6, .int v82), (7, .int v83), (8, .int v84)]) hC dL_isAhead_253 (⟨fun _ => c_rf r0, ⟨fun _ => rfl, ⟨fun _ => rfl, ⟨fun _ => rfl, ⟨fun _ => rfl, ⟨fun _ => rfl, ⟨fun _ => rfl, trivial⟩⟩⟩⟩⟩⟩⟩) (by decide) rfl ?_
                        refine x_iload (i := 7) hC dL_isAhead_255 6 rfl ?_
                        refine x_if_le (t := 347) hC dL_isAhead_257 (by decide) (fun c87 => ?_) (fun c87 => ?_)
                        · replace h := it_t c87 h
                          refine x_iload_n (i := 3) hC dL_isAhead_347 rfl 4 rfl ?_
                          refine x_if_lt (t := 365) hC dL_isAhead_348 (by decide) (fun c88 => ?_) (fun c88 => ?_)
                          · replace h := it_t c88 h
                            refine x_iconst (v := (0 : Int32)) hC dL_isAhead_365 (by decide) ?_
                            refine x_istore (i := 4) (l' := [(4, .int (0 : Int32)), (9, .int v85), (0, va_rf r0), (1, .int i1), (2, .int v80), (3, .int v81), (6, .int v82), (7, .int v83), (8, .int v84)]) hC dL_isAhead_366 (⟨fun _ => rfl, ⟨fun _ => c_rf r0, ⟨fun _ => rfl, ⟨fun _ => rfl, ⟨fun _ => rfl, ⟨fun _ => rfl, ⟨fun _ => rfl, ⟨fun _ => rfl, trivial⟩⟩⟩⟩⟩⟩⟩⟩) (by decide) rfl ?_
                            refine x_iinc (i := 6) (v := (v82 + (1 : Int32))) (l' := [(6, .int (v82 + (1 : Int32))), (4, .int (0 : Int32)), (9, .int v85), (0, va_rf r0), (1, .int i1), (2, .int v80), (3, .int v81), (7, .int v83), (8, .int v84)]) hC dL_isAhead_368 6 rfl rfl (⟨fun _ => rfl, ⟨fun _ => rfl, ⟨fun _ => c_rf r0, ⟨fun _ => rfl, ⟨fun _ => rfl, ⟨fun _ => rfl, ⟨fun _ => rfl, ⟨fun _ => rfl, ⟨fun _ => rfl, trivial⟩⟩⟩⟩⟩⟩⟩⟩⟩) (by decide) rfl ?_
                            refine x_goto (t := 130) hC dL_isAhead_371 (by decide) ?_
                            refine x_sub (l' := [(0, va_rf r0), (1, .int i1), (2, .int v80), (3, .int v81), (4, .int (0 : Int32)), (6, .int (v82 + (1 : Int32)))]) [3, 4, 5, 6, 1, 0] rfl ?_
                            have hb := bk_x h hg_130
                            exact hb
                          · replace h := it_f c88 h
                            refine x_iload (i := 8) hC dL_isAhead_351 7 rfl ?_
                            refine x_if_ne (t := 365) hC dL_isAhead_353 (by decide) (fun c89 => ?_) (fun c89 => ?_)
                            · replace h := it_f c89 h
                              refine x_iconst (v := (0 : Int32)) hC dL_isAhead_365 (by decide) ?_
                              refine x_istore (i := 4) (l' := [(4, .int (0 : Int32)), (9, .int v85), (0, va_rf r0), (1, .int i1), (2, .int v80), (3, .int v81), (6, .int v82), (7, .int v83), (8, .int v84)]) hC dL_isAhead_366 (⟨fun _ => rfl, ⟨fun _ => c_rf r0, ⟨fun _ => rfl, ⟨fun _ => rfl, ⟨fun _ => rfl, ⟨fun _ => rfl, ⟨fun _ => rfl, ⟨fun _ => rfl, trivial⟩⟩⟩⟩⟩⟩⟩⟩) (by decide) rfl ?_
                              refine x_iinc (i := 6) (v := (v82 + (1 : Int32))) (l' := [(6, .int (v82 + (1 : Int32))), (4, .int (0 : Int32)), (9, .int v85), (0, va_rf r0), (1, .int i1), (2, .int v80), (3, .int v81), (7, .int v83), (8, .int v84)]) hC dL_isAhead_368 6 rfl rfl (⟨fun _ => rfl, ⟨fun _ => rfl, ⟨fun _ => c_rf r0, ⟨fun _ => rfl, ⟨fun _ => rfl, ⟨fun _ => rfl, ⟨fun _ => rfl, ⟨fun _ => rfl, ⟨fun _ => rfl, trivial⟩⟩⟩⟩⟩⟩⟩⟩⟩) (by decide) rfl ?_
                              refine x_goto (t := 130) hC dL_isAhead_371 (by decide) ?_
                              refine x_sub (l' := [(0, va_rf r0), (1, .int i1), (2, .int v80), (3, .int v81), (4, .int (0 : Int32)), (6, .int (v82 + (1 : Int32)))]) [3, 4, 5, 6, 1, 0] rfl ?_
                              have hb := bk_x h hg_130
                              exact hb
                            · replace h := it_t c89 h
                              refine x_iload (i := 9) hC dL_isAhead_356 0 rfl ?_
                              refine x_if_ne (t := 365) hC dL_isAhead_358 (by decide) (fun c90 => ?_) (fun c90 => ?_)
                              · replace h := it_f c90 h
                                refine x_iconst (v := (0 : Int32)) hC dL_isAhead_365 (by decide) ?_
                                refine x_istore (i := 4) (l' := [(4, .int (0 : Int32)), (9, .int v85), (0, va_rf r0), (1, .int i1), (2, .int v80), (3, .int v81), (6, .int v82), (7, .int v83), (8, .int v84)]) hC dL_isAhead_366 (⟨fun _ => rfl, ⟨fun _ => c_rf r0, ⟨fun _ => rfl, ⟨fun _ => rfl, ⟨fun _ => rfl, ⟨fun _ => rfl, ⟨fun _ => rfl, ⟨fun _ => rfl, trivial⟩⟩⟩⟩⟩⟩⟩⟩) (by decide) rfl ?_
                                refine x_iinc (i := 6) (v := (v82 + (1 : Int32))) (l' := [(6, .int (v82 + (1 : Int32))), (4, .int (0 : Int32)), (9, .int v85), (0, va_rf r0), (1, .int i1), (2, .int v80), (3, .int v81), (7, .int v83), (8, .int v84)]) hC dL_isAhead_368 6 rfl rfl (⟨fun _ => rfl, ⟨fun _ => rfl, ⟨fun _ => c_rf r0, ⟨fun _ => rfl, ⟨fun _ => rfl, ⟨fun _ => rfl, ⟨fun _ => rfl, ⟨fun _ => rfl, ⟨fun _ => rfl, trivial⟩⟩⟩⟩⟩⟩⟩⟩⟩) (by decide) rfl ?_
                                refine x_goto (t := 130) hC dL_isAhead_371 (by decide) ?_
                                refine x_sub (l' := [(0, va_rf r0), (1, .int i1), (2, .int v80), (3, .int v81), (4, .int (0 : Int32)), (6, .int (v82 + (1 : Int32)))]) [3, 4, 5, 6, 1, 0] rfl ?_
                                have hb := bk_x h hg_130
                                exact hb
                              · replace h := it_t c90 h
                                refine x_iconst (v := (1 : Int32)) hC dL_isAhead_361 (by decide) ?_
                                refine x_goto (t := 366) hC dL_isAhead_362 (by decide) ?_
                                refine x_istore (i := 4) (l' := [(4, .int (1 : Int32)), (9, .int v85), (0, va_rf r0), (1, .int i1), (2, .int v80), (3, .int v81), (6, .int v82), (7, .int v83), (8, .int v84)]) hC dL_isAhead_366 (⟨fun _ => rfl, ⟨fun _ => c_rf r0, ⟨fun _ => rfl, ⟨fun _ => rfl, ⟨fun _ => rfl, ⟨fun _ => rfl, ⟨fun _ => rfl, ⟨fun _ => rfl, trivial⟩⟩⟩⟩⟩⟩⟩⟩) (by decide) rfl ?_
                                refine x_iinc (i := 6) (v := (v82 + (1 : Int32))) (l' := [(6, .int (v82 + (1 : Int32))), (4, .int (1 : Int32)), (9, .int v85), (0, va_rf r0), (1, .int i1), (2, .int v80), (3, .int v81), (7, .int v83), (8, .int v84)]) hC dL_isAhead_368 6 rfl rfl (⟨fun _ => rfl, ⟨fun _ => rfl, ⟨fun _ => c_rf r0, ⟨fun _ => rfl, ⟨fun _ => rfl, ⟨fun _ => rfl, ⟨fun _ => rfl, ⟨fun _ => rfl, ⟨fun _ => rfl, trivial⟩⟩⟩⟩⟩⟩⟩⟩⟩) (by decide) rfl ?_
                                refine x_goto (t := 130) hC dL_isAhead_371 (by decide) ?_
                                refine x_sub (l' := [(0, va_rf r0), (1, .int i1), (2, .int v80), (3, .int v81), (4, .int (1 : Int32)), (6, .int (v82 + (1 : Int32)))]) [3, 4, 5, 6, 1, 0] rfl ?_
                                have hb := bk_x h hg_130
                                exact hb
                        · replace h := it_f c87 h
                          refine x_iload (i := 7) hC dL_isAhead_260 6 rfl ?_
                          refine x_iconst (v := (4 : Int32)) hC dL_isAhead_262 (by decide) ?_
                          refine x_icmp_lt (t := 270) hC dL_isAhead_263 (by decide) (fun c91 => ?_) (fun c91 => ?_)
                          · replace h := it_t c91 h
                            refine x_iconst (v := (0 : Int32)) hC dL_isAhead_270 (by decide) ?_
                            refine x_sub (l' := [(0, va_rf r0), (1, .int i1), (2, .int v80), (3, .int v81), (6, .int v82), (7, .int v83), (9, .int v85)]) [1, 2, 3, 4, 5, 6, 0] rfl ?_
                            exact J_271 _ _ _ _ _ _ _ h
                          · replace h := it_f c91 h
                            refine x_iconst (v := (1 : Int32)) hC dL_isAhead_266 (by decide) ?_
                            refine x_goto (t := 271) hC dL_isAhead_267 (by decide) ?_
                            refine x_sub (l' := [(0, va_rf r0), (1, .int i1), (2, .int v80), (3, .int v81), (6, .int v82), (7, .int v83), (9, .int v85)]) [1, 2, 3, 4, 5, 6, 0] rfl ?_
                            exact J_271 _ _ _ _ _ _ _ h
                      have J_230 : ∀ (v66 : Int32) (v67 : Int32) (v68 : Int32) (v69 : Int32) (v70 : Int32) (S71 : PH), j_L_isAhead_230 r0 i1 v66 v67 v68 v69 v70 S71 = some x_130 → PX Z 10 S71 0 0 230 [(0, va_rf r0), (1, .int i1), (2, .int v66), (3, .int v67), (6, .int v68), (7, .int v69)] [.int v70] := by
                        intro v66 v67 v68 v69 v70 S71 h
                        unfold j_L_isAhead_230 at h
                        refine x_istore (i := 8) (l' := [(8, .int v70), (0, va_rf r0), (1, .int i1), (2, .int v66), (3, .int v67), (6, .int v68), (7, .int v69)]) hC dL_isAhead_230 (⟨fun _ => c_rf r0, ⟨fun _ => rfl, ⟨fun _ => rfl, ⟨fun _ => rfl, ⟨fun _ => rfl, ⟨fun _ => rfl, trivial⟩⟩⟩⟩⟩⟩) (by decide) rfl ?_
                        refine x_aload_n (i := 0) hC dL_isAhead_232 rfl 1 rfl ?_
                        refine x_iload (i := 6) hC dL_isAhead_233 5 rfl ?_
                        refine x_bipush (v := (8 : Int32)) hC dL_isAhead_235 (by decide) ?_
                        replace h := dr_el h
                        obtain ⟨a72, ea73, ha74, h⟩ := h
                        replace h := bt_el h
                        obtain ⟨v75, S76, hb156, h⟩ | ⟨j77, S78, hb156, h⟩ := h
                        · refine x_callV hC (st := []) (mtr_X4_personOf _ _ _ _ (v75, S76) hb156) ea73 ha74 kf_4 q_506 q_507 q_508 q_1 q_509 ⟨rfl, hy_X4_personOf⟩ ⟨Nat.le_of_ble_eq_true rfl, Nat.le_of_ble_eq_true rfl⟩ ⟨Nat.le_of_ble_eq_true rfl, Nat.le_of_ble_eq_true rfl⟩ rfl (Nat.le_of_ble_eq_true rfl) dL_isAhead_237 (r_N ?_) r_NX
                          show PX Z 10 S76 0 0 240 [(8, .int v70), (0, va_rf r0), (1, .int i1), (2, .int v66), (3, .int v67), (6, .int v68), (7, .int v69)] [.int v75]
                          refine x_iload_n (i := 1) hC dL_isAhead_240 rfl 2 rfl ?_
                          refine x_ishr hC dL_isAhead_241 ?_
                          refine x_iconst (v := (1 : Int32)) hC dL_isAhead_242 (by decide) ?_
                          refine x_iand hC dL_isAhead_243 ?_
                          refine x_iconst (v := (1 : Int32)) hC dL_isAhead_244 (by decide) ?_
                          refine x_icmp_ne (t := 252) hC dL_isAhead_245 (by decide) (fun c79 => ?_) (fun c79 => ?_)
                          · replace h := it_f c79 h
                            refine x_iconst (v := (0 : Int32)) hC dL_isAhead_252 (by decide) ?_
                            refine x_sub (l' := [(0, va_rf r0), (1, .int i1), (2, .int v66), (3, .int v67), (6, .int v68), (7, .int v69), (8, .int v70)]) [1, 2, 3, 4, 5, 6, 0] rfl ?_
                            exact J_253 _ _ _ _ _ _ _ h
                          · replace h := it_t c79 h
                            refine x_iconst (v := (1 : Int32)) hC dL_isAhead_248 (by decide) ?_
                            refine x_goto (t := 253) hC dL_isAhead_249 (by decide) ?_
                            refine x_sub (l' := [(0, va_rf r0), (1, .int i1), (2, .int v66), (3, .int v67), (6, .int v68), (7, .int v69), (8, .int v70)]) [1, 2, 3, 4, 5, 6, 0] rfl ?_
                            exact J_253 _ _ _ _ _ _ _ h
                        · refine x_callV hC (st := []) (mt_X4_personOf _ _ _ _ _ hb156) ea73 ha74 kf_4 q_506 q_507 q_508 q_1 q_509 ⟨rfl, hy_X4_personOf⟩ ⟨Nat.le_of_ble_eq_true rfl, Nat.le_of_ble_eq_true rfl⟩ ⟨Nat.le_of_ble_eq_true rfl, Nat.le_of_ble_eq_true rfl⟩ rfl (Nat.le_of_ble_eq_true rfl) dL_isAhead_237 r_X (r_XX ?_)
                          replace h := ir_x h hg_130
                          exact x_out hC hQ hE (z_X (Option.some.inj h)) (Nat.le_of_ble_eq_true rfl) (Nat.le_of_ble_eq_true rfl)
                      unfold st_L_isAhead_130 at h
                      refine x_iload (i := 6) hC dL_isAhead_130 5 rfl ?_
                      refine x_bipush (v := (8 : Int32)) hC dL_isAhead_132 (by decide) ?_
                      refine x_icmp_ge (t := 374) hC dL_isAhead_134 (by decide) (fun c556 => ?_) (fun c556 => ?_)
                      · replace h := it_t c556 h
                        replace h := ir_x h hg_130
                        refine x_sub (l' := [(0, va_rf r0), (1, .int i1), (2, .int v551), (4, .int v553)]) [0, 1, 2, 4] rfl ?_
                        exact J_374 _ _ _ h
                      · replace h := it_f c556 h
                        refine x_iload (i := 4) hC dL_isAhead_137 4 rfl ?_
                        refine x_if_eq (t := 374) hC dL_isAhead_139 (by decide) (fun c557 => ?_) (fun c557 => ?_)
                        · replace h := it_t c557 h
                          replace h := ir_x h hg_130
                          refine x_sub (l' := [(0, va_rf r0), (1, .int i1), (2, .int v551), (4, .int v553)]) [0, 1, 2, 4] rfl ?_
                          exact J_374 _ _ _ h
                        · replace h := it_f c557 h
                          refine x_aload_n (i := 0) hC dL_isAhead_142 rfl 0 rfl ?_
                          refine x_iload (i := 6) hC dL_isAhead_143 5 rfl ?_
                          refine x_iload_n (i := 1) hC dL_isAhead_145 rfl 1 rfl ?_
                          replace h := dr_el h
                          obtain ⟨a558, ea559, ha560, h⟩ := h
                          replace h := bt_el h
                          obtain ⟨v561, S562, hb635, h⟩ | ⟨j563, S564, hb635, h⟩ := h
                          · refine x_callV hC (st := []) (mtr_X4_whyNot _ _ _ _ (v561, S562) hb635) ea559 ha560 kf_4 q_445 q_446 q_447 q_1 q_448 ⟨rfl, hy_X4_whyNot⟩ ⟨Nat.le_of_ble_eq_true rfl, Nat.le_of_ble_eq_true rfl⟩ ⟨Nat.le_of_ble_eq_true rfl, Nat.le_of_ble_eq_true rfl⟩ rfl (Nat.le_of_ble_eq_true rfl) dL_isAhead_146 (r_N ?_) r_NX
                            show PX Z 10 S562 0 0 149 [(0, va_rf r0), (1, .int i1), (2, .int v551), (3, .int v552), (4, .int v553), (6, .int v554)] [.int v561]
                            refine x_istore (i := 7) (l' := [(7, .int v561), (0, va_rf r0), (1, .int i1), (2, .int v551), (3, .int v552), (4, .int v553), (6, .int v554)]) hC dL_isAhead_149 (⟨fun _ => c_rf r0, ⟨fun _ => rfl, ⟨fun _ => rfl, ⟨fun _ => rfl, ⟨fun _ => rfl, ⟨fun _ => rfl, trivial⟩⟩⟩⟩⟩⟩) (by decide) rfl ?_
                            refine x_iload_n (i := 3) hC dL_isAhead_151 rfl 4 rfl ?_
                            refine x_if_lt (t := 229) hC dL_isAhead_152 (by decide) (fun c565 => ?_) (fun c565 => ?_)
                            · replace h := it_t c565 h
                              refine x_iconst (v := (0 : Int32)) hC dL_isAhead_229 (by decide) ?_
                              refine x_sub (l' := [(0, va_rf r0), (1, .int i1), (2, .int v551), (3, .int v552), (6, .int v554), (7, .int v561)]) [1, 2, 3, 4, 6, 0] rfl ?_
                              exact J_230 _ _ _ _ _ _ h
                            · replace h := it_f c565 h
                              refine x_aload_n (i := 0) hC dL_isAhead_155 rfl 1 rfl ?_
                              refine x_iload (i := 6) hC dL_isAhead_156 6 rfl ?_
                              refine x_iconst (v := (3 : Int32)) hC dL_isAhead_158 (by decide) ?_
                              replace h := dr_el h
                              obtain ⟨a566, ea567, ha568, h⟩ := h
                              replace h := bt_el h
                              obtain ⟨v569, S570, hb634, h⟩ | ⟨j571, S572, hb634, h⟩ := h
                              · refine x_callV hC (st := []) (mtr_X4_personOf _ _ _ _ (v569, S570) hb634) ea567 ha568 kf_4 q_506 q_507 q_508 q_1 q_509 ⟨rfl, hy_X4_personOf⟩ ⟨Nat.le_of_ble_eq_true rfl, Nat.le_of_ble_eq_true rfl⟩ ⟨Nat.le_of_ble_eq_true rfl, Nat.le_of_ble_eq_true rfl⟩ rfl (Nat.le_of_ble_eq_true rfl) dL_isAhead_159 (r_N ?_) r_NX
                                show PX Z 10 S570 0 0 162 [(7, .int v561), (0, va_rf r0), (1, .int i1), (2, .int v551), (3, .int v552), (4, .int v553), (6, .int v554)] [.int v569]
                                refine x_aload_n (i := 0) hC dL_isAhead_162 rfl 1 rfl ?_
                                refine x_iload_n (i := 3) hC dL_isAhead_163 rfl 4 rfl ?_
                                refine x_iconst (v := (3 : Int32)) hC dL_isAhead_164 (by decide) ?_
                                replace h := dr_el h
                                obtain ⟨a573, ea574, ha575, h⟩ := h
                                replace h := bt_el h
                                obtain ⟨v576, S577, hb633, h⟩ | ⟨j578, S579, hb633, h⟩ := h
                                · refine x_callV hC (st := [.int v569]) (mtr_X4_personOf _ _ _ _ (v576, S577) hb633) ea574 ha575 kf_4 q_506 q_507 q_508 q_1 q_509 ⟨rfl, hy_X4_personOf⟩ ⟨Nat.le_of_ble_eq_true rfl, Nat.le_of_ble_eq_true rfl⟩ ⟨Nat.le_of_ble_eq_true rfl, Nat.le_of_ble_eq_true rfl⟩ rfl (Nat.le_of_ble_eq_true rfl) dL_isAhead_165 (r_N ?_) r_NX
                                  show PX Z 10 S577 0 0 168 [(7, .int v561), (0, va_rf r0), (1, .int i1), (2, .int v551), (3, .int v552), (4, .int v553), (6, .int v554)] [.int v576, .int v569]
                                  refine x_icmp_lt (t := 225) hC dL_isAhead_168 (by decide) (fun c580 => ?_) (fun c580 => ?_)
                                  · replace h := it_t c580 h
                                    refine x_iconst (v := (1 : Int32)) hC dL_isAhead_225 (by decide) ?_
                                    refine x_goto (t := 230) hC dL_isAhead_226 (by decide) ?_
                                    refine x_sub (l' := [(0, va_rf r0), (1, .int i1), (2, .int v551), (3, .int v552), (6, .int v554), (7, .int v561)]) [1, 2, 3, 4, 6, 0] rfl ?_
                                    exact J_230 _ _ _ _ _ _ h
                                  · replace h := it_f c580 h
                                    refine x_aload_n (i := 0) hC dL_isAhead_171 rfl 1 rfl ?_
                                    refine x_iload (i := 6) hC dL_isAhead_172 6 rfl ?_
                                    refine x_iconst (v := (3 : Int32)) hC dL_isAhead_174 (by decide) ?_
                                    replace h := dr_el h
                                    obtain ⟨a581, ea582, ha583, h⟩ := h
                                    replace h := bt_el h
                                    obtain ⟨v584, S585, hb632, h⟩ | ⟨j586, S587, hb632, h⟩ := h
                                    · refine x_callV hC (st := []) (mtr_X4_personOf _ _ _ _ (v584, S585) hb632) ea582 ha583 kf_4 q_506 q_507 q_508 q_1 q_509 ⟨rfl, hy_X4_personOf⟩ ⟨Nat.le_of_ble_eq_true rfl, Nat.le_of_ble_eq_true rfl⟩ ⟨Nat.le_of_ble_eq_true rfl, Nat.le_of_ble_eq_true rfl⟩ rfl (Nat.le_of_ble_eq_true rfl) dL_isAhead_175 (r_N ?_) r_NX
                                      show PX Z 10 S585 0 0 178 [(7, .int v561), (0, va_rf r0), (1, .int i1), (2, .int v551), (3, .int v552), (4, .int v553), (6, .int v554)] [.int v584]
                                      refine x_aload_n (i := 0) hC dL_isAhead_178 rfl 1 rfl ?_
                                      refine x_iload_n (i := 3) hC dL_isAhead_179 rfl 4 rfl ?_
                                      refine x_iconst (v := (3 : Int32)) hC dL_isAhead_180 (by decide) ?_
                                      replace h := dr_el h
                                      obtain ⟨a588, ea589, ha590, h⟩ := h
                                      replace h := bt_el h
                                      obtain ⟨v591, S592, hb631, h⟩ | ⟨j593, S594, hb631, h⟩ := h
                                      · refine x_callV hC (st := [.int v584]) (mtr_X4_personOf _ _ _ _ (v591, S592) hb631) ea589 ha590 kf_4 q_506 q_507 q_508 q_1 q_509 ⟨rfl, hy_X4_personOf⟩ ⟨Nat.le_of_ble_eq_true rfl, Nat.le_of_ble_eq_true rfl⟩ ⟨Nat.le_of_ble_eq_true rfl, Nat.le_of_ble_eq_true rfl⟩ rfl (Nat.le_of_ble_eq_true rfl) dL_isAhead_181 (r_N ?_) r_NX
                                        show PX Z 10 S592 0 0 184 [(7, .int v561), (0, va_rf r0), (1, .int i1), (2, .int v551), (3, .int v552), (4, .int v553), (6, .int v554)] [.int v591, .int v584]
                                        refine x_icmp_ne (t := 229) hC dL_isAhead_184 (by decide) (fun c595 => ?_) (fun c595 => ?_)
                                        · replace h := it_f c595 h
                                          refine x_iconst (v := (0 : Int32)) hC dL_isAhead_229 (by decide) ?_
                                          refine x_sub (l' := [(0, va_rf r0), (1, .int i1), (2, .int v551), (3, .int v552), (6, .int v554), (7, .int v561)]) [1, 2, 3, 4, 6, 0] rfl ?_
                                          exact J_230 _ _ _ _ _ _ h
                                        · replace h := it_t c595 h
                                          refine x_aload_n (i := 0) hC dL_isAhead_187 rfl 1 rfl ?_
                                          refine x_iload (i := 6) hC dL_isAhead_188 6 rfl ?_
                                          refine x_iconst (v := (0 : Int32)) hC dL_isAhead_190 (by decide) ?_
                                          replace h := dr_el h
                                          obtain ⟨a596, ea597, ha598, h⟩ := h
                                          replace h := bt_el h
                                          obtain ⟨v599, S600, hb630, h⟩ | ⟨j601, S602, hb630, h⟩ := h
                                          · refine x_callV hC (st := []) (mtr_X4_personOf _ _ _ _ (v599, S600) hb630) ea597 ha598 kf_4 q_506 q_507 q_508 q_1 q_509 ⟨rfl, hy_X4_personOf⟩ ⟨Nat.le_of_ble_eq_true rfl, Nat.le_of_ble_eq_true rfl⟩ ⟨Nat.le_of_ble_eq_true rfl, Nat.le_of_ble_eq_true rfl⟩ rfl (Nat.le_of_ble_eq_true rfl) dL_isAhead_191 (r_N ?_) r_NX
                                            show PX Z 10 S600 0 0 194 [(7, .int v561), (0, va_rf r0), (1, .int i1), (2, .int v551), (3, .int v552), (4, .int v553), (6, .int v554)] [.int v599]
                                            refine x_aload_n (i := 0) hC dL_isAhead_194 rfl 1 rfl ?_
                                            refine x_iload_n (i := 3) hC dL_isAhead_195 rfl 4 rfl ?_
                                            refine x_iconst (v := (0 : Int32)) hC dL_isAhead_196 (by decide) ?_
                                            replace h := dr_el h
                                            obtain ⟨a603, ea604, ha605, h⟩ := h
                                            replace h := bt_el h
                                            obtain ⟨v606, S607, hb629, h⟩ | ⟨j608, S609, hb629, h⟩ := h
                                            · refine x_callV hC (st := [.int v599]) (mtr_X4_personOf _ _ _ _ (v606, S607) hb629) ea604 ha605 kf_4 q_506 q_507 q_508 q_1 q_509 ⟨rfl, hy_X4_personOf⟩ ⟨Nat.le_of_ble_eq_true rfl, Nat.le_of_ble_eq_true rfl⟩ ⟨Nat.le_of_ble_eq_true rfl, Nat.le_of_ble_eq_true rfl⟩ rfl (Nat.le_of_ble_eq_true rfl) dL_isAhead_197 (r_N ?_) r_NX
                                              show PX Z 10 S607 0 0 200 [(7, .int v561), (0, va_rf r0), (1, .int i1), (2, .int v551), (3, .int v552), (4, .int v553), (6, .int v554)] [.int v606, .int v599]
                                              refine x_icmp_gt (t := 225) hC dL_isAhead_200 (by decide) (fun c610 => ?_) (fun c610 => ?_)
                                              · replace h := it_t c610 h
                                                refine x_iconst (v := (1 : Int32)) hC dL_isAhead_225 (by decide) ?_
                                                refine x_goto (t := 230) hC dL_isAhead_226 (by decide) ?_
                                                refine x_sub (l' := [(0, va_rf r0), (1, .int i1), (2, .int v551), (3, .int v552), (6, .int v554), (7, .int v561)]) [1, 2, 3, 4, 6, 0] rfl ?_
                                                exact J_230 _ _ _ _ _ _ h
                                              · replace h := it_f c610 h
                                                refine x_aload_n (i := 0) hC dL_isAhead_203 rfl 1 rfl ?_
                                                refine x_iload (i := 6) hC dL_isAhead_204 6 rfl ?_
                                                refine x_iconst (v := (0 : Int32)) hC dL_isAhead_206 (by decide) ?_
                                                replace h := dr_el h
                                                obtain ⟨a611, ea612, ha613, h⟩ := h
                                                replace h := bt_el h
                                                obtain ⟨v614, S615, hb628, h⟩ | ⟨j616, S617, hb628, h⟩ := h
                                                · refine x_callV hC (st := []) (mtr_X4_personOf _ _ _ _ (v614, S615) hb628) ea612 ha613 kf_4 q_506 q_507 q_508 q_1 q_509 ⟨rfl, hy_X4_personOf⟩ ⟨Nat.le_of_ble_eq_true rfl, Nat.le_of_ble_eq_true rfl⟩ ⟨Nat.le_of_ble_eq_true rfl, Nat.le_of_ble_eq_true rfl⟩ rfl (Nat.le_of_ble_eq_true rfl) dL_isAhead_207 (r_N ?_) r_NX
                                                  show PX Z 10 S615 0 0 210 [(7, .int v561), (0, va_rf r0), (1, .int i1), (2, .int v551), (3, .int v552), (4, .int v553), (6, .int v554)] [.int v614]
                                                  refine x_aload_n (i := 0) hC dL_isAhead_210 rfl 1 rfl ?_
                                                  refine x_iload_n (i := 3) hC dL_isAhead_211 rfl 4 rfl ?_
                                                  refine x_iconst (v := (0 : Int32)) hC dL_isAhead_212 (by decide) ?_
                                                  replace h := dr_el h
                                                  obtain ⟨a618, ea619, ha620, h⟩ := h
                                                  replace h := bt_el h
                                                  obtain ⟨v621, S622, hb627, h⟩ | ⟨j623, S624, hb627, h⟩ := h
                                                  · refine x_callV hC (st := [.int v614]) (mtr_X4_personOf _ _ _ _ (v621, S622) hb627) ea619 ha620 kf_4 q_506 q_507 q_508 q_1 q_509 ⟨rfl, hy_X4_personOf⟩ ⟨Nat.le_of_ble_eq_true rfl, Nat.le_of_ble_eq_true rfl⟩ ⟨Nat.le_of_ble_eq_true rfl, Nat.le_of_ble_eq_true rfl⟩ rfl (Nat.le_of_ble_eq_true rfl) dL_isAhead_213 (r_N ?_) r_NX
                                                    show PX Z 10 S622 0 0 216 [(7, .int v561), (0, va_rf r0), (1, .int i1), (2, .int v551), (3, .int v552), (4, .int v553), (6, .int v554)] [.int v621, .int v614]
                                                    refine x_icmp_ne (t := 229) hC dL_isAhead_216 (by decide) (fun c625 => ?_) (fun c625 => ?_)
                                                    · replace h := it_f c625 h
                                                      refine x_iconst (v := (0 : Int32)) hC dL_isAhead_229 (by decide) ?_
                                                      refine x_sub (l' := [(0, va_rf r0), (1, .int i1), (2, .int v551), (3, .int v552), (6, .int v554), (7, .int v561)]) [1, 2, 3, 4, 6, 0] rfl ?_
                                                      exact J_230 _ _ _ _ _ _ h
                                                    · replace h := it_t c625 h
                                                      refine x_iload (i := 6) hC dL_isAhead_219 6 rfl ?_
                                                      refine x_iload_n (i := 3) hC dL_isAhead_221 rfl 4 rfl ?_
                                                      refine x_icmp_ge (t := 229) hC dL_isAhead_222 (by decide) (fun c626 => ?_) (fun c626 => ?_)
                                                      · replace h := it_t c626 h
                                                        refine x_iconst (v := (0 : Int32)) hC dL_isAhead_229 (by decide) ?_
                                                        refine x_sub (l' := [(0, va_rf r0), (1, .int i1), (2, .int v551), (3, .int v552), (6, .int v554), (7, .int v561)]) [1, 2, 3, 4, 6, 0] rfl ?_
                                                        exact J_230 _ _ _ _ _ _ h
                                                      · replace h := it_f c626 h
                                                        refine x_iconst (v := (1 : Int32)) hC dL_isAhead_225 (by decide) ?_
                                                        refine x_goto (t := 230) hC dL_isAhead_226 (by decide) ?_
                                                        refine x_sub (l' := [(0, va_rf r0), (1, .int i1), (2, .int v551), (3, .int v552), (6, .int v554), (7, .int v561)]) [1, 2, 3, 4, 6, 0] rfl ?_
                                                        exact J_230 _ _ _ _ _ _ h
                                                  · refine x_callV hC (st := [.int v614]) (mt_X4_personOf _ _ _ _ _ hb627) ea619 ha620 kf_4 q_506 q_507 q_508 q_1 q_509 ⟨rfl, hy_X4_personOf⟩ ⟨Nat.le_of_ble_eq_true rfl, Nat.le_of_ble_eq_true rfl⟩ ⟨Nat.le_of_ble_eq_true rfl, Nat.le_of_ble_eq_true rfl⟩ rfl (Nat.le_of_ble_eq_true rfl) dL_isAhead_213 r_X (r_XX ?_)
                                                    replace h := ir_x h hg_130
                                                    exact x_out hC hQ hE (z_X (Option.some.inj h)) (Nat.le_of_ble_eq_true rfl) (Nat.le_of_ble_eq_true rfl)
                                                · refine x_callV hC (st := []) (mt_X4_personOf _ _ _ _ _ hb628) ea612 ha613 kf_4 q_506 q_507 q_508 q_1 q_509 ⟨rfl, hy_X4_personOf⟩ ⟨Nat.le_of_ble_eq_true rfl, Nat.le_of_ble_eq_true rfl⟩ ⟨Nat.le_of_ble_eq_true rfl, Nat.le_of_ble_eq_true rfl⟩ rfl (Nat.le_of_ble_eq_true rfl) dL_isAhead_207 r_X (r_XX ?_)
                                                  replace h := ir_x h hg_130
                                                  exact x_out hC hQ hE (z_X (Option.some.inj h)) (Nat.le_of_ble_eq_true rfl) (Nat.le_of_ble_eq_true rfl)
                                            · refine x_callV hC (st := [.int v599]) (mt_X4_personOf _ _ _ _ _ hb629) ea604 ha605 kf_4 q_506 q_507 q_508 q_1 q_509 ⟨rfl, hy_X4_personOf⟩ ⟨Nat.le_of_ble_eq_true rfl, Nat.le_of_ble_eq_true rfl⟩ ⟨Nat.le_of_ble_eq_true rfl, Nat.le_of_ble_eq_true rfl⟩ rfl (Nat.le_of_ble_eq_true rfl) dL_isAhead_197 r_X (r_XX ?_)
                                              replace h := ir_x h hg_130
                                              exact x_out hC hQ hE (z_X (Option.some.inj h)) (Nat.le_of_ble_eq_true rfl) (Nat.le_of_ble_eq_true rfl)
                                          · refine x_callV hC (st := []) (mt_X4_personOf _ _ _ _ _ hb630) ea597 ha598 kf_4 q_506 q_507 q_508 q_1 q_509 ⟨rfl, hy_X4_personOf⟩ ⟨Nat.le_of_ble_eq_true rfl, Nat.le_of_ble_eq_true rfl⟩ ⟨Nat.le_of_ble_eq_true rfl, Nat.le_of_ble_eq_true rfl⟩ rfl (Nat.le_of_ble_eq_true rfl) dL_isAhead_191 r_X (r_XX ?_)
                                            replace h := ir_x h hg_130
                                            exact x_out hC hQ hE (z_X (Option.some.inj h)) (Nat.le_of_ble_eq_true rfl) (Nat.le_of_ble_eq_true rfl)
                                      · refine x_callV hC (st := [.int v584]) (mt_X4_personOf _ _ _ _ _ hb631) ea589 ha590 kf_4 q_506 q_507 q_508 q_1 q_509 ⟨rfl, hy_X4_personOf⟩ ⟨Nat.le_of_ble_eq_true rfl, Nat.le_of_ble_eq_true rfl⟩ ⟨Nat.le_of_ble_eq_true rfl, Nat.le_of_ble_eq_true rfl⟩ rfl (Nat.le_of_ble_eq_true rfl) dL_isAhead_181 r_X (r_XX ?_)
                                        replace h := ir_x h hg_130
                                        exact x_out hC hQ hE (z_X (Option.some.inj h)) (Nat.le_of_ble_eq_true rfl) (Nat.le_of_ble_eq_true rfl)
                                    · refine x_callV hC (st := []) (mt_X4_personOf _ _ _ _ _ hb632) ea582 ha583 kf_4 q_506 q_507 q_508 q_1 q_509 ⟨rfl, hy_X4_personOf⟩ ⟨Nat.le_of_ble_eq_true rfl, Nat.le_of_ble_eq_true rfl⟩ ⟨Nat.le_of_ble_eq_true rfl, Nat.le_of_ble_eq_true rfl⟩ rfl (Nat.le_of_ble_eq_true rfl) dL_isAhead_175 r_X (r_XX ?_)
                                      replace h := ir_x h hg_130
                                      exact x_out hC hQ hE (z_X (Option.some.inj h)) (Nat.le_of_ble_eq_true rfl) (Nat.le_of_ble_eq_true rfl)
                                · refine x_callV hC (st := [.int v569]) (mt_X4_personOf _ _ _ _ _ hb633) ea574 ha575 kf_4 q_506 q_507 q_508 q_1 q_509 ⟨rfl, hy_X4_personOf⟩ ⟨Nat.le_of_ble_eq_true rfl, Nat.le_of_ble_eq_true rfl⟩ ⟨Nat.le_of_ble_eq_true rfl, Nat.le_of_ble_eq_true rfl⟩ rfl (Nat.le_of_ble_eq_true rfl) dL_isAhead_165 r_X (r_XX ?_)
                                  replace h := ir_x h hg_130
                                  exact x_out hC hQ hE (z_X (Option.some.inj h)) (Nat.le_of_ble_eq_true rfl) (Nat.le_of_ble_eq_true rfl)
                              · refine x_callV hC (st := []) (mt_X4_personOf _ _ _ _ _ hb634) ea567 ha568 kf_4 q_506 q_507 q_508 q_1 q_509 ⟨rfl, hy_X4_personOf⟩ ⟨Nat.le_of_ble_eq_true rfl, Nat.le_of_ble_eq_true rfl⟩ ⟨Nat.le_of_ble_eq_true rfl, Nat.le_of_ble_eq_true rfl⟩ rfl (Nat.le_of_ble_eq_true rfl) dL_isAhead_159 r_X (r_XX ?_)
                                replace h := ir_x h hg_130
                                exact x_out hC hQ hE (z_X (Option.some.inj h)) (Nat.le_of_ble_eq_true rfl) (Nat.le_of_ble_eq_true rfl)
                          · refine x_callV hC (st := []) (mt_X4_whyNot _ _ _ _ _ hb635) ea559 ha560 kf_4 q_445 q_446 q_447 q_1 q_448 ⟨rfl, hy_X4_whyNot⟩ ⟨Nat.le_of_ble_eq_true rfl, Nat.le_of_ble_eq_true rfl⟩ ⟨Nat.le_of_ble_eq_true rfl, Nat.le_of_ble_eq_true rfl⟩ rfl (Nat.le_of_ble_eq_true rfl) dL_isAhead_146 r_X (r_XX ?_)
                            replace h := ir_x h hg_130
                            exact x_out hC hQ hE (z_X (Option.some.inj h)) (Nat.le_of_ble_eq_true rfl) (Nat.le_of_ble_eq_true rfl)
                    · replace h := it_f c550 h
                      refine x_iload (i := 5) hC dL_isAhead_106 5 rfl ?_
                      refine x_iload_n (i := 2) hC dL_isAhead_108 rfl 2 rfl ?_
                      refine x_if_le (t := 116) hC dL_isAhead_109 (by decide) (fun c636 => ?_) (fun c636 => ?_)
                      · replace h := it_t c636 h
                        refine x_iconst (v := (0 : Int32)) hC dL_isAhead_116 (by decide) ?_
                        refine x_sub (l' := [(0, va_rf r0), (1, .int i1), (2, .int v536), (3, .int v537)]) [0, 1, 2, 3] rfl ?_
                        exact J_117 _ _ _ _ _ h
                      · replace h := it_f c636 h
                        refine x_iconst (v := (1 : Int32)) hC dL_isAhead_112 (by decide) ?_
                        refine x_goto (t := 117) hC dL_isAhead_113 (by decide) ?_
                        refine x_sub (l' := [(0, va_rf r0), (1, .int i1), (2, .int v536), (3, .int v537)]) [0, 1, 2, 3] rfl ?_
                        exact J_117 _ _ _ _ _ h
                  · replace h := it_f c549 h
                    refine x_iload (i := 5) hC dL_isAhead_73 5 rfl ?_
                    refine x_if_ne (t := 88) hC dL_isAhead_75 (by decide) (fun c637 => ?_) (fun c637 => ?_)
                    · replace h := it_f c637 h
                      refine x_iconst (v := (1 : Int32)) hC dL_isAhead_88 (by decide) ?_
                      refine x_goto (t := 93) hC dL_isAhead_89 (by decide) ?_
                      refine x_istore (i := 5) (l' := [(5, .int (1 : Int32)), (0, va_rf r0), (1, .int i1), (2, .int v536), (3, .int v537), (4, .int v538), (6, .int v540)]) hC dL_isAhead_93 (⟨fun _ => c_rf r0, ⟨fun _ => rfl, ⟨fun _ => rfl, ⟨fun _ => rfl, ⟨fun _ => rfl, ⟨fun _ => rfl, ⟨fun _ => rfl, trivial⟩⟩⟩⟩⟩⟩⟩) (by decide) rfl ?_
                      refine x_iinc (i := 6) (v := (v540 + (1 : Int32))) (l' := [(6, .int (v540 + (1 : Int32))), (5, .int (1 : Int32)), (0, va_rf r0), (1, .int i1), (2, .int v536), (3, .int v537), (4, .int v538)]) hC dL_isAhead_95 6 rfl rfl (⟨fun _ => rfl, ⟨fun _ => c_rf r0, ⟨fun _ => rfl, ⟨fun _ => rfl, ⟨fun _ => rfl, ⟨fun _ => rfl, ⟨fun _ => rfl, trivial⟩⟩⟩⟩⟩⟩⟩) (by decide) rfl ?_
                      refine x_goto (t := 63) hC dL_isAhead_98 (by decide) ?_
                      refine x_sub (l' := [(0, va_rf r0), (1, .int i1), (2, .int v536), (3, .int v537), (4, .int v538), (5, .int (1 : Int32)), (6, .int (v540 + (1 : Int32)))]) [2, 3, 4, 5, 6, 1, 0] rfl ?_
                      have hb := bk_x h hg_63
                      exact hb
                    · replace h := it_t c637 h
                      refine x_aload_n (i := 0) hC dL_isAhead_78 rfl 0 rfl ?_
                      refine x_iload (i := 6) hC dL_isAhead_79 6 rfl ?_
                      replace h := dr_el h
                      obtain ⟨a638, ea639, ha640, h⟩ := h
                      replace h := bt_el h
                      obtain ⟨v641, S642, hb646, h⟩ | ⟨j643, S644, hb646, h⟩ := h
                      · refine x_callV hC (st := []) (mtr_X4_bestReviewer _ _ _ (v641, S642) hb646) ea639 ha640 kf_4 q_688 q_689 q_690 q_1 q_691 ⟨rfl, hy_X4_bestReviewer⟩ ⟨Nat.le_of_ble_eq_true rfl, Nat.le_of_ble_eq_true rfl⟩ ⟨Nat.le_of_ble_eq_true rfl, Nat.le_of_ble_eq_true rfl⟩ rfl (Nat.le_of_ble_eq_true rfl) dL_isAhead_81 (r_N ?_) r_NX
                        show PX Z 10 S642 0 0 84 [(0, va_rf r0), (1, .int i1), (2, .int v536), (3, .int v537), (4, .int v538), (5, .int v539), (6, .int v540)] [.int v641]
                        refine x_iconst (v := (-1 : Int32)) hC dL_isAhead_84 (by decide) ?_
                        refine x_icmp_eq (t := 92) hC dL_isAhead_85 (by decide) (fun c645 => ?_) (fun c645 => ?_)
                        · replace h := it_t c645 h
                          refine x_iconst (v := (0 : Int32)) hC dL_isAhead_92 (by decide) ?_
                          refine x_istore (i := 5) (l' := [(5, .int (0 : Int32)), (0, va_rf r0), (1, .int i1), (2, .int v536), (3, .int v537), (4, .int v538), (6, .int v540)]) hC dL_isAhead_93 (⟨fun _ => c_rf r0, ⟨fun _ => rfl, ⟨fun _ => rfl, ⟨fun _ => rfl, ⟨fun _ => rfl, ⟨fun _ => rfl, ⟨fun _ => rfl, trivial⟩⟩⟩⟩⟩⟩⟩) (by decide) rfl ?_
                          refine x_iinc (i := 6) (v := (v540 + (1 : Int32))) (l' := [(6, .int (v540 + (1 : Int32))), (5, .int (0 : Int32)), (0, va_rf r0), (1, .int i1), (2, .int v536), (3, .int v537), (4, .int v538)]) hC dL_isAhead_95 6 rfl rfl (⟨fun _ => rfl, ⟨fun _ => c_rf r0, ⟨fun _ => rfl, ⟨fun _ => rfl, ⟨fun _ => rfl, ⟨fun _ => rfl, ⟨fun _ => rfl, trivial⟩⟩⟩⟩⟩⟩⟩) (by decide) rfl ?_
                          refine x_goto (t := 63) hC dL_isAhead_98 (by decide) ?_
                          refine x_sub (l' := [(0, va_rf r0), (1, .int i1), (2, .int v536), (3, .int v537), (4, .int v538), (5, .int (0 : Int32)), (6, .int (v540 + (1 : Int32)))]) [2, 3, 4, 5, 6, 1, 0] rfl ?_
                          have hb := bk_x h hg_63
                          exact hb
                        · replace h := it_f c645 h
                          refine x_iconst (v := (1 : Int32)) hC dL_isAhead_88 (by decide) ?_
                          refine x_goto (t := 93) hC dL_isAhead_89 (by decide) ?_
                          refine x_istore (i := 5) (l' := [(5, .int (1 : Int32)), (0, va_rf r0), (1, .int i1), (2, .int v536), (3, .int v537), (4, .int v538), (6, .int v540)]) hC dL_isAhead_93 (⟨fun _ => c_rf r0, ⟨fun _ => rfl, ⟨fun _ => rfl, ⟨fun _ => rfl, ⟨fun _ => rfl, ⟨fun _ => rfl, ⟨fun _ => rfl, trivial⟩⟩⟩⟩⟩⟩⟩) (by decide) rfl ?_
                          refine x_iinc (i := 6) (v := (v540 + (1 : Int32))) (l' := [(6, .int (v540 + (1 : Int32))), (5, .int (1 : Int32)), (0, va_rf r0), (1, .int i1), (2, .int v536), (3, .int v537), (4, .int v538)]) hC dL_isAhead_95 6 rfl rfl (⟨fun _ => rfl, ⟨fun _ => c_rf r0, ⟨fun _ => rfl, ⟨fun _ => rfl, ⟨fun _ => rfl, ⟨fun _ => rfl, ⟨fun _ => rfl, trivial⟩⟩⟩⟩⟩⟩⟩) (by decide) rfl ?_
                          refine x_goto (t := 63) hC dL_isAhead_98 (by decide) ?_
                          refine x_sub (l' := [(0, va_rf r0), (1, .int i1), (2, .int v536), (3, .int v537), (4, .int v538), (5, .int (1 : Int32)), (6, .int (v540 + (1 : Int32)))]) [2, 3, 4, 5, 6, 1, 0] rfl ?_
                          have hb := bk_x h hg_63
                          exact hb
                      · refine x_callV hC (st := []) (mt_X4_bestReviewer _ _ _ _ hb646) ea639 ha640 kf_4 q_688 q_689 q_690 q_1 q_691 ⟨rfl, hy_X4_bestReviewer⟩ ⟨Nat.le_of_ble_eq_true rfl, Nat.le_of_ble_eq_true rfl⟩ ⟨Nat.le_of_ble_eq_true rfl, Nat.le_of_ble_eq_true rfl⟩ rfl (Nat.le_of_ble_eq_true rfl) dL_isAhead_81 r_X (r_XX ?_)
                        replace h := ir_x h hg_63
                        exact x_out hC hQ hE (z_X (Option.some.inj h)) (Nat.le_of_ble_eq_true rfl) (Nat.le_of_ble_eq_true rfl)
                · refine x_callV hC (st := [.int v540]) (mt_X4_count _ _ _ _ hb647) ea543 ha544 kf_4 q_406 q_407 q_408 q_1 q_409 ⟨rfl, hy_X4_count⟩ ⟨Nat.le_of_ble_eq_true rfl, Nat.le_of_ble_eq_true rfl⟩ ⟨Nat.le_of_ble_eq_true rfl, Nat.le_of_ble_eq_true rfl⟩ rfl (Nat.le_of_ble_eq_true rfl) dL_isAhead_67 r_X (r_XX ?_)
                  replace h := ir_x h hg_63
                  exact x_out hC hQ hE (z_X (Option.some.inj h)) (Nat.le_of_ble_eq_true rfl) (Nat.le_of_ble_eq_true rfl)
              · replace h := it_f c535 h
                refine x_iload_n (i := 3) hC dL_isAhead_36 rfl 0 rfl ?_
                refine x_iconst (v := (-1 : Int32)) hC dL_isAhead_37 (by decide) ?_
                refine x_icmp_eq (t := 50) hC dL_isAhead_38 (by decide) (fun c648 => ?_) (fun c648 => ?_)
                · replace h := it_t c648 h
                  refine x_iconst (v := (1 : Int32)) hC dL_isAhead_50 (by decide) ?_
                  refine x_goto (t := 55) hC dL_isAhead_51 (by decide) ?_
                  refine x_istore (i := 4) (l' := [(4, .int (1 : Int32)), (3, .int v11), (2, .int v4), (0, va_rf r0), (1, .int i1)]) hC dL_isAhead_55 (⟨fun _ => rfl, ⟨fun _ => rfl, ⟨fun _ => c_rf r0, ⟨fun _ => rfl, trivial⟩⟩⟩⟩) (by decide) rfl ?_
                  refine x_iconst (v := (0 : Int32)) hC dL_isAhead_57 (by decide) ?_
                  refine x_istore (i := 5) (l' := [(5, .int (0 : Int32)), (4, .int (1 : Int32)), (3, .int v11), (2, .int v4), (0, va_rf r0), (1, .int i1)]) hC dL_isAhead_58 (⟨fun _ => rfl, ⟨fun _ => rfl, ⟨fun _ => rfl, ⟨fun _ => c_rf r0, ⟨fun _ => rfl, trivial⟩⟩⟩⟩⟩) (by decide) rfl ?_
                  refine x_iconst (v := (0 : Int32)) hC dL_isAhead_60 (by decide) ?_
                  refine x_istore (i := 6) (l' := [(6, .int (0 : Int32)), (5, .int (0 : Int32)), (4, .int (1 : Int32)), (3, .int v11), (2, .int v4), (0, va_rf r0), (1, .int i1)]) hC dL_isAhead_61 (⟨fun _ => rfl, ⟨fun _ => rfl, ⟨fun _ => rfl, ⟨fun _ => rfl, ⟨fun _ => c_rf r0, ⟨fun _ => rfl, trivial⟩⟩⟩⟩⟩⟩) (by decide) rfl ?_
                  refine x_sub (l' := [(0, va_rf r0), (1, .int i1), (2, .int v4), (3, .int v11), (4, .int (1 : Int32)), (5, .int (0 : Int32)), (6, .int (0 : Int32))]) [5, 6, 4, 3, 2, 1, 0] rfl ?_
                  refine lp_sim (P := fun (t : (Int32 × Int32 × Int32 × Int32 × Int32 × PH)) => PX Z 10 t.2.2.2.2.2 0 0 63 [(0, va_rf r0), (1, .int i1), (2, .int t.1), (3, .int t.2.1), (4, .int t.2.2.1), (5, .int t.2.2.2.1), (6, .int t.2.2.2.2.1)] []) (G := fun r => r = y) ?_ h rfl
                  clear h
                  intro t x_63 h hg_63
                  obtain ⟨v649, v650, v651, v652, v653, S654⟩ := t
                  show PX Z 10 S654 0 0 63 [(0, va_rf r0), (1, .int i1), (2, .int v649), (3, .int v650), (4, .int v651), (5, .int v652), (6, .int v653)] []
                  unfold st_L_isAhead_63 at h
                  refine x_iload (i := 6) hC dL_isAhead_63 6 rfl ?_
                  refine x_aload_n (i := 0) hC dL_isAhead_65 rfl 0 rfl ?_
                  refine x_iconst (v := (0 : Int32)) hC dL_isAhead_66 (by decide) ?_
                  replace h := dr_el h
                  obtain ⟨a655, ea656, ha657, h⟩ := h
                  replace h := bt_el h
                  obtain ⟨v658, S659, hb760, h⟩ | ⟨j660, S661, hb760, h⟩ := h
                  · refine x_callV hC (st := [.int v653]) (mtr_X4_count _ _ _ (v658, S659) hb760) ea656 ha657 kf_4 q_406 q_407 q_408 q_1 q_409 ⟨rfl, hy_X4_count⟩ ⟨Nat.le_of_ble_eq_true rfl, Nat.le_of_ble_eq_true rfl⟩ ⟨Nat.le_of_ble_eq_true rfl, Nat.le_of_ble_eq_true rfl⟩ rfl (Nat.le_of_ble_eq_true rfl) dL_isAhead_67 (r_N ?_) r_NX
                    show PX Z 10 S659 0 0 70 [(0, va_rf r0), (1, .int i1), (2, .int v649), (3, .int v650), (4, .int v651), (5, .int v652), (6, .int v653)] [.int v658, .int v653]
                    refine x_icmp_ge (t := 101) hC dL_isAhead_70 (by decide) (fun c662 => ?_) (fun c662 => ?_)
                    · replace h := it_t c662 h
                      replace h := ir_x h hg_63
                      refine x_iload (i := 4) hC dL_isAhead_101 4 rfl ?_
                      refine x_if_eq (t := 124) hC dL_isAhead_103 (by decide) (fun c663 => ?_) (fun c663 => ?_)
                      · replace h := it_t c663 h
                        refine x_iconst (v := (0 : Int32)) hC dL_isAhead_124 (by decide) ?_
                        refine x_istore (i := 4) (l' := [(4, .int (0 : Int32)), (0, va_rf r0), (1, .int i1), (2, .int v649), (3, .int v650), (5, .int v652), (6, .int v653)]) hC dL_isAhead_125 (⟨fun _ => c_rf r0, ⟨fun _ => rfl, ⟨fun _ => rfl, ⟨fun _ => rfl, ⟨fun _ => rfl, ⟨fun _ => rfl, ⟨fun _ => rfl, trivial⟩⟩⟩⟩⟩⟩⟩) (by decide) rfl ?_
                        refine x_iconst (v := (0 : Int32)) hC dL_isAhead_127 (by decide) ?_
                        refine x_istore (i := 6) (l' := [(6, .int (0 : Int32)), (4, .int (0 : Int32)), (0, va_rf r0), (1, .int i1), (2, .int v649), (3, .int v650), (5, .int v652)]) hC dL_isAhead_128 (⟨fun _ => rfl, ⟨fun _ => c_rf r0, ⟨fun _ => rfl, ⟨fun _ => rfl, ⟨fun _ => rfl, ⟨fun _ => rfl, ⟨fun _ => rfl, trivial⟩⟩⟩⟩⟩⟩⟩) (by decide) rfl ?_
                        refine x_sub (l' := [(0, va_rf r0), (1, .int i1), (2, .int v649), (3, .int v650), (4, .int (0 : Int32)), (6, .int (0 : Int32))]) [2, 3, 4, 5, 1, 0] rfl ?_
                        refine lp_sim (P := fun (t : (Int32 × Int32 × Int32 × Int32 × PH)) => PX Z 10 t.2.2.2.2 0 0 130 [(0, va_rf r0), (1, .int i1), (2, .int t.1), (3, .int t.2.1), (4, .int t.2.2.1), (6, .int t.2.2.2.1)] []) (G := fun r => r = y) ?_ h rfl
                        clear h
                        intro t x_130 h hg_130
                        obtain ⟨v664, v665, v666, v667, S668⟩ := t
                        show PX Z 10 S668 0 0 130 [(0, va_rf r0), (1, .int i1), (2, .int v664), (3, .int v665), (4, .int v666), (6, .int v667)] []
                        have J_328 : ∀ (v117 : Int32) (v118 : Int32) (v119 : Int32) (v120 : Int32) (v121 : Int32) (S122 : PH), j_L_isAhead_328 r0 i1 v117 v118 v119 v120 v121 S122 = some x_130 → PX Z 10 S122 0 0 328 [(0, va_rf r0), (1, .int i1), (2, .int v117), (3, .int v118), (6, .int v119), (7, .int v120), (9, .int v121)] [] := by
                          intro v117 v118 v119 v120 v121 S122 h
                          unfold j_L_isAhead_328 at h
                          refine x_iload (i := 7) hC dL_isAhead_328 5 rfl ?_
                          refine x_iconst (v := (5 : Int32)) hC dL_isAhead_330 (by decide) ?_
                          refine x_icmp_lt (t := 339) hC dL_isAhead_331 (by decide) (fun c123 => ?_) (fun c123 => ?_)
                          · replace h := it_t c123 h
                            refine x_iconst (v := (1 : Int32)) hC dL_isAhead_339 (by decide) ?_
                            refine x_goto (t := 366) hC dL_isAhead_340 (by decide) ?_
                            refine x_istore (i := 4) (l' := [(4, .int (1 : Int32)), (0, va_rf r0), (1, .int i1), (2, .int v117), (3, .int v118), (6, .int v119), (7, .int v120), (9, .int v121)]) hC dL_isAhead_366 (⟨fun _ => c_rf r0, ⟨fun _ => rfl, ⟨fun _ => rfl, ⟨fun _ => rfl, ⟨fun _ => rfl, ⟨fun _ => rfl, ⟨fun _ => rfl, trivial⟩⟩⟩⟩⟩⟩⟩) (by decide) rfl ?_
                            refine x_iinc (i := 6) (v := (v119 + (1 : Int32))) (l' := [(6, .int (v119 + (1 : Int32))), (4, .int (1 : Int32)), (0, va_rf r0), (1, .int i1), (2, .int v117), (3, .int v118), (7, .int v120), (9, .int v121)]) hC dL_isAhead_368 5 rfl rfl (⟨fun _ => rfl, ⟨fun _ => c_rf r0, ⟨fun _ => rfl, ⟨fun _ => rfl, ⟨fun _ => rfl, ⟨fun _ => rfl, ⟨fun _ => rfl, ⟨fun _ => rfl, trivial⟩⟩⟩⟩⟩⟩⟩⟩) (by decide) rfl ?_
                            refine x_goto (t := 130) hC dL_isAhead_371 (by decide) ?_
                            refine x_sub (l' := [(0, va_rf r0), (1, .int i1), (2, .int v117), (3, .int v118), (4, .int (1 : Int32)), (6, .int (v119 + (1 : Int32)))]) [2, 3, 4, 5, 1, 0] rfl ?_
                            have hb := bk_x h hg_130
                            exact hb
                          · replace h := it_f c123 h
                            refine x_iload (i := 9) hC dL_isAhead_334 6 rfl ?_
                            refine x_if_ne (t := 343) hC dL_isAhead_336 (by decide) (fun c124 => ?_) (fun c124 => ?_)
                            · replace h := it_f c124 h
                              refine x_iconst (v := (0 : Int32)) hC dL_isAhead_343 (by decide) ?_
                              refine x_goto (t := 366) hC dL_isAhead_344 (by decide) ?_
                              refine x_istore (i := 4) (l' := [(4, .int (0 : Int32)), (0, va_rf r0), (1, .int i1), (2, .int v117), (3, .int v118), (6, .int v119), (7, .int v120), (9, .int v121)]) hC dL_isAhead_366 (⟨fun _ => c_rf r0, ⟨fun _ => rfl, ⟨fun _ => rfl, ⟨fun _ => rfl, ⟨fun _ => rfl, ⟨fun _ => rfl, ⟨fun _ => rfl, trivial⟩⟩⟩⟩⟩⟩⟩) (by decide) rfl ?_
                              refine x_iinc (i := 6) (v := (v119 + (1 : Int32))) (l' := [(6, .int (v119 + (1 : Int32))), (4, .int (0 : Int32)), (0, va_rf r0), (1, .int i1), (2, .int v117), (3, .int v118), (7, .int v120), (9, .int v121)]) hC dL_isAhead_368 5 rfl rfl (⟨fun _ => rfl, ⟨fun _ => c_rf r0, ⟨fun _ => rfl, ⟨fun _ => rfl, ⟨fun _ => rfl, ⟨fun _ => rfl, ⟨fun _ => rfl, ⟨fun _ => rfl, trivial⟩⟩⟩⟩⟩⟩⟩⟩) (by decide) rfl ?_
                              refine x_goto (t := 130) hC dL_isAhead_371 (by decide) ?_
                              refine x_sub (l' := [(0, va_rf r0), (1, .int i1), (2, .int v117), (3, .int v118), (4, .int (0 : Int32)), (6, .int (v119 + (1 : Int32)))]) [2, 3, 4, 5, 1, 0] rfl ?_
                              have hb := bk_x h hg_130
                              exact hb
                            · replace h := it_t c124 h
                              refine x_iconst (v := (1 : Int32)) hC dL_isAhead_339 (by decide) ?_
                              refine x_goto (t := 366) hC dL_isAhead_340 (by decide) ?_
                              refine x_istore (i := 4) (l' := [(4, .int (1 : Int32)), (0, va_rf r0), (1, .int i1), (2, .int v117), (3, .int v118), (6, .int v119), (7, .int v120), (9, .int v121)]) hC dL_isAhead_366 (⟨fun _ => c_rf r0, ⟨fun _ => rfl, ⟨fun _ => rfl, ⟨fun _ => rfl, ⟨fun _ => rfl, ⟨fun _ => rfl, ⟨fun _ => rfl, trivial⟩⟩⟩⟩⟩⟩⟩) (by decide) rfl ?_
                              refine x_iinc (i := 6) (v := (v119 + (1 : Int32))) (l' := [(6, .int (v119 + (1 : Int32))), (4, .int (1 : Int32)), (0, va_rf r0), (1, .int i1), (2, .int v117), (3, .int v118), (7, .int v120), (9, .int v121)]) hC dL_isAhead_368 5 rfl rfl (⟨fun _ => rfl, ⟨fun _ => c_rf r0, ⟨fun _ => rfl, ⟨fun _ => rfl, ⟨fun _ => rfl, ⟨fun _ => rfl, ⟨fun _ => rfl, ⟨fun _ => rfl, trivial⟩⟩⟩⟩⟩⟩⟩⟩) (by decide) rfl ?_
                              refine x_goto (t := 130) hC dL_isAhead_371 (by decide) ?_
                              refine x_sub (l' := [(0, va_rf r0), (1, .int i1), (2, .int v117), (3, .int v118), (4, .int (1 : Int32)), (6, .int (v119 + (1 : Int32)))]) [2, 3, 4, 5, 1, 0] rfl ?_
                              have hb := bk_x h hg_130
                              exact hb
                        have J_314 : ∀ (v107 : Int32) (v108 : Int32) (v109 : Int32) (v110 : Int32) (v111 : Int32) (v112 : Int32) (v113 : Int32) (S114 : PH), j_L_isAhead_314 r0 i1 v107 v108 v109 v110 v111 v112 v113 S114 = some x_130 → PX Z 10 S114 0 0 314 [(0, va_rf r0), (1, .int i1), (2, .int v107), (3, .int v108), (6, .int v109), (7, .int v110), (9, .int v111)] [.int v113, .int v112] := by
                          intro v107 v108 v109 v110 v111 v112 v113 S114 h
                          unfold j_L_isAhead_314 at h
                          refine x_icmp_ne (t := 343) hC dL_isAhead_314 (by decide) (fun c115 => ?_) (fun c115 => ?_)
                          · replace h := it_f c115 h
                            refine x_iconst (v := (0 : Int32)) hC dL_isAhead_343 (by decide) ?_
                            refine x_goto (t := 366) hC dL_isAhead_344 (by decide) ?_
                            refine x_istore (i := 4) (l' := [(4, .int (0 : Int32)), (0, va_rf r0), (1, .int i1), (2, .int v107), (3, .int v108), (6, .int v109), (7, .int v110), (9, .int v111)]) hC dL_isAhead_366 (⟨fun _ => c_rf r0, ⟨fun _ => rfl, ⟨fun _ => rfl, ⟨fun _ => rfl, ⟨fun _ => rfl, ⟨fun _ => rfl, ⟨fun _ => rfl, trivial⟩⟩⟩⟩⟩⟩⟩) (by decide) rfl ?_
                            refine x_iinc (i := 6) (v := (v109 + (1 : Int32))) (l' := [(6, .int (v109 + (1 : Int32))), (4, .int (0 : Int32)), (0, va_rf r0), (1, .int i1), (2, .int v107), (3, .int v108), (7, .int v110), (9, .int v111)]) hC dL_isAhead_368 5 rfl rfl (⟨fun _ => rfl, ⟨fun _ => c_rf r0, ⟨fun _ => rfl, ⟨fun _ => rfl, ⟨fun _ => rfl, ⟨fun _ => rfl, ⟨fun _ => rfl, ⟨fun _ => rfl, trivial⟩⟩⟩⟩⟩⟩⟩⟩) (by decide) rfl ?_
                            refine x_goto (t := 130) hC dL_isAhead_371 (by decide) ?_
                            refine x_sub (l' := [(0, va_rf r0), (1, .int i1), (2, .int v107), (3, .int v108), (4, .int (0 : Int32)), (6, .int (v109 + (1 : Int32)))]) [2, 3, 4, 5, 1, 0] rfl ?_
                            have hb := bk_x h hg_130
                            exact hb
                          · replace h := it_t c115 h
                            refine x_iload (i := 7) hC dL_isAhead_317 5 rfl ?_
                            refine x_iconst (v := (4 : Int32)) hC dL_isAhead_319 (by decide) ?_
                            refine x_icmp_ne (t := 328) hC dL_isAhead_320 (by decide) (fun c116 => ?_) (fun c116 => ?_)
                            · replace h := it_f c116 h
                              exact J_328 _ _ _ _ _ _ h
                            · replace h := it_t c116 h
                              refine x_iload (i := 9) hC dL_isAhead_323 6 rfl ?_
                              refine x_if_eq (t := 343) hC dL_isAhead_325 (by decide) (fun c125 => ?_) (fun c125 => ?_)
                              · replace h := it_t c125 h
                                refine x_iconst (v := (0 : Int32)) hC dL_isAhead_343 (by decide) ?_
                                refine x_goto (t := 366) hC dL_isAhead_344 (by decide) ?_
                                refine x_istore (i := 4) (l' := [(4, .int (0 : Int32)), (0, va_rf r0), (1, .int i1), (2, .int v107), (3, .int v108), (6, .int v109), (7, .int v110), (9, .int v111)]) hC dL_isAhead_366 (⟨fun _ => c_rf r0, ⟨fun _ => rfl, ⟨fun _ => rfl, ⟨fun _ => rfl, ⟨fun _ => rfl, ⟨fun _ => rfl, ⟨fun _ => rfl, trivial⟩⟩⟩⟩⟩⟩⟩) (by decide) rfl ?_
                                refine x_iinc (i := 6) (v := (v109 + (1 : Int32))) (l' := [(6, .int (v109 + (1 : Int32))), (4, .int (0 : Int32)), (0, va_rf r0), (1, .int i1), (2, .int v107), (3, .int v108), (7, .int v110), (9, .int v111)]) hC dL_isAhead_368 5 rfl rfl (⟨fun _ => rfl, ⟨fun _ => c_rf r0, ⟨fun _ => rfl, ⟨fun _ => rfl, ⟨fun _ => rfl, ⟨fun _ => rfl, ⟨fun _ => rfl, ⟨fun _ => rfl, trivial⟩⟩⟩⟩⟩⟩⟩⟩) (by decide) rfl ?_
                                refine x_goto (t := 130) hC dL_isAhead_371 (by decide) ?_
                                refine x_sub (l' := [(0, va_rf r0), (1, .int i1), (2, .int v107), (3, .int v108), (4, .int (0 : Int32)), (6, .int (v109 + (1 : Int32)))]) [2, 3, 4, 5, 1, 0] rfl ?_
                                have hb := bk_x h hg_130
                                exact hb
                              · replace h := it_f c125 h
                                exact J_328 _ _ _ _ _ _ h
                        have J_271 : ∀ (v92 : Int32) (v93 : Int32) (v94 : Int32) (v95 : Int32) (v96 : Int32) (v97 : Int32) (S98 : PH), j_L_isAhead_271 r0 i1 v92 v93 v94 v95 v96 v97 S98 = some x_130 → PX Z 10 S98 0 0 271 [(0, va_rf r0), (1, .int i1), (2, .int v92), (3, .int v93), (6, .int v94), (7, .int v95), (9, .int v96)] [.int v97] := by
                          intro v92 v93 v94 v95 v96 v97 S98 h
                          unfold j_L_isAhead_271 at h
                          refine x_aload_n (i := 0) hC dL_isAhead_271 rfl 0 rfl ?_
                          refine x_iload_n (i := 1) hC dL_isAhead_272 rfl 1 rfl ?_
                          refine x_bipush (v := (8 : Int32)) hC dL_isAhead_273 (by decide) ?_
                          replace h := dr_el h
                          obtain ⟨a99, ea100, ha101, h⟩ := h
                          replace h := bt_el h
                          obtain ⟨v102, S103, hb155, h⟩ | ⟨j104, S105, hb155, h⟩ := h
                          · refine x_callV hC (st := [.int v97]) (mtr_X4_paperOf _ _ _ _ (v102, S103) hb155) ea100 ha101 kf_4 q_527 q_528 q_529 q_1 q_530 ⟨rfl, hy_X4_paperOf⟩ ⟨Nat.le_of_ble_eq_true rfl, Nat.le_of_ble_eq_true rfl⟩ ⟨Nat.le_of_ble_eq_true rfl, Nat.le_of_ble_eq_true rfl⟩ rfl (Nat.le_of_ble_eq_true rfl) dL_isAhead_275 (r_N ?_) r_NX
                            show PX Z 10 S103 0 0 278 [(0, va_rf r0), (1, .int i1), (2, .int v92), (3, .int v93), (6, .int v94), (7, .int v95), (9, .int v96)] [.int v102, .int v97]
                            refine x_if_ne (t := 313) hC dL_isAhead_278 (by decide) (fun c106 => ?_) (fun c106 => ?_)
                            · replace h := it_f c106 h
                              refine x_iconst (v := (0 : Int32)) hC dL_isAhead_313 (by decide) ?_
                              exact J_314 _ _ _ _ _ _ _ _ h
                            · replace h := it_t c106 h
                              refine x_aload_n (i := 0) hC dL_isAhead_281 rfl 0 rfl ?_
                              refine x_iload (i := 6) hC dL_isAhead_282 4 rfl ?_
                              refine x_iload_n (i := 1) hC dL_isAhead_284 rfl 1 rfl ?_
                              replace h := dr_el h
                              obtain ⟨a126, ea127, ha128, h⟩ := h
                              replace h := bt_el h
                              obtain ⟨v129, S130, hb154, h⟩ | ⟨j131, S132, hb154, h⟩ := h
                              · refine x_callV hC (st := [.int v97]) (mtr_X4_score _ _ _ _ (v129, S130) hb154) ea127 ha128 kf_4 q_548 q_549 q_550 q_1 q_551 ⟨rfl, hy_X4_score⟩ ⟨Nat.le_of_ble_eq_true rfl, Nat.le_of_ble_eq_true rfl⟩ ⟨Nat.le_of_ble_eq_true rfl, Nat.le_of_ble_eq_true rfl⟩ rfl (Nat.le_of_ble_eq_true rfl) dL_isAhead_285 (r_N ?_) r_NX
                                show PX Z 10 S130 0 0 288 [(0, va_rf r0), (1, .int i1), (2, .int v92), (3, .int v93), (6, .int v94), (7, .int v95), (9, .int v96)] [.int v129, .int v97]
                                refine x_iconst (v := (-1 : Int32)) hC dL_isAhead_288 (by decide) ?_
                                refine x_icmp_ne (t := 313) hC dL_isAhead_289 (by decide) (fun c133 => ?_) (fun c133 => ?_)
                                · replace h := it_f c133 h
                                  refine x_iconst (v := (0 : Int32)) hC dL_isAhead_313 (by decide) ?_
                                  exact J_314 _ _ _ _ _ _ _ _ h
                                · replace h := it_t c133 h
                                  refine x_aload_n (i := 0) hC dL_isAhead_292 rfl 0 rfl ?_
                                  refine x_iload_n (i := 1) hC dL_isAhead_293 rfl 1 rfl ?_
                                  refine x_iconst (v := (2 : Int32)) hC dL_isAhead_294 (by decide) ?_
                                  replace h := dr_el h
                                  obtain ⟨a134, ea135, ha136, h⟩ := h
                                  replace h := bt_el h
                                  obtain ⟨v137, S138, hb153, h⟩ | ⟨j139, S140, hb153, h⟩ := h
                                  · refine x_callV hC (st := [.int v97]) (mtr_X4_paperOf _ _ _ _ (v137, S138) hb153) ea135 ha136 kf_4 q_527 q_528 q_529 q_1 q_530 ⟨rfl, hy_X4_paperOf⟩ ⟨Nat.le_of_ble_eq_true rfl, Nat.le_of_ble_eq_true rfl⟩ ⟨Nat.le_of_ble_eq_true rfl, Nat.le_of_ble_eq_true rfl⟩ rfl (Nat.le_of_ble_eq_true rfl) dL_isAhead_295 (r_N ?_) r_NX
                                    show PX Z 10 S138 0 0 298 [(0, va_rf r0), (1, .int i1), (2, .int v92), (3, .int v93), (6, .int v94), (7, .int v95), (9, .int v96)] [.int v137, .int v97]
                                    replace h := bd_el h
                                    obtain ⟨v141, S142, hb143, h⟩ := h
                                    refine x_callS hC (st := [.int v97]) (mt_L_bits _ _ _ hb143) q_656 q_657 q_0 q_658 hy_L_bits ⟨Nat.le_of_ble_eq_true rfl, Nat.le_of_ble_eq_true rfl⟩ ⟨Nat.le_of_ble_eq_true rfl, Nat.le_of_ble_eq_true rfl⟩ rfl (Nat.le_of_ble_eq_true rfl) dL_isAhead_298 (r_N ?_) r_NX
                                    show PX Z 10 S142 0 0 301 [(0, va_rf r0), (1, .int i1), (2, .int v92), (3, .int v93), (6, .int v94), (7, .int v95), (9, .int v96)] [.int v141, .int v97]
                                    refine x_aload_n (i := 0) hC dL_isAhead_301 rfl 0 rfl ?_
                                    refine x_iconst (v := (0 : Int32)) hC dL_isAhead_302 (by decide) ?_
                                    replace h := dr_el h
                                    obtain ⟨a144, ea145, ha146, h⟩ := h
                                    replace h := bt_el h
                                    obtain ⟨v147, S148, hb152, h⟩ | ⟨j149, S150, hb152, h⟩ := h
                                    · refine x_callV hC (st := [.int v141, .int v97]) (mtr_X4_setting _ _ _ (v147, S148) hb152) ea145 ha146 kf_4 q_552 q_553 q_554 q_1 q_555 ⟨rfl, hy_X4_setting⟩ ⟨Nat.le_of_ble_eq_true rfl, Nat.le_of_ble_eq_true rfl⟩ ⟨Nat.le_of_ble_eq_true rfl, Nat.le_of_ble_eq_true rfl⟩ rfl (Nat.le_of_ble_eq_true rfl) dL_isAhead_303 (r_N ?_) r_NX
                                      show PX Z 10 S148 0 0 306 [(0, va_rf r0), (1, .int i1), (2, .int v92), (3, .int v93), (6, .int v94), (7, .int v95), (9, .int v96)] [.int v147, .int v141, .int v97]
                                      refine x_icmp_ge (t := 313) hC dL_isAhead_306 (by decide) (fun c151 => ?_) (fun c151 => ?_)
                                      · replace h := it_t c151 h
                                        refine x_iconst (v := (0 : Int32)) hC dL_isAhead_313 (by decide) ?_
                                        exact J_314 _ _ _ _ _ _ _ _ h
                                      · replace h := it_f c151 h
                                        refine x_iconst (v := (1 : Int32)) hC dL_isAhead_309 (by decide) ?_
                                        refine x_goto (t := 314) hC dL_isAhead_310 (by decide) ?_
                                        exact J_314 _ _ _ _ _ _ _ _ h
                                    · refine x_callV hC (st := [.int v141, .int v97]) (mt_X4_setting _ _ _ _ hb152) ea145 ha146 kf_4 q_552 q_553 q_554 q_1 q_555 ⟨rfl, hy_X4_setting⟩ ⟨Nat.le_of_ble_eq_true rfl, Nat.le_of_ble_eq_true rfl⟩ ⟨Nat.le_of_ble_eq_true rfl, Nat.le_of_ble_eq_true rfl⟩ rfl (Nat.le_of_ble_eq_true rfl) dL_isAhead_303 r_X (r_XX ?_)
                                      replace h := ir_x h hg_130
                                      exact x_out hC hQ hE (z_X (Option.some.inj h)) (Nat.le_of_ble_eq_true rfl) (Nat.le_of_ble_eq_true rfl)
                                  · refine x_callV hC (st := [.int v97]) (mt_X4_paperOf _ _ _ _ _ hb153) ea135 ha136 kf_4 q_527 q_528 q_529 q_1 q_530 ⟨rfl, hy_X4_paperOf⟩ ⟨Nat.le_of_ble_eq_true rfl, Nat.le_of_ble_eq_true rfl⟩ ⟨Nat.le_of_ble_eq_true rfl, Nat.le_of_ble_eq_true rfl⟩ rfl (Nat.le_of_ble_eq_true rfl) dL_isAhead_295 r_X (r_XX ?_)
                                    replace h := ir_x h hg_130
                                    exact x_out hC hQ hE (z_X (Option.some.inj h)) (Nat.le_of_ble_eq_true rfl) (Nat.le_of_ble_eq_true rfl)
                              · refine x_callV hC (st := [.int v97]) (mt_X4_score _ _ _ _ _ hb154) ea127 ha128 kf_4 q_548 q_549 q_550 q_1 q_551 ⟨rfl, hy_X4_score⟩ ⟨Nat.le_of_ble_eq_true rfl, Nat.le_of_ble_eq_true rfl⟩ ⟨Nat.le_of_ble_eq_true rfl, Nat.le_of_ble_eq_true rfl⟩ rfl (Nat.le_of_ble_eq_true rfl) dL_isAhead_285 r_X (r_XX ?_)
                                replace h := ir_x h hg_130
                                exact x_out hC hQ hE (z_X (Option.some.inj h)) (Nat.le_of_ble_eq_true rfl) (Nat.le_of_ble_eq_true rfl)
                          · refine x_callV hC (st := [.int v97]) (mt_X4_paperOf _ _ _ _ _ hb155) ea100 ha101 kf_4 q_527 q_528 q_529 q_1 q_530 ⟨rfl, hy_X4_paperOf⟩ ⟨Nat.le_of_ble_eq_true rfl, Nat.le_of_ble_eq_true rfl⟩ ⟨Nat.le_of_ble_eq_true rfl, Nat.le_of_ble_eq_true rfl⟩ rfl (Nat.le_of_ble_eq_true rfl) dL_isAhead_275 r_X (r_XX ?_)
                            replace h := ir_x h hg_130
                            exact x_out hC hQ hE (z_X (Option.some.inj h)) (Nat.le_of_ble_eq_true rfl) (Nat.le_of_ble_eq_true rfl)
                        have J_253 : ∀ (v80 : Int32) (v81 : Int32) (v82 : Int32) (v83 : Int32) (v84 : Int32) (v85 : Int32) (S86 : PH), j_L_isAhead_253 r0 i1 v80 v81 v82 v83 v84 v85 S86 = some x_130 → PX Z 10 S86 0 0 253 [(0, va_rf r0), (1, .int i1), (2, .int v80), (3, .int v81), (6, .int v82), (7, .int v83), (8, .int v84)] [.int v85] := by
                          intro v80 v81 v82 v83 v84 v85 S86 h
                          unfold j_L_isAhead_253 at h
                          refine x_istore (i := 9) (l' := [(9, .int v85), (0, va_rf r0), (1, .int i1), (2, .int v80), (3, .int v81), (6, .int v82), (7, .int v83), (8, .int v84)]) hC dL_isAhead_253 (⟨fun _ => c_rf r0, ⟨fun _ => rfl, ⟨fun _ => rfl, ⟨fun _ => rfl, ⟨fun _ => rfl, ⟨fun _ => rfl, ⟨fun _ => rfl, trivial⟩⟩⟩⟩⟩⟩⟩) (by decide) rfl ?_
                          refine x_iload (i := 7) hC dL_isAhead_255 6 rfl ?_
                          refine x_if_le (t := 347) hC dL_isAhead_257 (by decide) (fun c87 => ?_) (fun c87 => ?_)
                          · replace h := it_t c87 h
                            refine x_iload_n (i := 3) hC dL_isAhead_347 rfl 4 rfl ?_
                            refine x_if_lt (t := 365) hC dL_isAhead_348 (by decide) (fun c88 => ?_) (fun c88 => ?_)
                            · replace h := it_t c88 h
                              refine x_iconst (v := (0 : Int32)) hC dL_isAhead_365 (by decide) ?_
                              refine x_istore (i := 4) (l' := [(4, .int (0 : Int32)), (9, .int v85), (0, va_rf r0), (1, .int i1), (2, .int v80), (3, .int v81), (6, .int v82), (7, .int v83), (8, .int v84)]) hC dL_isAhead_366 (⟨fun _ => rfl, ⟨fun _ => c_rf r0, ⟨fun _ => rfl, ⟨fun _ => rfl, ⟨fun _ => rfl, ⟨fun _ => rfl, ⟨fun _ => rfl, ⟨fun _ => rfl, trivial⟩⟩⟩⟩⟩⟩⟩⟩) (by decide) rfl ?_
                              refine x_iinc (i := 6) (v := (v82 + (1 : Int32))) (l' := [(6, .int (v82 + (1 : Int32))), (4, .int (0 : Int32)), (9, .int v85), (0, va_rf r0), (1, .int i1), (2, .int v80), (3, .int v81), (7, .int v83), (8, .int v84)]) hC dL_isAhead_368 6 rfl rfl (⟨fun _ => rfl, ⟨fun _ => rfl, ⟨fun _ => c_rf r0, ⟨fun _ => rfl, ⟨fun _ => rfl, ⟨fun _ => rfl, ⟨fun _ => rfl, ⟨fun _ => rfl, ⟨fun _ => rfl, trivial⟩⟩⟩⟩⟩⟩⟩⟩⟩) (by decide) rfl ?_
                              refine x_goto (t := 130) hC dL_isAhead_371 (by decide) ?_
                              refine x_sub (l' := [(0, va_rf r0), (1, .int i1), (2, .int v80), (3, .int v81), (4, .int (0 : Int32)), (6, .int (v82 + (1 : Int32)))]) [3, 4, 5, 6, 1, 0] rfl ?_
                              have hb := bk_x h hg_130
                              exact hb
                            · replace h := it_f c88 h
                              refine x_iload (i := 8) hC dL_isAhead_351 7 rfl ?_
                              refine x_if_ne (t := 365) hC dL_isAhead_353 (by decide) (fun c89 => ?_) (fun c89 => ?_)
                              · replace h := it_f c89 h
                                refine x_iconst (v := (0 : Int32)) hC dL_isAhead_365 (by decide) ?_
                                refine x_istore (i := 4) (l' := [(4, .int (0 : Int32)), (9, .int v85), (0, va_rf r0), (1, .int i1), (2, .int v80), (3, .int v81), (6, .int v82), (7, .int v83), (8, .int v84)]) hC dL_isAhead_366 (⟨fun _ => rfl, ⟨fun _ => c_rf r0, ⟨fun _ => rfl, ⟨fun _ => rfl, ⟨fun _ => rfl, ⟨fun _ => rfl, ⟨fun _ => rfl, ⟨fun _ => rfl, trivial⟩⟩⟩⟩⟩⟩⟩⟩) (by decide) rfl ?_
                                refine x_iinc (i := 6) (v := (v82 + (1 : Int32))) (l' := [(6, .int (v82 + (1 : Int32))), (4, .int (0 : Int32)), (9, .int v85), (0, va_rf r0), (1, .int i1), (2, .int v80), (3, .int v81), (7, .int v83), (8, .int v84)]) hC dL_isAhead_368 6 rfl rfl (⟨fun _ => rfl, ⟨fun _ => rfl, ⟨fun _ => c_rf r0, ⟨fun _ => rfl, ⟨fun _ => rfl, ⟨fun _ => rfl, ⟨fun _ => rfl, ⟨fun _ => rfl, ⟨fun _ => rfl, trivial⟩⟩⟩⟩⟩⟩⟩⟩⟩) (by decide) rfl ?_
                                refine x_goto (t := 130) hC dL_isAhead_371 (by decide) ?_
                                refine x_sub (l' := [(0, va_rf r0), (1, .int i1), (2, .int v80), (3, .int v81), (4, .int (0 : Int32)), (6, .int (v82 + (1 : Int32)))]) [3, 4, 5, 6, 1, 0] rfl ?_
                                have hb := bk_x h hg_130
                                exact hb
                              · replace h := it_t c89 h
                                refine x_iload (i := 9) hC dL_isAhead_356 0 rfl ?_
                                refine x_if_ne (t := 365) hC dL_isAhead_358 (by decide) (fun c90 => ?_) (fun c90 => ?_)
                                · replace h := it_f c90 h
                                  refine x_iconst (v := (0 : Int32)) hC dL_isAhead_365 (by decide) ?_
                                  refine x_istore (i := 4) (l' := [(4, .int (0 : Int32)), (9, .int v85), (0, va_rf r0), (1, .int i1), (2, .int v80), (3, .int v81), (6, .int v82), (7, .int v83), (8, .int v84)]) hC dL_isAhead_366 (⟨fun _ => rfl, ⟨fun _ => c_rf r0, ⟨fun _ => rfl, ⟨fun _ => rfl, ⟨fun _ => rfl, ⟨fun _ => rfl, ⟨fun _ => rfl, ⟨fun _ => rfl, trivial⟩⟩⟩⟩⟩⟩⟩⟩) (by decide) rfl ?_
                                  refine x_iinc (i := 6) (v := (v82 + (1 : Int32))) (l' := [(6, .int (v82 + (1 : Int32))), (4, .int (0 : Int32)), (9, .int v85), (0, va_rf r0), (1, .int i1), (2, .int v80), (3, .int v81), (7, .int v83), (8, .int v84)]) hC dL_isAhead_368 6 rfl rfl (⟨fun _ => rfl, ⟨fun _ => rfl, ⟨fun _ => c_rf r0, ⟨fun _ => rfl, ⟨fun _ => rfl, ⟨fun _ => rfl, ⟨fun _ => rfl, ⟨fun _ => rfl, ⟨fun _ => rfl, trivial⟩⟩⟩⟩⟩⟩⟩⟩⟩) (by decide) rfl ?_
                                  refine x_goto (t := 130) hC dL_isAhead_371 (by decide) ?_
                                  refine x_sub (l' := [(0, va_rf r0), (1, .int i1), (2, .int v80), (3, .int v81), (4, .int (0 : Int32)), (6, .int (v82 + (1 : Int32)))]) [3, 4, 5, 6, 1, 0] rfl ?_
                                  have hb := bk_x h hg_130
                                  exact hb
                                · replace h := it_t c90 h
                                  refine x_iconst (v := (1 : Int32)) hC dL_isAhead_361 (by decide) ?_
                                  refine x_goto (t := 366) hC dL_isAhead_362 (by decide) ?_
                                  refine x_istore (i := 4) (l' := [(4, .int (1 : Int32)), (9, .int v85), (0, va_rf r0), (1, .int i1), (2, .int v80), (3, .int v81), (6, .int v82), (7, .int v83), (8, .int v84)]) hC dL_isAhead_366 (⟨fun _ => rfl, ⟨fun _ => c_rf r0, ⟨fun _ => rfl, ⟨fun _ => rfl, ⟨fun _ => rfl, ⟨fun _ => rfl, ⟨fun _ => rfl, ⟨fun _ => rfl, trivial⟩⟩⟩⟩⟩⟩⟩⟩) (by decide) rfl ?_
                                  refine x_iinc (i := 6) (v := (v82 + (1 : Int32))) (l' := [(6, .int (v82 + (1 : Int32))), (4, .int (1 : Int32)), (9, .int v85), (0, va_rf r0), (1, .int i1), (2, .int v80), (3, .int v81), (7, .int v83), (8, .int v84)]) hC dL_isAhead_368 6 rfl rfl (⟨fun _ => rfl, ⟨fun _ => rfl, ⟨fun _ => c_rf r0, ⟨fun _ => rfl, ⟨fun _ => rfl, ⟨fun _ => rfl, ⟨fun _ => rfl, ⟨fun _ => rfl, ⟨fun _ => rfl, trivial⟩⟩⟩⟩⟩⟩⟩⟩⟩) (by decide) rfl ?_
                                  refine x_goto (t := 130) hC dL_isAhead_371 (by decide) ?_
                                  refine x_sub (l' := [(0, va_rf r0), (1, .int i1), (2, .int v80), (3, .int v81), (4, .int (1 : Int32)), (6, .int (v82 + (1 : Int32)))]) [3, 4, 5, 6, 1, 0] rfl ?_
                                  have hb := bk_x h hg_130
                                  exact hb
                          · replace h := it_f c87 h
                            refine x_iload (i := 7) hC dL_isAhead_260 6 rfl ?_
                            refine x_iconst (v := (4 : Int32)) hC dL_isAhead_262 (by decide) ?_
                            refine x_icmp_lt (t := 270) hC dL_isAhead_263 (by decide) (fun c91 => ?_) (fun c91 => ?_)
                            · replace h := it_t c91 h
                              refine x_iconst (v := (0 : Int32)) hC dL_isAhead_270 (by decide) ?_
                              refine x_sub (l' := [(0, va_rf r0), (1, .int i1), (2, .int v80), (3, .int v81), (6, .int v82), (7, .int v83), (9, .int v85)]) [1, 2, 3, 4, 5, 6, 0] rfl ?_
                              exact J_271 _ _ _ _ _ _ _ h
                            · replace h := it_f c91 h
                              refine x_iconst (v := (1 : Int32)) hC dL_isAhead_266 (by decide) ?_
                              refine x_goto (t := 271) hC dL_isAhead_267 (by decide) ?_
                              refine x_sub (l' := [(0, va_rf r0), (1, .int i1), (2, .int v80), (3, .int v81), (6, .int v82), (7, .int v83), (9, .int v85)]) [1, 2, 3, 4, 5, 6, 0] rfl ?_
                              exact J_271 _ _ _ _ _ _ _ h
                        have J_230 : ∀ (v66 : Int32) (v67 : Int32) (v68 : Int32) (v69 : Int32) (v70 : Int32) (S71 : PH), j_L_isAhead_230 r0 i1 v66 v67 v68 v69 v70 S71 = some x_130 → PX Z 10 S71 0 0 230 [(0, va_rf r0), (1, .int i1), (2, .int v66), (3, .int v67), (6, .int v68), (7, .int v69)] [.int v70] := by
                          intro v66 v67 v68 v69 v70 S71 h
                          unfold j_L_isAhead_230 at h
                          refine x_istore (i := 8) (l' := [(8, .int v70), (0, va_rf r0), (1, .int i1), (2, .int v66), (3, .int v67), (6, .int v68), (7, .int v69)]) hC dL_isAhead_230 (⟨fun _ => c_rf r0, ⟨fun _ => rfl, ⟨fun _ => rfl, ⟨fun _ => rfl, ⟨fun _ => rfl, ⟨fun _ => rfl, trivial⟩⟩⟩⟩⟩⟩) (by decide) rfl ?_
                          refine x_aload_n (i := 0) hC dL_isAhead_232 rfl 1 rfl ?_
                          refine x_iload (i := 6) hC dL_isAhead_233 5 rfl ?_
                          refine x_bipush (v := (8 : Int32)) hC dL_isAhead_235 (by decide) ?_
                          replace h := dr_el h
                          obtain ⟨a72, ea73, ha74, h⟩ := h
                          replace h := bt_el h
                          obtain ⟨v75, S76, hb156, h⟩ | ⟨j77, S78, hb156, h⟩ := h
                          · refine x_callV hC (st := []) (mtr_X4_personOf _ _ _ _ (v75, S76) hb156) ea73 ha74 kf_4 q_506 q_507 q_508 q_1 q_509 ⟨rfl, hy_X4_personOf⟩ ⟨Nat.le_of_ble_eq_true rfl, Nat.le_of_ble_eq_true rfl⟩ ⟨Nat.le_of_ble_eq_true rfl, Nat.le_of_ble_eq_true rfl⟩ rfl (Nat.le_of_ble_eq_true rfl) dL_isAhead_237 (r_N ?_) r_NX
                            show PX Z 10 S76 0 0 240 [(8, .int v70), (0, va_rf r0), (1, .int i1), (2, .int v66), (3, .int v67), (6, .int v68), (7, .int v69)] [.int v75]
                            refine x_iload_n (i := 1) hC dL_isAhead_240 rfl 2 rfl ?_
                            refine x_ishr hC dL_isAhead_241 ?_
                            refine x_iconst (v := (1 : Int32)) hC dL_isAhead_242 (by decide) ?_
                            refine x_iand hC dL_isAhead_243 ?_
                            refine x_iconst (v := (1 : Int32)) hC dL_isAhead_244 (by decide) ?_
                            refine x_icmp_ne (t := 252) hC dL_isAhead_245 (by decide) (fun c79 => ?_) (fun c79 => ?_)
                            · replace h := it_f c79 h
                              refine x_iconst (v := (0 : Int32)) hC dL_isAhead_252 (by decide) ?_
                              refine x_sub (l' := [(0, va_rf r0), (1, .int i1), (2, .int v66), (3, .int v67), (6, .int v68), (7, .int v69), (8, .int v70)]) [1, 2, 3, 4, 5, 6, 0] rfl ?_
                              exact J_253 _ _ _ _ _ _ _ h
                            · replace h := it_t c79 h
                              refine x_iconst (v := (1 : Int32)) hC dL_isAhead_248 (by decide) ?_
                              refine x_goto (t := 253) hC dL_isAhead_249 (by decide) ?_
                              refine x_sub (l' := [(0, va_rf r0), (1, .int i1), (2, .int v66), (3, .int v67), (6, .int v68), (7, .int v69), (8, .int v70)]) [1, 2, 3, 4, 5, 6, 0] rfl ?_
                              exact J_253 _ _ _ _ _ _ _ h
                          · refine x_callV hC (st := []) (mt_X4_personOf _ _ _ _ _ hb156) ea73 ha74 kf_4 q_506 q_507 q_508 q_1 q_509 ⟨rfl, hy_X4_personOf⟩ ⟨Nat.le_of_ble_eq_true rfl, Nat.le_of_ble_eq_true rfl⟩ ⟨Nat.le_of_ble_eq_true rfl, Nat.le_of_ble_eq_true rfl⟩ rfl (Nat.le_of_ble_eq_true rfl) dL_isAhead_237 r_X (r_XX ?_)
                            replace h := ir_x h hg_130
                            exact x_out hC hQ hE (z_X (Option.some.inj h)) (Nat.le_of_ble_eq_true rfl) (Nat.le_of_ble_eq_true rfl)
                        unfold st_L_isAhead_130 at h
                        refine x_iload (i := 6) hC dL_isAhead_130 5 rfl ?_
                        refine x_bipush (v := (8 : Int32)) hC dL_isAhead_132 (by decide) ?_
                        refine x_icmp_ge (t := 374) hC dL_isAhead_134 (by decide) (fun c669 => ?_) (fun c669 => ?_)
                        · replace h := it_t c669 h
                          replace h := ir_x h hg_130
                          refine x_sub (l' := [(0, va_rf r0), (1, .int i1), (2, .int v664), (4, .int v666)]) [0, 1, 2, 4] rfl ?_
                          exact J_374 _ _ _ h
                        · replace h := it_f c669 h
                          refine x_iload (i := 4) hC dL_isAhead_137 4 rfl ?_
                          refine x_if_eq (t := 374) hC dL_isAhead_139 (by decide) (fun c670 => ?_) (fun c670 => ?_)
                          · replace h := it_t c670 h
                            replace h := ir_x h hg_130
                            refine x_sub (l' := [(0, va_rf r0), (1, .int i1), (2, .int v664), (4, .int v666)]) [0, 1, 2, 4] rfl ?_
                            exact J_374 _ _ _ h
                          · replace h := it_f c670 h
                            refine x_aload_n (i := 0) hC dL_isAhead_142 rfl 0 rfl ?_
                            refine x_iload (i := 6) hC dL_isAhead_143 5 rfl ?_
                            refine x_iload_n (i := 1) hC dL_isAhead_145 rfl 1 rfl ?_
                            replace h := dr_el h
                            obtain ⟨a671, ea672, ha673, h⟩ := h
                            replace h := bt_el h
                            obtain ⟨v674, S675, hb748, h⟩ | ⟨j676, S677, hb748, h⟩ := h
                            · refine x_callV hC (st := []) (mtr_X4_whyNot _ _ _ _ (v674, S675) hb748) ea672 ha673 kf_4 q_445 q_446 q_447 q_1 q_448 ⟨rfl, hy_X4_whyNot⟩ ⟨Nat.le_of_ble_eq_true rfl, Nat.le_of_ble_eq_true rfl⟩ ⟨Nat.le_of_ble_eq_true rfl, Nat.le_of_ble_eq_true rfl⟩ rfl (Nat.le_of_ble_eq_true rfl) dL_isAhead_146 (r_N ?_) r_NX
                              show PX Z 10 S675 0 0 149 [(0, va_rf r0), (1, .int i1), (2, .int v664), (3, .int v665), (4, .int v666), (6, .int v667)] [.int v674]
                              refine x_istore (i := 7) (l' := [(7, .int v674), (0, va_rf r0), (1, .int i1), (2, .int v664), (3, .int v665), (4, .int v666), (6, .int v667)]) hC dL_isAhead_149 (⟨fun _ => c_rf r0, ⟨fun _ => rfl, ⟨fun _ => rfl, ⟨fun _ => rfl, ⟨fun _ => rfl, ⟨fun _ => rfl, trivial⟩⟩⟩⟩⟩⟩) (by decide) rfl ?_
                              refine x_iload_n (i := 3) hC dL_isAhead_151 rfl 4 rfl ?_
                              refine x_if_lt (t := 229) hC dL_isAhead_152 (by decide) (fun c678 => ?_) (fun c678 => ?_)
                              · replace h := it_t c678 h
                                refine x_iconst (v := (0 : Int32)) hC dL_isAhead_229 (by decide) ?_
                                refine x_sub (l' := [(0, va_rf r0), (1, .int i1), (2, .int v664), (3, .int v665), (6, .int v667), (7, .int v674)]) [1, 2, 3, 4, 6, 0] rfl ?_
                                exact J_230 _ _ _ _ _ _ h
                              · replace h := it_f c678 h
                                refine x_aload_n (i := 0) hC dL_isAhead_155 rfl 1 rfl ?_
                                refine x_iload (i := 6) hC dL_isAhead_156 6 rfl ?_
                                refine x_iconst (v := (3 : Int32)) hC dL_isAhead_158 (by decide) ?_
                                replace h := dr_el h
                                obtain ⟨a679, ea680, ha681, h⟩ := h
                                replace h := bt_el h
                                obtain ⟨v682, S683, hb747, h⟩ | ⟨j684, S685, hb747, h⟩ := h
                                · refine x_callV hC (st := []) (mtr_X4_personOf _ _ _ _ (v682, S683) hb747) ea680 ha681 kf_4 q_506 q_507 q_508 q_1 q_509 ⟨rfl, hy_X4_personOf⟩ ⟨Nat.le_of_ble_eq_true rfl, Nat.le_of_ble_eq_true rfl⟩ ⟨Nat.le_of_ble_eq_true rfl, Nat.le_of_ble_eq_true rfl⟩ rfl (Nat.le_of_ble_eq_true rfl) dL_isAhead_159 (r_N ?_) r_NX
                                  show PX Z 10 S683 0 0 162 [(7, .int v674), (0, va_rf r0), (1, .int i1), (2, .int v664), (3, .int v665), (4, .int v666), (6, .int v667)] [.int v682]
                                  refine x_aload_n (i := 0) hC dL_isAhead_162 rfl 1 rfl ?_
                                  refine x_iload_n (i := 3) hC dL_isAhead_163 rfl 4 rfl ?_
                                  refine x_iconst (v := (3 : Int32)) hC dL_isAhead_164 (by decide) ?_
                                  replace h := dr_el h
                                  obtain ⟨a686, ea687, ha688, h⟩ := h
                                  replace h := bt_el h
                                  obtain ⟨v689, S690, hb746, h⟩ | ⟨j691, S692, hb746, h⟩ := h
                                  · refine x_callV hC (st := [.int v682]) (mtr_X4_personOf _ _ _ _ (v689, S690) hb746) ea687 ha688 kf_4 q_506 q_507 q_508 q_1 q_509 ⟨rfl, hy_X4_personOf⟩ ⟨Nat.le_of_ble_eq_true rfl, Nat.le_of_ble_eq_true rfl⟩ ⟨Nat.le_of_ble_eq_true rfl, Nat.le_of_ble_eq_true rfl⟩ rfl (Nat.le_of_ble_eq_true rfl) dL_isAhead_165 (r_N ?_) r_NX
                                    show PX Z 10 S690 0 0 168 [(7, .int v674), (0, va_rf r0), (1, .int i1), (2, .int v664), (3, .int v665), (4, .int v666), (6, .int v667)] [.int v689, .int v682]
                                    refine x_icmp_lt (t := 225) hC dL_isAhead_168 (by decide) (fun c693 => ?_) (fun c693 => ?_)
                                    · replace h := it_t c693 h
                                      refine x_iconst (v := (1 : Int32)) hC dL_isAhead_225 (by decide) ?_
                                      refine x_goto (t := 230) hC dL_isAhead_226 (by decide) ?_
                                      refine x_sub (l' := [(0, va_rf r0), (1, .int i1), (2, .int v664), (3, .int v665), (6, .int v667), (7, .int v674)]) [1, 2, 3, 4, 6, 0] rfl ?_
                                      exact J_230 _ _ _ _ _ _ h
                                    · replace h := it_f c693 h
                                      refine x_aload_n (i := 0) hC dL_isAhead_171 rfl 1 rfl ?_
                                      refine x_iload (i := 6) hC dL_isAhead_172 6 rfl ?_
                                      refine x_iconst (v := (3 : Int32)) hC dL_isAhead_174 (by decide) ?_
                                      replace h := dr_el h
                                      obtain ⟨a694, ea695, ha696, h⟩ := h
                                      replace h := bt_el h
                                      obtain ⟨v697, S698, hb745, h⟩ | ⟨j699, S700, hb745, h⟩ := h
                                      · refine x_callV hC (st := []) (mtr_X4_personOf _ _ _ _ (v697, S698) hb745) ea695 ha696 kf_4 q_506 q_507 q_508 q_1 q_509 ⟨rfl, hy_X4_personOf⟩ ⟨Nat.le_of_ble_eq_true rfl, Nat.le_of_ble_eq_true rfl⟩ ⟨Nat.le_of_ble_eq_true rfl, Nat.le_of_ble_eq_true rfl⟩ rfl (Nat.le_of_ble_eq_true rfl) dL_isAhead_175 (r_N ?_) r_NX
                                        show PX Z 10 S698 0 0 178 [(7, .int v674), (0, va_rf r0), (1, .int i1), (2, .int v664), (3, .int v665), (4, .int v666), (6, .int v667)] [.int v697]
                                        refine x_aload_n (i := 0) hC dL_isAhead_178 rfl 1 rfl ?_
                                        refine x_iload_n (i := 3) hC dL_isAhead_179 rfl 4 rfl ?_
                                        refine x_iconst (v := (3 : Int32)) hC dL_isAhead_180 (by decide) ?_
                                        replace h := dr_el h
                                        obtain ⟨a701, ea702, ha703, h⟩ := h
                                        replace h := bt_el h
                                        obtain ⟨v704, S705, hb744, h⟩ | ⟨j706, S707, hb744, h⟩ := h
                                        · refine x_callV hC (st := [.int v697]) (mtr_X4_personOf _ _ _ _ (v704, S705) hb744) ea702 ha703 kf_4 q_506 q_507 q_508 q_1 q_509 ⟨rfl, hy_X4_personOf⟩ ⟨Nat.le_of_ble_eq_true rfl, Nat.le_of_ble_eq_true rfl⟩ ⟨Nat.le_of_ble_eq_true rfl, Nat.le_of_ble_eq_true rfl⟩ rfl (Nat.le_of_ble_eq_true rfl) dL_isAhead_181 (r_N ?_) r_NX
                                          show PX Z 10 S705 0 0 184 [(7, .int v674), (0, va_rf r0), (1, .int i1), (2, .int v664), (3, .int v665), (4, .int v666), (6, .int v667)] [.int v704, .int v697]
                                          refine x_icmp_ne (t := 229) hC dL_isAhead_184 (by decide) (fun c708 => ?_) (fun c708 => ?_)
                                          · replace h := it_f c708 h
                                            refine x_iconst (v := (0 : Int32)) hC dL_isAhead_229 (by decide) ?_
                                            refine x_sub (l' := [(0, va_rf r0), (1, .int i1), (2, .int v664), (3, .int v665), (6, .int v667), (7, .int v674)]) [1, 2, 3, 4, 6, 0] rfl ?_
                                            exact J_230 _ _ _ _ _ _ h
                                          · replace h := it_t c708 h
                                            refine x_aload_n (i := 0) hC dL_isAhead_187 rfl 1 rfl ?_
                                            refine x_iload (i := 6) hC dL_isAhead_188 6 rfl ?_
                                            refine x_iconst (v := (0 : Int32)) hC dL_isAhead_190 (by decide) ?_
                                            replace h := dr_el h
                                            obtain ⟨a709, ea710, ha711, h⟩ := h
                                            replace h := bt_el h
                                            obtain ⟨v712, S713, hb743, h⟩ | ⟨j714, S715, hb743, h⟩ := h
                                            · refine x_callV hC (st := []) (mtr_X4_personOf _ _ _ _ (v712, S713) hb743) ea710 ha711 kf_4 q_506 q_507 q_508 q_1 q_509 ⟨rfl, hy_X4_personOf⟩ ⟨Nat.le_of_ble_eq_true rfl, Nat.le_of_ble_eq_true rfl⟩ ⟨Nat.le_of_ble_eq_true rfl, Nat.le_of_ble_eq_true rfl⟩ rfl (Nat.le_of_ble_eq_true rfl) dL_isAhead_191 (r_N ?_) r_NX
                                              show PX Z 10 S713 0 0 194 [(7, .int v674), (0, va_rf r0), (1, .int i1), (2, .int v664), (3, .int v665), (4, .int v666), (6, .int v667)] [.int v712]
                                              refine x_aload_n (i := 0) hC dL_isAhead_194 rfl 1 rfl ?_
                                              refine x_iload_n (i := 3) hC dL_isAhead_195 rfl 4 rfl ?_
                                              refine x_iconst (v := (0 : Int32)) hC dL_isAhead_196 (by decide) ?_
                                              replace h := dr_el h
                                              obtain ⟨a716, ea717, ha718, h⟩ := h
                                              replace h := bt_el h
                                              obtain ⟨v719, S720, hb742, h⟩ | ⟨j721, S722, hb742, h⟩ := h
                                              · refine x_callV hC (st := [.int v712]) (mtr_X4_personOf _ _ _ _ (v719, S720) hb742) ea717 ha718 kf_4 q_506 q_507 q_508 q_1 q_509 ⟨rfl, hy_X4_personOf⟩ ⟨Nat.le_of_ble_eq_true rfl, Nat.le_of_ble_eq_true rfl⟩ ⟨Nat.le_of_ble_eq_true rfl, Nat.le_of_ble_eq_true rfl⟩ rfl (Nat.le_of_ble_eq_true rfl) dL_isAhead_197 (r_N ?_) r_NX
                                                show PX Z 10 S720 0 0 200 [(7, .int v674), (0, va_rf r0), (1, .int i1), (2, .int v664), (3, .int v665), (4, .int v666), (6, .int v667)] [.int v719, .int v712]
                                                refine x_icmp_gt (t := 225) hC dL_isAhead_200 (by decide) (fun c723 => ?_) (fun c723 => ?_)
                                                · replace h := it_t c723 h
                                                  refine x_iconst (v := (1 : Int32)) hC dL_isAhead_225 (by decide) ?_
                                                  refine x_goto (t := 230) hC dL_isAhead_226 (by decide) ?_
                                                  refine x_sub (l' := [(0, va_rf r0), (1, .int i1), (2, .int v664), (3, .int v665), (6, .int v667), (7, .int v674)]) [1, 2, 3, 4, 6, 0] rfl ?_
                                                  exact J_230 _ _ _ _ _ _ h
                                                · replace h := it_f c723 h
                                                  refine x_aload_n (i := 0) hC dL_isAhead_203 rfl 1 rfl ?_
                                                  refine x_iload (i := 6) hC dL_isAhead_204 6 rfl ?_
                                                  refine x_iconst (v := (0 : Int32)) hC dL_isAhead_206 (by decide) ?_
                                                  replace h := dr_el h
                                                  obtain ⟨a724, ea725, ha726, h⟩ := h
                                                  replace h := bt_el h
                                                  obtain ⟨v727, S728, hb741, h⟩ | ⟨j729, S730, hb741, h⟩ := h
                                                  · refine x_callV hC (st := []) (mtr_X4_personOf _ _ _ _ (v727, S728) hb741) ea725 ha726 kf_4 q_506 q_507 q_508 q_1 q_509 ⟨rfl, hy_X4_personOf⟩ ⟨Nat.le_of_ble_eq_true rfl, Nat.le_of_ble_eq_true rfl⟩ ⟨Nat.le_of_ble_eq_true rfl, Nat.le_of_ble_eq_true rfl⟩ rfl (Nat.le_of_ble_eq_true rfl) dL_isAhead_207 (r_N ?_) r_NX
                                                    show PX Z 10 S728 0 0 210 [(7, .int v674), (0, va_rf r0), (1, .int i1), (2, .int v664), (3, .int v665), (4, .int v666), (6, .int v667)] [.int v727]
                                                    refine x_aload_n (i := 0) hC dL_isAhead_210 rfl 1 rfl ?_
                                                    refine x_iload_n (i := 3) hC dL_isAhead_211 rfl 4 rfl ?_
                                                    refine x_iconst (v := (0 : Int32)) hC dL_isAhead_212 (by decide) ?_
                                                    replace h := dr_el h
                                                    obtain ⟨a731, ea732, ha733, h⟩ := h
                                                    replace h := bt_el h
                                                    obtain ⟨v734, S735, hb740, h⟩ | ⟨j736, S737, hb740, h⟩ := h
                                                    · refine x_callV hC (st := [.int v727]) (mtr_X4_personOf _ _ _ _ (v734, S735) hb740) ea732 ha733 kf_4 q_506 q_507 q_508 q_1 q_509 ⟨rfl, hy_X4_personOf⟩ ⟨Nat.le_of_ble_eq_true rfl, Nat.le_of_ble_eq_true rfl⟩ ⟨Nat.le_of_ble_eq_true rfl, Nat.le_of_ble_eq_true rfl⟩ rfl (Nat.le_of_ble_eq_true rfl) dL_isAhead_213 (r_N ?_) r_NX
                                                      show PX Z 10 S735 0 0 216 [(7, .int v674), (0, va_rf r0), (1, .int i1), (2, .int v664), (3, .int v665), (4, .int v666), (6, .int v667)] [.int v734, .int v727]
                                                      refine x_icmp_ne (t := 229) hC dL_isAhead_216 (by decide) (fun c738 => ?_) (fun c738 => ?_)
                                                      · replace h := it_f c738 h
                                                        refine x_iconst (v := (0 : Int32)) hC dL_isAhead_229 (by decide) ?_
                                                        refine x_sub (l' := [(0, va_rf r0), (1, .int i1), (2, .int v664), (3, .int v665), (6, .int v667), (7, .int v674)]) [1, 2, 3, 4, 6, 0] rfl ?_
                                                        exact J_230 _ _ _ _ _ _ h
                                                      · replace h := it_t c738 h
                                                        refine x_iload (i := 6) hC dL_isAhead_219 6 rfl ?_
                                                        refine x_iload_n (i := 3) hC dL_isAhead_221 rfl 4 rfl ?_
                                                        refine x_icmp_ge (t := 229) hC dL_isAhead_222 (by decide) (fun c739 => ?_) (fun c739 => ?_)
                                                        · replace h := it_t c739 h
                                                          refine x_iconst (v := (0 : Int32)) hC dL_isAhead_229 (by decide) ?_
                                                          refine x_sub (l' := [(0, va_rf r0), (1, .int i1), (2, .int v664), (3, .int v665), (6, .int v667), (7, .int v674)]) [1, 2, 3, 4, 6, 0] rfl ?_
                                                          exact J_230 _ _ _ _ _ _ h
                                                        · replace h := it_f c739 h
                                                          refine x_iconst (v := (1 : Int32)) hC dL_isAhead_225 (by decide) ?_
                                                          refine x_goto (t := 230) hC dL_isAhead_226 (by decide) ?_
                                                          refine x_sub (l' := [(0, va_rf r0), (1, .int i1), (2, .int v664), (3, .int v665), (6, .int v667), (7, .int v674)]) [1, 2, 3, 4, 6, 0] rfl ?_
                                                          exact J_230 _ _ _ _ _ _ h
                                                    · refine x_callV hC (st := [.int v727]) (mt_X4_personOf _ _ _ _ _ hb740) ea732 ha733 kf_4 q_506 q_507 q_508 q_1 q_509 ⟨rfl, hy_X4_personOf⟩ ⟨Nat.le_of_ble_eq_true rfl, Nat.le_of_ble_eq_true rfl⟩ ⟨Nat.le_of_ble_eq_true rfl, Nat.le_of_ble_eq_true rfl⟩ rfl (Nat.le_of_ble_eq_true rfl) dL_isAhead_213 r_X (r_XX ?_)
                                                      replace h := ir_x h hg_130
                                                      exact x_out hC hQ hE (z_X (Option.some.inj h)) (Nat.le_of_ble_eq_true rfl) (Nat.le_of_ble_eq_true rfl)
                                                  · refine x_callV hC (st := []) (mt_X4_personOf _ _ _ _ _ hb741) ea725 ha726 kf_4 q_506 q_507 q_508 q_1 q_509 ⟨rfl, hy_X4_personOf⟩ ⟨Nat.le_of_ble_eq_true rfl, Nat.le_of_ble_eq_true rfl⟩ ⟨Nat.le_of_ble_eq_true rfl, Nat.le_of_ble_eq_true rfl⟩ rfl (Nat.le_of_ble_eq_true rfl) dL_isAhead_207 r_X (r_XX ?_)
                                                    replace h := ir_x h hg_130
                                                    exact x_out hC hQ hE (z_X (Option.some.inj h)) (Nat.le_of_ble_eq_true rfl) (Nat.le_of_ble_eq_true rfl)
                                              · refine x_callV hC (st := [.int v712]) (mt_X4_personOf _ _ _ _ _ hb742) ea717 ha718 kf_4 q_506 q_507 q_508 q_1 q_509 ⟨rfl, hy_X4_personOf⟩ ⟨Nat.le_of_ble_eq_true rfl, Nat.le_of_ble_eq_true rfl⟩ ⟨Nat.le_of_ble_eq_true rfl, Nat.le_of_ble_eq_true rfl⟩ rfl (Nat.le_of_ble_eq_true rfl) dL_isAhead_197 r_X (r_XX ?_)
                                                replace h := ir_x h hg_130
                                                exact x_out hC hQ hE (z_X (Option.some.inj h)) (Nat.le_of_ble_eq_true rfl) (Nat.le_of_ble_eq_true rfl)
                                            · refine x_callV hC (st := []) (mt_X4_personOf _ _ _ _ _ hb743) ea710 ha711 kf_4 q_506 q_507 q_508 q_1 q_509 ⟨rfl, hy_X4_personOf⟩ ⟨Nat.le_of_ble_eq_true rfl, Nat.le_of_ble_eq_true rfl⟩ ⟨Nat.le_of_ble_eq_true rfl, Nat.le_of_ble_eq_true rfl⟩ rfl (Nat.le_of_ble_eq_true rfl) dL_isAhead_191 r_X (r_XX ?_)
                                              replace h := ir_x h hg_130
                                              exact x_out hC hQ hE (z_X (Option.some.inj h)) (Nat.le_of_ble_eq_true rfl) (Nat.le_of_ble_eq_true rfl)
                                        · refine x_callV hC (st := [.int v697]) (mt_X4_personOf _ _ _ _ _ hb744) ea702 ha703 kf_4 q_506 q_507 q_508 q_1 q_509 ⟨rfl, hy_X4_personOf⟩ ⟨Nat.le_of_ble_eq_true rfl, Nat.le_of_ble_eq_true rfl⟩ ⟨Nat.le_of_ble_eq_true rfl, Nat.le_of_ble_eq_true rfl⟩ rfl (Nat.le_of_ble_eq_true rfl) dL_isAhead_181 r_X (r_XX ?_)
                                          replace h := ir_x h hg_130
                                          exact x_out hC hQ hE (z_X (Option.some.inj h)) (Nat.le_of_ble_eq_true rfl) (Nat.le_of_ble_eq_true rfl)
                                      · refine x_callV hC (st := []) (mt_X4_personOf _ _ _ _ _ hb745) ea695 ha696 kf_4 q_506 q_507 q_508 q_1 q_509 ⟨rfl, hy_X4_personOf⟩ ⟨Nat.le_of_ble_eq_true rfl, Nat.le_of_ble_eq_true rfl⟩ ⟨Nat.le_of_ble_eq_true rfl, Nat.le_of_ble_eq_true rfl⟩ rfl (Nat.le_of_ble_eq_true rfl) dL_isAhead_175 r_X (r_XX ?_)
                                        replace h := ir_x h hg_130
                                        exact x_out hC hQ hE (z_X (Option.some.inj h)) (Nat.le_of_ble_eq_true rfl) (Nat.le_of_ble_eq_true rfl)
                                  · refine x_callV hC (st := [.int v682]) (mt_X4_personOf _ _ _ _ _ hb746) ea687 ha688 kf_4 q_506 q_507 q_508 q_1 q_509 ⟨rfl, hy_X4_personOf⟩ ⟨Nat.le_of_ble_eq_true rfl, Nat.le_of_ble_eq_true rfl⟩ ⟨Nat.le_of_ble_eq_true rfl, Nat.le_of_ble_eq_true rfl⟩ rfl (Nat.le_of_ble_eq_true rfl) dL_isAhead_165 r_X (r_XX ?_)
                                    replace h := ir_x h hg_130
                                    exact x_out hC hQ hE (z_X (Option.some.inj h)) (Nat.le_of_ble_eq_true rfl) (Nat.le_of_ble_eq_true rfl)
                                · refine x_callV hC (st := []) (mt_X4_personOf _ _ _ _ _ hb747) ea680 ha681 kf_4 q_506 q_507 q_508 q_1 q_509 ⟨rfl, hy_X4_personOf⟩ ⟨Nat.le_of_ble_eq_true rfl, Nat.le_of_ble_eq_true rfl⟩ ⟨Nat.le_of_ble_eq_true rfl, Nat.le_of_ble_eq_true rfl⟩ rfl (Nat.le_of_ble_eq_true rfl) dL_isAhead_159 r_X (r_XX ?_)
                                  replace h := ir_x h hg_130
                                  exact x_out hC hQ hE (z_X (Option.some.inj h)) (Nat.le_of_ble_eq_true rfl) (Nat.le_of_ble_eq_true rfl)
                            · refine x_callV hC (st := []) (mt_X4_whyNot _ _ _ _ _ hb748) ea672 ha673 kf_4 q_445 q_446 q_447 q_1 q_448 ⟨rfl, hy_X4_whyNot⟩ ⟨Nat.le_of_ble_eq_true rfl, Nat.le_of_ble_eq_true rfl⟩ ⟨Nat.le_of_ble_eq_true rfl, Nat.le_of_ble_eq_true rfl⟩ rfl (Nat.le_of_ble_eq_true rfl) dL_isAhead_146 r_X (r_XX ?_)
                              replace h := ir_x h hg_130
                              exact x_out hC hQ hE (z_X (Option.some.inj h)) (Nat.le_of_ble_eq_true rfl) (Nat.le_of_ble_eq_true rfl)
                      · replace h := it_f c663 h
                        refine x_iload (i := 5) hC dL_isAhead_106 5 rfl ?_
                        refine x_iload_n (i := 2) hC dL_isAhead_108 rfl 2 rfl ?_
                        refine x_if_le (t := 116) hC dL_isAhead_109 (by decide) (fun c749 => ?_) (fun c749 => ?_)
                        · replace h := it_t c749 h
                          refine x_iconst (v := (0 : Int32)) hC dL_isAhead_116 (by decide) ?_
                          refine x_sub (l' := [(0, va_rf r0), (1, .int i1), (2, .int v649), (3, .int v650)]) [0, 1, 2, 3] rfl ?_
                          exact J_117 _ _ _ _ _ h
                        · replace h := it_f c749 h
                          refine x_iconst (v := (1 : Int32)) hC dL_isAhead_112 (by decide) ?_
                          refine x_goto (t := 117) hC dL_isAhead_113 (by decide) ?_
                          refine x_sub (l' := [(0, va_rf r0), (1, .int i1), (2, .int v649), (3, .int v650)]) [0, 1, 2, 3] rfl ?_
                          exact J_117 _ _ _ _ _ h
                    · replace h := it_f c662 h
                      refine x_iload (i := 5) hC dL_isAhead_73 5 rfl ?_
                      refine x_if_ne (t := 88) hC dL_isAhead_75 (by decide) (fun c750 => ?_) (fun c750 => ?_)
                      · replace h := it_f c750 h
                        refine x_iconst (v := (1 : Int32)) hC dL_isAhead_88 (by decide) ?_
                        refine x_goto (t := 93) hC dL_isAhead_89 (by decide) ?_
                        refine x_istore (i := 5) (l' := [(5, .int (1 : Int32)), (0, va_rf r0), (1, .int i1), (2, .int v649), (3, .int v650), (4, .int v651), (6, .int v653)]) hC dL_isAhead_93 (⟨fun _ => c_rf r0, ⟨fun _ => rfl, ⟨fun _ => rfl, ⟨fun _ => rfl, ⟨fun _ => rfl, ⟨fun _ => rfl, ⟨fun _ => rfl, trivial⟩⟩⟩⟩⟩⟩⟩) (by decide) rfl ?_
                        refine x_iinc (i := 6) (v := (v653 + (1 : Int32))) (l' := [(6, .int (v653 + (1 : Int32))), (5, .int (1 : Int32)), (0, va_rf r0), (1, .int i1), (2, .int v649), (3, .int v650), (4, .int v651)]) hC dL_isAhead_95 6 rfl rfl (⟨fun _ => rfl, ⟨fun _ => c_rf r0, ⟨fun _ => rfl, ⟨fun _ => rfl, ⟨fun _ => rfl, ⟨fun _ => rfl, ⟨fun _ => rfl, trivial⟩⟩⟩⟩⟩⟩⟩) (by decide) rfl ?_
                        refine x_goto (t := 63) hC dL_isAhead_98 (by decide) ?_
                        refine x_sub (l' := [(0, va_rf r0), (1, .int i1), (2, .int v649), (3, .int v650), (4, .int v651), (5, .int (1 : Int32)), (6, .int (v653 + (1 : Int32)))]) [2, 3, 4, 5, 6, 1, 0] rfl ?_
                        have hb := bk_x h hg_63
                        exact hb
                      · replace h := it_t c750 h
                        refine x_aload_n (i := 0) hC dL_isAhead_78 rfl 0 rfl ?_
                        refine x_iload (i := 6) hC dL_isAhead_79 6 rfl ?_
                        replace h := dr_el h
                        obtain ⟨a751, ea752, ha753, h⟩ := h
                        replace h := bt_el h
                        obtain ⟨v754, S755, hb759, h⟩ | ⟨j756, S757, hb759, h⟩ := h
                        · refine x_callV hC (st := []) (mtr_X4_bestReviewer _ _ _ (v754, S755) hb759) ea752 ha753 kf_4 q_688 q_689 q_690 q_1 q_691 ⟨rfl, hy_X4_bestReviewer⟩ ⟨Nat.le_of_ble_eq_true rfl, Nat.le_of_ble_eq_true rfl⟩ ⟨Nat.le_of_ble_eq_true rfl, Nat.le_of_ble_eq_true rfl⟩ rfl (Nat.le_of_ble_eq_true rfl) dL_isAhead_81 (r_N ?_) r_NX
                          show PX Z 10 S755 0 0 84 [(0, va_rf r0), (1, .int i1), (2, .int v649), (3, .int v650), (4, .int v651), (5, .int v652), (6, .int v653)] [.int v754]
                          refine x_iconst (v := (-1 : Int32)) hC dL_isAhead_84 (by decide) ?_
                          refine x_icmp_eq (t := 92) hC dL_isAhead_85 (by decide) (fun c758 => ?_) (fun c758 => ?_)
                          · replace h := it_t c758 h
                            refine x_iconst (v := (0 : Int32)) hC dL_isAhead_92 (by decide) ?_
                            refine x_istore (i := 5) (l' := [(5, .int (0 : Int32)), (0, va_rf r0), (1, .int i1), (2, .int v649), (3, .int v650), (4, .int v651), (6, .int v653)]) hC dL_isAhead_93 (⟨fun _ => c_rf r0, ⟨fun _ => rfl, ⟨fun _ => rfl, ⟨fun _ => rfl, ⟨fun _ => rfl, ⟨fun _ => rfl, ⟨fun _ => rfl, trivial⟩⟩⟩⟩⟩⟩⟩) (by decide) rfl ?_
                            refine x_iinc (i := 6) (v := (v653 + (1 : Int32))) (l' := [(6, .int (v653 + (1 : Int32))), (5, .int (0 : Int32)), (0, va_rf r0), (1, .int i1), (2, .int v649), (3, .int v650), (4, .int v651)]) hC dL_isAhead_95 6 rfl rfl (⟨fun _ => rfl, ⟨fun _ => c_rf r0, ⟨fun _ => rfl, ⟨fun _ => rfl, ⟨fun _ => rfl, ⟨fun _ => rfl, ⟨fun _ => rfl, trivial⟩⟩⟩⟩⟩⟩⟩) (by decide) rfl ?_
                            refine x_goto (t := 63) hC dL_isAhead_98 (by decide) ?_
                            refine x_sub (l' := [(0, va_rf r0), (1, .int i1), (2, .int v649), (3, .int v650), (4, .int v651), (5, .int (0 : Int32)), (6, .int (v653 + (1 : Int32)))]) [2, 3, 4, 5, 6, 1, 0] rfl ?_
                            have hb := bk_x h hg_63
                            exact hb
                          · replace h := it_f c758 h
                            refine x_iconst (v := (1 : Int32)) hC dL_isAhead_88 (by decide) ?_
                            refine x_goto (t := 93) hC dL_isAhead_89 (by decide) ?_
                            refine x_istore (i := 5) (l' := [(5, .int (1 : Int32)), (0, va_rf r0), (1, .int i1), (2, .int v649), (3, .int v650), (4, .int v651), (6, .int v653)]) hC dL_isAhead_93 (⟨fun _ => c_rf r0, ⟨fun _ => rfl, ⟨fun _ => rfl, ⟨fun _ => rfl, ⟨fun _ => rfl, ⟨fun _ => rfl, ⟨fun _ => rfl, trivial⟩⟩⟩⟩⟩⟩⟩) (by decide) rfl ?_
                            refine x_iinc (i := 6) (v := (v653 + (1 : Int32))) (l' := [(6, .int (v653 + (1 : Int32))), (5, .int (1 : Int32)), (0, va_rf r0), (1, .int i1), (2, .int v649), (3, .int v650), (4, .int v651)]) hC dL_isAhead_95 6 rfl rfl (⟨fun _ => rfl, ⟨fun _ => c_rf r0, ⟨fun _ => rfl, ⟨fun _ => rfl, ⟨fun _ => rfl, ⟨fun _ => rfl, ⟨fun _ => rfl, trivial⟩⟩⟩⟩⟩⟩⟩) (by decide) rfl ?_
                            refine x_goto (t := 63) hC dL_isAhead_98 (by decide) ?_
                            refine x_sub (l' := [(0, va_rf r0), (1, .int i1), (2, .int v649), (3, .int v650), (4, .int v651), (5, .int (1 : Int32)), (6, .int (v653 + (1 : Int32)))]) [2, 3, 4, 5, 6, 1, 0] rfl ?_
                            have hb := bk_x h hg_63
                            exact hb
                        · refine x_callV hC (st := []) (mt_X4_bestReviewer _ _ _ _ hb759) ea752 ha753 kf_4 q_688 q_689 q_690 q_1 q_691 ⟨rfl, hy_X4_bestReviewer⟩ ⟨Nat.le_of_ble_eq_true rfl, Nat.le_of_ble_eq_true rfl⟩ ⟨Nat.le_of_ble_eq_true rfl, Nat.le_of_ble_eq_true rfl⟩ rfl (Nat.le_of_ble_eq_true rfl) dL_isAhead_81 r_X (r_XX ?_)
                          replace h := ir_x h hg_63
                          exact x_out hC hQ hE (z_X (Option.some.inj h)) (Nat.le_of_ble_eq_true rfl) (Nat.le_of_ble_eq_true rfl)
                  · refine x_callV hC (st := [.int v653]) (mt_X4_count _ _ _ _ hb760) ea656 ha657 kf_4 q_406 q_407 q_408 q_1 q_409 ⟨rfl, hy_X4_count⟩ ⟨Nat.le_of_ble_eq_true rfl, Nat.le_of_ble_eq_true rfl⟩ ⟨Nat.le_of_ble_eq_true rfl, Nat.le_of_ble_eq_true rfl⟩ rfl (Nat.le_of_ble_eq_true rfl) dL_isAhead_67 r_X (r_XX ?_)
                    replace h := ir_x h hg_63
                    exact x_out hC hQ hE (z_X (Option.some.inj h)) (Nat.le_of_ble_eq_true rfl) (Nat.le_of_ble_eq_true rfl)
                · replace h := it_f c648 h
                  refine x_aload_n (i := 0) hC dL_isAhead_41 rfl 2 rfl ?_
                  refine x_iload_n (i := 3) hC dL_isAhead_42 rfl 0 rfl ?_
                  refine x_iload_n (i := 1) hC dL_isAhead_43 rfl 3 rfl ?_
                  replace h := dr_el h
                  obtain ⟨a761, ea762, ha763, h⟩ := h
                  replace h := bt_el h
                  obtain ⟨v764, S765, hb993, h⟩ | ⟨j766, S767, hb993, h⟩ := h
                  · refine x_callV hC (st := []) (mtr_X4_whyNot _ _ _ _ (v764, S765) hb993) ea762 ha763 kf_4 q_445 q_446 q_447 q_1 q_448 ⟨rfl, hy_X4_whyNot⟩ ⟨Nat.le_of_ble_eq_true rfl, Nat.le_of_ble_eq_true rfl⟩ ⟨Nat.le_of_ble_eq_true rfl, Nat.le_of_ble_eq_true rfl⟩ rfl (Nat.le_of_ble_eq_true rfl) dL_isAhead_44 (r_N ?_) r_NX
                    show PX Z 10 S765 0 0 47 [(3, .int v11), (2, .int v4), (0, va_rf r0), (1, .int i1)] [.int v764]
                    refine x_if_ne (t := 54) hC dL_isAhead_47 (by decide) (fun c768 => ?_) (fun c768 => ?_)
                    · replace h := it_f c768 h
                      refine x_iconst (v := (0 : Int32)) hC dL_isAhead_54 (by decide) ?_
                      refine x_istore (i := 4) (l' := [(4, .int (0 : Int32)), (3, .int v11), (2, .int v4), (0, va_rf r0), (1, .int i1)]) hC dL_isAhead_55 (⟨fun _ => rfl, ⟨fun _ => rfl, ⟨fun _ => c_rf r0, ⟨fun _ => rfl, trivial⟩⟩⟩⟩) (by decide) rfl ?_
                      refine x_iconst (v := (0 : Int32)) hC dL_isAhead_57 (by decide) ?_
                      refine x_istore (i := 5) (l' := [(5, .int (0 : Int32)), (4, .int (0 : Int32)), (3, .int v11), (2, .int v4), (0, va_rf r0), (1, .int i1)]) hC dL_isAhead_58 (⟨fun _ => rfl, ⟨fun _ => rfl, ⟨fun _ => rfl, ⟨fun _ => c_rf r0, ⟨fun _ => rfl, trivial⟩⟩⟩⟩⟩) (by decide) rfl ?_
                      refine x_iconst (v := (0 : Int32)) hC dL_isAhead_60 (by decide) ?_
                      refine x_istore (i := 6) (l' := [(6, .int (0 : Int32)), (5, .int (0 : Int32)), (4, .int (0 : Int32)), (3, .int v11), (2, .int v4), (0, va_rf r0), (1, .int i1)]) hC dL_isAhead_61 (⟨fun _ => rfl, ⟨fun _ => rfl, ⟨fun _ => rfl, ⟨fun _ => rfl, ⟨fun _ => c_rf r0, ⟨fun _ => rfl, trivial⟩⟩⟩⟩⟩⟩) (by decide) rfl ?_
                      refine x_sub (l' := [(0, va_rf r0), (1, .int i1), (2, .int v4), (3, .int v11), (4, .int (0 : Int32)), (5, .int (0 : Int32)), (6, .int (0 : Int32))]) [5, 6, 4, 3, 2, 1, 0] rfl ?_
                      refine lp_sim (P := fun (t : (Int32 × Int32 × Int32 × Int32 × Int32 × PH)) => PX Z 10 t.2.2.2.2.2 0 0 63 [(0, va_rf r0), (1, .int i1), (2, .int t.1), (3, .int t.2.1), (4, .int t.2.2.1), (5, .int t.2.2.2.1), (6, .int t.2.2.2.2.1)] []) (G := fun r => r = y) ?_ h rfl
                      clear h
                      intro t x_63 h hg_63
                      obtain ⟨v769, v770, v771, v772, v773, S774⟩ := t
                      show PX Z 10 S774 0 0 63 [(0, va_rf r0), (1, .int i1), (2, .int v769), (3, .int v770), (4, .int v771), (5, .int v772), (6, .int v773)] []
                      unfold st_L_isAhead_63 at h
                      refine x_iload (i := 6) hC dL_isAhead_63 6 rfl ?_
                      refine x_aload_n (i := 0) hC dL_isAhead_65 rfl 0 rfl ?_
                      refine x_iconst (v := (0 : Int32)) hC dL_isAhead_66 (by decide) ?_
                      replace h := dr_el h
                      obtain ⟨a775, ea776, ha777, h⟩ := h
                      replace h := bt_el h
                      obtain ⟨v778, S779, hb880, h⟩ | ⟨j780, S781, hb880, h⟩ := h
                      · refine x_callV hC (st := [.int v773]) (mtr_X4_count _ _ _ (v778, S779) hb880) ea776 ha777 kf_4 q_406 q_407 q_408 q_1 q_409 ⟨rfl, hy_X4_count⟩ ⟨Nat.le_of_ble_eq_true rfl, Nat.le_of_ble_eq_true rfl⟩ ⟨Nat.le_of_ble_eq_true rfl, Nat.le_of_ble_eq_true rfl⟩ rfl (Nat.le_of_ble_eq_true rfl) dL_isAhead_67 (r_N ?_) r_NX
                        show PX Z 10 S779 0 0 70 [(0, va_rf r0), (1, .int i1), (2, .int v769), (3, .int v770), (4, .int v771), (5, .int v772), (6, .int v773)] [.int v778, .int v773]
                        refine x_icmp_ge (t := 101) hC dL_isAhead_70 (by decide) (fun c782 => ?_) (fun c782 => ?_)
                        · replace h := it_t c782 h
                          replace h := ir_x h hg_63
                          refine x_iload (i := 4) hC dL_isAhead_101 4 rfl ?_
                          refine x_if_eq (t := 124) hC dL_isAhead_103 (by decide) (fun c783 => ?_) (fun c783 => ?_)
                          · replace h := it_t c783 h
                            refine x_iconst (v := (0 : Int32)) hC dL_isAhead_124 (by decide) ?_
                            refine x_istore (i := 4) (l' := [(4, .int (0 : Int32)), (0, va_rf r0), (1, .int i1), (2, .int v769), (3, .int v770), (5, .int v772), (6, .int v773)]) hC dL_isAhead_125 (⟨fun _ => c_rf r0, ⟨fun _ => rfl, ⟨fun _ => rfl, ⟨fun _ => rfl, ⟨fun _ => rfl, ⟨fun _ => rfl, ⟨fun _ => rfl, trivial⟩⟩⟩⟩⟩⟩⟩) (by decide) rfl ?_
                            refine x_iconst (v := (0 : Int32)) hC dL_isAhead_127 (by decide) ?_
                            refine x_istore (i := 6) (l' := [(6, .int (0 : Int32)), (4, .int (0 : Int32)), (0, va_rf r0), (1, .int i1), (2, .int v769), (3, .int v770), (5, .int v772)]) hC dL_isAhead_128 (⟨fun _ => rfl, ⟨fun _ => c_rf r0, ⟨fun _ => rfl, ⟨fun _ => rfl, ⟨fun _ => rfl, ⟨fun _ => rfl, ⟨fun _ => rfl, trivial⟩⟩⟩⟩⟩⟩⟩) (by decide) rfl ?_
                            refine x_sub (l' := [(0, va_rf r0), (1, .int i1), (2, .int v769), (3, .int v770), (4, .int (0 : Int32)), (6, .int (0 : Int32))]) [2, 3, 4, 5, 1, 0] rfl ?_
                            refine lp_sim (P := fun (t : (Int32 × Int32 × Int32 × Int32 × PH)) => PX Z 10 t.2.2.2.2 0 0 130 [(0, va_rf r0), (1, .int i1), (2, .int t.1), (3, .int t.2.1), (4, .int t.2.2.1), (6, .int t.2.2.2.1)] []) (G := fun r => r = y) ?_ h rfl
                            clear h
                            intro t x_130 h hg_130
                            obtain ⟨v784, v785, v786, v787, S788⟩ := t
                            show PX Z 10 S788 0 0 130 [(0, va_rf r0), (1, .int i1), (2, .int v784), (3, .int v785), (4, .int v786), (6, .int v787)] []
                            have J_328 : ∀ (v117 : Int32) (v118 : Int32) (v119 : Int32) (v120 : Int32) (v121 : Int32) (S122 : PH), j_L_isAhead_328 r0 i1 v117 v118 v119 v120 v121 S122 = some x_130 → PX Z 10 S122 0 0 328 [(0, va_rf r0), (1, .int i1), (2, .int v117), (3, .int v118), (6, .int v119), (7, .int v120), (9, .int v121)] [] := by
                              intro v117 v118 v119 v120 v121 S122 h
                              unfold j_L_isAhead_328 at h
                              refine x_iload (i := 7) hC dL_isAhead_328 5 rfl ?_
                              refine x_iconst (v := (5 : Int32)) hC dL_isAhead_330 (by decide) ?_
                              refine x_icmp_lt (t := 339) hC dL_isAhead_331 (by decide) (fun c123 => ?_) (fun c123 => ?_)
                              · replace h := it_t c123 h
                                refine x_iconst (v := (1 : Int32)) hC dL_isAhead_339 (by decide) ?_
                                refine x_goto (t := 366) hC dL_isAhead_340 (by decide) ?_
                                refine x_istore (i := 4) (l' := [(4, .int (1 : Int32)), (0, va_rf r0), (1, .int i1), (2, .int v117), (3, .int v118), (6, .int v119), (7, .int v120), (9, .int v121)]) hC dL_isAhead_366 (⟨fun _ => c_rf r0, ⟨fun _ => rfl, ⟨fun _ => rfl, ⟨fun _ => rfl, ⟨fun _ => rfl, ⟨fun _ => rfl, ⟨fun _ => rfl, trivial⟩⟩⟩⟩⟩⟩⟩) (by decide) rfl ?_
                                refine x_iinc (i := 6) (v := (v119 + (1 : Int32))) (l' := [(6, .int (v119 + (1 : Int32))), (4, .int (1 : Int32)), (0, va_rf r0), (1, .int i1), (2, .int v117), (3, .int v118), (7, .int v120), (9, .int v121)]) hC dL_isAhead_368 5 rfl rfl (⟨fun _ => rfl, ⟨fun _ => c_rf r0, ⟨fun _ => rfl, ⟨fun _ => rfl, ⟨fun _ => rfl, ⟨fun _ => rfl, ⟨fun _ => rfl, ⟨fun _ => rfl, trivial⟩⟩⟩⟩⟩⟩⟩⟩) (by decide) rfl ?_
                                refine x_goto (t := 130) hC dL_isAhead_371 (by decide) ?_
                                refine x_sub (l' := [(0, va_rf r0), (1, .int i1), (2, .int v117), (3, .int v118), (4, .int (1 : Int32)), (6, .int (v119 + (1 : Int32)))]) [2, 3, 4, 5, 1, 0] rfl ?_
                                have hb := bk_x h hg_130
                                exact hb
                              · replace h := it_f c123 h
                                refine x_iload (i := 9) hC dL_isAhead_334 6 rfl ?_
                                refine x_if_ne (t := 343) hC dL_isAhead_336 (by decide) (fun c124 => ?_) (fun c124 => ?_)
                                · replace h := it_f c124 h
                                  refine x_iconst (v := (0 : Int32)) hC dL_isAhead_343 (by decide) ?_
                                  refine x_goto (t := 366) hC dL_isAhead_344 (by decide) ?_
                                  refine x_istore (i := 4) (l' := [(4, .int (0 : Int32)), (0, va_rf r0), (1, .int i1), (2, .int v117), (3, .int v118), (6, .int v119), (7, .int v120), (9, .int v121)]) hC dL_isAhead_366 (⟨fun _ => c_rf r0, ⟨fun _ => rfl, ⟨fun _ => rfl, ⟨fun _ => rfl, ⟨fun _ => rfl, ⟨fun _ => rfl, ⟨fun _ => rfl, trivial⟩⟩⟩⟩⟩⟩⟩) (by decide) rfl ?_
                                  refine x_iinc (i := 6) (v := (v119 + (1 : Int32))) (l' := [(6, .int (v119 + (1 : Int32))), (4, .int (0 : Int32)), (0, va_rf r0), (1, .int i1), (2, .int v117), (3, .int v118), (7, .int v120), (9, .int v121)]) hC dL_isAhead_368 5 rfl rfl (⟨fun _ => rfl, ⟨fun _ => c_rf r0, ⟨fun _ => rfl, ⟨fun _ => rfl, ⟨fun _ => rfl, ⟨fun _ => rfl, ⟨fun _ => rfl, ⟨fun _ => rfl, trivial⟩⟩⟩⟩⟩⟩⟩⟩) (by decide) rfl ?_
                                  refine x_goto (t := 130) hC dL_isAhead_371 (by decide) ?_
                                  refine x_sub (l' := [(0, va_rf r0), (1, .int i1), (2, .int v117), (3, .int v118), (4, .int (0 : Int32)), (6, .int (v119 + (1 : Int32)))]) [2, 3, 4, 5, 1, 0] rfl ?_
                                  have hb := bk_x h hg_130
                                  exact hb
                                · replace h := it_t c124 h
                                  refine x_iconst (v := (1 : Int32)) hC dL_isAhead_339 (by decide) ?_
                                  refine x_goto (t := 366) hC dL_isAhead_340 (by decide) ?_
                                  refine x_istore (i := 4) (l' := [(4, .int (1 : Int32)), (0, va_rf r0), (1, .int i1), (2, .int v117), (3, .int v118), (6, .int v119), (7, .int v120), (9, .int v121)]) hC dL_isAhead_366 (⟨fun _ => c_rf r0, ⟨fun _ => rfl, ⟨fun _ => rfl, ⟨fun _ => rfl, ⟨fun _ => rfl, ⟨fun _ => rfl, ⟨fun _ => rfl, trivial⟩⟩⟩⟩⟩⟩⟩) (by decide) rfl ?_
                                  refine x_iinc (i := 6) (v := (v119 + (1 : Int32))) (l' := [(6, .int (v119 + (1 : Int32))), (4, .int (1 : Int32)), (0, va_rf r0), (1, .int i1), (2, .int v117), (3, .int v118), (7, .int v120), (9, .int v121)]) hC dL_isAhead_368 5 rfl rfl (⟨fun _ => rfl, ⟨fun _ => c_rf r0, ⟨fun _ => rfl, ⟨fun _ => rfl, ⟨fun _ => rfl, ⟨fun _ => rfl, ⟨fun _ => rfl, ⟨fun _ => rfl, trivial⟩⟩⟩⟩⟩⟩⟩⟩) (by decide) rfl ?_
                                  refine x_goto (t := 130) hC dL_isAhead_371 (by decide) ?_
                                  refine x_sub (l' := [(0, va_rf r0), (1, .int i1), (2, .int v117), (3, .int v118), (4, .int (1 : Int32)), (6, .int (v119 + (1 : Int32)))]) [2, 3, 4, 5, 1, 0] rfl ?_
                                  have hb := bk_x h hg_130
                                  exact hb
                            have J_314 : ∀ (v107 : Int32) (v108 : Int32) (v109 : Int32) (v110 : Int32) (v111 : Int32) (v112 : Int32) (v113 : Int32) (S114 : PH), j_L_isAhead_314 r0 i1 v107 v108 v109 v110 v111 v112 v113 S114 = some x_130 → PX Z 10 S114 0 0 314 [(0, va_rf r0), (1, .int i1), (2, .int v107), (3, .int v108), (6, .int v109), (7, .int v110), (9, .int v111)] [.int v113, .int v112] := by
                              intro v107 v108 v109 v110 v111 v112 v113 S114 h
                              unfold j_L_isAhead_314 at h
                              refine x_icmp_ne (t := 343) hC dL_isAhead_314 (by decide) (fun c115 => ?_) (fun c115 => ?_)
                              · replace h := it_f c115 h
                                refine x_iconst (v := (0 : Int32)) hC dL_isAhead_343 (by decide) ?_
                                refine x_goto (t := 366) hC dL_isAhead_344 (by decide) ?_
                                refine x_istore (i := 4) (l' := [(4, .int (0 : Int32)), (0, va_rf r0), (1, .int i1), (2, .int v107), (3, .int v108), (6, .int v109), (7, .int v110), (9, .int v111)]) hC dL_isAhead_366 (⟨fun _ => c_rf r0, ⟨fun _ => rfl, ⟨fun _ => rfl, ⟨fun _ => rfl, ⟨fun _ => rfl, ⟨fun _ => rfl, ⟨fun _ => rfl, trivial⟩⟩⟩⟩⟩⟩⟩) (by decide) rfl ?_
                                refine x_iinc (i := 6) (v := (v109 + (1 : Int32))) (l' := [(6, .int (v109 + (1 : Int32))), (4, .int (0 : Int32)), (0, va_rf r0), (1, .int i1), (2, .int v107), (3, .int v108), (7, .int v110), (9, .int v111)]) hC dL_isAhead_368 5 rfl rfl (⟨fun _ => rfl, ⟨fun _ => c_rf r0, ⟨fun _ => rfl, ⟨fun _ => rfl, ⟨fun _ => rfl, ⟨fun _ => rfl, ⟨fun _ => rfl, ⟨fun _ => rfl, trivial⟩⟩⟩⟩⟩⟩⟩⟩) (by decide) rfl ?_
                                refine x_goto (t := 130) hC dL_isAhead_371 (by decide) ?_
                                refine x_sub (l' := [(0, va_rf r0), (1, .int i1), (2, .int v107), (3, .int v108), (4, .int (0 : Int32)), (6, .int (v109 + (1 : Int32)))]) [2, 3, 4, 5, 1, 0] rfl ?_
                                have hb := bk_x h hg_130
                                exact hb
                              · replace h := it_t c115 h
                                refine x_iload (i := 7) hC dL_isAhead_317 5 rfl ?_
                                refine x_iconst (v := (4 : Int32)) hC dL_isAhead_319 (by decide) ?_
                                refine x_icmp_ne (t := 328) hC dL_isAhead_320 (by decide) (fun c116 => ?_) (fun c116 => ?_)
                                · replace h := it_f c116 h
                                  exact J_328 _ _ _ _ _ _ h
                                · replace h := it_t c116 h
                                  refine x_iload (i := 9) hC dL_isAhead_323 6 rfl ?_
                                  refine x_if_eq (t := 343) hC dL_isAhead_325 (by decide) (fun c125 => ?_) (fun c125 => ?_)
                                  · replace h := it_t c125 h
                                    refine x_iconst (v := (0 : Int32)) hC dL_isAhead_343 (by decide) ?_
                                    refine x_goto (t := 366) hC dL_isAhead_344 (by decide) ?_
                                    refine x_istore (i := 4) (l' := [(4, .int (0 : Int32)), (0, va_rf r0), (1, .int i1), (2, .int v107), (3, .int v108), (6, .int v109), (7, .int v110), (9, .int v111)]) hC dL_isAhead_366 (⟨fun _ => c_rf r0, ⟨fun _ => rfl, ⟨fun _ => rfl, ⟨fun _ => rfl, ⟨fun _ => rfl, ⟨fun _ => rfl, ⟨fun _ => rfl, trivial⟩⟩⟩⟩⟩⟩⟩) (by decide) rfl ?_
                                    refine x_iinc (i := 6) (v := (v109 + (1 : Int32))) (l' := [(6, .int (v109 + (1 : Int32))), (4, .int (0 : Int32)), (0, va_rf r0), (1, .int i1), (2, .int v107), (3, .int v108), (7, .int v110), (9, .int v111)]) hC dL_isAhead_368 5 rfl rfl (⟨fun _ => rfl, ⟨fun _ => c_rf r0, ⟨fun _ => rfl, ⟨fun _ => rfl, ⟨fun _ => rfl, ⟨fun _ => rfl, ⟨fun _ => rfl, ⟨fun _ => rfl, trivial⟩⟩⟩⟩⟩⟩⟩⟩) (by decide) rfl ?_
                                    refine x_goto (t := 130) hC dL_isAhead_371 (by decide) ?_
                                    refine x_sub (l' := [(0, va_rf r0), (1, .int i1), (2, .int v107), (3, .int v108), (4, .int (0 : Int32)), (6, .int (v109 + (1 : Int32)))]) [2, 3, 4, 5, 1, 0] rfl ?_
                                    have hb := bk_x h hg_130
                                    exact hb
                                  · replace h := it_f c125 h
                                    exact J_328 _ _ _ _ _ _ h
                            have J_271 : ∀ (v92 : Int32) (v93 : Int32) (v94 : Int32) (v95 : Int32) (v96 : Int32) (v97 : Int32) (S98 : PH), j_L_isAhead_271 r0 i1 v92 v93 v94 v95 v96 v97 S98 = some x_130 → PX Z 10 S98 0 0 271 [(0, va_rf r0), (1, .int i1), (2, .int v92), (3, .int v93), (6, .int v94), (7, .int v95), (9, .int v96)] [.int v97] := by
                              intro v92 v93 v94 v95 v96 v97 S98 h
                              unfold j_L_isAhead_271 at h
                              refine x_aload_n (i := 0) hC dL_isAhead_271 rfl 0 rfl ?_
                              refine x_iload_n (i := 1) hC dL_isAhead_272 rfl 1 rfl ?_
                              refine x_bipush (v := (8 : Int32)) hC dL_isAhead_273 (by decide) ?_
                              replace h := dr_el h
                              obtain ⟨a99, ea100, ha101, h⟩ := h
                              replace h := bt_el h
                              obtain ⟨v102, S103, hb155, h⟩ | ⟨j104, S105, hb155, h⟩ := h
                              · refine x_callV hC (st := [.int v97]) (mtr_X4_paperOf _ _ _ _ (v102, S103) hb155) ea100 ha101 kf_4 q_527 q_528 q_529 q_1 q_530 ⟨rfl, hy_X4_paperOf⟩ ⟨Nat.le_of_ble_eq_true rfl, Nat.le_of_ble_eq_true rfl⟩ ⟨Nat.le_of_ble_eq_true rfl, Nat.le_of_ble_eq_true rfl⟩ rfl (Nat.le_of_ble_eq_true rfl) dL_isAhead_275 (r_N ?_) r_NX
                                show PX Z 10 S103 0 0 278 [(0, va_rf r0), (1, .int i1), (2, .int v92), (3, .int v93), (6, .int v94), (7, .int v95), (9, .int v96)] [.int v102, .int v97]
                                refine x_if_ne (t := 313) hC dL_isAhead_278 (by decide) (fun c106 => ?_) (fun c106 => ?_)
                                · replace h := it_f c106 h
                                  refine x_iconst (v := (0 : Int32)) hC dL_isAhead_313 (by decide) ?_
                                  exact J_314 _ _ _ _ _ _ _ _ h
                                · replace h := it_t c106 h
                                  refine x_aload_n (i := 0) hC dL_isAhead_281 rfl 0 rfl ?_
                                  refine x_iload (i := 6) hC dL_isAhead_282 4 rfl ?_
                                  refine x_iload_n (i := 1) hC dL_isAhead_284 rfl 1 rfl ?_
                                  replace h := dr_el h
                                  obtain ⟨a126, ea127, ha128, h⟩ := h
                                  replace h := bt_el h
                                  obtain ⟨v129, S130, hb154, h⟩ | ⟨j131, S132, hb154, h⟩ := h
                                  · refine x_callV hC (st := [.int v97]) (mtr_X4_score _ _ _ _ (v129, S130) hb154) ea127 ha128 kf_4 q_548 q_549 q_550 q_1 q_551 ⟨rfl, hy_X4_score⟩ ⟨Nat.le_of_ble_eq_true rfl, Nat.le_of_ble_eq_true rfl⟩ ⟨Nat.le_of_ble_eq_true rfl, Nat.le_of_ble_eq_true rfl⟩ rfl (Nat.le_of_ble_eq_true rfl) dL_isAhead_285 (r_N ?_) r_NX
                                    show PX Z 10 S130 0 0 288 [(0, va_rf r0), (1, .int i1), (2, .int v92), (3, .int v93), (6, .int v94), (7, .int v95), (9, .int v96)] [.int v129, .int v97]
                                    refine x_iconst (v := (-1 : Int32)) hC dL_isAhead_288 (by decide) ?_
                                    refine x_icmp_ne (t := 313) hC dL_isAhead_289 (by decide) (fun c133 => ?_) (fun c133 => ?_)
                                    · replace h := it_f c133 h
                                      refine x_iconst (v := (0 : Int32)) hC dL_isAhead_313 (by decide) ?_
                                      exact J_314 _ _ _ _ _ _ _ _ h
                                    · replace h := it_t c133 h
                                      refine x_aload_n (i := 0) hC dL_isAhead_292 rfl 0 rfl ?_
                                      refine x_iload_n (i := 1) hC dL_isAhead_293 rfl 1 rfl ?_
                                      refine x_iconst (v := (2 : Int32)) hC dL_isAhead_294 (by decide) ?_
                                      replace h := dr_el h
                                      obtain ⟨a134, ea135, ha136, h⟩ := h
                                      replace h := bt_el h
                                      obtain ⟨v137, S138, hb153, h⟩ | ⟨j139, S140, hb153, h⟩ := h
                                      · refine x_callV hC (st := [.int v97]) (mtr_X4_paperOf _ _ _ _ (v137, S138) hb153) ea135 ha136 kf_4 q_527 q_528 q_529 q_1 q_530 ⟨rfl, hy_X4_paperOf⟩ ⟨Nat.le_of_ble_eq_true rfl, Nat.le_of_ble_eq_true rfl⟩ ⟨Nat.le_of_ble_eq_true rfl, Nat.le_of_ble_eq_true rfl⟩ rfl (Nat.le_of_ble_eq_true rfl) dL_isAhead_295 (r_N ?_) r_NX
                                        show PX Z 10 S138 0 0 298 [(0, va_rf r0), (1, .int i1), (2, .int v92), (3, .int v93), (6, .int v94), (7, .int v95), (9, .int v96)] [.int v137, .int v97]
                                        replace h := bd_el h
                                        obtain ⟨v141, S142, hb143, h⟩ := h
                                        refine x_callS hC (st := [.int v97]) (mt_L_bits _ _ _ hb143) q_656 q_657 q_0 q_658 hy_L_bits ⟨Nat.le_of_ble_eq_true rfl, Nat.le_of_ble_eq_true rfl⟩ ⟨Nat.le_of_ble_eq_true rfl, Nat.le_of_ble_eq_true rfl⟩ rfl (Nat.le_of_ble_eq_true rfl) dL_isAhead_298 (r_N ?_) r_NX
                                        show PX Z 10 S142 0 0 301 [(0, va_rf r0), (1, .int i1), (2, .int v92), (3, .int v93), (6, .int v94), (7, .int v95), (9, .int v96)] [.int v141, .int v97]
                                        refine x_aload_n (i := 0) hC dL_isAhead_301 rfl 0 rfl ?_
                                        refine x_iconst (v := (0 : Int32)) hC dL_isAhead_302 (by decide) ?_
                                        replace h := dr_el h
                                        obtain ⟨a144, ea145, ha146, h⟩ := h
                                        replace h := bt_el h
                                        obtain ⟨v147, S148, hb152, h⟩ | ⟨j149, S150, hb152, h⟩ := h
                                        · refine x_callV hC (st := [.int v141, .int v97]) (mtr_X4_setting _ _ _ (v147, S148) hb152) ea145 ha146 kf_4 q_552 q_553 q_554 q_1 q_555 ⟨rfl, hy_X4_setting⟩ ⟨Nat.le_of_ble_eq_true rfl, Nat.le_of_ble_eq_true rfl⟩ ⟨Nat.le_of_ble_eq_true rfl, Nat.le_of_ble_eq_true rfl⟩ rfl (Nat.le_of_ble_eq_true rfl) dL_isAhead_303 (r_N ?_) r_NX
                                          show PX Z 10 S148 0 0 306 [(0, va_rf r0), (1, .int i1), (2, .int v92), (3, .int v93), (6, .int v94), (7, .int v95), (9, .int v96)] [.int v147, .int v141, .int v97]
                                          refine x_icmp_ge (t := 313) hC dL_isAhead_306 (by decide) (fun c151 => ?_) (fun c151 => ?_)
                                          · replace h := it_t c151 h
                                            refine x_iconst (v := (0 : Int32)) hC dL_isAhead_313 (by decide) ?_
                                            exact J_314 _ _ _ _ _ _ _ _ h
                                          · replace h := it_f c151 h
                                            refine x_iconst (v := (1 : Int32)) hC dL_isAhead_309 (by decide) ?_
                                            refine x_goto (t := 314) hC dL_isAhead_310 (by decide) ?_
                                            exact J_314 _ _ _ _ _ _ _ _ h
                                        · refine x_callV hC (st := [.int v141, .int v97]) (mt_X4_setting _ _ _ _ hb152) ea145 ha146 kf_4 q_552 q_553 q_554 q_1 q_555 ⟨rfl, hy_X4_setting⟩ ⟨Nat.le_of_ble_eq_true rfl, Nat.le_of_ble_eq_true rfl⟩ ⟨Nat.le_of_ble_eq_true rfl, Nat.le_of_ble_eq_true rfl⟩ rfl (Nat.le_of_ble_eq_true rfl) dL_isAhead_303 r_X (r_XX ?_)
                                          replace h := ir_x h hg_130
                                          exact x_out hC hQ hE (z_X (Option.some.inj h)) (Nat.le_of_ble_eq_true rfl) (Nat.le_of_ble_eq_true rfl)
                                      · refine x_callV hC (st := [.int v97]) (mt_X4_paperOf _ _ _ _ _ hb153) ea135 ha136 kf_4 q_527 q_528 q_529 q_1 q_530 ⟨rfl, hy_X4_paperOf⟩ ⟨Nat.le_of_ble_eq_true rfl, Nat.le_of_ble_eq_true rfl⟩ ⟨Nat.le_of_ble_eq_true rfl, Nat.le_of_ble_eq_true rfl⟩ rfl (Nat.le_of_ble_eq_true rfl) dL_isAhead_295 r_X (r_XX ?_)
                                        replace h := ir_x h hg_130
                                        exact x_out hC hQ hE (z_X (Option.some.inj h)) (Nat.le_of_ble_eq_true rfl) (Nat.le_of_ble_eq_true rfl)
                                  · refine x_callV hC (st := [.int v97]) (mt_X4_score _ _ _ _ _ hb154) ea127 ha128 kf_4 q_548 q_549 q_550 q_1 q_551 ⟨rfl, hy_X4_score⟩ ⟨Nat.le_of_ble_eq_true rfl, Nat.le_of_ble_eq_true rfl⟩ ⟨Nat.le_of_ble_eq_true rfl, Nat.le_of_ble_eq_true rfl⟩ rfl (Nat.le_of_ble_eq_true rfl) dL_isAhead_285 r_X (r_XX ?_)
                                    replace h := ir_x h hg_130
                                    exact x_out hC hQ hE (z_X (Option.some.inj h)) (Nat.le_of_ble_eq_true rfl) (Nat.le_of_ble_eq_true rfl)
                              · refine x_callV hC (st := [.int v97]) (mt_X4_paperOf _ _ _ _ _ hb155) ea100 ha101 kf_4 q_527 q_528 q_529 q_1 q_530 ⟨rfl, hy_X4_paperOf⟩ ⟨Nat.le_of_ble_eq_true rfl, Nat.le_of_ble_eq_true rfl⟩ ⟨Nat.le_of_ble_eq_true rfl, Nat.le_of_ble_eq_true rfl⟩ rfl (Nat.le_of_ble_eq_true rfl) dL_isAhead_275 r_X (r_XX ?_)
                                replace h := ir_x h hg_130
                                exact x_out hC hQ hE (z_X (Option.some.inj h)) (Nat.le_of_ble_eq_true rfl) (Nat.le_of_ble_eq_true rfl)
                            have J_253 : ∀ (v80 : Int32) (v81 : Int32) (v82 : Int32) (v83 : Int32) (v84 : Int32) (v85 : Int32) (S86 : PH), j_L_isAhead_253 r0 i1 v80 v81 v82 v83 v84 v85 S86 = some x_130 → PX Z 10 S86 0 0 253 [(0, va_rf r0), (1, .int i1), (2, .int v80), (3, .int v81), (6, .int v82), (7, .int v83), (8, .int v84)] [.int v85] := by
                              intro v80 v81 v82 v83 v84 v85 S86 h
                              unfold j_L_isAhead_253 at h
                              refine x_istore (i := 9) (l' := [(9, .int v85), (0, va_rf r0), (1, .int i1), (2, .int v80), (3, .int v81), (6, .int v82), (7, .int v83), (8, .int v84)]) hC dL_isAhead_253 (⟨fun _ => c_rf r0, ⟨fun _ => rfl, ⟨fun _ => rfl, ⟨fun _ => rfl, ⟨fun _ => rfl, ⟨fun _ => rfl, ⟨fun _ => rfl, trivial⟩⟩⟩⟩⟩⟩⟩) (by decide) rfl ?_
                              refine x_iload (i := 7) hC dL_isAhead_255 6 rfl ?_
                              refine x_if_le (t := 347) hC dL_isAhead_257 (by decide) (fun c87 => ?_) (fun c87 => ?_)
                              · replace h := it_t c87 h
                                refine x_iload_n (i := 3) hC dL_isAhead_347 rfl 4 rfl ?_
                                refine x_if_lt (t := 365) hC dL_isAhead_348 (by decide) (fun c88 => ?_) (fun c88 => ?_)
                                · replace h := it_t c88 h
                                  refine x_iconst (v := (0 : Int32)) hC dL_isAhead_365 (by decide) ?_
                                  refine x_istore (i := 4) (l' := [(4, .int (0 : Int32)), (9, .int v85), (0, va_rf r0), (1, .int i1), (2, .int v80), (3, .int v81), (6, .int v82), (7, .int v83), (8, .int v84)]) hC dL_isAhead_366 (⟨fun _ => rfl, ⟨fun _ => c_rf r0, ⟨fun _ => rfl, ⟨fun _ => rfl, ⟨fun _ => rfl, ⟨fun _ => rfl, ⟨fun _ => rfl, ⟨fun _ => rfl, trivial⟩⟩⟩⟩⟩⟩⟩⟩) (by decide) rfl ?_
                                  refine x_iinc (i := 6) (v := (v82 + (1 : Int32))) (l' := [(6, .int (v82 + (1 : Int32))), (4, .int (0 : Int32)), (9, .int v85), (0, va_rf r0), (1, .int i1), (2, .int v80), (3, .int v81), (7, .int v83), (8, .int v84)]) hC dL_isAhead_368 6 rfl rfl (⟨fun _ => rfl, ⟨fun _ => rfl, ⟨fun _ => c_rf r0, ⟨fun _ => rfl, ⟨fun _ => rfl, ⟨fun _ => rfl, ⟨fun _ => rfl, ⟨fun _ => rfl, ⟨fun _ => rfl, trivial⟩⟩⟩⟩⟩⟩⟩⟩⟩) (by decide) rfl ?_
                                  refine x_goto (t := 130) hC dL_isAhead_371 (by decide) ?_
                                  refine x_sub (l' := [(0, va_rf r0), (1, .int i1), (2, .int v80), (3, .int v81), (4, .int (0 : Int32)), (6, .int (v82 + (1 : Int32)))]) [3, 4, 5, 6, 1, 0] rfl ?_
                                  have hb := bk_x h hg_130
                                  exact hb
                                · replace h := it_f c88 h
                                  refine x_iload (i := 8) hC dL_isAhead_351 7 rfl ?_
                                  refine x_if_ne (t := 365) hC dL_isAhead_353 (by decide) (fun c89 => ?_) (fun c89 => ?_)
                                  · replace h := it_f c89 h
                                    refine x_iconst (v := (0 : Int32)) hC dL_isAhead_365 (by decide) ?_
                                    refine x_istore (i := 4) (l' := [(4, .int (0 : Int32)), (9, .int v85), (0, va_rf r0), (1, .int i1), (2, .int v80), (3, .int v81), (6, .int v82), (7, .int v83), (8, .int v84)]) hC dL_isAhead_366 (⟨fun _ => rfl, ⟨fun _ => c_rf r0, ⟨fun _ => rfl, ⟨fun _ => rfl, ⟨fun _ => rfl, ⟨fun _ => rfl, ⟨fun _ => rfl, ⟨fun _ => rfl, trivial⟩⟩⟩⟩⟩⟩⟩⟩) (by decide) rfl ?_
                                    refine x_iinc (i := 6) (v := (v82 + (1 : Int32))) (l' := [(6, .int (v82 + (1 : Int32))), (4, .int (0 : Int32)), (9, .int v85), (0, va_rf r0), (1, .int i1), (2, .int v80), (3, .int v81), (7, .int v83), (8, .int v84)]) hC dL_isAhead_368 6 rfl rfl (⟨fun _ => rfl, ⟨fun _ => rfl, ⟨fun _ => c_rf r0, ⟨fun _ => rfl, ⟨fun _ => rfl, ⟨fun _ => rfl, ⟨fun _ => rfl, ⟨fun _ => rfl, ⟨fun _ => rfl, trivial⟩⟩⟩⟩⟩⟩⟩⟩⟩) (by decide) rfl ?_
                                    refine x_goto (t := 130) hC dL_isAhead_371 (by decide) ?_
                                    refine x_sub (l' := [(0, va_rf r0), (1, .int i1), (2, .int v80), (3, .int v81), (4, .int (0 : Int32)), (6, .int (v82 + (1 : Int32)))]) [3, 4, 5, 6, 1, 0] rfl ?_
                                    have hb := bk_x h hg_130
                                    exact hb
                                  · replace h := it_t c89 h
                                    refine x_iload (i := 9) hC dL_isAhead_356 0 rfl ?_
                                    refine x_if_ne (t := 365) hC dL_isAhead_358 (by decide) (fun c90 => ?_) (fun c90 => ?_)
                                    · replace h := it_f c90 h
                                      refine x_iconst (v := (0 : Int32)) hC dL_isAhead_365 (by decide) ?_
                                      refine x_istore (i := 4) (l' := [(4, .int (0 : Int32)), (9, .int v85), (0, va_rf r0), (1, .int i1), (2, .int v80), (3, .int v81), (6, .int v82), (7, .int v83), (8, .int v84)]) hC dL_isAhead_366 (⟨fun _ => rfl, ⟨fun _ => c_rf r0, ⟨fun _ => rfl, ⟨fun _ => rfl, ⟨fun _ => rfl, ⟨fun _ => rfl, ⟨fun _ => rfl, ⟨fun _ => rfl, trivial⟩⟩⟩⟩⟩⟩⟩⟩) (by decide) rfl ?_
                                      refine x_iinc (i := 6) (v := (v82 + (1 : Int32))) (l' := [(6, .int (v82 + (1 : Int32))), (4, .int (0 : Int32)), (9, .int v85), (0, va_rf r0), (1, .int i1), (2, .int v80), (3, .int v81), (7, .int v83), (8, .int v84)]) hC dL_isAhead_368 6 rfl rfl (⟨fun _ => rfl, ⟨fun _ => rfl, ⟨fun _ => c_rf r0, ⟨fun _ => rfl, ⟨fun _ => rfl, ⟨fun _ => rfl, ⟨fun _ => rfl, ⟨fun _ => rfl, ⟨fun _ => rfl, trivial⟩⟩⟩⟩⟩⟩⟩⟩⟩) (by decide) rfl ?_
                                      refine x_goto (t := 130) hC dL_isAhead_371 (by decide) ?_
                                      refine x_sub (l' := [(0, va_rf r0), (1, .int i1), (2, .int v80), (3, .int v81), (4, .int (0 : Int32)), (6, .int (v82 + (1 : Int32)))]) [3, 4, 5, 6, 1, 0] rfl ?_
                                      have hb := bk_x h hg_130
                                      exact hb
                                    · replace h := it_t c90 h
                                      refine x_iconst (v := (1 : Int32)) hC dL_isAhead_361 (by decide) ?_
                                      refine x_goto (t := 366) hC dL_isAhead_362 (by decide) ?_
                                      refine x_istore (i := 4) (l' := [(4, .int (1 : Int32)), (9, .int v85), (0, va_rf r0), (1, .int i1), (2, .int v80), (3, .int v81), (6, .int v82), (7, .int v83), (8, .int v84)]) hC dL_isAhead_366 (⟨fun _ => rfl, ⟨fun _ => c_rf r0, ⟨fun _ => rfl, ⟨fun _ => rfl, ⟨fun _ => rfl, ⟨fun _ => rfl, ⟨fun _ => rfl, ⟨fun _ => rfl, trivial⟩⟩⟩⟩⟩⟩⟩⟩) (by decide) rfl ?_
                                      refine x_iinc (i := 6) (v := (v82 + (1 : Int32))) (l' := [(6, .int (v82 + (1 : Int32))), (4, .int (1 : Int32)), (9, .int v85), (0, va_rf r0), (1, .int i1), (2, .int v80), (3, .int v81), (7, .int v83), (8, .int v84)]) hC dL_isAhead_368 6 rfl rfl (⟨fun _ => rfl, ⟨fun _ => rfl, ⟨fun _ => c_rf r0, ⟨fun _ => rfl, ⟨fun _ => rfl, ⟨fun _ => rfl, ⟨fun _ => rfl, ⟨fun _ => rfl, ⟨fun _ => rfl, trivial⟩⟩⟩⟩⟩⟩⟩⟩⟩) (by decide) rfl ?_
                                      refine x_goto (t := 130) hC dL_isAhead_371 (by decide) ?_
                                      refine x_sub (l' := [(0, va_rf r0), (1, .int i1), (2, .int v80), (3, .int v81), (4, .int (1 : Int32)), (6, .int (v82 + (1 : Int32)))]) [3, 4, 5, 6, 1, 0] rfl ?_
                                      have hb := bk_x h hg_130
                                      exact hb
                              · replace h := it_f c87 h
                                refine x_iload (i := 7) hC dL_isAhead_260 6 rfl ?_
                                refine x_iconst (v := (4 : Int32)) hC dL_isAhead_262 (by decide) ?_
                                refine x_icmp_lt (t := 270) hC dL_isAhead_263 (by decide) (fun c91 => ?_) (fun c91 => ?_)
                                · replace h := it_t c91 h
                                  refine x_iconst (v := (0 : Int32)) hC dL_isAhead_270 (by decide) ?_
                                  refine x_sub (l' := [(0, va_rf r0), (1, .int i1), (2, .int v80), (3, .int v81), (6, .int v82), (7, .int v83), (9, .int v85)]) [1, 2, 3, 4, 5, 6, 0] rfl ?_
                                  exact J_271 _ _ _ _ _ _ _ h
                                · replace h := it_f c91 h
                                  refine x_iconst (v := (1 : Int32)) hC dL_isAhead_266 (by decide) ?_
                                  refine x_goto (t := 271) hC dL_isAhead_267 (by decide) ?_
                                  refine x_sub (l' := [(0, va_rf r0), (1, .int i1), (2, .int v80), (3, .int v81), (6, .int v82), (7, .int v83), (9, .int v85)]) [1, 2, 3, 4, 5, 6, 0] rfl ?_
                                  exact J_271 _ _ _ _ _ _ _ h
                            have J_230 : ∀ (v66 : Int32) (v67 : Int32) (v68 : Int32) (v69 : Int32) (v70 : Int32) (S71 : PH), j_L_isAhead_230 r0 i1 v66 v67 v68 v69 v70 S71 = some x_130 → PX Z 10 S71 0 0 230 [(0, va_rf r0), (1, .int i1), (2, .int v66), (3, .int v67), (6, .int v68), (7, .int v69)] [.int v70] := by
                              intro v66 v67 v68 v69 v70 S71 h
                              unfold j_L_isAhead_230 at h
                              refine x_istore (i := 8) (l' := [(8, .int v70), (0, va_rf r0), (1, .int i1), (2, .int v66), (3, .int v67), (6, .int v68), (7, .int v69)]) hC dL_isAhead_230 (⟨fun _ => c_rf r0, ⟨fun _ => rfl, ⟨fun _ => rfl, ⟨fun _ => rfl, ⟨fun _ => rfl, ⟨fun _ => rfl, trivial⟩⟩⟩⟩⟩⟩) (by decide) rfl ?_
                              refine x_aload_n (i := 0) hC dL_isAhead_232 rfl 1 rfl ?_
                              refine x_iload (i := 6) hC dL_isAhead_233 5 rfl ?_
                              refine x_bipush (v := (8 : Int32)) hC dL_isAhead_235 (by decide) ?_
                              replace h := dr_el h
                              obtain ⟨a72, ea73, ha74, h⟩ := h
                              replace h := bt_el h
                              obtain ⟨v75, S76, hb156, h⟩ | ⟨j77, S78, hb156, h⟩ := h
                              · refine x_callV hC (st := []) (mtr_X4_personOf _ _ _ _ (v75, S76) hb156) ea73 ha74 kf_4 q_506 q_507 q_508 q_1 q_509 ⟨rfl, hy_X4_personOf⟩ ⟨Nat.le_of_ble_eq_true rfl, Nat.le_of_ble_eq_true rfl⟩ ⟨Nat.le_of_ble_eq_true rfl, Nat.le_of_ble_eq_true rfl⟩ rfl (Nat.le_of_ble_eq_true rfl) dL_isAhead_237 (r_N ?_) r_NX
                                show PX Z 10 S76 0 0 240 [(8, .int v70), (0, va_rf r0), (1, .int i1), (2, .int v66), (3, .int v67), (6, .int v68), (7, .int v69)] [.int v75]
                                refine x_iload_n (i := 1) hC dL_isAhead_240 rfl 2 rfl ?_
                                refine x_ishr hC dL_isAhead_241 ?_
                                refine x_iconst (v := (1 : Int32)) hC dL_isAhead_242 (by decide) ?_
                                refine x_iand hC dL_isAhead_243 ?_
                                refine x_iconst (v := (1 : Int32)) hC dL_isAhead_244 (by decide) ?_
                                refine x_icmp_ne (t := 252) hC dL_isAhead_245 (by decide) (fun c79 => ?_) (fun c79 => ?_)
                                · replace h := it_f c79 h
                                  refine x_iconst (v := (0 : Int32)) hC dL_isAhead_252 (by decide) ?_
                                  refine x_sub (l' := [(0, va_rf r0), (1, .int i1), (2, .int v66), (3, .int v67), (6, .int v68), (7, .int v69), (8, .int v70)]) [1, 2, 3, 4, 5, 6, 0] rfl ?_
                                  exact J_253 _ _ _ _ _ _ _ h
                                · replace h := it_t c79 h
                                  refine x_iconst (v := (1 : Int32)) hC dL_isAhead_248 (by decide) ?_
                                  refine x_goto (t := 253) hC dL_isAhead_249 (by decide) ?_
                                  refine x_sub (l' := [(0, va_rf r0), (1, .int i1), (2, .int v66), (3, .int v67), (6, .int v68), (7, .int v69), (8, .int v70)]) [1, 2, 3, 4, 5, 6, 0] rfl ?_
                                  exact J_253 _ _ _ _ _ _ _ h
                              · refine x_callV hC (st := []) (mt_X4_personOf _ _ _ _ _ hb156) ea73 ha74 kf_4 q_506 q_507 q_508 q_1 q_509 ⟨rfl, hy_X4_personOf⟩ ⟨Nat.le_of_ble_eq_true rfl, Nat.le_of_ble_eq_true rfl⟩ ⟨Nat.le_of_ble_eq_true rfl, Nat.le_of_ble_eq_true rfl⟩ rfl (Nat.le_of_ble_eq_true rfl) dL_isAhead_237 r_X (r_XX ?_)
                                replace h := ir_x h hg_130
                                exact x_out hC hQ hE (z_X (Option.some.inj h)) (Nat.le_of_ble_eq_true rfl) (Nat.le_of_ble_eq_true rfl)
                            unfold st_L_isAhead_130 at h
                            refine x_iload (i := 6) hC dL_isAhead_130 5 rfl ?_
                            refine x_bipush (v := (8 : Int32)) hC dL_isAhead_132 (by decide) ?_
                            refine x_icmp_ge (t := 374) hC dL_isAhead_134 (by decide) (fun c789 => ?_) (fun c789 => ?_)
                            · replace h := it_t c789 h
                              replace h := ir_x h hg_130
                              refine x_sub (l' := [(0, va_rf r0), (1, .int i1), (2, .int v784), (4, .int v786)]) [0, 1, 2, 4] rfl ?_
                              exact J_374 _ _ _ h
                            · replace h := it_f c789 h
                              refine x_iload (i := 4) hC dL_isAhead_137 4 rfl ?_
                              refine x_if_eq (t := 374) hC dL_isAhead_139 (by decide) (fun c790 => ?_) (fun c790 => ?_)
                              · replace h := it_t c790 h
                                replace h := ir_x h hg_130
                                refine x_sub (l' := [(0, va_rf r0), (1, .int i1), (2, .int v784), (4, .int v786)]) [0, 1, 2, 4] rfl ?_
                                exact J_374 _ _ _ h
                              · replace h := it_f c790 h
                                refine x_aload_n (i := 0) hC dL_isAhead_142 rfl 0 rfl ?_
                                refine x_iload (i := 6) hC dL_isAhead_143 5 rfl ?_
                                refine x_iload_n (i := 1) hC dL_isAhead_145 rfl 1 rfl ?_
                                replace h := dr_el h
                                obtain ⟨a791, ea792, ha793, h⟩ := h
                                replace h := bt_el h
                                obtain ⟨v794, S795, hb868, h⟩ | ⟨j796, S797, hb868, h⟩ := h
                                · refine x_callV hC (st := []) (mtr_X4_whyNot _ _ _ _ (v794, S795) hb868) ea792 ha793 kf_4 q_445 q_446 q_447 q_1 q_448 ⟨rfl, hy_X4_whyNot⟩ ⟨Nat.le_of_ble_eq_true rfl, Nat.le_of_ble_eq_true rfl⟩ ⟨Nat.le_of_ble_eq_true rfl, Nat.le_of_ble_eq_true rfl⟩ rfl (Nat.le_of_ble_eq_true rfl) dL_isAhead_146 (r_N ?_) r_NX
                                  show PX Z 10 S795 0 0 149 [(0, va_rf r0), (1, .int i1), (2, .int v784), (3, .int v785), (4, .int v786), (6, .int v787)] [.int v794]
                                  refine x_istore (i := 7) (l' := [(7, .int v794), (0, va_rf r0), (1, .int i1), (2, .int v784), (3, .int v785), (4, .int v786), (6, .int v787)]) hC dL_isAhead_149 (⟨fun _ => c_rf r0, ⟨fun _ => rfl, ⟨fun _ => rfl, ⟨fun _ => rfl, ⟨fun _ => rfl, ⟨fun _ => rfl, trivial⟩⟩⟩⟩⟩⟩) (by decide) rfl ?_
                                  refine x_iload_n (i := 3) hC dL_isAhead_151 rfl 4 rfl ?_
                                  refine x_if_lt (t := 229) hC dL_isAhead_152 (by decide) (fun c798 => ?_) (fun c798 => ?_)
                                  · replace h := it_t c798 h
                                    refine x_iconst (v := (0 : Int32)) hC dL_isAhead_229 (by decide) ?_
                                    refine x_sub (l' := [(0, va_rf r0), (1, .int i1), (2, .int v784), (3, .int v785), (6, .int v787), (7, .int v794)]) [1, 2, 3, 4, 6, 0] rfl ?_
                                    exact J_230 _ _ _ _ _ _ h
                                  · replace h := it_f c798 h
                                    refine x_aload_n (i := 0) hC dL_isAhead_155 rfl 1 rfl ?_
                                    refine x_iload (i := 6) hC dL_isAhead_156 6 rfl ?_
                                    refine x_iconst (v := (3 : Int32)) hC dL_isAhead_158 (by decide) ?_
                                    replace h := dr_el h
                                    obtain ⟨a799, ea800, ha801, h⟩ := h
                                    replace h := bt_el h
                                    obtain ⟨v802, S803, hb867, h⟩ | ⟨j804, S805, hb867, h⟩ := h
                                    · refine x_callV hC (st := []) (mtr_X4_personOf _ _ _ _ (v802, S803) hb867) ea800 ha801 kf_4 q_506 q_507 q_508 q_1 q_509 ⟨rfl, hy_X4_personOf⟩ ⟨Nat.le_of_ble_eq_true rfl, Nat.le_of_ble_eq_true rfl⟩ ⟨Nat.le_of_ble_eq_true rfl, Nat.le_of_ble_eq_true rfl⟩ rfl (Nat.le_of_ble_eq_true rfl) dL_isAhead_159 (r_N ?_) r_NX
                                      show PX Z 10 S803 0 0 162 [(7, .int v794), (0, va_rf r0), (1, .int i1), (2, .int v784), (3, .int v785), (4, .int v786), (6, .int v787)] [.int v802]
                                      refine x_aload_n (i := 0) hC dL_isAhead_162 rfl 1 rfl ?_
                                      refine x_iload_n (i := 3) hC dL_isAhead_163 rfl 4 rfl ?_
                                      refine x_iconst (v := (3 : Int32)) hC dL_isAhead_164 (by decide) ?_
                                      replace h := dr_el h
                                      obtain ⟨a806, ea807, ha808, h⟩ := h
                                      replace h := bt_el h
                                      obtain ⟨v809, S810, hb866, h⟩ | ⟨j811, S812, hb866, h⟩ := h
                                      · refine x_callV hC (st := [.int v802]) (mtr_X4_personOf _ _ _ _ (v809, S810) hb866) ea807 ha808 kf_4 q_506 q_507 q_508 q_1 q_509 ⟨rfl, hy_X4_personOf⟩ ⟨Nat.le_of_ble_eq_true rfl, Nat.le_of_ble_eq_true rfl⟩ ⟨Nat.le_of_ble_eq_true rfl, Nat.le_of_ble_eq_true rfl⟩ rfl (Nat.le_of_ble_eq_true rfl) dL_isAhead_165 (r_N ?_) r_NX
                                        show PX Z 10 S810 0 0 168 [(7, .int v794), (0, va_rf r0), (1, .int i1), (2, .int v784), (3, .int v785), (4, .int v786), (6, .int v787)] [.int v809, .int v802]
                                        refine x_icmp_lt (t := 225) hC dL_isAhead_168 (by decide) (fun c813 => ?_) (fun c813 => ?_)
                                        · replace h := it_t c813 h
                                          refine x_iconst (v := (1 : Int32)) hC dL_isAhead_225 (by decide) ?_
                                          refine x_goto (t := 230) hC dL_isAhead_226 (by decide) ?_
                                          refine x_sub (l' := [(0, va_rf r0), (1, .int i1), (2, .int v784), (3, .int v785), (6, .int v787), (7, .int v794)]) [1, 2, 3, 4, 6, 0] rfl ?_
                                          exact J_230 _ _ _ _ _ _ h
                                        · replace h := it_f c813 h
                                          refine x_aload_n (i := 0) hC dL_isAhead_171 rfl 1 rfl ?_
                                          refine x_iload (i := 6) hC dL_isAhead_172 6 rfl ?_
                                          refine x_iconst (v := (3 : Int32)) hC dL_isAhead_174 (by decide) ?_
                                          replace h := dr_el h
                                          obtain ⟨a814, ea815, ha816, h⟩ := h
                                          replace h := bt_el h
                                          obtain ⟨v817, S818, hb865, h⟩ | ⟨j819, S820, hb865, h⟩ := h
                                          · refine x_callV hC (st := []) (mtr_X4_personOf _ _ _ _ (v817, S818) hb865) ea815 ha816 kf_4 q_506 q_507 q_508 q_1 q_509 ⟨rfl, hy_X4_personOf⟩ ⟨Nat.le_of_ble_eq_true rfl, Nat.le_of_ble_eq_true rfl⟩ ⟨Nat.le_of_ble_eq_true rfl, Nat.le_of_ble_eq_true rfl⟩ rfl (Nat.le_of_ble_eq_true rfl) dL_isAhead_175 (r_N ?_) r_NX
                                            show PX Z 10 S818 0 0 178 [(7, .int v794), (0, va_rf r0), (1, .int i1), (2, .int v784), (3, .int v785), (4, .int v786), (6, .int v787)] [.int v817]
                                            refine x_aload_n (i := 0) hC dL_isAhead_178 rfl 1 rfl ?_
                                            refine x_iload_n (i := 3) hC dL_isAhead_179 rfl 4 rfl ?_
                                            refine x_iconst (v := (3 : Int32)) hC dL_isAhead_180 (by decide) ?_
                                            replace h := dr_el h
                                            obtain ⟨a821, ea822, ha823, h⟩ := h
                                            replace h := bt_el h
                                            obtain ⟨v824, S825, hb864, h⟩ | ⟨j826, S827, hb864, h⟩ := h
                                            · refine x_callV hC (st := [.int v817]) (mtr_X4_personOf _ _ _ _ (v824, S825) hb864) ea822 ha823 kf_4 q_506 q_507 q_508 q_1 q_509 ⟨rfl, hy_X4_personOf⟩ ⟨Nat.le_of_ble_eq_true rfl, Nat.le_of_ble_eq_true rfl⟩ ⟨Nat.le_of_ble_eq_true rfl, Nat.le_of_ble_eq_true rfl⟩ rfl (Nat.le_of_ble_eq_true rfl) dL_isAhead_181 (r_N ?_) r_NX
                                              show PX Z 10 S825 0 0 184 [(7, .int v794), (0, va_rf r0), (1, .int i1), (2, .int v784), (3, .int v785), (4, .int v786), (6, .int v787)] [.int v824, .int v817]
                                              refine x_icmp_ne (t := 229) hC dL_isAhead_184 (by decide) (fun c828 => ?_) (fun c828 => ?_)
                                              · replace h := it_f c828 h
                                                refine x_iconst (v := (0 : Int32)) hC dL_isAhead_229 (by decide) ?_
                                                refine x_sub (l' := [(0, va_rf r0), (1, .int i1), (2, .int v784), (3, .int v785), (6, .int v787), (7, .int v794)]) [1, 2, 3, 4, 6, 0] rfl ?_
                                                exact J_230 _ _ _ _ _ _ h
                                              · replace h := it_t c828 h
                                                refine x_aload_n (i := 0) hC dL_isAhead_187 rfl 1 rfl ?_
                                                refine x_iload (i := 6) hC dL_isAhead_188 6 rfl ?_
                                                refine x_iconst (v := (0 : Int32)) hC dL_isAhead_190 (by decide) ?_
                                                replace h := dr_el h
                                                obtain ⟨a829, ea830, ha831, h⟩ := h
                                                replace h := bt_el h
                                                obtain ⟨v832, S833, hb863, h⟩ | ⟨j834, S835, hb863, h⟩ := h
                                                · refine x_callV hC (st := []) (mtr_X4_personOf _ _ _ _ (v832, S833) hb863) ea830 ha831 kf_4 q_506 q_507 q_508 q_1 q_509 ⟨rfl, hy_X4_personOf⟩ ⟨Nat.le_of_ble_eq_true rfl, Nat.le_of_ble_eq_true rfl⟩ ⟨Nat.le_of_ble_eq_true rfl, Nat.le_of_ble_eq_true rfl⟩ rfl (Nat.le_of_ble_eq_true rfl) dL_isAhead_191 (r_N ?_) r_NX
                                                  show PX Z 10 S833 0 0 194 [(7, .int v794), (0, va_rf r0), (1, .int i1), (2, .int v784), (3, .int v785), (4, .int v786), (6, .int v787)] [.int v832]
                                                  refine x_aload_n (i := 0) hC dL_isAhead_194 rfl 1 rfl ?_
                                                  refine x_iload_n (i := 3) hC dL_isAhead_195 rfl 4 rfl ?_
                                                  refine x_iconst (v := (0 : Int32)) hC dL_isAhead_196 (by decide) ?_
                                                  replace h := dr_el h
                                                  obtain ⟨a836, ea837, ha838, h⟩ := h
                                                  replace h := bt_el h
                                                  obtain ⟨v839, S840, hb862, h⟩ | ⟨j841, S842, hb862, h⟩ := h
                                                  · refine x_callV hC (st := [.int v832]) (mtr_X4_personOf _ _ _ _ (v839, S840) hb862) ea837 ha838 kf_4 q_506 q_507 q_508 q_1 q_509 ⟨rfl, hy_X4_personOf⟩ ⟨Nat.le_of_ble_eq_true rfl, Nat.le_of_ble_eq_true rfl⟩ ⟨Nat.le_of_ble_eq_true rfl, Nat.le_of_ble_eq_true rfl⟩ rfl (Nat.le_of_ble_eq_true rfl) dL_isAhead_197 (r_N ?_) r_NX
                                                    show PX Z 10 S840 0 0 200 [(7, .int v794), (0, va_rf r0), (1, .int i1), (2, .int v784), (3, .int v785), (4, .int v786), (6, .int v787)] [.int v839, .int v832]
                                                    refine x_icmp_gt (t := 225) hC dL_isAhead_200 (by decide) (fun c843 => ?_) (fun c843 => ?_)
                                                    · replace h := it_t c843 h
                                                      refine x_iconst (v := (1 : Int32)) hC dL_isAhead_225 (by decide) ?_
                                                      refine x_goto (t := 230) hC dL_isAhead_226 (by decide) ?_
                                                      refine x_sub (l' := [(0, va_rf r0), (1, .int i1), (2, .int v784), (3, .int v785), (6, .int v787), (7, .int v794)]) [1, 2, 3, 4, 6, 0] rfl ?_
                                                      exact J_230 _ _ _ _ _ _ h
                                                    · replace h := it_f c843 h
                                                      refine x_aload_n (i := 0) hC dL_isAhead_203 rfl 1 rfl ?_
                                                      refine x_iload (i := 6) hC dL_isAhead_204 6 rfl ?_
                                                      refine x_iconst (v := (0 : Int32)) hC dL_isAhead_206 (by decide) ?_
                                                      replace h := dr_el h
                                                      obtain ⟨a844, ea845, ha846, h⟩ := h
                                                      replace h := bt_el h
                                                      obtain ⟨v847, S848, hb861, h⟩ | ⟨j849, S850, hb861, h⟩ := h
                                                      · refine x_callV hC (st := []) (mtr_X4_personOf _ _ _ _ (v847, S848) hb861) ea845 ha846 kf_4 q_506 q_507 q_508 q_1 q_509 ⟨rfl, hy_X4_personOf⟩ ⟨Nat.le_of_ble_eq_true rfl, Nat.le_of_ble_eq_true rfl⟩ ⟨Nat.le_of_ble_eq_true rfl, Nat.le_of_ble_eq_true rfl⟩ rfl (Nat.le_of_ble_eq_true rfl) dL_isAhead_207 (r_N ?_) r_NX
                                                        show PX Z 10 S848 0 0 210 [(7, .int v794), (0, va_rf r0), (1, .int i1), (2, .int v784), (3, .int v785), (4, .int v786), (6, .int v787)] [.int v847]
                                                        refine x_aload_n (i := 0) hC dL_isAhead_210 rfl 1 rfl ?_
                                                        refine x_iload_n (i := 3) hC dL_isAhead_211 rfl 4 rfl ?_
                                                        refine x_iconst (v := (0 : Int32)) hC dL_isAhead_212 (by decide) ?_
                                                        replace h := dr_el h
                                                        obtain ⟨a851, ea852, ha853, h⟩ := h
                                                        replace h := bt_el h
                                                        obtain ⟨v854, S855, hb860, h⟩ | ⟨j856, S857, hb860, h⟩ := h
                                                        · refine x_callV hC (st := [.int v847]) (mtr_X4_personOf _ _ _ _ (v854, S855) hb860) ea852 ha853 kf_4 q_506 q_507 q_508 q_1 q_509 ⟨rfl, hy_X4_personOf⟩ ⟨Nat.le_of_ble_eq_true rfl, Nat.le_of_ble_eq_true rfl⟩ ⟨Nat.le_of_ble_eq_true rfl, Nat.le_of_ble_eq_true rfl⟩ rfl (Nat.le_of_ble_eq_true rfl) dL_isAhead_213 (r_N ?_) r_NX
                                                          show PX Z 10 S855 0 0 216 [(7, .int v794), (0, va_rf r0), (1, .int i1), (2, .int v784), (3, .int v785), (4, .int v786), (6, .int v787)] [.int v854, .int v847]
                                                          refine x_icmp_ne (t := 229) hC dL_isAhead_216 (by decide) (fun c858 => ?_) (fun c858 => ?_)
                                                          · replace h := it_f c858 h
                                                            refine x_iconst (v := (0 : Int32)) hC dL_isAhead_229 (by decide) ?_
                                                            refine x_sub (l' := [(0, va_rf r0), (1, .int i1), (2, .int v784), (3, .int v785), (6, .int v787), (7, .int v794)]) [1, 2, 3, 4, 6, 0] rfl ?_
                                                            exact J_230 _ _ _ _ _ _ h
                                                          · replace h := it_t c858 h
                                                            refine x_iload (i := 6) hC dL_isAhead_219 6 rfl ?_
                                                            refine x_iload_n (i := 3) hC dL_isAhead_221 rfl 4 rfl ?_
                                                            refine x_icmp_ge (t := 229) hC dL_isAhead_222 (by decide) (fun c859 => ?_) (fun c859 => ?_)
                                                            · replace h := it_t c859 h
                                                              refine x_iconst (v := (0 : Int32)) hC dL_isAhead_229 (by decide) ?_
                                                              refine x_sub (l' := [(0, va_rf r0), (1, .int i1), (2, .int v784), (3, .int v785), (6, .int v787), (7, .int v794)]) [1, 2, 3, 4, 6, 0] rfl ?_
                                                              exact J_230 _ _ _ _ _ _ h
                                                            · replace h := it_f c859 h
                                                              refine x_iconst (v := (1 : Int32)) hC dL_isAhead_225 (by decide) ?_
                                                              refine x_goto (t := 230) hC dL_isAhead_226 (by decide) ?_
                                                              refine x_sub (l' := [(0, va_rf r0), (1, .int i1), (2, .int v784), (3, .int v785), (6, .int v787), (7, .int v794)]) [1, 2, 3, 4, 6, 0] rfl ?_
                                                              exact J_230 _ _ _ _ _ _ h
                                                        · refine x_callV hC (st := [.int v847]) (mt_X4_personOf _ _ _ _ _ hb860) ea852 ha853 kf_4 q_506 q_507 q_508 q_1 q_509 ⟨rfl, hy_X4_personOf⟩ ⟨Nat.le_of_ble_eq_true rfl, Nat.le_of_ble_eq_true rfl⟩ ⟨Nat.le_of_ble_eq_true rfl, Nat.le_of_ble_eq_true rfl⟩ rfl (Nat.le_of_ble_eq_true rfl) dL_isAhead_213 r_X (r_XX ?_)
                                                          replace h := ir_x h hg_130
                                                          exact x_out hC hQ hE (z_X (Option.some.inj h)) (Nat.le_of_ble_eq_true rfl) (Nat.le_of_ble_eq_true rfl)
                                                      · refine x_callV hC (st := []) (mt_X4_personOf _ _ _ _ _ hb861) ea845 ha846 kf_4 q_506 q_507 q_508 q_1 q_509 ⟨rfl, hy_X4_personOf⟩ ⟨Nat.le_of_ble_eq_true rfl, Nat.le_of_ble_eq_true rfl⟩ ⟨Nat.le_of_ble_eq_true rfl, Nat.le_of_ble_eq_true rfl⟩ rfl (Nat.le_of_ble_eq_true rfl) dL_isAhead_207 r_X (r_XX ?_)
                                                        replace h := ir_x h hg_130
                                                        exact x_out hC hQ hE (z_X (Option.some.inj h)) (Nat.le_of_ble_eq_true rfl) (Nat.le_of_ble_eq_true rfl)
                                                  · refine x_callV hC (st := [.int v832]) (mt_X4_personOf _ _ _ _ _ hb862) ea837 ha838 kf_4 q_506 q_507 q_508 q_1 q_509 ⟨rfl, hy_X4_personOf⟩ ⟨Nat.le_of_ble_eq_true rfl, Nat.le_of_ble_eq_true rfl⟩ ⟨Nat.le_of_ble_eq_true rfl, Nat.le_of_ble_eq_true rfl⟩ rfl (Nat.le_of_ble_eq_true rfl) dL_isAhead_197 r_X (r_XX ?_)
                                                    replace h := ir_x h hg_130
                                                    exact x_out hC hQ hE (z_X (Option.some.inj h)) (Nat.le_of_ble_eq_true rfl) (Nat.le_of_ble_eq_true rfl)
                                                · refine x_callV hC (st := []) (mt_X4_personOf _ _ _ _ _ hb863) ea830 ha831 kf_4 q_506 q_507 q_508 q_1 q_509 ⟨rfl, hy_X4_personOf⟩ ⟨Nat.le_of_ble_eq_true rfl, Nat.le_of_ble_eq_true rfl⟩ ⟨Nat.le_of_ble_eq_true rfl, Nat.le_of_ble_eq_true rfl⟩ rfl (Nat.le_of_ble_eq_true rfl) dL_isAhead_191 r_X (r_XX ?_)
                                                  replace h := ir_x h hg_130
                                                  exact x_out hC hQ hE (z_X (Option.some.inj h)) (Nat.le_of_ble_eq_true rfl) (Nat.le_of_ble_eq_true rfl)
                                            · refine x_callV hC (st := [.int v817]) (mt_X4_personOf _ _ _ _ _ hb864) ea822 ha823 kf_4 q_506 q_507 q_508 q_1 q_509 ⟨rfl, hy_X4_personOf⟩ ⟨Nat.le_of_ble_eq_true rfl, Nat.le_of_ble_eq_true rfl⟩ ⟨Nat.le_of_ble_eq_true rfl, Nat.le_of_ble_eq_true rfl⟩ rfl (Nat.le_of_ble_eq_true rfl) dL_isAhead_181 r_X (r_XX ?_)
                                              replace h := ir_x h hg_130
                                              exact x_out hC hQ hE (z_X (Option.some.inj h)) (Nat.le_of_ble_eq_true rfl) (Nat.le_of_ble_eq_true rfl)
                                          · refine x_callV hC (st := []) (mt_X4_personOf _ _ _ _ _ hb865) ea815 ha816 kf_4 q_506 q_507 q_508 q_1 q_509 ⟨rfl, hy_X4_personOf⟩ ⟨Nat.le_of_ble_eq_true rfl, Nat.le_of_ble_eq_true rfl⟩ ⟨Nat.le_of_ble_eq_true rfl, Nat.le_of_ble_eq_true rfl⟩ rfl (Nat.le_of_ble_eq_true rfl) dL_isAhead_175 r_X (r_XX ?_)
                                            replace h := ir_x h hg_130
                                            exact x_out hC hQ hE (z_X (Option.some.inj h)) (Nat.le_of_ble_eq_true rfl) (Nat.le_of_ble_eq_true rfl)
                                      · refine x_callV hC (st := [.int v802]) (mt_X4_personOf _ _ _ _ _ hb866) ea807 ha808 kf_4 q_506 q_507 q_508 q_1 q_509 ⟨rfl, hy_X4_personOf⟩ ⟨Nat.le_of_ble_eq_true rfl, Nat.le_of_ble_eq_true rfl⟩ ⟨Nat.le_of_ble_eq_true rfl, Nat.le_of_ble_eq_true rfl⟩ rfl (Nat.le_of_ble_eq_true rfl) dL_isAhead_165 r_X (r_XX ?_)
                                        replace h := ir_x h hg_130
                                        exact x_out hC hQ hE (z_X (Option.some.inj h)) (Nat.le_of_ble_eq_true rfl) (Nat.le_of_ble_eq_true rfl)
                                    · refine x_callV hC (st := []) (mt_X4_personOf _ _ _ _ _ hb867) ea800 ha801 kf_4 q_506 q_507 q_508 q_1 q_509 ⟨rfl, hy_X4_personOf⟩ ⟨Nat.le_of_ble_eq_true rfl, Nat.le_of_ble_eq_true rfl⟩ ⟨Nat.le_of_ble_eq_true rfl, Nat.le_of_ble_eq_true rfl⟩ rfl (Nat.le_of_ble_eq_true rfl) dL_isAhead_159 r_X (r_XX ?_)
                                      replace h := ir_x h hg_130
                                      exact x_out hC hQ hE (z_X (Option.some.inj h)) (Nat.le_of_ble_eq_true rfl) (Nat.le_of_ble_eq_true rfl)
                                · refine x_callV hC (st := []) (mt_X4_whyNot _ _ _ _ _ hb868) ea792 ha793 kf_4 q_445 q_446 q_447 q_1 q_448 ⟨rfl, hy_X4_whyNot⟩ ⟨Nat.le_of_ble_eq_true rfl, Nat.le_of_ble_eq_true rfl⟩ ⟨Nat.le_of_ble_eq_true rfl, Nat.le_of_ble_eq_true rfl⟩ rfl (Nat.le_of_ble_eq_true rfl) dL_isAhead_146 r_X (r_XX ?_)
                                  replace h := ir_x h hg_130
                                  exact x_out hC hQ hE (z_X (Option.some.inj h)) (Nat.le_of_ble_eq_true rfl) (Nat.le_of_ble_eq_true rfl)
                          · replace h := it_f c783 h
                            refine x_iload (i := 5) hC dL_isAhead_106 5 rfl ?_
                            refine x_iload_n (i := 2) hC dL_isAhead_108 rfl 2 rfl ?_
                            refine x_if_le (t := 116) hC dL_isAhead_109 (by decide) (fun c869 => ?_) (fun c869 => ?_)
                            · replace h := it_t c869 h
                              refine x_iconst (v := (0 : Int32)) hC dL_isAhead_116 (by decide) ?_
                              refine x_sub (l' := [(0, va_rf r0), (1, .int i1), (2, .int v769), (3, .int v770)]) [0, 1, 2, 3] rfl ?_
                              exact J_117 _ _ _ _ _ h
                            · replace h := it_f c869 h
                              refine x_iconst (v := (1 : Int32)) hC dL_isAhead_112 (by decide) ?_
                              refine x_goto (t := 117) hC dL_isAhead_113 (by decide) ?_
                              refine x_sub (l' := [(0, va_rf r0), (1, .int i1), (2, .int v769), (3, .int v770)]) [0, 1, 2, 3] rfl ?_
                              exact J_117 _ _ _ _ _ h
                        · replace h := it_f c782 h
                          refine x_iload (i := 5) hC dL_isAhead_73 5 rfl ?_
                          refine x_if_ne (t := 88) hC dL_isAhead_75 (by decide) (fun c870 => ?_) (fun c870 => ?_)
                          · replace h := it_f c870 h
                            refine x_iconst (v := (1 : Int32)) hC dL_isAhead_88 (by decide) ?_
                            refine x_goto (t := 93) hC dL_isAhead_89 (by decide) ?_
                            refine x_istore (i := 5) (l' := [(5, .int (1 : Int32)), (0, va_rf r0), (1, .int i1), (2, .int v769), (3, .int v770), (4, .int v771), (6, .int v773)]) hC dL_isAhead_93 (⟨fun _ => c_rf r0, ⟨fun _ => rfl, ⟨fun _ => rfl, ⟨fun _ => rfl, ⟨fun _ => rfl, ⟨fun _ => rfl, ⟨fun _ => rfl, trivial⟩⟩⟩⟩⟩⟩⟩) (by decide) rfl ?_
                            refine x_iinc (i := 6) (v := (v773 + (1 : Int32))) (l' := [(6, .int (v773 + (1 : Int32))), (5, .int (1 : Int32)), (0, va_rf r0), (1, .int i1), (2, .int v769), (3, .int v770), (4, .int v771)]) hC dL_isAhead_95 6 rfl rfl (⟨fun _ => rfl, ⟨fun _ => c_rf r0, ⟨fun _ => rfl, ⟨fun _ => rfl, ⟨fun _ => rfl, ⟨fun _ => rfl, ⟨fun _ => rfl, trivial⟩⟩⟩⟩⟩⟩⟩) (by decide) rfl ?_
                            refine x_goto (t := 63) hC dL_isAhead_98 (by decide) ?_
                            refine x_sub (l' := [(0, va_rf r0), (1, .int i1), (2, .int v769), (3, .int v770), (4, .int v771), (5, .int (1 : Int32)), (6, .int (v773 + (1 : Int32)))]) [2, 3, 4, 5, 6, 1, 0] rfl ?_
                            have hb := bk_x h hg_63
                            exact hb
                          · replace h := it_t c870 h
                            refine x_aload_n (i := 0) hC dL_isAhead_78 rfl 0 rfl ?_
                            refine x_iload (i := 6) hC dL_isAhead_79 6 rfl ?_
                            replace h := dr_el h
                            obtain ⟨a871, ea872, ha873, h⟩ := h
                            replace h := bt_el h
                            obtain ⟨v874, S875, hb879, h⟩ | ⟨j876, S877, hb879, h⟩ := h
                            · refine x_callV hC (st := []) (mtr_X4_bestReviewer _ _ _ (v874, S875) hb879) ea872 ha873 kf_4 q_688 q_689 q_690 q_1 q_691 ⟨rfl, hy_X4_bestReviewer⟩ ⟨Nat.le_of_ble_eq_true rfl, Nat.le_of_ble_eq_true rfl⟩ ⟨Nat.le_of_ble_eq_true rfl, Nat.le_of_ble_eq_true rfl⟩ rfl (Nat.le_of_ble_eq_true rfl) dL_isAhead_81 (r_N ?_) r_NX
                              show PX Z 10 S875 0 0 84 [(0, va_rf r0), (1, .int i1), (2, .int v769), (3, .int v770), (4, .int v771), (5, .int v772), (6, .int v773)] [.int v874]
                              refine x_iconst (v := (-1 : Int32)) hC dL_isAhead_84 (by decide) ?_
                              refine x_icmp_eq (t := 92) hC dL_isAhead_85 (by decide) (fun c878 => ?_) (fun c878 => ?_)
                              · replace h := it_t c878 h
                                refine x_iconst (v := (0 : Int32)) hC dL_isAhead_92 (by decide) ?_
                                refine x_istore (i := 5) (l' := [(5, .int (0 : Int32)), (0, va_rf r0), (1, .int i1), (2, .int v769), (3, .int v770), (4, .int v771), (6, .int v773)]) hC dL_isAhead_93 (⟨fun _ => c_rf r0, ⟨fun _ => rfl, ⟨fun _ => rfl, ⟨fun _ => rfl, ⟨fun _ => rfl, ⟨fun _ => rfl, ⟨fun _ => rfl, trivial⟩⟩⟩⟩⟩⟩⟩) (by decide) rfl ?_
                                refine x_iinc (i := 6) (v := (v773 + (1 : Int32))) (l' := [(6, .int (v773 + (1 : Int32))), (5, .int (0 : Int32)), (0, va_rf r0), (1, .int i1), (2, .int v769), (3, .int v770), (4, .int v771)]) hC dL_isAhead_95 6 rfl rfl (⟨fun _ => rfl, ⟨fun _ => c_rf r0, ⟨fun _ => rfl, ⟨fun _ => rfl, ⟨fun _ => rfl, ⟨fun _ => rfl, ⟨fun _ => rfl, trivial⟩⟩⟩⟩⟩⟩⟩) (by decide) rfl ?_
                                refine x_goto (t := 63) hC dL_isAhead_98 (by decide) ?_
                                refine x_sub (l' := [(0, va_rf r0), (1, .int i1), (2, .int v769), (3, .int v770), (4, .int v771), (5, .int (0 : Int32)), (6, .int (v773 + (1 : Int32)))]) [2, 3, 4, 5, 6, 1, 0] rfl ?_
                                have hb := bk_x h hg_63
                                exact hb
                              · replace h := it_f c878 h
                                refine x_iconst (v := (1 : Int32)) hC dL_isAhead_88 (by decide) ?_
                                refine x_goto (t := 93) hC dL_isAhead_89 (by decide) ?_
                                refine x_istore (i := 5) (l' := [(5, .int (1 : Int32)), (0, va_rf r0), (1, .int i1), (2, .int v769), (3, .int v770), (4, .int v771), (6, .int v773)]) hC dL_isAhead_93 (⟨fun _ => c_rf r0, ⟨fun _ => rfl, ⟨fun _ => rfl, ⟨fun _ => rfl, ⟨fun _ => rfl, ⟨fun _ => rfl, ⟨fun _ => rfl, trivial⟩⟩⟩⟩⟩⟩⟩) (by decide) rfl ?_
                                refine x_iinc (i := 6) (v := (v773 + (1 : Int32))) (l' := [(6, .int (v773 + (1 : Int32))), (5, .int (1 : Int32)), (0, va_rf r0), (1, .int i1), (2, .int v769), (3, .int v770), (4, .int v771)]) hC dL_isAhead_95 6 rfl rfl (⟨fun _ => rfl, ⟨fun _ => c_rf r0, ⟨fun _ => rfl, ⟨fun _ => rfl, ⟨fun _ => rfl, ⟨fun _ => rfl, ⟨fun _ => rfl, trivial⟩⟩⟩⟩⟩⟩⟩) (by decide) rfl ?_
                                refine x_goto (t := 63) hC dL_isAhead_98 (by decide) ?_
                                refine x_sub (l' := [(0, va_rf r0), (1, .int i1), (2, .int v769), (3, .int v770), (4, .int v771), (5, .int (1 : Int32)), (6, .int (v773 + (1 : Int32)))]) [2, 3, 4, 5, 6, 1, 0] rfl ?_
                                have hb := bk_x h hg_63
                                exact hb
                            · refine x_callV hC (st := []) (mt_X4_bestReviewer _ _ _ _ hb879) ea872 ha873 kf_4 q_688 q_689 q_690 q_1 q_691 ⟨rfl, hy_X4_bestReviewer⟩ ⟨Nat.le_of_ble_eq_true rfl, Nat.le_of_ble_eq_true rfl⟩ ⟨Nat.le_of_ble_eq_true rfl, Nat.le_of_ble_eq_true rfl⟩ rfl (Nat.le_of_ble_eq_true rfl) dL_isAhead_81 r_X (r_XX ?_)
                              replace h := ir_x h hg_63
                              exact x_out hC hQ hE (z_X (Option.some.inj h)) (Nat.le_of_ble_eq_true rfl) (Nat.le_of_ble_eq_true rfl)
                      · refine x_callV hC (st := [.int v773]) (mt_X4_count _ _ _ _ hb880) ea776 ha777 kf_4 q_406 q_407 q_408 q_1 q_409 ⟨rfl, hy_X4_count⟩ ⟨Nat.le_of_ble_eq_true rfl, Nat.le_of_ble_eq_true rfl⟩ ⟨Nat.le_of_ble_eq_true rfl, Nat.le_of_ble_eq_true rfl⟩ rfl (Nat.le_of_ble_eq_true rfl) dL_isAhead_67 r_X (r_XX ?_)
                        replace h := ir_x h hg_63
                        exact x_out hC hQ hE (z_X (Option.some.inj h)) (Nat.le_of_ble_eq_true rfl) (Nat.le_of_ble_eq_true rfl)
                    · replace h := it_t c768 h
                      refine x_iconst (v := (1 : Int32)) hC dL_isAhead_50 (by decide) ?_
                      refine x_goto (t := 55) hC dL_isAhead_51 (by decide) ?_
                      refine x_istore (i := 4) (l' := [(4, .int (1 : Int32)), (3, .int v11), (2, .int v4), (0, va_rf r0), (1, .int i1)]) hC dL_isAhead_55 (⟨fun _ => rfl, ⟨fun _ => rfl, ⟨fun _ => c_rf r0, ⟨fun _ => rfl, trivial⟩⟩⟩⟩) (by decide) rfl ?_
                      refine x_iconst (v := (0 : Int32)) hC dL_isAhead_57 (by decide) ?_
                      refine x_istore (i := 5) (l' := [(5, .int (0 : Int32)), (4, .int (1 : Int32)), (3, .int v11), (2, .int v4), (0, va_rf r0), (1, .int i1)]) hC dL_isAhead_58 (⟨fun _ => rfl, ⟨fun _ => rfl, ⟨fun _ => rfl, ⟨fun _ => c_rf r0, ⟨fun _ => rfl, trivial⟩⟩⟩⟩⟩) (by decide) rfl ?_
                      refine x_iconst (v := (0 : Int32)) hC dL_isAhead_60 (by decide) ?_
                      refine x_istore (i := 6) (l' := [(6, .int (0 : Int32)), (5, .int (0 : Int32)), (4, .int (1 : Int32)), (3, .int v11), (2, .int v4), (0, va_rf r0), (1, .int i1)]) hC dL_isAhead_61 (⟨fun _ => rfl, ⟨fun _ => rfl, ⟨fun _ => rfl, ⟨fun _ => rfl, ⟨fun _ => c_rf r0, ⟨fun _ => rfl, trivial⟩⟩⟩⟩⟩⟩) (by decide) rfl ?_
                      refine x_sub (l' := [(0, va_rf r0), (1, .int i1), (2, .int v4), (3, .int v11), (4, .int (1 : Int32)), (5, .int (0 : Int32)), (6, .int (0 : Int32))]) [5, 6, 4, 3, 2, 1, 0] rfl ?_
                      refine lp_sim (P := fun (t : (Int32 × Int32 × Int32 × Int32 × Int32 × PH)) => PX Z 10 t.2.2.2.2.2 0 0 63 [(0, va_rf r0), (1, .int i1), (2, .int t.1), (3, .int t.2.1), (4, .int t.2.2.1), (5, .int t.2.2.2.1), (6, .int t.2.2.2.2.1)] []) (G := fun r => r = y) ?_ h rfl
                      clear h
                      intro t x_63 h hg_63
                      obtain ⟨v881, v882, v883, v884, v885, S886⟩ := t
                      show PX Z 10 S886 0 0 63 [(0, va_rf r0), (1, .int i1), (2, .int v881), (3, .int v882), (4, .int v883), (5, .int v884), (6, .int v885)] []
                      unfold st_L_isAhead_63 at h
                      refine x_iload (i := 6) hC dL_isAhead_63 6 rfl ?_
                      refine x_aload_n (i := 0) hC dL_isAhead_65 rfl 0 rfl ?_
                      refine x_iconst (v := (0 : Int32)) hC dL_isAhead_66 (by decide) ?_
                      replace h := dr_el h
                      obtain ⟨a887, ea888, ha889, h⟩ := h
                      replace h := bt_el h
                      obtain ⟨v890, S891, hb992, h⟩ | ⟨j892, S893, hb992, h⟩ := h
                      · refine x_callV hC (st := [.int v885]) (mtr_X4_count _ _ _ (v890, S891) hb992) ea888 ha889 kf_4 q_406 q_407 q_408 q_1 q_409 ⟨rfl, hy_X4_count⟩ ⟨Nat.le_of_ble_eq_true rfl, Nat.le_of_ble_eq_true rfl⟩ ⟨Nat.le_of_ble_eq_true rfl, Nat.le_of_ble_eq_true rfl⟩ rfl (Nat.le_of_ble_eq_true rfl) dL_isAhead_67 (r_N ?_) r_NX
                        show PX Z 10 S891 0 0 70 [(0, va_rf r0), (1, .int i1), (2, .int v881), (3, .int v882), (4, .int v883), (5, .int v884), (6, .int v885)] [.int v890, .int v885]
                        refine x_icmp_ge (t := 101) hC dL_isAhead_70 (by decide) (fun c894 => ?_) (fun c894 => ?_)
                        · replace h := it_t c894 h
                          replace h := ir_x h hg_63
                          refine x_iload (i := 4) hC dL_isAhead_101 4 rfl ?_
                          refine x_if_eq (t := 124) hC dL_isAhead_103 (by decide) (fun c895 => ?_) (fun c895 => ?_)
                          · replace h := it_t c895 h
                            refine x_iconst (v := (0 : Int32)) hC dL_isAhead_124 (by decide) ?_
                            refine x_istore (i := 4) (l' := [(4, .int (0 : Int32)), (0, va_rf r0), (1, .int i1), (2, .int v881), (3, .int v882), (5, .int v884), (6, .int v885)]) hC dL_isAhead_125 (⟨fun _ => c_rf r0, ⟨fun _ => rfl, ⟨fun _ => rfl, ⟨fun _ => rfl, ⟨fun _ => rfl, ⟨fun _ => rfl, ⟨fun _ => rfl, trivial⟩⟩⟩⟩⟩⟩⟩) (by decide) rfl ?_
                            refine x_iconst (v := (0 : Int32)) hC dL_isAhead_127 (by decide) ?_
                            refine x_istore (i := 6) (l' := [(6, .int (0 : Int32)), (4, .int (0 : Int32)), (0, va_rf r0), (1, .int i1), (2, .int v881), (3, .int v882), (5, .int v884)]) hC dL_isAhead_128 (⟨fun _ => rfl, ⟨fun _ => c_rf r0, ⟨fun _ => rfl, ⟨fun _ => rfl, ⟨fun _ => rfl, ⟨fun _ => rfl, ⟨fun _ => rfl, trivial⟩⟩⟩⟩⟩⟩⟩) (by decide) rfl ?_
                            refine x_sub (l' := [(0, va_rf r0), (1, .int i1), (2, .int v881), (3, .int v882), (4, .int (0 : Int32)), (6, .int (0 : Int32))]) [2, 3, 4, 5, 1, 0] rfl ?_
                            refine lp_sim (P := fun (t : (Int32 × Int32 × Int32 × Int32 × PH)) => PX Z 10 t.2.2.2.2 0 0 130 [(0, va_rf r0), (1, .int i1), (2, .int t.1), (3, .int t.2.1), (4, .int t.2.2.1), (6, .int t.2.2.2.1)] []) (G := fun r => r = y) ?_ h rfl
                            clear h
                            intro t x_130 h hg_130
                            obtain ⟨v896, v897, v898, v899, S900⟩ := t
                            show PX Z 10 S900 0 0 130 [(0, va_rf r0), (1, .int i1), (2, .int v896), (3, .int v897), (4, .int v898), (6, .int v899)] []
                            have J_328 : ∀ (v117 : Int32) (v118 : Int32) (v119 : Int32) (v120 : Int32) (v121 : Int32) (S122 : PH), j_L_isAhead_328 r0 i1 v117 v118 v119 v120 v121 S122 = some x_130 → PX Z 10 S122 0 0 328 [(0, va_rf r0), (1, .int i1), (2, .int v117), (3, .int v118), (6, .int v119), (7, .int v120), (9, .int v121)] [] := by
                              intro v117 v118 v119 v120 v121 S122 h
                              unfold j_L_isAhead_328 at h
                              refine x_iload (i := 7) hC dL_isAhead_328 5 rfl ?_
                              refine x_iconst (v := (5 : Int32)) hC dL_isAhead_330 (by decide) ?_
                              refine x_icmp_lt (t := 339) hC dL_isAhead_331 (by decide) (fun c123 => ?_) (fun c123 => ?_)
                              · replace h := it_t c123 h
                                refine x_iconst (v := (1 : Int32)) hC dL_isAhead_339 (by decide) ?_
                                refine x_goto (t := 366) hC dL_isAhead_340 (by decide) ?_
                                refine x_istore (i := 4) (l' := [(4, .int (1 : Int32)), (0, va_rf r0), (1, .int i1), (2, .int v117), (3, .int v118), (6, .int v119), (7, .int v120), (9, .int v121)]) hC dL_isAhead_366 (⟨fun _ => c_rf r0, ⟨fun _ => rfl, ⟨fun _ => rfl, ⟨fun _ => rfl, ⟨fun _ => rfl, ⟨fun _ => rfl, ⟨fun _ => rfl, trivial⟩⟩⟩⟩⟩⟩⟩) (by decide) rfl ?_
                                refine x_iinc (i := 6) (v := (v119 + (1 : Int32))) (l' := [(6, .int (v119 + (1 : Int32))), (4, .int (1 : Int32)), (0, va_rf r0), (1, .int i1), (2, .int v117), (3, .int v118), (7, .int v120), (9, .int v121)]) hC dL_isAhead_368 5 rfl rfl (⟨fun _ => rfl, ⟨fun _ => c_rf r0, ⟨fun _ => rfl, ⟨fun _ => rfl, ⟨fun _ => rfl, ⟨fun _ => rfl, ⟨fun _ => rfl, ⟨fun _ => rfl, trivial⟩⟩⟩⟩⟩⟩⟩⟩) (by decide) rfl ?_
                                refine x_goto (t := 130) hC dL_isAhead_371 (by decide) ?_
                                refine x_sub (l' := [(0, va_rf r0), (1, .int i1), (2, .int v117), (3, .int v118), (4, .int (1 : Int32)), (6, .int (v119 + (1 : Int32)))]) [2, 3, 4, 5, 1, 0] rfl ?_
                                have hb := bk_x h hg_130
                                exact hb
                              · replace h := it_f c123 h
                                refine x_iload (i := 9) hC dL_isAhead_334 6 rfl ?_
                                refine x_if_ne (t := 343) hC dL_isAhead_336 (by decide) (fun c124 => ?_) (fun c124 => ?_)
                                · replace h := it_f c124 h
                                  refine x_iconst (v := (0 : Int32)) hC dL_isAhead_343 (by decide) ?_
                                  refine x_goto (t := 366) hC dL_isAhead_344 (by decide) ?_
                                  refine x_istore (i := 4) (l' := [(4, .int (0 : Int32)), (0, va_rf r0), (1, .int i1), (2, .int v117), (3, .int v118), (6, .int v119), (7, .int v120), (9, .int v121)]) hC dL_isAhead_366 (⟨fun _ => c_rf r0, ⟨fun _ => rfl, ⟨fun _ => rfl, ⟨fun _ => rfl, ⟨fun _ => rfl, ⟨fun _ => rfl, ⟨fun _ => rfl, trivial⟩⟩⟩⟩⟩⟩⟩) (by decide) rfl ?_
                                  refine x_iinc (i := 6) (v := (v119 + (1 : Int32))) (l' := [(6, .int (v119 + (1 : Int32))), (4, .int (0 : Int32)), (0, va_rf r0), (1, .int i1), (2, .int v117), (3, .int v118), (7, .int v120), (9, .int v121)]) hC dL_isAhead_368 5 rfl rfl (⟨fun _ => rfl, ⟨fun _ => c_rf r0, ⟨fun _ => rfl, ⟨fun _ => rfl, ⟨fun _ => rfl, ⟨fun _ => rfl, ⟨fun _ => rfl, ⟨fun _ => rfl, trivial⟩⟩⟩⟩⟩⟩⟩⟩) (by decide) rfl ?_
                                  refine x_goto (t := 130) hC dL_isAhead_371 (by decide) ?_
                                  refine x_sub (l' := [(0, va_rf r0), (1, .int i1), (2, .int v117), (3, .int v118), (4, .int (0 : Int32)), (6, .int (v119 + (1 : Int32)))]) [2, 3, 4, 5, 1, 0] rfl ?_
                                  have hb := bk_x h hg_130
                                  exact hb
                                · replace h := it_t c124 h
                                  refine x_iconst (v := (1 : Int32)) hC dL_isAhead_339 (by decide) ?_
                                  refine x_goto (t := 366) hC dL_isAhead_340 (by decide) ?_
                                  refine x_istore (i := 4) (l' := [(4, .int (1 : Int32)), (0, va_rf r0), (1, .int i1), (2, .int v117), (3, .int v118), (6, .int v119), (7, .int v120), (9, .int v121)]) hC dL_isAhead_366 (⟨fun _ => c_rf r0, ⟨fun _ => rfl, ⟨fun _ => rfl, ⟨fun _ => rfl, ⟨fun _ => rfl, ⟨fun _ => rfl, ⟨fun _ => rfl, trivial⟩⟩⟩⟩⟩⟩⟩) (by decide) rfl ?_
                                  refine x_iinc (i := 6) (v := (v119 + (1 : Int32))) (l' := [(6, .int (v119 + (1 : Int32))), (4, .int (1 : Int32)), (0, va_rf r0), (1, .int i1), (2, .int v117), (3, .int v118), (7, .int v120), (9, .int v121)]) hC dL_isAhead_368 5 rfl rfl (⟨fun _ => rfl, ⟨fun _ => c_rf r0, ⟨fun _ => rfl, ⟨fun _ => rfl, ⟨fun _ => rfl, ⟨fun _ => rfl, ⟨fun _ => rfl, ⟨fun _ => rfl, trivial⟩⟩⟩⟩⟩⟩⟩⟩) (by decide) rfl ?_
                                  refine x_goto (t := 130) hC dL_isAhead_371 (by decide) ?_
                                  refine x_sub (l' := [(0, va_rf r0), (1, .int i1), (2, .int v117), (3, .int v118), (4, .int (1 : Int32)), (6, .int (v119 + (1 : Int32)))]) [2, 3, 4, 5, 1, 0] rfl ?_
                                  have hb := bk_x h hg_130
                                  exact hb
                            have J_314 : ∀ (v107 : Int32) (v108 : Int32) (v109 : Int32) (v110 : Int32) (v111 : Int32) (v112 : Int32) (v113 : Int32) (S114 : PH), j_L_isAhead_314 r0 i1 v107 v108 v109 v110 v111 v112 v113 S114 = some x_130 → PX Z 10 S114 0 0 314 [(0, va_rf r0), (1, .int i1), (2, .int v107), (3, .int v108), (6, .int v109), (7, .int v110), (9, .int v111)] [.int v113, .int v112] := by
                              intro v107 v108 v109 v110 v111 v112 v113 S114 h
                              unfold j_L_isAhead_314 at h
                              refine x_icmp_ne (t := 343) hC dL_isAhead_314 (by decide) (fun c115 => ?_) (fun c115 => ?_)
                              · replace h := it_f c115 h
                                refine x_iconst (v := (0 : Int32)) hC dL_isAhead_343 (by decide) ?_
                                refine x_goto (t := 366) hC dL_isAhead_344 (by decide) ?_
                                refine x_istore (i := 4) (l' := [(4, .int (0 : Int32)), (0, va_rf r0), (1, .int i1), (2, .int v107), (3, .int v108), (6, .int v109), (7, .int v110), (9, .int v111)]) hC dL_isAhead_366 (⟨fun _ => c_rf r0, ⟨fun _ => rfl, ⟨fun _ => rfl, ⟨fun _ => rfl, ⟨fun _ => rfl, ⟨fun _ => rfl, ⟨fun _ => rfl, trivial⟩⟩⟩⟩⟩⟩⟩) (by decide) rfl ?_
                                refine x_iinc (i := 6) (v := (v109 + (1 : Int32))) (l' := [(6, .int (v109 + (1 : Int32))), (4, .int (0 : Int32)), (0, va_rf r0), (1, .int i1), (2, .int v107), (3, .int v108), (7, .int v110), (9, .int v111)]) hC dL_isAhead_368 5 rfl rfl (⟨fun _ => rfl, ⟨fun _ => c_rf r0, ⟨fun _ => rfl, ⟨fun _ => rfl, ⟨fun _ => rfl, ⟨fun _ => rfl, ⟨fun _ => rfl, ⟨fun _ => rfl, trivial⟩⟩⟩⟩⟩⟩⟩⟩) (by decide) rfl ?_
                                refine x_goto (t := 130) hC dL_isAhead_371 (by decide) ?_
                                refine x_sub (l' := [(0, va_rf r0), (1, .int i1), (2, .int v107), (3, .int v108), (4, .int (0 : Int32)), (6, .int (v109 + (1 : Int32)))]) [2, 3, 4, 5, 1, 0] rfl ?_
                                have hb := bk_x h hg_130
                                exact hb
                              · replace h := it_t c115 h
                                refine x_iload (i := 7) hC dL_isAhead_317 5 rfl ?_
                                refine x_iconst (v := (4 : Int32)) hC dL_isAhead_319 (by decide) ?_
                                refine x_icmp_ne (t := 328) hC dL_isAhead_320 (by decide) (fun c116 => ?_) (fun c116 => ?_)
                                · replace h := it_f c116 h
                                  exact J_328 _ _ _ _ _ _ h
                                · replace h := it_t c116 h
                                  refine x_iload (i := 9) hC dL_isAhead_323 6 rfl ?_
                                  refine x_if_eq (t := 343) hC dL_isAhead_325 (by decide) (fun c125 => ?_) (fun c125 => ?_)
                                  · replace h := it_t c125 h
                                    refine x_iconst (v := (0 : Int32)) hC dL_isAhead_343 (by decide) ?_
                                    refine x_goto (t := 366) hC dL_isAhead_344 (by decide) ?_
                                    refine x_istore (i := 4) (l' := [(4, .int (0 : Int32)), (0, va_rf r0), (1, .int i1), (2, .int v107), (3, .int v108), (6, .int v109), (7, .int v110), (9, .int v111)]) hC dL_isAhead_366 (⟨fun _ => c_rf r0, ⟨fun _ => rfl, ⟨fun _ => rfl, ⟨fun _ => rfl, ⟨fun _ => rfl, ⟨fun _ => rfl, ⟨fun _ => rfl, trivial⟩⟩⟩⟩⟩⟩⟩) (by decide) rfl ?_
                                    refine x_iinc (i := 6) (v := (v109 + (1 : Int32))) (l' := [(6, .int (v109 + (1 : Int32))), (4, .int (0 : Int32)), (0, va_rf r0), (1, .int i1), (2, .int v107), (3, .int v108), (7, .int v110), (9, .int v111)]) hC dL_isAhead_368 5 rfl rfl (⟨fun _ => rfl, ⟨fun _ => c_rf r0, ⟨fun _ => rfl, ⟨fun _ => rfl, ⟨fun _ => rfl, ⟨fun _ => rfl, ⟨fun _ => rfl, ⟨fun _ => rfl, trivial⟩⟩⟩⟩⟩⟩⟩⟩) (by decide) rfl ?_
                                    refine x_goto (t := 130) hC dL_isAhead_371 (by decide) ?_
                                    refine x_sub (l' := [(0, va_rf r0), (1, .int i1), (2, .int v107), (3, .int v108), (4, .int (0 : Int32)), (6, .int (v109 + (1 : Int32)))]) [2, 3, 4, 5, 1, 0] rfl ?_
                                    have hb := bk_x h hg_130
                                    exact hb
                                  · replace h := it_f c125 h
                                    exact J_328 _ _ _ _ _ _ h
                            have J_271 : ∀ (v92 : Int32) (v93 : Int32) (v94 : Int32) (v95 : Int32) (v96 : Int32) (v97 : Int32) (S98 : PH), j_L_isAhead_271 r0 i1 v92 v93 v94 v95 v96 v97 S98 = some x_130 → PX Z 10 S98 0 0 271 [(0, va_rf r0), (1, .int i1), (2, .int v92), (3, .int v93), (6, .int v94), (7, .int v95), (9, .int v96)] [.int v97] := by
                              intro v92 v93 v94 v95 v96 v97 S98 h
                              unfold j_L_isAhead_271 at h
                              refine x_aload_n (i := 0) hC dL_isAhead_271 rfl 0 rfl ?_
                              refine x_iload_n (i := 1) hC dL_isAhead_272 rfl 1 rfl ?_
                              refine x_bipush (v := (8 : Int32)) hC dL_isAhead_273 (by decide) ?_
                              replace h := dr_el h
                              obtain ⟨a99, ea100, ha101, h⟩ := h
                              replace h := bt_el h
                              obtain ⟨v102, S103, hb155, h⟩ | ⟨j104, S105, hb155, h⟩ := h
                              · refine x_callV hC (st := [.int v97]) (mtr_X4_paperOf _ _ _ _ (v102, S103) hb155) ea100 ha101 kf_4 q_527 q_528 q_529 q_1 q_530 ⟨rfl, hy_X4_paperOf⟩ ⟨Nat.le_of_ble_eq_true rfl, Nat.le_of_ble_eq_true rfl⟩ ⟨Nat.le_of_ble_eq_true rfl, Nat.le_of_ble_eq_true rfl⟩ rfl (Nat.le_of_ble_eq_true rfl) dL_isAhead_275 (r_N ?_) r_NX
                                show PX Z 10 S103 0 0 278 [(0, va_rf r0), (1, .int i1), (2, .int v92), (3, .int v93), (6, .int v94), (7, .int v95), (9, .int v96)] [.int v102, .int v97]
                                refine x_if_ne (t := 313) hC dL_isAhead_278 (by decide) (fun c106 => ?_) (fun c106 => ?_)
                                · replace h := it_f c106 h
                                  refine x_iconst (v := (0 : Int32)) hC dL_isAhead_313 (by decide) ?_
                                  exact J_314 _ _ _ _ _ _ _ _ h
                                · replace h := it_t c106 h
                                  refine x_aload_n (i := 0) hC dL_isAhead_281 rfl 0 rfl ?_
                                  refine x_iload (i := 6) hC dL_isAhead_282 4 rfl ?_
                                  refine x_iload_n (i := 1) hC dL_isAhead_284 rfl 1 rfl ?_
                                  replace h := dr_el h
                                  obtain ⟨a126, ea127, ha128, h⟩ := h
                                  replace h := bt_el h
                                  obtain ⟨v129, S130, hb154, h⟩ | ⟨j131, S132, hb154, h⟩ := h
                                  · refine x_callV hC (st := [.int v97]) (mtr_X4_score _ _ _ _ (v129, S130) hb154) ea127 ha128 kf_4 q_548 q_549 q_550 q_1 q_551 ⟨rfl, hy_X4_score⟩ ⟨Nat.le_of_ble_eq_true rfl, Nat.le_of_ble_eq_true rfl⟩ ⟨Nat.le_of_ble_eq_true rfl, Nat.le_of_ble_eq_true rfl⟩ rfl (Nat.le_of_ble_eq_true rfl) dL_isAhead_285 (r_N ?_) r_NX
                                    show PX Z 10 S130 0 0 288 [(0, va_rf r0), (1, .int i1), (2, .int v92), (3, .int v93), (6, .int v94), (7, .int v95), (9, .int v96)] [.int v129, .int v97]
                                    refine x_iconst (v := (-1 : Int32)) hC dL_isAhead_288 (by decide) ?_
                                    refine x_icmp_ne (t := 313) hC dL_isAhead_289 (by decide) (fun c133 => ?_) (fun c133 => ?_)
                                    · replace h := it_f c133 h
                                      refine x_iconst (v := (0 : Int32)) hC dL_isAhead_313 (by decide) ?_
                                      exact J_314 _ _ _ _ _ _ _ _ h
                                    · replace h := it_t c133 h
                                      refine x_aload_n (i := 0) hC dL_isAhead_292 rfl 0 rfl ?_
                                      refine x_iload_n (i := 1) hC dL_isAhead_293 rfl 1 rfl ?_
                                      refine x_iconst (v := (2 : Int32)) hC dL_isAhead_294 (by decide) ?_
                                      replace h := dr_el h
                                      obtain ⟨a134, ea135, ha136, h⟩ := h
                                      replace h := bt_el h
                                      obtain ⟨v137, S138, hb153, h⟩ | ⟨j139, S140, hb153, h⟩ := h
                                      · refine x_callV hC (st := [.int v97]) (mtr_X4_paperOf _ _ _ _ (v137, S138) hb153) ea135 ha136 kf_4 q_527 q_528 q_529 q_1 q_530 ⟨rfl, hy_X4_paperOf⟩ ⟨Nat.le_of_ble_eq_true rfl, Nat.le_of_ble_eq_true rfl⟩ ⟨Nat.le_of_ble_eq_true rfl, Nat.le_of_ble_eq_true rfl⟩ rfl (Nat.le_of_ble_eq_true rfl) dL_isAhead_295 (r_N ?_) r_NX
                                        show PX Z 10 S138 0 0 298 [(0, va_rf r0), (1, .int i1), (2, .int v92), (3, .int v93), (6, .int v94), (7, .int v95), (9, .int v96)] [.int v137, .int v97]
                                        replace h := bd_el h
                                        obtain ⟨v141, S142, hb143, h⟩ := h
                                        refine x_callS hC (st := [.int v97]) (mt_L_bits _ _ _ hb143) q_656 q_657 q_0 q_658 hy_L_bits ⟨Nat.le_of_ble_eq_true rfl, Nat.le_of_ble_eq_true rfl⟩ ⟨Nat.le_of_ble_eq_true rfl, Nat.le_of_ble_eq_true rfl⟩ rfl (Nat.le_of_ble_eq_true rfl) dL_isAhead_298 (r_N ?_) r_NX
                                        show PX Z 10 S142 0 0 301 [(0, va_rf r0), (1, .int i1), (2, .int v92), (3, .int v93), (6, .int v94), (7, .int v95), (9, .int v96)] [.int v141, .int v97]
                                        refine x_aload_n (i := 0) hC dL_isAhead_301 rfl 0 rfl ?_
                                        refine x_iconst (v := (0 : Int32)) hC dL_isAhead_302 (by decide) ?_
                                        replace h := dr_el h
                                        obtain ⟨a144, ea145, ha146, h⟩ := h
                                        replace h := bt_el h
                                        obtain ⟨v147, S148, hb152, h⟩ | ⟨j149, S150, hb152, h⟩ := h
                                        · refine x_callV hC (st := [.int v141, .int v97]) (mtr_X4_setting _ _ _ (v147, S148) hb152) ea145 ha146 kf_4 q_552 q_553 q_554 q_1 q_555 ⟨rfl, hy_X4_setting⟩ ⟨Nat.le_of_ble_eq_true rfl, Nat.le_of_ble_eq_true rfl⟩ ⟨Nat.le_of_ble_eq_true rfl, Nat.le_of_ble_eq_true rfl⟩ rfl (Nat.le_of_ble_eq_true rfl) dL_isAhead_303 (r_N ?_) r_NX
                                          show PX Z 10 S148 0 0 306 [(0, va_rf r0), (1, .int i1), (2, .int v92), (3, .int v93), (6, .int v94), (7, .int v95), (9, .int v96)] [.int v147, .int v141, .int v97]
                                          refine x_icmp_ge (t := 313) hC dL_isAhead_306 (by decide) (fun c151 => ?_) (fun c151 => ?_)
                                          · replace h := it_t c151 h
                                            refine x_iconst (v := (0 : Int32)) hC dL_isAhead_313 (by decide) ?_
                                            exact J_314 _ _ _ _ _ _ _ _ h
                                          · replace h := it_f c151 h
                                            refine x_iconst (v := (1 : Int32)) hC dL_isAhead_309 (by decide) ?_
                                            refine x_goto (t := 314) hC dL_isAhead_310 (by decide) ?_
                                            exact J_314 _ _ _ _ _ _ _ _ h
                                        · refine x_callV hC (st := [.int v141, .int v97]) (mt_X4_setting _ _ _ _ hb152) ea145 ha146 kf_4 q_552 q_553 q_554 q_1 q_555 ⟨rfl, hy_X4_setting⟩ ⟨Nat.le_of_ble_eq_true rfl, Nat.le_of_ble_eq_true rfl⟩ ⟨Nat.le_of_ble_eq_true rfl, Nat.le_of_ble_eq_true rfl⟩ rfl (Nat.le_of_ble_eq_true rfl) dL_isAhead_303 r_X (r_XX ?_)
                                          replace h := ir_x h hg_130
                                          exact x_out hC hQ hE (z_X (Option.some.inj h)) (Nat.le_of_ble_eq_true rfl) (Nat.le_of_ble_eq_true rfl)
                                      · refine x_callV hC (st := [.int v97]) (mt_X4_paperOf _ _ _ _ _ hb153) ea135 ha136 kf_4 q_527 q_528 q_529 q_1 q_530 ⟨rfl, hy_X4_paperOf⟩ ⟨Nat.le_of_ble_eq_true rfl, Nat.le_of_ble_eq_true rfl⟩ ⟨Nat.le_of_ble_eq_true rfl, Nat.le_of_ble_eq_true rfl⟩ rfl (Nat.le_of_ble_eq_true rfl) dL_isAhead_295 r_X (r_XX ?_)
                                        replace h := ir_x h hg_130
                                        exact x_out hC hQ hE (z_X (Option.some.inj h)) (Nat.le_of_ble_eq_true rfl) (Nat.le_of_ble_eq_true rfl)
                                  · refine x_callV hC (st := [.int v97]) (mt_X4_score _ _ _ _ _ hb154) ea127 ha128 kf_4 q_548 q_549 q_550 q_1 q_551 ⟨rfl, hy_X4_score⟩ ⟨Nat.le_of_ble_eq_true rfl, Nat.le_of_ble_eq_true rfl⟩ ⟨Nat.le_of_ble_eq_true rfl, Nat.le_of_ble_eq_true rfl⟩ rfl (Nat.le_of_ble_eq_true rfl) dL_isAhead_285 r_X (r_XX ?_)
                                    replace h := ir_x h hg_130
                                    exact x_out hC hQ hE (z_X (Option.some.inj h)) (Nat.le_of_ble_eq_true rfl) (Nat.le_of_ble_eq_true rfl)
                              · refine x_callV hC (st := [.int v97]) (mt_X4_paperOf _ _ _ _ _ hb155) ea100 ha101 kf_4 q_527 q_528 q_529 q_1 q_530 ⟨rfl, hy_X4_paperOf⟩ ⟨Nat.le_of_ble_eq_true rfl, Nat.le_of_ble_eq_true rfl⟩ ⟨Nat.le_of_ble_eq_true rfl, Nat.le_of_ble_eq_true rfl⟩ rfl (Nat.le_of_ble_eq_true rfl) dL_isAhead_275 r_X (r_XX ?_)
                                replace h := ir_x h hg_130
                                exact x_out hC hQ hE (z_X (Option.some.inj h)) (Nat.le_of_ble_eq_true rfl) (Nat.le_of_ble_eq_true rfl)
                            have J_253 : ∀ (v80 : Int32) (v81 : Int32) (v82 : Int32) (v83 : Int32) (v84 : Int32) (v85 : Int32) (S86 : PH), j_L_isAhead_253 r0 i1 v80 v81 v82 v83 v84 v85 S86 = some x_130 → PX Z 10 S86 0 0 253 [(0, va_rf r0), (1, .int i1), (2, .int v80), (3, .int v81), (6, .int v82), (7, .int v83), (8, .int v84)] [.int v85] := by
                              intro v80 v81 v82 v83 v84 v85 S86 h
                              unfold j_L_isAhead_253 at h
                              refine x_istore (i := 9) (l' := [(9, .int v85), (0, va_rf r0), (1, .int i1), (2, .int v80), (3, .int v81), (6, .int v82), (7, .int v83), (8, .int v84)]) hC dL_isAhead_253 (⟨fun _ => c_rf r0, ⟨fun _ => rfl, ⟨fun _ => rfl, ⟨fun _ => rfl, ⟨fun _ => rfl, ⟨fun _ => rfl, ⟨fun _ => rfl, trivial⟩⟩⟩⟩⟩⟩⟩) (by decide) rfl ?_
                              refine x_iload (i := 7) hC dL_isAhead_255 6 rfl ?_
                              refine x_if_le (t := 347) hC dL_isAhead_257 (by decide) (fun c87 => ?_) (fun c87 => ?_)
                              · replace h := it_t c87 h
                                refine x_iload_n (i := 3) hC dL_isAhead_347 rfl 4 rfl ?_
                                refine x_if_lt (t := 365) hC dL_isAhead_348 (by decide) (fun c88 => ?_) (fun c88 => ?_)
                                · replace h := it_t c88 h
                                  refine x_iconst (v := (0 : Int32)) hC dL_isAhead_365 (by decide) ?_
                                  refine x_istore (i := 4) (l' := [(4, .int (0 : Int32)), (9, .int v85), (0, va_rf r0), (1, .int i1), (2, .int v80), (3, .int v81), (6, .int v82), (7, .int v83), (8, .int v84)]) hC dL_isAhead_366 (⟨fun _ => rfl, ⟨fun _ => c_rf r0, ⟨fun _ => rfl, ⟨fun _ => rfl, ⟨fun _ => rfl, ⟨fun _ => rfl, ⟨fun _ => rfl, ⟨fun _ => rfl, trivial⟩⟩⟩⟩⟩⟩⟩⟩) (by decide) rfl ?_
                                  refine x_iinc (i := 6) (v := (v82 + (1 : Int32))) (l' := [(6, .int (v82 + (1 : Int32))), (4, .int (0 : Int32)), (9, .int v85), (0, va_rf r0), (1, .int i1), (2, .int v80), (3, .int v81), (7, .int v83), (8, .int v84)]) hC dL_isAhead_368 6 rfl rfl (⟨fun _ => rfl, ⟨fun _ => rfl, ⟨fun _ => c_rf r0, ⟨fun _ => rfl, ⟨fun _ => rfl, ⟨fun _ => rfl, ⟨fun _ => rfl, ⟨fun _ => rfl, ⟨fun _ => rfl, trivial⟩⟩⟩⟩⟩⟩⟩⟩⟩) (by decide) rfl ?_
                                  refine x_goto (t := 130) hC dL_isAhead_371 (by decide) ?_
                                  refine x_sub (l' := [(0, va_rf r0), (1, .int i1), (2, .int v80), (3, .int v81), (4, .int (0 : Int32)), (6, .int (v82 + (1 : Int32)))]) [3, 4, 5, 6, 1, 0] rfl ?_
                                  have hb := bk_x h hg_130
                                  exact hb
                                · replace h := it_f c88 h
                                  refine x_iload (i := 8) hC dL_isAhead_351 7 rfl ?_
                                  refine x_if_ne (t := 365) hC dL_isAhead_353 (by decide) (fun c89 => ?_) (fun c89 => ?_)
                                  · replace h := it_f c89 h
                                    refine x_iconst (v := (0 : Int32)) hC dL_isAhead_365 (by decide) ?_
                                    refine x_istore (i := 4) (l' := [(4, .int (0 : Int32)), (9, .int v85), (0, va_rf r0), (1, .int i1), (2, .int v80), (3, .int v81), (6, .int v82), (7, .int v83), (8, .int v84)]) hC dL_isAhead_366 (⟨fun _ => rfl, ⟨fun _ => c_rf r0, ⟨fun _ => rfl, ⟨fun _ => rfl, ⟨fun _ => rfl, ⟨fun _ => rfl, ⟨fun _ => rfl, ⟨fun _ => rfl, trivial⟩⟩⟩⟩⟩⟩⟩⟩) (by decide) rfl ?_
                                    refine x_iinc (i := 6) (v := (v82 + (1 : Int32))) (l' := [(6, .int (v82 + (1 : Int32))), (4, .int (0 : Int32)), (9, .int v85), (0, va_rf r0), (1, .int i1), (2, .int v80), (3, .int v81), (7, .int v83), (8, .int v84)]) hC dL_isAhead_368 6 rfl rfl (⟨fun _ => rfl, ⟨fun _ => rfl, ⟨fun _ => c_rf r0, ⟨fun _ => rfl, ⟨fun _ => rfl, ⟨fun _ => rfl, ⟨fun _ => rfl, ⟨fun _ => rfl, ⟨fun _ => rfl, trivial⟩⟩⟩⟩⟩⟩⟩⟩⟩) (by decide) rfl ?_
                                    refine x_goto (t := 130) hC dL_isAhead_371 (by decide) ?_
                                    refine x_sub (l' := [(0, va_rf r0), (1, .int i1), (2, .int v80), (3, .int v81), (4, .int (0 : Int32)), (6, .int (v82 + (1 : Int32)))]) [3, 4, 5, 6, 1, 0] rfl ?_
                                    have hb := bk_x h hg_130
                                    exact hb
                                  · replace h := it_t c89 h
                                    refine x_iload (i := 9) hC dL_isAhead_356 0 rfl ?_
                                    refine x_if_ne (t := 365) hC dL_isAhead_358 (by decide) (fun c90 => ?_) (fun c90 => ?_)
                                    · replace h := it_f c90 h
                                      refine x_iconst (v := (0 : Int32)) hC dL_isAhead_365 (by decide) ?_
                                      refine x_istore (i := 4) (l' := [(4, .int (0 : Int32)), (9, .int v85), (0, va_rf r0), (1, .int i1), (2, .int v80), (3, .int v81), (6, .int v82), (7, .int v83), (8, .int v84)]) hC dL_isAhead_366 (⟨fun _ => rfl, ⟨fun _ => c_rf r0, ⟨fun _ => rfl, ⟨fun _ => rfl, ⟨fun _ => rfl, ⟨fun _ => rfl, ⟨fun _ => rfl, ⟨fun _ => rfl, trivial⟩⟩⟩⟩⟩⟩⟩⟩) (by decide) rfl ?_
                                      refine x_iinc (i := 6) (v := (v82 + (1 : Int32))) (l' := [(6, .int (v82 + (1 : Int32))), (4, .int (0 : Int32)), (9, .int v85), (0, va_rf r0), (1, .int i1), (2, .int v80), (3, .int v81), (7, .int v83), (8, .int v84)]) hC dL_isAhead_368 6 rfl rfl (⟨fun _ => rfl, ⟨fun _ => rfl, ⟨fun _ => c_rf r0, ⟨fun _ => rfl, ⟨fun _ => rfl, ⟨fun _ => rfl, ⟨fun _ => rfl, ⟨fun _ => rfl, ⟨fun _ => rfl, trivial⟩⟩⟩⟩⟩⟩⟩⟩⟩) (by decide) rfl ?_
                                      refine x_goto (t := 130) hC dL_isAhead_371 (by decide) ?_
                                      refine x_sub (l' := [(0, va_rf r0), (1, .int i1), (2, .int v80), (3, .int v81), (4, .int (0 : Int32)), (6, .int (v82 + (1 : Int32)))]) [3, 4, 5, 6, 1, 0] rfl ?_
                                      have hb := bk_x h hg_130
                                      exact hb
                                    · replace h := it_t c90 h
                                      refine x_iconst (v := (1 : Int32)) hC dL_isAhead_361 (by decide) ?_
                                      refine x_goto (t := 366) hC dL_isAhead_362 (by decide) ?_
                                      refine x_istore (i := 4) (l' := [(4, .int (1 : Int32)), (9, .int v85), (0, va_rf r0), (1, .int i1), (2, .int v80), (3, .int v81), (6, .int v82), (7, .int v83), (8, .int v84)]) hC dL_isAhead_366 (⟨fun _ => rfl, ⟨fun _ => c_rf r0, ⟨fun _ => rfl, ⟨fun _ => rfl, ⟨fun _ => rfl, ⟨fun _ => rfl, ⟨fun _ => rfl, ⟨fun _ => rfl, trivial⟩⟩⟩⟩⟩⟩⟩⟩) (by decide) rfl ?_
                                      refine x_iinc (i := 6) (v := (v82 + (1 : Int32))) (l' := [(6, .int (v82 + (1 : Int32))), (4, .int (1 : Int32)), (9, .int v85), (0, va_rf r0), (1, .int i1), (2, .int v80), (3, .int v81), (7, .int v83), (8, .int v84)]) hC dL_isAhead_368 6 rfl rfl (⟨fun _ => rfl, ⟨fun _ => rfl, ⟨fun _ => c_rf r0, ⟨fun _ => rfl, ⟨fun _ => rfl, ⟨fun _ => rfl, ⟨fun _ => rfl, ⟨fun _ => rfl, ⟨fun _ => rfl, trivial⟩⟩⟩⟩⟩⟩⟩⟩⟩) (by decide) rfl ?_
                                      refine x_goto (t := 130) hC dL_isAhead_371 (by decide) ?_
                                      refine x_sub (l' := [(0, va_rf r0), (1, .int i1), (2, .int v80), (3, .int v81), (4, .int (1 : Int32)), (6, .int (v82 + (1 : Int32)))]) [3, 4, 5, 6, 1, 0] rfl ?_
                                      have hb := bk_x h hg_130
                                      exact hb
                              · replace h := it_f c87 h
                                refine x_iload (i := 7) hC dL_isAhead_260 6 rfl ?_
                                refine x_iconst (v := (4 : Int32)) hC dL_isAhead_262 (by decide) ?_
                                refine x_icmp_lt (t := 270) hC dL_isAhead_263 (by decide) (fun c91 => ?_) (fun c91 => ?_)
                                · replace h := it_t c91 h
                                  refine x_iconst (v := (0 : Int32)) hC dL_isAhead_270 (by decide) ?_
                                  refine x_sub (l' := [(0, va_rf r0), (1, .int i1), (2, .int v80), (3, .int v81), (6, .int v82), (7, .int v83), (9, .int v85)]) [1, 2, 3, 4, 5, 6, 0] rfl ?_
                                  exact J_271 _ _ _ _ _ _ _ h
                                · replace h := it_f c91 h
                                  refine x_iconst (v := (1 : Int32)) hC dL_isAhead_266 (by decide) ?_
                                  refine x_goto (t := 271) hC dL_isAhead_267 (by decide) ?_
                                  refine x_sub (l' := [(0, va_rf r0), (1, .int i1), (2, .int v80), (3, .int v81), (6, .int v82), (7, .int v83), (9, .int v85)]) [1, 2, 3, 4, 5, 6, 0] rfl ?_
                                  exact J_271 _ _ _ _ _ _ _ h
                            have J_230 : ∀ (v66 : Int32) (v67 : Int32) (v68 : Int32) (v69 : Int32) (v70 : Int32) (S71 : PH), j_L_isAhead_230 r0 i1 v66 v67 v68 v69 v70 S71 = some x_130 → PX Z 10 S71 0 0 230 [(0, va_rf r0), (1, .int i1), (2, .int v66), (3, .int v67), (6, .int v68), (7, .int v69)] [.int v70] := by
                              intro v66 v67 v68 v69 v70 S71 h
                              unfold j_L_isAhead_230 at h
                              refine x_istore (i := 8) (l' := [(8, .int v70), (0, va_rf r0), (1, .int i1), (2, .int v66), (3, .int v67), (6, .int v68), (7, .int v69)]) hC dL_isAhead_230 (⟨fun _ => c_rf r0, ⟨fun _ => rfl, ⟨fun _ => rfl, ⟨fun _ => rfl, ⟨fun _ => rfl, ⟨fun _ => rfl, trivial⟩⟩⟩⟩⟩⟩) (by decide) rfl ?_
                              refine x_aload_n (i := 0) hC dL_isAhead_232 rfl 1 rfl ?_
                              refine x_iload (i := 6) hC dL_isAhead_233 5 rfl ?_
                              refine x_bipush (v := (8 : Int32)) hC dL_isAhead_235 (by decide) ?_
                              replace h := dr_el h
                              obtain ⟨a72, ea73, ha74, h⟩ := h
                              replace h := bt_el h
                              obtain ⟨v75, S76, hb156, h⟩ | ⟨j77, S78, hb156, h⟩ := h
                              · refine x_callV hC (st := []) (mtr_X4_personOf _ _ _ _ (v75, S76) hb156) ea73 ha74 kf_4 q_506 q_507 q_508 q_1 q_509 ⟨rfl, hy_X4_personOf⟩ ⟨Nat.le_of_ble_eq_true rfl, Nat.le_of_ble_eq_true rfl⟩ ⟨Nat.le_of_ble_eq_true rfl, Nat.le_of_ble_eq_true rfl⟩ rfl (Nat.le_of_ble_eq_true rfl) dL_isAhead_237 (r_N ?_) r_NX
                                show PX Z 10 S76 0 0 240 [(8, .int v70), (0, va_rf r0), (1, .int i1), (2, .int v66), (3, .int v67), (6, .int v68), (7, .int v69)] [.int v75]
                                refine x_iload_n (i := 1) hC dL_isAhead_240 rfl 2 rfl ?_
                                refine x_ishr hC dL_isAhead_241 ?_
                                refine x_iconst (v := (1 : Int32)) hC dL_isAhead_242 (by decide) ?_
                                refine x_iand hC dL_isAhead_243 ?_
                                refine x_iconst (v := (1 : Int32)) hC dL_isAhead_244 (by decide) ?_
                                refine x_icmp_ne (t := 252) hC dL_isAhead_245 (by decide) (fun c79 => ?_) (fun c79 => ?_)
                                · replace h := it_f c79 h
                                  refine x_iconst (v := (0 : Int32)) hC dL_isAhead_252 (by decide) ?_
                                  refine x_sub (l' := [(0, va_rf r0), (1, .int i1), (2, .int v66), (3, .int v67), (6, .int v68), (7, .int v69), (8, .int v70)]) [1, 2, 3, 4, 5, 6, 0] rfl ?_
                                  exact J_253 _ _ _ _ _ _ _ h
                                · replace h := it_t c79 h
                                  refine x_iconst (v := (1 : Int32)) hC dL_isAhead_248 (by decide) ?_
                                  refine x_goto (t := 253) hC dL_isAhead_249 (by decide) ?_
                                  refine x_sub (l' := [(0, va_rf r0), (1, .int i1), (2, .int v66), (3, .int v67), (6, .int v68), (7, .int v69), (8, .int v70)]) [1, 2, 3, 4, 5, 6, 0] rfl ?_
                                  exact J_253 _ _ _ _ _ _ _ h
                              · refine x_callV hC (st := []) (mt_X4_personOf _ _ _ _ _ hb156) ea73 ha74 kf_4 q_506 q_507 q_508 q_1 q_509 ⟨rfl, hy_X4_personOf⟩ ⟨Nat.le_of_ble_eq_true rfl, Nat.le_of_ble_eq_true rfl⟩ ⟨Nat.le_of_ble_eq_true rfl, Nat.le_of_ble_eq_true rfl⟩ rfl (Nat.le_of_ble_eq_true rfl) dL_isAhead_237 r_X (r_XX ?_)
                                replace h := ir_x h hg_130
                                exact x_out hC hQ hE (z_X (Option.some.inj h)) (Nat.le_of_ble_eq_true rfl) (Nat.le_of_ble_eq_true rfl)
                            unfold st_L_isAhead_130 at h
                            refine x_iload (i := 6) hC dL_isAhead_130 5 rfl ?_
                            refine x_bipush (v := (8 : Int32)) hC dL_isAhead_132 (by decide) ?_
                            refine x_icmp_ge (t := 374) hC dL_isAhead_134 (by decide) (fun c901 => ?_) (fun c901 => ?_)
                            · replace h := it_t c901 h
                              replace h := ir_x h hg_130
                              refine x_sub (l' := [(0, va_rf r0), (1, .int i1), (2, .int v896), (4, .int v898)]) [0, 1, 2, 4] rfl ?_
                              exact J_374 _ _ _ h
                            · replace h := it_f c901 h
                              refine x_iload (i := 4) hC dL_isAhead_137 4 rfl ?_
                              refine x_if_eq (t := 374) hC dL_isAhead_139 (by decide) (fun c902 => ?_) (fun c902 => ?_)
                              · replace h := it_t c902 h
                                replace h := ir_x h hg_130
                                refine x_sub (l' := [(0, va_rf r0), (1, .int i1), (2, .int v896), (4, .int v898)]) [0, 1, 2, 4] rfl ?_
                                exact J_374 _ _ _ h
                              · replace h := it_f c902 h
                                refine x_aload_n (i := 0) hC dL_isAhead_142 rfl 0 rfl ?_
                                refine x_iload (i := 6) hC dL_isAhead_143 5 rfl ?_
                                refine x_iload_n (i := 1) hC dL_isAhead_145 rfl 1 rfl ?_
                                replace h := dr_el h
                                obtain ⟨a903, ea904, ha905, h⟩ := h
                                replace h := bt_el h
                                obtain ⟨v906, S907, hb980, h⟩ | ⟨j908, S909, hb980, h⟩ := h
                                · refine x_callV hC (st := []) (mtr_X4_whyNot _ _ _ _ (v906, S907) hb980) ea904 ha905 kf_4 q_445 q_446 q_447 q_1 q_448 ⟨rfl, hy_X4_whyNot⟩ ⟨Nat.le_of_ble_eq_true rfl, Nat.le_of_ble_eq_true rfl⟩ ⟨Nat.le_of_ble_eq_true rfl, Nat.le_of_ble_eq_true rfl⟩ rfl (Nat.le_of_ble_eq_true rfl) dL_isAhead_146 (r_N ?_) r_NX
                                  show PX Z 10 S907 0 0 149 [(0, va_rf r0), (1, .int i1), (2, .int v896), (3, .int v897), (4, .int v898), (6, .int v899)] [.int v906]
                                  refine x_istore (i := 7) (l' := [(7, .int v906), (0, va_rf r0), (1, .int i1), (2, .int v896), (3, .int v897), (4, .int v898), (6, .int v899)]) hC dL_isAhead_149 (⟨fun _ => c_rf r0, ⟨fun _ => rfl, ⟨fun _ => rfl, ⟨fun _ => rfl, ⟨fun _ => rfl, ⟨fun _ => rfl, trivial⟩⟩⟩⟩⟩⟩) (by decide) rfl ?_
                                  refine x_iload_n (i := 3) hC dL_isAhead_151 rfl 4 rfl ?_
                                  refine x_if_lt (t := 229) hC dL_isAhead_152 (by decide) (fun c910 => ?_) (fun c910 => ?_)
                                  · replace h := it_t c910 h
                                    refine x_iconst (v := (0 : Int32)) hC dL_isAhead_229 (by decide) ?_
                                    refine x_sub (l' := [(0, va_rf r0), (1, .int i1), (2, .int v896), (3, .int v897), (6, .int v899), (7, .int v906)]) [1, 2, 3, 4, 6, 0] rfl ?_
                                    exact J_230 _ _ _ _ _ _ h
                                  · replace h := it_f c910 h
                                    refine x_aload_n (i := 0) hC dL_isAhead_155 rfl 1 rfl ?_
                                    refine x_iload (i := 6) hC dL_isAhead_156 6 rfl ?_
                                    refine x_iconst (v := (3 : Int32)) hC dL_isAhead_158 (by decide) ?_
                                    replace h := dr_el h
                                    obtain ⟨a911, ea912, ha913, h⟩ := h
                                    replace h := bt_el h
                                    obtain ⟨v914, S915, hb979, h⟩ | ⟨j916, S917, hb979, h⟩ := h
                                    · refine x_callV hC (st := []) (mtr_X4_personOf _ _ _ _ (v914, S915) hb979) ea912 ha913 kf_4 q_506 q_507 q_508 q_1 q_509 ⟨rfl, hy_X4_personOf⟩ ⟨Nat.le_of_ble_eq_true rfl, Nat.le_of_ble_eq_true rfl⟩ ⟨Nat.le_of_ble_eq_true rfl, Nat.le_of_ble_eq_true rfl⟩ rfl (Nat.le_of_ble_eq_true rfl) dL_isAhead_159 (r_N ?_) r_NX
                                      show PX Z 10 S915 0 0 162 [(7, .int v906), (0, va_rf r0), (1, .int i1), (2, .int v896), (3, .int v897), (4, .int v898), (6, .int v899)] [.int v914]
                                      refine x_aload_n (i := 0) hC dL_isAhead_162 rfl 1 rfl ?_
                                      refine x_iload_n (i := 3) hC dL_isAhead_163 rfl 4 rfl ?_
                                      refine x_iconst (v := (3 : Int32)) hC dL_isAhead_164 (by decide) ?_
                                      replace h := dr_el h
                                      obtain ⟨a918, ea919, ha920, h⟩ := h
                                      replace h := bt_el h
                                      obtain ⟨v921, S922, hb978, h⟩ | ⟨j923, S924, hb978, h⟩ := h
                                      · refine x_callV hC (st := [.int v914]) (mtr_X4_personOf _ _ _ _ (v921, S922) hb978) ea919 ha920 kf_4 q_506 q_507 q_508 q_1 q_509 ⟨rfl, hy_X4_personOf⟩ ⟨Nat.le_of_ble_eq_true rfl, Nat.le_of_ble_eq_true rfl⟩ ⟨Nat.le_of_ble_eq_true rfl, Nat.le_of_ble_eq_true rfl⟩ rfl (Nat.le_of_ble_eq_true rfl) dL_isAhead_165 (r_N ?_) r_NX
                                        show PX Z 10 S922 0 0 168 [(7, .int v906), (0, va_rf r0), (1, .int i1), (2, .int v896), (3, .int v897), (4, .int v898), (6, .int v899)] [.int v921, .int v914]
                                        refine x_icmp_lt (t := 225) hC dL_isAhead_168 (by decide) (fun c925 => ?_) (fun c925 => ?_)
                                        · replace h := it_t c925 h
                                          refine x_iconst (v := (1 : Int32)) hC dL_isAhead_225 (by decide) ?_
                                          refine x_goto (t := 230) hC dL_isAhead_226 (by decide) ?_
                                          refine x_sub (l' := [(0, va_rf r0), (1, .int i1), (2, .int v896), (3, .int v897), (6, .int v899), (7, .int v906)]) [1, 2, 3, 4, 6, 0] rfl ?_
                                          exact J_230 _ _ _ _ _ _ h
                                        · replace h := it_f c925 h
                                          refine x_aload_n (i := 0) hC dL_isAhead_171 rfl 1 rfl ?_
                                          refine x_iload (i := 6) hC dL_isAhead_172 6 rfl ?_
                                          refine x_iconst (v := (3 : Int32)) hC dL_isAhead_174 (by decide) ?_
                                          replace h := dr_el h
                                          obtain ⟨a926, ea927, ha928, h⟩ := h
                                          replace h := bt_el h
                                          obtain ⟨v929, S930, hb977, h⟩ | ⟨j931, S932, hb977, h⟩ := h
                                          · refine x_callV hC (st := []) (mtr_X4_personOf _ _ _ _ (v929, S930) hb977) ea927 ha928 kf_4 q_506 q_507 q_508 q_1 q_509 ⟨rfl, hy_X4_personOf⟩ ⟨Nat.le_of_ble_eq_true rfl, Nat.le_of_ble_eq_true rfl⟩ ⟨Nat.le_of_ble_eq_true rfl, Nat.le_of_ble_eq_true rfl⟩ rfl (Nat.le_of_ble_eq_true rfl) dL_isAhead_175 (r_N ?_) r_NX
                                            show PX Z 10 S930 0 0 178 [(7, .int v906), (0, va_rf r0), (1, .int i1), (2, .int v896), (3, .int v897), (4, .int v898), (6, .int v899)] [.int v929]
                                            refine x_aload_n (i := 0) hC dL_isAhead_178 rfl 1 rfl ?_
                                            refine x_iload_n (i := 3) hC dL_isAhead_179 rfl 4 rfl ?_
                                            refine x_iconst (v := (3 : Int32)) hC dL_isAhead_180 (by decide) ?_
                                            replace h := dr_el h
                                            obtain ⟨a933, ea934, ha935, h⟩ := h
                                            replace h := bt_el h
                                            obtain ⟨v936, S937, hb976, h⟩ | ⟨j938, S939, hb976, h⟩ := h
                                            · refine x_callV hC (st := [.int v929]) (mtr_X4_personOf _ _ _ _ (v936, S937) hb976) ea934 ha935 kf_4 q_506 q_507 q_508 q_1 q_509 ⟨rfl, hy_X4_personOf⟩ ⟨Nat.le_of_ble_eq_true rfl, Nat.le_of_ble_eq_true rfl⟩ ⟨Nat.le_of_ble_eq_true rfl, Nat.le_of_ble_eq_true rfl⟩ rfl (Nat.le_of_ble_eq_true rfl) dL_isAhead_181 (r_N ?_) r_NX
                                              show PX Z 10 S937 0 0 184 [(7, .int v906), (0, va_rf r0), (1, .int i1), (2, .int v896), (3, .int v897), (4, .int v898), (6, .int v899)] [.int v936, .int v929]
                                              refine x_icmp_ne (t := 229) hC dL_isAhead_184 (by decide) (fun c940 => ?_) (fun c940 => ?_)
                                              · replace h := it_f c940 h
                                                refine x_iconst (v := (0 : Int32)) hC dL_isAhead_229 (by decide) ?_
                                                refine x_sub (l' := [(0, va_rf r0), (1, .int i1), (2, .int v896), (3, .int v897), (6, .int v899), (7, .int v906)]) [1, 2, 3, 4, 6, 0] rfl ?_
                                                exact J_230 _ _ _ _ _ _ h
                                              · replace h := it_t c940 h
                                                refine x_aload_n (i := 0) hC dL_isAhead_187 rfl 1 rfl ?_
                                                refine x_iload (i := 6) hC dL_isAhead_188 6 rfl ?_
                                                refine x_iconst (v := (0 : Int32)) hC dL_isAhead_190 (by decide) ?_
                                                replace h := dr_el h
                                                obtain ⟨a941, ea942, ha943, h⟩ := h
                                                replace h := bt_el h
                                                obtain ⟨v944, S945, hb975, h⟩ | ⟨j946, S947, hb975, h⟩ := h
                                                · refine x_callV hC (st := []) (mtr_X4_personOf _ _ _ _ (v944, S945) hb975) ea942 ha943 kf_4 q_506 q_507 q_508 q_1 q_509 ⟨rfl, hy_X4_personOf⟩ ⟨Nat.le_of_ble_eq_true rfl, Nat.le_of_ble_eq_true rfl⟩ ⟨Nat.le_of_ble_eq_true rfl, Nat.le_of_ble_eq_true rfl⟩ rfl (Nat.le_of_ble_eq_true rfl) dL_isAhead_191 (r_N ?_) r_NX
                                                  show PX Z 10 S945 0 0 194 [(7, .int v906), (0, va_rf r0), (1, .int i1), (2, .int v896), (3, .int v897), (4, .int v898), (6, .int v899)] [.int v944]
                                                  refine x_aload_n (i := 0) hC dL_isAhead_194 rfl 1 rfl ?_
                                                  refine x_iload_n (i := 3) hC dL_isAhead_195 rfl 4 rfl ?_
                                                  refine x_iconst (v := (0 : Int32)) hC dL_isAhead_196 (by decide) ?_
                                                  replace h := dr_el h
                                                  obtain ⟨a948, ea949, ha950, h⟩ := h
                                                  replace h := bt_el h
                                                  obtain ⟨v951, S952, hb974, h⟩ | ⟨j953, S954, hb974, h⟩ := h
                                                  · refine x_callV hC (st := [.int v944]) (mtr_X4_personOf _ _ _ _ (v951, S952) hb974) ea949 ha950 kf_4 q_506 q_507 q_508 q_1 q_509 ⟨rfl, hy_X4_personOf⟩ ⟨Nat.le_of_ble_eq_true rfl, Nat.le_of_ble_eq_true rfl⟩ ⟨Nat.le_of_ble_eq_true rfl, Nat.le_of_ble_eq_true rfl⟩ rfl (Nat.le_of_ble_eq_true rfl) dL_isAhead_197 (r_N ?_) r_NX
                                                    show PX Z 10 S952 0 0 200 [(7, .int v906), (0, va_rf r0), (1, .int i1), (2, .int v896), (3, .int v897), (4, .int v898), (6, .int v899)] [.int v951, .int v944]
                                                    refine x_icmp_gt (t := 225) hC dL_isAhead_200 (by decide) (fun c955 => ?_) (fun c955 => ?_)
                                                    · replace h := it_t c955 h
                                                      refine x_iconst (v := (1 : Int32)) hC dL_isAhead_225 (by decide) ?_
                                                      refine x_goto (t := 230) hC dL_isAhead_226 (by decide) ?_
                                                      refine x_sub (l' := [(0, va_rf r0), (1, .int i1), (2, .int v896), (3, .int v897), (6, .int v899), (7, .int v906)]) [1, 2, 3, 4, 6, 0] rfl ?_
                                                      exact J_230 _ _ _ _ _ _ h
                                                    · replace h := it_f c955 h
                                                      refine x_aload_n (i := 0) hC dL_isAhead_203 rfl 1 rfl ?_
                                                      refine x_iload (i := 6) hC dL_isAhead_204 6 rfl ?_
                                                      refine x_iconst (v := (0 : Int32)) hC dL_isAhead_206 (by decide) ?_
                                                      replace h := dr_el h
                                                      obtain ⟨a956, ea957, ha958, h⟩ := h
                                                      replace h := bt_el h
                                                      obtain ⟨v959, S960, hb973, h⟩ | ⟨j961, S962, hb973, h⟩ := h
                                                      · refine x_callV hC (st := []) (mtr_X4_personOf _ _ _ _ (v959, S960) hb973) ea957 ha958 kf_4 q_506 q_507 q_508 q_1 q_509 ⟨rfl, hy_X4_personOf⟩ ⟨Nat.le_of_ble_eq_true rfl, Nat.le_of_ble_eq_true rfl⟩ ⟨Nat.le_of_ble_eq_true rfl, Nat.le_of_ble_eq_true rfl⟩ rfl (Nat.le_of_ble_eq_true rfl) dL_isAhead_207 (r_N ?_) r_NX
                                                        show PX Z 10 S960 0 0 210 [(7, .int v906), (0, va_rf r0), (1, .int i1), (2, .int v896), (3, .int v897), (4, .int v898), (6, .int v899)] [.int v959]
                                                        refine x_aload_n (i := 0) hC dL_isAhead_210 rfl 1 rfl ?_
                                                        refine x_iload_n (i := 3) hC dL_isAhead_211 rfl 4 rfl ?_
                                                        refine x_iconst (v := (0 : Int32)) hC dL_isAhead_212 (by decide) ?_
                                                        replace h := dr_el h
                                                        obtain ⟨a963, ea964, ha965, h⟩ := h
                                                        replace h := bt_el h
                                                        obtain ⟨v966, S967, hb972, h⟩ | ⟨j968, S969, hb972, h⟩ := h
                                                        · refine x_callV hC (st := [.int v959]) (mtr_X4_personOf _ _ _ _ (v966, S967) hb972) ea964 ha965 kf_4 q_506 q_507 q_508 q_1 q_509 ⟨rfl, hy_X4_personOf⟩ ⟨Nat.le_of_ble_eq_true rfl, Nat.le_of_ble_eq_true rfl⟩ ⟨Nat.le_of_ble_eq_true rfl, Nat.le_of_ble_eq_true rfl⟩ rfl (Nat.le_of_ble_eq_true rfl) dL_isAhead_213 (r_N ?_) r_NX
                                                          show PX Z 10 S967 0 0 216 [(7, .int v906), (0, va_rf r0), (1, .int i1), (2, .int v896), (3, .int v897), (4, .int v898), (6, .int v899)] [.int v966, .int v959]
                                                          refine x_icmp_ne (t := 229) hC dL_isAhead_216 (by decide) (fun c970 => ?_) (fun c970 => ?_)
                                                          · replace h := it_f c970 h
                                                            refine x_iconst (v := (0 : Int32)) hC dL_isAhead_229 (by decide) ?_
                                                            refine x_sub (l' := [(0, va_rf r0), (1, .int i1), (2, .int v896), (3, .int v897), (6, .int v899), (7, .int v906)]) [1, 2, 3, 4, 6, 0] rfl ?_
                                                            exact J_230 _ _ _ _ _ _ h
                                                          · replace h := it_t c970 h
                                                            refine x_iload (i := 6) hC dL_isAhead_219 6 rfl ?_
                                                            refine x_iload_n (i := 3) hC dL_isAhead_221 rfl 4 rfl ?_
                                                            refine x_icmp_ge (t := 229) hC dL_isAhead_222 (by decide) (fun c971 => ?_) (fun c971 => ?_)
                                                            · replace h := it_t c971 h
                                                              refine x_iconst (v := (0 : Int32)) hC dL_isAhead_229 (by decide) ?_
                                                              refine x_sub (l' := [(0, va_rf r0), (1, .int i1), (2, .int v896), (3, .int v897), (6, .int v899), (7, .int v906)]) [1, 2, 3, 4, 6, 0] rfl ?_
                                                              exact J_230 _ _ _ _ _ _ h
                                                            · replace h := it_f c971 h
                                                              refine x_iconst (v := (1 : Int32)) hC dL_isAhead_225 (by decide) ?_
                                                              refine x_goto (t := 230) hC dL_isAhead_226 (by decide) ?_
                                                              refine x_sub (l' := [(0, va_rf r0), (1, .int i1), (2, .int v896), (3, .int v897), (6, .int v899), (7, .int v906)]) [1, 2, 3, 4, 6, 0] rfl ?_
                                                              exact J_230 _ _ _ _ _ _ h
                                                        · refine x_callV hC (st := [.int v959]) (mt_X4_personOf _ _ _ _ _ hb972) ea964 ha965 kf_4 q_506 q_507 q_508 q_1 q_509 ⟨rfl, hy_X4_personOf⟩ ⟨Nat.le_of_ble_eq_true rfl, Nat.le_of_ble_eq_true rfl⟩ ⟨Nat.le_of_ble_eq_true rfl, Nat.le_of_ble_eq_true rfl⟩ rfl (Nat.le_of_ble_eq_true rfl) dL_isAhead_213 r_X (r_XX ?_)
                                                          replace h := ir_x h hg_130
                                                          exact x_out hC hQ hE (z_X (Option.some.inj h)) (Nat.le_of_ble_eq_true rfl) (Nat.le_of_ble_eq_true rfl)
                                                      · refine x_callV hC (st := []) (mt_X4_personOf _ _ _ _ _ hb973) ea957 ha958 kf_4 q_506 q_507 q_508 q_1 q_509 ⟨rfl, hy_X4_personOf⟩ ⟨Nat.le_of_ble_eq_true rfl, Nat.le_of_ble_eq_true rfl⟩ ⟨Nat.le_of_ble_eq_true rfl, Nat.le_of_ble_eq_true rfl⟩ rfl (Nat.le_of_ble_eq_true rfl) dL_isAhead_207 r_X (r_XX ?_)
                                                        replace h := ir_x h hg_130
                                                        exact x_out hC hQ hE (z_X (Option.some.inj h)) (Nat.le_of_ble_eq_true rfl) (Nat.le_of_ble_eq_true rfl)
                                                  · refine x_callV hC (st := [.int v944]) (mt_X4_personOf _ _ _ _ _ hb974) ea949 ha950 kf_4 q_506 q_507 q_508 q_1 q_509 ⟨rfl, hy_X4_personOf⟩ ⟨Nat.le_of_ble_eq_true rfl, Nat.le_of_ble_eq_true rfl⟩ ⟨Nat.le_of_ble_eq_true rfl, Nat.le_of_ble_eq_true rfl⟩ rfl (Nat.le_of_ble_eq_true rfl) dL_isAhead_197 r_X (r_XX ?_)
                                                    replace h := ir_x h hg_130
                                                    exact x_out hC hQ hE (z_X (Option.some.inj h)) (Nat.le_of_ble_eq_true rfl) (Nat.le_of_ble_eq_true rfl)
                                                · refine x_callV hC (st := []) (mt_X4_personOf _ _ _ _ _ hb975) ea942 ha943 kf_4 q_506 q_507 q_508 q_1 q_509 ⟨rfl, hy_X4_personOf⟩ ⟨Nat.le_of_ble_eq_true rfl, Nat.le_of_ble_eq_true rfl⟩ ⟨Nat.le_of_ble_eq_true rfl, Nat.le_of_ble_eq_true rfl⟩ rfl (Nat.le_of_ble_eq_true rfl) dL_isAhead_191 r_X (r_XX ?_)
                                                  replace h := ir_x h hg_130
                                                  exact x_out hC hQ hE (z_X (Option.some.inj h)) (Nat.le_of_ble_eq_true rfl) (Nat.le_of_ble_eq_true rfl)
                                            · refine x_callV hC (st := [.int v929]) (mt_X4_personOf _ _ _ _ _ hb976) ea934 ha935 kf_4 q_506 q_507 q_508 q_1 q_509 ⟨rfl, hy_X4_personOf⟩ ⟨Nat.le_of_ble_eq_true rfl, Nat.le_of_ble_eq_true rfl⟩ ⟨Nat.le_of_ble_eq_true rfl, Nat.le_of_ble_eq_true rfl⟩ rfl (Nat.le_of_ble_eq_true rfl) dL_isAhead_181 r_X (r_XX ?_)
                                              replace h := ir_x h hg_130
                                              exact x_out hC hQ hE (z_X (Option.some.inj h)) (Nat.le_of_ble_eq_true rfl) (Nat.le_of_ble_eq_true rfl)
                                          · refine x_callV hC (st := []) (mt_X4_personOf _ _ _ _ _ hb977) ea927 ha928 kf_4 q_506 q_507 q_508 q_1 q_509 ⟨rfl, hy_X4_personOf⟩ ⟨Nat.le_of_ble_eq_true rfl, Nat.le_of_ble_eq_true rfl⟩ ⟨Nat.le_of_ble_eq_true rfl, Nat.le_of_ble_eq_true rfl⟩ rfl (Nat.le_of_ble_eq_true rfl) dL_isAhead_175 r_X (r_XX ?_)
                                            replace h := ir_x h hg_130
                                            exact x_out hC hQ hE (z_X (Option.some.inj h)) (Nat.le_of_ble_eq_true rfl) (Nat.le_of_ble_eq_true rfl)
                                      · refine x_callV hC (st := [.int v914]) (mt_X4_personOf _ _ _ _ _ hb978) ea919 ha920 kf_4 q_506 q_507 q_508 q_1 q_509 ⟨rfl, hy_X4_personOf⟩ ⟨Nat.le_of_ble_eq_true rfl, Nat.le_of_ble_eq_true rfl⟩ ⟨Nat.le_of_ble_eq_true rfl, Nat.le_of_ble_eq_true rfl⟩ rfl (Nat.le_of_ble_eq_true rfl) dL_isAhead_165 r_X (r_XX ?_)
                                        replace h := ir_x h hg_130
                                        exact x_out hC hQ hE (z_X (Option.some.inj h)) (Nat.le_of_ble_eq_true rfl) (Nat.le_of_ble_eq_true rfl)
                                    · refine x_callV hC (st := []) (mt_X4_personOf _ _ _ _ _ hb979) ea912 ha913 kf_4 q_506 q_507 q_508 q_1 q_509 ⟨rfl, hy_X4_personOf⟩ ⟨Nat.le_of_ble_eq_true rfl, Nat.le_of_ble_eq_true rfl⟩ ⟨Nat.le_of_ble_eq_true rfl, Nat.le_of_ble_eq_true rfl⟩ rfl (Nat.le_of_ble_eq_true rfl) dL_isAhead_159 r_X (r_XX ?_)
                                      replace h := ir_x h hg_130
                                      exact x_out hC hQ hE (z_X (Option.some.inj h)) (Nat.le_of_ble_eq_true rfl) (Nat.le_of_ble_eq_true rfl)
                                · refine x_callV hC (st := []) (mt_X4_whyNot _ _ _ _ _ hb980) ea904 ha905 kf_4 q_445 q_446 q_447 q_1 q_448 ⟨rfl, hy_X4_whyNot⟩ ⟨Nat.le_of_ble_eq_true rfl, Nat.le_of_ble_eq_true rfl⟩ ⟨Nat.le_of_ble_eq_true rfl, Nat.le_of_ble_eq_true rfl⟩ rfl (Nat.le_of_ble_eq_true rfl) dL_isAhead_146 r_X (r_XX ?_)
                                  replace h := ir_x h hg_130
                                  exact x_out hC hQ hE (z_X (Option.some.inj h)) (Nat.le_of_ble_eq_true rfl) (Nat.le_of_ble_eq_true rfl)
                          · replace h := it_f c895 h
                            refine x_iload (i := 5) hC dL_isAhead_106 5 rfl ?_
                            refine x_iload_n (i := 2) hC dL_isAhead_108 rfl 2 rfl ?_
                            refine x_if_le (t := 116) hC dL_isAhead_109 (by decide) (fun c981 => ?_) (fun c981 => ?_)
                            · replace h := it_t c981 h
                              refine x_iconst (v := (0 : Int32)) hC dL_isAhead_116 (by decide) ?_
                              refine x_sub (l' := [(0, va_rf r0), (1, .int i1), (2, .int v881), (3, .int v882)]) [0, 1, 2, 3] rfl ?_
                              exact J_117 _ _ _ _ _ h
                            · replace h := it_f c981 h
                              refine x_iconst (v := (1 : Int32)) hC dL_isAhead_112 (by decide) ?_
                              refine x_goto (t := 117) hC dL_isAhead_113 (by decide) ?_
                              refine x_sub (l' := [(0, va_rf r0), (1, .int i1), (2, .int v881), (3, .int v882)]) [0, 1, 2, 3] rfl ?_
                              exact J_117 _ _ _ _ _ h
                        · replace h := it_f c894 h
                          refine x_iload (i := 5) hC dL_isAhead_73 5 rfl ?_
                          refine x_if_ne (t := 88) hC dL_isAhead_75 (by decide) (fun c982 => ?_) (fun c982 => ?_)
                          · replace h := it_f c982 h
                            refine x_iconst (v := (1 : Int32)) hC dL_isAhead_88 (by decide) ?_
                            refine x_goto (t := 93) hC dL_isAhead_89 (by decide) ?_
                            refine x_istore (i := 5) (l' := [(5, .int (1 : Int32)), (0, va_rf r0), (1, .int i1), (2, .int v881), (3, .int v882), (4, .int v883), (6, .int v885)]) hC dL_isAhead_93 (⟨fun _ => c_rf r0, ⟨fun _ => rfl, ⟨fun _ => rfl, ⟨fun _ => rfl, ⟨fun _ => rfl, ⟨fun _ => rfl, ⟨fun _ => rfl, trivial⟩⟩⟩⟩⟩⟩⟩) (by decide) rfl ?_
                            refine x_iinc (i := 6) (v := (v885 + (1 : Int32))) (l' := [(6, .int (v885 + (1 : Int32))), (5, .int (1 : Int32)), (0, va_rf r0), (1, .int i1), (2, .int v881), (3, .int v882), (4, .int v883)]) hC dL_isAhead_95 6 rfl rfl (⟨fun _ => rfl, ⟨fun _ => c_rf r0, ⟨fun _ => rfl, ⟨fun _ => rfl, ⟨fun _ => rfl, ⟨fun _ => rfl, ⟨fun _ => rfl, trivial⟩⟩⟩⟩⟩⟩⟩) (by decide) rfl ?_
                            refine x_goto (t := 63) hC dL_isAhead_98 (by decide) ?_
                            refine x_sub (l' := [(0, va_rf r0), (1, .int i1), (2, .int v881), (3, .int v882), (4, .int v883), (5, .int (1 : Int32)), (6, .int (v885 + (1 : Int32)))]) [2, 3, 4, 5, 6, 1, 0] rfl ?_
                            have hb := bk_x h hg_63
                            exact hb
                          · replace h := it_t c982 h
                            refine x_aload_n (i := 0) hC dL_isAhead_78 rfl 0 rfl ?_
                            refine x_iload (i := 6) hC dL_isAhead_79 6 rfl ?_
                            replace h := dr_el h
                            obtain ⟨a983, ea984, ha985, h⟩ := h
                            replace h := bt_el h
                            obtain ⟨v986, S987, hb991, h⟩ | ⟨j988, S989, hb991, h⟩ := h
                            · refine x_callV hC (st := []) (mtr_X4_bestReviewer _ _ _ (v986, S987) hb991) ea984 ha985 kf_4 q_688 q_689 q_690 q_1 q_691 ⟨rfl, hy_X4_bestReviewer⟩ ⟨Nat.le_of_ble_eq_true rfl, Nat.le_of_ble_eq_true rfl⟩ ⟨Nat.le_of_ble_eq_true rfl, Nat.le_of_ble_eq_true rfl⟩ rfl (Nat.le_of_ble_eq_true rfl) dL_isAhead_81 (r_N ?_) r_NX
                              show PX Z 10 S987 0 0 84 [(0, va_rf r0), (1, .int i1), (2, .int v881), (3, .int v882), (4, .int v883), (5, .int v884), (6, .int v885)] [.int v986]
                              refine x_iconst (v := (-1 : Int32)) hC dL_isAhead_84 (by decide) ?_
                              refine x_icmp_eq (t := 92) hC dL_isAhead_85 (by decide) (fun c990 => ?_) (fun c990 => ?_)
                              · replace h := it_t c990 h
                                refine x_iconst (v := (0 : Int32)) hC dL_isAhead_92 (by decide) ?_
                                refine x_istore (i := 5) (l' := [(5, .int (0 : Int32)), (0, va_rf r0), (1, .int i1), (2, .int v881), (3, .int v882), (4, .int v883), (6, .int v885)]) hC dL_isAhead_93 (⟨fun _ => c_rf r0, ⟨fun _ => rfl, ⟨fun _ => rfl, ⟨fun _ => rfl, ⟨fun _ => rfl, ⟨fun _ => rfl, ⟨fun _ => rfl, trivial⟩⟩⟩⟩⟩⟩⟩) (by decide) rfl ?_
                                refine x_iinc (i := 6) (v := (v885 + (1 : Int32))) (l' := [(6, .int (v885 + (1 : Int32))), (5, .int (0 : Int32)), (0, va_rf r0), (1, .int i1), (2, .int v881), (3, .int v882), (4, .int v883)]) hC dL_isAhead_95 6 rfl rfl (⟨fun _ => rfl, ⟨fun _ => c_rf r0, ⟨fun _ => rfl, ⟨fun _ => rfl, ⟨fun _ => rfl, ⟨fun _ => rfl, ⟨fun _ => rfl, trivial⟩⟩⟩⟩⟩⟩⟩) (by decide) rfl ?_
                                refine x_goto (t := 63) hC dL_isAhead_98 (by decide) ?_
                                refine x_sub (l' := [(0, va_rf r0), (1, .int i1), (2, .int v881), (3, .int v882), (4, .int v883), (5, .int (0 : Int32)), (6, .int (v885 + (1 : Int32)))]) [2, 3, 4, 5, 6, 1, 0] rfl ?_
                                have hb := bk_x h hg_63
                                exact hb
                              · replace h := it_f c990 h
                                refine x_iconst (v := (1 : Int32)) hC dL_isAhead_88 (by decide) ?_
                                refine x_goto (t := 93) hC dL_isAhead_89 (by decide) ?_
                                refine x_istore (i := 5) (l' := [(5, .int (1 : Int32)), (0, va_rf r0), (1, .int i1), (2, .int v881), (3, .int v882), (4, .int v883), (6, .int v885)]) hC dL_isAhead_93 (⟨fun _ => c_rf r0, ⟨fun _ => rfl, ⟨fun _ => rfl, ⟨fun _ => rfl, ⟨fun _ => rfl, ⟨fun _ => rfl, ⟨fun _ => rfl, trivial⟩⟩⟩⟩⟩⟩⟩) (by decide) rfl ?_
                                refine x_iinc (i := 6) (v := (v885 + (1 : Int32))) (l' := [(6, .int (v885 + (1 : Int32))), (5, .int (1 : Int32)), (0, va_rf r0), (1, .int i1), (2, .int v881), (3, .int v882), (4, .int v883)]) hC dL_isAhead_95 6 rfl rfl (⟨fun _ => rfl, ⟨fun _ => c_rf r0, ⟨fun _ => rfl, ⟨fun _ => rfl, ⟨fun _ => rfl, ⟨fun _ => rfl, ⟨fun _ => rfl, trivial⟩⟩⟩⟩⟩⟩⟩) (by decide) rfl ?_
                                refine x_goto (t := 63) hC dL_isAhead_98 (by decide) ?_
                                refine x_sub (l' := [(0, va_rf r0), (1, .int i1), (2, .int v881), (3, .int v882), (4, .int v883), (5, .int (1 : Int32)), (6, .int (v885 + (1 : Int32)))]) [2, 3, 4, 5, 6, 1, 0] rfl ?_
                                have hb := bk_x h hg_63
                                exact hb
                            · refine x_callV hC (st := []) (mt_X4_bestReviewer _ _ _ _ hb991) ea984 ha985 kf_4 q_688 q_689 q_690 q_1 q_691 ⟨rfl, hy_X4_bestReviewer⟩ ⟨Nat.le_of_ble_eq_true rfl, Nat.le_of_ble_eq_true rfl⟩ ⟨Nat.le_of_ble_eq_true rfl, Nat.le_of_ble_eq_true rfl⟩ rfl (Nat.le_of_ble_eq_true rfl) dL_isAhead_81 r_X (r_XX ?_)
                              replace h := ir_x h hg_63
                              exact x_out hC hQ hE (z_X (Option.some.inj h)) (Nat.le_of_ble_eq_true rfl) (Nat.le_of_ble_eq_true rfl)
                      · refine x_callV hC (st := [.int v885]) (mt_X4_count _ _ _ _ hb992) ea888 ha889 kf_4 q_406 q_407 q_408 q_1 q_409 ⟨rfl, hy_X4_count⟩ ⟨Nat.le_of_ble_eq_true rfl, Nat.le_of_ble_eq_true rfl⟩ ⟨Nat.le_of_ble_eq_true rfl, Nat.le_of_ble_eq_true rfl⟩ rfl (Nat.le_of_ble_eq_true rfl) dL_isAhead_67 r_X (r_XX ?_)
                        replace h := ir_x h hg_63
                        exact x_out hC hQ hE (z_X (Option.some.inj h)) (Nat.le_of_ble_eq_true rfl) (Nat.le_of_ble_eq_true rfl)
                  · refine x_callV hC (st := []) (mt_X4_whyNot _ _ _ _ _ hb993) ea762 ha763 kf_4 q_445 q_446 q_447 q_1 q_448 ⟨rfl, hy_X4_whyNot⟩ ⟨Nat.le_of_ble_eq_true rfl, Nat.le_of_ble_eq_true rfl⟩ ⟨Nat.le_of_ble_eq_true rfl, Nat.le_of_ble_eq_true rfl⟩ rfl (Nat.le_of_ble_eq_true rfl) dL_isAhead_44 r_X (r_XX ?_)
                    exact x_out hC hQ hE (z_X (Option.some.inj h)) (Nat.le_of_ble_eq_true rfl) (Nat.le_of_ble_eq_true rfl)
            · refine x_callV hC (st := [.int ((2 : Int32) * v4)]) (mt_X4_count _ _ _ _ hb994) ea529 ha530 kf_4 q_406 q_407 q_408 q_1 q_409 ⟨rfl, hy_X4_count⟩ ⟨Nat.le_of_ble_eq_true rfl, Nat.le_of_ble_eq_true rfl⟩ ⟨Nat.le_of_ble_eq_true rfl, Nat.le_of_ble_eq_true rfl⟩ rfl (Nat.le_of_ble_eq_true rfl) dL_isAhead_30 r_X (r_XX ?_)
              exact x_out hC hQ hE (z_X (Option.some.inj h)) (Nat.le_of_ble_eq_true rfl) (Nat.le_of_ble_eq_true rfl)
      · refine x_callV hC (st := [.int v4]) (mt_X4_most _ _ _ _ hb995) ea16 ha17 kf_4 q_449 q_450 q_451 q_1 q_452 ⟨rfl, hy_X4_most⟩ ⟨Nat.le_of_ble_eq_true rfl, Nat.le_of_ble_eq_true rfl⟩ ⟨Nat.le_of_ble_eq_true rfl, Nat.le_of_ble_eq_true rfl⟩ rfl (Nat.le_of_ble_eq_true rfl) dL_isAhead_15 r_X (r_XX ?_)
        exact x_out hC hQ hE (z_X (Option.some.inj h)) (Nat.le_of_ble_eq_true rfl) (Nat.le_of_ble_eq_true rfl)
    · refine x_callV hC (st := []) (mt_X4_bestReviewer _ _ _ _ hb996) ea9 ha10 kf_4 q_688 q_689 q_690 q_1 q_691 ⟨rfl, hy_X4_bestReviewer⟩ ⟨Nat.le_of_ble_eq_true rfl, Nat.le_of_ble_eq_true rfl⟩ ⟨Nat.le_of_ble_eq_true rfl, Nat.le_of_ble_eq_true rfl⟩ rfl (Nat.le_of_ble_eq_true rfl) dL_isAhead_8 r_X (r_XX ?_)
      exact x_out hC hQ hE (z_X (Option.some.inj h)) (Nat.le_of_ble_eq_true rfl) (Nat.le_of_ble_eq_true rfl)
  · refine x_callV hC (st := []) (mt_X4_most _ _ _ _ hb997) ea2 ha3 kf_4 q_449 q_450 q_451 q_1 q_452 ⟨rfl, hy_X4_most⟩ ⟨Nat.le_of_ble_eq_true rfl, Nat.le_of_ble_eq_true rfl⟩ ⟨Nat.le_of_ble_eq_true rfl, Nat.le_of_ble_eq_true rfl⟩ rfl (Nat.le_of_ble_eq_true rfl) dL_isAhead_2 r_X (r_XX ?_)
    exact x_out hC hQ hE (z_X (Option.some.inj h)) (Nat.le_of_ble_eq_true rfl) (Nat.le_of_ble_eq_true rfl)
set_option maxRecDepth 100000 in
set_option maxHeartbeats 4000000 in
theorem mtr_L_isAhead (r0 : Option Nat) (i1 : Int32) (S0 : PH) (y0 : Int32 × PH) (h : m_L_isAhead r0 i1 S0 = some (.inr y0.1, y0.2)) : MT yL_isAhead (.code yL_isAhead cL_isAhead 10 (Option.some FieldType.boolean)) 8 138 0 0 [va_rf r0, .int i1] S0 (oQ e_I (qN y0)) := by
  generalize hyr : ((.inr y0.1 : Nat ⊕ Int32), y0.2) = y at h
  refine mt_of (own := RL) (l0 := [(0, va_rf r0), (1, .int i1)]) rfl rfl (by cases r0 <;> exact Nat.le_of_ble_eq_true rfl) (by cases r0 <;> rfl) ?_
  intro Z hC hQ hE hN
  have J_374 : ∀ (v44 : Int32) (v45 : Int32) (S46 : PH), j_L_isAhead_374 r0 i1 v44 v45 S46 = some y → PX Z 10 S46 0 0 374 [(0, va_rf r0), (1, .int i1), (2, .int v44), (4, .int v45)] [] := by
    intro v44 v45 S46 h
    unfold j_L_isAhead_374 at h
    refine x_iload (i := 4) hC dL_isAhead_374 3 rfl ?_
    refine x_if_eq (t := 392) hC dL_isAhead_376 (by decide) (fun c47 => ?_) (fun c47 => ?_)
    · replace h := it_t c47 h
      refine x_iconst (v := (0 : Int32)) hC dL_isAhead_392 (by decide) ?_
      exact x_zret hC hQ (by decide) (z_R hyr (Option.some.inj h)) (Nat.le_of_ble_eq_true rfl) (Nat.le_of_ble_eq_true rfl) dL_isAhead_393
    · replace h := it_f c47 h
      refine x_aload_n (i := 0) hC dL_isAhead_379 rfl 0 rfl ?_
      refine x_iconst (v := (0 : Int32)) hC dL_isAhead_380 (by decide) ?_
      replace h := dr_el h
      obtain ⟨a48, ea49, ha50, h⟩ := h
      replace h := bt_el h
      obtain ⟨v51, S52, hb56, h⟩ | ⟨j53, S54, hb56, h⟩ := h
      · refine x_callV hC (st := []) (mtr_X4_most _ _ _ (v51, S52) hb56) ea49 ha50 kf_4 q_449 q_450 q_451 q_1 q_452 ⟨rfl, hy_X4_most⟩ ⟨Nat.le_of_ble_eq_true rfl, Nat.le_of_ble_eq_true rfl⟩ ⟨Nat.le_of_ble_eq_true rfl, Nat.le_of_ble_eq_true rfl⟩ rfl (Nat.le_of_ble_eq_true rfl) dL_isAhead_381 (r_N ?_) r_NX
        show PX Z 10 S52 0 0 384 [(0, va_rf r0), (1, .int i1), (2, .int v44), (4, .int v45)] [.int v51]
        refine x_iload_n (i := 2) hC dL_isAhead_384 rfl 2 rfl ?_
        refine x_icmp_ne (t := 392) hC dL_isAhead_385 (by decide) (fun c55 => ?_) (fun c55 => ?_)
        · replace h := it_f c55 h
          refine x_iconst (v := (0 : Int32)) hC dL_isAhead_392 (by decide) ?_
          exact x_zret hC hQ (by decide) (z_R hyr (Option.some.inj h)) (Nat.le_of_ble_eq_true rfl) (Nat.le_of_ble_eq_true rfl) dL_isAhead_393
        · replace h := it_t c55 h
          refine x_iconst (v := (1 : Int32)) hC dL_isAhead_388 (by decide) ?_
          refine x_goto (t := 393) hC dL_isAhead_389 (by decide) ?_
          exact x_zret hC hQ (by decide) (z_R hyr (Option.some.inj h)) (Nat.le_of_ble_eq_true rfl) (Nat.le_of_ble_eq_true rfl) dL_isAhead_393
      · exact z_no hyr (Option.some.inj h)
  have J_117 : ∀ (v228 : Int32) (v229 : Int32) (v230 : Int32) (v231 : Int32) (S232 : PH), j_L_isAhead_117 r0 i1 v228 v229 v230 v231 S232 = some y → PX Z 10 S232 0 0 117 [(0, va_rf r0), (1, .int i1), (2, .int v228), (3, .int v229)] [.int v231, .int v230] := by
    intro v228 v229 v230 v231 S232 h
    unfold j_L_isAhead_117 at h
    refine x_icmp_ne (t := 124) hC dL_isAhead_117 (by decide) (fun c233 => ?_) (fun c233 => ?_)
    · replace h := it_f c233 h
      refine x_iconst (v := (0 : Int32)) hC dL_isAhead_124 (by decide) ?_
      refine x_istore (i := 4) (l' := [(4, .int (0 : Int32)), (0, va_rf r0), (1, .int i1), (2, .int v228), (3, .int v229)]) hC dL_isAhead_125 (⟨fun _ => c_rf r0, ⟨fun _ => rfl, ⟨fun _ => rfl, ⟨fun _ => rfl, trivial⟩⟩⟩⟩) (by decide) rfl ?_
      refine x_iconst (v := (0 : Int32)) hC dL_isAhead_127 (by decide) ?_
      refine x_istore (i := 6) (l' := [(6, .int (0 : Int32)), (4, .int (0 : Int32)), (0, va_rf r0), (1, .int i1), (2, .int v228), (3, .int v229)]) hC dL_isAhead_128 (⟨fun _ => rfl, ⟨fun _ => c_rf r0, ⟨fun _ => rfl, ⟨fun _ => rfl, ⟨fun _ => rfl, trivial⟩⟩⟩⟩⟩) (by decide) rfl ?_
      refine x_sub (l' := [(0, va_rf r0), (1, .int i1), (2, .int v228), (3, .int v229), (4, .int (0 : Int32)), (6, .int (0 : Int32))]) [2, 3, 4, 5, 1, 0] rfl ?_
      refine lp_sim (P := fun (t : (Int32 × Int32 × Int32 × Int32 × PH)) => PX Z 10 t.2.2.2.2 0 0 130 [(0, va_rf r0), (1, .int i1), (2, .int t.1), (3, .int t.2.1), (4, .int t.2.2.1), (6, .int t.2.2.2.1)] []) (G := fun r => r = y) ?_ h rfl
      clear h
      intro t x_130 h hg_130
      obtain ⟨v234, v235, v236, v237, S238⟩ := t
      show PX Z 10 S238 0 0 130 [(0, va_rf r0), (1, .int i1), (2, .int v234), (3, .int v235), (4, .int v236), (6, .int v237)] []
      have J_328 : ∀ (v117 : Int32) (v118 : Int32) (v119 : Int32) (v120 : Int32) (v121 : Int32) (S122 : PH), j_L_isAhead_328 r0 i1 v117 v118 v119 v120 v121 S122 = some x_130 → PX Z 10 S122 0 0 328 [(0, va_rf r0), (1, .int i1), (2, .int v117), (3, .int v118), (6, .int v119), (7, .int v120), (9, .int v121)] [] := by
        intro v117 v118 v119 v120 v121 S122 h
        unfold j_L_isAhead_328 at h
        refine x_iload (i := 7) hC dL_isAhead_328 5 rfl ?_
        refine x_iconst (v := (5 : Int32)) hC dL_isAhead_330 (by decide) ?_
        refine x_icmp_lt (t := 339) hC dL_isAhead_331 (by decide) (fun c123 => ?_) (fun c123 => ?_)
        · replace h := it_t c123 h
          refine x_iconst (v := (1 : Int32)) hC dL_isAhead_339 (by decide) ?_
          refine x_goto (t := 366) hC dL_isAhead_340 (by decide) ?_
          refine x_istore (i := 4) (l' := [(4, .int (1 : Int32)), (0, va_rf r0), (1, .int i1), (2, .int v117), (3, .int v118), (6, .int v119), (7, .int v120), (9, .int v121)]) hC dL_isAhead_366 (⟨fun _ => c_rf r0, ⟨fun _ => rfl, ⟨fun _ => rfl, ⟨fun _ => rfl, ⟨fun _ => rfl, ⟨fun _ => rfl, ⟨fun _ => rfl, trivial⟩⟩⟩⟩⟩⟩⟩) (by decide) rfl ?_
          refine x_iinc (i := 6) (v := (v119 + (1 : Int32))) (l' := [(6, .int (v119 + (1 : Int32))), (4, .int (1 : Int32)), (0, va_rf r0), (1, .int i1), (2, .int v117), (3, .int v118), (7, .int v120), (9, .int v121)]) hC dL_isAhead_368 5 rfl rfl (⟨fun _ => rfl, ⟨fun _ => c_rf r0, ⟨fun _ => rfl, ⟨fun _ => rfl, ⟨fun _ => rfl, ⟨fun _ => rfl, ⟨fun _ => rfl, ⟨fun _ => rfl, trivial⟩⟩⟩⟩⟩⟩⟩⟩) (by decide) rfl ?_
          refine x_goto (t := 130) hC dL_isAhead_371 (by decide) ?_
          refine x_sub (l' := [(0, va_rf r0), (1, .int i1), (2, .int v117), (3, .int v118), (4, .int (1 : Int32)), (6, .int (v119 + (1 : Int32)))]) [2, 3, 4, 5, 1, 0] rfl ?_
          have hb := bk_x h hg_130
          exact hb
        · replace h := it_f c123 h
          refine x_iload (i := 9) hC dL_isAhead_334 6 rfl ?_
          refine x_if_ne (t := 343) hC dL_isAhead_336 (by decide) (fun c124 => ?_) (fun c124 => ?_)
          · replace h := it_f c124 h
            refine x_iconst (v := (0 : Int32)) hC dL_isAhead_343 (by decide) ?_
            refine x_goto (t := 366) hC dL_isAhead_344 (by decide) ?_
            refine x_istore (i := 4) (l' := [(4, .int (0 : Int32)), (0, va_rf r0), (1, .int i1), (2, .int v117), (3, .int v118), (6, .int v119), (7, .int v120), (9, .int v121)]) hC dL_isAhead_366 (⟨fun _ => c_rf r0, ⟨fun _ => rfl, ⟨fun _ => rfl, ⟨fun _ => rfl, ⟨fun _ => rfl, ⟨fun _ => rfl, ⟨fun _ => rfl, trivial⟩⟩⟩⟩⟩⟩⟩) (by decide) rfl ?_
            refine x_iinc (i := 6) (v := (v119 + (1 : Int32))) (l' := [(6, .int (v119 + (1 : Int32))), (4, .int (0 : Int32)), (0, va_rf r0), (1, .int i1), (2, .int v117), (3, .int v118), (7, .int v120), (9, .int v121)]) hC dL_isAhead_368 5 rfl rfl (⟨fun _ => rfl, ⟨fun _ => c_rf r0, ⟨fun _ => rfl, ⟨fun _ => rfl, ⟨fun _ => rfl, ⟨fun _ => rfl, ⟨fun _ => rfl, ⟨fun _ => rfl, trivial⟩⟩⟩⟩⟩⟩⟩⟩) (by decide) rfl ?_
            refine x_goto (t := 130) hC dL_isAhead_371 (by decide) ?_
            refine x_sub (l' := [(0, va_rf r0), (1, .int i1), (2, .int v117), (3, .int v118), (4, .int (0 : Int32)), (6, .int (v119 + (1 : Int32)))]) [2, 3, 4, 5, 1, 0] rfl ?_
            have hb := bk_x h hg_130
            exact hb
          · replace h := it_t c124 h
            refine x_iconst (v := (1 : Int32)) hC dL_isAhead_339 (by decide) ?_
            refine x_goto (t := 366) hC dL_isAhead_340 (by decide) ?_
            refine x_istore (i := 4) (l' := [(4, .int (1 : Int32)), (0, va_rf r0), (1, .int i1), (2, .int v117), (3, .int v118), (6, .int v119), (7, .int v120), (9, .int v121)]) hC dL_isAhead_366 (⟨fun _ => c_rf r0, ⟨fun _ => rfl, ⟨fun _ => rfl, ⟨fun _ => rfl, ⟨fun _ => rfl, ⟨fun _ => rfl, ⟨fun _ => rfl, trivial⟩⟩⟩⟩⟩⟩⟩) (by decide) rfl ?_
            refine x_iinc (i := 6) (v := (v119 + (1 : Int32))) (l' := [(6, .int (v119 + (1 : Int32))), (4, .int (1 : Int32)), (0, va_rf r0), (1, .int i1), (2, .int v117), (3, .int v118), (7, .int v120), (9, .int v121)]) hC dL_isAhead_368 5 rfl rfl (⟨fun _ => rfl, ⟨fun _ => c_rf r0, ⟨fun _ => rfl, ⟨fun _ => rfl, ⟨fun _ => rfl, ⟨fun _ => rfl, ⟨fun _ => rfl, ⟨fun _ => rfl, trivial⟩⟩⟩⟩⟩⟩⟩⟩) (by decide) rfl ?_
            refine x_goto (t := 130) hC dL_isAhead_371 (by decide) ?_
            refine x_sub (l' := [(0, va_rf r0), (1, .int i1), (2, .int v117), (3, .int v118), (4, .int (1 : Int32)), (6, .int (v119 + (1 : Int32)))]) [2, 3, 4, 5, 1, 0] rfl ?_
            have hb := bk_x h hg_130
            exact hb
      have J_314 : ∀ (v107 : Int32) (v108 : Int32) (v109 : Int32) (v110 : Int32) (v111 : Int32) (v112 : Int32) (v113 : Int32) (S114 : PH), j_L_isAhead_314 r0 i1 v107 v108 v109 v110 v111 v112 v113 S114 = some x_130 → PX Z 10 S114 0 0 314 [(0, va_rf r0), (1, .int i1), (2, .int v107), (3, .int v108), (6, .int v109), (7, .int v110), (9, .int v111)] [.int v113, .int v112] := by
        intro v107 v108 v109 v110 v111 v112 v113 S114 h
        unfold j_L_isAhead_314 at h
        refine x_icmp_ne (t := 343) hC dL_isAhead_314 (by decide) (fun c115 => ?_) (fun c115 => ?_)
        · replace h := it_f c115 h
          refine x_iconst (v := (0 : Int32)) hC dL_isAhead_343 (by decide) ?_
          refine x_goto (t := 366) hC dL_isAhead_344 (by decide) ?_
          refine x_istore (i := 4) (l' := [(4, .int (0 : Int32)), (0, va_rf r0), (1, .int i1), (2, .int v107), (3, .int v108), (6, .int v109), (7, .int v110), (9, .int v111)]) hC dL_isAhead_366 (⟨fun _ => c_rf r0, ⟨fun _ => rfl, ⟨fun _ => rfl, ⟨fun _ => rfl, ⟨fun _ => rfl, ⟨fun _ => rfl, ⟨fun _ => rfl, trivial⟩⟩⟩⟩⟩⟩⟩) (by decide) rfl ?_
          refine x_iinc (i := 6) (v := (v109 + (1 : Int32))) (l' := [(6, .int (v109 + (1 : Int32))), (4, .int (0 : Int32)), (0, va_rf r0), (1, .int i1), (2, .int v107), (3, .int v108), (7, .int v110), (9, .int v111)]) hC dL_isAhead_368 5 rfl rfl (⟨fun _ => rfl, ⟨fun _ => c_rf r0, ⟨fun _ => rfl, ⟨fun _ => rfl, ⟨fun _ => rfl, ⟨fun _ => rfl, ⟨fun _ => rfl, ⟨fun _ => rfl, trivial⟩⟩⟩⟩⟩⟩⟩⟩) (by decide) rfl ?_
          refine x_goto (t := 130) hC dL_isAhead_371 (by decide) ?_
          refine x_sub (l' := [(0, va_rf r0), (1, .int i1), (2, .int v107), (3, .int v108), (4, .int (0 : Int32)), (6, .int (v109 + (1 : Int32)))]) [2, 3, 4, 5, 1, 0] rfl ?_
          have hb := bk_x h hg_130
          exact hb
        · replace h := it_t c115 h
          refine x_iload (i := 7) hC dL_isAhead_317 5 rfl ?_
          refine x_iconst (v := (4 : Int32)) hC dL_isAhead_319 (by decide) ?_
          refine x_icmp_ne (t := 328) hC dL_isAhead_320 (by decide) (fun c116 => ?_) (fun c116 => ?_)
          · replace h := it_f c116 h
            exact J_328 _ _ _ _ _ _ h
          · replace h := it_t c116 h
            refine x_iload (i := 9) hC dL_isAhead_323 6 rfl ?_
            refine x_if_eq (t := 343) hC dL_isAhead_325 (by decide) (fun c125 => ?_) (fun c125 => ?_)
            · replace h := it_t c125 h
              refine x_iconst (v := (0 : Int32)) hC dL_isAhead_343 (by decide) ?_
              refine x_goto (t := 366) hC dL_isAhead_344 (by decide) ?_
              refine x_istore (i := 4) (l' := [(4, .int (0 : Int32)), (0, va_rf r0), (1, .int i1), (2, .int v107), (3, .int v108), (6, .int v109), (7, .int v110), (9, .int v111)]) hC dL_isAhead_366 (⟨fun _ => c_rf r0, ⟨fun _ => rfl, ⟨fun _ => rfl, ⟨fun _ => rfl, ⟨fun _ => rfl, ⟨fun _ => rfl, ⟨fun _ => rfl, trivial⟩⟩⟩⟩⟩⟩⟩) (by decide) rfl ?_
              refine x_iinc (i := 6) (v := (v109 + (1 : Int32))) (l' := [(6, .int (v109 + (1 : Int32))), (4, .int (0 : Int32)), (0, va_rf r0), (1, .int i1), (2, .int v107), (3, .int v108), (7, .int v110), (9, .int v111)]) hC dL_isAhead_368 5 rfl rfl (⟨fun _ => rfl, ⟨fun _ => c_rf r0, ⟨fun _ => rfl, ⟨fun _ => rfl, ⟨fun _ => rfl, ⟨fun _ => rfl, ⟨fun _ => rfl, ⟨fun _ => rfl, trivial⟩⟩⟩⟩⟩⟩⟩⟩) (by decide) rfl ?_
              refine x_goto (t := 130) hC dL_isAhead_371 (by decide) ?_
              refine x_sub (l' := [(0, va_rf r0), (1, .int i1), (2, .int v107), (3, .int v108), (4, .int (0 : Int32)), (6, .int (v109 + (1 : Int32)))]) [2, 3, 4, 5, 1, 0] rfl ?_
              have hb := bk_x h hg_130
              exact hb
            · replace h := it_f c125 h
              exact J_328 _ _ _ _ _ _ h
      have J_271 : ∀ (v92 : Int32) (v93 : Int32) (v94 : Int32) (v95 : Int32) (v96 : Int32) (v97 : Int32) (S98 : PH), j_L_isAhead_271 r0 i1 v92 v93 v94 v95 v96 v97 S98 = some x_130 → PX Z 10 S98 0 0 271 [(0, va_rf r0), (1, .int i1), (2, .int v92), (3, .int v93), (6, .int v94), (7, .int v95), (9, .int v96)] [.int v97] := by
        intro v92 v93 v94 v95 v96 v97 S98 h
        unfold j_L_isAhead_271 at h
        refine x_aload_n (i := 0) hC dL_isAhead_271 rfl 0 rfl ?_
        refine x_iload_n (i := 1) hC dL_isAhead_272 rfl 1 rfl ?_
        refine x_bipush (v := (8 : Int32)) hC dL_isAhead_273 (by decide) ?_
        replace h := dr_el h
        obtain ⟨a99, ea100, ha101, h⟩ := h
        replace h := bt_el h
        obtain ⟨v102, S103, hb155, h⟩ | ⟨j104, S105, hb155, h⟩ := h
        · refine x_callV hC (st := [.int v97]) (mtr_X4_paperOf _ _ _ _ (v102, S103) hb155) ea100 ha101 kf_4 q_527 q_528 q_529 q_1 q_530 ⟨rfl, hy_X4_paperOf⟩ ⟨Nat.le_of_ble_eq_true rfl, Nat.le_of_ble_eq_true rfl⟩ ⟨Nat.le_of_ble_eq_true rfl, Nat.le_of_ble_eq_true rfl⟩ rfl (Nat.le_of_ble_eq_true rfl) dL_isAhead_275 (r_N ?_) r_NX
          show PX Z 10 S103 0 0 278 [(0, va_rf r0), (1, .int i1), (2, .int v92), (3, .int v93), (6, .int v94), (7, .int v95), (9, .int v96)] [.int v102, .int v97]
          refine x_if_ne (t := 313) hC dL_isAhead_278 (by decide) (fun c106 => ?_) (fun c106 => ?_)
          · replace h := it_f c106 h
            refine x_iconst (v := (0 : Int32)) hC dL_isAhead_313 (by decide) ?_
            exact J_314 _ _ _ _ _ _ _ _ h
          · replace h := it_t c106 h
            refine x_aload_n (i := 0) hC dL_isAhead_281 rfl 0 rfl ?_
            refine x_iload (i := 6) hC dL_isAhead_282 4 rfl ?_
            refine x_iload_n (i := 1) hC dL_isAhead_284 rfl 1 rfl ?_
            replace h := dr_el h
            obtain ⟨a126, ea127, ha128, h⟩ := h
            replace h := bt_el h
            obtain ⟨v129, S130, hb154, h⟩ | ⟨j131, S132, hb154, h⟩ := h
            · refine x_callV hC (st := [.int v97]) (mtr_X4_score _ _ _ _ (v129, S130) hb154) ea127 ha128 kf_4 q_548 q_549 q_550 q_1 q_551 ⟨rfl, hy_X4_score⟩ ⟨Nat.le_of_ble_eq_true rfl, Nat.le_of_ble_eq_true rfl⟩ ⟨Nat.le_of_ble_eq_true rfl, Nat.le_of_ble_eq_true rfl⟩ rfl (Nat.le_of_ble_eq_true rfl) dL_isAhead_285 (r_N ?_) r_NX
              show PX Z 10 S130 0 0 288 [(0, va_rf r0), (1, .int i1), (2, .int v92), (3, .int v93), (6, .int v94), (7, .int v95), (9, .int v96)] [.int v129, .int v97]
              refine x_iconst (v := (-1 : Int32)) hC dL_isAhead_288 (by decide) ?_
              refine x_icmp_ne (t := 313) hC dL_isAhead_289 (by decide) (fun c133 => ?_) (fun c133 => ?_)
              · replace h := it_f c133 h
                refine x_iconst (v := (0 : Int32)) hC dL_isAhead_313 (by decide) ?_
                exact J_314 _ _ _ _ _ _ _ _ h
              · replace h := it_t c133 h
                refine x_aload_n (i := 0) hC dL_isAhead_292 rfl 0 rfl ?_
                refine x_iload_n (i := 1) hC dL_isAhead_293 rfl 1 rfl ?_
                refine x_iconst (v := (2 : Int32)) hC dL_isAhead_294 (by decide) ?_
                replace h := dr_el h
                obtain ⟨a134, ea135, ha136, h⟩ := h
                replace h := bt_el h
                obtain ⟨v137, S138, hb153, h⟩ | ⟨j139, S140, hb153, h⟩ := h
                · refine x_callV hC (st := [.int v97]) (mtr_X4_paperOf _ _ _ _ (v137, S138) hb153) ea135 ha136 kf_4 q_527 q_528 q_529 q_1 q_530 ⟨rfl, hy_X4_paperOf⟩ ⟨Nat.le_of_ble_eq_true rfl, Nat.le_of_ble_eq_true rfl⟩ ⟨Nat.le_of_ble_eq_true rfl, Nat.le_of_ble_eq_true rfl⟩ rfl (Nat.le_of_ble_eq_true rfl) dL_isAhead_295 (r_N ?_) r_NX
                  show PX Z 10 S138 0 0 298 [(0, va_rf r0), (1, .int i1), (2, .int v92), (3, .int v93), (6, .int v94), (7, .int v95), (9, .int v96)] [.int v137, .int v97]
                  replace h := bd_el h
                  obtain ⟨v141, S142, hb143, h⟩ := h
                  refine x_callS hC (st := [.int v97]) (mt_L_bits _ _ _ hb143) q_656 q_657 q_0 q_658 hy_L_bits ⟨Nat.le_of_ble_eq_true rfl, Nat.le_of_ble_eq_true rfl⟩ ⟨Nat.le_of_ble_eq_true rfl, Nat.le_of_ble_eq_true rfl⟩ rfl (Nat.le_of_ble_eq_true rfl) dL_isAhead_298 (r_N ?_) r_NX
                  show PX Z 10 S142 0 0 301 [(0, va_rf r0), (1, .int i1), (2, .int v92), (3, .int v93), (6, .int v94), (7, .int v95), (9, .int v96)] [.int v141, .int v97]
                  refine x_aload_n (i := 0) hC dL_isAhead_301 rfl 0 rfl ?_
                  refine x_iconst (v := (0 : Int32)) hC dL_isAhead_302 (by decide) ?_
                  replace h := dr_el h
                  obtain ⟨a144, ea145, ha146, h⟩ := h
                  replace h := bt_el h
                  obtain ⟨v147, S148, hb152, h⟩ | ⟨j149, S150, hb152, h⟩ := h
                  · refine x_callV hC (st := [.int v141, .int v97]) (mtr_X4_setting _ _ _ (v147, S148) hb152) ea145 ha146 kf_4 q_552 q_553 q_554 q_1 q_555 ⟨rfl, hy_X4_setting⟩ ⟨Nat.le_of_ble_eq_true rfl, Nat.le_of_ble_eq_true rfl⟩ ⟨Nat.le_of_ble_eq_true rfl, Nat.le_of_ble_eq_true rfl⟩ rfl (Nat.le_of_ble_eq_true rfl) dL_isAhead_303 (r_N ?_) r_NX
                    show PX Z 10 S148 0 0 306 [(0, va_rf r0), (1, .int i1), (2, .int v92), (3, .int v93), (6, .int v94), (7, .int v95), (9, .int v96)] [.int v147, .int v141, .int v97]
                    refine x_icmp_ge (t := 313) hC dL_isAhead_306 (by decide) (fun c151 => ?_) (fun c151 => ?_)
                    · replace h := it_t c151 h
                      refine x_iconst (v := (0 : Int32)) hC dL_isAhead_313 (by decide) ?_
                      exact J_314 _ _ _ _ _ _ _ _ h
                    · replace h := it_f c151 h
                      refine x_iconst (v := (1 : Int32)) hC dL_isAhead_309 (by decide) ?_
                      refine x_goto (t := 314) hC dL_isAhead_310 (by decide) ?_
                      exact J_314 _ _ _ _ _ _ _ _ h
                  · replace h := ir_x h hg_130; exact z_no hyr (Option.some.inj h)
                · replace h := ir_x h hg_130; exact z_no hyr (Option.some.inj h)
            · replace h := ir_x h hg_130; exact z_no hyr (Option.some.inj h)
        · replace h := ir_x h hg_130; exact z_no hyr (Option.some.inj h)
      have J_253 : ∀ (v80 : Int32) (v81 : Int32) (v82 : Int32) (v83 : Int32) (v84 : Int32) (v85 : Int32) (S86 : PH), j_L_isAhead_253 r0 i1 v80 v81 v82 v83 v84 v85 S86 = some x_130 → PX Z 10 S86 0 0 253 [(0, va_rf r0), (1, .int i1), (2, .int v80), (3, .int v81), (6, .int v82), (7, .int v83), (8, .int v84)] [.int v85] := by
        intro v80 v81 v82 v83 v84 v85 S86 h
        unfold j_L_isAhead_253 at h
        refine x_istore (i := 9) (l' := [(9, .int v85), (0, va_rf r0), (1, .int i1), (2, .int v80), (3, .int v81), (6, .int v82), (7, .int v83), (8, .int v84)]) hC dL_isAhead_253 (⟨fun _ => c_rf r0, ⟨fun _ => rfl, ⟨fun _ => rfl, ⟨fun _ => rfl, ⟨fun _ => rfl, ⟨fun _ => rfl, ⟨fun _ => rfl, trivial⟩⟩⟩⟩⟩⟩⟩) (by decide) rfl ?_
        refine x_iload (i := 7) hC dL_isAhead_255 6 rfl ?_
        refine x_if_le (t := 347) hC dL_isAhead_257 (by decide) (fun c87 => ?_) (fun c87 => ?_)
        · replace h := it_t c87 h
          refine x_iload_n (i := 3) hC dL_isAhead_347 rfl 4 rfl ?_
          refine x_if_lt (t := 365) hC dL_isAhead_348 (by decide) (fun c88 => ?_) (fun c88 => ?_)
          · replace h := it_t c88 h
            refine x_iconst (v := (0 : Int32)) hC dL_isAhead_365 (by decide) ?_
            refine x_istore (i := 4) (l' := [(4, .int (0 : Int32)), (9, .int v85), (0, va_rf r0), (1, .int i1), (2, .int v80), (3, .int v81), (6, .int v82), (7, .int v83), (8, .int v84)]) hC dL_isAhead_366 (⟨fun _ => rfl, ⟨fun _ => c_rf r0, ⟨fun _ => rfl, ⟨fun _ => rfl, ⟨fun _ => rfl, ⟨fun _ => rfl, ⟨fun _ => rfl, ⟨fun _ => rfl, trivial⟩⟩⟩⟩⟩⟩⟩⟩) (by decide) rfl ?_
            refine x_iinc (i := 6) (v := (v82 + (1 : Int32))) (l' := [(6, .int (v82 + (1 : Int32))), (4, .int (0 : Int32)), (9, .int v85), (0, va_rf r0), (1, .int i1), (2, .int v80), (3, .int v81), (7, .int v83), (8, .int v84)]) hC dL_isAhead_368 6 rfl rfl (⟨fun _ => rfl, ⟨fun _ => rfl, ⟨fun _ => c_rf r0, ⟨fun _ => rfl, ⟨fun _ => rfl, ⟨fun _ => rfl, ⟨fun _ => rfl, ⟨fun _ => rfl, ⟨fun _ => rfl, trivial⟩⟩⟩⟩⟩⟩⟩⟩⟩) (by decide) rfl ?_
            refine x_goto (t := 130) hC dL_isAhead_371 (by decide) ?_
            refine x_sub (l' := [(0, va_rf r0), (1, .int i1), (2, .int v80), (3, .int v81), (4, .int (0 : Int32)), (6, .int (v82 + (1 : Int32)))]) [3, 4, 5, 6, 1, 0] rfl ?_
            have hb := bk_x h hg_130
            exact hb
          · replace h := it_f c88 h
            refine x_iload (i := 8) hC dL_isAhead_351 7 rfl ?_
            refine x_if_ne (t := 365) hC dL_isAhead_353 (by decide) (fun c89 => ?_) (fun c89 => ?_)
            · replace h := it_f c89 h
              refine x_iconst (v := (0 : Int32)) hC dL_isAhead_365 (by decide) ?_
              refine x_istore (i := 4) (l' := [(4, .int (0 : Int32)), (9, .int v85), (0, va_rf r0), (1, .int i1), (2, .int v80), (3, .int v81), (6, .int v82), (7, .int v83), (8, .int v84)]) hC dL_isAhead_366 (⟨fun _ => rfl, ⟨fun _ => c_rf r0, ⟨fun _ => rfl, ⟨fun _ => rfl, ⟨fun _ => rfl, ⟨fun _ => rfl, ⟨fun _ => rfl, ⟨fun _ => rfl, trivial⟩⟩⟩⟩⟩⟩⟩⟩) (by decide) rfl ?_
              refine x_iinc (i := 6) (v := (v82 + (1 : Int32))) (l' := [(6, .int (v82 + (1 : Int32))), (4, .int (0 : Int32)), (9, .int v85), (0, va_rf r0), (1, .int i1), (2, .int v80), (3, .int v81), (7, .int v83), (8, .int v84)]) hC dL_isAhead_368 6 rfl rfl (⟨fun _ => rfl, ⟨fun _ => rfl, ⟨fun _ => c_rf r0, ⟨fun _ => rfl, ⟨fun _ => rfl, ⟨fun _ => rfl, ⟨fun _ => rfl, ⟨fun _ => rfl, ⟨fun _ => rfl, trivial⟩⟩⟩⟩⟩⟩⟩⟩⟩) (by decide) rfl ?_
              refine x_goto (t := 130) hC dL_isAhead_371 (by decide) ?_
              refine x_sub (l' := [(0, va_rf r0), (1, .int i1), (2, .int v80), (3, .int v81), (4, .int (0 : Int32)), (6, .int (v82 + (1 : Int32)))]) [3, 4, 5, 6, 1, 0] rfl ?_
              have hb := bk_x h hg_130
              exact hb
            · replace h := it_t c89 h
              refine x_iload (i := 9) hC dL_isAhead_356 0 rfl ?_
              refine x_if_ne (t := 365) hC dL_isAhead_358 (by decide) (fun c90 => ?_) (fun c90 => ?_)
              · replace h := it_f c90 h
                refine x_iconst (v := (0 : Int32)) hC dL_isAhead_365 (by decide) ?_
                refine x_istore (i := 4) (l' := [(4, .int (0 : Int32)), (9, .int v85), (0, va_rf r0), (1, .int i1), (2, .int v80), (3, .int v81), (6, .int v82), (7, .int v83), (8, .int v84)]) hC dL_isAhead_366 (⟨fun _ => rfl, ⟨fun _ => c_rf r0, ⟨fun _ => rfl, ⟨fun _ => rfl, ⟨fun _ => rfl, ⟨fun _ => rfl, ⟨fun _ => rfl, ⟨fun _ => rfl, trivial⟩⟩⟩⟩⟩⟩⟩⟩) (by decide) rfl ?_
                refine x_iinc (i := 6) (v := (v82 + (1 : Int32))) (l' := [(6, .int (v82 + (1 : Int32))), (4, .int (0 : Int32)), (9, .int v85), (0, va_rf r0), (1, .int i1), (2, .int v80), (3, .int v81), (7, .int v83), (8, .int v84)]) hC dL_isAhead_368 6 rfl rfl (⟨fun _ => rfl, ⟨fun _ => rfl, ⟨fun _ => c_rf r0, ⟨fun _ => rfl, ⟨fun _ => rfl, ⟨fun _ => rfl, ⟨fun _ => rfl, ⟨fun _ => rfl, ⟨fun _ => rfl, trivial⟩⟩⟩⟩⟩⟩⟩⟩⟩) (by decide) rfl ?_
                refine x_goto (t := 130) hC dL_isAhead_371 (by decide) ?_
                refine x_sub (l' := [(0, va_rf r0), (1, .int i1), (2, .int v80), (3, .int v81), (4, .int (0 : Int32)), (6, .int (v82 + (1 : Int32)))]) [3, 4, 5, 6, 1, 0] rfl ?_
                have hb := bk_x h hg_130
                exact hb
              · replace h := it_t c90 h
                refine x_iconst (v := (1 : Int32)) hC dL_isAhead_361 (by decide) ?_
                refine x_goto (t := 366) hC dL_isAhead_362 (by decide) ?_
                refine x_istore (i := 4) (l' := [(4, .int (1 : Int32)), (9, .int v85), (0, va_rf r0), (1, .int i1), (2, .int v80), (3, .int v81), (6, .int v82), (7, .int v83), (8, .int v84)]) hC dL_isAhead_366 (⟨fun _ => rfl, ⟨fun _ => c_rf r0, ⟨fun _ => rfl, ⟨fun _ => rfl, ⟨fun _ => rfl, ⟨fun _ => rfl, ⟨fun _ => rfl, ⟨fun _ => rfl, trivial⟩⟩⟩⟩⟩⟩⟩⟩) (by decide) rfl ?_
                refine x_iinc (i := 6) (v := (v82 + (1 : Int32))) (l' := [(6, .int (v82 + (1 : Int32))), (4, .int (1 : Int32)), (9, .int v85), (0, va_rf r0), (1, .int i1), (2, .int v80), (3, .int v81), (7, .int v83), (8, .int v84)]) hC dL_isAhead_368 6 rfl rfl (⟨fun _ => rfl, ⟨fun _ => rfl, ⟨fun _ => c_rf r0, ⟨fun _ => rfl, ⟨fun _ => rfl, ⟨fun _ => rfl, ⟨fun _ => rfl, ⟨fun _ => rfl, ⟨fun _ => rfl, trivial⟩⟩⟩⟩⟩⟩⟩⟩⟩) (by decide) rfl ?_
                refine x_goto (t := 130) hC dL_isAhead_371 (by decide) ?_
                refine x_sub (l' := [(0, va_rf r0), (1, .int i1), (2, .int v80), (3, .int v81), (4, .int (1 : Int32)), (6, .int (v82 + (1 : Int32)))]) [3, 4, 5, 6, 1, 0] rfl ?_
                have hb := bk_x h hg_130
                exact hb
        · replace h := it_f c87 h
          refine x_iload (i := 7) hC dL_isAhead_260 6 rfl ?_
          refine x_iconst (v := (4 : Int32)) hC dL_isAhead_262 (by decide) ?_
          refine x_icmp_lt (t := 270) hC dL_isAhead_263 (by decide) (fun c91 => ?_) (fun c91 => ?_)
          · replace h := it_t c91 h
            refine x_iconst (v := (0 : Int32)) hC dL_isAhead_270 (by decide) ?_
            refine x_sub (l' := [(0, va_rf r0), (1, .int i1), (2, .int v80), (3, .int v81), (6, .int v82), (7, .int v83), (9, .int v85)]) [1, 2, 3, 4, 5, 6, 0] rfl ?_
            exact J_271 _ _ _ _ _ _ _ h
          · replace h := it_f c91 h
            refine x_iconst (v := (1 : Int32)) hC dL_isAhead_266 (by decide) ?_
            refine x_goto (t := 271) hC dL_isAhead_267 (by decide) ?_
            refine x_sub (l' := [(0, va_rf r0), (1, .int i1), (2, .int v80), (3, .int v81), (6, .int v82), (7, .int v83), (9, .int v85)]) [1, 2, 3, 4, 5, 6, 0] rfl ?_
            exact J_271 _ _ _ _ _ _ _ h
      have J_230 : ∀ (v66 : Int32) (v67 : Int32) (v68 : Int32) (v69 : Int32) (v70 : Int32) (S71 : PH), j_L_isAhead_230 r0 i1 v66 v67 v68 v69 v70 S71 = some x_130 → PX Z 10 S71 0 0 230 [(0, va_rf r0), (1, .int i1), (2, .int v66), (3, .int v67), (6, .int v68), (7, .int v69)] [.int v70] := by
        intro v66 v67 v68 v69 v70 S71 h
        unfold j_L_isAhead_230 at h
        refine x_istore (i := 8) (l' := [(8, .int v70), (0, va_rf r0), (1, .int i1), (2, .int v66), (3, .int v67), (6, .int v68), (7, .int v69)]) hC dL_isAhead_230 (⟨fun _ => c_rf r0, ⟨fun _ => rfl, ⟨fun _ => rfl, ⟨fun _ => rfl, ⟨fun _ => rfl, ⟨fun _ => rfl, trivial⟩⟩⟩⟩⟩⟩) (by decide) rfl ?_
        refine x_aload_n (i := 0) hC dL_isAhead_232 rfl 1 rfl ?_
        refine x_iload (i := 6) hC dL_isAhead_233 5 rfl ?_
        refine x_bipush (v := (8 : Int32)) hC dL_isAhead_235 (by decide) ?_
        replace h := dr_el h
        obtain ⟨a72, ea73, ha74, h⟩ := h
        replace h := bt_el h
        obtain ⟨v75, S76, hb156, h⟩ | ⟨j77, S78, hb156, h⟩ := h
        · refine x_callV hC (st := []) (mtr_X4_personOf _ _ _ _ (v75, S76) hb156) ea73 ha74 kf_4 q_506 q_507 q_508 q_1 q_509 ⟨rfl, hy_X4_personOf⟩ ⟨Nat.le_of_ble_eq_true rfl, Nat.le_of_ble_eq_true rfl⟩ ⟨Nat.le_of_ble_eq_true rfl, Nat.le_of_ble_eq_true rfl⟩ rfl (Nat.le_of_ble_eq_true rfl) dL_isAhead_237 (r_N ?_) r_NX
          show PX Z 10 S76 0 0 240 [(8, .int v70), (0, va_rf r0), (1, .int i1), (2, .int v66), (3, .int v67), (6, .int v68), (7, .int v69)] [.int v75]
          refine x_iload_n (i := 1) hC dL_isAhead_240 rfl 2 rfl ?_
          refine x_ishr hC dL_isAhead_241 ?_
          refine x_iconst (v := (1 : Int32)) hC dL_isAhead_242 (by decide) ?_
          refine x_iand hC dL_isAhead_243 ?_
          refine x_iconst (v := (1 : Int32)) hC dL_isAhead_244 (by decide) ?_
          refine x_icmp_ne (t := 252) hC dL_isAhead_245 (by decide) (fun c79 => ?_) (fun c79 => ?_)
          · replace h := it_f c79 h
            refine x_iconst (v := (0 : Int32)) hC dL_isAhead_252 (by decide) ?_
            refine x_sub (l' := [(0, va_rf r0), (1, .int i1), (2, .int v66), (3, .int v67), (6, .int v68), (7, .int v69), (8, .int v70)]) [1, 2, 3, 4, 5, 6, 0] rfl ?_
            exact J_253 _ _ _ _ _ _ _ h
          · replace h := it_t c79 h
            refine x_iconst (v := (1 : Int32)) hC dL_isAhead_248 (by decide) ?_
            refine x_goto (t := 253) hC dL_isAhead_249 (by decide) ?_
            refine x_sub (l' := [(0, va_rf r0), (1, .int i1), (2, .int v66), (3, .int v67), (6, .int v68), (7, .int v69), (8, .int v70)]) [1, 2, 3, 4, 5, 6, 0] rfl ?_
            exact J_253 _ _ _ _ _ _ _ h
        · replace h := ir_x h hg_130; exact z_no hyr (Option.some.inj h)
      unfold st_L_isAhead_130 at h
      refine x_iload (i := 6) hC dL_isAhead_130 5 rfl ?_
      refine x_bipush (v := (8 : Int32)) hC dL_isAhead_132 (by decide) ?_
      refine x_icmp_ge (t := 374) hC dL_isAhead_134 (by decide) (fun c239 => ?_) (fun c239 => ?_)
      · replace h := it_t c239 h
        replace h := ir_x h hg_130
        refine x_sub (l' := [(0, va_rf r0), (1, .int i1), (2, .int v234), (4, .int v236)]) [0, 1, 2, 4] rfl ?_
        exact J_374 _ _ _ h
      · replace h := it_f c239 h
        refine x_iload (i := 4) hC dL_isAhead_137 4 rfl ?_
        refine x_if_eq (t := 374) hC dL_isAhead_139 (by decide) (fun c240 => ?_) (fun c240 => ?_)
        · replace h := it_t c240 h
          replace h := ir_x h hg_130
          refine x_sub (l' := [(0, va_rf r0), (1, .int i1), (2, .int v234), (4, .int v236)]) [0, 1, 2, 4] rfl ?_
          exact J_374 _ _ _ h
        · replace h := it_f c240 h
          refine x_aload_n (i := 0) hC dL_isAhead_142 rfl 0 rfl ?_
          refine x_iload (i := 6) hC dL_isAhead_143 5 rfl ?_
          refine x_iload_n (i := 1) hC dL_isAhead_145 rfl 1 rfl ?_
          replace h := dr_el h
          obtain ⟨a241, ea242, ha243, h⟩ := h
          replace h := bt_el h
          obtain ⟨v244, S245, hb318, h⟩ | ⟨j246, S247, hb318, h⟩ := h
          · refine x_callV hC (st := []) (mtr_X4_whyNot _ _ _ _ (v244, S245) hb318) ea242 ha243 kf_4 q_445 q_446 q_447 q_1 q_448 ⟨rfl, hy_X4_whyNot⟩ ⟨Nat.le_of_ble_eq_true rfl, Nat.le_of_ble_eq_true rfl⟩ ⟨Nat.le_of_ble_eq_true rfl, Nat.le_of_ble_eq_true rfl⟩ rfl (Nat.le_of_ble_eq_true rfl) dL_isAhead_146 (r_N ?_) r_NX
            show PX Z 10 S245 0 0 149 [(0, va_rf r0), (1, .int i1), (2, .int v234), (3, .int v235), (4, .int v236), (6, .int v237)] [.int v244]
            refine x_istore (i := 7) (l' := [(7, .int v244), (0, va_rf r0), (1, .int i1), (2, .int v234), (3, .int v235), (4, .int v236), (6, .int v237)]) hC dL_isAhead_149 (⟨fun _ => c_rf r0, ⟨fun _ => rfl, ⟨fun _ => rfl, ⟨fun _ => rfl, ⟨fun _ => rfl, ⟨fun _ => rfl, trivial⟩⟩⟩⟩⟩⟩) (by decide) rfl ?_
            refine x_iload_n (i := 3) hC dL_isAhead_151 rfl 4 rfl ?_
            refine x_if_lt (t := 229) hC dL_isAhead_152 (by decide) (fun c248 => ?_) (fun c248 => ?_)
            · replace h := it_t c248 h
              refine x_iconst (v := (0 : Int32)) hC dL_isAhead_229 (by decide) ?_
              refine x_sub (l' := [(0, va_rf r0), (1, .int i1), (2, .int v234), (3, .int v235), (6, .int v237), (7, .int v244)]) [1, 2, 3, 4, 6, 0] rfl ?_
              exact J_230 _ _ _ _ _ _ h
            · replace h := it_f c248 h
              refine x_aload_n (i := 0) hC dL_isAhead_155 rfl 1 rfl ?_
              refine x_iload (i := 6) hC dL_isAhead_156 6 rfl ?_
              refine x_iconst (v := (3 : Int32)) hC dL_isAhead_158 (by decide) ?_
              replace h := dr_el h
              obtain ⟨a249, ea250, ha251, h⟩ := h
              replace h := bt_el h
              obtain ⟨v252, S253, hb317, h⟩ | ⟨j254, S255, hb317, h⟩ := h
              · refine x_callV hC (st := []) (mtr_X4_personOf _ _ _ _ (v252, S253) hb317) ea250 ha251 kf_4 q_506 q_507 q_508 q_1 q_509 ⟨rfl, hy_X4_personOf⟩ ⟨Nat.le_of_ble_eq_true rfl, Nat.le_of_ble_eq_true rfl⟩ ⟨Nat.le_of_ble_eq_true rfl, Nat.le_of_ble_eq_true rfl⟩ rfl (Nat.le_of_ble_eq_true rfl) dL_isAhead_159 (r_N ?_) r_NX
                show PX Z 10 S253 0 0 162 [(7, .int v244), (0, va_rf r0), (1, .int i1), (2, .int v234), (3, .int v235), (4, .int v236), (6, .int v237)] [.int v252]
                refine x_aload_n (i := 0) hC dL_isAhead_162 rfl 1 rfl ?_
                refine x_iload_n (i := 3) hC dL_isAhead_163 rfl 4 rfl ?_
                refine x_iconst (v := (3 : Int32)) hC dL_isAhead_164 (by decide) ?_
                replace h := dr_el h
                obtain ⟨a256, ea257, ha258, h⟩ := h
                replace h := bt_el h
                obtain ⟨v259, S260, hb316, h⟩ | ⟨j261, S262, hb316, h⟩ := h
                · refine x_callV hC (st := [.int v252]) (mtr_X4_personOf _ _ _ _ (v259, S260) hb316) ea257 ha258 kf_4 q_506 q_507 q_508 q_1 q_509 ⟨rfl, hy_X4_personOf⟩ ⟨Nat.le_of_ble_eq_true rfl, Nat.le_of_ble_eq_true rfl⟩ ⟨Nat.le_of_ble_eq_true rfl, Nat.le_of_ble_eq_true rfl⟩ rfl (Nat.le_of_ble_eq_true rfl) dL_isAhead_165 (r_N ?_) r_NX
                  show PX Z 10 S260 0 0 168 [(7, .int v244), (0, va_rf r0), (1, .int i1), (2, .int v234), (3, .int v235), (4, .int v236), (6, .int v237)] [.int v259, .int v252]
                  refine x_icmp_lt (t := 225) hC dL_isAhead_168 (by decide) (fun c263 => ?_) (fun c263 => ?_)
                  · replace h := it_t c263 h
                    refine x_iconst (v := (1 : Int32)) hC dL_isAhead_225 (by decide) ?_
                    refine x_goto (t := 230) hC dL_isAhead_226 (by decide) ?_
                    refine x_sub (l' := [(0, va_rf r0), (1, .int i1), (2, .int v234), (3, .int v235), (6, .int v237), (7, .int v244)]) [1, 2, 3, 4, 6, 0] rfl ?_
                    exact J_230 _ _ _ _ _ _ h
                  · replace h := it_f c263 h
                    refine x_aload_n (i := 0) hC dL_isAhead_171 rfl 1 rfl ?_
                    refine x_iload (i := 6) hC dL_isAhead_172 6 rfl ?_
                    refine x_iconst (v := (3 : Int32)) hC dL_isAhead_174 (by decide) ?_
                    replace h := dr_el h
                    obtain ⟨a264, ea265, ha266, h⟩ := h
                    replace h := bt_el h
                    obtain ⟨v267, S268, hb315, h⟩ | ⟨j269, S270, hb315, h⟩ := h
                    · refine x_callV hC (st := []) (mtr_X4_personOf _ _ _ _ (v267, S268) hb315) ea265 ha266 kf_4 q_506 q_507 q_508 q_1 q_509 ⟨rfl, hy_X4_personOf⟩ ⟨Nat.le_of_ble_eq_true rfl, Nat.le_of_ble_eq_true rfl⟩ ⟨Nat.le_of_ble_eq_true rfl, Nat.le_of_ble_eq_true rfl⟩ rfl (Nat.le_of_ble_eq_true rfl) dL_isAhead_175 (r_N ?_) r_NX
                      show PX Z 10 S268 0 0 178 [(7, .int v244), (0, va_rf r0), (1, .int i1), (2, .int v234), (3, .int v235), (4, .int v236), (6, .int v237)] [.int v267]
                      refine x_aload_n (i := 0) hC dL_isAhead_178 rfl 1 rfl ?_
                      refine x_iload_n (i := 3) hC dL_isAhead_179 rfl 4 rfl ?_
                      refine x_iconst (v := (3 : Int32)) hC dL_isAhead_180 (by decide) ?_
                      replace h := dr_el h
                      obtain ⟨a271, ea272, ha273, h⟩ := h
                      replace h := bt_el h
                      obtain ⟨v274, S275, hb314, h⟩ | ⟨j276, S277, hb314, h⟩ := h
                      · refine x_callV hC (st := [.int v267]) (mtr_X4_personOf _ _ _ _ (v274, S275) hb314) ea272 ha273 kf_4 q_506 q_507 q_508 q_1 q_509 ⟨rfl, hy_X4_personOf⟩ ⟨Nat.le_of_ble_eq_true rfl, Nat.le_of_ble_eq_true rfl⟩ ⟨Nat.le_of_ble_eq_true rfl, Nat.le_of_ble_eq_true rfl⟩ rfl (Nat.le_of_ble_eq_true rfl) dL_isAhead_181 (r_N ?_) r_NX
                        show PX Z 10 S275 0 0 184 [(7, .int v244), (0, va_rf r0), (1, .int i1), (2, .int v234), (3, .int v235), (4, .int v236), (6, .int v237)] [.int v274, .int v267]
                        refine x_icmp_ne (t := 229) hC dL_isAhead_184 (by decide) (fun c278 => ?_) (fun c278 => ?_)
                        · replace h := it_f c278 h
                          refine x_iconst (v := (0 : Int32)) hC dL_isAhead_229 (by decide) ?_
                          refine x_sub (l' := [(0, va_rf r0), (1, .int i1), (2, .int v234), (3, .int v235), (6, .int v237), (7, .int v244)]) [1, 2, 3, 4, 6, 0] rfl ?_
                          exact J_230 _ _ _ _ _ _ h
                        · replace h := it_t c278 h
                          refine x_aload_n (i := 0) hC dL_isAhead_187 rfl 1 rfl ?_
                          refine x_iload (i := 6) hC dL_isAhead_188 6 rfl ?_
                          refine x_iconst (v := (0 : Int32)) hC dL_isAhead_190 (by decide) ?_
                          replace h := dr_el h
                          obtain ⟨a279, ea280, ha281, h⟩ := h
                          replace h := bt_el h
                          obtain ⟨v282, S283, hb313, h⟩ | ⟨j284, S285, hb313, h⟩ := h
                          · refine x_callV hC (st := []) (mtr_X4_personOf _ _ _ _ (v282, S283) hb313) ea280 ha281 kf_4 q_506 q_507 q_508 q_1 q_509 ⟨rfl, hy_X4_personOf⟩ ⟨Nat.le_of_ble_eq_true rfl, Nat.le_of_ble_eq_true rfl⟩ ⟨Nat.le_of_ble_eq_true rfl, Nat.le_of_ble_eq_true rfl⟩ rfl (Nat.le_of_ble_eq_true rfl) dL_isAhead_191 (r_N ?_) r_NX
                            show PX Z 10 S283 0 0 194 [(7, .int v244), (0, va_rf r0), (1, .int i1), (2, .int v234), (3, .int v235), (4, .int v236), (6, .int v237)] [.int v282]
                            refine x_aload_n (i := 0) hC dL_isAhead_194 rfl 1 rfl ?_
                            refine x_iload_n (i := 3) hC dL_isAhead_195 rfl 4 rfl ?_
                            refine x_iconst (v := (0 : Int32)) hC dL_isAhead_196 (by decide) ?_
                            replace h := dr_el h
                            obtain ⟨a286, ea287, ha288, h⟩ := h
                            replace h := bt_el h
                            obtain ⟨v289, S290, hb312, h⟩ | ⟨j291, S292, hb312, h⟩ := h
                            · refine x_callV hC (st := [.int v282]) (mtr_X4_personOf _ _ _ _ (v289, S290) hb312) ea287 ha288 kf_4 q_506 q_507 q_508 q_1 q_509 ⟨rfl, hy_X4_personOf⟩ ⟨Nat.le_of_ble_eq_true rfl, Nat.le_of_ble_eq_true rfl⟩ ⟨Nat.le_of_ble_eq_true rfl, Nat.le_of_ble_eq_true rfl⟩ rfl (Nat.le_of_ble_eq_true rfl) dL_isAhead_197 (r_N ?_) r_NX
                              show PX Z 10 S290 0 0 200 [(7, .int v244), (0, va_rf r0), (1, .int i1), (2, .int v234), (3, .int v235), (4, .int v236), (6, .int v237)] [.int v289, .int v282]
                              refine x_icmp_gt (t := 225) hC dL_isAhead_200 (by decide) (fun c293 => ?_) (fun c293 => ?_)
                              · replace h := it_t c293 h
                                refine x_iconst (v := (1 : Int32)) hC dL_isAhead_225 (by decide) ?_
                                refine x_goto (t := 230) hC dL_isAhead_226 (by decide) ?_
                                refine x_sub (l' := [(0, va_rf r0), (1, .int i1), (2, .int v234), (3, .int v235), (6, .int v237), (7, .int v244)]) [1, 2, 3, 4, 6, 0] rfl ?_
                                exact J_230 _ _ _ _ _ _ h
                              · replace h := it_f c293 h
                                refine x_aload_n (i := 0) hC dL_isAhead_203 rfl 1 rfl ?_
                                refine x_iload (i := 6) hC dL_isAhead_204 6 rfl ?_
                                refine x_iconst (v := (0 : Int32)) hC dL_isAhead_206 (by decide) ?_
                                replace h := dr_el h
                                obtain ⟨a294, ea295, ha296, h⟩ := h
                                replace h := bt_el h
                                obtain ⟨v297, S298, hb311, h⟩ | ⟨j299, S300, hb311, h⟩ := h
                                · refine x_callV hC (st := []) (mtr_X4_personOf _ _ _ _ (v297, S298) hb311) ea295 ha296 kf_4 q_506 q_507 q_508 q_1 q_509 ⟨rfl, hy_X4_personOf⟩ ⟨Nat.le_of_ble_eq_true rfl, Nat.le_of_ble_eq_true rfl⟩ ⟨Nat.le_of_ble_eq_true rfl, Nat.le_of_ble_eq_true rfl⟩ rfl (Nat.le_of_ble_eq_true rfl) dL_isAhead_207 (r_N ?_) r_NX
                                  show PX Z 10 S298 0 0 210 [(7, .int v244), (0, va_rf r0), (1, .int i1), (2, .int v234), (3, .int v235), (4, .int v236), (6, .int v237)] [.int v297]
                                  refine x_aload_n (i := 0) hC dL_isAhead_210 rfl 1 rfl ?_
                                  refine x_iload_n (i := 3) hC dL_isAhead_211 rfl 4 rfl ?_
                                  refine x_iconst (v := (0 : Int32)) hC dL_isAhead_212 (by decide) ?_
                                  replace h := dr_el h
                                  obtain ⟨a301, ea302, ha303, h⟩ := h
                                  replace h := bt_el h
                                  obtain ⟨v304, S305, hb310, h⟩ | ⟨j306, S307, hb310, h⟩ := h
                                  · refine x_callV hC (st := [.int v297]) (mtr_X4_personOf _ _ _ _ (v304, S305) hb310) ea302 ha303 kf_4 q_506 q_507 q_508 q_1 q_509 ⟨rfl, hy_X4_personOf⟩ ⟨Nat.le_of_ble_eq_true rfl, Nat.le_of_ble_eq_true rfl⟩ ⟨Nat.le_of_ble_eq_true rfl, Nat.le_of_ble_eq_true rfl⟩ rfl (Nat.le_of_ble_eq_true rfl) dL_isAhead_213 (r_N ?_) r_NX
                                    show PX Z 10 S305 0 0 216 [(7, .int v244), (0, va_rf r0), (1, .int i1), (2, .int v234), (3, .int v235), (4, .int v236), (6, .int v237)] [.int v304, .int v297]
                                    refine x_icmp_ne (t := 229) hC dL_isAhead_216 (by decide) (fun c308 => ?_) (fun c308 => ?_)
                                    · replace h := it_f c308 h
                                      refine x_iconst (v := (0 : Int32)) hC dL_isAhead_229 (by decide) ?_
                                      refine x_sub (l' := [(0, va_rf r0), (1, .int i1), (2, .int v234), (3, .int v235), (6, .int v237), (7, .int v244)]) [1, 2, 3, 4, 6, 0] rfl ?_
                                      exact J_230 _ _ _ _ _ _ h
                                    · replace h := it_t c308 h
                                      refine x_iload (i := 6) hC dL_isAhead_219 6 rfl ?_
                                      refine x_iload_n (i := 3) hC dL_isAhead_221 rfl 4 rfl ?_
                                      refine x_icmp_ge (t := 229) hC dL_isAhead_222 (by decide) (fun c309 => ?_) (fun c309 => ?_)
                                      · replace h := it_t c309 h
                                        refine x_iconst (v := (0 : Int32)) hC dL_isAhead_229 (by decide) ?_
                                        refine x_sub (l' := [(0, va_rf r0), (1, .int i1), (2, .int v234), (3, .int v235), (6, .int v237), (7, .int v244)]) [1, 2, 3, 4, 6, 0] rfl ?_
                                        exact J_230 _ _ _ _ _ _ h
                                      · replace h := it_f c309 h
                                        refine x_iconst (v := (1 : Int32)) hC dL_isAhead_225 (by decide) ?_
                                        refine x_goto (t := 230) hC dL_isAhead_226 (by decide) ?_
                                        refine x_sub (l' := [(0, va_rf r0), (1, .int i1), (2, .int v234), (3, .int v235), (6, .int v237), (7, .int v244)]) [1, 2, 3, 4, 6, 0] rfl ?_
                                        exact J_230 _ _ _ _ _ _ h
                                  · replace h := ir_x h hg_130; exact z_no hyr (Option.some.inj h)
                                · replace h := ir_x h hg_130; exact z_no hyr (Option.some.inj h)
                            · replace h := ir_x h hg_130; exact z_no hyr (Option.some.inj h)
                          · replace h := ir_x h hg_130; exact z_no hyr (Option.some.inj h)
                      · replace h := ir_x h hg_130; exact z_no hyr (Option.some.inj h)
                    · replace h := ir_x h hg_130; exact z_no hyr (Option.some.inj h)
                · replace h := ir_x h hg_130; exact z_no hyr (Option.some.inj h)
              · replace h := ir_x h hg_130; exact z_no hyr (Option.some.inj h)
          · replace h := ir_x h hg_130; exact z_no hyr (Option.some.inj h)
    · replace h := it_t c233 h
      refine x_iconst (v := (1 : Int32)) hC dL_isAhead_120 (by decide) ?_
      refine x_goto (t := 125) hC dL_isAhead_121 (by decide) ?_
      refine x_istore (i := 4) (l' := [(4, .int (1 : Int32)), (0, va_rf r0), (1, .int i1), (2, .int v228), (3, .int v229)]) hC dL_isAhead_125 (⟨fun _ => c_rf r0, ⟨fun _ => rfl, ⟨fun _ => rfl, ⟨fun _ => rfl, trivial⟩⟩⟩⟩) (by decide) rfl ?_
      refine x_iconst (v := (0 : Int32)) hC dL_isAhead_127 (by decide) ?_
      refine x_istore (i := 6) (l' := [(6, .int (0 : Int32)), (4, .int (1 : Int32)), (0, va_rf r0), (1, .int i1), (2, .int v228), (3, .int v229)]) hC dL_isAhead_128 (⟨fun _ => rfl, ⟨fun _ => c_rf r0, ⟨fun _ => rfl, ⟨fun _ => rfl, ⟨fun _ => rfl, trivial⟩⟩⟩⟩⟩) (by decide) rfl ?_
      refine x_sub (l' := [(0, va_rf r0), (1, .int i1), (2, .int v228), (3, .int v229), (4, .int (1 : Int32)), (6, .int (0 : Int32))]) [2, 3, 4, 5, 1, 0] rfl ?_
      refine lp_sim (P := fun (t : (Int32 × Int32 × Int32 × Int32 × PH)) => PX Z 10 t.2.2.2.2 0 0 130 [(0, va_rf r0), (1, .int i1), (2, .int t.1), (3, .int t.2.1), (4, .int t.2.2.1), (6, .int t.2.2.2.1)] []) (G := fun r => r = y) ?_ h rfl
      clear h
      intro t x_130 h hg_130
      obtain ⟨v319, v320, v321, v322, S323⟩ := t
      show PX Z 10 S323 0 0 130 [(0, va_rf r0), (1, .int i1), (2, .int v319), (3, .int v320), (4, .int v321), (6, .int v322)] []
      have J_328 : ∀ (v117 : Int32) (v118 : Int32) (v119 : Int32) (v120 : Int32) (v121 : Int32) (S122 : PH), j_L_isAhead_328 r0 i1 v117 v118 v119 v120 v121 S122 = some x_130 → PX Z 10 S122 0 0 328 [(0, va_rf r0), (1, .int i1), (2, .int v117), (3, .int v118), (6, .int v119), (7, .int v120), (9, .int v121)] [] := by
        intro v117 v118 v119 v120 v121 S122 h
        unfold j_L_isAhead_328 at h
        refine x_iload (i := 7) hC dL_isAhead_328 5 rfl ?_
        refine x_iconst (v := (5 : Int32)) hC dL_isAhead_330 (by decide) ?_
        refine x_icmp_lt (t := 339) hC dL_isAhead_331 (by decide) (fun c123 => ?_) (fun c123 => ?_)
        · replace h := it_t c123 h
          refine x_iconst (v := (1 : Int32)) hC dL_isAhead_339 (by decide) ?_
          refine x_goto (t := 366) hC dL_isAhead_340 (by decide) ?_
          refine x_istore (i := 4) (l' := [(4, .int (1 : Int32)), (0, va_rf r0), (1, .int i1), (2, .int v117), (3, .int v118), (6, .int v119), (7, .int v120), (9, .int v121)]) hC dL_isAhead_366 (⟨fun _ => c_rf r0, ⟨fun _ => rfl, ⟨fun _ => rfl, ⟨fun _ => rfl, ⟨fun _ => rfl, ⟨fun _ => rfl, ⟨fun _ => rfl, trivial⟩⟩⟩⟩⟩⟩⟩) (by decide) rfl ?_
          refine x_iinc (i := 6) (v := (v119 + (1 : Int32))) (l' := [(6, .int (v119 + (1 : Int32))), (4, .int (1 : Int32)), (0, va_rf r0), (1, .int i1), (2, .int v117), (3, .int v118), (7, .int v120), (9, .int v121)]) hC dL_isAhead_368 5 rfl rfl (⟨fun _ => rfl, ⟨fun _ => c_rf r0, ⟨fun _ => rfl, ⟨fun _ => rfl, ⟨fun _ => rfl, ⟨fun _ => rfl, ⟨fun _ => rfl, ⟨fun _ => rfl, trivial⟩⟩⟩⟩⟩⟩⟩⟩) (by decide) rfl ?_
          refine x_goto (t := 130) hC dL_isAhead_371 (by decide) ?_
          refine x_sub (l' := [(0, va_rf r0), (1, .int i1), (2, .int v117), (3, .int v118), (4, .int (1 : Int32)), (6, .int (v119 + (1 : Int32)))]) [2, 3, 4, 5, 1, 0] rfl ?_
          have hb := bk_x h hg_130
          exact hb
        · replace h := it_f c123 h
          refine x_iload (i := 9) hC dL_isAhead_334 6 rfl ?_
          refine x_if_ne (t := 343) hC dL_isAhead_336 (by decide) (fun c124 => ?_) (fun c124 => ?_)
          · replace h := it_f c124 h
            refine x_iconst (v := (0 : Int32)) hC dL_isAhead_343 (by decide) ?_
            refine x_goto (t := 366) hC dL_isAhead_344 (by decide) ?_
            refine x_istore (i := 4) (l' := [(4, .int (0 : Int32)), (0, va_rf r0), (1, .int i1), (2, .int v117), (3, .int v118), (6, .int v119), (7, .int v120), (9, .int v121)]) hC dL_isAhead_366 (⟨fun _ => c_rf r0, ⟨fun _ => rfl, ⟨fun _ => rfl, ⟨fun _ => rfl, ⟨fun _ => rfl, ⟨fun _ => rfl, ⟨fun _ => rfl, trivial⟩⟩⟩⟩⟩⟩⟩) (by decide) rfl ?_
            refine x_iinc (i := 6) (v := (v119 + (1 : Int32))) (l' := [(6, .int (v119 + (1 : Int32))), (4, .int (0 : Int32)), (0, va_rf r0), (1, .int i1), (2, .int v117), (3, .int v118), (7, .int v120), (9, .int v121)]) hC dL_isAhead_368 5 rfl rfl (⟨fun _ => rfl, ⟨fun _ => c_rf r0, ⟨fun _ => rfl, ⟨fun _ => rfl, ⟨fun _ => rfl, ⟨fun _ => rfl, ⟨fun _ => rfl, ⟨fun _ => rfl, trivial⟩⟩⟩⟩⟩⟩⟩⟩) (by decide) rfl ?_
            refine x_goto (t := 130) hC dL_isAhead_371 (by decide) ?_
            refine x_sub (l' := [(0, va_rf r0), (1, .int i1), (2, .int v117), (3, .int v118), (4, .int (0 : Int32)), (6, .int (v119 + (1 : Int32)))]) [2, 3, 4, 5, 1, 0] rfl ?_
            have hb := bk_x h hg_130
            exact hb
          · replace h := it_t c124 h
            refine x_iconst (v := (1 : Int32)) hC dL_isAhead_339 (by decide) ?_
            refine x_goto (t := 366) hC dL_isAhead_340 (by decide) ?_
            refine x_istore (i := 4) (l' := [(4, .int (1 : Int32)), (0, va_rf r0), (1, .int i1), (2, .int v117), (3, .int v118), (6, .int v119), (7, .int v120), (9, .int v121)]) hC dL_isAhead_366 (⟨fun _ => c_rf r0, ⟨fun _ => rfl, ⟨fun _ => rfl, ⟨fun _ => rfl, ⟨fun _ => rfl, ⟨fun _ => rfl, ⟨fun _ => rfl, trivial⟩⟩⟩⟩⟩⟩⟩) (by decide) rfl ?_
            refine x_iinc (i := 6) (v := (v119 + (1 : Int32))) (l' := [(6, .int (v119 + (1 : Int32))), (4, .int (1 : Int32)), (0, va_rf r0), (1, .int i1), (2, .int v117), (3, .int v118), (7, .int v120), (9, .int v121)]) hC dL_isAhead_368 5 rfl rfl (⟨fun _ => rfl, ⟨fun _ => c_rf r0, ⟨fun _ => rfl, ⟨fun _ => rfl, ⟨fun _ => rfl, ⟨fun _ => rfl, ⟨fun _ => rfl, ⟨fun _ => rfl, trivial⟩⟩⟩⟩⟩⟩⟩⟩) (by decide) rfl ?_
            refine x_goto (t := 130) hC dL_isAhead_371 (by decide) ?_
            refine x_sub (l' := [(0, va_rf r0), (1, .int i1), (2, .int v117), (3, .int v118), (4, .int (1 : Int32)), (6, .int (v119 + (1 : Int32)))]) [2, 3, 4, 5, 1, 0] rfl ?_
            have hb := bk_x h hg_130
            exact hb
      have J_314 : ∀ (v107 : Int32) (v108 : Int32) (v109 : Int32) (v110 : Int32) (v111 : Int32) (v112 : Int32) (v113 : Int32) (S114 : PH), j_L_isAhead_314 r0 i1 v107 v108 v109 v110 v111 v112 v113 S114 = some x_130 → PX Z 10 S114 0 0 314 [(0, va_rf r0), (1, .int i1), (2, .int v107), (3, .int v108), (6, .int v109), (7, .int v110), (9, .int v111)] [.int v113, .int v112] := by
        intro v107 v108 v109 v110 v111 v112 v113 S114 h
        unfold j_L_isAhead_314 at h
        refine x_icmp_ne (t := 343) hC dL_isAhead_314 (by decide) (fun c115 => ?_) (fun c115 => ?_)
        · replace h := it_f c115 h
          refine x_iconst (v := (0 : Int32)) hC dL_isAhead_343 (by decide) ?_
          refine x_goto (t := 366) hC dL_isAhead_344 (by decide) ?_
          refine x_istore (i := 4) (l' := [(4, .int (0 : Int32)), (0, va_rf r0), (1, .int i1), (2, .int v107), (3, .int v108), (6, .int v109), (7, .int v110), (9, .int v111)]) hC dL_isAhead_366 (⟨fun _ => c_rf r0, ⟨fun _ => rfl, ⟨fun _ => rfl, ⟨fun _ => rfl, ⟨fun _ => rfl, ⟨fun _ => rfl, ⟨fun _ => rfl, trivial⟩⟩⟩⟩⟩⟩⟩) (by decide) rfl ?_
          refine x_iinc (i := 6) (v := (v109 + (1 : Int32))) (l' := [(6, .int (v109 + (1 : Int32))), (4, .int (0 : Int32)), (0, va_rf r0), (1, .int i1), (2, .int v107), (3, .int v108), (7, .int v110), (9, .int v111)]) hC dL_isAhead_368 5 rfl rfl (⟨fun _ => rfl, ⟨fun _ => c_rf r0, ⟨fun _ => rfl, ⟨fun _ => rfl, ⟨fun _ => rfl, ⟨fun _ => rfl, ⟨fun _ => rfl, ⟨fun _ => rfl, trivial⟩⟩⟩⟩⟩⟩⟩⟩) (by decide) rfl ?_
          refine x_goto (t := 130) hC dL_isAhead_371 (by decide) ?_
          refine x_sub (l' := [(0, va_rf r0), (1, .int i1), (2, .int v107), (3, .int v108), (4, .int (0 : Int32)), (6, .int (v109 + (1 : Int32)))]) [2, 3, 4, 5, 1, 0] rfl ?_
          have hb := bk_x h hg_130
          exact hb
        · replace h := it_t c115 h
          refine x_iload (i := 7) hC dL_isAhead_317 5 rfl ?_
          refine x_iconst (v := (4 : Int32)) hC dL_isAhead_319 (by decide) ?_
          refine x_icmp_ne (t := 328) hC dL_isAhead_320 (by decide) (fun c116 => ?_) (fun c116 => ?_)
          · replace h := it_f c116 h
            exact J_328 _ _ _ _ _ _ h
          · replace h := it_t c116 h
            refine x_iload (i := 9) hC dL_isAhead_323 6 rfl ?_
            refine x_if_eq (t := 343) hC dL_isAhead_325 (by decide) (fun c125 => ?_) (fun c125 => ?_)
            · replace h := it_t c125 h
              refine x_iconst (v := (0 : Int32)) hC dL_isAhead_343 (by decide) ?_
              refine x_goto (t := 366) hC dL_isAhead_344 (by decide) ?_
              refine x_istore (i := 4) (l' := [(4, .int (0 : Int32)), (0, va_rf r0), (1, .int i1), (2, .int v107), (3, .int v108), (6, .int v109), (7, .int v110), (9, .int v111)]) hC dL_isAhead_366 (⟨fun _ => c_rf r0, ⟨fun _ => rfl, ⟨fun _ => rfl, ⟨fun _ => rfl, ⟨fun _ => rfl, ⟨fun _ => rfl, ⟨fun _ => rfl, trivial⟩⟩⟩⟩⟩⟩⟩) (by decide) rfl ?_
              refine x_iinc (i := 6) (v := (v109 + (1 : Int32))) (l' := [(6, .int (v109 + (1 : Int32))), (4, .int (0 : Int32)), (0, va_rf r0), (1, .int i1), (2, .int v107), (3, .int v108), (7, .int v110), (9, .int v111)]) hC dL_isAhead_368 5 rfl rfl (⟨fun _ => rfl, ⟨fun _ => c_rf r0, ⟨fun _ => rfl, ⟨fun _ => rfl, ⟨fun _ => rfl, ⟨fun _ => rfl, ⟨fun _ => rfl, ⟨fun _ => rfl, trivial⟩⟩⟩⟩⟩⟩⟩⟩) (by decide) rfl ?_
              refine x_goto (t := 130) hC dL_isAhead_371 (by decide) ?_
              refine x_sub (l' := [(0, va_rf r0), (1, .int i1), (2, .int v107), (3, .int v108), (4, .int (0 : Int32)), (6, .int (v109 + (1 : Int32)))]) [2, 3, 4, 5, 1, 0] rfl ?_
              have hb := bk_x h hg_130
              exact hb
            · replace h := it_f c125 h
              exact J_328 _ _ _ _ _ _ h
      have J_271 : ∀ (v92 : Int32) (v93 : Int32) (v94 : Int32) (v95 : Int32) (v96 : Int32) (v97 : Int32) (S98 : PH), j_L_isAhead_271 r0 i1 v92 v93 v94 v95 v96 v97 S98 = some x_130 → PX Z 10 S98 0 0 271 [(0, va_rf r0), (1, .int i1), (2, .int v92), (3, .int v93), (6, .int v94), (7, .int v95), (9, .int v96)] [.int v97] := by
        intro v92 v93 v94 v95 v96 v97 S98 h
        unfold j_L_isAhead_271 at h
        refine x_aload_n (i := 0) hC dL_isAhead_271 rfl 0 rfl ?_
        refine x_iload_n (i := 1) hC dL_isAhead_272 rfl 1 rfl ?_
        refine x_bipush (v := (8 : Int32)) hC dL_isAhead_273 (by decide) ?_
        replace h := dr_el h
        obtain ⟨a99, ea100, ha101, h⟩ := h
        replace h := bt_el h
        obtain ⟨v102, S103, hb155, h⟩ | ⟨j104, S105, hb155, h⟩ := h
        · refine x_callV hC (st := [.int v97]) (mtr_X4_paperOf _ _ _ _ (v102, S103) hb155) ea100 ha101 kf_4 q_527 q_528 q_529 q_1 q_530 ⟨rfl, hy_X4_paperOf⟩ ⟨Nat.le_of_ble_eq_true rfl, Nat.le_of_ble_eq_true rfl⟩ ⟨Nat.le_of_ble_eq_true rfl, Nat.le_of_ble_eq_true rfl⟩ rfl (Nat.le_of_ble_eq_true rfl) dL_isAhead_275 (r_N ?_) r_NX
          show PX Z 10 S103 0 0 278 [(0, va_rf r0), (1, .int i1), (2, .int v92), (3, .int v93), (6, .int v94), (7, .int v95), (9, .int v96)] [.int v102, .int v97]
          refine x_if_ne (t := 313) hC dL_isAhead_278 (by decide) (fun c106 => ?_) (fun c106 => ?_)
          · replace h := it_f c106 h
            refine x_iconst (v := (0 : Int32)) hC dL_isAhead_313 (by decide) ?_
            exact J_314 _ _ _ _ _ _ _ _ h
          · replace h := it_t c106 h
            refine x_aload_n (i := 0) hC dL_isAhead_281 rfl 0 rfl ?_
            refine x_iload (i := 6) hC dL_isAhead_282 4 rfl ?_
            refine x_iload_n (i := 1) hC dL_isAhead_284 rfl 1 rfl ?_
            replace h := dr_el h
            obtain ⟨a126, ea127, ha128, h⟩ := h
            replace h := bt_el h
            obtain ⟨v129, S130, hb154, h⟩ | ⟨j131, S132, hb154, h⟩ := h
            · refine x_callV hC (st := [.int v97]) (mtr_X4_score _ _ _ _ (v129, S130) hb154) ea127 ha128 kf_4 q_548 q_549 q_550 q_1 q_551 ⟨rfl, hy_X4_score⟩ ⟨Nat.le_of_ble_eq_true rfl, Nat.le_of_ble_eq_true rfl⟩ ⟨Nat.le_of_ble_eq_true rfl, Nat.le_of_ble_eq_true rfl⟩ rfl (Nat.le_of_ble_eq_true rfl) dL_isAhead_285 (r_N ?_) r_NX
              show PX Z 10 S130 0 0 288 [(0, va_rf r0), (1, .int i1), (2, .int v92), (3, .int v93), (6, .int v94), (7, .int v95), (9, .int v96)] [.int v129, .int v97]
              refine x_iconst (v := (-1 : Int32)) hC dL_isAhead_288 (by decide) ?_
              refine x_icmp_ne (t := 313) hC dL_isAhead_289 (by decide) (fun c133 => ?_) (fun c133 => ?_)
              · replace h := it_f c133 h
                refine x_iconst (v := (0 : Int32)) hC dL_isAhead_313 (by decide) ?_
                exact J_314 _ _ _ _ _ _ _ _ h
              · replace h := it_t c133 h
                refine x_aload_n (i := 0) hC dL_isAhead_292 rfl 0 rfl ?_
                refine x_iload_n (i := 1) hC dL_isAhead_293 rfl 1 rfl ?_
                refine x_iconst (v := (2 : Int32)) hC dL_isAhead_294 (by decide) ?_
                replace h := dr_el h
                obtain ⟨a134, ea135, ha136, h⟩ := h
                replace h := bt_el h
                obtain ⟨v137, S138, hb153, h⟩ | ⟨j139, S140, hb153, h⟩ := h
                · refine x_callV hC (st := [.int v97]) (mtr_X4_paperOf _ _ _ _ (v137, S138) hb153) ea135 ha136 kf_4 q_527 q_528 q_529 q_1 q_530 ⟨rfl, hy_X4_paperOf⟩ ⟨Nat.le_of_ble_eq_true rfl, Nat.le_of_ble_eq_true rfl⟩ ⟨Nat.le_of_ble_eq_true rfl, Nat.le_of_ble_eq_true rfl⟩ rfl (Nat.le_of_ble_eq_true rfl) dL_isAhead_295 (r_N ?_) r_NX
                  show PX Z 10 S138 0 0 298 [(0, va_rf r0), (1, .int i1), (2, .int v92), (3, .int v93), (6, .int v94), (7, .int v95), (9, .int v96)] [.int v137, .int v97]
                  replace h := bd_el h
                  obtain ⟨v141, S142, hb143, h⟩ := h
                  refine x_callS hC (st := [.int v97]) (mt_L_bits _ _ _ hb143) q_656 q_657 q_0 q_658 hy_L_bits ⟨Nat.le_of_ble_eq_true rfl, Nat.le_of_ble_eq_true rfl⟩ ⟨Nat.le_of_ble_eq_true rfl, Nat.le_of_ble_eq_true rfl⟩ rfl (Nat.le_of_ble_eq_true rfl) dL_isAhead_298 (r_N ?_) r_NX
                  show PX Z 10 S142 0 0 301 [(0, va_rf r0), (1, .int i1), (2, .int v92), (3, .int v93), (6, .int v94), (7, .int v95), (9, .int v96)] [.int v141, .int v97]
                  refine x_aload_n (i := 0) hC dL_isAhead_301 rfl 0 rfl ?_
                  refine x_iconst (v := (0 : Int32)) hC dL_isAhead_302 (by decide) ?_
                  replace h := dr_el h
                  obtain ⟨a144, ea145, ha146, h⟩ := h
                  replace h := bt_el h
                  obtain ⟨v147, S148, hb152, h⟩ | ⟨j149, S150, hb152, h⟩ := h
                  · refine x_callV hC (st := [.int v141, .int v97]) (mtr_X4_setting _ _ _ (v147, S148) hb152) ea145 ha146 kf_4 q_552 q_553 q_554 q_1 q_555 ⟨rfl, hy_X4_setting⟩ ⟨Nat.le_of_ble_eq_true rfl, Nat.le_of_ble_eq_true rfl⟩ ⟨Nat.le_of_ble_eq_true rfl, Nat.le_of_ble_eq_true rfl⟩ rfl (Nat.le_of_ble_eq_true rfl) dL_isAhead_303 (r_N ?_) r_NX
                    show PX Z 10 S148 0 0 306 [(0, va_rf r0), (1, .int i1), (2, .int v92), (3, .int v93), (6, .int v94), (7, .int v95), (9, .int v96)] [.int v147, .int v141, .int v97]
                    refine x_icmp_ge (t := 313) hC dL_isAhead_306 (by decide) (fun c151 => ?_) (fun c151 => ?_)
                    · replace h := it_t c151 h
                      refine x_iconst (v := (0 : Int32)) hC dL_isAhead_313 (by decide) ?_
                      exact J_314 _ _ _ _ _ _ _ _ h
                    · replace h := it_f c151 h
                      refine x_iconst (v := (1 : Int32)) hC dL_isAhead_309 (by decide) ?_
                      refine x_goto (t := 314) hC dL_isAhead_310 (by decide) ?_
                      exact J_314 _ _ _ _ _ _ _ _ h
                  · replace h := ir_x h hg_130; exact z_no hyr (Option.some.inj h)
                · replace h := ir_x h hg_130; exact z_no hyr (Option.some.inj h)
            · replace h := ir_x h hg_130; exact z_no hyr (Option.some.inj h)
        · replace h := ir_x h hg_130; exact z_no hyr (Option.some.inj h)
      have J_253 : ∀ (v80 : Int32) (v81 : Int32) (v82 : Int32) (v83 : Int32) (v84 : Int32) (v85 : Int32) (S86 : PH), j_L_isAhead_253 r0 i1 v80 v81 v82 v83 v84 v85 S86 = some x_130 → PX Z 10 S86 0 0 253 [(0, va_rf r0), (1, .int i1), (2, .int v80), (3, .int v81), (6, .int v82), (7, .int v83), (8, .int v84)] [.int v85] := by
        intro v80 v81 v82 v83 v84 v85 S86 h
        unfold j_L_isAhead_253 at h
        refine x_istore (i := 9) (l' := [(9, .int v85), (0, va_rf r0), (1, .int i1), (2, .int v80), (3, .int v81), (6, .int v82), (7, .int v83), (8, .int v84)]) hC dL_isAhead_253 (⟨fun _ => c_rf r0, ⟨fun _ => rfl, ⟨fun _ => rfl, ⟨fun _ => rfl, ⟨fun _ => rfl, ⟨fun _ => rfl, ⟨fun _ => rfl, trivial⟩⟩⟩⟩⟩⟩⟩) (by decide) rfl ?_
        refine x_iload (i := 7) hC dL_isAhead_255 6 rfl ?_
        refine x_if_le (t := 347) hC dL_isAhead_257 (by decide) (fun c87 => ?_) (fun c87 => ?_)
        · replace h := it_t c87 h
          refine x_iload_n (i := 3) hC dL_isAhead_347 rfl 4 rfl ?_
          refine x_if_lt (t := 365) hC dL_isAhead_348 (by decide) (fun c88 => ?_) (fun c88 => ?_)
          · replace h := it_t c88 h
            refine x_iconst (v := (0 : Int32)) hC dL_isAhead_365 (by decide) ?_
            refine x_istore (i := 4) (l' := [(4, .int (0 : Int32)), (9, .int v85), (0, va_rf r0), (1, .int i1), (2, .int v80), (3, .int v81), (6, .int v82), (7, .int v83), (8, .int v84)]) hC dL_isAhead_366 (⟨fun _ => rfl, ⟨fun _ => c_rf r0, ⟨fun _ => rfl, ⟨fun _ => rfl, ⟨fun _ => rfl, ⟨fun _ => rfl, ⟨fun _ => rfl, ⟨fun _ => rfl, trivial⟩⟩⟩⟩⟩⟩⟩⟩) (by decide) rfl ?_
            refine x_iinc (i := 6) (v := (v82 + (1 : Int32))) (l' := [(6, .int (v82 + (1 : Int32))), (4, .int (0 : Int32)), (9, .int v85), (0, va_rf r0), (1, .int i1), (2, .int v80), (3, .int v81), (7, .int v83), (8, .int v84)]) hC dL_isAhead_368 6 rfl rfl (⟨fun _ => rfl, ⟨fun _ => rfl, ⟨fun _ => c_rf r0, ⟨fun _ => rfl, ⟨fun _ => rfl, ⟨fun _ => rfl, ⟨fun _ => rfl, ⟨fun _ => rfl, ⟨fun _ => rfl, trivial⟩⟩⟩⟩⟩⟩⟩⟩⟩) (by decide) rfl ?_
            refine x_goto (t := 130) hC dL_isAhead_371 (by decide) ?_
            refine x_sub (l' := [(0, va_rf r0), (1, .int i1), (2, .int v80), (3, .int v81), (4, .int (0 : Int32)), (6, .int (v82 + (1 : Int32)))]) [3, 4, 5, 6, 1, 0] rfl ?_
            have hb := bk_x h hg_130
            exact hb
          · replace h := it_f c88 h
            refine x_iload (i := 8) hC dL_isAhead_351 7 rfl ?_
            refine x_if_ne (t := 365) hC dL_isAhead_353 (by decide) (fun c89 => ?_) (fun c89 => ?_)
            · replace h := it_f c89 h
              refine x_iconst (v := (0 : Int32)) hC dL_isAhead_365 (by decide) ?_
              refine x_istore (i := 4) (l' := [(4, .int (0 : Int32)), (9, .int v85), (0, va_rf r0), (1, .int i1), (2, .int v80), (3, .int v81), (6, .int v82), (7, .int v83), (8, .int v84)]) hC dL_isAhead_366 (⟨fun _ => rfl, ⟨fun _ => c_rf r0, ⟨fun _ => rfl, ⟨fun _ => rfl, ⟨fun _ => rfl, ⟨fun _ => rfl, ⟨fun _ => rfl, ⟨fun _ => rfl, trivial⟩⟩⟩⟩⟩⟩⟩⟩) (by decide) rfl ?_
              refine x_iinc (i := 6) (v := (v82 + (1 : Int32))) (l' := [(6, .int (v82 + (1 : Int32))), (4, .int (0 : Int32)), (9, .int v85), (0, va_rf r0), (1, .int i1), (2, .int v80), (3, .int v81), (7, .int v83), (8, .int v84)]) hC dL_isAhead_368 6 rfl rfl (⟨fun _ => rfl, ⟨fun _ => rfl, ⟨fun _ => c_rf r0, ⟨fun _ => rfl, ⟨fun _ => rfl, ⟨fun _ => rfl, ⟨fun _ => rfl, ⟨fun _ => rfl, ⟨fun _ => rfl, trivial⟩⟩⟩⟩⟩⟩⟩⟩⟩) (by decide) rfl ?_
              refine x_goto (t := 130) hC dL_isAhead_371 (by decide) ?_
              refine x_sub (l' := [(0, va_rf r0), (1, .int i1), (2, .int v80), (3, .int v81), (4, .int (0 : Int32)), (6, .int (v82 + (1 : Int32)))]) [3, 4, 5, 6, 1, 0] rfl ?_
              have hb := bk_x h hg_130
              exact hb
            · replace h := it_t c89 h
              refine x_iload (i := 9) hC dL_isAhead_356 0 rfl ?_
              refine x_if_ne (t := 365) hC dL_isAhead_358 (by decide) (fun c90 => ?_) (fun c90 => ?_)
              · replace h := it_f c90 h
                refine x_iconst (v := (0 : Int32)) hC dL_isAhead_365 (by decide) ?_
                refine x_istore (i := 4) (l' := [(4, .int (0 : Int32)), (9, .int v85), (0, va_rf r0), (1, .int i1), (2, .int v80), (3, .int v81), (6, .int v82), (7, .int v83), (8, .int v84)]) hC dL_isAhead_366 (⟨fun _ => rfl, ⟨fun _ => c_rf r0, ⟨fun _ => rfl, ⟨fun _ => rfl, ⟨fun _ => rfl, ⟨fun _ => rfl, ⟨fun _ => rfl, ⟨fun _ => rfl, trivial⟩⟩⟩⟩⟩⟩⟩⟩) (by decide) rfl ?_
                refine x_iinc (i := 6) (v := (v82 + (1 : Int32))) (l' := [(6, .int (v82 + (1 : Int32))), (4, .int (0 : Int32)), (9, .int v85), (0, va_rf r0), (1, .int i1), (2, .int v80), (3, .int v81), (7, .int v83), (8, .int v84)]) hC dL_isAhead_368 6 rfl rfl (⟨fun _ => rfl, ⟨fun _ => rfl, ⟨fun _ => c_rf r0, ⟨fun _ => rfl, ⟨fun _ => rfl, ⟨fun _ => rfl, ⟨fun _ => rfl, ⟨fun _ => rfl, ⟨fun _ => rfl, trivial⟩⟩⟩⟩⟩⟩⟩⟩⟩) (by decide) rfl ?_
                refine x_goto (t := 130) hC dL_isAhead_371 (by decide) ?_
                refine x_sub (l' := [(0, va_rf r0), (1, .int i1), (2, .int v80), (3, .int v81), (4, .int (0 : Int32)), (6, .int (v82 + (1 : Int32)))]) [3, 4, 5, 6, 1, 0] rfl ?_
                have hb := bk_x h hg_130
                exact hb
              · replace h := it_t c90 h
                refine x_iconst (v := (1 : Int32)) hC dL_isAhead_361 (by decide) ?_
                refine x_goto (t := 366) hC dL_isAhead_362 (by decide) ?_
                refine x_istore (i := 4) (l' := [(4, .int (1 : Int32)), (9, .int v85), (0, va_rf r0), (1, .int i1), (2, .int v80), (3, .int v81), (6, .int v82), (7, .int v83), (8, .int v84)]) hC dL_isAhead_366 (⟨fun _ => rfl, ⟨fun _ => c_rf r0, ⟨fun _ => rfl, ⟨fun _ => rfl, ⟨fun _ => rfl, ⟨fun _ => rfl, ⟨fun _ => rfl, ⟨fun _ => rfl, trivial⟩⟩⟩⟩⟩⟩⟩⟩) (by decide) rfl ?_
                refine x_iinc (i := 6) (v := (v82 + (1 : Int32))) (l' := [(6, .int (v82 + (1 : Int32))), (4, .int (1 : Int32)), (9, .int v85), (0, va_rf r0), (1, .int i1), (2, .int v80), (3, .int v81), (7, .int v83), (8, .int v84)]) hC dL_isAhead_368 6 rfl rfl (⟨fun _ => rfl, ⟨fun _ => rfl, ⟨fun _ => c_rf r0, ⟨fun _ => rfl, ⟨fun _ => rfl, ⟨fun _ => rfl, ⟨fun _ => rfl, ⟨fun _ => rfl, ⟨fun _ => rfl, trivial⟩⟩⟩⟩⟩⟩⟩⟩⟩) (by decide) rfl ?_
                refine x_goto (t := 130) hC dL_isAhead_371 (by decide) ?_
                refine x_sub (l' := [(0, va_rf r0), (1, .int i1), (2, .int v80), (3, .int v81), (4, .int (1 : Int32)), (6, .int (v82 + (1 : Int32)))]) [3, 4, 5, 6, 1, 0] rfl ?_
                have hb := bk_x h hg_130
                exact hb
        · replace h := it_f c87 h
          refine x_iload (i := 7) hC dL_isAhead_260 6 rfl ?_
          refine x_iconst (v := (4 : Int32)) hC dL_isAhead_262 (by decide) ?_
          refine x_icmp_lt (t := 270) hC dL_isAhead_263 (by decide) (fun c91 => ?_) (fun c91 => ?_)
          · replace h := it_t c91 h
            refine x_iconst (v := (0 : Int32)) hC dL_isAhead_270 (by decide) ?_
            refine x_sub (l' := [(0, va_rf r0), (1, .int i1), (2, .int v80), (3, .int v81), (6, .int v82), (7, .int v83), (9, .int v85)]) [1, 2, 3, 4, 5, 6, 0] rfl ?_
            exact J_271 _ _ _ _ _ _ _ h
          · replace h := it_f c91 h
            refine x_iconst (v := (1 : Int32)) hC dL_isAhead_266 (by decide) ?_
            refine x_goto (t := 271) hC dL_isAhead_267 (by decide) ?_
            refine x_sub (l' := [(0, va_rf r0), (1, .int i1), (2, .int v80), (3, .int v81), (6, .int v82), (7, .int v83), (9, .int v85)]) [1, 2, 3, 4, 5, 6, 0] rfl ?_
            exact J_271 _ _ _ _ _ _ _ h
      have J_230 : ∀ (v66 : Int32) (v67 : Int32) (v68 : Int32) (v69 : Int32) (v70 : Int32) (S71 : PH), j_L_isAhead_230 r0 i1 v66 v67 v68 v69 v70 S71 = some x_130 → PX Z 10 S71 0 0 230 [(0, va_rf r0), (1, .int i1), (2, .int v66), (3, .int v67), (6, .int v68), (7, .int v69)] [.int v70] := by
        intro v66 v67 v68 v69 v70 S71 h
        unfold j_L_isAhead_230 at h
        refine x_istore (i := 8) (l' := [(8, .int v70), (0, va_rf r0), (1, .int i1), (2, .int v66), (3, .int v67), (6, .int v68), (7, .int v69)]) hC dL_isAhead_230 (⟨fun _ => c_rf r0, ⟨fun _ => rfl, ⟨fun _ => rfl, ⟨fun _ => rfl, ⟨fun _ => rfl, ⟨fun _ => rfl, trivial⟩⟩⟩⟩⟩⟩) (by decide) rfl ?_
        refine x_aload_n (i := 0) hC dL_isAhead_232 rfl 1 rfl ?_
        refine x_iload (i := 6) hC dL_isAhead_233 5 rfl ?_
        refine x_bipush (v := (8 : Int32)) hC dL_isAhead_235 (by decide) ?_
        replace h := dr_el h
        obtain ⟨a72, ea73, ha74, h⟩ := h
        replace h := bt_el h
        obtain ⟨v75, S76, hb156, h⟩ | ⟨j77, S78, hb156, h⟩ := h
        · refine x_callV hC (st := []) (mtr_X4_personOf _ _ _ _ (v75, S76) hb156) ea73 ha74 kf_4 q_506 q_507 q_508 q_1 q_509 ⟨rfl, hy_X4_personOf⟩ ⟨Nat.le_of_ble_eq_true rfl, Nat.le_of_ble_eq_true rfl⟩ ⟨Nat.le_of_ble_eq_true rfl, Nat.le_of_ble_eq_true rfl⟩ rfl (Nat.le_of_ble_eq_true rfl) dL_isAhead_237 (r_N ?_) r_NX
          show PX Z 10 S76 0 0 240 [(8, .int v70), (0, va_rf r0), (1, .int i1), (2, .int v66), (3, .int v67), (6, .int v68), (7, .int v69)] [.int v75]
          refine x_iload_n (i := 1) hC dL_isAhead_240 rfl 2 rfl ?_
          refine x_ishr hC dL_isAhead_241 ?_
          refine x_iconst (v := (1 : Int32)) hC dL_isAhead_242 (by decide) ?_
          refine x_iand hC dL_isAhead_243 ?_
          refine x_iconst (v := (1 : Int32)) hC dL_isAhead_244 (by decide) ?_
          refine x_icmp_ne (t := 252) hC dL_isAhead_245 (by decide) (fun c79 => ?_) (fun c79 => ?_)
          · replace h := it_f c79 h
            refine x_iconst (v := (0 : Int32)) hC dL_isAhead_252 (by decide) ?_
            refine x_sub (l' := [(0, va_rf r0), (1, .int i1), (2, .int v66), (3, .int v67), (6, .int v68), (7, .int v69), (8, .int v70)]) [1, 2, 3, 4, 5, 6, 0] rfl ?_
            exact J_253 _ _ _ _ _ _ _ h
          · replace h := it_t c79 h
            refine x_iconst (v := (1 : Int32)) hC dL_isAhead_248 (by decide) ?_
            refine x_goto (t := 253) hC dL_isAhead_249 (by decide) ?_
            refine x_sub (l' := [(0, va_rf r0), (1, .int i1), (2, .int v66), (3, .int v67), (6, .int v68), (7, .int v69), (8, .int v70)]) [1, 2, 3, 4, 5, 6, 0] rfl ?_
            exact J_253 _ _ _ _ _ _ _ h
        · replace h := ir_x h hg_130; exact z_no hyr (Option.some.inj h)
      unfold st_L_isAhead_130 at h
      refine x_iload (i := 6) hC dL_isAhead_130 5 rfl ?_
      refine x_bipush (v := (8 : Int32)) hC dL_isAhead_132 (by decide) ?_
      refine x_icmp_ge (t := 374) hC dL_isAhead_134 (by decide) (fun c324 => ?_) (fun c324 => ?_)
      · replace h := it_t c324 h
        replace h := ir_x h hg_130
        refine x_sub (l' := [(0, va_rf r0), (1, .int i1), (2, .int v319), (4, .int v321)]) [0, 1, 2, 4] rfl ?_
        exact J_374 _ _ _ h
      · replace h := it_f c324 h
        refine x_iload (i := 4) hC dL_isAhead_137 4 rfl ?_
        refine x_if_eq (t := 374) hC dL_isAhead_139 (by decide) (fun c325 => ?_) (fun c325 => ?_)
        · replace h := it_t c325 h
          replace h := ir_x h hg_130
          refine x_sub (l' := [(0, va_rf r0), (1, .int i1), (2, .int v319), (4, .int v321)]) [0, 1, 2, 4] rfl ?_
          exact J_374 _ _ _ h
        · replace h := it_f c325 h
          refine x_aload_n (i := 0) hC dL_isAhead_142 rfl 0 rfl ?_
          refine x_iload (i := 6) hC dL_isAhead_143 5 rfl ?_
          refine x_iload_n (i := 1) hC dL_isAhead_145 rfl 1 rfl ?_
          replace h := dr_el h
          obtain ⟨a326, ea327, ha328, h⟩ := h
          replace h := bt_el h
          obtain ⟨v329, S330, hb403, h⟩ | ⟨j331, S332, hb403, h⟩ := h
          · refine x_callV hC (st := []) (mtr_X4_whyNot _ _ _ _ (v329, S330) hb403) ea327 ha328 kf_4 q_445 q_446 q_447 q_1 q_448 ⟨rfl, hy_X4_whyNot⟩ ⟨Nat.le_of_ble_eq_true rfl, Nat.le_of_ble_eq_true rfl⟩ ⟨Nat.le_of_ble_eq_true rfl, Nat.le_of_ble_eq_true rfl⟩ rfl (Nat.le_of_ble_eq_true rfl) dL_isAhead_146 (r_N ?_) r_NX
            show PX Z 10 S330 0 0 149 [(0, va_rf r0), (1, .int i1), (2, .int v319), (3, .int v320), (4, .int v321), (6, .int v322)] [.int v329]
            refine x_istore (i := 7) (l' := [(7, .int v329), (0, va_rf r0), (1, .int i1), (2, .int v319), (3, .int v320), (4, .int v321), (6, .int v322)]) hC dL_isAhead_149 (⟨fun _ => c_rf r0, ⟨fun _ => rfl, ⟨fun _ => rfl, ⟨fun _ => rfl, ⟨fun _ => rfl, ⟨fun _ => rfl, trivial⟩⟩⟩⟩⟩⟩) (by decide) rfl ?_
            refine x_iload_n (i := 3) hC dL_isAhead_151 rfl 4 rfl ?_
            refine x_if_lt (t := 229) hC dL_isAhead_152 (by decide) (fun c333 => ?_) (fun c333 => ?_)
            · replace h := it_t c333 h
              refine x_iconst (v := (0 : Int32)) hC dL_isAhead_229 (by decide) ?_
              refine x_sub (l' := [(0, va_rf r0), (1, .int i1), (2, .int v319), (3, .int v320), (6, .int v322), (7, .int v329)]) [1, 2, 3, 4, 6, 0] rfl ?_
              exact J_230 _ _ _ _ _ _ h
            · replace h := it_f c333 h
              refine x_aload_n (i := 0) hC dL_isAhead_155 rfl 1 rfl ?_
              refine x_iload (i := 6) hC dL_isAhead_156 6 rfl ?_
              refine x_iconst (v := (3 : Int32)) hC dL_isAhead_158 (by decide) ?_
              replace h := dr_el h
              obtain ⟨a334, ea335, ha336, h⟩ := h
              replace h := bt_el h
              obtain ⟨v337, S338, hb402, h⟩ | ⟨j339, S340, hb402, h⟩ := h
              · refine x_callV hC (st := []) (mtr_X4_personOf _ _ _ _ (v337, S338) hb402) ea335 ha336 kf_4 q_506 q_507 q_508 q_1 q_509 ⟨rfl, hy_X4_personOf⟩ ⟨Nat.le_of_ble_eq_true rfl, Nat.le_of_ble_eq_true rfl⟩ ⟨Nat.le_of_ble_eq_true rfl, Nat.le_of_ble_eq_true rfl⟩ rfl (Nat.le_of_ble_eq_true rfl) dL_isAhead_159 (r_N ?_) r_NX
                show PX Z 10 S338 0 0 162 [(7, .int v329), (0, va_rf r0), (1, .int i1), (2, .int v319), (3, .int v320), (4, .int v321), (6, .int v322)] [.int v337]
                refine x_aload_n (i := 0) hC dL_isAhead_162 rfl 1 rfl ?_
                refine x_iload_n (i := 3) hC dL_isAhead_163 rfl 4 rfl ?_
                refine x_iconst (v := (3 : Int32)) hC dL_isAhead_164 (by decide) ?_
                replace h := dr_el h
                obtain ⟨a341, ea342, ha343, h⟩ := h
                replace h := bt_el h
                obtain ⟨v344, S345, hb401, h⟩ | ⟨j346, S347, hb401, h⟩ := h
                · refine x_callV hC (st := [.int v337]) (mtr_X4_personOf _ _ _ _ (v344, S345) hb401) ea342 ha343 kf_4 q_506 q_507 q_508 q_1 q_509 ⟨rfl, hy_X4_personOf⟩ ⟨Nat.le_of_ble_eq_true rfl, Nat.le_of_ble_eq_true rfl⟩ ⟨Nat.le_of_ble_eq_true rfl, Nat.le_of_ble_eq_true rfl⟩ rfl (Nat.le_of_ble_eq_true rfl) dL_isAhead_165 (r_N ?_) r_NX
                  show PX Z 10 S345 0 0 168 [(7, .int v329), (0, va_rf r0), (1, .int i1), (2, .int v319), (3, .int v320), (4, .int v321), (6, .int v322)] [.int v344, .int v337]
                  refine x_icmp_lt (t := 225) hC dL_isAhead_168 (by decide) (fun c348 => ?_) (fun c348 => ?_)
                  · replace h := it_t c348 h
                    refine x_iconst (v := (1 : Int32)) hC dL_isAhead_225 (by decide) ?_
                    refine x_goto (t := 230) hC dL_isAhead_226 (by decide) ?_
                    refine x_sub (l' := [(0, va_rf r0), (1, .int i1), (2, .int v319), (3, .int v320), (6, .int v322), (7, .int v329)]) [1, 2, 3, 4, 6, 0] rfl ?_
                    exact J_230 _ _ _ _ _ _ h
                  · replace h := it_f c348 h
                    refine x_aload_n (i := 0) hC dL_isAhead_171 rfl 1 rfl ?_
                    refine x_iload (i := 6) hC dL_isAhead_172 6 rfl ?_
                    refine x_iconst (v := (3 : Int32)) hC dL_isAhead_174 (by decide) ?_
                    replace h := dr_el h
                    obtain ⟨a349, ea350, ha351, h⟩ := h
                    replace h := bt_el h
                    obtain ⟨v352, S353, hb400, h⟩ | ⟨j354, S355, hb400, h⟩ := h
                    · refine x_callV hC (st := []) (mtr_X4_personOf _ _ _ _ (v352, S353) hb400) ea350 ha351 kf_4 q_506 q_507 q_508 q_1 q_509 ⟨rfl, hy_X4_personOf⟩ ⟨Nat.le_of_ble_eq_true rfl, Nat.le_of_ble_eq_true rfl⟩ ⟨Nat.le_of_ble_eq_true rfl, Nat.le_of_ble_eq_true rfl⟩ rfl (Nat.le_of_ble_eq_true rfl) dL_isAhead_175 (r_N ?_) r_NX
                      show PX Z 10 S353 0 0 178 [(7, .int v329), (0, va_rf r0), (1, .int i1), (2, .int v319), (3, .int v320), (4, .int v321), (6, .int v322)] [.int v352]
                      refine x_aload_n (i := 0) hC dL_isAhead_178 rfl 1 rfl ?_
                      refine x_iload_n (i := 3) hC dL_isAhead_179 rfl 4 rfl ?_
                      refine x_iconst (v := (3 : Int32)) hC dL_isAhead_180 (by decide) ?_
                      replace h := dr_el h
                      obtain ⟨a356, ea357, ha358, h⟩ := h
                      replace h := bt_el h
                      obtain ⟨v359, S360, hb399, h⟩ | ⟨j361, S362, hb399, h⟩ := h
                      · refine x_callV hC (st := [.int v352]) (mtr_X4_personOf _ _ _ _ (v359, S360) hb399) ea357 ha358 kf_4 q_506 q_507 q_508 q_1 q_509 ⟨rfl, hy_X4_personOf⟩ ⟨Nat.le_of_ble_eq_true rfl, Nat.le_of_ble_eq_true rfl⟩ ⟨Nat.le_of_ble_eq_true rfl, Nat.le_of_ble_eq_true rfl⟩ rfl (Nat.le_of_ble_eq_true rfl) dL_isAhead_181 (r_N ?_) r_NX
                        show PX Z 10 S360 0 0 184 [(7, .int v329), (0, va_rf r0), (1, .int i1), (2, .int v319), (3, .int v320), (4, .int v321), (6, .int v322)] [.int v359, .int v352]
                        refine x_icmp_ne (t := 229) hC dL_isAhead_184 (by decide) (fun c363 => ?_) (fun c363 => ?_)
                        · replace h := it_f c363 h
                          refine x_iconst (v := (0 : Int32)) hC dL_isAhead_229 (by decide) ?_
                          refine x_sub (l' := [(0, va_rf r0), (1, .int i1), (2, .int v319), (3, .int v320), (6, .int v322), (7, .int v329)]) [1, 2, 3, 4, 6, 0] rfl ?_
                          exact J_230 _ _ _ _ _ _ h
                        · replace h := it_t c363 h
                          refine x_aload_n (i := 0) hC dL_isAhead_187 rfl 1 rfl ?_
                          refine x_iload (i := 6) hC dL_isAhead_188 6 rfl ?_
                          refine x_iconst (v := (0 : Int32)) hC dL_isAhead_190 (by decide) ?_
                          replace h := dr_el h
                          obtain ⟨a364, ea365, ha366, h⟩ := h
                          replace h := bt_el h
                          obtain ⟨v367, S368, hb398, h⟩ | ⟨j369, S370, hb398, h⟩ := h
                          · refine x_callV hC (st := []) (mtr_X4_personOf _ _ _ _ (v367, S368) hb398) ea365 ha366 kf_4 q_506 q_507 q_508 q_1 q_509 ⟨rfl, hy_X4_personOf⟩ ⟨Nat.le_of_ble_eq_true rfl, Nat.le_of_ble_eq_true rfl⟩ ⟨Nat.le_of_ble_eq_true rfl, Nat.le_of_ble_eq_true rfl⟩ rfl (Nat.le_of_ble_eq_true rfl) dL_isAhead_191 (r_N ?_) r_NX
                            show PX Z 10 S368 0 0 194 [(7, .int v329), (0, va_rf r0), (1, .int i1), (2, .int v319), (3, .int v320), (4, .int v321), (6, .int v322)] [.int v367]
                            refine x_aload_n (i := 0) hC dL_isAhead_194 rfl 1 rfl ?_
                            refine x_iload_n (i := 3) hC dL_isAhead_195 rfl 4 rfl ?_
                            refine x_iconst (v := (0 : Int32)) hC dL_isAhead_196 (by decide) ?_
                            replace h := dr_el h
                            obtain ⟨a371, ea372, ha373, h⟩ := h
                            replace h := bt_el h
                            obtain ⟨v374, S375, hb397, h⟩ | ⟨j376, S377, hb397, h⟩ := h
                            · refine x_callV hC (st := [.int v367]) (mtr_X4_personOf _ _ _ _ (v374, S375) hb397) ea372 ha373 kf_4 q_506 q_507 q_508 q_1 q_509 ⟨rfl, hy_X4_personOf⟩ ⟨Nat.le_of_ble_eq_true rfl, Nat.le_of_ble_eq_true rfl⟩ ⟨Nat.le_of_ble_eq_true rfl, Nat.le_of_ble_eq_true rfl⟩ rfl (Nat.le_of_ble_eq_true rfl) dL_isAhead_197 (r_N ?_) r_NX
                              show PX Z 10 S375 0 0 200 [(7, .int v329), (0, va_rf r0), (1, .int i1), (2, .int v319), (3, .int v320), (4, .int v321), (6, .int v322)] [.int v374, .int v367]
                              refine x_icmp_gt (t := 225) hC dL_isAhead_200 (by decide) (fun c378 => ?_) (fun c378 => ?_)
                              · replace h := it_t c378 h
                                refine x_iconst (v := (1 : Int32)) hC dL_isAhead_225 (by decide) ?_
                                refine x_goto (t := 230) hC dL_isAhead_226 (by decide) ?_
                                refine x_sub (l' := [(0, va_rf r0), (1, .int i1), (2, .int v319), (3, .int v320), (6, .int v322), (7, .int v329)]) [1, 2, 3, 4, 6, 0] rfl ?_
                                exact J_230 _ _ _ _ _ _ h
                              · replace h := it_f c378 h
                                refine x_aload_n (i := 0) hC dL_isAhead_203 rfl 1 rfl ?_
                                refine x_iload (i := 6) hC dL_isAhead_204 6 rfl ?_
                                refine x_iconst (v := (0 : Int32)) hC dL_isAhead_206 (by decide) ?_
                                replace h := dr_el h
                                obtain ⟨a379, ea380, ha381, h⟩ := h
                                replace h := bt_el h
                                obtain ⟨v382, S383, hb396, h⟩ | ⟨j384, S385, hb396, h⟩ := h
                                · refine x_callV hC (st := []) (mtr_X4_personOf _ _ _ _ (v382, S383) hb396) ea380 ha381 kf_4 q_506 q_507 q_508 q_1 q_509 ⟨rfl, hy_X4_personOf⟩ ⟨Nat.le_of_ble_eq_true rfl, Nat.le_of_ble_eq_true rfl⟩ ⟨Nat.le_of_ble_eq_true rfl, Nat.le_of_ble_eq_true rfl⟩ rfl (Nat.le_of_ble_eq_true rfl) dL_isAhead_207 (r_N ?_) r_NX
                                  show PX Z 10 S383 0 0 210 [(7, .int v329), (0, va_rf r0), (1, .int i1), (2, .int v319), (3, .int v320), (4, .int v321), (6, .int v322)] [.int v382]
                                  refine x_aload_n (i := 0) hC dL_isAhead_210 rfl 1 rfl ?_
                                  refine x_iload_n (i := 3) hC dL_isAhead_211 rfl 4 rfl ?_
                                  refine x_iconst (v := (0 : Int32)) hC dL_isAhead_212 (by decide) ?_
                                  replace h := dr_el h
                                  obtain ⟨a386, ea387, ha388, h⟩ := h
                                  replace h := bt_el h
                                  obtain ⟨v389, S390, hb395, h⟩ | ⟨j391, S392, hb395, h⟩ := h
                                  · refine x_callV hC (st := [.int v382]) (mtr_X4_personOf _ _ _ _ (v389, S390) hb395) ea387 ha388 kf_4 q_506 q_507 q_508 q_1 q_509 ⟨rfl, hy_X4_personOf⟩ ⟨Nat.le_of_ble_eq_true rfl, Nat.le_of_ble_eq_true rfl⟩ ⟨Nat.le_of_ble_eq_true rfl, Nat.le_of_ble_eq_true rfl⟩ rfl (Nat.le_of_ble_eq_true rfl) dL_isAhead_213 (r_N ?_) r_NX
                                    show PX Z 10 S390 0 0 216 [(7, .int v329), (0, va_rf r0), (1, .int i1), (2, .int v319), (3, .int v320), (4, .int v321), (6, .int v322)] [.int v389, .int v382]
                                    refine x_icmp_ne (t := 229) hC dL_isAhead_216 (by decide) (fun c393 => ?_) (fun c393 => ?_)
                                    · replace h := it_f c393 h
                                      refine x_iconst (v := (0 : Int32)) hC dL_isAhead_229 (by decide) ?_
                                      refine x_sub (l' := [(0, va_rf r0), (1, .int i1), (2, .int v319), (3, .int v320), (6, .int v322), (7, .int v329)]) [1, 2, 3, 4, 6, 0] rfl ?_
                                      exact J_230 _ _ _ _ _ _ h
                                    · replace h := it_t c393 h
                                      refine x_iload (i := 6) hC dL_isAhead_219 6 rfl ?_
                                      refine x_iload_n (i := 3) hC dL_isAhead_221 rfl 4 rfl ?_
                                      refine x_icmp_ge (t := 229) hC dL_isAhead_222 (by decide) (fun c394 => ?_) (fun c394 => ?_)
                                      · replace h := it_t c394 h
                                        refine x_iconst (v := (0 : Int32)) hC dL_isAhead_229 (by decide) ?_
                                        refine x_sub (l' := [(0, va_rf r0), (1, .int i1), (2, .int v319), (3, .int v320), (6, .int v322), (7, .int v329)]) [1, 2, 3, 4, 6, 0] rfl ?_
                                        exact J_230 _ _ _ _ _ _ h
                                      · replace h := it_f c394 h
                                        refine x_iconst (v := (1 : Int32)) hC dL_isAhead_225 (by decide) ?_
                                        refine x_goto (t := 230) hC dL_isAhead_226 (by decide) ?_
                                        refine x_sub (l' := [(0, va_rf r0), (1, .int i1), (2, .int v319), (3, .int v320), (6, .int v322), (7, .int v329)]) [1, 2, 3, 4, 6, 0] rfl ?_
                                        exact J_230 _ _ _ _ _ _ h
                                  · replace h := ir_x h hg_130; exact z_no hyr (Option.some.inj h)
                                · replace h := ir_x h hg_130; exact z_no hyr (Option.some.inj h)
                            · replace h := ir_x h hg_130; exact z_no hyr (Option.some.inj h)
                          · replace h := ir_x h hg_130; exact z_no hyr (Option.some.inj h)
                      · replace h := ir_x h hg_130; exact z_no hyr (Option.some.inj h)
                    · replace h := ir_x h hg_130; exact z_no hyr (Option.some.inj h)
                · replace h := ir_x h hg_130; exact z_no hyr (Option.some.inj h)
              · replace h := ir_x h hg_130; exact z_no hyr (Option.some.inj h)
          · replace h := ir_x h hg_130; exact z_no hyr (Option.some.inj h)
  unfold m_L_isAhead at h
  refine x_aload_n (i := 0) hC dL_isAhead_0 rfl 0 rfl ?_
  refine x_iconst (v := (0 : Int32)) hC dL_isAhead_1 (by decide) ?_
  replace h := dr_el h
  obtain ⟨a1, ea2, ha3, h⟩ := h
  replace h := bt_el h
  obtain ⟨v4, S5, hb997, h⟩ | ⟨j6, S7, hb997, h⟩ := h
  · refine x_callV hC (st := []) (mtr_X4_most _ _ _ (v4, S5) hb997) ea2 ha3 kf_4 q_449 q_450 q_451 q_1 q_452 ⟨rfl, hy_X4_most⟩ ⟨Nat.le_of_ble_eq_true rfl, Nat.le_of_ble_eq_true rfl⟩ ⟨Nat.le_of_ble_eq_true rfl, Nat.le_of_ble_eq_true rfl⟩ rfl (Nat.le_of_ble_eq_true rfl) dL_isAhead_2 (r_N ?_) r_NX
    show PX Z 10 S5 0 0 5 [(0, va_rf r0), (1, .int i1)] [.int v4]
    refine x_istore_n (i := 2) (l' := [(2, .int v4), (0, va_rf r0), (1, .int i1)]) hC dL_isAhead_5 rfl (⟨fun _ => c_rf r0, ⟨fun _ => rfl, trivial⟩⟩) (by decide) rfl ?_
    refine x_aload_n (i := 0) hC dL_isAhead_6 rfl 1 rfl ?_
    refine x_iload_n (i := 1) hC dL_isAhead_7 rfl 2 rfl ?_
    replace h := dr_el h
    obtain ⟨a8, ea9, ha10, h⟩ := h
    replace h := bt_el h
    obtain ⟨v11, S12, hb996, h⟩ | ⟨j13, S14, hb996, h⟩ := h
    · refine x_callV hC (st := []) (mtr_X4_bestReviewer _ _ _ (v11, S12) hb996) ea9 ha10 kf_4 q_688 q_689 q_690 q_1 q_691 ⟨rfl, hy_X4_bestReviewer⟩ ⟨Nat.le_of_ble_eq_true rfl, Nat.le_of_ble_eq_true rfl⟩ ⟨Nat.le_of_ble_eq_true rfl, Nat.le_of_ble_eq_true rfl⟩ rfl (Nat.le_of_ble_eq_true rfl) dL_isAhead_8 (r_N ?_) r_NX
      show PX Z 10 S12 0 0 11 [(2, .int v4), (0, va_rf r0), (1, .int i1)] [.int v11]
      refine x_istore_n (i := 3) (l' := [(3, .int v11), (2, .int v4), (0, va_rf r0), (1, .int i1)]) hC dL_isAhead_11 rfl (⟨fun _ => rfl, ⟨fun _ => c_rf r0, ⟨fun _ => rfl, trivial⟩⟩⟩) (by decide) rfl ?_
      refine x_iload_n (i := 2) hC dL_isAhead_12 rfl 1 rfl ?_
      refine x_aload_n (i := 0) hC dL_isAhead_13 rfl 2 rfl ?_
      refine x_iconst (v := (1 : Int32)) hC dL_isAhead_14 (by decide) ?_
      replace h := dr_el h
      obtain ⟨a15, ea16, ha17, h⟩ := h
      replace h := bt_el h
      obtain ⟨v18, S19, hb995, h⟩ | ⟨j20, S21, hb995, h⟩ := h
      · refine x_callV hC (st := [.int v4]) (mtr_X4_most _ _ _ (v18, S19) hb995) ea16 ha17 kf_4 q_449 q_450 q_451 q_1 q_452 ⟨rfl, hy_X4_most⟩ ⟨Nat.le_of_ble_eq_true rfl, Nat.le_of_ble_eq_true rfl⟩ ⟨Nat.le_of_ble_eq_true rfl, Nat.le_of_ble_eq_true rfl⟩ rfl (Nat.le_of_ble_eq_true rfl) dL_isAhead_15 (r_N ?_) r_NX
        show PX Z 10 S19 0 0 18 [(3, .int v11), (2, .int v4), (0, va_rf r0), (1, .int i1)] [.int v18, .int v4]
        refine x_icmp_ne (t := 54) hC dL_isAhead_18 (by decide) (fun c22 => ?_) (fun c22 => ?_)
        · replace h := it_f c22 h
          refine x_iconst (v := (0 : Int32)) hC dL_isAhead_54 (by decide) ?_
          refine x_istore (i := 4) (l' := [(4, .int (0 : Int32)), (3, .int v11), (2, .int v4), (0, va_rf r0), (1, .int i1)]) hC dL_isAhead_55 (⟨fun _ => rfl, ⟨fun _ => rfl, ⟨fun _ => c_rf r0, ⟨fun _ => rfl, trivial⟩⟩⟩⟩) (by decide) rfl ?_
          refine x_iconst (v := (0 : Int32)) hC dL_isAhead_57 (by decide) ?_
          refine x_istore (i := 5) (l' := [(5, .int (0 : Int32)), (4, .int (0 : Int32)), (3, .int v11), (2, .int v4), (0, va_rf r0), (1, .int i1)]) hC dL_isAhead_58 (⟨fun _ => rfl, ⟨fun _ => rfl, ⟨fun _ => rfl, ⟨fun _ => c_rf r0, ⟨fun _ => rfl, trivial⟩⟩⟩⟩⟩) (by decide) rfl ?_
          refine x_iconst (v := (0 : Int32)) hC dL_isAhead_60 (by decide) ?_
          refine x_istore (i := 6) (l' := [(6, .int (0 : Int32)), (5, .int (0 : Int32)), (4, .int (0 : Int32)), (3, .int v11), (2, .int v4), (0, va_rf r0), (1, .int i1)]) hC dL_isAhead_61 (⟨fun _ => rfl, ⟨fun _ => rfl, ⟨fun _ => rfl, ⟨fun _ => rfl, ⟨fun _ => c_rf r0, ⟨fun _ => rfl, trivial⟩⟩⟩⟩⟩⟩) (by decide) rfl ?_
          refine x_sub (l' := [(0, va_rf r0), (1, .int i1), (2, .int v4), (3, .int v11), (4, .int (0 : Int32)), (5, .int (0 : Int32)), (6, .int (0 : Int32))]) [5, 6, 4, 3, 2, 1, 0] rfl ?_
          refine lp_sim (P := fun (t : (Int32 × Int32 × Int32 × Int32 × Int32 × PH)) => PX Z 10 t.2.2.2.2.2 0 0 63 [(0, va_rf r0), (1, .int i1), (2, .int t.1), (3, .int t.2.1), (4, .int t.2.2.1), (5, .int t.2.2.2.1), (6, .int t.2.2.2.2.1)] []) (G := fun r => r = y) ?_ h rfl
          clear h
          intro t x_63 h hg_63
          obtain ⟨v23, v24, v25, v26, v27, S28⟩ := t
          show PX Z 10 S28 0 0 63 [(0, va_rf r0), (1, .int i1), (2, .int v23), (3, .int v24), (4, .int v25), (5, .int v26), (6, .int v27)] []
          unfold st_L_isAhead_63 at h
          refine x_iload (i := 6) hC dL_isAhead_63 6 rfl ?_
          refine x_aload_n (i := 0) hC dL_isAhead_65 rfl 0 rfl ?_
          refine x_iconst (v := (0 : Int32)) hC dL_isAhead_66 (by decide) ?_
          replace h := dr_el h
          obtain ⟨a29, ea30, ha31, h⟩ := h
          replace h := bt_el h
          obtain ⟨v32, S33, hb414, h⟩ | ⟨j34, S35, hb414, h⟩ := h
          · refine x_callV hC (st := [.int v27]) (mtr_X4_count _ _ _ (v32, S33) hb414) ea30 ha31 kf_4 q_406 q_407 q_408 q_1 q_409 ⟨rfl, hy_X4_count⟩ ⟨Nat.le_of_ble_eq_true rfl, Nat.le_of_ble_eq_true rfl⟩ ⟨Nat.le_of_ble_eq_true rfl, Nat.le_of_ble_eq_true rfl⟩ rfl (Nat.le_of_ble_eq_true rfl) dL_isAhead_67 (r_N ?_) r_NX
            show PX Z 10 S33 0 0 70 [(0, va_rf r0), (1, .int i1), (2, .int v23), (3, .int v24), (4, .int v25), (5, .int v26), (6, .int v27)] [.int v32, .int v27]
            refine x_icmp_ge (t := 101) hC dL_isAhead_70 (by decide) (fun c36 => ?_) (fun c36 => ?_)
            · replace h := it_t c36 h
              replace h := ir_x h hg_63
              refine x_iload (i := 4) hC dL_isAhead_101 4 rfl ?_
              refine x_if_eq (t := 124) hC dL_isAhead_103 (by decide) (fun c37 => ?_) (fun c37 => ?_)
              · replace h := it_t c37 h
                refine x_iconst (v := (0 : Int32)) hC dL_isAhead_124 (by decide) ?_
                refine x_istore (i := 4) (l' := [(4, .int (0 : Int32)), (0, va_rf r0), (1, .int i1), (2, .int v23), (3, .int v24), (5, .int v26), (6, .int v27)]) hC dL_isAhead_125 (⟨fun _ => c_rf r0, ⟨fun _ => rfl, ⟨fun _ => rfl, ⟨fun _ => rfl, ⟨fun _ => rfl, ⟨fun _ => rfl, ⟨fun _ => rfl, trivial⟩⟩⟩⟩⟩⟩⟩) (by decide) rfl ?_
                refine x_iconst (v := (0 : Int32)) hC dL_isAhead_127 (by decide) ?_
                refine x_istore (i := 6) (l' := [(6, .int (0 : Int32)), (4, .int (0 : Int32)), (0, va_rf r0), (1, .int i1), (2, .int v23), (3, .int v24), (5, .int v26)]) hC dL_isAhead_128 (⟨fun _ => rfl, ⟨fun _ => c_rf r0, ⟨fun _ => rfl, ⟨fun _ => rfl, ⟨fun _ => rfl, ⟨fun _ => rfl, ⟨fun _ => rfl, trivial⟩⟩⟩⟩⟩⟩⟩) (by decide) rfl ?_
                refine x_sub (l' := [(0, va_rf r0), (1, .int i1), (2, .int v23), (3, .int v24), (4, .int (0 : Int32)), (6, .int (0 : Int32))]) [2, 3, 4, 5, 1, 0] rfl ?_
                refine lp_sim (P := fun (t : (Int32 × Int32 × Int32 × Int32 × PH)) => PX Z 10 t.2.2.2.2 0 0 130 [(0, va_rf r0), (1, .int i1), (2, .int t.1), (3, .int t.2.1), (4, .int t.2.2.1), (6, .int t.2.2.2.1)] []) (G := fun r => r = y) ?_ h rfl
                clear h
                intro t x_130 h hg_130
                obtain ⟨v38, v39, v40, v41, S42⟩ := t
                show PX Z 10 S42 0 0 130 [(0, va_rf r0), (1, .int i1), (2, .int v38), (3, .int v39), (4, .int v40), (6, .int v41)] []
                have J_328 : ∀ (v117 : Int32) (v118 : Int32) (v119 : Int32) (v120 : Int32) (v121 : Int32) (S122 : PH), j_L_isAhead_328 r0 i1 v117 v118 v119 v120 v121 S122 = some x_130 → PX Z 10 S122 0 0 328 [(0, va_rf r0), (1, .int i1), (2, .int v117), (3, .int v118), (6, .int v119), (7, .int v120), (9, .int v121)] [] := by
                  intro v117 v118 v119 v120 v121 S122 h
                  unfold j_L_isAhead_328 at h
                  refine x_iload (i := 7) hC dL_isAhead_328 5 rfl ?_
                  refine x_iconst (v := (5 : Int32)) hC dL_isAhead_330 (by decide) ?_
                  refine x_icmp_lt (t := 339) hC dL_isAhead_331 (by decide) (fun c123 => ?_) (fun c123 => ?_)
                  · replace h := it_t c123 h
                    refine x_iconst (v := (1 : Int32)) hC dL_isAhead_339 (by decide) ?_
                    refine x_goto (t := 366) hC dL_isAhead_340 (by decide) ?_
                    refine x_istore (i := 4) (l' := [(4, .int (1 : Int32)), (0, va_rf r0), (1, .int i1), (2, .int v117), (3, .int v118), (6, .int v119), (7, .int v120), (9, .int v121)]) hC dL_isAhead_366 (⟨fun _ => c_rf r0, ⟨fun _ => rfl, ⟨fun _ => rfl, ⟨fun _ => rfl, ⟨fun _ => rfl, ⟨fun _ => rfl, ⟨fun _ => rfl, trivial⟩⟩⟩⟩⟩⟩⟩) (by decide) rfl ?_
                    refine x_iinc (i := 6) (v := (v119 + (1 : Int32))) (l' := [(6, .int (v119 + (1 : Int32))), (4, .int (1 : Int32)), (0, va_rf r0), (1, .int i1), (2, .int v117), (3, .int v118), (7, .int v120), (9, .int v121)]) hC dL_isAhead_368 5 rfl rfl (⟨fun _ => rfl, ⟨fun _ => c_rf r0, ⟨fun _ => rfl, ⟨fun _ => rfl, ⟨fun _ => rfl, ⟨fun _ => rfl, ⟨fun _ => rfl, ⟨fun _ => rfl, trivial⟩⟩⟩⟩⟩⟩⟩⟩) (by decide) rfl ?_
                    refine x_goto (t := 130) hC dL_isAhead_371 (by decide) ?_
                    refine x_sub (l' := [(0, va_rf r0), (1, .int i1), (2, .int v117), (3, .int v118), (4, .int (1 : Int32)), (6, .int (v119 + (1 : Int32)))]) [2, 3, 4, 5, 1, 0] rfl ?_
                    have hb := bk_x h hg_130
                    exact hb
                  · replace h := it_f c123 h
                    refine x_iload (i := 9) hC dL_isAhead_334 6 rfl ?_
                    refine x_if_ne (t := 343) hC dL_isAhead_336 (by decide) (fun c124 => ?_) (fun c124 => ?_)
                    · replace h := it_f c124 h
                      refine x_iconst (v := (0 : Int32)) hC dL_isAhead_343 (by decide) ?_
                      refine x_goto (t := 366) hC dL_isAhead_344 (by decide) ?_
                      refine x_istore (i := 4) (l' := [(4, .int (0 : Int32)), (0, va_rf r0), (1, .int i1), (2, .int v117), (3, .int v118), (6, .int v119), (7, .int v120), (9, .int v121)]) hC dL_isAhead_366 (⟨fun _ => c_rf r0, ⟨fun _ => rfl, ⟨fun _ => rfl, ⟨fun _ => rfl, ⟨fun _ => rfl, ⟨fun _ => rfl, ⟨fun _ => rfl, trivial⟩⟩⟩⟩⟩⟩⟩) (by decide) rfl ?_
                      refine x_iinc (i := 6) (v := (v119 + (1 : Int32))) (l' := [(6, .int (v119 + (1 : Int32))), (4, .int (0 : Int32)), (0, va_rf r0), (1, .int i1), (2, .int v117), (3, .int v118), (7, .int v120), (9, .int v121)]) hC dL_isAhead_368 5 rfl rfl (⟨fun _ => rfl, ⟨fun _ => c_rf r0, ⟨fun _ => rfl, ⟨fun _ => rfl, ⟨fun _ => rfl, ⟨fun _ => rfl, ⟨fun _ => rfl, ⟨fun _ => rfl, trivial⟩⟩⟩⟩⟩⟩⟩⟩) (by decide) rfl ?_
                      refine x_goto (t := 130) hC dL_isAhead_371 (by decide) ?_
                      refine x_sub (l' := [(0, va_rf r0), (1, .int i1), (2, .int v117), (3, .int v118), (4, .int (0 : Int32)), (6, .int (v119 + (1 : Int32)))]) [2, 3, 4, 5, 1, 0] rfl ?_
                      have hb := bk_x h hg_130
                      exact hb
                    · replace h := it_t c124 h
                      refine x_iconst (v := (1 : Int32)) hC dL_isAhead_339 (by decide) ?_
                      refine x_goto (t := 366) hC dL_isAhead_340 (by decide) ?_
                      refine x_istore (i := 4) (l' := [(4, .int (1 : Int32)), (0, va_rf r0), (1, .int i1), (2, .int v117), (3, .int v118), (6, .int v119), (7, .int v120), (9, .int v121)]) hC dL_isAhead_366 (⟨fun _ => c_rf r0, ⟨fun _ => rfl, ⟨fun _ => rfl, ⟨fun _ => rfl, ⟨fun _ => rfl, ⟨fun _ => rfl, ⟨fun _ => rfl, trivial⟩⟩⟩⟩⟩⟩⟩) (by decide) rfl ?_
                      refine x_iinc (i := 6) (v := (v119 + (1 : Int32))) (l' := [(6, .int (v119 + (1 : Int32))), (4, .int (1 : Int32)), (0, va_rf r0), (1, .int i1), (2, .int v117), (3, .int v118), (7, .int v120), (9, .int v121)]) hC dL_isAhead_368 5 rfl rfl (⟨fun _ => rfl, ⟨fun _ => c_rf r0, ⟨fun _ => rfl, ⟨fun _ => rfl, ⟨fun _ => rfl, ⟨fun _ => rfl, ⟨fun _ => rfl, ⟨fun _ => rfl, trivial⟩⟩⟩⟩⟩⟩⟩⟩) (by decide) rfl ?_
                      refine x_goto (t := 130) hC dL_isAhead_371 (by decide) ?_
                      refine x_sub (l' := [(0, va_rf r0), (1, .int i1), (2, .int v117), (3, .int v118), (4, .int (1 : Int32)), (6, .int (v119 + (1 : Int32)))]) [2, 3, 4, 5, 1, 0] rfl ?_
                      have hb := bk_x h hg_130
                      exact hb
                have J_314 : ∀ (v107 : Int32) (v108 : Int32) (v109 : Int32) (v110 : Int32) (v111 : Int32) (v112 : Int32) (v113 : Int32) (S114 : PH), j_L_isAhead_314 r0 i1 v107 v108 v109 v110 v111 v112 v113 S114 = some x_130 → PX Z 10 S114 0 0 314 [(0, va_rf r0), (1, .int i1), (2, .int v107), (3, .int v108), (6, .int v109), (7, .int v110), (9, .int v111)] [.int v113, .int v112] := by
                  intro v107 v108 v109 v110 v111 v112 v113 S114 h
                  unfold j_L_isAhead_314 at h
                  refine x_icmp_ne (t := 343) hC dL_isAhead_314 (by decide) (fun c115 => ?_) (fun c115 => ?_)
                  · replace h := it_f c115 h
                    refine x_iconst (v := (0 : Int32)) hC dL_isAhead_343 (by decide) ?_
                    refine x_goto (t := 366) hC dL_isAhead_344 (by decide) ?_
                    refine x_istore (i := 4) (l' := [(4, .int (0 : Int32)), (0, va_rf r0), (1, .int i1), (2, .int v107), (3, .int v108), (6, .int v109), (7, .int v110), (9, .int v111)]) hC dL_isAhead_366 (⟨fun _ => c_rf r0, ⟨fun _ => rfl, ⟨fun _ => rfl, ⟨fun _ => rfl, ⟨fun _ => rfl, ⟨fun _ => rfl, ⟨fun _ => rfl, trivial⟩⟩⟩⟩⟩⟩⟩) (by decide) rfl ?_
                    refine x_iinc (i := 6) (v := (v109 + (1 : Int32))) (l' := [(6, .int (v109 + (1 : Int32))), (4, .int (0 : Int32)), (0, va_rf r0), (1, .int i1), (2, .int v107), (3, .int v108), (7, .int v110), (9, .int v111)]) hC dL_isAhead_368 5 rfl rfl (⟨fun _ => rfl, ⟨fun _ => c_rf r0, ⟨fun _ => rfl, ⟨fun _ => rfl, ⟨fun _ => rfl, ⟨fun _ => rfl, ⟨fun _ => rfl, ⟨fun _ => rfl, trivial⟩⟩⟩⟩⟩⟩⟩⟩) (by decide) rfl ?_
                    refine x_goto (t := 130) hC dL_isAhead_371 (by decide) ?_
                    refine x_sub (l' := [(0, va_rf r0), (1, .int i1), (2, .int v107), (3, .int v108), (4, .int (0 : Int32)), (6, .int (v109 + (1 : Int32)))]) [2, 3, 4, 5, 1, 0] rfl ?_
                    have hb := bk_x h hg_130
                    exact hb
                  · replace h := it_t c115 h
                    refine x_iload (i := 7) hC dL_isAhead_317 5 rfl ?_
                    refine x_iconst (v := (4 : Int32)) hC dL_isAhead_319 (by decide) ?_
                    refine x_icmp_ne (t := 328) hC dL_isAhead_320 (by decide) (fun c116 => ?_) (fun c116 => ?_)
                    · replace h := it_f c116 h
                      exact J_328 _ _ _ _ _ _ h
                    · replace h := it_t c116 h
                      refine x_iload (i := 9) hC dL_isAhead_323 6 rfl ?_
                      refine x_if_eq (t := 343) hC dL_isAhead_325 (by decide) (fun c125 => ?_) (fun c125 => ?_)
                      · replace h := it_t c125 h
                        refine x_iconst (v := (0 : Int32)) hC dL_isAhead_343 (by decide) ?_
                        refine x_goto (t := 366) hC dL_isAhead_344 (by decide) ?_
                        refine x_istore (i := 4) (l' := [(4, .int (0 : Int32)), (0, va_rf r0), (1, .int i1), (2, .int v107), (3, .int v108), (6, .int v109), (7, .int v110), (9, .int v111)]) hC dL_isAhead_366 (⟨fun _ => c_rf r0, ⟨fun _ => rfl, ⟨fun _ => rfl, ⟨fun _ => rfl, ⟨fun _ => rfl, ⟨fun _ => rfl, ⟨fun _ => rfl, trivial⟩⟩⟩⟩⟩⟩⟩) (by decide) rfl ?_
                        refine x_iinc (i := 6) (v := (v109 + (1 : Int32))) (l' := [(6, .int (v109 + (1 : Int32))), (4, .int (0 : Int32)), (0, va_rf r0), (1, .int i1), (2, .int v107), (3, .int v108), (7, .int v110), (9, .int v111)]) hC dL_isAhead_368 5 rfl rfl (⟨fun _ => rfl, ⟨fun _ => c_rf r0, ⟨fun _ => rfl, ⟨fun _ => rfl, ⟨fun _ => rfl, ⟨fun _ => rfl, ⟨fun _ => rfl, ⟨fun _ => rfl, trivial⟩⟩⟩⟩⟩⟩⟩⟩) (by decide) rfl ?_
                        refine x_goto (t := 130) hC dL_isAhead_371 (by decide) ?_
                        refine x_sub (l' := [(0, va_rf r0), (1, .int i1), (2, .int v107), (3, .int v108), (4, .int (0 : Int32)), (6, .int (v109 + (1 : Int32)))]) [2, 3, 4, 5, 1, 0] rfl ?_
                        have hb := bk_x h hg_130
                        exact hb
                      · replace h := it_f c125 h
                        exact J_328 _ _ _ _ _ _ h
                have J_271 : ∀ (v92 : Int32) (v93 : Int32) (v94 : Int32) (v95 : Int32) (v96 : Int32) (v97 : Int32) (S98 : PH), j_L_isAhead_271 r0 i1 v92 v93 v94 v95 v96 v97 S98 = some x_130 → PX Z 10 S98 0 0 271 [(0, va_rf r0), (1, .int i1), (2, .int v92), (3, .int v93), (6, .int v94), (7, .int v95), (9, .int v96)] [.int v97] := by
                  intro v92 v93 v94 v95 v96 v97 S98 h
                  unfold j_L_isAhead_271 at h
                  refine x_aload_n (i := 0) hC dL_isAhead_271 rfl 0 rfl ?_
                  refine x_iload_n (i := 1) hC dL_isAhead_272 rfl 1 rfl ?_
                  refine x_bipush (v := (8 : Int32)) hC dL_isAhead_273 (by decide) ?_
                  replace h := dr_el h
                  obtain ⟨a99, ea100, ha101, h⟩ := h
                  replace h := bt_el h
                  obtain ⟨v102, S103, hb155, h⟩ | ⟨j104, S105, hb155, h⟩ := h
                  · refine x_callV hC (st := [.int v97]) (mtr_X4_paperOf _ _ _ _ (v102, S103) hb155) ea100 ha101 kf_4 q_527 q_528 q_529 q_1 q_530 ⟨rfl, hy_X4_paperOf⟩ ⟨Nat.le_of_ble_eq_true rfl, Nat.le_of_ble_eq_true rfl⟩ ⟨Nat.le_of_ble_eq_true rfl, Nat.le_of_ble_eq_true rfl⟩ rfl (Nat.le_of_ble_eq_true rfl) dL_isAhead_275 (r_N ?_) r_NX
                    show PX Z 10 S103 0 0 278 [(0, va_rf r0), (1, .int i1), (2, .int v92), (3, .int v93), (6, .int v94), (7, .int v95), (9, .int v96)] [.int v102, .int v97]
                    refine x_if_ne (t := 313) hC dL_isAhead_278 (by decide) (fun c106 => ?_) (fun c106 => ?_)
                    · replace h := it_f c106 h
                      refine x_iconst (v := (0 : Int32)) hC dL_isAhead_313 (by decide) ?_
                      exact J_314 _ _ _ _ _ _ _ _ h
                    · replace h := it_t c106 h
                      refine x_aload_n (i := 0) hC dL_isAhead_281 rfl 0 rfl ?_
                      refine x_iload (i := 6) hC dL_isAhead_282 4 rfl ?_
                      refine x_iload_n (i := 1) hC dL_isAhead_284 rfl 1 rfl ?_
                      replace h := dr_el h
                      obtain ⟨a126, ea127, ha128, h⟩ := h
                      replace h := bt_el h
                      obtain ⟨v129, S130, hb154, h⟩ | ⟨j131, S132, hb154, h⟩ := h
                      · refine x_callV hC (st := [.int v97]) (mtr_X4_score _ _ _ _ (v129, S130) hb154) ea127 ha128 kf_4 q_548 q_549 q_550 q_1 q_551 ⟨rfl, hy_X4_score⟩ ⟨Nat.le_of_ble_eq_true rfl, Nat.le_of_ble_eq_true rfl⟩ ⟨Nat.le_of_ble_eq_true rfl, Nat.le_of_ble_eq_true rfl⟩ rfl (Nat.le_of_ble_eq_true rfl) dL_isAhead_285 (r_N ?_) r_NX
                        show PX Z 10 S130 0 0 288 [(0, va_rf r0), (1, .int i1), (2, .int v92), (3, .int v93), (6, .int v94), (7, .int v95), (9, .int v96)] [.int v129, .int v97]
                        refine x_iconst (v := (-1 : Int32)) hC dL_isAhead_288 (by decide) ?_
                        refine x_icmp_ne (t := 313) hC dL_isAhead_289 (by decide) (fun c133 => ?_) (fun c133 => ?_)
                        · replace h := it_f c133 h
                          refine x_iconst (v := (0 : Int32)) hC dL_isAhead_313 (by decide) ?_
                          exact J_314 _ _ _ _ _ _ _ _ h
                        · replace h := it_t c133 h
                          refine x_aload_n (i := 0) hC dL_isAhead_292 rfl 0 rfl ?_
                          refine x_iload_n (i := 1) hC dL_isAhead_293 rfl 1 rfl ?_
                          refine x_iconst (v := (2 : Int32)) hC dL_isAhead_294 (by decide) ?_
                          replace h := dr_el h
                          obtain ⟨a134, ea135, ha136, h⟩ := h
                          replace h := bt_el h
                          obtain ⟨v137, S138, hb153, h⟩ | ⟨j139, S140, hb153, h⟩ := h
                          · refine x_callV hC (st := [.int v97]) (mtr_X4_paperOf _ _ _ _ (v137, S138) hb153) ea135 ha136 kf_4 q_527 q_528 q_529 q_1 q_530 ⟨rfl, hy_X4_paperOf⟩ ⟨Nat.le_of_ble_eq_true rfl, Nat.le_of_ble_eq_true rfl⟩ ⟨Nat.le_of_ble_eq_true rfl, Nat.le_of_ble_eq_true rfl⟩ rfl (Nat.le_of_ble_eq_true rfl) dL_isAhead_295 (r_N ?_) r_NX
                            show PX Z 10 S138 0 0 298 [(0, va_rf r0), (1, .int i1), (2, .int v92), (3, .int v93), (6, .int v94), (7, .int v95), (9, .int v96)] [.int v137, .int v97]
                            replace h := bd_el h
                            obtain ⟨v141, S142, hb143, h⟩ := h
                            refine x_callS hC (st := [.int v97]) (mt_L_bits _ _ _ hb143) q_656 q_657 q_0 q_658 hy_L_bits ⟨Nat.le_of_ble_eq_true rfl, Nat.le_of_ble_eq_true rfl⟩ ⟨Nat.le_of_ble_eq_true rfl, Nat.le_of_ble_eq_true rfl⟩ rfl (Nat.le_of_ble_eq_true rfl) dL_isAhead_298 (r_N ?_) r_NX
                            show PX Z 10 S142 0 0 301 [(0, va_rf r0), (1, .int i1), (2, .int v92), (3, .int v93), (6, .int v94), (7, .int v95), (9, .int v96)] [.int v141, .int v97]
                            refine x_aload_n (i := 0) hC dL_isAhead_301 rfl 0 rfl ?_
                            refine x_iconst (v := (0 : Int32)) hC dL_isAhead_302 (by decide) ?_
                            replace h := dr_el h
                            obtain ⟨a144, ea145, ha146, h⟩ := h
                            replace h := bt_el h
                            obtain ⟨v147, S148, hb152, h⟩ | ⟨j149, S150, hb152, h⟩ := h
                            · refine x_callV hC (st := [.int v141, .int v97]) (mtr_X4_setting _ _ _ (v147, S148) hb152) ea145 ha146 kf_4 q_552 q_553 q_554 q_1 q_555 ⟨rfl, hy_X4_setting⟩ ⟨Nat.le_of_ble_eq_true rfl, Nat.le_of_ble_eq_true rfl⟩ ⟨Nat.le_of_ble_eq_true rfl, Nat.le_of_ble_eq_true rfl⟩ rfl (Nat.le_of_ble_eq_true rfl) dL_isAhead_303 (r_N ?_) r_NX
                              show PX Z 10 S148 0 0 306 [(0, va_rf r0), (1, .int i1), (2, .int v92), (3, .int v93), (6, .int v94), (7, .int v95), (9, .int v96)] [.int v147, .int v141, .int v97]
                              refine x_icmp_ge (t := 313) hC dL_isAhead_306 (by decide) (fun c151 => ?_) (fun c151 => ?_)
                              · replace h := it_t c151 h
                                refine x_iconst (v := (0 : Int32)) hC dL_isAhead_313 (by decide) ?_
                                exact J_314 _ _ _ _ _ _ _ _ h
                              · replace h := it_f c151 h
                                refine x_iconst (v := (1 : Int32)) hC dL_isAhead_309 (by decide) ?_
                                refine x_goto (t := 314) hC dL_isAhead_310 (by decide) ?_
                                exact J_314 _ _ _ _ _ _ _ _ h
                            · replace h := ir_x h hg_130; exact z_no hyr (Option.some.inj h)
                          · replace h := ir_x h hg_130; exact z_no hyr (Option.some.inj h)
                      · replace h := ir_x h hg_130; exact z_no hyr (Option.some.inj h)
                  · replace h := ir_x h hg_130; exact z_no hyr (Option.some.inj h)
                have J_253 : ∀ (v80 : Int32) (v81 : Int32) (v82 : Int32) (v83 : Int32) (v84 : Int32) (v85 : Int32) (S86 : PH), j_L_isAhead_253 r0 i1 v80 v81 v82 v83 v84 v85 S86 = some x_130 → PX Z 10 S86 0 0 253 [(0, va_rf r0), (1, .int i1), (2, .int v80), (3, .int v81), (6, .int v82), (7, .int v83), (8, .int v84)] [.int v85] := by
                  intro v80 v81 v82 v83 v84 v85 S86 h
                  unfold j_L_isAhead_253 at h
                  refine x_istore (i := 9) (l' := [(9, .int v85), (0, va_rf r0), (1, .int i1), (2, .int v80), (3, .int v81), (6, .int v82), (7, .int v83), (8, .int v84)]) hC dL_isAhead_253 (⟨fun _ => c_rf r0, ⟨fun _ => rfl, ⟨fun _ => rfl, ⟨fun _ => rfl, ⟨fun _ => rfl, ⟨fun _ => rfl, ⟨fun _ => rfl, trivial⟩⟩⟩⟩⟩⟩⟩) (by decide) rfl ?_
                  refine x_iload (i := 7) hC dL_isAhead_255 6 rfl ?_
                  refine x_if_le (t := 347) hC dL_isAhead_257 (by decide) (fun c87 => ?_) (fun c87 => ?_)
                  · replace h := it_t c87 h
                    refine x_iload_n (i := 3) hC dL_isAhead_347 rfl 4 rfl ?_
                    refine x_if_lt (t := 365) hC dL_isAhead_348 (by decide) (fun c88 => ?_) (fun c88 => ?_)
                    · replace h := it_t c88 h
                      refine x_iconst (v := (0 : Int32)) hC dL_isAhead_365 (by decide) ?_
                      refine x_istore (i := 4) (l' := [(4, .int (0 : Int32)), (9, .int v85), (0, va_rf r0), (1, .int i1), (2, .int v80), (3, .int v81), (6, .int v82), (7, .int v83), (8, .int v84)]) hC dL_isAhead_366 (⟨fun _ => rfl, ⟨fun _ => c_rf r0, ⟨fun _ => rfl, ⟨fun _ => rfl, ⟨fun _ => rfl, ⟨fun _ => rfl, ⟨fun _ => rfl, ⟨fun _ => rfl, trivial⟩⟩⟩⟩⟩⟩⟩⟩) (by decide) rfl ?_
                      refine x_iinc (i := 6) (v := (v82 + (1 : Int32))) (l' := [(6, .int (v82 + (1 : Int32))), (4, .int (0 : Int32)), (9, .int v85), (0, va_rf r0), (1, .int i1), (2, .int v80), (3, .int v81), (7, .int v83), (8, .int v84)]) hC dL_isAhead_368 6 rfl rfl (⟨fun _ => rfl, ⟨fun _ => rfl, ⟨fun _ => c_rf r0, ⟨fun _ => rfl, ⟨fun _ => rfl, ⟨fun _ => rfl, ⟨fun _ => rfl, ⟨fun _ => rfl, ⟨fun _ => rfl, trivial⟩⟩⟩⟩⟩⟩⟩⟩⟩) (by decide) rfl ?_
                      refine x_goto (t := 130) hC dL_isAhead_371 (by decide) ?_
                      refine x_sub (l' := [(0, va_rf r0), (1, .int i1), (2, .int v80), (3, .int v81), (4, .int (0 : Int32)), (6, .int (v82 + (1 : Int32)))]) [3, 4, 5, 6, 1, 0] rfl ?_
                      have hb := bk_x h hg_130
                      exact hb
                    · replace h := it_f c88 h
                      refine x_iload (i := 8) hC dL_isAhead_351 7 rfl ?_
                      refine x_if_ne (t := 365) hC dL_isAhead_353 (by decide) (fun c89 => ?_) (fun c89 => ?_)
                      · replace h := it_f c89 h
                        refine x_iconst (v := (0 : Int32)) hC dL_isAhead_365 (by decide) ?_
                        refine x_istore (i := 4) (l' := [(4, .int (0 : Int32)), (9, .int v85), (0, va_rf r0), (1, .int i1), (2, .int v80), (3, .int v81), (6, .int v82), (7, .int v83), (8, .int v84)]) hC dL_isAhead_366 (⟨fun _ => rfl, ⟨fun _ => c_rf r0, ⟨fun _ => rfl, ⟨fun _ => rfl, ⟨fun _ => rfl, ⟨fun _ => rfl, ⟨fun _ => rfl, ⟨fun _ => rfl, trivial⟩⟩⟩⟩⟩⟩⟩⟩) (by decide) rfl ?_
                        refine x_iinc (i := 6) (v := (v82 + (1 : Int32))) (l' := [(6, .int (v82 + (1 : Int32))), (4, .int (0 : Int32)), (9, .int v85), (0, va_rf r0), (1, .int i1), (2, .int v80), (3, .int v81), (7, .int v83), (8, .int v84)]) hC dL_isAhead_368 6 rfl rfl (⟨fun _ => rfl, ⟨fun _ => rfl, ⟨fun _ => c_rf r0, ⟨fun _ => rfl, ⟨fun _ => rfl, ⟨fun _ => rfl, ⟨fun _ => rfl, ⟨fun _ => rfl, ⟨fun _ => rfl, trivial⟩⟩⟩⟩⟩⟩⟩⟩⟩) (by decide) rfl ?_
                        refine x_goto (t := 130) hC dL_isAhead_371 (by decide) ?_
                        refine x_sub (l' := [(0, va_rf r0), (1, .int i1), (2, .int v80), (3, .int v81), (4, .int (0 : Int32)), (6, .int (v82 + (1 : Int32)))]) [3, 4, 5, 6, 1, 0] rfl ?_
                        have hb := bk_x h hg_130
                        exact hb
                      · replace h := it_t c89 h
                        refine x_iload (i := 9) hC dL_isAhead_356 0 rfl ?_
                        refine x_if_ne (t := 365) hC dL_isAhead_358 (by decide) (fun c90 => ?_) (fun c90 => ?_)
                        · replace h := it_f c90 h
                          refine x_iconst (v := (0 : Int32)) hC dL_isAhead_365 (by decide) ?_
                          refine x_istore (i := 4) (l' := [(4, .int (0 : Int32)), (9, .int v85), (0, va_rf r0), (1, .int i1), (2, .int v80), (3, .int v81), (6, .int v82), (7, .int v83), (8, .int v84)]) hC dL_isAhead_366 (⟨fun _ => rfl, ⟨fun _ => c_rf r0, ⟨fun _ => rfl, ⟨fun _ => rfl, ⟨fun _ => rfl, ⟨fun _ => rfl, ⟨fun _ => rfl, ⟨fun _ => rfl, trivial⟩⟩⟩⟩⟩⟩⟩⟩) (by decide) rfl ?_
                          refine x_iinc (i := 6) (v := (v82 + (1 : Int32))) (l' := [(6, .int (v82 + (1 : Int32))), (4, .int (0 : Int32)), (9, .int v85), (0, va_rf r0), (1, .int i1), (2, .int v80), (3, .int v81), (7, .int v83), (8, .int v84)]) hC dL_isAhead_368 6 rfl rfl (⟨fun _ => rfl, ⟨fun _ => rfl, ⟨fun _ => c_rf r0, ⟨fun _ => rfl, ⟨fun _ => rfl, ⟨fun _ => rfl, ⟨fun _ => rfl, ⟨fun _ => rfl, ⟨fun _ => rfl, trivial⟩⟩⟩⟩⟩⟩⟩⟩⟩) (by decide) rfl ?_
                          refine x_goto (t := 130) hC dL_isAhead_371 (by decide) ?_
                          refine x_sub (l' := [(0, va_rf r0), (1, .int i1), (2, .int v80), (3, .int v81), (4, .int (0 : Int32)), (6, .int (v82 + (1 : Int32)))]) [3, 4, 5, 6, 1, 0] rfl ?_
                          have hb := bk_x h hg_130
                          exact hb
                        · replace h := it_t c90 h
                          refine x_iconst (v := (1 : Int32)) hC dL_isAhead_361 (by decide) ?_
                          refine x_goto (t := 366) hC dL_isAhead_362 (by decide) ?_
                          refine x_istore (i := 4) (l' := [(4, .int (1 : Int32)), (9, .int v85), (0, va_rf r0), (1, .int i1), (2, .int v80), (3, .int v81), (6, .int v82), (7, .int v83), (8, .int v84)]) hC dL_isAhead_366 (⟨fun _ => rfl, ⟨fun _ => c_rf r0, ⟨fun _ => rfl, ⟨fun _ => rfl, ⟨fun _ => rfl, ⟨fun _ => rfl, ⟨fun _ => rfl, ⟨fun _ => rfl, trivial⟩⟩⟩⟩⟩⟩⟩⟩) (by decide) rfl ?_
                          refine x_iinc (i := 6) (v := (v82 + (1 : Int32))) (l' := [(6, .int (v82 + (1 : Int32))), (4, .int (1 : Int32)), (9, .int v85), (0, va_rf r0), (1, .int i1), (2, .int v80), (3, .int v81), (7, .int v83), (8, .int v84)]) hC dL_isAhead_368 6 rfl rfl (⟨fun _ => rfl, ⟨fun _ => rfl, ⟨fun _ => c_rf r0, ⟨fun _ => rfl, ⟨fun _ => rfl, ⟨fun _ => rfl, ⟨fun _ => rfl, ⟨fun _ => rfl, ⟨fun _ => rfl, trivial⟩⟩⟩⟩⟩⟩⟩⟩⟩) (by decide) rfl ?_
                          refine x_goto (t := 130) hC dL_isAhead_371 (by decide) ?_
                          refine x_sub (l' := [(0, va_rf r0), (1, .int i1), (2, .int v80), (3, .int v81), (4, .int (1 : Int32)), (6, .int (v82 + (1 : Int32)))]) [3, 4, 5, 6, 1, 0] rfl ?_
                          have hb := bk_x h hg_130
                          exact hb
                  · replace h := it_f c87 h
                    refine x_iload (i := 7) hC dL_isAhead_260 6 rfl ?_
                    refine x_iconst (v := (4 : Int32)) hC dL_isAhead_262 (by decide) ?_
                    refine x_icmp_lt (t := 270) hC dL_isAhead_263 (by decide) (fun c91 => ?_) (fun c91 => ?_)
                    · replace h := it_t c91 h
                      refine x_iconst (v := (0 : Int32)) hC dL_isAhead_270 (by decide) ?_
                      refine x_sub (l' := [(0, va_rf r0), (1, .int i1), (2, .int v80), (3, .int v81), (6, .int v82), (7, .int v83), (9, .int v85)]) [1, 2, 3, 4, 5, 6, 0] rfl ?_
                      exact J_271 _ _ _ _ _ _ _ h
                    · replace h := it_f c91 h
                      refine x_iconst (v := (1 : Int32)) hC dL_isAhead_266 (by decide) ?_
                      refine x_goto (t := 271) hC dL_isAhead_267 (by decide) ?_
                      refine x_sub (l' := [(0, va_rf r0), (1, .int i1), (2, .int v80), (3, .int v81), (6, .int v82), (7, .int v83), (9, .int v85)]) [1, 2, 3, 4, 5, 6, 0] rfl ?_
                      exact J_271 _ _ _ _ _ _ _ h
                have J_230 : ∀ (v66 : Int32) (v67 : Int32) (v68 : Int32) (v69 : Int32) (v70 : Int32) (S71 : PH), j_L_isAhead_230 r0 i1 v66 v67 v68 v69 v70 S71 = some x_130 → PX Z 10 S71 0 0 230 [(0, va_rf r0), (1, .int i1), (2, .int v66), (3, .int v67), (6, .int v68), (7, .int v69)] [.int v70] := by
                  intro v66 v67 v68 v69 v70 S71 h
                  unfold j_L_isAhead_230 at h
                  refine x_istore (i := 8) (l' := [(8, .int v70), (0, va_rf r0), (1, .int i1), (2, .int v66), (3, .int v67), (6, .int v68), (7, .int v69)]) hC dL_isAhead_230 (⟨fun _ => c_rf r0, ⟨fun _ => rfl, ⟨fun _ => rfl, ⟨fun _ => rfl, ⟨fun _ => rfl, ⟨fun _ => rfl, trivial⟩⟩⟩⟩⟩⟩) (by decide) rfl ?_
                  refine x_aload_n (i := 0) hC dL_isAhead_232 rfl 1 rfl ?_
                  refine x_iload (i := 6) hC dL_isAhead_233 5 rfl ?_
                  refine x_bipush (v := (8 : Int32)) hC dL_isAhead_235 (by decide) ?_
                  replace h := dr_el h
                  obtain ⟨a72, ea73, ha74, h⟩ := h
                  replace h := bt_el h
                  obtain ⟨v75, S76, hb156, h⟩ | ⟨j77, S78, hb156, h⟩ := h
                  · refine x_callV hC (st := []) (mtr_X4_personOf _ _ _ _ (v75, S76) hb156) ea73 ha74 kf_4 q_506 q_507 q_508 q_1 q_509 ⟨rfl, hy_X4_personOf⟩ ⟨Nat.le_of_ble_eq_true rfl, Nat.le_of_ble_eq_true rfl⟩ ⟨Nat.le_of_ble_eq_true rfl, Nat.le_of_ble_eq_true rfl⟩ rfl (Nat.le_of_ble_eq_true rfl) dL_isAhead_237 (r_N ?_) r_NX
                    show PX Z 10 S76 0 0 240 [(8, .int v70), (0, va_rf r0), (1, .int i1), (2, .int v66), (3, .int v67), (6, .int v68), (7, .int v69)] [.int v75]
                    refine x_iload_n (i := 1) hC dL_isAhead_240 rfl 2 rfl ?_
                    refine x_ishr hC dL_isAhead_241 ?_
                    refine x_iconst (v := (1 : Int32)) hC dL_isAhead_242 (by decide) ?_
                    refine x_iand hC dL_isAhead_243 ?_
                    refine x_iconst (v := (1 : Int32)) hC dL_isAhead_244 (by decide) ?_
                    refine x_icmp_ne (t := 252) hC dL_isAhead_245 (by decide) (fun c79 => ?_) (fun c79 => ?_)
                    · replace h := it_f c79 h
                      refine x_iconst (v := (0 : Int32)) hC dL_isAhead_252 (by decide) ?_
                      refine x_sub (l' := [(0, va_rf r0), (1, .int i1), (2, .int v66), (3, .int v67), (6, .int v68), (7, .int v69), (8, .int v70)]) [1, 2, 3, 4, 5, 6, 0] rfl ?_
                      exact J_253 _ _ _ _ _ _ _ h
                    · replace h := it_t c79 h
                      refine x_iconst (v := (1 : Int32)) hC dL_isAhead_248 (by decide) ?_
                      refine x_goto (t := 253) hC dL_isAhead_249 (by decide) ?_
                      refine x_sub (l' := [(0, va_rf r0), (1, .int i1), (2, .int v66), (3, .int v67), (6, .int v68), (7, .int v69), (8, .int v70)]) [1, 2, 3, 4, 5, 6, 0] rfl ?_
                      exact J_253 _ _ _ _ _ _ _ h
                  · replace h := ir_x h hg_130; exact z_no hyr (Option.some.inj h)
                unfold st_L_isAhead_130 at h
                refine x_iload (i := 6) hC dL_isAhead_130 5 rfl ?_
                refine x_bipush (v := (8 : Int32)) hC dL_isAhead_132 (by decide) ?_
                refine x_icmp_ge (t := 374) hC dL_isAhead_134 (by decide) (fun c43 => ?_) (fun c43 => ?_)
                · replace h := it_t c43 h
                  replace h := ir_x h hg_130
                  refine x_sub (l' := [(0, va_rf r0), (1, .int i1), (2, .int v38), (4, .int v40)]) [0, 1, 2, 4] rfl ?_
                  exact J_374 _ _ _ h
                · replace h := it_f c43 h
                  refine x_iload (i := 4) hC dL_isAhead_137 4 rfl ?_
                  refine x_if_eq (t := 374) hC dL_isAhead_139 (by decide) (fun c57 => ?_) (fun c57 => ?_)
                  · replace h := it_t c57 h
                    replace h := ir_x h hg_130
                    refine x_sub (l' := [(0, va_rf r0), (1, .int i1), (2, .int v38), (4, .int v40)]) [0, 1, 2, 4] rfl ?_
                    exact J_374 _ _ _ h
                  · replace h := it_f c57 h
                    refine x_aload_n (i := 0) hC dL_isAhead_142 rfl 0 rfl ?_
                    refine x_iload (i := 6) hC dL_isAhead_143 5 rfl ?_
                    refine x_iload_n (i := 1) hC dL_isAhead_145 rfl 1 rfl ?_
                    replace h := dr_el h
                    obtain ⟨a58, ea59, ha60, h⟩ := h
                    replace h := bt_el h
                    obtain ⟨v61, S62, hb226, h⟩ | ⟨j63, S64, hb226, h⟩ := h
                    · refine x_callV hC (st := []) (mtr_X4_whyNot _ _ _ _ (v61, S62) hb226) ea59 ha60 kf_4 q_445 q_446 q_447 q_1 q_448 ⟨rfl, hy_X4_whyNot⟩ ⟨Nat.le_of_ble_eq_true rfl, Nat.le_of_ble_eq_true rfl⟩ ⟨Nat.le_of_ble_eq_true rfl, Nat.le_of_ble_eq_true rfl⟩ rfl (Nat.le_of_ble_eq_true rfl) dL_isAhead_146 (r_N ?_) r_NX
                      show PX Z 10 S62 0 0 149 [(0, va_rf r0), (1, .int i1), (2, .int v38), (3, .int v39), (4, .int v40), (6, .int v41)] [.int v61]
                      refine x_istore (i := 7) (l' := [(7, .int v61), (0, va_rf r0), (1, .int i1), (2, .int v38), (3, .int v39), (4, .int v40), (6, .int v41)]) hC dL_isAhead_149 (⟨fun _ => c_rf r0, ⟨fun _ => rfl, ⟨fun _ => rfl, ⟨fun _ => rfl, ⟨fun _ => rfl, ⟨fun _ => rfl, trivial⟩⟩⟩⟩⟩⟩) (by decide) rfl ?_
                      refine x_iload_n (i := 3) hC dL_isAhead_151 rfl 4 rfl ?_
                      refine x_if_lt (t := 229) hC dL_isAhead_152 (by decide) (fun c65 => ?_) (fun c65 => ?_)
                      · replace h := it_t c65 h
                        refine x_iconst (v := (0 : Int32)) hC dL_isAhead_229 (by decide) ?_
                        refine x_sub (l' := [(0, va_rf r0), (1, .int i1), (2, .int v38), (3, .int v39), (6, .int v41), (7, .int v61)]) [1, 2, 3, 4, 6, 0] rfl ?_
                        exact J_230 _ _ _ _ _ _ h
                      · replace h := it_f c65 h
                        refine x_aload_n (i := 0) hC dL_isAhead_155 rfl 1 rfl ?_
                        refine x_iload (i := 6) hC dL_isAhead_156 6 rfl ?_
                        refine x_iconst (v := (3 : Int32)) hC dL_isAhead_158 (by decide) ?_
                        replace h := dr_el h
                        obtain ⟨a157, ea158, ha159, h⟩ := h
                        replace h := bt_el h
                        obtain ⟨v160, S161, hb225, h⟩ | ⟨j162, S163, hb225, h⟩ := h
                        · refine x_callV hC (st := []) (mtr_X4_personOf _ _ _ _ (v160, S161) hb225) ea158 ha159 kf_4 q_506 q_507 q_508 q_1 q_509 ⟨rfl, hy_X4_personOf⟩ ⟨Nat.le_of_ble_eq_true rfl, Nat.le_of_ble_eq_true rfl⟩ ⟨Nat.le_of_ble_eq_true rfl, Nat.le_of_ble_eq_true rfl⟩ rfl (Nat.le_of_ble_eq_true rfl) dL_isAhead_159 (r_N ?_) r_NX
                          show PX Z 10 S161 0 0 162 [(7, .int v61), (0, va_rf r0), (1, .int i1), (2, .int v38), (3, .int v39), (4, .int v40), (6, .int v41)] [.int v160]
                          refine x_aload_n (i := 0) hC dL_isAhead_162 rfl 1 rfl ?_
                          refine x_iload_n (i := 3) hC dL_isAhead_163 rfl 4 rfl ?_
                          refine x_iconst (v := (3 : Int32)) hC dL_isAhead_164 (by decide) ?_
                          replace h := dr_el h
                          obtain ⟨a164, ea165, ha166, h⟩ := h
                          replace h := bt_el h
                          obtain ⟨v167, S168, hb224, h⟩ | ⟨j169, S170, hb224, h⟩ := h
                          · refine x_callV hC (st := [.int v160]) (mtr_X4_personOf _ _ _ _ (v167, S168) hb224) ea165 ha166 kf_4 q_506 q_507 q_508 q_1 q_509 ⟨rfl, hy_X4_personOf⟩ ⟨Nat.le_of_ble_eq_true rfl, Nat.le_of_ble_eq_true rfl⟩ ⟨Nat.le_of_ble_eq_true rfl, Nat.le_of_ble_eq_true rfl⟩ rfl (Nat.le_of_ble_eq_true rfl) dL_isAhead_165 (r_N ?_) r_NX
                            show PX Z 10 S168 0 0 168 [(7, .int v61), (0, va_rf r0), (1, .int i1), (2, .int v38), (3, .int v39), (4, .int v40), (6, .int v41)] [.int v167, .int v160]
                            refine x_icmp_lt (t := 225) hC dL_isAhead_168 (by decide) (fun c171 => ?_) (fun c171 => ?_)
                            · replace h := it_t c171 h
                              refine x_iconst (v := (1 : Int32)) hC dL_isAhead_225 (by decide) ?_
                              refine x_goto (t := 230) hC dL_isAhead_226 (by decide) ?_
                              refine x_sub (l' := [(0, va_rf r0), (1, .int i1), (2, .int v38), (3, .int v39), (6, .int v41), (7, .int v61)]) [1, 2, 3, 4, 6, 0] rfl ?_
                              exact J_230 _ _ _ _ _ _ h
                            · replace h := it_f c171 h
                              refine x_aload_n (i := 0) hC dL_isAhead_171 rfl 1 rfl ?_
                              refine x_iload (i := 6) hC dL_isAhead_172 6 rfl ?_
                              refine x_iconst (v := (3 : Int32)) hC dL_isAhead_174 (by decide) ?_
                              replace h := dr_el h
                              obtain ⟨a172, ea173, ha174, h⟩ := h
                              replace h := bt_el h
                              obtain ⟨v175, S176, hb223, h⟩ | ⟨j177, S178, hb223, h⟩ := h
                              · refine x_callV hC (st := []) (mtr_X4_personOf _ _ _ _ (v175, S176) hb223) ea173 ha174 kf_4 q_506 q_507 q_508 q_1 q_509 ⟨rfl, hy_X4_personOf⟩ ⟨Nat.le_of_ble_eq_true rfl, Nat.le_of_ble_eq_true rfl⟩ ⟨Nat.le_of_ble_eq_true rfl, Nat.le_of_ble_eq_true rfl⟩ rfl (Nat.le_of_ble_eq_true rfl) dL_isAhead_175 (r_N ?_) r_NX
                                show PX Z 10 S176 0 0 178 [(7, .int v61), (0, va_rf r0), (1, .int i1), (2, .int v38), (3, .int v39), (4, .int v40), (6, .int v41)] [.int v175]
                                refine x_aload_n (i := 0) hC dL_isAhead_178 rfl 1 rfl ?_
                                refine x_iload_n (i := 3) hC dL_isAhead_179 rfl 4 rfl ?_
                                refine x_iconst (v := (3 : Int32)) hC dL_isAhead_180 (by decide) ?_
                                replace h := dr_el h
                                obtain ⟨a179, ea180, ha181, h⟩ := h
                                replace h := bt_el h
                                obtain ⟨v182, S183, hb222, h⟩ | ⟨j184, S185, hb222, h⟩ := h
                                · refine x_callV hC (st := [.int v175]) (mtr_X4_personOf _ _ _ _ (v182, S183) hb222) ea180 ha181 kf_4 q_506 q_507 q_508 q_1 q_509 ⟨rfl, hy_X4_personOf⟩ ⟨Nat.le_of_ble_eq_true rfl, Nat.le_of_ble_eq_true rfl⟩ ⟨Nat.le_of_ble_eq_true rfl, Nat.le_of_ble_eq_true rfl⟩ rfl (Nat.le_of_ble_eq_true rfl) dL_isAhead_181 (r_N ?_) r_NX
                                  show PX Z 10 S183 0 0 184 [(7, .int v61), (0, va_rf r0), (1, .int i1), (2, .int v38), (3, .int v39), (4, .int v40), (6, .int v41)] [.int v182, .int v175]
                                  refine x_icmp_ne (t := 229) hC dL_isAhead_184 (by decide) (fun c186 => ?_) (fun c186 => ?_)
                                  · replace h := it_f c186 h
                                    refine x_iconst (v := (0 : Int32)) hC dL_isAhead_229 (by decide) ?_
                                    refine x_sub (l' := [(0, va_rf r0), (1, .int i1), (2, .int v38), (3, .int v39), (6, .int v41), (7, .int v61)]) [1, 2, 3, 4, 6, 0] rfl ?_
                                    exact J_230 _ _ _ _ _ _ h
                                  · replace h := it_t c186 h
                                    refine x_aload_n (i := 0) hC dL_isAhead_187 rfl 1 rfl ?_
                                    refine x_iload (i := 6) hC dL_isAhead_188 6 rfl ?_
                                    refine x_iconst (v := (0 : Int32)) hC dL_isAhead_190 (by decide) ?_
                                    replace h := dr_el h
                                    obtain ⟨a187, ea188, ha189, h⟩ := h
                                    replace h := bt_el h
                                    obtain ⟨v190, S191, hb221, h⟩ | ⟨j192, S193, hb221, h⟩ := h
                                    · refine x_callV hC (st := []) (mtr_X4_personOf _ _ _ _ (v190, S191) hb221) ea188 ha189 kf_4 q_506 q_507 q_508 q_1 q_509 ⟨rfl, hy_X4_personOf⟩ ⟨Nat.le_of_ble_eq_true rfl, Nat.le_of_ble_eq_true rfl⟩ ⟨Nat.le_of_ble_eq_true rfl, Nat.le_of_ble_eq_true rfl⟩ rfl (Nat.le_of_ble_eq_true rfl) dL_isAhead_191 (r_N ?_) r_NX
                                      show PX Z 10 S191 0 0 194 [(7, .int v61), (0, va_rf r0), (1, .int i1), (2, .int v38), (3, .int v39), (4, .int v40), (6, .int v41)] [.int v190]
                                      refine x_aload_n (i := 0) hC dL_isAhead_194 rfl 1 rfl ?_
                                      refine x_iload_n (i := 3) hC dL_isAhead_195 rfl 4 rfl ?_
                                      refine x_iconst (v := (0 : Int32)) hC dL_isAhead_196 (by decide) ?_
                                      replace h := dr_el h
                                      obtain ⟨a194, ea195, ha196, h⟩ := h
                                      replace h := bt_el h
                                      obtain ⟨v197, S198, hb220, h⟩ | ⟨j199, S200, hb220, h⟩ := h
                                      · refine x_callV hC (st := [.int v190]) (mtr_X4_personOf _ _ _ _ (v197, S198) hb220) ea195 ha196 kf_4 q_506 q_507 q_508 q_1 q_509 ⟨rfl, hy_X4_personOf⟩ ⟨Nat.le_of_ble_eq_true rfl, Nat.le_of_ble_eq_true rfl⟩ ⟨Nat.le_of_ble_eq_true rfl, Nat.le_of_ble_eq_true rfl⟩ rfl (Nat.le_of_ble_eq_true rfl) dL_isAhead_197 (r_N ?_) r_NX
                                        show PX Z 10 S198 0 0 200 [(7, .int v61), (0, va_rf r0), (1, .int i1), (2, .int v38), (3, .int v39), (4, .int v40), (6, .int v41)] [.int v197, .int v190]
                                        refine x_icmp_gt (t := 225) hC dL_isAhead_200 (by decide) (fun c201 => ?_) (fun c201 => ?_)
                                        · replace h := it_t c201 h
                                          refine x_iconst (v := (1 : Int32)) hC dL_isAhead_225 (by decide) ?_
                                          refine x_goto (t := 230) hC dL_isAhead_226 (by decide) ?_
                                          refine x_sub (l' := [(0, va_rf r0), (1, .int i1), (2, .int v38), (3, .int v39), (6, .int v41), (7, .int v61)]) [1, 2, 3, 4, 6, 0] rfl ?_
                                          exact J_230 _ _ _ _ _ _ h
                                        · replace h := it_f c201 h
                                          refine x_aload_n (i := 0) hC dL_isAhead_203 rfl 1 rfl ?_
                                          refine x_iload (i := 6) hC dL_isAhead_204 6 rfl ?_
                                          refine x_iconst (v := (0 : Int32)) hC dL_isAhead_206 (by decide) ?_
                                          replace h := dr_el h
                                          obtain ⟨a202, ea203, ha204, h⟩ := h
                                          replace h := bt_el h
                                          obtain ⟨v205, S206, hb219, h⟩ | ⟨j207, S208, hb219, h⟩ := h
                                          · refine x_callV hC (st := []) (mtr_X4_personOf _ _ _ _ (v205, S206) hb219) ea203 ha204 kf_4 q_506 q_507 q_508 q_1 q_509 ⟨rfl, hy_X4_personOf⟩ ⟨Nat.le_of_ble_eq_true rfl, Nat.le_of_ble_eq_true rfl⟩ ⟨Nat.le_of_ble_eq_true rfl, Nat.le_of_ble_eq_true rfl⟩ rfl (Nat.le_of_ble_eq_true rfl) dL_isAhead_207 (r_N ?_) r_NX
                                            show PX Z 10 S206 0 0 210 [(7, .int v61), (0, va_rf r0), (1, .int i1), (2, .int v38), (3, .int v39), (4, .int v40), (6, .int v41)] [.int v205]
                                            refine x_aload_n (i := 0) hC dL_isAhead_210 rfl 1 rfl ?_
                                            refine x_iload_n (i := 3) hC dL_isAhead_211 rfl 4 rfl ?_
                                            refine x_iconst (v := (0 : Int32)) hC dL_isAhead_212 (by decide) ?_
                                            replace h := dr_el h
                                            obtain ⟨a209, ea210, ha211, h⟩ := h
                                            replace h := bt_el h
                                            obtain ⟨v212, S213, hb218, h⟩ | ⟨j214, S215, hb218, h⟩ := h
                                            · refine x_callV hC (st := [.int v205]) (mtr_X4_personOf _ _ _ _ (v212, S213) hb218) ea210 ha211 kf_4 q_506 q_507 q_508 q_1 q_509 ⟨rfl, hy_X4_personOf⟩ ⟨Nat.le_of_ble_eq_true rfl, Nat.le_of_ble_eq_true rfl⟩ ⟨Nat.le_of_ble_eq_true rfl, Nat.le_of_ble_eq_true rfl⟩ rfl (Nat.le_of_ble_eq_true rfl) dL_isAhead_213 (r_N ?_) r_NX
                                              show PX Z 10 S213 0 0 216 [(7, .int v61), (0, va_rf r0), (1, .int i1), (2, .int v38), (3, .int v39), (4, .int v40), (6, .int v41)] [.int v212, .int v205]
                                              refine x_icmp_ne (t := 229) hC dL_isAhead_216 (by decide) (fun c216 => ?_) (fun c216 => ?_)
                                              · replace h := it_f c216 h
                                                refine x_iconst (v := (0 : Int32)) hC dL_isAhead_229 (by decide) ?_
                                                refine x_sub (l' := [(0, va_rf r0), (1, .int i1), (2, .int v38), (3, .int v39), (6, .int v41), (7, .int v61)]) [1, 2, 3, 4, 6, 0] rfl ?_
                                                exact J_230 _ _ _ _ _ _ h
                                              · replace h := it_t c216 h
                                                refine x_iload (i := 6) hC dL_isAhead_219 6 rfl ?_
                                                refine x_iload_n (i := 3) hC dL_isAhead_221 rfl 4 rfl ?_
                                                refine x_icmp_ge (t := 229) hC dL_isAhead_222 (by decide) (fun c217 => ?_) (fun c217 => ?_)
                                                · replace h := it_t c217 h
                                                  refine x_iconst (v := (0 : Int32)) hC dL_isAhead_229 (by decide) ?_
                                                  refine x_sub (l' := [(0, va_rf r0), (1, .int i1), (2, .int v38), (3, .int v39), (6, .int v41), (7, .int v61)]) [1, 2, 3, 4, 6, 0] rfl ?_
                                                  exact J_230 _ _ _ _ _ _ h
                                                · replace h := it_f c217 h
                                                  refine x_iconst (v := (1 : Int32)) hC dL_isAhead_225 (by decide) ?_
                                                  refine x_goto (t := 230) hC dL_isAhead_226 (by decide) ?_
                                                  refine x_sub (l' := [(0, va_rf r0), (1, .int i1), (2, .int v38), (3, .int v39), (6, .int v41), (7, .int v61)]) [1, 2, 3, 4, 6, 0] rfl ?_
                                                  exact J_230 _ _ _ _ _ _ h
                                            · replace h := ir_x h hg_130; exact z_no hyr (Option.some.inj h)
                                          · replace h := ir_x h hg_130; exact z_no hyr (Option.some.inj h)
                                      · replace h := ir_x h hg_130; exact z_no hyr (Option.some.inj h)
                                    · replace h := ir_x h hg_130; exact z_no hyr (Option.some.inj h)
                                · replace h := ir_x h hg_130; exact z_no hyr (Option.some.inj h)
                              · replace h := ir_x h hg_130; exact z_no hyr (Option.some.inj h)
                          · replace h := ir_x h hg_130; exact z_no hyr (Option.some.inj h)
                        · replace h := ir_x h hg_130; exact z_no hyr (Option.some.inj h)
                    · replace h := ir_x h hg_130; exact z_no hyr (Option.some.inj h)
              · replace h := it_f c37 h
                refine x_iload (i := 5) hC dL_isAhead_106 5 rfl ?_
                refine x_iload_n (i := 2) hC dL_isAhead_108 rfl 2 rfl ?_
                refine x_if_le (t := 116) hC dL_isAhead_109 (by decide) (fun c227 => ?_) (fun c227 => ?_)
                · replace h := it_t c227 h
                  refine x_iconst (v := (0 : Int32)) hC dL_isAhead_116 (by decide) ?_
                  refine x_sub (l' := [(0, va_rf r0), (1, .int i1), (2, .int v23), (3, .int v24)]) [0, 1, 2, 3] rfl ?_
                  exact J_117 _ _ _ _ _ h
                · replace h := it_f c227 h
                  refine x_iconst (v := (1 : Int32)) hC dL_isAhead_112 (by decide) ?_
                  refine x_goto (t := 117) hC dL_isAhead_113 (by decide) ?_
                  refine x_sub (l' := [(0, va_rf r0), (1, .int i1), (2, .int v23), (3, .int v24)]) [0, 1, 2, 3] rfl ?_
                  exact J_117 _ _ _ _ _ h
            · replace h := it_f c36 h
              refine x_iload (i := 5) hC dL_isAhead_73 5 rfl ?_
              refine x_if_ne (t := 88) hC dL_isAhead_75 (by decide) (fun c404 => ?_) (fun c404 => ?_)
              · replace h := it_f c404 h
                refine x_iconst (v := (1 : Int32)) hC dL_isAhead_88 (by decide) ?_
                refine x_goto (t := 93) hC dL_isAhead_89 (by decide) ?_
                refine x_istore (i := 5) (l' := [(5, .int (1 : Int32)), (0, va_rf r0), (1, .int i1), (2, .int v23), (3, .int v24), (4, .int v25), (6, .int v27)]) hC dL_isAhead_93 (⟨fun _ => c_rf r0, ⟨fun _ => rfl, ⟨fun _ => rfl, ⟨fun _ => rfl, ⟨fun _ => rfl, ⟨fun _ => rfl, ⟨fun _ => rfl, trivial⟩⟩⟩⟩⟩⟩⟩) (by decide) rfl ?_
                refine x_iinc (i := 6) (v := (v27 + (1 : Int32))) (l' := [(6, .int (v27 + (1 : Int32))), (5, .int (1 : Int32)), (0, va_rf r0), (1, .int i1), (2, .int v23), (3, .int v24), (4, .int v25)]) hC dL_isAhead_95 6 rfl rfl (⟨fun _ => rfl, ⟨fun _ => c_rf r0, ⟨fun _ => rfl, ⟨fun _ => rfl, ⟨fun _ => rfl, ⟨fun _ => rfl, ⟨fun _ => rfl, trivial⟩⟩⟩⟩⟩⟩⟩) (by decide) rfl ?_
                refine x_goto (t := 63) hC dL_isAhead_98 (by decide) ?_
                refine x_sub (l' := [(0, va_rf r0), (1, .int i1), (2, .int v23), (3, .int v24), (4, .int v25), (5, .int (1 : Int32)), (6, .int (v27 + (1 : Int32)))]) [2, 3, 4, 5, 6, 1, 0] rfl ?_
                have hb := bk_x h hg_63
                exact hb
              · replace h := it_t c404 h
                refine x_aload_n (i := 0) hC dL_isAhead_78 rfl 0 rfl ?_
                refine x_iload (i := 6) hC dL_isAhead_79 6 rfl ?_
                replace h := dr_el h
                obtain ⟨a405, ea406, ha407, h⟩ := h
                replace h := bt_el h
                obtain ⟨v408, S409, hb413, h⟩ | ⟨j410, S411, hb413, h⟩ := h
                · refine x_callV hC (st := []) (mtr_X4_bestReviewer _ _ _ (v408, S409) hb413) ea406 ha407 kf_4 q_688 q_689 q_690 q_1 q_691 ⟨rfl, hy_X4_bestReviewer⟩ ⟨Nat.le_of_ble_eq_true rfl, Nat.le_of_ble_eq_true rfl⟩ ⟨Nat.le_of_ble_eq_true rfl, Nat.le_of_ble_eq_true rfl⟩ rfl (Nat.le_of_ble_eq_true rfl) dL_isAhead_81 (r_N ?_) r_NX
                  show PX Z 10 S409 0 0 84 [(0, va_rf r0), (1, .int i1), (2, .int v23), (3, .int v24), (4, .int v25), (5, .int v26), (6, .int v27)] [.int v408]
                  refine x_iconst (v := (-1 : Int32)) hC dL_isAhead_84 (by decide) ?_
                  refine x_icmp_eq (t := 92) hC dL_isAhead_85 (by decide) (fun c412 => ?_) (fun c412 => ?_)
                  · replace h := it_t c412 h
                    refine x_iconst (v := (0 : Int32)) hC dL_isAhead_92 (by decide) ?_
                    refine x_istore (i := 5) (l' := [(5, .int (0 : Int32)), (0, va_rf r0), (1, .int i1), (2, .int v23), (3, .int v24), (4, .int v25), (6, .int v27)]) hC dL_isAhead_93 (⟨fun _ => c_rf r0, ⟨fun _ => rfl, ⟨fun _ => rfl, ⟨fun _ => rfl, ⟨fun _ => rfl, ⟨fun _ => rfl, ⟨fun _ => rfl, trivial⟩⟩⟩⟩⟩⟩⟩) (by decide) rfl ?_
                    refine x_iinc (i := 6) (v := (v27 + (1 : Int32))) (l' := [(6, .int (v27 + (1 : Int32))), (5, .int (0 : Int32)), (0, va_rf r0), (1, .int i1), (2, .int v23), (3, .int v24), (4, .int v25)]) hC dL_isAhead_95 6 rfl rfl (⟨fun _ => rfl, ⟨fun _ => c_rf r0, ⟨fun _ => rfl, ⟨fun _ => rfl, ⟨fun _ => rfl, ⟨fun _ => rfl, ⟨fun _ => rfl, trivial⟩⟩⟩⟩⟩⟩⟩) (by decide) rfl ?_
                    refine x_goto (t := 63) hC dL_isAhead_98 (by decide) ?_
                    refine x_sub (l' := [(0, va_rf r0), (1, .int i1), (2, .int v23), (3, .int v24), (4, .int v25), (5, .int (0 : Int32)), (6, .int (v27 + (1 : Int32)))]) [2, 3, 4, 5, 6, 1, 0] rfl ?_
                    have hb := bk_x h hg_63
                    exact hb
                  · replace h := it_f c412 h
                    refine x_iconst (v := (1 : Int32)) hC dL_isAhead_88 (by decide) ?_
                    refine x_goto (t := 93) hC dL_isAhead_89 (by decide) ?_
                    refine x_istore (i := 5) (l' := [(5, .int (1 : Int32)), (0, va_rf r0), (1, .int i1), (2, .int v23), (3, .int v24), (4, .int v25), (6, .int v27)]) hC dL_isAhead_93 (⟨fun _ => c_rf r0, ⟨fun _ => rfl, ⟨fun _ => rfl, ⟨fun _ => rfl, ⟨fun _ => rfl, ⟨fun _ => rfl, ⟨fun _ => rfl, trivial⟩⟩⟩⟩⟩⟩⟩) (by decide) rfl ?_
                    refine x_iinc (i := 6) (v := (v27 + (1 : Int32))) (l' := [(6, .int (v27 + (1 : Int32))), (5, .int (1 : Int32)), (0, va_rf r0), (1, .int i1), (2, .int v23), (3, .int v24), (4, .int v25)]) hC dL_isAhead_95 6 rfl rfl (⟨fun _ => rfl, ⟨fun _ => c_rf r0, ⟨fun _ => rfl, ⟨fun _ => rfl, ⟨fun _ => rfl, ⟨fun _ => rfl, ⟨fun _ => rfl, trivial⟩⟩⟩⟩⟩⟩⟩) (by decide) rfl ?_
                    refine x_goto (t := 63) hC dL_isAhead_98 (by decide) ?_
                    refine x_sub (l' := [(0, va_rf r0), (1, .int i1), (2, .int v23), (3, .int v24), (4, .int v25), (5, .int (1 : Int32)), (6, .int (v27 + (1 : Int32)))]) [2, 3, 4, 5, 6, 1, 0] rfl ?_
                    have hb := bk_x h hg_63
                    exact hb
                · replace h := ir_x h hg_63; exact z_no hyr (Option.some.inj h)
          · replace h := ir_x h hg_63; exact z_no hyr (Option.some.inj h)
        · replace h := it_t c22 h
          refine x_iload_n (i := 2) hC dL_isAhead_21 rfl 1 rfl ?_
          refine x_if_lt (t := 54) hC dL_isAhead_22 (by decide) (fun c415 => ?_) (fun c415 => ?_)
          · replace h := it_t c415 h
            refine x_iconst (v := (0 : Int32)) hC dL_isAhead_54 (by decide) ?_
            refine x_istore (i := 4) (l' := [(4, .int (0 : Int32)), (3, .int v11), (2, .int v4), (0, va_rf r0), (1, .int i1)]) hC dL_isAhead_55 (⟨fun _ => rfl, ⟨fun _ => rfl, ⟨fun _ => c_rf r0, ⟨fun _ => rfl, trivial⟩⟩⟩⟩) (by decide) rfl ?_
            refine x_iconst (v := (0 : Int32)) hC dL_isAhead_57 (by decide) ?_
            refine x_istore (i := 5) (l' := [(5, .int (0 : Int32)), (4, .int (0 : Int32)), (3, .int v11), (2, .int v4), (0, va_rf r0), (1, .int i1)]) hC dL_isAhead_58 (⟨fun _ => rfl, ⟨fun _ => rfl, ⟨fun _ => rfl, ⟨fun _ => c_rf r0, ⟨fun _ => rfl, trivial⟩⟩⟩⟩⟩) (by decide) rfl ?_
            refine x_iconst (v := (0 : Int32)) hC dL_isAhead_60 (by decide) ?_
            refine x_istore (i := 6) (l' := [(6, .int (0 : Int32)), (5, .int (0 : Int32)), (4, .int (0 : Int32)), (3, .int v11), (2, .int v4), (0, va_rf r0), (1, .int i1)]) hC dL_isAhead_61 (⟨fun _ => rfl, ⟨fun _ => rfl, ⟨fun _ => rfl, ⟨fun _ => rfl, ⟨fun _ => c_rf r0, ⟨fun _ => rfl, trivial⟩⟩⟩⟩⟩⟩) (by decide) rfl ?_
            refine x_sub (l' := [(0, va_rf r0), (1, .int i1), (2, .int v4), (3, .int v11), (4, .int (0 : Int32)), (5, .int (0 : Int32)), (6, .int (0 : Int32))]) [5, 6, 4, 3, 2, 1, 0] rfl ?_
            refine lp_sim (P := fun (t : (Int32 × Int32 × Int32 × Int32 × Int32 × PH)) => PX Z 10 t.2.2.2.2.2 0 0 63 [(0, va_rf r0), (1, .int i1), (2, .int t.1), (3, .int t.2.1), (4, .int t.2.2.1), (5, .int t.2.2.2.1), (6, .int t.2.2.2.2.1)] []) (G := fun r => r = y) ?_ h rfl
            clear h
            intro t x_63 h hg_63
            obtain ⟨v416, v417, v418, v419, v420, S421⟩ := t
            show PX Z 10 S421 0 0 63 [(0, va_rf r0), (1, .int i1), (2, .int v416), (3, .int v417), (4, .int v418), (5, .int v419), (6, .int v420)] []
            unfold st_L_isAhead_63 at h
            refine x_iload (i := 6) hC dL_isAhead_63 6 rfl ?_
            refine x_aload_n (i := 0) hC dL_isAhead_65 rfl 0 rfl ?_
            refine x_iconst (v := (0 : Int32)) hC dL_isAhead_66 (by decide) ?_
            replace h := dr_el h
            obtain ⟨a422, ea423, ha424, h⟩ := h
            replace h := bt_el h
            obtain ⟨v425, S426, hb527, h⟩ | ⟨j427, S428, hb527, h⟩ := h
            · refine x_callV hC (st := [.int v420]) (mtr_X4_count _ _ _ (v425, S426) hb527) ea423 ha424 kf_4 q_406 q_407 q_408 q_1 q_409 ⟨rfl, hy_X4_count⟩ ⟨Nat.le_of_ble_eq_true rfl, Nat.le_of_ble_eq_true rfl⟩ ⟨Nat.le_of_ble_eq_true rfl, Nat.le_of_ble_eq_true rfl⟩ rfl (Nat.le_of_ble_eq_true rfl) dL_isAhead_67 (r_N ?_) r_NX
              show PX Z 10 S426 0 0 70 [(0, va_rf r0), (1, .int i1), (2, .int v416), (3, .int v417), (4, .int v418), (5, .int v419), (6, .int v420)] [.int v425, .int v420]
              refine x_icmp_ge (t := 101) hC dL_isAhead_70 (by decide) (fun c429 => ?_) (fun c429 => ?_)
              · replace h := it_t c429 h
                replace h := ir_x h hg_63
                refine x_iload (i := 4) hC dL_isAhead_101 4 rfl ?_
                refine x_if_eq (t := 124) hC dL_isAhead_103 (by decide) (fun c430 => ?_) (fun c430 => ?_)
                · replace h := it_t c430 h
                  refine x_iconst (v := (0 : Int32)) hC dL_isAhead_124 (by decide) ?_
                  refine x_istore (i := 4) (l' := [(4, .int (0 : Int32)), (0, va_rf r0), (1, .int i1), (2, .int v416), (3, .int v417), (5, .int v419), (6, .int v420)]) hC dL_isAhead_125 (⟨fun _ => c_rf r0, ⟨fun _ => rfl, ⟨fun _ => rfl, ⟨fun _ => rfl, ⟨fun _ => rfl, ⟨fun _ => rfl, ⟨fun _ => rfl, trivial⟩⟩⟩⟩⟩⟩⟩) (by decide) rfl ?_
                  refine x_iconst (v := (0 : Int32)) hC dL_isAhead_127 (by decide) ?_
                  refine x_istore (i := 6) (l' := [(6, .int (0 : Int32)), (4, .int (0 : Int32)), (0, va_rf r0), (1, .int i1), (2, .int v416), (3, .int v417), (5, .int v419)]) hC dL_isAhead_128 (⟨fun _ => rfl, ⟨fun _ => c_rf r0, ⟨fun _ => rfl, ⟨fun _ => rfl, ⟨fun _ => rfl, ⟨fun _ => rfl, ⟨fun _ => rfl, trivial⟩⟩⟩⟩⟩⟩⟩) (by decide) rfl ?_
                  refine x_sub (l' := [(0, va_rf r0), (1, .int i1), (2, .int v416), (3, .int v417), (4, .int (0 : Int32)), (6, .int (0 : Int32))]) [2, 3, 4, 5, 1, 0] rfl ?_
                  refine lp_sim (P := fun (t : (Int32 × Int32 × Int32 × Int32 × PH)) => PX Z 10 t.2.2.2.2 0 0 130 [(0, va_rf r0), (1, .int i1), (2, .int t.1), (3, .int t.2.1), (4, .int t.2.2.1), (6, .int t.2.2.2.1)] []) (G := fun r => r = y) ?_ h rfl
                  clear h
                  intro t x_130 h hg_130
                  obtain ⟨v431, v432, v433, v434, S435⟩ := t
                  show PX Z 10 S435 0 0 130 [(0, va_rf r0), (1, .int i1), (2, .int v431), (3, .int v432), (4, .int v433), (6, .int v434)] []
                  have J_328 : ∀ (v117 : Int32) (v118 : Int32) (v119 : Int32) (v120 : Int32) (v121 : Int32) (S122 : PH), j_L_isAhead_328 r0 i1 v117 v118 v119 v120 v121 S122 = some x_130 → PX Z 10 S122 0 0 328 [(0, va_rf r0), (1, .int i1), (2, .int v117), (3, .int v118), (6, .int v119), (7, .int v120), (9, .int v121)] [] := by
                    intro v117 v118 v119 v120 v121 S122 h
                    unfold j_L_isAhead_328 at h
                    refine x_iload (i := 7) hC dL_isAhead_328 5 rfl ?_
                    refine x_iconst (v := (5 : Int32)) hC dL_isAhead_330 (by decide) ?_
                    refine x_icmp_lt (t := 339) hC dL_isAhead_331 (by decide) (fun c123 => ?_) (fun c123 => ?_)
                    · replace h := it_t c123 h
                      refine x_iconst (v := (1 : Int32)) hC dL_isAhead_339 (by decide) ?_
                      refine x_goto (t := 366) hC dL_isAhead_340 (by decide) ?_
                      refine x_istore (i := 4) (l' := [(4, .int (1 : Int32)), (0, va_rf r0), (1, .int i1), (2, .int v117), (3, .int v118), (6, .int v119), (7, .int v120), (9, .int v121)]) hC dL_isAhead_366 (⟨fun _ => c_rf r0, ⟨fun _ => rfl, ⟨fun _ => rfl, ⟨fun _ => rfl, ⟨fun _ => rfl, ⟨fun _ => rfl, ⟨fun _ => rfl, trivial⟩⟩⟩⟩⟩⟩⟩) (by decide) rfl ?_
                      refine x_iinc (i := 6) (v := (v119 + (1 : Int32))) (l' := [(6, .int (v119 + (1 : Int32))), (4, .int (1 : Int32)), (0, va_rf r0), (1, .int i1), (2, .int v117), (3, .int v118), (7, .int v120), (9, .int v121)]) hC dL_isAhead_368 5 rfl rfl (⟨fun _ => rfl, ⟨fun _ => c_rf r0, ⟨fun _ => rfl, ⟨fun _ => rfl, ⟨fun _ => rfl, ⟨fun _ => rfl, ⟨fun _ => rfl, ⟨fun _ => rfl, trivial⟩⟩⟩⟩⟩⟩⟩⟩) (by decide) rfl ?_
                      refine x_goto (t := 130) hC dL_isAhead_371 (by decide) ?_
                      refine x_sub (l' := [(0, va_rf r0), (1, .int i1), (2, .int v117), (3, .int v118), (4, .int (1 : Int32)), (6, .int (v119 + (1 : Int32)))]) [2, 3, 4, 5, 1, 0] rfl ?_
                      have hb := bk_x h hg_130
                      exact hb
                    · replace h := it_f c123 h
                      refine x_iload (i := 9) hC dL_isAhead_334 6 rfl ?_
                      refine x_if_ne (t := 343) hC dL_isAhead_336 (by decide) (fun c124 => ?_) (fun c124 => ?_)
                      · replace h := it_f c124 h
                        refine x_iconst (v := (0 : Int32)) hC dL_isAhead_343 (by decide) ?_
                        refine x_goto (t := 366) hC dL_isAhead_344 (by decide) ?_
                        refine x_istore (i := 4) (l' := [(4, .int (0 : Int32)), (0, va_rf r0), (1, .int i1), (2, .int v117), (3, .int v118), (6, .int v119), (7, .int v120), (9, .int v121)]) hC dL_isAhead_366 (⟨fun _ => c_rf r0, ⟨fun _ => rfl, ⟨fun _ => rfl, ⟨fun _ => rfl, ⟨fun _ => rfl, ⟨fun _ => rfl, ⟨fun _ => rfl, trivial⟩⟩⟩⟩⟩⟩⟩) (by decide) rfl ?_
                        refine x_iinc (i := 6) (v := (v119 + (1 : Int32))) (l' := [(6, .int (v119 + (1 : Int32))), (4, .int (0 : Int32)), (0, va_rf r0), (1, .int i1), (2, .int v117), (3, .int v118), (7, .int v120), (9, .int v121)]) hC dL_isAhead_368 5 rfl rfl (⟨fun _ => rfl, ⟨fun _ => c_rf r0, ⟨fun _ => rfl, ⟨fun _ => rfl, ⟨fun _ => rfl, ⟨fun _ => rfl, ⟨fun _ => rfl, ⟨fun _ => rfl, trivial⟩⟩⟩⟩⟩⟩⟩⟩) (by decide) rfl ?_
                        refine x_goto (t := 130) hC dL_isAhead_371 (by decide) ?_
                        refine x_sub (l' := [(0, va_rf r0), (1, .int i1), (2, .int v117), (3, .int v118), (4, .int (0 : Int32)), (6, .int (v119 + (1 : Int32)))]) [2, 3, 4, 5, 1, 0] rfl ?_
                        have hb := bk_x h hg_130
                        exact hb
                      · replace h := it_t c124 h
                        refine x_iconst (v := (1 : Int32)) hC dL_isAhead_339 (by decide) ?_
                        refine x_goto (t := 366) hC dL_isAhead_340 (by decide) ?_
                        refine x_istore (i := 4) (l' := [(4, .int (1 : Int32)), (0, va_rf r0), (1, .int i1), (2, .int v117), (3, .int v118), (6, .int v119), (7, .int v120), (9, .int v121)]) hC dL_isAhead_366 (⟨fun _ => c_rf r0, ⟨fun _ => rfl, ⟨fun _ => rfl, ⟨fun _ => rfl, ⟨fun _ => rfl, ⟨fun _ => rfl, ⟨fun _ => rfl, trivial⟩⟩⟩⟩⟩⟩⟩) (by decide) rfl ?_
                        refine x_iinc (i := 6) (v := (v119 + (1 : Int32))) (l' := [(6, .int (v119 + (1 : Int32))), (4, .int (1 : Int32)), (0, va_rf r0), (1, .int i1), (2, .int v117), (3, .int v118), (7, .int v120), (9, .int v121)]) hC dL_isAhead_368 5 rfl rfl (⟨fun _ => rfl, ⟨fun _ => c_rf r0, ⟨fun _ => rfl, ⟨fun _ => rfl, ⟨fun _ => rfl, ⟨fun _ => rfl, ⟨fun _ => rfl, ⟨fun _ => rfl, trivial⟩⟩⟩⟩⟩⟩⟩⟩) (by decide) rfl ?_
                        refine x_goto (t := 130) hC dL_isAhead_371 (by decide) ?_
                        refine x_sub (l' := [(0, va_rf r0), (1, .int i1), (2, .int v117), (3, .int v118), (4, .int (1 : Int32)), (6, .int (v119 + (1 : Int32)))]) [2, 3, 4, 5, 1, 0] rfl ?_
                        have hb := bk_x h hg_130
                        exact hb
                  have J_314 : ∀ (v107 : Int32) (v108 : Int32) (v109 : Int32) (v110 : Int32) (v111 : Int32) (v112 : Int32) (v113 : Int32) (S114 : PH), j_L_isAhead_314 r0 i1 v107 v108 v109 v110 v111 v112 v113 S114 = some x_130 → PX Z 10 S114 0 0 314 [(0, va_rf r0), (1, .int i1), (2, .int v107), (3, .int v108), (6, .int v109), (7, .int v110), (9, .int v111)] [.int v113, .int v112] := by
                    intro v107 v108 v109 v110 v111 v112 v113 S114 h
                    unfold j_L_isAhead_314 at h
                    refine x_icmp_ne (t := 343) hC dL_isAhead_314 (by decide) (fun c115 => ?_) (fun c115 => ?_)
                    · replace h := it_f c115 h
                      refine x_iconst (v := (0 : Int32)) hC dL_isAhead_343 (by decide) ?_
                      refine x_goto (t := 366) hC dL_isAhead_344 (by decide) ?_
                      refine x_istore (i := 4) (l' := [(4, .int (0 : Int32)), (0, va_rf r0), (1, .int i1), (2, .int v107), (3, .int v108), (6, .int v109), (7, .int v110), (9, .int v111)]) hC dL_isAhead_366 (⟨fun _ => c_rf r0, ⟨fun _ => rfl, ⟨fun _ => rfl, ⟨fun _ => rfl, ⟨fun _ => rfl, ⟨fun _ => rfl, ⟨fun _ => rfl, trivial⟩⟩⟩⟩⟩⟩⟩) (by decide) rfl ?_
                      refine x_iinc (i := 6) (v := (v109 + (1 : Int32))) (l' := [(6, .int (v109 + (1 : Int32))), (4, .int (0 : Int32)), (0, va_rf r0), (1, .int i1), (2, .int v107), (3, .int v108), (7, .int v110), (9, .int v111)]) hC dL_isAhead_368 5 rfl rfl (⟨fun _ => rfl, ⟨fun _ => c_rf r0, ⟨fun _ => rfl, ⟨fun _ => rfl, ⟨fun _ => rfl, ⟨fun _ => rfl, ⟨fun _ => rfl, ⟨fun _ => rfl, trivial⟩⟩⟩⟩⟩⟩⟩⟩) (by decide) rfl ?_
                      refine x_goto (t := 130) hC dL_isAhead_371 (by decide) ?_
                      refine x_sub (l' := [(0, va_rf r0), (1, .int i1), (2, .int v107), (3, .int v108), (4, .int (0 : Int32)), (6, .int (v109 + (1 : Int32)))]) [2, 3, 4, 5, 1, 0] rfl ?_
                      have hb := bk_x h hg_130
                      exact hb
                    · replace h := it_t c115 h
                      refine x_iload (i := 7) hC dL_isAhead_317 5 rfl ?_
                      refine x_iconst (v := (4 : Int32)) hC dL_isAhead_319 (by decide) ?_
                      refine x_icmp_ne (t := 328) hC dL_isAhead_320 (by decide) (fun c116 => ?_) (fun c116 => ?_)
                      · replace h := it_f c116 h
                        exact J_328 _ _ _ _ _ _ h
                      · replace h := it_t c116 h
                        refine x_iload (i := 9) hC dL_isAhead_323 6 rfl ?_
                        refine x_if_eq (t := 343) hC dL_isAhead_325 (by decide) (fun c125 => ?_) (fun c125 => ?_)
                        · replace h := it_t c125 h
                          refine x_iconst (v := (0 : Int32)) hC dL_isAhead_343 (by decide) ?_
                          refine x_goto (t := 366) hC dL_isAhead_344 (by decide) ?_
                          refine x_istore (i := 4) (l' := [(4, .int (0 : Int32)), (0, va_rf r0), (1, .int i1), (2, .int v107), (3, .int v108), (6, .int v109), (7, .int v110), (9, .int v111)]) hC dL_isAhead_366 (⟨fun _ => c_rf r0, ⟨fun _ => rfl, ⟨fun _ => rfl, ⟨fun _ => rfl, ⟨fun _ => rfl, ⟨fun _ => rfl, ⟨fun _ => rfl, trivial⟩⟩⟩⟩⟩⟩⟩) (by decide) rfl ?_
                          refine x_iinc (i := 6) (v := (v109 + (1 : Int32))) (l' := [(6, .int (v109 + (1 : Int32))), (4, .int (0 : Int32)), (0, va_rf r0), (1, .int i1), (2, .int v107), (3, .int v108), (7, .int v110), (9, .int v111)]) hC dL_isAhead_368 5 rfl rfl (⟨fun _ => rfl, ⟨fun _ => c_rf r0, ⟨fun _ => rfl, ⟨fun _ => rfl, ⟨fun _ => rfl, ⟨fun _ => rfl, ⟨fun _ => rfl, ⟨fun _ => rfl, trivial⟩⟩⟩⟩⟩⟩⟩⟩) (by decide) rfl ?_
                          refine x_goto (t := 130) hC dL_isAhead_371 (by decide) ?_
                          refine x_sub (l' := [(0, va_rf r0), (1, .int i1), (2, .int v107), (3, .int v108), (4, .int (0 : Int32)), (6, .int (v109 + (1 : Int32)))]) [2, 3, 4, 5, 1, 0] rfl ?_
                          have hb := bk_x h hg_130
                          exact hb
                        · replace h := it_f c125 h
                          exact J_328 _ _ _ _ _ _ h
                  have J_271 : ∀ (v92 : Int32) (v93 : Int32) (v94 : Int32) (v95 : Int32) (v96 : Int32) (v97 : Int32) (S98 : PH), j_L_isAhead_271 r0 i1 v92 v93 v94 v95 v96 v97 S98 = some x_130 → PX Z 10 S98 0 0 271 [(0, va_rf r0), (1, .int i1), (2, .int v92), (3, .int v93), (6, .int v94), (7, .int v95), (9, .int v96)] [.int v97] := by
                    intro v92 v93 v94 v95 v96 v97 S98 h
                    unfold j_L_isAhead_271 at h
                    refine x_aload_n (i := 0) hC dL_isAhead_271 rfl 0 rfl ?_
                    refine x_iload_n (i := 1) hC dL_isAhead_272 rfl 1 rfl ?_
                    refine x_bipush (v := (8 : Int32)) hC dL_isAhead_273 (by decide) ?_
                    replace h := dr_el h
                    obtain ⟨a99, ea100, ha101, h⟩ := h
                    replace h := bt_el h
                    obtain ⟨v102, S103, hb155, h⟩ | ⟨j104, S105, hb155, h⟩ := h
                    · refine x_callV hC (st := [.int v97]) (mtr_X4_paperOf _ _ _ _ (v102, S103) hb155) ea100 ha101 kf_4 q_527 q_528 q_529 q_1 q_530 ⟨rfl, hy_X4_paperOf⟩ ⟨Nat.le_of_ble_eq_true rfl, Nat.le_of_ble_eq_true rfl⟩ ⟨Nat.le_of_ble_eq_true rfl, Nat.le_of_ble_eq_true rfl⟩ rfl (Nat.le_of_ble_eq_true rfl) dL_isAhead_275 (r_N ?_) r_NX
                      show PX Z 10 S103 0 0 278 [(0, va_rf r0), (1, .int i1), (2, .int v92), (3, .int v93), (6, .int v94), (7, .int v95), (9, .int v96)] [.int v102, .int v97]
                      refine x_if_ne (t := 313) hC dL_isAhead_278 (by decide) (fun c106 => ?_) (fun c106 => ?_)
                      · replace h := it_f c106 h
                        refine x_iconst (v := (0 : Int32)) hC dL_isAhead_313 (by decide) ?_
                        exact J_314 _ _ _ _ _ _ _ _ h
                      · replace h := it_t c106 h
                        refine x_aload_n (i := 0) hC dL_isAhead_281 rfl 0 rfl ?_
                        refine x_iload (i := 6) hC dL_isAhead_282 4 rfl ?_
                        refine x_iload_n (i := 1) hC dL_isAhead_284 rfl 1 rfl ?_
                        replace h := dr_el h
                        obtain ⟨a126, ea127, ha128, h⟩ := h
                        replace h := bt_el h
                        obtain ⟨v129, S130, hb154, h⟩ | ⟨j131, S132, hb154, h⟩ := h
                        · refine x_callV hC (st := [.int v97]) (mtr_X4_score _ _ _ _ (v129, S130) hb154) ea127 ha128 kf_4 q_548 q_549 q_550 q_1 q_551 ⟨rfl, hy_X4_score⟩ ⟨Nat.le_of_ble_eq_true rfl, Nat.le_of_ble_eq_true rfl⟩ ⟨Nat.le_of_ble_eq_true rfl, Nat.le_of_ble_eq_true rfl⟩ rfl (Nat.le_of_ble_eq_true rfl) dL_isAhead_285 (r_N ?_) r_NX
                          show PX Z 10 S130 0 0 288 [(0, va_rf r0), (1, .int i1), (2, .int v92), (3, .int v93), (6, .int v94), (7, .int v95), (9, .int v96)] [.int v129, .int v97]
                          refine x_iconst (v := (-1 : Int32)) hC dL_isAhead_288 (by decide) ?_
                          refine x_icmp_ne (t := 313) hC dL_isAhead_289 (by decide) (fun c133 => ?_) (fun c133 => ?_)
                          · replace h := it_f c133 h
                            refine x_iconst (v := (0 : Int32)) hC dL_isAhead_313 (by decide) ?_
                            exact J_314 _ _ _ _ _ _ _ _ h
                          · replace h := it_t c133 h
                            refine x_aload_n (i := 0) hC dL_isAhead_292 rfl 0 rfl ?_
                            refine x_iload_n (i := 1) hC dL_isAhead_293 rfl 1 rfl ?_
                            refine x_iconst (v := (2 : Int32)) hC dL_isAhead_294 (by decide) ?_
                            replace h := dr_el h
                            obtain ⟨a134, ea135, ha136, h⟩ := h
                            replace h := bt_el h
                            obtain ⟨v137, S138, hb153, h⟩ | ⟨j139, S140, hb153, h⟩ := h
                            · refine x_callV hC (st := [.int v97]) (mtr_X4_paperOf _ _ _ _ (v137, S138) hb153) ea135 ha136 kf_4 q_527 q_528 q_529 q_1 q_530 ⟨rfl, hy_X4_paperOf⟩ ⟨Nat.le_of_ble_eq_true rfl, Nat.le_of_ble_eq_true rfl⟩ ⟨Nat.le_of_ble_eq_true rfl, Nat.le_of_ble_eq_true rfl⟩ rfl (Nat.le_of_ble_eq_true rfl) dL_isAhead_295 (r_N ?_) r_NX
                              show PX Z 10 S138 0 0 298 [(0, va_rf r0), (1, .int i1), (2, .int v92), (3, .int v93), (6, .int v94), (7, .int v95), (9, .int v96)] [.int v137, .int v97]
                              replace h := bd_el h
                              obtain ⟨v141, S142, hb143, h⟩ := h
                              refine x_callS hC (st := [.int v97]) (mt_L_bits _ _ _ hb143) q_656 q_657 q_0 q_658 hy_L_bits ⟨Nat.le_of_ble_eq_true rfl, Nat.le_of_ble_eq_true rfl⟩ ⟨Nat.le_of_ble_eq_true rfl, Nat.le_of_ble_eq_true rfl⟩ rfl (Nat.le_of_ble_eq_true rfl) dL_isAhead_298 (r_N ?_) r_NX
                              show PX Z 10 S142 0 0 301 [(0, va_rf r0), (1, .int i1), (2, .int v92), (3, .int v93), (6, .int v94), (7, .int v95), (9, .int v96)] [.int v141, .int v97]
                              refine x_aload_n (i := 0) hC dL_isAhead_301 rfl 0 rfl ?_
                              refine x_iconst (v := (0 : Int32)) hC dL_isAhead_302 (by decide) ?_
                              replace h := dr_el h
                              obtain ⟨a144, ea145, ha146, h⟩ := h
                              replace h := bt_el h
                              obtain ⟨v147, S148, hb152, h⟩ | ⟨j149, S150, hb152, h⟩ := h
                              · refine x_callV hC (st := [.int v141, .int v97]) (mtr_X4_setting _ _ _ (v147, S148) hb152) ea145 ha146 kf_4 q_552 q_553 q_554 q_1 q_555 ⟨rfl, hy_X4_setting⟩ ⟨Nat.le_of_ble_eq_true rfl, Nat.le_of_ble_eq_true rfl⟩ ⟨Nat.le_of_ble_eq_true rfl, Nat.le_of_ble_eq_true rfl⟩ rfl (Nat.le_of_ble_eq_true rfl) dL_isAhead_303 (r_N ?_) r_NX
                                show PX Z 10 S148 0 0 306 [(0, va_rf r0), (1, .int i1), (2, .int v92), (3, .int v93), (6, .int v94), (7, .int v95), (9, .int v96)] [.int v147, .int v141, .int v97]
                                refine x_icmp_ge (t := 313) hC dL_isAhead_306 (by decide) (fun c151 => ?_) (fun c151 => ?_)
                                · replace h := it_t c151 h
                                  refine x_iconst (v := (0 : Int32)) hC dL_isAhead_313 (by decide) ?_
                                  exact J_314 _ _ _ _ _ _ _ _ h
                                · replace h := it_f c151 h
                                  refine x_iconst (v := (1 : Int32)) hC dL_isAhead_309 (by decide) ?_
                                  refine x_goto (t := 314) hC dL_isAhead_310 (by decide) ?_
                                  exact J_314 _ _ _ _ _ _ _ _ h
                              · replace h := ir_x h hg_130; exact z_no hyr (Option.some.inj h)
                            · replace h := ir_x h hg_130; exact z_no hyr (Option.some.inj h)
                        · replace h := ir_x h hg_130; exact z_no hyr (Option.some.inj h)
                    · replace h := ir_x h hg_130; exact z_no hyr (Option.some.inj h)
                  have J_253 : ∀ (v80 : Int32) (v81 : Int32) (v82 : Int32) (v83 : Int32) (v84 : Int32) (v85 : Int32) (S86 : PH), j_L_isAhead_253 r0 i1 v80 v81 v82 v83 v84 v85 S86 = some x_130 → PX Z 10 S86 0 0 253 [(0, va_rf r0), (1, .int i1), (2, .int v80), (3, .int v81), (6, .int v82), (7, .int v83), (8, .int v84)] [.int v85] := by
                    intro v80 v81 v82 v83 v84 v85 S86 h
                    unfold j_L_isAhead_253 at h
                    refine x_istore (i := 9) (l' := [(9, .int v85), (0, va_rf r0), (1, .int i1), (2, .int v80), (3, .int v81), (6, .int v82), (7, .int v83), (8, .int v84)]) hC dL_isAhead_253 (⟨fun _ => c_rf r0, ⟨fun _ => rfl, ⟨fun _ => rfl, ⟨fun _ => rfl, ⟨fun _ => rfl, ⟨fun _ => rfl, ⟨fun _ => rfl, trivial⟩⟩⟩⟩⟩⟩⟩) (by decide) rfl ?_
                    refine x_iload (i := 7) hC dL_isAhead_255 6 rfl ?_
                    refine x_if_le (t := 347) hC dL_isAhead_257 (by decide) (fun c87 => ?_) (fun c87 => ?_)
                    · replace h := it_t c87 h
                      refine x_iload_n (i := 3) hC dL_isAhead_347 rfl 4 rfl ?_
                      refine x_if_lt (t := 365) hC dL_isAhead_348 (by decide) (fun c88 => ?_) (fun c88 => ?_)
                      · replace h := it_t c88 h
                        refine x_iconst (v := (0 : Int32)) hC dL_isAhead_365 (by decide) ?_
                        refine x_istore (i := 4) (l' := [(4, .int (0 : Int32)), (9, .int v85), (0, va_rf r0), (1, .int i1), (2, .int v80), (3, .int v81), (6, .int v82), (7, .int v83), (8, .int v84)]) hC dL_isAhead_366 (⟨fun _ => rfl, ⟨fun _ => c_rf r0, ⟨fun _ => rfl, ⟨fun _ => rfl, ⟨fun _ => rfl, ⟨fun _ => rfl, ⟨fun _ => rfl, ⟨fun _ => rfl, trivial⟩⟩⟩⟩⟩⟩⟩⟩) (by decide) rfl ?_
                        refine x_iinc (i := 6) (v := (v82 + (1 : Int32))) (l' := [(6, .int (v82 + (1 : Int32))), (4, .int (0 : Int32)), (9, .int v85), (0, va_rf r0), (1, .int i1), (2, .int v80), (3, .int v81), (7, .int v83), (8, .int v84)]) hC dL_isAhead_368 6 rfl rfl (⟨fun _ => rfl, ⟨fun _ => rfl, ⟨fun _ => c_rf r0, ⟨fun _ => rfl, ⟨fun _ => rfl, ⟨fun _ => rfl, ⟨fun _ => rfl, ⟨fun _ => rfl, ⟨fun _ => rfl, trivial⟩⟩⟩⟩⟩⟩⟩⟩⟩) (by decide) rfl ?_
                        refine x_goto (t := 130) hC dL_isAhead_371 (by decide) ?_
                        refine x_sub (l' := [(0, va_rf r0), (1, .int i1), (2, .int v80), (3, .int v81), (4, .int (0 : Int32)), (6, .int (v82 + (1 : Int32)))]) [3, 4, 5, 6, 1, 0] rfl ?_
                        have hb := bk_x h hg_130
                        exact hb
                      · replace h := it_f c88 h
                        refine x_iload (i := 8) hC dL_isAhead_351 7 rfl ?_
                        refine x_if_ne (t := 365) hC dL_isAhead_353 (by decide) (fun c89 => ?_) (fun c89 => ?_)
                        · replace h := it_f c89 h
                          refine x_iconst (v := (0 : Int32)) hC dL_isAhead_365 (by decide) ?_
                          refine x_istore (i := 4) (l' := [(4, .int (0 : Int32)), (9, .int v85), (0, va_rf r0), (1, .int i1), (2, .int v80), (3, .int v81), (6, .int v82), (7, .int v83), (8, .int v84)]) hC dL_isAhead_366 (⟨fun _ => rfl, ⟨fun _ => c_rf r0, ⟨fun _ => rfl, ⟨fun _ => rfl, ⟨fun _ => rfl, ⟨fun _ => rfl, ⟨fun _ => rfl, ⟨fun _ => rfl, trivial⟩⟩⟩⟩⟩⟩⟩⟩) (by decide) rfl ?_
                          refine x_iinc (i := 6) (v := (v82 + (1 : Int32))) (l' := [(6, .int (v82 + (1 : Int32))), (4, .int (0 : Int32)), (9, .int v85), (0, va_rf r0), (1, .int i1), (2, .int v80), (3, .int v81), (7, .int v83), (8, .int v84)]) hC dL_isAhead_368 6 rfl rfl (⟨fun _ => rfl, ⟨fun _ => rfl, ⟨fun _ => c_rf r0, ⟨fun _ => rfl, ⟨fun _ => rfl, ⟨fun _ => rfl, ⟨fun _ => rfl, ⟨fun _ => rfl, ⟨fun _ => rfl, trivial⟩⟩⟩⟩⟩⟩⟩⟩⟩) (by decide) rfl ?_
                          refine x_goto (t := 130) hC dL_isAhead_371 (by decide) ?_
                          refine x_sub (l' := [(0, va_rf r0), (1, .int i1), (2, .int v80), (3, .int v81), (4, .int (0 : Int32)), (6, .int (v82 + (1 : Int32)))]) [3, 4, 5, 6, 1, 0] rfl ?_
                          have hb := bk_x h hg_130
                          exact hb
                        · replace h := it_t c89 h
                          refine x_iload (i := 9) hC dL_isAhead_356 0 rfl ?_
                          refine x_if_ne (t := 365) hC dL_isAhead_358 (by decide) (fun c90 => ?_) (fun c90 => ?_)
                          · replace h := it_f c90 h
                            refine x_iconst (v := (0 : Int32)) hC dL_isAhead_365 (by decide) ?_
                            refine x_istore (i := 4) (l' := [(4, .int (0 : Int32)), (9, .int v85), (0, va_rf r0), (1, .int i1), (2, .int v80), (3, .int v81), (6, .int v82), (7, .int v83), (8, .int v84)]) hC dL_isAhead_366 (⟨fun _ => rfl, ⟨fun _ => c_rf r0, ⟨fun _ => rfl, ⟨fun _ => rfl, ⟨fun _ => rfl, ⟨fun _ => rfl, ⟨fun _ => rfl, ⟨fun _ => rfl, trivial⟩⟩⟩⟩⟩⟩⟩⟩) (by decide) rfl ?_
                            refine x_iinc (i := 6) (v := (v82 + (1 : Int32))) (l' := [(6, .int (v82 + (1 : Int32))), (4, .int (0 : Int32)), (9, .int v85), (0, va_rf r0), (1, .int i1), (2, .int v80), (3, .int v81), (7, .int v83), (8, .int v84)]) hC dL_isAhead_368 6 rfl rfl (⟨fun _ => rfl, ⟨fun _ => rfl, ⟨fun _ => c_rf r0, ⟨fun _ => rfl, ⟨fun _ => rfl, ⟨fun _ => rfl, ⟨fun _ => rfl, ⟨fun _ => rfl, ⟨fun _ => rfl, trivial⟩⟩⟩⟩⟩⟩⟩⟩⟩) (by decide) rfl ?_
                            refine x_goto (t := 130) hC dL_isAhead_371 (by decide) ?_
                            refine x_sub (l' := [(0, va_rf r0), (1, .int i1), (2, .int v80), (3, .int v81), (4, .int (0 : Int32)), (6, .int (v82 + (1 : Int32)))]) [3, 4, 5, 6, 1, 0] rfl ?_
                            have hb := bk_x h hg_130
                            exact hb
                          · replace h := it_t c90 h
                            refine x_iconst (v := (1 : Int32)) hC dL_isAhead_361 (by decide) ?_
                            refine x_goto (t := 366) hC dL_isAhead_362 (by decide) ?_
                            refine x_istore (i := 4) (l' := [(4, .int (1 : Int32)), (9, .int v85), (0, va_rf r0), (1, .int i1), (2, .int v80), (3, .int v81), (6, .int v82), (7, .int v83), (8, .int v84)]) hC dL_isAhead_366 (⟨fun _ => rfl, ⟨fun _ => c_rf r0, ⟨fun _ => rfl, ⟨fun _ => rfl, ⟨fun _ => rfl, ⟨fun _ => rfl, ⟨fun _ => rfl, ⟨fun _ => rfl, trivial⟩⟩⟩⟩⟩⟩⟩⟩) (by decide) rfl ?_
                            refine x_iinc (i := 6) (v := (v82 + (1 : Int32))) (l' := [(6, .int (v82 + (1 : Int32))), (4, .int (1 : Int32)), (9, .int v85), (0, va_rf r0), (1, .int i1), (2, .int v80), (3, .int v81), (7, .int v83), (8, .int v84)]) hC dL_isAhead_368 6 rfl rfl (⟨fun _ => rfl, ⟨fun _ => rfl, ⟨fun _ => c_rf r0, ⟨fun _ => rfl, ⟨fun _ => rfl, ⟨fun _ => rfl, ⟨fun _ => rfl, ⟨fun _ => rfl, ⟨fun _ => rfl, trivial⟩⟩⟩⟩⟩⟩⟩⟩⟩) (by decide) rfl ?_
                            refine x_goto (t := 130) hC dL_isAhead_371 (by decide) ?_
                            refine x_sub (l' := [(0, va_rf r0), (1, .int i1), (2, .int v80), (3, .int v81), (4, .int (1 : Int32)), (6, .int (v82 + (1 : Int32)))]) [3, 4, 5, 6, 1, 0] rfl ?_
                            have hb := bk_x h hg_130
                            exact hb
                    · replace h := it_f c87 h
                      refine x_iload (i := 7) hC dL_isAhead_260 6 rfl ?_
                      refine x_iconst (v := (4 : Int32)) hC dL_isAhead_262 (by decide) ?_
                      refine x_icmp_lt (t := 270) hC dL_isAhead_263 (by decide) (fun c91 => ?_) (fun c91 => ?_)
                      · replace h := it_t c91 h
                        refine x_iconst (v := (0 : Int32)) hC dL_isAhead_270 (by decide) ?_
                        refine x_sub (l' := [(0, va_rf r0), (1, .int i1), (2, .int v80), (3, .int v81), (6, .int v82), (7, .int v83), (9, .int v85)]) [1, 2, 3, 4, 5, 6, 0] rfl ?_
                        exact J_271 _ _ _ _ _ _ _ h
                      · replace h := it_f c91 h
                        refine x_iconst (v := (1 : Int32)) hC dL_isAhead_266 (by decide) ?_
                        refine x_goto (t := 271) hC dL_isAhead_267 (by decide) ?_
                        refine x_sub (l' := [(0, va_rf r0), (1, .int i1), (2, .int v80), (3, .int v81), (6, .int v82), (7, .int v83), (9, .int v85)]) [1, 2, 3, 4, 5, 6, 0] rfl ?_
                        exact J_271 _ _ _ _ _ _ _ h
                  have J_230 : ∀ (v66 : Int32) (v67 : Int32) (v68 : Int32) (v69 : Int32) (v70 : Int32) (S71 : PH), j_L_isAhead_230 r0 i1 v66 v67 v68 v69 v70 S71 = some x_130 → PX Z 10 S71 0 0 230 [(0, va_rf r0), (1, .int i1), (2, .int v66), (3, .int v67), (6, .int v68), (7, .int v69)] [.int v70] := by
                    intro v66 v67 v68 v69 v70 S71 h
                    unfold j_L_isAhead_230 at h
                    refine x_istore (i := 8) (l' := [(8, .int v70), (0, va_rf r0), (1, .int i1), (2, .int v66), (3, .int v67), (6, .int v68), (7, .int v69)]) hC dL_isAhead_230 (⟨fun _ => c_rf r0, ⟨fun _ => rfl, ⟨fun _ => rfl, ⟨fun _ => rfl, ⟨fun _ => rfl, ⟨fun _ => rfl, trivial⟩⟩⟩⟩⟩⟩) (by decide) rfl ?_
                    refine x_aload_n (i := 0) hC dL_isAhead_232 rfl 1 rfl ?_
                    refine x_iload (i := 6) hC dL_isAhead_233 5 rfl ?_
                    refine x_bipush (v := (8 : Int32)) hC dL_isAhead_235 (by decide) ?_
                    replace h := dr_el h
                    obtain ⟨a72, ea73, ha74, h⟩ := h
                    replace h := bt_el h
                    obtain ⟨v75, S76, hb156, h⟩ | ⟨j77, S78, hb156, h⟩ := h
                    · refine x_callV hC (st := []) (mtr_X4_personOf _ _ _ _ (v75, S76) hb156) ea73 ha74 kf_4 q_506 q_507 q_508 q_1 q_509 ⟨rfl, hy_X4_personOf⟩ ⟨Nat.le_of_ble_eq_true rfl, Nat.le_of_ble_eq_true rfl⟩ ⟨Nat.le_of_ble_eq_true rfl, Nat.le_of_ble_eq_true rfl⟩ rfl (Nat.le_of_ble_eq_true rfl) dL_isAhead_237 (r_N ?_) r_NX
                      show PX Z 10 S76 0 0 240 [(8, .int v70), (0, va_rf r0), (1, .int i1), (2, .int v66), (3, .int v67), (6, .int v68), (7, .int v69)] [.int v75]
                      refine x_iload_n (i := 1) hC dL_isAhead_240 rfl 2 rfl ?_
                      refine x_ishr hC dL_isAhead_241 ?_
                      refine x_iconst (v := (1 : Int32)) hC dL_isAhead_242 (by decide) ?_
                      refine x_iand hC dL_isAhead_243 ?_
                      refine x_iconst (v := (1 : Int32)) hC dL_isAhead_244 (by decide) ?_
                      refine x_icmp_ne (t := 252) hC dL_isAhead_245 (by decide) (fun c79 => ?_) (fun c79 => ?_)
                      · replace h := it_f c79 h
                        refine x_iconst (v := (0 : Int32)) hC dL_isAhead_252 (by decide) ?_
                        refine x_sub (l' := [(0, va_rf r0), (1, .int i1), (2, .int v66), (3, .int v67), (6, .int v68), (7, .int v69), (8, .int v70)]) [1, 2, 3, 4, 5, 6, 0] rfl ?_
                        exact J_253 _ _ _ _ _ _ _ h
                      · replace h := it_t c79 h
                        refine x_iconst (v := (1 : Int32)) hC dL_isAhead_248 (by decide) ?_
                        refine x_goto (t := 253) hC dL_isAhead_249 (by decide) ?_
                        refine x_sub (l' := [(0, va_rf r0), (1, .int i1), (2, .int v66), (3, .int v67), (6, .int v68), (7, .int v69), (8, .int v70)]) [1, 2, 3, 4, 5, 6, 0] rfl ?_
                        exact J_253 _ _ _ _ _ _ _ h
                    · replace h := ir_x h hg_130; exact z_no hyr (Option.some.inj h)
                  unfold st_L_isAhead_130 at h
                  refine x_iload (i := 6) hC dL_isAhead_130 5 rfl ?_
                  refine x_bipush (v := (8 : Int32)) hC dL_isAhead_132 (by decide) ?_
                  refine x_icmp_ge (t := 374) hC dL_isAhead_134 (by decide) (fun c436 => ?_) (fun c436 => ?_)
                  · replace h := it_t c436 h
                    replace h := ir_x h hg_130
                    refine x_sub (l' := [(0, va_rf r0), (1, .int i1), (2, .int v431), (4, .int v433)]) [0, 1, 2, 4] rfl ?_
                    exact J_374 _ _ _ h
                  · replace h := it_f c436 h
                    refine x_iload (i := 4) hC dL_isAhead_137 4 rfl ?_
                    refine x_if_eq (t := 374) hC dL_isAhead_139 (by decide) (fun c437 => ?_) (fun c437 => ?_)
                    · replace h := it_t c437 h
                      replace h := ir_x h hg_130
                      refine x_sub (l' := [(0, va_rf r0), (1, .int i1), (2, .int v431), (4, .int v433)]) [0, 1, 2, 4] rfl ?_
                      exact J_374 _ _ _ h
                    · replace h := it_f c437 h
                      refine x_aload_n (i := 0) hC dL_isAhead_142 rfl 0 rfl ?_
                      refine x_iload (i := 6) hC dL_isAhead_143 5 rfl ?_
                      refine x_iload_n (i := 1) hC dL_isAhead_145 rfl 1 rfl ?_
                      replace h := dr_el h
                      obtain ⟨a438, ea439, ha440, h⟩ := h
                      replace h := bt_el h
                      obtain ⟨v441, S442, hb515, h⟩ | ⟨j443, S444, hb515, h⟩ := h
                      · refine x_callV hC (st := []) (mtr_X4_whyNot _ _ _ _ (v441, S442) hb515) ea439 ha440 kf_4 q_445 q_446 q_447 q_1 q_448 ⟨rfl, hy_X4_whyNot⟩ ⟨Nat.le_of_ble_eq_true rfl, Nat.le_of_ble_eq_true rfl⟩ ⟨Nat.le_of_ble_eq_true rfl, Nat.le_of_ble_eq_true rfl⟩ rfl (Nat.le_of_ble_eq_true rfl) dL_isAhead_146 (r_N ?_) r_NX
                        show PX Z 10 S442 0 0 149 [(0, va_rf r0), (1, .int i1), (2, .int v431), (3, .int v432), (4, .int v433), (6, .int v434)] [.int v441]
                        refine x_istore (i := 7) (l' := [(7, .int v441), (0, va_rf r0), (1, .int i1), (2, .int v431), (3, .int v432), (4, .int v433), (6, .int v434)]) hC dL_isAhead_149 (⟨fun _ => c_rf r0, ⟨fun _ => rfl, ⟨fun _ => rfl, ⟨fun _ => rfl, ⟨fun _ => rfl, ⟨fun _ => rfl, trivial⟩⟩⟩⟩⟩⟩) (by decide) rfl ?_
                        refine x_iload_n (i := 3) hC dL_isAhead_151 rfl 4 rfl ?_
                        refine x_if_lt (t := 229) hC dL_isAhead_152 (by decide) (fun c445 => ?_) (fun c445 => ?_)
                        · replace h := it_t c445 h
                          refine x_iconst (v := (0 : Int32)) hC dL_isAhead_229 (by decide) ?_
                          refine x_sub (l' := [(0, va_rf r0), (1, .int i1), (2, .int v431), (3, .int v432), (6, .int v434), (7, .int v441)]) [1, 2, 3, 4, 6, 0] rfl ?_
                          exact J_230 _ _ _ _ _ _ h
                        · replace h := it_f c445 h
                          refine x_aload_n (i := 0) hC dL_isAhead_155 rfl 1 rfl ?_
                          refine x_iload (i := 6) hC dL_isAhead_156 6 rfl ?_
                          refine x_iconst (v := (3 : Int32)) hC dL_isAhead_158 (by decide) ?_
                          replace h := dr_el h
                          obtain ⟨a446, ea447, ha448, h⟩ := h
                          replace h := bt_el h
                          obtain ⟨v449, S450, hb514, h⟩ | ⟨j451, S452, hb514, h⟩ := h
                          · refine x_callV hC (st := []) (mtr_X4_personOf _ _ _ _ (v449, S450) hb514) ea447 ha448 kf_4 q_506 q_507 q_508 q_1 q_509 ⟨rfl, hy_X4_personOf⟩ ⟨Nat.le_of_ble_eq_true rfl, Nat.le_of_ble_eq_true rfl⟩ ⟨Nat.le_of_ble_eq_true rfl, Nat.le_of_ble_eq_true rfl⟩ rfl (Nat.le_of_ble_eq_true rfl) dL_isAhead_159 (r_N ?_) r_NX
                            show PX Z 10 S450 0 0 162 [(7, .int v441), (0, va_rf r0), (1, .int i1), (2, .int v431), (3, .int v432), (4, .int v433), (6, .int v434)] [.int v449]
                            refine x_aload_n (i := 0) hC dL_isAhead_162 rfl 1 rfl ?_
                            refine x_iload_n (i := 3) hC dL_isAhead_163 rfl 4 rfl ?_
                            refine x_iconst (v := (3 : Int32)) hC dL_isAhead_164 (by decide) ?_
                            replace h := dr_el h
                            obtain ⟨a453, ea454, ha455, h⟩ := h
                            replace h := bt_el h
                            obtain ⟨v456, S457, hb513, h⟩ | ⟨j458, S459, hb513, h⟩ := h
                            · refine x_callV hC (st := [.int v449]) (mtr_X4_personOf _ _ _ _ (v456, S457) hb513) ea454 ha455 kf_4 q_506 q_507 q_508 q_1 q_509 ⟨rfl, hy_X4_personOf⟩ ⟨Nat.le_of_ble_eq_true rfl, Nat.le_of_ble_eq_true rfl⟩ ⟨Nat.le_of_ble_eq_true rfl, Nat.le_of_ble_eq_true rfl⟩ rfl (Nat.le_of_ble_eq_true rfl) dL_isAhead_165 (r_N ?_) r_NX
                              show PX Z 10 S457 0 0 168 [(7, .int v441), (0, va_rf r0), (1, .int i1), (2, .int v431), (3, .int v432), (4, .int v433), (6, .int v434)] [.int v456, .int v449]
                              refine x_icmp_lt (t := 225) hC dL_isAhead_168 (by decide) (fun c460 => ?_) (fun c460 => ?_)
                              · replace h := it_t c460 h
                                refine x_iconst (v := (1 : Int32)) hC dL_isAhead_225 (by decide) ?_
                                refine x_goto (t := 230) hC dL_isAhead_226 (by decide) ?_
                                refine x_sub (l' := [(0, va_rf r0), (1, .int i1), (2, .int v431), (3, .int v432), (6, .int v434), (7, .int v441)]) [1, 2, 3, 4, 6, 0] rfl ?_
                                exact J_230 _ _ _ _ _ _ h
                              · replace h := it_f c460 h
                                refine x_aload_n (i := 0) hC dL_isAhead_171 rfl 1 rfl ?_
                                refine x_iload (i := 6) hC dL_isAhead_172 6 rfl ?_
                                refine x_iconst (v := (3 : Int32)) hC dL_isAhead_174 (by decide) ?_
                                replace h := dr_el h
                                obtain ⟨a461, ea462, ha463, h⟩ := h
                                replace h := bt_el h
                                obtain ⟨v464, S465, hb512, h⟩ | ⟨j466, S467, hb512, h⟩ := h
                                · refine x_callV hC (st := []) (mtr_X4_personOf _ _ _ _ (v464, S465) hb512) ea462 ha463 kf_4 q_506 q_507 q_508 q_1 q_509 ⟨rfl, hy_X4_personOf⟩ ⟨Nat.le_of_ble_eq_true rfl, Nat.le_of_ble_eq_true rfl⟩ ⟨Nat.le_of_ble_eq_true rfl, Nat.le_of_ble_eq_true rfl⟩ rfl (Nat.le_of_ble_eq_true rfl) dL_isAhead_175 (r_N ?_) r_NX
                                  show PX Z 10 S465 0 0 178 [(7, .int v441), (0, va_rf r0), (1, .int i1), (2, .int v431), (3, .int v432), (4, .int v433), (6, .int v434)] [.int v464]
                                  refine x_aload_n (i := 0) hC dL_isAhead_178 rfl 1 rfl ?_
                                  refine x_iload_n (i := 3) hC dL_isAhead_179 rfl 4 rfl ?_
                                  refine x_iconst (v := (3 : Int32)) hC dL_isAhead_180 (by decide) ?_
                                  replace h := dr_el h
                                  obtain ⟨a468, ea469, ha470, h⟩ := h
                                  replace h := bt_el h
                                  obtain ⟨v471, S472, hb511, h⟩ | ⟨j473, S474, hb511, h⟩ := h
                                  · refine x_callV hC (st := [.int v464]) (mtr_X4_personOf _ _ _ _ (v471, S472) hb511) ea469 ha470 kf_4 q_506 q_507 q_508 q_1 q_509 ⟨rfl, hy_X4_personOf⟩ ⟨Nat.le_of_ble_eq_true rfl, Nat.le_of_ble_eq_true rfl⟩ ⟨Nat.le_of_ble_eq_true rfl, Nat.le_of_ble_eq_true rfl⟩ rfl (Nat.le_of_ble_eq_true rfl) dL_isAhead_181 (r_N ?_) r_NX
                                    show PX Z 10 S472 0 0 184 [(7, .int v441), (0, va_rf r0), (1, .int i1), (2, .int v431), (3, .int v432), (4, .int v433), (6, .int v434)] [.int v471, .int v464]
                                    refine x_icmp_ne (t := 229) hC dL_isAhead_184 (by decide) (fun c475 => ?_) (fun c475 => ?_)
                                    · replace h := it_f c475 h
                                      refine x_iconst (v := (0 : Int32)) hC dL_isAhead_229 (by decide) ?_
                                      refine x_sub (l' := [(0, va_rf r0), (1, .int i1), (2, .int v431), (3, .int v432), (6, .int v434), (7, .int v441)]) [1, 2, 3, 4, 6, 0] rfl ?_
                                      exact J_230 _ _ _ _ _ _ h
                                    · replace h := it_t c475 h
                                      refine x_aload_n (i := 0) hC dL_isAhead_187 rfl 1 rfl ?_
                                      refine x_iload (i := 6) hC dL_isAhead_188 6 rfl ?_
                                      refine x_iconst (v := (0 : Int32)) hC dL_isAhead_190 (by decide) ?_
                                      replace h := dr_el h
                                      obtain ⟨a476, ea477, ha478, h⟩ := h
                                      replace h := bt_el h
                                      obtain ⟨v479, S480, hb510, h⟩ | ⟨j481, S482, hb510, h⟩ := h
                                      · refine x_callV hC (st := []) (mtr_X4_personOf _ _ _ _ (v479, S480) hb510) ea477 ha478 kf_4 q_506 q_507 q_508 q_1 q_509 ⟨rfl, hy_X4_personOf⟩ ⟨Nat.le_of_ble_eq_true rfl, Nat.le_of_ble_eq_true rfl⟩ ⟨Nat.le_of_ble_eq_true rfl, Nat.le_of_ble_eq_true rfl⟩ rfl (Nat.le_of_ble_eq_true rfl) dL_isAhead_191 (r_N ?_) r_NX
                                        show PX Z 10 S480 0 0 194 [(7, .int v441), (0, va_rf r0), (1, .int i1), (2, .int v431), (3, .int v432), (4, .int v433), (6, .int v434)] [.int v479]
                                        refine x_aload_n (i := 0) hC dL_isAhead_194 rfl 1 rfl ?_
                                        refine x_iload_n (i := 3) hC dL_isAhead_195 rfl 4 rfl ?_
                                        refine x_iconst (v := (0 : Int32)) hC dL_isAhead_196 (by decide) ?_
                                        replace h := dr_el h
                                        obtain ⟨a483, ea484, ha485, h⟩ := h
                                        replace h := bt_el h
                                        obtain ⟨v486, S487, hb509, h⟩ | ⟨j488, S489, hb509, h⟩ := h
                                        · refine x_callV hC (st := [.int v479]) (mtr_X4_personOf _ _ _ _ (v486, S487) hb509) ea484 ha485 kf_4 q_506 q_507 q_508 q_1 q_509 ⟨rfl, hy_X4_personOf⟩ ⟨Nat.le_of_ble_eq_true rfl, Nat.le_of_ble_eq_true rfl⟩ ⟨Nat.le_of_ble_eq_true rfl, Nat.le_of_ble_eq_true rfl⟩ rfl (Nat.le_of_ble_eq_true rfl) dL_isAhead_197 (r_N ?_) r_NX
                                          show PX Z 10 S487 0 0 200 [(7, .int v441), (0, va_rf r0), (1, .int i1), (2, .int v431), (3, .int v432), (4, .int v433), (6, .int v434)] [.int v486, .int v479]
                                          refine x_icmp_gt (t := 225) hC dL_isAhead_200 (by decide) (fun c490 => ?_) (fun c490 => ?_)
                                          · replace h := it_t c490 h
                                            refine x_iconst (v := (1 : Int32)) hC dL_isAhead_225 (by decide) ?_
                                            refine x_goto (t := 230) hC dL_isAhead_226 (by decide) ?_
                                            refine x_sub (l' := [(0, va_rf r0), (1, .int i1), (2, .int v431), (3, .int v432), (6, .int v434), (7, .int v441)]) [1, 2, 3, 4, 6, 0] rfl ?_
                                            exact J_230 _ _ _ _ _ _ h
                                          · replace h := it_f c490 h
                                            refine x_aload_n (i := 0) hC dL_isAhead_203 rfl 1 rfl ?_
                                            refine x_iload (i := 6) hC dL_isAhead_204 6 rfl ?_
                                            refine x_iconst (v := (0 : Int32)) hC dL_isAhead_206 (by decide) ?_
                                            replace h := dr_el h
                                            obtain ⟨a491, ea492, ha493, h⟩ := h
                                            replace h := bt_el h
                                            obtain ⟨v494, S495, hb508, h⟩ | ⟨j496, S497, hb508, h⟩ := h
                                            · refine x_callV hC (st := []) (mtr_X4_personOf _ _ _ _ (v494, S495) hb508) ea492 ha493 kf_4 q_506 q_507 q_508 q_1 q_509 ⟨rfl, hy_X4_personOf⟩ ⟨Nat.le_of_ble_eq_true rfl, Nat.le_of_ble_eq_true rfl⟩ ⟨Nat.le_of_ble_eq_true rfl, Nat.le_of_ble_eq_true rfl⟩ rfl (Nat.le_of_ble_eq_true rfl) dL_isAhead_207 (r_N ?_) r_NX
                                              show PX Z 10 S495 0 0 210 [(7, .int v441), (0, va_rf r0), (1, .int i1), (2, .int v431), (3, .int v432), (4, .int v433), (6, .int v434)] [.int v494]
                                              refine x_aload_n (i := 0) hC dL_isAhead_210 rfl 1 rfl ?_
                                              refine x_iload_n (i := 3) hC dL_isAhead_211 rfl 4 rfl ?_
                                              refine x_iconst (v := (0 : Int32)) hC dL_isAhead_212 (by decide) ?_
                                              replace h := dr_el h
                                              obtain ⟨a498, ea499, ha500, h⟩ := h
                                              replace h := bt_el h
                                              obtain ⟨v501, S502, hb507, h⟩ | ⟨j503, S504, hb507, h⟩ := h
                                              · refine x_callV hC (st := [.int v494]) (mtr_X4_personOf _ _ _ _ (v501, S502) hb507) ea499 ha500 kf_4 q_506 q_507 q_508 q_1 q_509 ⟨rfl, hy_X4_personOf⟩ ⟨Nat.le_of_ble_eq_true rfl, Nat.le_of_ble_eq_true rfl⟩ ⟨Nat.le_of_ble_eq_true rfl, Nat.le_of_ble_eq_true rfl⟩ rfl (Nat.le_of_ble_eq_true rfl) dL_isAhead_213 (r_N ?_) r_NX
                                                show PX Z 10 S502 0 0 216 [(7, .int v441), (0, va_rf r0), (1, .int i1), (2, .int v431), (3, .int v432), (4, .int v433), (6, .int v434)] [.int v501, .int v494]
                                                refine x_icmp_ne (t := 229) hC dL_isAhead_216 (by decide) (fun c505 => ?_) (fun c505 => ?_)
                                                · replace h := it_f c505 h
                                                  refine x_iconst (v := (0 : Int32)) hC dL_isAhead_229 (by decide) ?_
                                                  refine x_sub (l' := [(0, va_rf r0), (1, .int i1), (2, .int v431), (3, .int v432), (6, .int v434), (7, .int v441)]) [1, 2, 3, 4, 6, 0] rfl ?_
                                                  exact J_230 _ _ _ _ _ _ h
                                                · replace h := it_t c505 h
                                                  refine x_iload (i := 6) hC dL_isAhead_219 6 rfl ?_
                                                  refine x_iload_n (i := 3) hC dL_isAhead_221 rfl 4 rfl ?_
                                                  refine x_icmp_ge (t := 229) hC dL_isAhead_222 (by decide) (fun c506 => ?_) (fun c506 => ?_)
                                                  · replace h := it_t c506 h
                                                    refine x_iconst (v := (0 : Int32)) hC dL_isAhead_229 (by decide) ?_
                                                    refine x_sub (l' := [(0, va_rf r0), (1, .int i1), (2, .int v431), (3, .int v432), (6, .int v434), (7, .int v441)]) [1, 2, 3, 4, 6, 0] rfl ?_
                                                    exact J_230 _ _ _ _ _ _ h
                                                  · replace h := it_f c506 h
                                                    refine x_iconst (v := (1 : Int32)) hC dL_isAhead_225 (by decide) ?_
                                                    refine x_goto (t := 230) hC dL_isAhead_226 (by decide) ?_
                                                    refine x_sub (l' := [(0, va_rf r0), (1, .int i1), (2, .int v431), (3, .int v432), (6, .int v434), (7, .int v441)]) [1, 2, 3, 4, 6, 0] rfl ?_
                                                    exact J_230 _ _ _ _ _ _ h
                                              · replace h := ir_x h hg_130; exact z_no hyr (Option.some.inj h)
                                            · replace h := ir_x h hg_130; exact z_no hyr (Option.some.inj h)
                                        · replace h := ir_x h hg_130; exact z_no hyr (Option.some.inj h)
                                      · replace h := ir_x h hg_130; exact z_no hyr (Option.some.inj h)
                                  · replace h := ir_x h hg_130; exact z_no hyr (Option.some.inj h)
                                · replace h := ir_x h hg_130; exact z_no hyr (Option.some.inj h)
                            · replace h := ir_x h hg_130; exact z_no hyr (Option.some.inj h)
                          · replace h := ir_x h hg_130; exact z_no hyr (Option.some.inj h)
                      · replace h := ir_x h hg_130; exact z_no hyr (Option.some.inj h)
                · replace h := it_f c430 h
                  refine x_iload (i := 5) hC dL_isAhead_106 5 rfl ?_
                  refine x_iload_n (i := 2) hC dL_isAhead_108 rfl 2 rfl ?_
                  refine x_if_le (t := 116) hC dL_isAhead_109 (by decide) (fun c516 => ?_) (fun c516 => ?_)
                  · replace h := it_t c516 h
                    refine x_iconst (v := (0 : Int32)) hC dL_isAhead_116 (by decide) ?_
                    refine x_sub (l' := [(0, va_rf r0), (1, .int i1), (2, .int v416), (3, .int v417)]) [0, 1, 2, 3] rfl ?_
                    exact J_117 _ _ _ _ _ h
                  · replace h := it_f c516 h
                    refine x_iconst (v := (1 : Int32)) hC dL_isAhead_112 (by decide) ?_
                    refine x_goto (t := 117) hC dL_isAhead_113 (by decide) ?_
                    refine x_sub (l' := [(0, va_rf r0), (1, .int i1), (2, .int v416), (3, .int v417)]) [0, 1, 2, 3] rfl ?_
                    exact J_117 _ _ _ _ _ h
              · replace h := it_f c429 h
                refine x_iload (i := 5) hC dL_isAhead_73 5 rfl ?_
                refine x_if_ne (t := 88) hC dL_isAhead_75 (by decide) (fun c517 => ?_) (fun c517 => ?_)
                · replace h := it_f c517 h
                  refine x_iconst (v := (1 : Int32)) hC dL_isAhead_88 (by decide) ?_
                  refine x_goto (t := 93) hC dL_isAhead_89 (by decide) ?_
                  refine x_istore (i := 5) (l' := [(5, .int (1 : Int32)), (0, va_rf r0), (1, .int i1), (2, .int v416), (3, .int v417), (4, .int v418), (6, .int v420)]) hC dL_isAhead_93 (⟨fun _ => c_rf r0, ⟨fun _ => rfl, ⟨fun _ => rfl, ⟨fun _ => rfl, ⟨fun _ => rfl, ⟨fun _ => rfl, ⟨fun _ => rfl, trivial⟩⟩⟩⟩⟩⟩⟩) (by decide) rfl ?_
                  refine x_iinc (i := 6) (v := (v420 + (1 : Int32))) (l' := [(6, .int (v420 + (1 : Int32))), (5, .int (1 : Int32)), (0, va_rf r0), (1, .int i1), (2, .int v416), (3, .int v417), (4, .int v418)]) hC dL_isAhead_95 6 rfl rfl (⟨fun _ => rfl, ⟨fun _ => c_rf r0, ⟨fun _ => rfl, ⟨fun _ => rfl, ⟨fun _ => rfl, ⟨fun _ => rfl, ⟨fun _ => rfl, trivial⟩⟩⟩⟩⟩⟩⟩) (by decide) rfl ?_
                  refine x_goto (t := 63) hC dL_isAhead_98 (by decide) ?_
                  refine x_sub (l' := [(0, va_rf r0), (1, .int i1), (2, .int v416), (3, .int v417), (4, .int v418), (5, .int (1 : Int32)), (6, .int (v420 + (1 : Int32)))]) [2, 3, 4, 5, 6, 1, 0] rfl ?_
                  have hb := bk_x h hg_63
                  exact hb
                · replace h := it_t c517 h
                  refine x_aload_n (i := 0) hC dL_isAhead_78 rfl 0 rfl ?_
                  refine x_iload (i := 6) hC dL_isAhead_79 6 rfl ?_
                  replace h := dr_el h
                  obtain ⟨a518, ea519, ha520, h⟩ := h
                  replace h := bt_el h
                  obtain ⟨v521, S522, hb526, h⟩ | ⟨j523, S524, hb526, h⟩ := h
                  · refine x_callV hC (st := []) (mtr_X4_bestReviewer _ _ _ (v521, S522) hb526) ea519 ha520 kf_4 q_688 q_689 q_690 q_1 q_691 ⟨rfl, hy_X4_bestReviewer⟩ ⟨Nat.le_of_ble_eq_true rfl, Nat.le_of_ble_eq_true rfl⟩ ⟨Nat.le_of_ble_eq_true rfl, Nat.le_of_ble_eq_true rfl⟩ rfl (Nat.le_of_ble_eq_true rfl) dL_isAhead_81 (r_N ?_) r_NX
                    show PX Z 10 S522 0 0 84 [(0, va_rf r0), (1, .int i1), (2, .int v416), (3, .int v417), (4, .int v418), (5, .int v419), (6, .int v420)] [.int v521]
                    refine x_iconst (v := (-1 : Int32)) hC dL_isAhead_84 (by decide) ?_
                    refine x_icmp_eq (t := 92) hC dL_isAhead_85 (by decide) (fun c525 => ?_) (fun c525 => ?_)
                    · replace h := it_t c525 h
                      refine x_iconst (v := (0 : Int32)) hC dL_isAhead_92 (by decide) ?_
                      refine x_istore (i := 5) (l' := [(5, .int (0 : Int32)), (0, va_rf r0), (1, .int i1), (2, .int v416), (3, .int v417), (4, .int v418), (6, .int v420)]) hC dL_isAhead_93 (⟨fun _ => c_rf r0, ⟨fun _ => rfl, ⟨fun _ => rfl, ⟨fun _ => rfl, ⟨fun _ => rfl, ⟨fun _ => rfl, ⟨fun _ => rfl, trivial⟩⟩⟩⟩⟩⟩⟩) (by decide) rfl ?_
                      refine x_iinc (i := 6) (v := (v420 + (1 : Int32))) (l' := [(6, .int (v420 + (1 : Int32))), (5, .int (0 : Int32)), (0, va_rf r0), (1, .int i1), (2, .int v416), (3, .int v417), (4, .int v418)]) hC dL_isAhead_95 6 rfl rfl (⟨fun _ => rfl, ⟨fun _ => c_rf r0, ⟨fun _ => rfl, ⟨fun _ => rfl, ⟨fun _ => rfl, ⟨fun _ => rfl, ⟨fun _ => rfl, trivial⟩⟩⟩⟩⟩⟩⟩) (by decide) rfl ?_
                      refine x_goto (t := 63) hC dL_isAhead_98 (by decide) ?_
                      refine x_sub (l' := [(0, va_rf r0), (1, .int i1), (2, .int v416), (3, .int v417), (4, .int v418), (5, .int (0 : Int32)), (6, .int (v420 + (1 : Int32)))]) [2, 3, 4, 5, 6, 1, 0] rfl ?_
                      have hb := bk_x h hg_63
                      exact hb
                    · replace h := it_f c525 h
                      refine x_iconst (v := (1 : Int32)) hC dL_isAhead_88 (by decide) ?_
                      refine x_goto (t := 93) hC dL_isAhead_89 (by decide) ?_
                      refine x_istore (i := 5) (l' := [(5, .int (1 : Int32)), (0, va_rf r0), (1, .int i1), (2, .int v416), (3, .int v417), (4, .int v418), (6, .int v420)]) hC dL_isAhead_93 (⟨fun _ => c_rf r0, ⟨fun _ => rfl, ⟨fun _ => rfl, ⟨fun _ => rfl, ⟨fun _ => rfl, ⟨fun _ => rfl, ⟨fun _ => rfl, trivial⟩⟩⟩⟩⟩⟩⟩) (by decide) rfl ?_
                      refine x_iinc (i := 6) (v := (v420 + (1 : Int32))) (l' := [(6, .int (v420 + (1 : Int32))), (5, .int (1 : Int32)), (0, va_rf r0), (1, .int i1), (2, .int v416), (3, .int v417), (4, .int v418)]) hC dL_isAhead_95 6 rfl rfl (⟨fun _ => rfl, ⟨fun _ => c_rf r0, ⟨fun _ => rfl, ⟨fun _ => rfl, ⟨fun _ => rfl, ⟨fun _ => rfl, ⟨fun _ => rfl, trivial⟩⟩⟩⟩⟩⟩⟩) (by decide) rfl ?_
                      refine x_goto (t := 63) hC dL_isAhead_98 (by decide) ?_
                      refine x_sub (l' := [(0, va_rf r0), (1, .int i1), (2, .int v416), (3, .int v417), (4, .int v418), (5, .int (1 : Int32)), (6, .int (v420 + (1 : Int32)))]) [2, 3, 4, 5, 6, 1, 0] rfl ?_
                      have hb := bk_x h hg_63
                      exact hb
                  · replace h := ir_x h hg_63; exact z_no hyr (Option.some.inj h)
            · replace h := ir_x h hg_63; exact z_no hyr (Option.some.inj h)
          · replace h := it_f c415 h
            refine x_iconst (v := (2 : Int32)) hC dL_isAhead_25 (by decide) ?_
            refine x_iload_n (i := 2) hC dL_isAhead_26 rfl 1 rfl ?_
            refine x_imul hC dL_isAhead_27 ?_
            refine x_aload_n (i := 0) hC dL_isAhead_28 rfl 2 rfl ?_
            refine x_iconst (v := (4 : Int32)) hC dL_isAhead_29 (by decide) ?_
            replace h := dr_el h
            obtain ⟨a528, ea529, ha530, h⟩ := h
            replace h := bt_el h
            obtain ⟨v531, S532, hb994, h⟩ | ⟨j533, S534, hb994, h⟩ := h
            · refine x_callV hC (st := [.int ((2 : Int32) * v4)]) (mtr_X4_count _ _ _ (v531, S532) hb994) ea529 ha530 kf_4 q_406 q_407 q_408 q_1 q_409 ⟨rfl, hy_X4_count⟩ ⟨Nat.le_of_ble_eq_true rfl, Nat.le_of_ble_eq_true rfl⟩ ⟨Nat.le_of_ble_eq_true rfl, Nat.le_of_ble_eq_true rfl⟩ rfl (Nat.le_of_ble_eq_true rfl) dL_isAhead_30 (r_N ?_) r_NX
              show PX Z 10 S532 0 0 33 [(3, .int v11), (2, .int v4), (0, va_rf r0), (1, .int i1)] [.int v531, .int ((2 : Int32) * v4)]
              refine x_icmp_gt (t := 54) hC dL_isAhead_33 (by decide) (fun c535 => ?_) (fun c535 => ?_)
              · replace h := it_t c535 h
                refine x_iconst (v := (0 : Int32)) hC dL_isAhead_54 (by decide) ?_
                refine x_istore (i := 4) (l' := [(4, .int (0 : Int32)), (3, .int v11), (2, .int v4), (0, va_rf r0), (1, .int i1)]) hC dL_isAhead_55 (⟨fun _ => rfl, ⟨fun _ => rfl, ⟨fun _ => c_rf r0, ⟨fun _ => rfl, trivial⟩⟩⟩⟩) (by decide) rfl ?_
                refine x_iconst (v := (0 : Int32)) hC dL_isAhead_57 (by decide) ?_
                refine x_istore (i := 5) (l' := [(5, .int (0 : Int32)), (4, .int (0 : Int32)), (3, .int v11), (2, .int v4), (0, va_rf r0), (1, .int i1)]) hC dL_isAhead_58 (⟨fun _ => rfl, ⟨fun _ => rfl, ⟨fun _ => rfl, ⟨fun _ => c_rf r0, ⟨fun _ => rfl, trivial⟩⟩⟩⟩⟩) (by decide) rfl ?_
                refine x_iconst (v := (0 : Int32)) hC dL_isAhead_60 (by decide) ?_
                refine x_istore (i := 6) (l' := [(6, .int (0 : Int32)), (5, .int (0 : Int32)), (4, .int (0 : Int32)), (3, .int v11), (2, .int v4), (0, va_rf r0), (1, .int i1)]) hC dL_isAhead_61 (⟨fun _ => rfl, ⟨fun _ => rfl, ⟨fun _ => rfl, ⟨fun _ => rfl, ⟨fun _ => c_rf r0, ⟨fun _ => rfl, trivial⟩⟩⟩⟩⟩⟩) (by decide) rfl ?_
                refine x_sub (l' := [(0, va_rf r0), (1, .int i1), (2, .int v4), (3, .int v11), (4, .int (0 : Int32)), (5, .int (0 : Int32)), (6, .int (0 : Int32))]) [5, 6, 4, 3, 2, 1, 0] rfl ?_
                refine lp_sim (P := fun (t : (Int32 × Int32 × Int32 × Int32 × Int32 × PH)) => PX Z 10 t.2.2.2.2.2 0 0 63 [(0, va_rf r0), (1, .int i1), (2, .int t.1), (3, .int t.2.1), (4, .int t.2.2.1), (5, .int t.2.2.2.1), (6, .int t.2.2.2.2.1)] []) (G := fun r => r = y) ?_ h rfl
                clear h
                intro t x_63 h hg_63
                obtain ⟨v536, v537, v538, v539, v540, S541⟩ := t
                show PX Z 10 S541 0 0 63 [(0, va_rf r0), (1, .int i1), (2, .int v536), (3, .int v537), (4, .int v538), (5, .int v539), (6, .int v540)] []
                unfold st_L_isAhead_63 at h
                refine x_iload (i := 6) hC dL_isAhead_63 6 rfl ?_
                refine x_aload_n (i := 0) hC dL_isAhead_65 rfl 0 rfl ?_
                refine x_iconst (v := (0 : Int32)) hC dL_isAhead_66 (by decide) ?_
                replace h := dr_el h
                obtain ⟨a542, ea543, ha544, h⟩ := h
                replace h := bt_el h
                obtain ⟨v545, S546, hb647, h⟩ | ⟨j547, S548, hb647, h⟩ := h
                · refine x_callV hC (st := [.int v540]) (mtr_X4_count _ _ _ (v545, S546) hb647) ea543 ha544 kf_4 q_406 q_407 q_408 q_1 q_409 ⟨rfl, hy_X4_count⟩ ⟨Nat.le_of_ble_eq_true rfl, Nat.le_of_ble_eq_true rfl⟩ ⟨Nat.le_of_ble_eq_true rfl, Nat.le_of_ble_eq_true rfl⟩ rfl (Nat.le_of_ble_eq_true rfl) dL_isAhead_67 (r_N ?_) r_NX
                  show PX Z 10 S546 0 0 70 [(0, va_rf r0), (1, .int i1), (2, .int v536), (3, .int v537), (4, .int v538), (5, .int v539), (6, .int v540)] [.int v545, .int v540]
                  refine x_icmp_ge (t := 101) hC dL_isAhead_70 (by decide) (fun c549 => ?_) (fun c549 => ?_)
                  · replace h := it_t c549 h
                    replace h := ir_x h hg_63
                    refine x_iload (i := 4) hC dL_isAhead_101 4 rfl ?_
                    refine x_if_eq (t := 124) hC dL_isAhead_103 (by decide) (fun c550 => ?_) (fun c550 => ?_)
                    · replace h := it_t c550 h
                      refine x_iconst (v := (0 : Int32)) hC dL_isAhead_124 (by decide) ?_
                      refine x_istore (i := 4) (l' := [(4, .int (0 : Int32)), (0, va_rf r0), (1, .int i1), (2, .int v536), (3, .int v537), (5, .int v539), (6, .int v540)]) hC dL_isAhead_125 (⟨fun _ => c_rf r0, ⟨fun _ => rfl, ⟨fun _ => rfl, ⟨fun _ => rfl, ⟨fun _ => rfl, ⟨fun _ => rfl, ⟨fun _ => rfl, trivial⟩⟩⟩⟩⟩⟩⟩) (by decide) rfl ?_
                      refine x_iconst (v := (0 : Int32)) hC dL_isAhead_127 (by decide) ?_
                      refine x_istore (i := 6) (l' := [(6, .int (0 : Int32)), (4, .int (0 : Int32)), (0, va_rf r0), (1, .int i1), (2, .int v536), (3, .int v537), (5, .int v539)]) hC dL_isAhead_128 (⟨fun _ => rfl, ⟨fun _ => c_rf r0, ⟨fun _ => rfl, ⟨fun _ => rfl, ⟨fun _ => rfl, ⟨fun _ => rfl, ⟨fun _ => rfl, trivial⟩⟩⟩⟩⟩⟩⟩) (by decide) rfl ?_
                      refine x_sub (l' := [(0, va_rf r0), (1, .int i1), (2, .int v536), (3, .int v537), (4, .int (0 : Int32)), (6, .int (0 : Int32))]) [2, 3, 4, 5, 1, 0] rfl ?_
                      refine lp_sim (P := fun (t : (Int32 × Int32 × Int32 × Int32 × PH)) => PX Z 10 t.2.2.2.2 0 0 130 [(0, va_rf r0), (1, .int i1), (2, .int t.1), (3, .int t.2.1), (4, .int t.2.2.1), (6, .int t.2.2.2.1)] []) (G := fun r => r = y) ?_ h rfl
                      clear h
                      intro t x_130 h hg_130
                      obtain ⟨v551, v552, v553, v554, S555⟩ := t
                      show PX Z 10 S555 0 0 130 [(0, va_rf r0), (1, .int i1), (2, .int v551), (3, .int v552), (4, .int v553), (6, .int v554)] []
                      have J_328 : ∀ (v117 : Int32) (v118 : Int32) (v119 : Int32) (v120 : Int32) (v121 : Int32) (S122 : PH), j_L_isAhead_328 r0 i1 v117 v118 v119 v120 v121 S122 = some x_130 → PX Z 10 S122 0 0 328 [(0, va_rf r0), (1, .int i1), (2, .int v117), (3, .int v118), (6, .int v119), (7, .int v120), (9, .int v121)] [] := by
                        intro v117 v118 v119 v120 v121 S122 h
                        unfold j_L_isAhead_328 at h
                        refine x_iload (i := 7) hC dL_isAhead_328 5 rfl ?_
                        refine x_iconst (v := (5 : Int32)) hC dL_isAhead_330 (by decide) ?_
                        refine x_icmp_lt (t := 339) hC dL_isAhead_331 (by decide) (fun c123 => ?_) (fun c123 => ?_)
                        · replace h := it_t c123 h
                          refine x_iconst (v := (1 : Int32)) hC dL_isAhead_339 (by decide) ?_
                          refine x_goto (t := 366) hC dL_isAhead_340 (by decide) ?_
                          refine x_istore (i := 4) (l' := [(4, .int (1 : Int32)), (0, va_rf r0), (1, .int i1), (2, .int v117), (3, .int v118), (6, .int v119), (7, .int v120), (9, .int v121)]) hC dL_isAhead_366 (⟨fun _ => c_rf r0, ⟨fun _ => rfl, ⟨fun _ => rfl, ⟨fun _ => rfl, ⟨fun _ => rfl, ⟨fun _ => rfl, ⟨fun _ => rfl, trivial⟩⟩⟩⟩⟩⟩⟩) (by decide) rfl ?_
                          refine x_iinc (i := 6) (v := (v119 + (1 : Int32))) (l' := [(6, .int (v119 + (1 : Int32))), (4, .int (1 : Int32)), (0, va_rf r0), (1, .int i1), (2, .int v117), (3, .int v118), (7, .int v120), (9, .int v121)]) hC dL_isAhead_368 5 rfl rfl (⟨fun _ => rfl, ⟨fun _ => c_rf r0, ⟨fun _ => rfl, ⟨fun _ => rfl, ⟨fun _ => rfl, ⟨fun _ => rfl, ⟨fun _ => rfl, ⟨fun _ => rfl, trivial⟩⟩⟩⟩⟩⟩⟩⟩) (by decide) rfl ?_
                          refine x_goto (t := 130) hC dL_isAhead_371 (by decide) ?_
                          refine x_sub (l' := [(0, va_rf r0), (1, .int i1), (2, .int v117), (3, .int v118), (4, .int (1 : Int32)), (6, .int (v119 + (1 : Int32)))]) [2, 3, 4, 5, 1, 0] rfl ?_
                          have hb := bk_x h hg_130
                          exact hb
                        · replace h := it_f c123 h
                          refine x_iload (i := 9) hC dL_isAhead_334 6 rfl ?_
                          refine x_if_ne (t := 343) hC dL_isAhead_336 (by decide) (fun c124 => ?_) (fun c124 => ?_)
                          · replace h := it_f c124 h
                            refine x_iconst (v := (0 : Int32)) hC dL_isAhead_343 (by decide) ?_
                            refine x_goto (t := 366) hC dL_isAhead_344 (by decide) ?_
                            refine x_istore (i := 4) (l' := [(4, .int (0 : Int32)), (0, va_rf r0), (1, .int i1), (2, .int v117), (3, .int v118), (6, .int v119), (7, .int v120), (9, .int v121)]) hC dL_isAhead_366 (⟨fun _ => c_rf r0, ⟨fun _ => rfl, ⟨fun _ => rfl, ⟨fun _ => rfl, ⟨fun _ => rfl, ⟨fun _ => rfl, ⟨fun _ => rfl, trivial⟩⟩⟩⟩⟩⟩⟩) (by decide) rfl ?_
                            refine x_iinc (i := 6) (v := (v119 + (1 : Int32))) (l' := [(6, .int (v119 + (1 : Int32))), (4, .int (0 : Int32)), (0, va_rf r0), (1, .int i1), (2, .int v117), (3, .int v118), (7, .int v120), (9, .int v121)]) hC dL_isAhead_368 5 rfl rfl (⟨fun _ => rfl, ⟨fun _ => c_rf r0, ⟨fun _ => rfl, ⟨fun _ => rfl, ⟨fun _ => rfl, ⟨fun _ => rfl, ⟨fun _ => rfl, ⟨fun _ => rfl, trivial⟩⟩⟩⟩⟩⟩⟩⟩) (by decide) rfl ?_
                            refine x_goto (t := 130) hC dL_isAhead_371 (by decide) ?_
                            refine x_sub (l' := [(0, va_rf r0), (1, .int i1), (2, .int v117), (3, .int v118), (4, .int (0 : Int32)), (6, .int (v119 + (1 : Int32)))]) [2, 3, 4, 5, 1, 0] rfl ?_
                            have hb := bk_x h hg_130
                            exact hb
                          · replace h := it_t c124 h
                            refine x_iconst (v := (1 : Int32)) hC dL_isAhead_339 (by decide) ?_
                            refine x_goto (t := 366) hC dL_isAhead_340 (by decide) ?_
                            refine x_istore (i := 4) (l' := [(4, .int (1 : Int32)), (0, va_rf r0), (1, .int i1), (2, .int v117), (3, .int v118), (6, .int v119), (7, .int v120), (9, .int v121)]) hC dL_isAhead_366 (⟨fun _ => c_rf r0, ⟨fun _ => rfl, ⟨fun _ => rfl, ⟨fun _ => rfl, ⟨fun _ => rfl, ⟨fun _ => rfl, ⟨fun _ => rfl, trivial⟩⟩⟩⟩⟩⟩⟩) (by decide) rfl ?_
                            refine x_iinc (i := 6) (v := (v119 + (1 : Int32))) (l' := [(6, .int (v119 + (1 : Int32))), (4, .int (1 : Int32)), (0, va_rf r0), (1, .int i1), (2, .int v117), (3, .int v118), (7, .int v120), (9, .int v121)]) hC dL_isAhead_368 5 rfl rfl (⟨fun _ => rfl, ⟨fun _ => c_rf r0, ⟨fun _ => rfl, ⟨fun _ => rfl, ⟨fun _ => rfl, ⟨fun _ => rfl, ⟨fun _ => rfl, ⟨fun _ => rfl, trivial⟩⟩⟩⟩⟩⟩⟩⟩) (by decide) rfl ?_
                            refine x_goto (t := 130) hC dL_isAhead_371 (by decide) ?_
                            refine x_sub (l' := [(0, va_rf r0), (1, .int i1), (2, .int v117), (3, .int v118), (4, .int (1 : Int32)), (6, .int (v119 + (1 : Int32)))]) [2, 3, 4, 5, 1, 0] rfl ?_
                            have hb := bk_x h hg_130
                            exact hb
                      have J_314 : ∀ (v107 : Int32) (v108 : Int32) (v109 : Int32) (v110 : Int32) (v111 : Int32) (v112 : Int32) (v113 : Int32) (S114 : PH), j_L_isAhead_314 r0 i1 v107 v108 v109 v110 v111 v112 v113 S114 = some x_130 → PX Z 10 S114 0 0 314 [(0, va_rf r0), (1, .int i1), (2, .int v107), (3, .int v108), (6, .int v109), (7, .int v110), (9, .int v111)] [.int v113, .int v112] := by
                        intro v107 v108 v109 v110 v111 v112 v113 S114 h
                        unfold j_L_isAhead_314 at h
                        refine x_icmp_ne (t := 343) hC dL_isAhead_314 (by decide) (fun c115 => ?_) (fun c115 => ?_)
                        · replace h := it_f c115 h
                          refine x_iconst (v := (0 : Int32)) hC dL_isAhead_343 (by decide) ?_
                          refine x_goto (t := 366) hC dL_isAhead_344 (by decide) ?_
                          refine x_istore (i := 4) (l' := [(4, .int (0 : Int32)), (0, va_rf r0), (1, .int i1), (2, .int v107), (3, .int v108), (6, .int v109), (7, .int v110), (9, .int v111)]) hC dL_isAhead_366 (⟨fun _ => c_rf r0, ⟨fun _ => rfl, ⟨fun _ => rfl, ⟨fun _ => rfl, ⟨fun _ => rfl, ⟨fun _ => rfl, ⟨fun _ => rfl, trivial⟩⟩⟩⟩⟩⟩⟩) (by decide) rfl ?_
                          refine x_iinc (i := 6) (v := (v109 + (1 : Int32))) (l' := [(6, .int (v109 + (1 : Int32))), (4, .int (0 : Int32)), (0, va_rf r0), (1, .int i1), (2, .int v107), (3, .int v108), (7, .int v110), (9, .int v111)]) hC dL_isAhead_368 5 rfl rfl (⟨fun _ => rfl, ⟨fun _ => c_rf r0, ⟨fun _ => rfl, ⟨fun _ => rfl, ⟨fun _ => rfl, ⟨fun _ => rfl, ⟨fun _ => rfl, ⟨fun _ => rfl, trivial⟩⟩⟩⟩⟩⟩⟩⟩) (by decide) rfl ?_
                          refine x_goto (t := 130) hC dL_isAhead_371 (by decide) ?_
                          refine x_sub (l' := [(0, va_rf r0), (1, .int i1), (2, .int v107), (3, .int v108), (4, .int (0 : Int32)), (6, .int (v109 + (1 : Int32)))]) [2, 3, 4, 5, 1, 0] rfl ?_
                          have hb := bk_x h hg_130
                          exact hb
                        · replace h := it_t c115 h
                          refine x_iload (i := 7) hC dL_isAhead_317 5 rfl ?_
                          refine x_iconst (v := (4 : Int32)) hC dL_isAhead_319 (by decide) ?_
                          refine x_icmp_ne (t := 328) hC dL_isAhead_320 (by decide) (fun c116 => ?_) (fun c116 => ?_)
                          · replace h := it_f c116 h
                            exact J_328 _ _ _ _ _ _ h
                          · replace h := it_t c116 h
                            refine x_iload (i := 9) hC dL_isAhead_323 6 rfl ?_
                            refine x_if_eq (t := 343) hC dL_isAhead_325 (by decide) (fun c125 => ?_) (fun c125 => ?_)
                            · replace h := it_t c125 h
                              refine x_iconst (v := (0 : Int32)) hC dL_isAhead_343 (by decide) ?_
                              refine x_goto (t := 366) hC dL_isAhead_344 (by decide) ?_
                              refine x_istore (i := 4) (l' := [(4, .int (0 : Int32)), (0, va_rf r0), (1, .int i1), (2, .int v107), (3, .int v108), (6, .int v109), (7, .int v110), (9, .int v111)]) hC dL_isAhead_366 (⟨fun _ => c_rf r0, ⟨fun _ => rfl, ⟨fun _ => rfl, ⟨fun _ => rfl, ⟨fun _ => rfl, ⟨fun _ => rfl, ⟨fun _ => rfl, trivial⟩⟩⟩⟩⟩⟩⟩) (by decide) rfl ?_
                              refine x_iinc (i := 6) (v := (v109 + (1 : Int32))) (l' := [(6, .int (v109 + (1 : Int32))), (4, .int (0 : Int32)), (0, va_rf r0), (1, .int i1), (2, .int v107), (3, .int v108), (7, .int v110), (9, .int v111)]) hC dL_isAhead_368 5 rfl rfl (⟨fun _ => rfl, ⟨fun _ => c_rf r0, ⟨fun _ => rfl, ⟨fun _ => rfl, ⟨fun _ => rfl, ⟨fun _ => rfl, ⟨fun _ => rfl, ⟨fun _ => rfl, trivial⟩⟩⟩⟩⟩⟩⟩⟩) (by decide) rfl ?_
                              refine x_goto (t := 130) hC dL_isAhead_371 (by decide) ?_
                              refine x_sub (l' := [(0, va_rf r0), (1, .int i1), (2, .int v107), (3, .int v108), (4, .int (0 : Int32)), (6, .int (v109 + (1 : Int32)))]) [2, 3, 4, 5, 1, 0] rfl ?_
                              have hb := bk_x h hg_130
                              exact hb
                            · replace h := it_f c125 h
                              exact J_328 _ _ _ _ _ _ h
                      have J_271 : ∀ (v92 : Int32) (v93 : Int32) (v94 : Int32) (v95 : Int32) (v96 : Int32) (v97 : Int32) (S98 : PH), j_L_isAhead_271 r0 i1 v92 v93 v94 v95 v96 v97 S98 = some x_130 → PX Z 10 S98 0 0 271 [(0, va_rf r0), (1, .int i1), (2, .int v92), (3, .int v93), (6, .int v94), (7, .int v95), (9, .int v96)] [.int v97] := by
                        intro v92 v93 v94 v95 v96 v97 S98 h
                        unfold j_L_isAhead_271 at h
                        refine x_aload_n (i := 0) hC dL_isAhead_271 rfl 0 rfl ?_
                        refine x_iload_n (i := 1) hC dL_isAhead_272 rfl 1 rfl ?_
                        refine x_bipush (v := (8 : Int32)) hC dL_isAhead_273 (by decide) ?_
                        replace h := dr_el h
                        obtain ⟨a99, ea100, ha101, h⟩ := h
                        replace h := bt_el h
                        obtain ⟨v102, S103, hb155, h⟩ | ⟨j104, S105, hb155, h⟩ := h
                        · refine x_callV hC (st := [.int v97]) (mtr_X4_paperOf _ _ _ _ (v102, S103) hb155) ea100 ha101 kf_4 q_527 q_528 q_529 q_1 q_530 ⟨rfl, hy_X4_paperOf⟩ ⟨Nat.le_of_ble_eq_true rfl, Nat.le_of_ble_eq_true rfl⟩ ⟨Nat.le_of_ble_eq_true rfl, Nat.le_of_ble_eq_true rfl⟩ rfl (Nat.le_of_ble_eq_true rfl) dL_isAhead_275 (r_N ?_) r_NX
                          show PX Z 10 S103 0 0 278 [(0, va_rf r0), (1, .int i1), (2, .int v92), (3, .int v93), (6, .int v94), (7, .int v95), (9, .int v96)] [.int v102, .int v97]
                          refine x_if_ne (t := 313) hC dL_isAhead_278 (by decide) (fun c106 => ?_) (fun c106 => ?_)
                          · replace h := it_f c106 h
                            refine x_iconst (v := (0 : Int32)) hC dL_isAhead_313 (by decide) ?_
                            exact J_314 _ _ _ _ _ _ _ _ h
                          · replace h := it_t c106 h
                            refine x_aload_n (i := 0) hC dL_isAhead_281 rfl 0 rfl ?_
                            refine x_iload (i := 6) hC dL_isAhead_282 4 rfl ?_
                            refine x_iload_n (i := 1) hC dL_isAhead_284 rfl 1 rfl ?_
                            replace h := dr_el h
                            obtain ⟨a126, ea127, ha128, h⟩ := h
                            replace h := bt_el h
                            obtain ⟨v129, S130, hb154, h⟩ | ⟨j131, S132, hb154, h⟩ := h
                            · refine x_callV hC (st := [.int v97]) (mtr_X4_score _ _ _ _ (v129, S130) hb154) ea127 ha128 kf_4 q_548 q_549 q_550 q_1 q_551 ⟨rfl, hy_X4_score⟩ ⟨Nat.le_of_ble_eq_true rfl, Nat.le_of_ble_eq_true rfl⟩ ⟨Nat.le_of_ble_eq_true rfl, Nat.le_of_ble_eq_true rfl⟩ rfl (Nat.le_of_ble_eq_true rfl) dL_isAhead_285 (r_N ?_) r_NX
                              show PX Z 10 S130 0 0 288 [(0, va_rf r0), (1, .int i1), (2, .int v92), (3, .int v93), (6, .int v94), (7, .int v95), (9, .int v96)] [.int v129, .int v97]
                              refine x_iconst (v := (-1 : Int32)) hC dL_isAhead_288 (by decide) ?_
                              refine x_icmp_ne (t := 313) hC dL_isAhead_289 (by decide) (fun c133 => ?_) (fun c133 => ?_)
                              · replace h := it_f c133 h
                                refine x_iconst (v := (0 : Int32)) hC dL_isAhead_313 (by decide) ?_
                                exact J_314 _ _ _ _ _ _ _ _ h
                              · replace h := it_t c133 h
                                refine x_aload_n (i := 0) hC dL_isAhead_292 rfl 0 rfl ?_
                                refine x_iload_n (i := 1) hC dL_isAhead_293 rfl 1 rfl ?_
                                refine x_iconst (v := (2 : Int32)) hC dL_isAhead_294 (by decide) ?_
                                replace h := dr_el h
                                obtain ⟨a134, ea135, ha136, h⟩ := h
                                replace h := bt_el h
                                obtain ⟨v137, S138, hb153, h⟩ | ⟨j139, S140, hb153, h⟩ := h
                                · refine x_callV hC (st := [.int v97]) (mtr_X4_paperOf _ _ _ _ (v137, S138) hb153) ea135 ha136 kf_4 q_527 q_528 q_529 q_1 q_530 ⟨rfl, hy_X4_paperOf⟩ ⟨Nat.le_of_ble_eq_true rfl, Nat.le_of_ble_eq_true rfl⟩ ⟨Nat.le_of_ble_eq_true rfl, Nat.le_of_ble_eq_true rfl⟩ rfl (Nat.le_of_ble_eq_true rfl) dL_isAhead_295 (r_N ?_) r_NX
                                  show PX Z 10 S138 0 0 298 [(0, va_rf r0), (1, .int i1), (2, .int v92), (3, .int v93), (6, .int v94), (7, .int v95), (9, .int v96)] [.int v137, .int v97]
                                  replace h := bd_el h
                                  obtain ⟨v141, S142, hb143, h⟩ := h
                                  refine x_callS hC (st := [.int v97]) (mt_L_bits _ _ _ hb143) q_656 q_657 q_0 q_658 hy_L_bits ⟨Nat.le_of_ble_eq_true rfl, Nat.le_of_ble_eq_true rfl⟩ ⟨Nat.le_of_ble_eq_true rfl, Nat.le_of_ble_eq_true rfl⟩ rfl (Nat.le_of_ble_eq_true rfl) dL_isAhead_298 (r_N ?_) r_NX
                                  show PX Z 10 S142 0 0 301 [(0, va_rf r0), (1, .int i1), (2, .int v92), (3, .int v93), (6, .int v94), (7, .int v95), (9, .int v96)] [.int v141, .int v97]
                                  refine x_aload_n (i := 0) hC dL_isAhead_301 rfl 0 rfl ?_
                                  refine x_iconst (v := (0 : Int32)) hC dL_isAhead_302 (by decide) ?_
                                  replace h := dr_el h
                                  obtain ⟨a144, ea145, ha146, h⟩ := h
                                  replace h := bt_el h
                                  obtain ⟨v147, S148, hb152, h⟩ | ⟨j149, S150, hb152, h⟩ := h
                                  · refine x_callV hC (st := [.int v141, .int v97]) (mtr_X4_setting _ _ _ (v147, S148) hb152) ea145 ha146 kf_4 q_552 q_553 q_554 q_1 q_555 ⟨rfl, hy_X4_setting⟩ ⟨Nat.le_of_ble_eq_true rfl, Nat.le_of_ble_eq_true rfl⟩ ⟨Nat.le_of_ble_eq_true rfl, Nat.le_of_ble_eq_true rfl⟩ rfl (Nat.le_of_ble_eq_true rfl) dL_isAhead_303 (r_N ?_) r_NX
                                    show PX Z 10 S148 0 0 306 [(0, va_rf r0), (1, .int i1), (2, .int v92), (3, .int v93), (6, .int v94), (7, .int v95), (9, .int v96)] [.int v147, .int v141, .int v97]
                                    refine x_icmp_ge (t := 313) hC dL_isAhead_306 (by decide) (fun c151 => ?_) (fun c151 => ?_)
                                    · replace h := it_t c151 h
                                      refine x_iconst (v := (0 : Int32)) hC dL_isAhead_313 (by decide) ?_
                                      exact J_314 _ _ _ _ _ _ _ _ h
                                    · replace h := it_f c151 h
                                      refine x_iconst (v := (1 : Int32)) hC dL_isAhead_309 (by decide) ?_
                                      refine x_goto (t := 314) hC dL_isAhead_310 (by decide) ?_
                                      exact J_314 _ _ _ _ _ _ _ _ h
                                  · replace h := ir_x h hg_130; exact z_no hyr (Option.some.inj h)
                                · replace h := ir_x h hg_130; exact z_no hyr (Option.some.inj h)
                            · replace h := ir_x h hg_130; exact z_no hyr (Option.some.inj h)
                        · replace h := ir_x h hg_130; exact z_no hyr (Option.some.inj h)
                      have J_253 : ∀ (v80 : Int32) (v81 : Int32) (v82 : Int32) (v83 : Int32) (v84 : Int32) (v85 : Int32) (S86 : PH), j_L_isAhead_253 r0 i1 v80 v81 v82 v83 v84 v85 S86 = some x_130 → PX Z 10 S86 0 0 253 [(0, va_rf r0), (1, .int i1), (2, .int v80), (3, .int v81), (6, .int v82), (7, .int v83), (8, .int v84)] [.int v85] := by
                        intro v80 v81 v82 v83 v84 v85 S86 h
                        unfold j_L_isAhead_253 at h
                        refine x_istore (i := 9) (l' := [(9, .int v85), (0, va_rf r0), (1, .int i1), (2, .int v80), (3, .int v81), (6, .int v82), (7, .int v83), (8, .int v84)]) hC dL_isAhead_253 (⟨fun _ => c_rf r0, ⟨fun _ => rfl, ⟨fun _ => rfl, ⟨fun _ => rfl, ⟨fun _ => rfl, ⟨fun _ => rfl, ⟨fun _ => rfl, trivial⟩⟩⟩⟩⟩⟩⟩) (by decide) rfl ?_
                        refine x_iload (i := 7) hC dL_isAhead_255 6 rfl ?_
                        refine x_if_le (t := 347) hC dL_isAhead_257 (by decide) (fun c87 => ?_) (fun c87 => ?_)
                        · replace h := it_t c87 h
                          refine x_iload_n (i := 3) hC dL_isAhead_347 rfl 4 rfl ?_
                          refine x_if_lt (t := 365) hC dL_isAhead_348 (by decide) (fun c88 => ?_) (fun c88 => ?_)
                          · replace h := it_t c88 h
                            refine x_iconst (v := (0 : Int32)) hC dL_isAhead_365 (by decide) ?_
                            refine x_istore (i := 4) (l' := [(4, .int (0 : Int32)), (9, .int v85), (0, va_rf r0), (1, .int i1), (2, .int v80), (3, .int v81), (6, .int v82), (7, .int v83), (8, .int v84)]) hC dL_isAhead_366 (⟨fun _ => rfl, ⟨fun _ => c_rf r0, ⟨fun _ => rfl, ⟨fun _ => rfl, ⟨fun _ => rfl, ⟨fun _ => rfl, ⟨fun _ => rfl, ⟨fun _ => rfl, trivial⟩⟩⟩⟩⟩⟩⟩⟩) (by decide) rfl ?_
                            refine x_iinc (i := 6) (v := (v82 + (1 : Int32))) (l' := [(6, .int (v82 + (1 : Int32))), (4, .int (0 : Int32)), (9, .int v85), (0, va_rf r0), (1, .int i1), (2, .int v80), (3, .int v81), (7, .int v83), (8, .int v84)]) hC dL_isAhead_368 6 rfl rfl (⟨fun _ => rfl, ⟨fun _ => rfl, ⟨fun _ => c_rf r0, ⟨fun _ => rfl, ⟨fun _ => rfl, ⟨fun _ => rfl, ⟨fun _ => rfl, ⟨fun _ => rfl, ⟨fun _ => rfl, trivial⟩⟩⟩⟩⟩⟩⟩⟩⟩) (by decide) rfl ?_
                            refine x_goto (t := 130) hC dL_isAhead_371 (by decide) ?_
                            refine x_sub (l' := [(0, va_rf r0), (1, .int i1), (2, .int v80), (3, .int v81), (4, .int (0 : Int32)), (6, .int (v82 + (1 : Int32)))]) [3, 4, 5, 6, 1, 0] rfl ?_
                            have hb := bk_x h hg_130
                            exact hb
                          · replace h := it_f c88 h
                            refine x_iload (i := 8) hC dL_isAhead_351 7 rfl ?_
                            refine x_if_ne (t := 365) hC dL_isAhead_353 (by decide) (fun c89 => ?_) (fun c89 => ?_)
                            · replace h := it_f c89 h
                              refine x_iconst (v := (0 : Int32)) hC dL_isAhead_365 (by decide) ?_
                              refine x_istore (i := 4) (l' := [(4, .int (0 : Int32)), (9, .int v85), (0, va_rf r0), (1, .int i1), (2, .int v80), (3, .int v81), (6, .int v82), (7, .int v83), (8, .int v84)]) hC dL_isAhead_366 (⟨fun _ => rfl, ⟨fun _ => c_rf r0, ⟨fun _ => rfl, ⟨fun _ => rfl, ⟨fun _ => rfl, ⟨fun _ => rfl, ⟨fun _ => rfl, ⟨fun _ => rfl, trivial⟩⟩⟩⟩⟩⟩⟩⟩) (by decide) rfl ?_
                              refine x_iinc (i := 6) (v := (v82 + (1 : Int32))) (l' := [(6, .int (v82 + (1 : Int32))), (4, .int (0 : Int32)), (9, .int v85), (0, va_rf r0), (1, .int i1), (2, .int v80), (3, .int v81), (7, .int v83), (8, .int v84)]) hC dL_isAhead_368 6 rfl rfl (⟨fun _ => rfl, ⟨fun _ => rfl, ⟨fun _ => c_rf r0, ⟨fun _ => rfl, ⟨fun _ => rfl, ⟨fun _ => rfl, ⟨fun _ => rfl, ⟨fun _ => rfl, ⟨fun _ => rfl, trivial⟩⟩⟩⟩⟩⟩⟩⟩⟩) (by decide) rfl ?_
                              refine x_goto (t := 130) hC dL_isAhead_371 (by decide) ?_
                              refine x_sub (l' := [(0, va_rf r0), (1, .int i1), (2, .int v80), (3, .int v81), (4, .int (0 : Int32)), (6, .int (v82 + (1 : Int32)))]) [3, 4, 5, 6, 1, 0] rfl ?_
                              have hb := bk_x h hg_130
                              exact hb
                            · replace h := it_t c89 h
                              refine x_iload (i := 9) hC dL_isAhead_356 0 rfl ?_
                              refine x_if_ne (t := 365) hC dL_isAhead_358 (by decide) (fun c90 => ?_) (fun c90 => ?_)
                              · replace h := it_f c90 h
                                refine x_iconst (v := (0 : Int32)) hC dL_isAhead_365 (by decide) ?_
                                refine x_istore (i := 4) (l' := [(4, .int (0 : Int32)), (9, .int v85), (0, va_rf r0), (1, .int i1), (2, .int v80), (3, .int v81), (6, .int v82), (7, .int v83), (8, .int v84)]) hC dL_isAhead_366 (⟨fun _ => rfl, ⟨fun _ => c_rf r0, ⟨fun _ => rfl, ⟨fun _ => rfl, ⟨fun _ => rfl, ⟨fun _ => rfl, ⟨fun _ => rfl, ⟨fun _ => rfl, trivial⟩⟩⟩⟩⟩⟩⟩⟩) (by decide) rfl ?_
                                refine x_iinc (i := 6) (v := (v82 + (1 : Int32))) (l' := [(6, .int (v82 + (1 : Int32))), (4, .int (0 : Int32)), (9, .int v85), (0, va_rf r0), (1, .int i1), (2, .int v80), (3, .int v81), (7, .int v83), (8, .int v84)]) hC dL_isAhead_368 6 rfl rfl (⟨fun _ => rfl, ⟨fun _ => rfl, ⟨fun _ => c_rf r0, ⟨fun _ => rfl, ⟨fun _ => rfl, ⟨fun _ => rfl, ⟨fun _ => rfl, ⟨fun _ => rfl, ⟨fun _ => rfl, trivial⟩⟩⟩⟩⟩⟩⟩⟩⟩) (by decide) rfl ?_
                                refine x_goto (t := 130) hC dL_isAhead_371 (by decide) ?_
                                refine x_sub (l' := [(0, va_rf r0), (1, .int i1), (2, .int v80), (3, .int v81), (4, .int (0 : Int32)), (6, .int (v82 + (1 : Int32)))]) [3, 4, 5, 6, 1, 0] rfl ?_
                                have hb := bk_x h hg_130
                                exact hb
                              · replace h := it_t c90 h
                                refine x_iconst (v := (1 : Int32)) hC dL_isAhead_361 (by decide) ?_
                                refine x_goto (t := 366) hC dL_isAhead_362 (by decide) ?_
                                refine x_istore (i := 4) (l' := [(4, .int (1 : Int32)), (9, .int v85), (0, va_rf r0), (1, .int i1), (2, .int v80), (3, .int v81), (6, .int v82), (7, .int v83), (8, .int v84)]) hC dL_isAhead_366 (⟨fun _ => rfl, ⟨fun _ => c_rf r0, ⟨fun _ => rfl, ⟨fun _ => rfl, ⟨fun _ => rfl, ⟨fun _ => rfl, ⟨fun _ => rfl, ⟨fun _ => rfl, trivial⟩⟩⟩⟩⟩⟩⟩⟩) (by decide) rfl ?_
                                refine x_iinc (i := 6) (v := (v82 + (1 : Int32))) (l' := [(6, .int (v82 + (1 : Int32))), (4, .int (1 : Int32)), (9, .int v85), (0, va_rf r0), (1, .int i1), (2, .int v80), (3, .int v81), (7, .int v83), (8, .int v84)]) hC dL_isAhead_368 6 rfl rfl (⟨fun _ => rfl, ⟨fun _ => rfl, ⟨fun _ => c_rf r0, ⟨fun _ => rfl, ⟨fun _ => rfl, ⟨fun _ => rfl, ⟨fun _ => rfl, ⟨fun _ => rfl, ⟨fun _ => rfl, trivial⟩⟩⟩⟩⟩⟩⟩⟩⟩) (by decide) rfl ?_
                                refine x_goto (t := 130) hC dL_isAhead_371 (by decide) ?_
                                refine x_sub (l' := [(0, va_rf r0), (1, .int i1), (2, .int v80), (3, .int v81), (4, .int (1 : Int32)), (6, .int (v82 + (1 : Int32)))]) [3, 4, 5, 6, 1, 0] rfl ?_
                                have hb := bk_x h hg_130
                                exact hb
                        · replace h := it_f c87 h
                          refine x_iload (i := 7) hC dL_isAhead_260 6 rfl ?_
                          refine x_iconst (v := (4 : Int32)) hC dL_isAhead_262 (by decide) ?_
                          refine x_icmp_lt (t := 270) hC dL_isAhead_263 (by decide) (fun c91 => ?_) (fun c91 => ?_)
                          · replace h := it_t c91 h
                            refine x_iconst (v := (0 : Int32)) hC dL_isAhead_270 (by decide) ?_
                            refine x_sub (l' := [(0, va_rf r0), (1, .int i1), (2, .int v80), (3, .int v81), (6, .int v82), (7, .int v83), (9, .int v85)]) [1, 2, 3, 4, 5, 6, 0] rfl ?_
                            exact J_271 _ _ _ _ _ _ _ h
                          · replace h := it_f c91 h
                            refine x_iconst (v := (1 : Int32)) hC dL_isAhead_266 (by decide) ?_
                            refine x_goto (t := 271) hC dL_isAhead_267 (by decide) ?_
                            refine x_sub (l' := [(0, va_rf r0), (1, .int i1), (2, .int v80), (3, .int v81), (6, .int v82), (7, .int v83), (9, .int v85)]) [1, 2, 3, 4, 5, 6, 0] rfl ?_
                            exact J_271 _ _ _ _ _ _ _ h
                      have J_230 : ∀ (v66 : Int32) (v67 : Int32) (v68 : Int32) (v69 : Int32) (v70 : Int32) (S71 : PH), j_L_isAhead_230 r0 i1 v66 v67 v68 v69 v70 S71 = some x_130 → PX Z 10 S71 0 0 230 [(0, va_rf r0), (1, .int i1), (2, .int v66), (3, .int v67), (6, .int v68), (7, .int v69)] [.int v70] := by
                        intro v66 v67 v68 v69 v70 S71 h
                        unfold j_L_isAhead_230 at h
                        refine x_istore (i := 8) (l' := [(8, .int v70), (0, va_rf r0), (1, .int i1), (2, .int v66), (3, .int v67), (6, .int v68), (7, .int v69)]) hC dL_isAhead_230 (⟨fun _ => c_rf r0, ⟨fun _ => rfl, ⟨fun _ => rfl, ⟨fun _ => rfl, ⟨fun _ => rfl, ⟨fun _ => rfl, trivial⟩⟩⟩⟩⟩⟩) (by decide) rfl ?_
                        refine x_aload_n (i := 0) hC dL_isAhead_232 rfl 1 rfl ?_
                        refine x_iload (i := 6) hC dL_isAhead_233 5 rfl ?_
                        refine x_bipush (v := (8 : Int32)) hC dL_isAhead_235 (by decide) ?_
                        replace h := dr_el h
                        obtain ⟨a72, ea73, ha74, h⟩ := h
                        replace h := bt_el h
                        obtain ⟨v75, S76, hb156, h⟩ | ⟨j77, S78, hb156, h⟩ := h
                        · refine x_callV hC (st := []) (mtr_X4_personOf _ _ _ _ (v75, S76) hb156) ea73 ha74 kf_4 q_506 q_507 q_508 q_1 q_509 ⟨rfl, hy_X4_personOf⟩ ⟨Nat.le_of_ble_eq_true rfl, Nat.le_of_ble_eq_true rfl⟩ ⟨Nat.le_of_ble_eq_true rfl, Nat.le_of_ble_eq_true rfl⟩ rfl (Nat.le_of_ble_eq_true rfl) dL_isAhead_237 (r_N ?_) r_NX
                          show PX Z 10 S76 0 0 240 [(8, .int v70), (0, va_rf r0), (1, .int i1), (2, .int v66), (3, .int v67), (6, .int v68), (7, .int v69)] [.int v75]
                          refine x_iload_n (i := 1) hC dL_isAhead_240 rfl 2 rfl ?_
                          refine x_ishr hC dL_isAhead_241 ?_
                          refine x_iconst (v := (1 : Int32)) hC dL_isAhead_242 (by decide) ?_
                          refine x_iand hC dL_isAhead_243 ?_
                          refine x_iconst (v := (1 : Int32)) hC dL_isAhead_244 (by decide) ?_
                          refine x_icmp_ne (t := 252) hC dL_isAhead_245 (by decide) (fun c79 => ?_) (fun c79 => ?_)
                          · replace h := it_f c79 h
                            refine x_iconst (v := (0 : Int32)) hC dL_isAhead_252 (by decide) ?_
                            refine x_sub (l' := [(0, va_rf r0), (1, .int i1), (2, .int v66), (3, .int v67), (6, .int v68), (7, .int v69), (8, .int v70)]) [1, 2, 3, 4, 5, 6, 0] rfl ?_
                            exact J_253 _ _ _ _ _ _ _ h
                          · replace h := it_t c79 h
                            refine x_iconst (v := (1 : Int32)) hC dL_isAhead_248 (by decide) ?_
                            refine x_goto (t := 253) hC dL_isAhead_249 (by decide) ?_
                            refine x_sub (l' := [(0, va_rf r0), (1, .int i1), (2, .int v66), (3, .int v67), (6, .int v68), (7, .int v69), (8, .int v70)]) [1, 2, 3, 4, 5, 6, 0] rfl ?_
                            exact J_253 _ _ _ _ _ _ _ h
                        · replace h := ir_x h hg_130; exact z_no hyr (Option.some.inj h)
                      unfold st_L_isAhead_130 at h
                      refine x_iload (i := 6) hC dL_isAhead_130 5 rfl ?_
                      refine x_bipush (v := (8 : Int32)) hC dL_isAhead_132 (by decide) ?_
                      refine x_icmp_ge (t := 374) hC dL_isAhead_134 (by decide) (fun c556 => ?_) (fun c556 => ?_)
                      · replace h := it_t c556 h
                        replace h := ir_x h hg_130
                        refine x_sub (l' := [(0, va_rf r0), (1, .int i1), (2, .int v551), (4, .int v553)]) [0, 1, 2, 4] rfl ?_
                        exact J_374 _ _ _ h
                      · replace h := it_f c556 h
                        refine x_iload (i := 4) hC dL_isAhead_137 4 rfl ?_
                        refine x_if_eq (t := 374) hC dL_isAhead_139 (by decide) (fun c557 => ?_) (fun c557 => ?_)
                        · replace h := it_t c557 h
                          replace h := ir_x h hg_130
                          refine x_sub (l' := [(0, va_rf r0), (1, .int i1), (2, .int v551), (4, .int v553)]) [0, 1, 2, 4] rfl ?_
                          exact J_374 _ _ _ h
                        · replace h := it_f c557 h
                          refine x_aload_n (i := 0) hC dL_isAhead_142 rfl 0 rfl ?_
                          refine x_iload (i := 6) hC dL_isAhead_143 5 rfl ?_
                          refine x_iload_n (i := 1) hC dL_isAhead_145 rfl 1 rfl ?_
                          replace h := dr_el h
                          obtain ⟨a558, ea559, ha560, h⟩ := h
                          replace h := bt_el h
                          obtain ⟨v561, S562, hb635, h⟩ | ⟨j563, S564, hb635, h⟩ := h
                          · refine x_callV hC (st := []) (mtr_X4_whyNot _ _ _ _ (v561, S562) hb635) ea559 ha560 kf_4 q_445 q_446 q_447 q_1 q_448 ⟨rfl, hy_X4_whyNot⟩ ⟨Nat.le_of_ble_eq_true rfl, Nat.le_of_ble_eq_true rfl⟩ ⟨Nat.le_of_ble_eq_true rfl, Nat.le_of_ble_eq_true rfl⟩ rfl (Nat.le_of_ble_eq_true rfl) dL_isAhead_146 (r_N ?_) r_NX
                            show PX Z 10 S562 0 0 149 [(0, va_rf r0), (1, .int i1), (2, .int v551), (3, .int v552), (4, .int v553), (6, .int v554)] [.int v561]
                            refine x_istore (i := 7) (l' := [(7, .int v561), (0, va_rf r0), (1, .int i1), (2, .int v551), (3, .int v552), (4, .int v553), (6, .int v554)]) hC dL_isAhead_149 (⟨fun _ => c_rf r0, ⟨fun _ => rfl, ⟨fun _ => rfl, ⟨fun _ => rfl, ⟨fun _ => rfl, ⟨fun _ => rfl, trivial⟩⟩⟩⟩⟩⟩) (by decide) rfl ?_
                            refine x_iload_n (i := 3) hC dL_isAhead_151 rfl 4 rfl ?_
                            refine x_if_lt (t := 229) hC dL_isAhead_152 (by decide) (fun c565 => ?_) (fun c565 => ?_)
                            · replace h := it_t c565 h
                              refine x_iconst (v := (0 : Int32)) hC dL_isAhead_229 (by decide) ?_
                              refine x_sub (l' := [(0, va_rf r0), (1, .int i1), (2, .int v551), (3, .int v552), (6, .int v554), (7, .int v561)]) [1, 2, 3, 4, 6, 0] rfl ?_
                              exact J_230 _ _ _ _ _ _ h
                            · replace h := it_f c565 h
                              refine x_aload_n (i := 0) hC dL_isAhead_155 rfl 1 rfl ?_
                              refine x_iload (i := 6) hC dL_isAhead_156 6 rfl ?_
                              refine x_iconst (v := (3 : Int32)) hC dL_isAhead_158 (by decide) ?_
                              replace h := dr_el h
                              obtain ⟨a566, ea567, ha568, h⟩ := h
                              replace h := bt_el h
                              obtain ⟨v569, S570, hb634, h⟩ | ⟨j571, S572, hb634, h⟩ := h
                              · refine x_callV hC (st := []) (mtr_X4_personOf _ _ _ _ (v569, S570) hb634) ea567 ha568 kf_4 q_506 q_507 q_508 q_1 q_509 ⟨rfl, hy_X4_personOf⟩ ⟨Nat.le_of_ble_eq_true rfl, Nat.le_of_ble_eq_true rfl⟩ ⟨Nat.le_of_ble_eq_true rfl, Nat.le_of_ble_eq_true rfl⟩ rfl (Nat.le_of_ble_eq_true rfl) dL_isAhead_159 (r_N ?_) r_NX
                                show PX Z 10 S570 0 0 162 [(7, .int v561), (0, va_rf r0), (1, .int i1), (2, .int v551), (3, .int v552), (4, .int v553), (6, .int v554)] [.int v569]
                                refine x_aload_n (i := 0) hC dL_isAhead_162 rfl 1 rfl ?_
                                refine x_iload_n (i := 3) hC dL_isAhead_163 rfl 4 rfl ?_
                                refine x_iconst (v := (3 : Int32)) hC dL_isAhead_164 (by decide) ?_
                                replace h := dr_el h
                                obtain ⟨a573, ea574, ha575, h⟩ := h
                                replace h := bt_el h
                                obtain ⟨v576, S577, hb633, h⟩ | ⟨j578, S579, hb633, h⟩ := h
                                · refine x_callV hC (st := [.int v569]) (mtr_X4_personOf _ _ _ _ (v576, S577) hb633) ea574 ha575 kf_4 q_506 q_507 q_508 q_1 q_509 ⟨rfl, hy_X4_personOf⟩ ⟨Nat.le_of_ble_eq_true rfl, Nat.le_of_ble_eq_true rfl⟩ ⟨Nat.le_of_ble_eq_true rfl, Nat.le_of_ble_eq_true rfl⟩ rfl (Nat.le_of_ble_eq_true rfl) dL_isAhead_165 (r_N ?_) r_NX
                                  show PX Z 10 S577 0 0 168 [(7, .int v561), (0, va_rf r0), (1, .int i1), (2, .int v551), (3, .int v552), (4, .int v553), (6, .int v554)] [.int v576, .int v569]
                                  refine x_icmp_lt (t := 225) hC dL_isAhead_168 (by decide) (fun c580 => ?_) (fun c580 => ?_)
                                  · replace h := it_t c580 h
                                    refine x_iconst (v := (1 : Int32)) hC dL_isAhead_225 (by decide) ?_
                                    refine x_goto (t := 230) hC dL_isAhead_226 (by decide) ?_
                                    refine x_sub (l' := [(0, va_rf r0), (1, .int i1), (2, .int v551), (3, .int v552), (6, .int v554), (7, .int v561)]) [1, 2, 3, 4, 6, 0] rfl ?_
                                    exact J_230 _ _ _ _ _ _ h
                                  · replace h := it_f c580 h
                                    refine x_aload_n (i := 0) hC dL_isAhead_171 rfl 1 rfl ?_
                                    refine x_iload (i := 6) hC dL_isAhead_172 6 rfl ?_
                                    refine x_iconst (v := (3 : Int32)) hC dL_isAhead_174 (by decide) ?_
                                    replace h := dr_el h
                                    obtain ⟨a581, ea582, ha583, h⟩ := h
                                    replace h := bt_el h
                                    obtain ⟨v584, S585, hb632, h⟩ | ⟨j586, S587, hb632, h⟩ := h
                                    · refine x_callV hC (st := []) (mtr_X4_personOf _ _ _ _ (v584, S585) hb632) ea582 ha583 kf_4 q_506 q_507 q_508 q_1 q_509 ⟨rfl, hy_X4_personOf⟩ ⟨Nat.le_of_ble_eq_true rfl, Nat.le_of_ble_eq_true rfl⟩ ⟨Nat.le_of_ble_eq_true rfl, Nat.le_of_ble_eq_true rfl⟩ rfl (Nat.le_of_ble_eq_true rfl) dL_isAhead_175 (r_N ?_) r_NX
                                      show PX Z 10 S585 0 0 178 [(7, .int v561), (0, va_rf r0), (1, .int i1), (2, .int v551), (3, .int v552), (4, .int v553), (6, .int v554)] [.int v584]
                                      refine x_aload_n (i := 0) hC dL_isAhead_178 rfl 1 rfl ?_
                                      refine x_iload_n (i := 3) hC dL_isAhead_179 rfl 4 rfl ?_
                                      refine x_iconst (v := (3 : Int32)) hC dL_isAhead_180 (by decide) ?_
                                      replace h := dr_el h
                                      obtain ⟨a588, ea589, ha590, h⟩ := h
                                      replace h := bt_el h
                                      obtain ⟨v591, S592, hb631, h⟩ | ⟨j593, S594, hb631, h⟩ := h
                                      · refine x_callV hC (st := [.int v584]) (mtr_X4_personOf _ _ _ _ (v591, S592) hb631) ea589 ha590 kf_4 q_506 q_507 q_508 q_1 q_509 ⟨rfl, hy_X4_personOf⟩ ⟨Nat.le_of_ble_eq_true rfl, Nat.le_of_ble_eq_true rfl⟩ ⟨Nat.le_of_ble_eq_true rfl, Nat.le_of_ble_eq_true rfl⟩ rfl (Nat.le_of_ble_eq_true rfl) dL_isAhead_181 (r_N ?_) r_NX
                                        show PX Z 10 S592 0 0 184 [(7, .int v561), (0, va_rf r0), (1, .int i1), (2, .int v551), (3, .int v552), (4, .int v553), (6, .int v554)] [.int v591, .int v584]
                                        refine x_icmp_ne (t := 229) hC dL_isAhead_184 (by decide) (fun c595 => ?_) (fun c595 => ?_)
                                        · replace h := it_f c595 h
                                          refine x_iconst (v := (0 : Int32)) hC dL_isAhead_229 (by decide) ?_
                                          refine x_sub (l' := [(0, va_rf r0), (1, .int i1), (2, .int v551), (3, .int v552), (6, .int v554), (7, .int v561)]) [1, 2, 3, 4, 6, 0] rfl ?_
                                          exact J_230 _ _ _ _ _ _ h
                                        · replace h := it_t c595 h
                                          refine x_aload_n (i := 0) hC dL_isAhead_187 rfl 1 rfl ?_
                                          refine x_iload (i := 6) hC dL_isAhead_188 6 rfl ?_
                                          refine x_iconst (v := (0 : Int32)) hC dL_isAhead_190 (by decide) ?_
                                          replace h := dr_el h
                                          obtain ⟨a596, ea597, ha598, h⟩ := h
                                          replace h := bt_el h
                                          obtain ⟨v599, S600, hb630, h⟩ | ⟨j601, S602, hb630, h⟩ := h
                                          · refine x_callV hC (st := []) (mtr_X4_personOf _ _ _ _ (v599, S600) hb630) ea597 ha598 kf_4 q_506 q_507 q_508 q_1 q_509 ⟨rfl, hy_X4_personOf⟩ ⟨Nat.le_of_ble_eq_true rfl, Nat.le_of_ble_eq_true rfl⟩ ⟨Nat.le_of_ble_eq_true rfl, Nat.le_of_ble_eq_true rfl⟩ rfl (Nat.le_of_ble_eq_true rfl) dL_isAhead_191 (r_N ?_) r_NX
                                            show PX Z 10 S600 0 0 194 [(7, .int v561), (0, va_rf r0), (1, .int i1), (2, .int v551), (3, .int v552), (4, .int v553), (6, .int v554)] [.int v599]
                                            refine x_aload_n (i := 0) hC dL_isAhead_194 rfl 1 rfl ?_
                                            refine x_iload_n (i := 3) hC dL_isAhead_195 rfl 4 rfl ?_
                                            refine x_iconst (v := (0 : Int32)) hC dL_isAhead_196 (by decide) ?_
                                            replace h := dr_el h
                                            obtain ⟨a603, ea604, ha605, h⟩ := h
                                            replace h := bt_el h
                                            obtain ⟨v606, S607, hb629, h⟩ | ⟨j608, S609, hb629, h⟩ := h
                                            · refine x_callV hC (st := [.int v599]) (mtr_X4_personOf _ _ _ _ (v606, S607) hb629) ea604 ha605 kf_4 q_506 q_507 q_508 q_1 q_509 ⟨rfl, hy_X4_personOf⟩ ⟨Nat.le_of_ble_eq_true rfl, Nat.le_of_ble_eq_true rfl⟩ ⟨Nat.le_of_ble_eq_true rfl, Nat.le_of_ble_eq_true rfl⟩ rfl (Nat.le_of_ble_eq_true rfl) dL_isAhead_197 (r_N ?_) r_NX
                                              show PX Z 10 S607 0 0 200 [(7, .int v561), (0, va_rf r0), (1, .int i1), (2, .int v551), (3, .int v552), (4, .int v553), (6, .int v554)] [.int v606, .int v599]
                                              refine x_icmp_gt (t := 225) hC dL_isAhead_200 (by decide) (fun c610 => ?_) (fun c610 => ?_)
                                              · replace h := it_t c610 h
                                                refine x_iconst (v := (1 : Int32)) hC dL_isAhead_225 (by decide) ?_
                                                refine x_goto (t := 230) hC dL_isAhead_226 (by decide) ?_
                                                refine x_sub (l' := [(0, va_rf r0), (1, .int i1), (2, .int v551), (3, .int v552), (6, .int v554), (7, .int v561)]) [1, 2, 3, 4, 6, 0] rfl ?_
                                                exact J_230 _ _ _ _ _ _ h
                                              · replace h := it_f c610 h
                                                refine x_aload_n (i := 0) hC dL_isAhead_203 rfl 1 rfl ?_
                                                refine x_iload (i := 6) hC dL_isAhead_204 6 rfl ?_
                                                refine x_iconst (v := (0 : Int32)) hC dL_isAhead_206 (by decide) ?_
                                                replace h := dr_el h
                                                obtain ⟨a611, ea612, ha613, h⟩ := h
                                                replace h := bt_el h
                                                obtain ⟨v614, S615, hb628, h⟩ | ⟨j616, S617, hb628, h⟩ := h
                                                · refine x_callV hC (st := []) (mtr_X4_personOf _ _ _ _ (v614, S615) hb628) ea612 ha613 kf_4 q_506 q_507 q_508 q_1 q_509 ⟨rfl, hy_X4_personOf⟩ ⟨Nat.le_of_ble_eq_true rfl, Nat.le_of_ble_eq_true rfl⟩ ⟨Nat.le_of_ble_eq_true rfl, Nat.le_of_ble_eq_true rfl⟩ rfl (Nat.le_of_ble_eq_true rfl) dL_isAhead_207 (r_N ?_) r_NX
                                                  show PX Z 10 S615 0 0 210 [(7, .int v561), (0, va_rf r0), (1, .int i1), (2, .int v551), (3, .int v552), (4, .int v553), (6, .int v554)] [.int v614]
                                                  refine x_aload_n (i := 0) hC dL_isAhead_210 rfl 1 rfl ?_
                                                  refine x_iload_n (i := 3) hC dL_isAhead_211 rfl 4 rfl ?_
                                                  refine x_iconst (v := (0 : Int32)) hC dL_isAhead_212 (by decide) ?_
                                                  replace h := dr_el h
                                                  obtain ⟨a618, ea619, ha620, h⟩ := h
                                                  replace h := bt_el h
                                                  obtain ⟨v621, S622, hb627, h⟩ | ⟨j623, S624, hb627, h⟩ := h
                                                  · refine x_callV hC (st := [.int v614]) (mtr_X4_personOf _ _ _ _ (v621, S622) hb627) ea619 ha620 kf_4 q_506 q_507 q_508 q_1 q_509 ⟨rfl, hy_X4_personOf⟩ ⟨Nat.le_of_ble_eq_true rfl, Nat.le_of_ble_eq_true rfl⟩ ⟨Nat.le_of_ble_eq_true rfl, Nat.le_of_ble_eq_true rfl⟩ rfl (Nat.le_of_ble_eq_true rfl) dL_isAhead_213 (r_N ?_) r_NX
                                                    show PX Z 10 S622 0 0 216 [(7, .int v561), (0, va_rf r0), (1, .int i1), (2, .int v551), (3, .int v552), (4, .int v553), (6, .int v554)] [.int v621, .int v614]
                                                    refine x_icmp_ne (t := 229) hC dL_isAhead_216 (by decide) (fun c625 => ?_) (fun c625 => ?_)
                                                    · replace h := it_f c625 h
                                                      refine x_iconst (v := (0 : Int32)) hC dL_isAhead_229 (by decide) ?_
                                                      refine x_sub (l' := [(0, va_rf r0), (1, .int i1), (2, .int v551), (3, .int v552), (6, .int v554), (7, .int v561)]) [1, 2, 3, 4, 6, 0] rfl ?_
                                                      exact J_230 _ _ _ _ _ _ h
                                                    · replace h := it_t c625 h
                                                      refine x_iload (i := 6) hC dL_isAhead_219 6 rfl ?_
                                                      refine x_iload_n (i := 3) hC dL_isAhead_221 rfl 4 rfl ?_
                                                      refine x_icmp_ge (t := 229) hC dL_isAhead_222 (by decide) (fun c626 => ?_) (fun c626 => ?_)
                                                      · replace h := it_t c626 h
                                                        refine x_iconst (v := (0 : Int32)) hC dL_isAhead_229 (by decide) ?_
                                                        refine x_sub (l' := [(0, va_rf r0), (1, .int i1), (2, .int v551), (3, .int v552), (6, .int v554), (7, .int v561)]) [1, 2, 3, 4, 6, 0] rfl ?_
                                                        exact J_230 _ _ _ _ _ _ h
                                                      · replace h := it_f c626 h
                                                        refine x_iconst (v := (1 : Int32)) hC dL_isAhead_225 (by decide) ?_
                                                        refine x_goto (t := 230) hC dL_isAhead_226 (by decide) ?_
                                                        refine x_sub (l' := [(0, va_rf r0), (1, .int i1), (2, .int v551), (3, .int v552), (6, .int v554), (7, .int v561)]) [1, 2, 3, 4, 6, 0] rfl ?_
                                                        exact J_230 _ _ _ _ _ _ h
                                                  · replace h := ir_x h hg_130; exact z_no hyr (Option.some.inj h)
                                                · replace h := ir_x h hg_130; exact z_no hyr (Option.some.inj h)
                                            · replace h := ir_x h hg_130; exact z_no hyr (Option.some.inj h)
                                          · replace h := ir_x h hg_130; exact z_no hyr (Option.some.inj h)
                                      · replace h := ir_x h hg_130; exact z_no hyr (Option.some.inj h)
                                    · replace h := ir_x h hg_130; exact z_no hyr (Option.some.inj h)
                                · replace h := ir_x h hg_130; exact z_no hyr (Option.some.inj h)
                              · replace h := ir_x h hg_130; exact z_no hyr (Option.some.inj h)
                          · replace h := ir_x h hg_130; exact z_no hyr (Option.some.inj h)
                    · replace h := it_f c550 h
                      refine x_iload (i := 5) hC dL_isAhead_106 5 rfl ?_
                      refine x_iload_n (i := 2) hC dL_isAhead_108 rfl 2 rfl ?_
                      refine x_if_le (t := 116) hC dL_isAhead_109 (by decide) (fun c636 => ?_) (fun c636 => ?_)
                      · replace h := it_t c636 h
                        refine x_iconst (v := (0 : Int32)) hC dL_isAhead_116 (by decide) ?_
                        refine x_sub (l' := [(0, va_rf r0), (1, .int i1), (2, .int v536), (3, .int v537)]) [0, 1, 2, 3] rfl ?_
                        exact J_117 _ _ _ _ _ h
                      · replace h := it_f c636 h
                        refine x_iconst (v := (1 : Int32)) hC dL_isAhead_112 (by decide) ?_
                        refine x_goto (t := 117) hC dL_isAhead_113 (by decide) ?_
                        refine x_sub (l' := [(0, va_rf r0), (1, .int i1), (2, .int v536), (3, .int v537)]) [0, 1, 2, 3] rfl ?_
                        exact J_117 _ _ _ _ _ h
                  · replace h := it_f c549 h
                    refine x_iload (i := 5) hC dL_isAhead_73 5 rfl ?_
                    refine x_if_ne (t := 88) hC dL_isAhead_75 (by decide) (fun c637 => ?_) (fun c637 => ?_)
                    · replace h := it_f c637 h
                      refine x_iconst (v := (1 : Int32)) hC dL_isAhead_88 (by decide) ?_
                      refine x_goto (t := 93) hC dL_isAhead_89 (by decide) ?_
                      refine x_istore (i := 5) (l' := [(5, .int (1 : Int32)), (0, va_rf r0), (1, .int i1), (2, .int v536), (3, .int v537), (4, .int v538), (6, .int v540)]) hC dL_isAhead_93 (⟨fun _ => c_rf r0, ⟨fun _ => rfl, ⟨fun _ => rfl, ⟨fun _ => rfl, ⟨fun _ => rfl, ⟨fun _ => rfl, ⟨fun _ => rfl, trivial⟩⟩⟩⟩⟩⟩⟩) (by decide) rfl ?_
                      refine x_iinc (i := 6) (v := (v540 + (1 : Int32))) (l' := [(6, .int (v540 + (1 : Int32))), (5, .int (1 : Int32)), (0, va_rf r0), (1, .int i1), (2, .int v536), (3, .int v537), (4, .int v538)]) hC dL_isAhead_95 6 rfl rfl (⟨fun _ => rfl, ⟨fun _ => c_rf r0, ⟨fun _ => rfl, ⟨fun _ => rfl, ⟨fun _ => rfl, ⟨fun _ => rfl, ⟨fun _ => rfl, trivial⟩⟩⟩⟩⟩⟩⟩) (by decide) rfl ?_
                      refine x_goto (t := 63) hC dL_isAhead_98 (by decide) ?_
                      refine x_sub (l' := [(0, va_rf r0), (1, .int i1), (2, .int v536), (3, .int v537), (4, .int v538), (5, .int (1 : Int32)), (6, .int (v540 + (1 : Int32)))]) [2, 3, 4, 5, 6, 1, 0] rfl ?_
                      have hb := bk_x h hg_63
                      exact hb
                    · replace h := it_t c637 h
                      refine x_aload_n (i := 0) hC dL_isAhead_78 rfl 0 rfl ?_
                      refine x_iload (i := 6) hC dL_isAhead_79 6 rfl ?_
                      replace h := dr_el h
                      obtain ⟨a638, ea639, ha640, h⟩ := h
                      replace h := bt_el h
                      obtain ⟨v641, S642, hb646, h⟩ | ⟨j643, S644, hb646, h⟩ := h
                      · refine x_callV hC (st := []) (mtr_X4_bestReviewer _ _ _ (v641, S642) hb646) ea639 ha640 kf_4 q_688 q_689 q_690 q_1 q_691 ⟨rfl, hy_X4_bestReviewer⟩ ⟨Nat.le_of_ble_eq_true rfl, Nat.le_of_ble_eq_true rfl⟩ ⟨Nat.le_of_ble_eq_true rfl, Nat.le_of_ble_eq_true rfl⟩ rfl (Nat.le_of_ble_eq_true rfl) dL_isAhead_81 (r_N ?_) r_NX
                        show PX Z 10 S642 0 0 84 [(0, va_rf r0), (1, .int i1), (2, .int v536), (3, .int v537), (4, .int v538), (5, .int v539), (6, .int v540)] [.int v641]
                        refine x_iconst (v := (-1 : Int32)) hC dL_isAhead_84 (by decide) ?_
                        refine x_icmp_eq (t := 92) hC dL_isAhead_85 (by decide) (fun c645 => ?_) (fun c645 => ?_)
                        · replace h := it_t c645 h
                          refine x_iconst (v := (0 : Int32)) hC dL_isAhead_92 (by decide) ?_
                          refine x_istore (i := 5) (l' := [(5, .int (0 : Int32)), (0, va_rf r0), (1, .int i1), (2, .int v536), (3, .int v537), (4, .int v538), (6, .int v540)]) hC dL_isAhead_93 (⟨fun _ => c_rf r0, ⟨fun _ => rfl, ⟨fun _ => rfl, ⟨fun _ => rfl, ⟨fun _ => rfl, ⟨fun _ => rfl, ⟨fun _ => rfl, trivial⟩⟩⟩⟩⟩⟩⟩) (by decide) rfl ?_
                          refine x_iinc (i := 6) (v := (v540 + (1 : Int32))) (l' := [(6, .int (v540 + (1 : Int32))), (5, .int (0 : Int32)), (0, va_rf r0), (1, .int i1), (2, .int v536), (3, .int v537), (4, .int v538)]) hC dL_isAhead_95 6 rfl rfl (⟨fun _ => rfl, ⟨fun _ => c_rf r0, ⟨fun _ => rfl, ⟨fun _ => rfl, ⟨fun _ => rfl, ⟨fun _ => rfl, ⟨fun _ => rfl, trivial⟩⟩⟩⟩⟩⟩⟩) (by decide) rfl ?_
                          refine x_goto (t := 63) hC dL_isAhead_98 (by decide) ?_
                          refine x_sub (l' := [(0, va_rf r0), (1, .int i1), (2, .int v536), (3, .int v537), (4, .int v538), (5, .int (0 : Int32)), (6, .int (v540 + (1 : Int32)))]) [2, 3, 4, 5, 6, 1, 0] rfl ?_
                          have hb := bk_x h hg_63
                          exact hb
                        · replace h := it_f c645 h
                          refine x_iconst (v := (1 : Int32)) hC dL_isAhead_88 (by decide) ?_
                          refine x_goto (t := 93) hC dL_isAhead_89 (by decide) ?_
                          refine x_istore (i := 5) (l' := [(5, .int (1 : Int32)), (0, va_rf r0), (1, .int i1), (2, .int v536), (3, .int v537), (4, .int v538), (6, .int v540)]) hC dL_isAhead_93 (⟨fun _ => c_rf r0, ⟨fun _ => rfl, ⟨fun _ => rfl, ⟨fun _ => rfl, ⟨fun _ => rfl, ⟨fun _ => rfl, ⟨fun _ => rfl, trivial⟩⟩⟩⟩⟩⟩⟩) (by decide) rfl ?_
                          refine x_iinc (i := 6) (v := (v540 + (1 : Int32))) (l' := [(6, .int (v540 + (1 : Int32))), (5, .int (1 : Int32)), (0, va_rf r0), (1, .int i1), (2, .int v536), (3, .int v537), (4, .int v538)]) hC dL_isAhead_95 6 rfl rfl (⟨fun _ => rfl, ⟨fun _ => c_rf r0, ⟨fun _ => rfl, ⟨fun _ => rfl, ⟨fun _ => rfl, ⟨fun _ => rfl, ⟨fun _ => rfl, trivial⟩⟩⟩⟩⟩⟩⟩) (by decide) rfl ?_
                          refine x_goto (t := 63) hC dL_isAhead_98 (by decide) ?_
                          refine x_sub (l' := [(0, va_rf r0), (1, .int i1), (2, .int v536), (3, .int v537), (4, .int v538), (5, .int (1 : Int32)), (6, .int (v540 + (1 : Int32)))]) [2, 3, 4, 5, 6, 1, 0] rfl ?_
                          have hb := bk_x h hg_63
                          exact hb
                      · replace h := ir_x h hg_63; exact z_no hyr (Option.some.inj h)
                · replace h := ir_x h hg_63; exact z_no hyr (Option.some.inj h)
              · replace h := it_f c535 h
                refine x_iload_n (i := 3) hC dL_isAhead_36 rfl 0 rfl ?_
                refine x_iconst (v := (-1 : Int32)) hC dL_isAhead_37 (by decide) ?_
                refine x_icmp_eq (t := 50) hC dL_isAhead_38 (by decide) (fun c648 => ?_) (fun c648 => ?_)
                · replace h := it_t c648 h
                  refine x_iconst (v := (1 : Int32)) hC dL_isAhead_50 (by decide) ?_
                  refine x_goto (t := 55) hC dL_isAhead_51 (by decide) ?_
                  refine x_istore (i := 4) (l' := [(4, .int (1 : Int32)), (3, .int v11), (2, .int v4), (0, va_rf r0), (1, .int i1)]) hC dL_isAhead_55 (⟨fun _ => rfl, ⟨fun _ => rfl, ⟨fun _ => c_rf r0, ⟨fun _ => rfl, trivial⟩⟩⟩⟩) (by decide) rfl ?_
                  refine x_iconst (v := (0 : Int32)) hC dL_isAhead_57 (by decide) ?_
                  refine x_istore (i := 5) (l' := [(5, .int (0 : Int32)), (4, .int (1 : Int32)), (3, .int v11), (2, .int v4), (0, va_rf r0), (1, .int i1)]) hC dL_isAhead_58 (⟨fun _ => rfl, ⟨fun _ => rfl, ⟨fun _ => rfl, ⟨fun _ => c_rf r0, ⟨fun _ => rfl, trivial⟩⟩⟩⟩⟩) (by decide) rfl ?_
                  refine x_iconst (v := (0 : Int32)) hC dL_isAhead_60 (by decide) ?_
                  refine x_istore (i := 6) (l' := [(6, .int (0 : Int32)), (5, .int (0 : Int32)), (4, .int (1 : Int32)), (3, .int v11), (2, .int v4), (0, va_rf r0), (1, .int i1)]) hC dL_isAhead_61 (⟨fun _ => rfl, ⟨fun _ => rfl, ⟨fun _ => rfl, ⟨fun _ => rfl, ⟨fun _ => c_rf r0, ⟨fun _ => rfl, trivial⟩⟩⟩⟩⟩⟩) (by decide) rfl ?_
                  refine x_sub (l' := [(0, va_rf r0), (1, .int i1), (2, .int v4), (3, .int v11), (4, .int (1 : Int32)), (5, .int (0 : Int32)), (6, .int (0 : Int32))]) [5, 6, 4, 3, 2, 1, 0] rfl ?_
                  refine lp_sim (P := fun (t : (Int32 × Int32 × Int32 × Int32 × Int32 × PH)) => PX Z 10 t.2.2.2.2.2 0 0 63 [(0, va_rf r0), (1, .int i1), (2, .int t.1), (3, .int t.2.1), (4, .int t.2.2.1), (5, .int t.2.2.2.1), (6, .int t.2.2.2.2.1)] []) (G := fun r => r = y) ?_ h rfl
                  clear h
                  intro t x_63 h hg_63
                  obtain ⟨v649, v650, v651, v652, v653, S654⟩ := t
                  show PX Z 10 S654 0 0 63 [(0, va_rf r0), (1, .int i1), (2, .int v649), (3, .int v650), (4, .int v651), (5, .int v652), (6, .int v653)] []
                  unfold st_L_isAhead_63 at h
                  refine x_iload (i := 6) hC dL_isAhead_63 6 rfl ?_
                  refine x_aload_n (i := 0) hC dL_isAhead_65 rfl 0 rfl ?_
                  refine x_iconst (v := (0 : Int32)) hC dL_isAhead_66 (by decide) ?_
                  replace h := dr_el h
                  obtain ⟨a655, ea656, ha657, h⟩ := h
                  replace h := bt_el h
                  obtain ⟨v658, S659, hb760, h⟩ | ⟨j660, S661, hb760, h⟩ := h
                  · refine x_callV hC (st := [.int v653]) (mtr_X4_count _ _ _ (v658, S659) hb760) ea656 ha657 kf_4 q_406 q_407 q_408 q_1 q_409 ⟨rfl, hy_X4_count⟩ ⟨Nat.le_of_ble_eq_true rfl, Nat.le_of_ble_eq_true rfl⟩ ⟨Nat.le_of_ble_eq_true rfl, Nat.le_of_ble_eq_true rfl⟩ rfl (Nat.le_of_ble_eq_true rfl) dL_isAhead_67 (r_N ?_) r_NX
                    show PX Z 10 S659 0 0 70 [(0, va_rf r0), (1, .int i1), (2, .int v649), (3, .int v650), (4, .int v651), (5, .int v652), (6, .int v653)] [.int v658, .int v653]
                    refine x_icmp_ge (t := 101) hC dL_isAhead_70 (by decide) (fun c662 => ?_) (fun c662 => ?_)
                    · replace h := it_t c662 h
                      replace h := ir_x h hg_63
                      refine x_iload (i := 4) hC dL_isAhead_101 4 rfl ?_
                      refine x_if_eq (t := 124) hC dL_isAhead_103 (by decide) (fun c663 => ?_) (fun c663 => ?_)
                      · replace h := it_t c663 h
                        refine x_iconst (v := (0 : Int32)) hC dL_isAhead_124 (by decide) ?_
                        refine x_istore (i := 4) (l' := [(4, .int (0 : Int32)), (0, va_rf r0), (1, .int i1), (2, .int v649), (3, .int v650), (5, .int v652), (6, .int v653)]) hC dL_isAhead_125 (⟨fun _ => c_rf r0, ⟨fun _ => rfl, ⟨fun _ => rfl, ⟨fun _ => rfl, ⟨fun _ => rfl, ⟨fun _ => rfl, ⟨fun _ => rfl, trivial⟩⟩⟩⟩⟩⟩⟩) (by decide) rfl ?_
                        refine x_iconst (v := (0 : Int32)) hC dL_isAhead_127 (by decide) ?_
                        refine x_istore (i := 6) (l' := [(6, .int (0 : Int32)), (4, .int (0 : Int32)), (0, va_rf r0), (1, .int i1), (2, .int v649), (3, .int v650), (5, .int v652)]) hC dL_isAhead_128 (⟨fun _ => rfl, ⟨fun _ => c_rf r0, ⟨fun _ => rfl, ⟨fun _ => rfl, ⟨fun _ => rfl, ⟨fun _ => rfl, ⟨fun _ => rfl, trivial⟩⟩⟩⟩⟩⟩⟩) (by decide) rfl ?_
                        refine x_sub (l' := [(0, va_rf r0), (1, .int i1), (2, .int v649), (3, .int v650), (4, .int (0 : Int32)), (6, .int (0 : Int32))]) [2, 3, 4, 5, 1, 0] rfl ?_
                        refine lp_sim (P := fun (t : (Int32 × Int32 × Int32 × Int32 × PH)) => PX Z 10 t.2.2.2.2 0 0 130 [(0, va_rf r0), (1, .int i1), (2, .int t.1), (3, .int t.2.1), (4, .int t.2.2.1), (6, .int t.2.2.2.1)] []) (G := fun r => r = y) ?_ h rfl
                        clear h
                        intro t x_130 h hg_130
                        obtain ⟨v664, v665, v666, v667, S668⟩ := t
                        show PX Z 10 S668 0 0 130 [(0, va_rf r0), (1, .int i1), (2, .int v664), (3, .int v665), (4, .int v666), (6, .int v667)] []
                        have J_328 : ∀ (v117 : Int32) (v118 : Int32) (v119 : Int32) (v120 : Int32) (v121 : Int32) (S122 : PH), j_L_isAhead_328 r0 i1 v117 v118 v119 v120 v121 S122 = some x_130 → PX Z 10 S122 0 0 328 [(0, va_rf r0), (1, .int i1), (2, .int v117), (3, .int v118), (6, .int v119), (7, .int v120), (9, .int v121)] [] := by
                          intro v117 v118 v119 v120 v121 S122 h
                          unfold j_L_isAhead_328 at h
                          refine x_iload (i := 7) hC dL_isAhead_328 5 rfl ?_
                          refine x_iconst (v := (5 : Int32)) hC dL_isAhead_330 (by decide) ?_
                          refine x_icmp_lt (t := 339) hC dL_isAhead_331 (by decide) (fun c123 => ?_) (fun c123 => ?_)
                          · replace h := it_t c123 h
                            refine x_iconst (v := (1 : Int32)) hC dL_isAhead_339 (by decide) ?_
                            refine x_goto (t := 366) hC dL_isAhead_340 (by decide) ?_
                            refine x_istore (i := 4) (l' := [(4, .int (1 : Int32)), (0, va_rf r0), (1, .int i1), (2, .int v117), (3, .int v118), (6, .int v119), (7, .int v120), (9, .int v121)]) hC dL_isAhead_366 (⟨fun _ => c_rf r0, ⟨fun _ => rfl, ⟨fun _ => rfl, ⟨fun _ => rfl, ⟨fun _ => rfl, ⟨fun _ => rfl, ⟨fun _ => rfl, trivial⟩⟩⟩⟩⟩⟩⟩) (by decide) rfl ?_
                            refine x_iinc (i := 6) (v := (v119 + (1 : Int32))) (l' := [(6, .int (v119 + (1 : Int32))), (4, .int (1 : Int32)), (0, va_rf r0), (1, .int i1), (2, .int v117), (3, .int v118), (7, .int v120), (9, .int v121)]) hC dL_isAhead_368 5 rfl rfl (⟨fun _ => rfl, ⟨fun _ => c_rf r0, ⟨fun _ => rfl, ⟨fun _ => rfl, ⟨fun _ => rfl, ⟨fun _ => rfl, ⟨fun _ => rfl, ⟨fun _ => rfl, trivial⟩⟩⟩⟩⟩⟩⟩⟩) (by decide) rfl ?_
                            refine x_goto (t := 130) hC dL_isAhead_371 (by decide) ?_
                            refine x_sub (l' := [(0, va_rf r0), (1, .int i1), (2, .int v117), (3, .int v118), (4, .int (1 : Int32)), (6, .int (v119 + (1 : Int32)))]) [2, 3, 4, 5, 1, 0] rfl ?_
                            have hb := bk_x h hg_130
                            exact hb
                          · replace h := it_f c123 h
                            refine x_iload (i := 9) hC dL_isAhead_334 6 rfl ?_
                            refine x_if_ne (t := 343) hC dL_isAhead_336 (by decide) (fun c124 => ?_) (fun c124 => ?_)
                            · replace h := it_f c124 h
                              refine x_iconst (v := (0 : Int32)) hC dL_isAhead_343 (by decide) ?_
                              refine x_goto (t := 366) hC dL_isAhead_344 (by decide) ?_
                              refine x_istore (i := 4) (l' := [(4, .int (0 : Int32)), (0, va_rf r0), (1, .int i1), (2, .int v117), (3, .int v118), (6, .int v119), (7, .int v120), (9, .int v121)]) hC dL_isAhead_366 (⟨fun _ => c_rf r0, ⟨fun _ => rfl, ⟨fun _ => rfl, ⟨fun _ => rfl, ⟨fun _ => rfl, ⟨fun _ => rfl, ⟨fun _ => rfl, trivial⟩⟩⟩⟩⟩⟩⟩) (by decide) rfl ?_
                              refine x_iinc (i := 6) (v := (v119 + (1 : Int32))) (l' := [(6, .int (v119 + (1 : Int32))), (4, .int (0 : Int32)), (0, va_rf r0), (1, .int i1), (2, .int v117), (3, .int v118), (7, .int v120), (9, .int v121)]) hC dL_isAhead_368 5 rfl rfl (⟨fun _ => rfl, ⟨fun _ => c_rf r0, ⟨fun _ => rfl, ⟨fun _ => rfl, ⟨fun _ => rfl, ⟨fun _ => rfl, ⟨fun _ => rfl, ⟨fun _ => rfl, trivial⟩⟩⟩⟩⟩⟩⟩⟩) (by decide) rfl ?_
                              refine x_goto (t := 130) hC dL_isAhead_371 (by decide) ?_
                              refine x_sub (l' := [(0, va_rf r0), (1, .int i1), (2, .int v117), (3, .int v118), (4, .int (0 : Int32)), (6, .int (v119 + (1 : Int32)))]) [2, 3, 4, 5, 1, 0] rfl ?_
                              have hb := bk_x h hg_130
                              exact hb
                            · replace h := it_t c124 h
                              refine x_iconst (v := (1 : Int32)) hC dL_isAhead_339 (by decide) ?_
                              refine x_goto (t := 366) hC dL_isAhead_340 (by decide) ?_
                              refine x_istore (i := 4) (l' := [(4, .int (1 : Int32)), (0, va_rf r0), (1, .int i1), (2, .int v117), (3, .int v118), (6, .int v119), (7, .int v120), (9, .int v121)]) hC dL_isAhead_366 (⟨fun _ => c_rf r0, ⟨fun _ => rfl, ⟨fun _ => rfl, ⟨fun _ => rfl, ⟨fun _ => rfl, ⟨fun _ => rfl, ⟨fun _ => rfl, trivial⟩⟩⟩⟩⟩⟩⟩) (by decide) rfl ?_
                              refine x_iinc (i := 6) (v := (v119 + (1 : Int32))) (l' := [(6, .int (v119 + (1 : Int32))), (4, .int (1 : Int32)), (0, va_rf r0), (1, .int i1), (2, .int v117), (3, .int v118), (7, .int v120), (9, .int v121)]) hC dL_isAhead_368 5 rfl rfl (⟨fun _ => rfl, ⟨fun _ => c_rf r0, ⟨fun _ => rfl, ⟨fun _ => rfl, ⟨fun _ => rfl, ⟨fun _ => rfl, ⟨fun _ => rfl, ⟨fun _ => rfl, trivial⟩⟩⟩⟩⟩⟩⟩⟩) (by decide) rfl ?_
                              refine x_goto (t := 130) hC dL_isAhead_371 (by decide) ?_
                              refine x_sub (l' := [(0, va_rf r0), (1, .int i1), (2, .int v117), (3, .int v118), (4, .int (1 : Int32)), (6, .int (v119 + (1 : Int32)))]) [2, 3, 4, 5, 1, 0] rfl ?_
                              have hb := bk_x h hg_130
                              exact hb
                        have J_314 : ∀ (v107 : Int32) (v108 : Int32) (v109 : Int32) (v110 : Int32) (v111 : Int32) (v112 : Int32) (v113 : Int32) (S114 : PH), j_L_isAhead_314 r0 i1 v107 v108 v109 v110 v111 v112 v113 S114 = some x_130 → PX Z 10 S114 0 0 314 [(0, va_rf r0), (1, .int i1), (2, .int v107), (3, .int v108), (6, .int v109), (7, .int v110), (9, .int v111)] [.int v113, .int v112] := by
                          intro v107 v108 v109 v110 v111 v112 v113 S114 h
                          unfold j_L_isAhead_314 at h
                          refine x_icmp_ne (t := 343) hC dL_isAhead_314 (by decide) (fun c115 => ?_) (fun c115 => ?_)
                          · replace h := it_f c115 h
                            refine x_iconst (v := (0 : Int32)) hC dL_isAhead_343 (by decide) ?_
                            refine x_goto (t := 366) hC dL_isAhead_344 (by decide) ?_
                            refine x_istore (i := 4) (l' := [(4, .int (0 : Int32)), (0, va_rf r0), (1, .int i1), (2, .int v107), (3, .int v108), (6, .int v109), (7, .int v110), (9, .int v111)]) hC dL_isAhead_366 (⟨fun _ => c_rf r0, ⟨fun _ => rfl, ⟨fun _ => rfl, ⟨fun _ => rfl, ⟨fun _ => rfl, ⟨fun _ => rfl, ⟨fun _ => rfl, trivial⟩⟩⟩⟩⟩⟩⟩) (by decide) rfl ?_
                            refine x_iinc (i := 6) (v := (v109 + (1 : Int32))) (l' := [(6, .int (v109 + (1 : Int32))), (4, .int (0 : Int32)), (0, va_rf r0), (1, .int i1), (2, .int v107), (3, .int v108), (7, .int v110), (9, .int v111)]) hC dL_isAhead_368 5 rfl rfl (⟨fun _ => rfl, ⟨fun _ => c_rf r0, ⟨fun _ => rfl, ⟨fun _ => rfl, ⟨fun _ => rfl, ⟨fun _ => rfl, ⟨fun _ => rfl, ⟨fun _ => rfl, trivial⟩⟩⟩⟩⟩⟩⟩⟩) (by decide) rfl ?_
                            refine x_goto (t := 130) hC dL_isAhead_371 (by decide) ?_
                            refine x_sub (l' := [(0, va_rf r0), (1, .int i1), (2, .int v107), (3, .int v108), (4, .int (0 : Int32)), (6, .int (v109 + (1 : Int32)))]) [2, 3, 4, 5, 1, 0] rfl ?_
                            have hb := bk_x h hg_130
                            exact hb
                          · replace h := it_t c115 h
                            refine x_iload (i := 7) hC dL_isAhead_317 5 rfl ?_
                            refine x_iconst (v := (4 : Int32)) hC dL_isAhead_319 (by decide) ?_
                            refine x_icmp_ne (t := 328) hC dL_isAhead_320 (by decide) (fun c116 => ?_) (fun c116 => ?_)
                            · replace h := it_f c116 h
                              exact J_328 _ _ _ _ _ _ h
                            · replace h := it_t c116 h
                              refine x_iload (i := 9) hC dL_isAhead_323 6 rfl ?_
                              refine x_if_eq (t := 343) hC dL_isAhead_325 (by decide) (fun c125 => ?_) (fun c125 => ?_)
                              · replace h := it_t c125 h
                                refine x_iconst (v := (0 : Int32)) hC dL_isAhead_343 (by decide) ?_
                                refine x_goto (t := 366) hC dL_isAhead_344 (by decide) ?_
                                refine x_istore (i := 4) (l' := [(4, .int (0 : Int32)), (0, va_rf r0), (1, .int i1), (2, .int v107), (3, .int v108), (6, .int v109), (7, .int v110), (9, .int v111)]) hC dL_isAhead_366 (⟨fun _ => c_rf r0, ⟨fun _ => rfl, ⟨fun _ => rfl, ⟨fun _ => rfl, ⟨fun _ => rfl, ⟨fun _ => rfl, ⟨fun _ => rfl, trivial⟩⟩⟩⟩⟩⟩⟩) (by decide) rfl ?_
                                refine x_iinc (i := 6) (v := (v109 + (1 : Int32))) (l' := [(6, .int (v109 + (1 : Int32))), (4, .int (0 : Int32)), (0, va_rf r0), (1, .int i1), (2, .int v107), (3, .int v108), (7, .int v110), (9, .int v111)]) hC dL_isAhead_368 5 rfl rfl (⟨fun _ => rfl, ⟨fun _ => c_rf r0, ⟨fun _ => rfl, ⟨fun _ => rfl, ⟨fun _ => rfl, ⟨fun _ => rfl, ⟨fun _ => rfl, ⟨fun _ => rfl, trivial⟩⟩⟩⟩⟩⟩⟩⟩) (by decide) rfl ?_
                                refine x_goto (t := 130) hC dL_isAhead_371 (by decide) ?_
                                refine x_sub (l' := [(0, va_rf r0), (1, .int i1), (2, .int v107), (3, .int v108), (4, .int (0 : Int32)), (6, .int (v109 + (1 : Int32)))]) [2, 3, 4, 5, 1, 0] rfl ?_
                                have hb := bk_x h hg_130
                                exact hb
                              · replace h := it_f c125 h
                                exact J_328 _ _ _ _ _ _ h
                        have J_271 : ∀ (v92 : Int32) (v93 : Int32) (v94 : Int32) (v95 : Int32) (v96 : Int32) (v97 : Int32) (S98 : PH), j_L_isAhead_271 r0 i1 v92 v93 v94 v95 v96 v97 S98 = some x_130 → PX Z 10 S98 0 0 271 [(0, va_rf r0), (1, .int i1), (2, .int v92), (3, .int v93), (6, .int v94), (7, .int v95), (9, .int v96)] [.int v97] := by
                          intro v92 v93 v94 v95 v96 v97 S98 h
                          unfold j_L_isAhead_271 at h
                          refine x_aload_n (i := 0) hC dL_isAhead_271 rfl 0 rfl ?_
                          refine x_iload_n (i := 1) hC dL_isAhead_272 rfl 1 rfl ?_
                          refine x_bipush (v := (8 : Int32)) hC dL_isAhead_273 (by decide) ?_
                          replace h := dr_el h
                          obtain ⟨a99, ea100, ha101, h⟩ := h
                          replace h := bt_el h
                          obtain ⟨v102, S103, hb155, h⟩ | ⟨j104, S105, hb155, h⟩ := h
                          · refine x_callV hC (st := [.int v97]) (mtr_X4_paperOf _ _ _ _ (v102, S103) hb155) ea100 ha101 kf_4 q_527 q_528 q_529 q_1 q_530 ⟨rfl, hy_X4_paperOf⟩ ⟨Nat.le_of_ble_eq_true rfl, Nat.le_of_ble_eq_true rfl⟩ ⟨Nat.le_of_ble_eq_true rfl, Nat.le_of_ble_eq_true rfl⟩ rfl (Nat.le_of_ble_eq_true rfl) dL_isAhead_275 (r_N ?_) r_NX
                            show PX Z 10 S103 0 0 278 [(0, va_rf r0), (1, .int i1), (2, .int v92), (3, .int v93), (6, .int v94), (7, .int v95), (9, .int v96)] [.int v102, .int v97]
                            refine x_if_ne (t := 313) hC dL_isAhead_278 (by decide) (fun c106 => ?_) (fun c106 => ?_)
                            · replace h := it_f c106 h
                              refine x_iconst (v := (0 : Int32)) hC dL_isAhead_313 (by decide) ?_
                              exact J_314 _ _ _ _ _ _ _ _ h
                            · replace h := it_t c106 h
                              refine x_aload_n (i := 0) hC dL_isAhead_281 rfl 0 rfl ?_
                              refine x_iload (i := 6) hC dL_isAhead_282 4 rfl ?_
                              refine x_iload_n (i := 1) hC dL_isAhead_284 rfl 1 rfl ?_
                              replace h := dr_el h
                              obtain ⟨a126, ea127, ha128, h⟩ := h
                              replace h := bt_el h
                              obtain ⟨v129, S130, hb154, h⟩ | ⟨j131, S132, hb154, h⟩ := h
                              · refine x_callV hC (st := [.int v97]) (mtr_X4_score _ _ _ _ (v129, S130) hb154) ea127 ha128 kf_4 q_548 q_549 q_550 q_1 q_551 ⟨rfl, hy_X4_score⟩ ⟨Nat.le_of_ble_eq_true rfl, Nat.le_of_ble_eq_true rfl⟩ ⟨Nat.le_of_ble_eq_true rfl, Nat.le_of_ble_eq_true rfl⟩ rfl (Nat.le_of_ble_eq_true rfl) dL_isAhead_285 (r_N ?_) r_NX
                                show PX Z 10 S130 0 0 288 [(0, va_rf r0), (1, .int i1), (2, .int v92), (3, .int v93), (6, .int v94), (7, .int v95), (9, .int v96)] [.int v129, .int v97]
                                refine x_iconst (v := (-1 : Int32)) hC dL_isAhead_288 (by decide) ?_
                                refine x_icmp_ne (t := 313) hC dL_isAhead_289 (by decide) (fun c133 => ?_) (fun c133 => ?_)
                                · replace h := it_f c133 h
                                  refine x_iconst (v := (0 : Int32)) hC dL_isAhead_313 (by decide) ?_
                                  exact J_314 _ _ _ _ _ _ _ _ h
                                · replace h := it_t c133 h
                                  refine x_aload_n (i := 0) hC dL_isAhead_292 rfl 0 rfl ?_
                                  refine x_iload_n (i := 1) hC dL_isAhead_293 rfl 1 rfl ?_
                                  refine x_iconst (v := (2 : Int32)) hC dL_isAhead_294 (by decide) ?_
                                  replace h := dr_el h
                                  obtain ⟨a134, ea135, ha136, h⟩ := h
                                  replace h := bt_el h
                                  obtain ⟨v137, S138, hb153, h⟩ | ⟨j139, S140, hb153, h⟩ := h
                                  · refine x_callV hC (st := [.int v97]) (mtr_X4_paperOf _ _ _ _ (v137, S138) hb153) ea135 ha136 kf_4 q_527 q_528 q_529 q_1 q_530 ⟨rfl, hy_X4_paperOf⟩ ⟨Nat.le_of_ble_eq_true rfl, Nat.le_of_ble_eq_true rfl⟩ ⟨Nat.le_of_ble_eq_true rfl, Nat.le_of_ble_eq_true rfl⟩ rfl (Nat.le_of_ble_eq_true rfl) dL_isAhead_295 (r_N ?_) r_NX
                                    show PX Z 10 S138 0 0 298 [(0, va_rf r0), (1, .int i1), (2, .int v92), (3, .int v93), (6, .int v94), (7, .int v95), (9, .int v96)] [.int v137, .int v97]
                                    replace h := bd_el h
                                    obtain ⟨v141, S142, hb143, h⟩ := h
                                    refine x_callS hC (st := [.int v97]) (mt_L_bits _ _ _ hb143) q_656 q_657 q_0 q_658 hy_L_bits ⟨Nat.le_of_ble_eq_true rfl, Nat.le_of_ble_eq_true rfl⟩ ⟨Nat.le_of_ble_eq_true rfl, Nat.le_of_ble_eq_true rfl⟩ rfl (Nat.le_of_ble_eq_true rfl) dL_isAhead_298 (r_N ?_) r_NX
                                    show PX Z 10 S142 0 0 301 [(0, va_rf r0), (1, .int i1), (2, .int v92), (3, .int v93), (6, .int v94), (7, .int v95), (9, .int v96)] [.int v141, .int v97]
                                    refine x_aload_n (i := 0) hC dL_isAhead_301 rfl 0 rfl ?_
                                    refine x_iconst (v := (0 : Int32)) hC dL_isAhead_302 (by decide) ?_
                                    replace h := dr_el h
                                    obtain ⟨a144, ea145, ha146, h⟩ := h
                                    replace h := bt_el h
                                    obtain ⟨v147, S148, hb152, h⟩ | ⟨j149, S150, hb152, h⟩ := h
                                    · refine x_callV hC (st := [.int v141, .int v97]) (mtr_X4_setting _ _ _ (v147, S148) hb152) ea145 ha146 kf_4 q_552 q_553 q_554 q_1 q_555 ⟨rfl, hy_X4_setting⟩ ⟨Nat.le_of_ble_eq_true rfl, Nat.le_of_ble_eq_true rfl⟩ ⟨Nat.le_of_ble_eq_true rfl, Nat.le_of_ble_eq_true rfl⟩ rfl (Nat.le_of_ble_eq_true rfl) dL_isAhead_303 (r_N ?_) r_NX
                                      show PX Z 10 S148 0 0 306 [(0, va_rf r0), (1, .int i1), (2, .int v92), (3, .int v93), (6, .int v94), (7, .int v95), (9, .int v96)] [.int v147, .int v141, .int v97]
                                      refine x_icmp_ge (t := 313) hC dL_isAhead_306 (by decide) (fun c151 => ?_) (fun c151 => ?_)
                                      · replace h := it_t c151 h
                                        refine x_iconst (v := (0 : Int32)) hC dL_isAhead_313 (by decide) ?_
                                        exact J_314 _ _ _ _ _ _ _ _ h
                                      · replace h := it_f c151 h
                                        refine x_iconst (v := (1 : Int32)) hC dL_isAhead_309 (by decide) ?_
                                        refine x_goto (t := 314) hC dL_isAhead_310 (by decide) ?_
                                        exact J_314 _ _ _ _ _ _ _ _ h
                                    · replace h := ir_x h hg_130; exact z_no hyr (Option.some.inj h)
                                  · replace h := ir_x h hg_130; exact z_no hyr (Option.some.inj h)
                              · replace h := ir_x h hg_130; exact z_no hyr (Option.some.inj h)
                          · replace h := ir_x h hg_130; exact z_no hyr (Option.some.inj h)
                        have J_253 : ∀ (v80 : Int32) (v81 : Int32) (v82 : Int32) (v83 : Int32) (v84 : Int32) (v85 : Int32) (S86 : PH), j_L_isAhead_253 r0 i1 v80 v81 v82 v83 v84 v85 S86 = some x_130 → PX Z 10 S86 0 0 253 [(0, va_rf r0), (1, .int i1), (2, .int v80), (3, .int v81), (6, .int v82), (7, .int v83), (8, .int v84)] [.int v85] := by
                          intro v80 v81 v82 v83 v84 v85 S86 h
                          unfold j_L_isAhead_253 at h
                          refine x_istore (i := 9) (l' := [(9, .int v85), (0, va_rf r0), (1, .int i1), (2, .int v80), (3, .int v81), (6, .int v82), (7, .int v83), (8, .int v84)]) hC dL_isAhead_253 (⟨fun _ => c_rf r0, ⟨fun _ => rfl, ⟨fun _ => rfl, ⟨fun _ => rfl, ⟨fun _ => rfl, ⟨fun _ => rfl, ⟨fun _ => rfl, trivial⟩⟩⟩⟩⟩⟩⟩) (by decide) rfl ?_
                          refine x_iload (i := 7) hC dL_isAhead_255 6 rfl ?_
                          refine x_if_le (t := 347) hC dL_isAhead_257 (by decide) (fun c87 => ?_) (fun c87 => ?_)
                          · replace h := it_t c87 h
                            refine x_iload_n (i := 3) hC dL_isAhead_347 rfl 4 rfl ?_
                            refine x_if_lt (t := 365) hC dL_isAhead_348 (by decide) (fun c88 => ?_) (fun c88 => ?_)
                            · replace h := it_t c88 h
                              refine x_iconst (v := (0 : Int32)) hC dL_isAhead_365 (by decide) ?_
                              refine x_istore (i := 4) (l' := [(4, .int (0 : Int32)), (9, .int v85), (0, va_rf r0), (1, .int i1), (2, .int v80), (3, .int v81), (6, .int v82), (7, .int v83), (8, .int v84)]) hC dL_isAhead_366 (⟨fun _ => rfl, ⟨fun _ => c_rf r0, ⟨fun _ => rfl, ⟨fun _ => rfl, ⟨fun _ => rfl, ⟨fun _ => rfl, ⟨fun _ => rfl, ⟨fun _ => rfl, trivial⟩⟩⟩⟩⟩⟩⟩⟩) (by decide) rfl ?_
                              refine x_iinc (i := 6) (v := (v82 + (1 : Int32))) (l' := [(6, .int (v82 + (1 : Int32))), (4, .int (0 : Int32)), (9, .int v85), (0, va_rf r0), (1, .int i1), (2, .int v80), (3, .int v81), (7, .int v83), (8, .int v84)]) hC dL_isAhead_368 6 rfl rfl (⟨fun _ => rfl, ⟨fun _ => rfl, ⟨fun _ => c_rf r0, ⟨fun _ => rfl, ⟨fun _ => rfl, ⟨fun _ => rfl, ⟨fun _ => rfl, ⟨fun _ => rfl, ⟨fun _ => rfl, trivial⟩⟩⟩⟩⟩⟩⟩⟩⟩) (by decide) rfl ?_
                              refine x_goto (t := 130) hC dL_isAhead_371 (by decide) ?_
                              refine x_sub (l' := [(0, va_rf r0), (1, .int i1), (2, .int v80), (3, .int v81), (4, .int (0 : Int32)), (6, .int (v82 + (1 : Int32)))]) [3, 4, 5, 6, 1, 0] rfl ?_
                              have hb := bk_x h hg_130
                              exact hb
                            · replace h := it_f c88 h
                              refine x_iload (i := 8) hC dL_isAhead_351 7 rfl ?_
                              refine x_if_ne (t := 365) hC dL_isAhead_353 (by decide) (fun c89 => ?_) (fun c89 => ?_)
                              · replace h := it_f c89 h
                                refine x_iconst (v := (0 : Int32)) hC dL_isAhead_365 (by decide) ?_
                                refine x_istore (i := 4) (l' := [(4, .int (0 : Int32)), (9, .int v85), (0, va_rf r0), (1, .int i1), (2, .int v80), (3, .int v81), (6, .int v82), (7, .int v83), (8, .int v84)]) hC dL_isAhead_366 (⟨fun _ => rfl, ⟨fun _ => c_rf r0, ⟨fun _ => rfl, ⟨fun _ => rfl, ⟨fun _ => rfl, ⟨fun _ => rfl, ⟨fun _ => rfl, ⟨fun _ => rfl, trivial⟩⟩⟩⟩⟩⟩⟩⟩) (by decide) rfl ?_
                                refine x_iinc (i := 6) (v := (v82 + (1 : Int32))) (l' := [(6, .int (v82 + (1 : Int32))), (4, .int (0 : Int32)), (9, .int v85), (0, va_rf r0), (1, .int i1), (2, .int v80), (3, .int v81), (7, .int v83), (8, .int v84)]) hC dL_isAhead_368 6 rfl rfl (⟨fun _ => rfl, ⟨fun _ => rfl, ⟨fun _ => c_rf r0, ⟨fun _ => rfl, ⟨fun _ => rfl, ⟨fun _ => rfl, ⟨fun _ => rfl, ⟨fun _ => rfl, ⟨fun _ => rfl, trivial⟩⟩⟩⟩⟩⟩⟩⟩⟩) (by decide) rfl ?_
                                refine x_goto (t := 130) hC dL_isAhead_371 (by decide) ?_
                                refine x_sub (l' := [(0, va_rf r0), (1, .int i1), (2, .int v80), (3, .int v81), (4, .int (0 : Int32)), (6, .int (v82 + (1 : Int32)))]) [3, 4, 5, 6, 1, 0] rfl ?_
                                have hb := bk_x h hg_130
                                exact hb
                              · replace h := it_t c89 h
                                refine x_iload (i := 9) hC dL_isAhead_356 0 rfl ?_
                                refine x_if_ne (t := 365) hC dL_isAhead_358 (by decide) (fun c90 => ?_) (fun c90 => ?_)
                                · replace h := it_f c90 h
                                  refine x_iconst (v := (0 : Int32)) hC dL_isAhead_365 (by decide) ?_
                                  refine x_istore (i := 4) (l' := [(4, .int (0 : Int32)), (9, .int v85), (0, va_rf r0), (1, .int i1), (2, .int v80), (3, .int v81), (6, .int v82), (7, .int v83), (8, .int v84)]) hC dL_isAhead_366 (⟨fun _ => rfl, ⟨fun _ => c_rf r0, ⟨fun _ => rfl, ⟨fun _ => rfl, ⟨fun _ => rfl, ⟨fun _ => rfl, ⟨fun _ => rfl, ⟨fun _ => rfl, trivial⟩⟩⟩⟩⟩⟩⟩⟩) (by decide) rfl ?_
                                  refine x_iinc (i := 6) (v := (v82 + (1 : Int32))) (l' := [(6, .int (v82 + (1 : Int32))), (4, .int (0 : Int32)), (9, .int v85), (0, va_rf r0), (1, .int i1), (2, .int v80), (3, .int v81), (7, .int v83), (8, .int v84)]) hC dL_isAhead_368 6 rfl rfl (⟨fun _ => rfl, ⟨fun _ => rfl, ⟨fun _ => c_rf r0, ⟨fun _ => rfl, ⟨fun _ => rfl, ⟨fun _ => rfl, ⟨fun _ => rfl, ⟨fun _ => rfl, ⟨fun _ => rfl, trivial⟩⟩⟩⟩⟩⟩⟩⟩⟩) (by decide) rfl ?_
                                  refine x_goto (t := 130) hC dL_isAhead_371 (by decide) ?_
                                  refine x_sub (l' := [(0, va_rf r0), (1, .int i1), (2, .int v80), (3, .int v81), (4, .int (0 : Int32)), (6, .int (v82 + (1 : Int32)))]) [3, 4, 5, 6, 1, 0] rfl ?_
                                  have hb := bk_x h hg_130
                                  exact hb
                                · replace h := it_t c90 h
                                  refine x_iconst (v := (1 : Int32)) hC dL_isAhead_361 (by decide) ?_
                                  refine x_goto (t := 366) hC dL_isAhead_362 (by decide) ?_
                                  refine x_istore (i := 4) (l' := [(4, .int (1 : Int32)), (9, .int v85), (0, va_rf r0), (1, .int i1), (2, .int v80), (3, .int v81), (6, .int v82), (7, .int v83), (8, .int v84)]) hC dL_isAhead_366 (⟨fun _ => rfl, ⟨fun _ => c_rf r0, ⟨fun _ => rfl, ⟨fun _ => rfl, ⟨fun _ => rfl, ⟨fun _ => rfl, ⟨fun _ => rfl, ⟨fun _ => rfl, trivial⟩⟩⟩⟩⟩⟩⟩⟩) (by decide) rfl ?_
                                  refine x_iinc (i := 6) (v := (v82 + (1 : Int32))) (l' := [(6, .int (v82 + (1 : Int32))), (4, .int (1 : Int32)), (9, .int v85), (0, va_rf r0), (1, .int i1), (2, .int v80), (3, .int v81), (7, .int v83), (8, .int v84)]) hC dL_isAhead_368 6 rfl rfl (⟨fun _ => rfl, ⟨fun _ => rfl, ⟨fun _ => c_rf r0, ⟨fun _ => rfl, ⟨fun _ => rfl, ⟨fun _ => rfl, ⟨fun _ => rfl, ⟨fun _ => rfl, ⟨fun _ => rfl, trivial⟩⟩⟩⟩⟩⟩⟩⟩⟩) (by decide) rfl ?_
                                  refine x_goto (t := 130) hC dL_isAhead_371 (by decide) ?_
                                  refine x_sub (l' := [(0, va_rf r0), (1, .int i1), (2, .int v80), (3, .int v81), (4, .int (1 : Int32)), (6, .int (v82 + (1 : Int32)))]) [3, 4, 5, 6, 1, 0] rfl ?_
                                  have hb := bk_x h hg_130
                                  exact hb
                          · replace h := it_f c87 h
                            refine x_iload (i := 7) hC dL_isAhead_260 6 rfl ?_
                            refine x_iconst (v := (4 : Int32)) hC dL_isAhead_262 (by decide) ?_
                            refine x_icmp_lt (t := 270) hC dL_isAhead_263 (by decide) (fun c91 => ?_) (fun c91 => ?_)
                            · replace h := it_t c91 h
                              refine x_iconst (v := (0 : Int32)) hC dL_isAhead_270 (by decide) ?_
                              refine x_sub (l' := [(0, va_rf r0), (1, .int i1), (2, .int v80), (3, .int v81), (6, .int v82), (7, .int v83), (9, .int v85)]) [1, 2, 3, 4, 5, 6, 0] rfl ?_
                              exact J_271 _ _ _ _ _ _ _ h
                            · replace h := it_f c91 h
                              refine x_iconst (v := (1 : Int32)) hC dL_isAhead_266 (by decide) ?_
                              refine x_goto (t := 271) hC dL_isAhead_267 (by decide) ?_
                              refine x_sub (l' := [(0, va_rf r0), (1, .int i1), (2, .int v80), (3, .int v81), (6, .int v82), (7, .int v83), (9, .int v85)]) [1, 2, 3, 4, 5, 6, 0] rfl ?_
                              exact J_271 _ _ _ _ _ _ _ h
                        have J_230 : ∀ (v66 : Int32) (v67 : Int32) (v68 : Int32) (v69 : Int32) (v70 : Int32) (S71 : PH), j_L_isAhead_230 r0 i1 v66 v67 v68 v69 v70 S71 = some x_130 → PX Z 10 S71 0 0 230 [(0, va_rf r0), (1, .int i1), (2, .int v66), (3, .int v67), (6, .int v68), (7, .int v69)] [.int v70] := by
                          intro v66 v67 v68 v69 v70 S71 h
                          unfold j_L_isAhead_230 at h
                          refine x_istore (i := 8) (l' := [(8, .int v70), (0, va_rf r0), (1, .int i1), (2, .int v66), (3, .int v67), (6, .int v68), (7, .int v69)]) hC dL_isAhead_230 (⟨fun _ => c_rf r0, ⟨fun _ => rfl, ⟨fun _ => rfl, ⟨fun _ => rfl, ⟨fun _ => rfl, ⟨fun _ => rfl, trivial⟩⟩⟩⟩⟩⟩) (by decide) rfl ?_
                          refine x_aload_n (i := 0) hC dL_isAhead_232 rfl 1 rfl ?_
                          refine x_iload (i := 6) hC dL_isAhead_233 5 rfl ?_
                          refine x_bipush (v := (8 : Int32)) hC dL_isAhead_235 (by decide) ?_
                          replace h := dr_el h
                          obtain ⟨a72, ea73, ha74, h⟩ := h
                          replace h := bt_el h
                          obtain ⟨v75, S76, hb156, h⟩ | ⟨j77, S78, hb156, h⟩ := h
                          · refine x_callV hC (st := []) (mtr_X4_personOf _ _ _ _ (v75, S76) hb156) ea73 ha74 kf_4 q_506 q_507 q_508 q_1 q_509 ⟨rfl, hy_X4_personOf⟩ ⟨Nat.le_of_ble_eq_true rfl, Nat.le_of_ble_eq_true rfl⟩ ⟨Nat.le_of_ble_eq_true rfl, Nat.le_of_ble_eq_true rfl⟩ rfl (Nat.le_of_ble_eq_true rfl) dL_isAhead_237 (r_N ?_) r_NX
                            show PX Z 10 S76 0 0 240 [(8, .int v70), (0, va_rf r0), (1, .int i1), (2, .int v66), (3, .int v67), (6, .int v68), (7, .int v69)] [.int v75]
                            refine x_iload_n (i := 1) hC dL_isAhead_240 rfl 2 rfl ?_
                            refine x_ishr hC dL_isAhead_241 ?_
                            refine x_iconst (v := (1 : Int32)) hC dL_isAhead_242 (by decide) ?_
                            refine x_iand hC dL_isAhead_243 ?_
                            refine x_iconst (v := (1 : Int32)) hC dL_isAhead_244 (by decide) ?_
                            refine x_icmp_ne (t := 252) hC dL_isAhead_245 (by decide) (fun c79 => ?_) (fun c79 => ?_)
                            · replace h := it_f c79 h
                              refine x_iconst (v := (0 : Int32)) hC dL_isAhead_252 (by decide) ?_
                              refine x_sub (l' := [(0, va_rf r0), (1, .int i1), (2, .int v66), (3, .int v67), (6, .int v68), (7, .int v69), (8, .int v70)]) [1, 2, 3, 4, 5, 6, 0] rfl ?_
                              exact J_253 _ _ _ _ _ _ _ h
                            · replace h := it_t c79 h
                              refine x_iconst (v := (1 : Int32)) hC dL_isAhead_248 (by decide) ?_
                              refine x_goto (t := 253) hC dL_isAhead_249 (by decide) ?_
                              refine x_sub (l' := [(0, va_rf r0), (1, .int i1), (2, .int v66), (3, .int v67), (6, .int v68), (7, .int v69), (8, .int v70)]) [1, 2, 3, 4, 5, 6, 0] rfl ?_
                              exact J_253 _ _ _ _ _ _ _ h
                          · replace h := ir_x h hg_130; exact z_no hyr (Option.some.inj h)
                        unfold st_L_isAhead_130 at h
                        refine x_iload (i := 6) hC dL_isAhead_130 5 rfl ?_
                        refine x_bipush (v := (8 : Int32)) hC dL_isAhead_132 (by decide) ?_
                        refine x_icmp_ge (t := 374) hC dL_isAhead_134 (by decide) (fun c669 => ?_) (fun c669 => ?_)
                        · replace h := it_t c669 h
                          replace h := ir_x h hg_130
                          refine x_sub (l' := [(0, va_rf r0), (1, .int i1), (2, .int v664), (4, .int v666)]) [0, 1, 2, 4] rfl ?_
                          exact J_374 _ _ _ h
                        · replace h := it_f c669 h
                          refine x_iload (i := 4) hC dL_isAhead_137 4 rfl ?_
                          refine x_if_eq (t := 374) hC dL_isAhead_139 (by decide) (fun c670 => ?_) (fun c670 => ?_)
                          · replace h := it_t c670 h
                            replace h := ir_x h hg_130
                            refine x_sub (l' := [(0, va_rf r0), (1, .int i1), (2, .int v664), (4, .int v666)]) [0, 1, 2, 4] rfl ?_
                            exact J_374 _ _ _ h
                          · replace h := it_f c670 h
                            refine x_aload_n (i := 0) hC dL_isAhead_142 rfl 0 rfl ?_
                            refine x_iload (i := 6) hC dL_isAhead_143 5 rfl ?_
                            refine x_iload_n (i := 1) hC dL_isAhead_145 rfl 1 rfl ?_
                            replace h := dr_el h
                            obtain ⟨a671, ea672, ha673, h⟩ := h
                            replace h := bt_el h
                            obtain ⟨v674, S675, hb748, h⟩ | ⟨j676, S677, hb748, h⟩ := h
                            · refine x_callV hC (st := []) (mtr_X4_whyNot _ _ _ _ (v674, S675) hb748) ea672 ha673 kf_4 q_445 q_446 q_447 q_1 q_448 ⟨rfl, hy_X4_whyNot⟩ ⟨Nat.le_of_ble_eq_true rfl, Nat.le_of_ble_eq_true rfl⟩ ⟨Nat.le_of_ble_eq_true rfl, Nat.le_of_ble_eq_true rfl⟩ rfl (Nat.le_of_ble_eq_true rfl) dL_isAhead_146 (r_N ?_) r_NX
                              show PX Z 10 S675 0 0 149 [(0, va_rf r0), (1, .int i1), (2, .int v664), (3, .int v665), (4, .int v666), (6, .int v667)] [.int v674]
                              refine x_istore (i := 7) (l' := [(7, .int v674), (0, va_rf r0), (1, .int i1), (2, .int v664), (3, .int v665), (4, .int v666), (6, .int v667)]) hC dL_isAhead_149 (⟨fun _ => c_rf r0, ⟨fun _ => rfl, ⟨fun _ => rfl, ⟨fun _ => rfl, ⟨fun _ => rfl, ⟨fun _ => rfl, trivial⟩⟩⟩⟩⟩⟩) (by decide) rfl ?_
                              refine x_iload_n (i := 3) hC dL_isAhead_151 rfl 4 rfl ?_
                              refine x_if_lt (t := 229) hC dL_isAhead_152 (by decide) (fun c678 => ?_) (fun c678 => ?_)
                              · replace h := it_t c678 h
                                refine x_iconst (v := (0 : Int32)) hC dL_isAhead_229 (by decide) ?_
                                refine x_sub (l' := [(0, va_rf r0), (1, .int i1), (2, .int v664), (3, .int v665), (6, .int v667), (7, .int v674)]) [1, 2, 3, 4, 6, 0] rfl ?_
                                exact J_230 _ _ _ _ _ _ h
                              · replace h := it_f c678 h
                                refine x_aload_n (i := 0) hC dL_isAhead_155 rfl 1 rfl ?_
                                refine x_iload (i := 6) hC dL_isAhead_156 6 rfl ?_
                                refine x_iconst (v := (3 : Int32)) hC dL_isAhead_158 (by decide) ?_
                                replace h := dr_el h
                                obtain ⟨a679, ea680, ha681, h⟩ := h
                                replace h := bt_el h
                                obtain ⟨v682, S683, hb747, h⟩ | ⟨j684, S685, hb747, h⟩ := h
                                · refine x_callV hC (st := []) (mtr_X4_personOf _ _ _ _ (v682, S683) hb747) ea680 ha681 kf_4 q_506 q_507 q_508 q_1 q_509 ⟨rfl, hy_X4_personOf⟩ ⟨Nat.le_of_ble_eq_true rfl, Nat.le_of_ble_eq_true rfl⟩ ⟨Nat.le_of_ble_eq_true rfl, Nat.le_of_ble_eq_true rfl⟩ rfl (Nat.le_of_ble_eq_true rfl) dL_isAhead_159 (r_N ?_) r_NX
                                  show PX Z 10 S683 0 0 162 [(7, .int v674), (0, va_rf r0), (1, .int i1), (2, .int v664), (3, .int v665), (4, .int v666), (6, .int v667)] [.int v682]
                                  refine x_aload_n (i := 0) hC dL_isAhead_162 rfl 1 rfl ?_
                                  refine x_iload_n (i := 3) hC dL_isAhead_163 rfl 4 rfl ?_
                                  refine x_iconst (v := (3 : Int32)) hC dL_isAhead_164 (by decide) ?_
                                  replace h := dr_el h
                                  obtain ⟨a686, ea687, ha688, h⟩ := h
                                  replace h := bt_el h
                                  obtain ⟨v689, S690, hb746, h⟩ | ⟨j691, S692, hb746, h⟩ := h
                                  · refine x_callV hC (st := [.int v682]) (mtr_X4_personOf _ _ _ _ (v689, S690) hb746) ea687 ha688 kf_4 q_506 q_507 q_508 q_1 q_509 ⟨rfl, hy_X4_personOf⟩ ⟨Nat.le_of_ble_eq_true rfl, Nat.le_of_ble_eq_true rfl⟩ ⟨Nat.le_of_ble_eq_true rfl, Nat.le_of_ble_eq_true rfl⟩ rfl (Nat.le_of_ble_eq_true rfl) dL_isAhead_165 (r_N ?_) r_NX
                                    show PX Z 10 S690 0 0 168 [(7, .int v674), (0, va_rf r0), (1, .int i1), (2, .int v664), (3, .int v665), (4, .int v666), (6, .int v667)] [.int v689, .int v682]
                                    refine x_icmp_lt (t := 225) hC dL_isAhead_168 (by decide) (fun c693 => ?_) (fun c693 => ?_)
                                    · replace h := it_t c693 h
                                      refine x_iconst (v := (1 : Int32)) hC dL_isAhead_225 (by decide) ?_
                                      refine x_goto (t := 230) hC dL_isAhead_226 (by decide) ?_
                                      refine x_sub (l' := [(0, va_rf r0), (1, .int i1), (2, .int v664), (3, .int v665), (6, .int v667), (7, .int v674)]) [1, 2, 3, 4, 6, 0] rfl ?_
                                      exact J_230 _ _ _ _ _ _ h
                                    · replace h := it_f c693 h
                                      refine x_aload_n (i := 0) hC dL_isAhead_171 rfl 1 rfl ?_
                                      refine x_iload (i := 6) hC dL_isAhead_172 6 rfl ?_
                                      refine x_iconst (v := (3 : Int32)) hC dL_isAhead_174 (by decide) ?_
                                      replace h := dr_el h
                                      obtain ⟨a694, ea695, ha696, h⟩ := h
                                      replace h := bt_el h
                                      obtain ⟨v697, S698, hb745, h⟩ | ⟨j699, S700, hb745, h⟩ := h
                                      · refine x_callV hC (st := []) (mtr_X4_personOf _ _ _ _ (v697, S698) hb745) ea695 ha696 kf_4 q_506 q_507 q_508 q_1 q_509 ⟨rfl, hy_X4_personOf⟩ ⟨Nat.le_of_ble_eq_true rfl, Nat.le_of_ble_eq_true rfl⟩ ⟨Nat.le_of_ble_eq_true rfl, Nat.le_of_ble_eq_true rfl⟩ rfl (Nat.le_of_ble_eq_true rfl) dL_isAhead_175 (r_N ?_) r_NX
                                        show PX Z 10 S698 0 0 178 [(7, .int v674), (0, va_rf r0), (1, .int i1), (2, .int v664), (3, .int v665), (4, .int v666), (6, .int v667)] [.int v697]
                                        refine x_aload_n (i := 0) hC dL_isAhead_178 rfl 1 rfl ?_
                                        refine x_iload_n (i := 3) hC dL_isAhead_179 rfl 4 rfl ?_
                                        refine x_iconst (v := (3 : Int32)) hC dL_isAhead_180 (by decide) ?_
                                        replace h := dr_el h
                                        obtain ⟨a701, ea702, ha703, h⟩ := h
                                        replace h := bt_el h
                                        obtain ⟨v704, S705, hb744, h⟩ | ⟨j706, S707, hb744, h⟩ := h
                                        · refine x_callV hC (st := [.int v697]) (mtr_X4_personOf _ _ _ _ (v704, S705) hb744) ea702 ha703 kf_4 q_506 q_507 q_508 q_1 q_509 ⟨rfl, hy_X4_personOf⟩ ⟨Nat.le_of_ble_eq_true rfl, Nat.le_of_ble_eq_true rfl⟩ ⟨Nat.le_of_ble_eq_true rfl, Nat.le_of_ble_eq_true rfl⟩ rfl (Nat.le_of_ble_eq_true rfl) dL_isAhead_181 (r_N ?_) r_NX
                                          show PX Z 10 S705 0 0 184 [(7, .int v674), (0, va_rf r0), (1, .int i1), (2, .int v664), (3, .int v665), (4, .int v666), (6, .int v667)] [.int v704, .int v697]
                                          refine x_icmp_ne (t := 229) hC dL_isAhead_184 (by decide) (fun c708 => ?_) (fun c708 => ?_)
                                          · replace h := it_f c708 h
                                            refine x_iconst (v := (0 : Int32)) hC dL_isAhead_229 (by decide) ?_
                                            refine x_sub (l' := [(0, va_rf r0), (1, .int i1), (2, .int v664), (3, .int v665), (6, .int v667), (7, .int v674)]) [1, 2, 3, 4, 6, 0] rfl ?_
                                            exact J_230 _ _ _ _ _ _ h
                                          · replace h := it_t c708 h
                                            refine x_aload_n (i := 0) hC dL_isAhead_187 rfl 1 rfl ?_
                                            refine x_iload (i := 6) hC dL_isAhead_188 6 rfl ?_
                                            refine x_iconst (v := (0 : Int32)) hC dL_isAhead_190 (by decide) ?_
                                            replace h := dr_el h
                                            obtain ⟨a709, ea710, ha711, h⟩ := h
                                            replace h := bt_el h
                                            obtain ⟨v712, S713, hb743, h⟩ | ⟨j714, S715, hb743, h⟩ := h
                                            · refine x_callV hC (st := []) (mtr_X4_personOf _ _ _ _ (v712, S713) hb743) ea710 ha711 kf_4 q_506 q_507 q_508 q_1 q_509 ⟨rfl, hy_X4_personOf⟩ ⟨Nat.le_of_ble_eq_true rfl, Nat.le_of_ble_eq_true rfl⟩ ⟨Nat.le_of_ble_eq_true rfl, Nat.le_of_ble_eq_true rfl⟩ rfl (Nat.le_of_ble_eq_true rfl) dL_isAhead_191 (r_N ?_) r_NX
                                              show PX Z 10 S713 0 0 194 [(7, .int v674), (0, va_rf r0), (1, .int i1), (2, .int v664), (3, .int v665), (4, .int v666), (6, .int v667)] [.int v712]
                                              refine x_aload_n (i := 0) hC dL_isAhead_194 rfl 1 rfl ?_
                                              refine x_iload_n (i := 3) hC dL_isAhead_195 rfl 4 rfl ?_
                                              refine x_iconst (v := (0 : Int32)) hC dL_isAhead_196 (by decide) ?_
                                              replace h := dr_el h
                                              obtain ⟨a716, ea717, ha718, h⟩ := h
                                              replace h := bt_el h
                                              obtain ⟨v719, S720, hb742, h⟩ | ⟨j721, S722, hb742, h⟩ := h
                                              · refine x_callV hC (st := [.int v712]) (mtr_X4_personOf _ _ _ _ (v719, S720) hb742) ea717 ha718 kf_4 q_506 q_507 q_508 q_1 q_509 ⟨rfl, hy_X4_personOf⟩ ⟨Nat.le_of_ble_eq_true rfl, Nat.le_of_ble_eq_true rfl⟩ ⟨Nat.le_of_ble_eq_true rfl, Nat.le_of_ble_eq_true rfl⟩ rfl (Nat.le_of_ble_eq_true rfl) dL_isAhead_197 (r_N ?_) r_NX
                                                show PX Z 10 S720 0 0 200 [(7, .int v674), (0, va_rf r0), (1, .int i1), (2, .int v664), (3, .int v665), (4, .int v666), (6, .int v667)] [.int v719, .int v712]
                                                refine x_icmp_gt (t := 225) hC dL_isAhead_200 (by decide) (fun c723 => ?_) (fun c723 => ?_)
                                                · replace h := it_t c723 h
                                                  refine x_iconst (v := (1 : Int32)) hC dL_isAhead_225 (by decide) ?_
                                                  refine x_goto (t := 230) hC dL_isAhead_226 (by decide) ?_
                                                  refine x_sub (l' := [(0, va_rf r0), (1, .int i1), (2, .int v664), (3, .int v665), (6, .int v667), (7, .int v674)]) [1, 2, 3, 4, 6, 0] rfl ?_
                                                  exact J_230 _ _ _ _ _ _ h
                                                · replace h := it_f c723 h
                                                  refine x_aload_n (i := 0) hC dL_isAhead_203 rfl 1 rfl ?_
                                                  refine x_iload (i := 6) hC dL_isAhead_204 6 rfl ?_
                                                  refine x_iconst (v := (0 : Int32)) hC dL_isAhead_206 (by decide) ?_
                                                  replace h := dr_el h
                                                  obtain ⟨a724, ea725, ha726, h⟩ := h
                                                  replace h := bt_el h
                                                  obtain ⟨v727, S728, hb741, h⟩ | ⟨j729, S730, hb741, h⟩ := h
                                                  · refine x_callV hC (st := []) (mtr_X4_personOf _ _ _ _ (v727, S728) hb741) ea725 ha726 kf_4 q_506 q_507 q_508 q_1 q_509 ⟨rfl, hy_X4_personOf⟩ ⟨Nat.le_of_ble_eq_true rfl, Nat.le_of_ble_eq_true rfl⟩ ⟨Nat.le_of_ble_eq_true rfl, Nat.le_of_ble_eq_true rfl⟩ rfl (Nat.le_of_ble_eq_true rfl) dL_isAhead_207 (r_N ?_) r_NX
                                                    show PX Z 10 S728 0 0 210 [(7, .int v674), (0, va_rf r0), (1, .int i1), (2, .int v664), (3, .int v665), (4, .int v666), (6, .int v667)] [.int v727]
                                                    refine x_aload_n (i := 0) hC dL_isAhead_210 rfl 1 rfl ?_
                                                    refine x_iload_n (i := 3) hC dL_isAhead_211 rfl 4 rfl ?_
                                                    refine x_iconst (v := (0 : Int32)) hC dL_isAhead_212 (by decide) ?_
                                                    replace h := dr_el h
                                                    obtain ⟨a731, ea732, ha733, h⟩ := h
                                                    replace h := bt_el h
                                                    obtain ⟨v734, S735, hb740, h⟩ | ⟨j736, S737, hb740, h⟩ := h
                                                    · refine x_callV hC (st := [.int v727]) (mtr_X4_personOf _ _ _ _ (v734, S735) hb740) ea732 ha733 kf_4 q_506 q_507 q_508 q_1 q_509 ⟨rfl, hy_X4_personOf⟩ ⟨Nat.le_of_ble_eq_true rfl, Nat.le_of_ble_eq_true rfl⟩ ⟨Nat.le_of_ble_eq_true rfl, Nat.le_of_ble_eq_true rfl⟩ rfl (Nat.le_of_ble_eq_true rfl) dL_isAhead_213 (r_N ?_) r_NX
                                                      show PX Z 10 S735 0 0 216 [(7, .int v674), (0, va_rf r0), (1, .int i1), (2, .int v664), (3, .int v665), (4, .int v666), (6, .int v667)] [.int v734, .int v727]
                                                      refine x_icmp_ne (t := 229) hC dL_isAhead_216 (by decide) (fun c738 => ?_) (fun c738 => ?_)
                                                      · replace h := it_f c738 h
                                                        refine x_iconst (v := (0 : Int32)) hC dL_isAhead_229 (by decide) ?_
                                                        refine x_sub (l' := [(0, va_rf r0), (1, .int i1), (2, .int v664), (3, .int v665), (6, .int v667), (7, .int v674)]) [1, 2, 3, 4, 6, 0] rfl ?_
                                                        exact J_230 _ _ _ _ _ _ h
                                                      · replace h := it_t c738 h
                                                        refine x_iload (i := 6) hC dL_isAhead_219 6 rfl ?_
                                                        refine x_iload_n (i := 3) hC dL_isAhead_221 rfl 4 rfl ?_
                                                        refine x_icmp_ge (t := 229) hC dL_isAhead_222 (by decide) (fun c739 => ?_) (fun c739 => ?_)
                                                        · replace h := it_t c739 h
                                                          refine x_iconst (v := (0 : Int32)) hC dL_isAhead_229 (by decide) ?_
                                                          refine x_sub (l' := [(0, va_rf r0), (1, .int i1), (2, .int v664), (3, .int v665), (6, .int v667), (7, .int v674)]) [1, 2, 3, 4, 6, 0] rfl ?_
                                                          exact J_230 _ _ _ _ _ _ h
                                                        · replace h := it_f c739 h
                                                          refine x_iconst (v := (1 : Int32)) hC dL_isAhead_225 (by decide) ?_
                                                          refine x_goto (t := 230) hC dL_isAhead_226 (by decide) ?_
                                                          refine x_sub (l' := [(0, va_rf r0), (1, .int i1), (2, .int v664), (3, .int v665), (6, .int v667), (7, .int v674)]) [1, 2, 3, 4, 6, 0] rfl ?_
                                                          exact J_230 _ _ _ _ _ _ h
                                                    · replace h := ir_x h hg_130; exact z_no hyr (Option.some.inj h)
                                                  · replace h := ir_x h hg_130; exact z_no hyr (Option.some.inj h)
                                              · replace h := ir_x h hg_130; exact z_no hyr (Option.some.inj h)
                                            · replace h := ir_x h hg_130; exact z_no hyr (Option.some.inj h)
                                        · replace h := ir_x h hg_130; exact z_no hyr (Option.some.inj h)
                                      · replace h := ir_x h hg_130; exact z_no hyr (Option.some.inj h)
                                  · replace h := ir_x h hg_130; exact z_no hyr (Option.some.inj h)
                                · replace h := ir_x h hg_130; exact z_no hyr (Option.some.inj h)
                            · replace h := ir_x h hg_130; exact z_no hyr (Option.some.inj h)
                      · replace h := it_f c663 h
                        refine x_iload (i := 5) hC dL_isAhead_106 5 rfl ?_
                        refine x_iload_n (i := 2) hC dL_isAhead_108 rfl 2 rfl ?_
                        refine x_if_le (t := 116) hC dL_isAhead_109 (by decide) (fun c749 => ?_) (fun c749 => ?_)
                        · replace h := it_t c749 h
                          refine x_iconst (v := (0 : Int32)) hC dL_isAhead_116 (by decide) ?_
                          refine x_sub (l' := [(0, va_rf r0), (1, .int i1), (2, .int v649), (3, .int v650)]) [0, 1, 2, 3] rfl ?_
                          exact J_117 _ _ _ _ _ h
                        · replace h := it_f c749 h
                          refine x_iconst (v := (1 : Int32)) hC dL_isAhead_112 (by decide) ?_
                          refine x_goto (t := 117) hC dL_isAhead_113 (by decide) ?_
                          refine x_sub (l' := [(0, va_rf r0), (1, .int i1), (2, .int v649), (3, .int v650)]) [0, 1, 2, 3] rfl ?_
                          exact J_117 _ _ _ _ _ h
                    · replace h := it_f c662 h
                      refine x_iload (i := 5) hC dL_isAhead_73 5 rfl ?_
                      refine x_if_ne (t := 88) hC dL_isAhead_75 (by decide) (fun c750 => ?_) (fun c750 => ?_)
                      · replace h := it_f c750 h
                        refine x_iconst (v := (1 : Int32)) hC dL_isAhead_88 (by decide) ?_
                        refine x_goto (t := 93) hC dL_isAhead_89 (by decide) ?_
                        refine x_istore (i := 5) (l' := [(5, .int (1 : Int32)), (0, va_rf r0), (1, .int i1), (2, .int v649), (3, .int v650), (4, .int v651), (6, .int v653)]) hC dL_isAhead_93 (⟨fun _ => c_rf r0, ⟨fun _ => rfl, ⟨fun _ => rfl, ⟨fun _ => rfl, ⟨fun _ => rfl, ⟨fun _ => rfl, ⟨fun _ => rfl, trivial⟩⟩⟩⟩⟩⟩⟩) (by decide) rfl ?_
                        refine x_iinc (i := 6) (v := (v653 + (1 : Int32))) (l' := [(6, .int (v653 + (1 : Int32))), (5, .int (1 : Int32)), (0, va_rf r0), (1, .int i1), (2, .int v649), (3, .int v650), (4, .int v651)]) hC dL_isAhead_95 6 rfl rfl (⟨fun _ => rfl, ⟨fun _ => c_rf r0, ⟨fun _ => rfl, ⟨fun _ => rfl, ⟨fun _ => rfl, ⟨fun _ => rfl, ⟨fun _ => rfl, trivial⟩⟩⟩⟩⟩⟩⟩) (by decide) rfl ?_
                        refine x_goto (t := 63) hC dL_isAhead_98 (by decide) ?_
                        refine x_sub (l' := [(0, va_rf r0), (1, .int i1), (2, .int v649), (3, .int v650), (4, .int v651), (5, .int (1 : Int32)), (6, .int (v653 + (1 : Int32)))]) [2, 3, 4, 5, 6, 1, 0] rfl ?_
                        have hb := bk_x h hg_63
                        exact hb
                      · replace h := it_t c750 h
                        refine x_aload_n (i := 0) hC dL_isAhead_78 rfl 0 rfl ?_
                        refine x_iload (i := 6) hC dL_isAhead_79 6 rfl ?_
                        replace h := dr_el h
                        obtain ⟨a751, ea752, ha753, h⟩ := h
                        replace h := bt_el h
                        obtain ⟨v754, S755, hb759, h⟩ | ⟨j756, S757, hb759, h⟩ := h
                        · refine x_callV hC (st := []) (mtr_X4_bestReviewer _ _ _ (v754, S755) hb759) ea752 ha753 kf_4 q_688 q_689 q_690 q_1 q_691 ⟨rfl, hy_X4_bestReviewer⟩ ⟨Nat.le_of_ble_eq_true rfl, Nat.le_of_ble_eq_true rfl⟩ ⟨Nat.le_of_ble_eq_true rfl, Nat.le_of_ble_eq_true rfl⟩ rfl (Nat.le_of_ble_eq_true rfl) dL_isAhead_81 (r_N ?_) r_NX
                          show PX Z 10 S755 0 0 84 [(0, va_rf r0), (1, .int i1), (2, .int v649), (3, .int v650), (4, .int v651), (5, .int v652), (6, .int v653)] [.int v754]
                          refine x_iconst (v := (-1 : Int32)) hC dL_isAhead_84 (by decide) ?_
                          refine x_icmp_eq (t := 92) hC dL_isAhead_85 (by decide) (fun c758 => ?_) (fun c758 => ?_)
                          · replace h := it_t c758 h
                            refine x_iconst (v := (0 : Int32)) hC dL_isAhead_92 (by decide) ?_
                            refine x_istore (i := 5) (l' := [(5, .int (0 : Int32)), (0, va_rf r0), (1, .int i1), (2, .int v649), (3, .int v650), (4, .int v651), (6, .int v653)]) hC dL_isAhead_93 (⟨fun _ => c_rf r0, ⟨fun _ => rfl, ⟨fun _ => rfl, ⟨fun _ => rfl, ⟨fun _ => rfl, ⟨fun _ => rfl, ⟨fun _ => rfl, trivial⟩⟩⟩⟩⟩⟩⟩) (by decide) rfl ?_
                            refine x_iinc (i := 6) (v := (v653 + (1 : Int32))) (l' := [(6, .int (v653 + (1 : Int32))), (5, .int (0 : Int32)), (0, va_rf r0), (1, .int i1), (2, .int v649), (3, .int v650), (4, .int v651)]) hC dL_isAhead_95 6 rfl rfl (⟨fun _ => rfl, ⟨fun _ => c_rf r0, ⟨fun _ => rfl, ⟨fun _ => rfl, ⟨fun _ => rfl, ⟨fun _ => rfl, ⟨fun _ => rfl, trivial⟩⟩⟩⟩⟩⟩⟩) (by decide) rfl ?_
                            refine x_goto (t := 63) hC dL_isAhead_98 (by decide) ?_
                            refine x_sub (l' := [(0, va_rf r0), (1, .int i1), (2, .int v649), (3, .int v650), (4, .int v651), (5, .int (0 : Int32)), (6, .int (v653 + (1 : Int32)))]) [2, 3, 4, 5, 6, 1, 0] rfl ?_
                            have hb := bk_x h hg_63
                            exact hb
                          · replace h := it_f c758 h
                            refine x_iconst (v := (1 : Int32)) hC dL_isAhead_88 (by decide) ?_
                            refine x_goto (t := 93) hC dL_isAhead_89 (by decide) ?_
                            refine x_istore (i := 5) (l' := [(5, .int (1 : Int32)), (0, va_rf r0), (1, .int i1), (2, .int v649), (3, .int v650), (4, .int v651), (6, .int v653)]) hC dL_isAhead_93 (⟨fun _ => c_rf r0, ⟨fun _ => rfl, ⟨fun _ => rfl, ⟨fun _ => rfl, ⟨fun _ => rfl, ⟨fun _ => rfl, ⟨fun _ => rfl, trivial⟩⟩⟩⟩⟩⟩⟩) (by decide) rfl ?_
                            refine x_iinc (i := 6) (v := (v653 + (1 : Int32))) (l' := [(6, .int (v653 + (1 : Int32))), (5, .int (1 : Int32)), (0, va_rf r0), (1, .int i1), (2, .int v649), (3, .int v650), (4, .int v651)]) hC dL_isAhead_95 6 rfl rfl (⟨fun _ => rfl, ⟨fun _ => c_rf r0, ⟨fun _ => rfl, ⟨fun _ => rfl, ⟨fun _ => rfl, ⟨fun _ => rfl, ⟨fun _ => rfl, trivial⟩⟩⟩⟩⟩⟩⟩) (by decide) rfl ?_
                            refine x_goto (t := 63) hC dL_isAhead_98 (by decide) ?_
                            refine x_sub (l' := [(0, va_rf r0), (1, .int i1), (2, .int v649), (3, .int v650), (4, .int v651), (5, .int (1 : Int32)), (6, .int (v653 + (1 : Int32)))]) [2, 3, 4, 5, 6, 1, 0] rfl ?_
                            have hb := bk_x h hg_63
                            exact hb
                        · replace h := ir_x h hg_63; exact z_no hyr (Option.some.inj h)
                  · replace h := ir_x h hg_63; exact z_no hyr (Option.some.inj h)
                · replace h := it_f c648 h
                  refine x_aload_n (i := 0) hC dL_isAhead_41 rfl 2 rfl ?_
                  refine x_iload_n (i := 3) hC dL_isAhead_42 rfl 0 rfl ?_
                  refine x_iload_n (i := 1) hC dL_isAhead_43 rfl 3 rfl ?_
                  replace h := dr_el h
                  obtain ⟨a761, ea762, ha763, h⟩ := h
                  replace h := bt_el h
                  obtain ⟨v764, S765, hb993, h⟩ | ⟨j766, S767, hb993, h⟩ := h
                  · refine x_callV hC (st := []) (mtr_X4_whyNot _ _ _ _ (v764, S765) hb993) ea762 ha763 kf_4 q_445 q_446 q_447 q_1 q_448 ⟨rfl, hy_X4_whyNot⟩ ⟨Nat.le_of_ble_eq_true rfl, Nat.le_of_ble_eq_true rfl⟩ ⟨Nat.le_of_ble_eq_true rfl, Nat.le_of_ble_eq_true rfl⟩ rfl (Nat.le_of_ble_eq_true rfl) dL_isAhead_44 (r_N ?_) r_NX
                    show PX Z 10 S765 0 0 47 [(3, .int v11), (2, .int v4), (0, va_rf r0), (1, .int i1)] [.int v764]
                    refine x_if_ne (t := 54) hC dL_isAhead_47 (by decide) (fun c768 => ?_) (fun c768 => ?_)
                    · replace h := it_f c768 h
                      refine x_iconst (v := (0 : Int32)) hC dL_isAhead_54 (by decide) ?_
                      refine x_istore (i := 4) (l' := [(4, .int (0 : Int32)), (3, .int v11), (2, .int v4), (0, va_rf r0), (1, .int i1)]) hC dL_isAhead_55 (⟨fun _ => rfl, ⟨fun _ => rfl, ⟨fun _ => c_rf r0, ⟨fun _ => rfl, trivial⟩⟩⟩⟩) (by decide) rfl ?_
                      refine x_iconst (v := (0 : Int32)) hC dL_isAhead_57 (by decide) ?_
                      refine x_istore (i := 5) (l' := [(5, .int (0 : Int32)), (4, .int (0 : Int32)), (3, .int v11), (2, .int v4), (0, va_rf r0), (1, .int i1)]) hC dL_isAhead_58 (⟨fun _ => rfl, ⟨fun _ => rfl, ⟨fun _ => rfl, ⟨fun _ => c_rf r0, ⟨fun _ => rfl, trivial⟩⟩⟩⟩⟩) (by decide) rfl ?_
                      refine x_iconst (v := (0 : Int32)) hC dL_isAhead_60 (by decide) ?_
                      refine x_istore (i := 6) (l' := [(6, .int (0 : Int32)), (5, .int (0 : Int32)), (4, .int (0 : Int32)), (3, .int v11), (2, .int v4), (0, va_rf r0), (1, .int i1)]) hC dL_isAhead_61 (⟨fun _ => rfl, ⟨fun _ => rfl, ⟨fun _ => rfl, ⟨fun _ => rfl, ⟨fun _ => c_rf r0, ⟨fun _ => rfl, trivial⟩⟩⟩⟩⟩⟩) (by decide) rfl ?_
                      refine x_sub (l' := [(0, va_rf r0), (1, .int i1), (2, .int v4), (3, .int v11), (4, .int (0 : Int32)), (5, .int (0 : Int32)), (6, .int (0 : Int32))]) [5, 6, 4, 3, 2, 1, 0] rfl ?_
                      refine lp_sim (P := fun (t : (Int32 × Int32 × Int32 × Int32 × Int32 × PH)) => PX Z 10 t.2.2.2.2.2 0 0 63 [(0, va_rf r0), (1, .int i1), (2, .int t.1), (3, .int t.2.1), (4, .int t.2.2.1), (5, .int t.2.2.2.1), (6, .int t.2.2.2.2.1)] []) (G := fun r => r = y) ?_ h rfl
                      clear h
                      intro t x_63 h hg_63
                      obtain ⟨v769, v770, v771, v772, v773, S774⟩ := t
                      show PX Z 10 S774 0 0 63 [(0, va_rf r0), (1, .int i1), (2, .int v769), (3, .int v770), (4, .int v771), (5, .int v772), (6, .int v773)] []
                      unfold st_L_isAhead_63 at h
                      refine x_iload (i := 6) hC dL_isAhead_63 6 rfl ?_
                      refine x_aload_n (i := 0) hC dL_isAhead_65 rfl 0 rfl ?_
                      refine x_iconst (v := (0 : Int32)) hC dL_isAhead_66 (by decide) ?_
                      replace h := dr_el h
                      obtain ⟨a775, ea776, ha777, h⟩ := h
                      replace h := bt_el h
                      obtain ⟨v778, S779, hb880, h⟩ | ⟨j780, S781, hb880, h⟩ := h
                      · refine x_callV hC (st := [.int v773]) (mtr_X4_count _ _ _ (v778, S779) hb880) ea776 ha777 kf_4 q_406 q_407 q_408 q_1 q_409 ⟨rfl, hy_X4_count⟩ ⟨Nat.le_of_ble_eq_true rfl, Nat.le_of_ble_eq_true rfl⟩ ⟨Nat.le_of_ble_eq_true rfl, Nat.le_of_ble_eq_true rfl⟩ rfl (Nat.le_of_ble_eq_true rfl) dL_isAhead_67 (r_N ?_) r_NX
                        show PX Z 10 S779 0 0 70 [(0, va_rf r0), (1, .int i1), (2, .int v769), (3, .int v770), (4, .int v771), (5, .int v772), (6, .int v773)] [.int v778, .int v773]
                        refine x_icmp_ge (t := 101) hC dL_isAhead_70 (by decide) (fun c782 => ?_) (fun c782 => ?_)
                        · replace h := it_t c782 h
                          replace h := ir_x h hg_63
                          refine x_iload (i := 4) hC dL_isAhead_101 4 rfl ?_
                          refine x_if_eq (t := 124) hC dL_isAhead_103 (by decide) (fun c783 => ?_) (fun c783 => ?_)
                          · replace h := it_t c783 h
                            refine x_iconst (v := (0 : Int32)) hC dL_isAhead_124 (by decide) ?_
                            refine x_istore (i := 4) (l' := [(4, .int (0 : Int32)), (0, va_rf r0), (1, .int i1), (2, .int v769), (3, .int v770), (5, .int v772), (6, .int v773)]) hC dL_isAhead_125 (⟨fun _ => c_rf r0, ⟨fun _ => rfl, ⟨fun _ => rfl, ⟨fun _ => rfl, ⟨fun _ => rfl, ⟨fun _ => rfl, ⟨fun _ => rfl, trivial⟩⟩⟩⟩⟩⟩⟩) (by decide) rfl ?_
                            refine x_iconst (v := (0 : Int32)) hC dL_isAhead_127 (by decide) ?_
                            refine x_istore (i := 6) (l' := [(6, .int (0 : Int32)), (4, .int (0 : Int32)), (0, va_rf r0), (1, .int i1), (2, .int v769), (3, .int v770), (5, .int v772)]) hC dL_isAhead_128 (⟨fun _ => rfl, ⟨fun _ => c_rf r0, ⟨fun _ => rfl, ⟨fun _ => rfl, ⟨fun _ => rfl, ⟨fun _ => rfl, ⟨fun _ => rfl, trivial⟩⟩⟩⟩⟩⟩⟩) (by decide) rfl ?_
                            refine x_sub (l' := [(0, va_rf r0), (1, .int i1), (2, .int v769), (3, .int v770), (4, .int (0 : Int32)), (6, .int (0 : Int32))]) [2, 3, 4, 5, 1, 0] rfl ?_
                            refine lp_sim (P := fun (t : (Int32 × Int32 × Int32 × Int32 × PH)) => PX Z 10 t.2.2.2.2 0 0 130 [(0, va_rf r0), (1, .int i1), (2, .int t.1), (3, .int t.2.1), (4, .int t.2.2.1), (6, .int t.2.2.2.1)] []) (G := fun r => r = y) ?_ h rfl
                            clear h
                            intro t x_130 h hg_130
                            obtain ⟨v784, v785, v786, v787, S788⟩ := t
                            show PX Z 10 S788 0 0 130 [(0, va_rf r0), (1, .int i1), (2, .int v784), (3, .int v785), (4, .int v786), (6, .int v787)] []
                            have J_328 : ∀ (v117 : Int32) (v118 : Int32) (v119 : Int32) (v120 : Int32) (v121 : Int32) (S122 : PH), j_L_isAhead_328 r0 i1 v117 v118 v119 v120 v121 S122 = some x_130 → PX Z 10 S122 0 0 328 [(0, va_rf r0), (1, .int i1), (2, .int v117), (3, .int v118), (6, .int v119), (7, .int v120), (9, .int v121)] [] := by
                              intro v117 v118 v119 v120 v121 S122 h
                              unfold j_L_isAhead_328 at h
                              refine x_iload (i := 7) hC dL_isAhead_328 5 rfl ?_
                              refine x_iconst (v := (5 : Int32)) hC dL_isAhead_330 (by decide) ?_
                              refine x_icmp_lt (t := 339) hC dL_isAhead_331 (by decide) (fun c123 => ?_) (fun c123 => ?_)
                              · replace h := it_t c123 h
                                refine x_iconst (v := (1 : Int32)) hC dL_isAhead_339 (by decide) ?_
                                refine x_goto (t := 366) hC dL_isAhead_340 (by decide) ?_
                                refine x_istore (i := 4) (l' := [(4, .int (1 : Int32)), (0, va_rf r0), (1, .int i1), (2, .int v117), (3, .int v118), (6, .int v119), (7, .int v120), (9, .int v121)]) hC dL_isAhead_366 (⟨fun _ => c_rf r0, ⟨fun _ => rfl, ⟨fun _ => rfl, ⟨fun _ => rfl, ⟨fun _ => rfl, ⟨fun _ => rfl, ⟨fun _ => rfl, trivial⟩⟩⟩⟩⟩⟩⟩) (by decide) rfl ?_
                                refine x_iinc (i := 6) (v := (v119 + (1 : Int32))) (l' := [(6, .int (v119 + (1 : Int32))), (4, .int (1 : Int32)), (0, va_rf r0), (1, .int i1), (2, .int v117), (3, .int v118), (7, .int v120), (9, .int v121)]) hC dL_isAhead_368 5 rfl rfl (⟨fun _ => rfl, ⟨fun _ => c_rf r0, ⟨fun _ => rfl, ⟨fun _ => rfl, ⟨fun _ => rfl, ⟨fun _ => rfl, ⟨fun _ => rfl, ⟨fun _ => rfl, trivial⟩⟩⟩⟩⟩⟩⟩⟩) (by decide) rfl ?_
                                refine x_goto (t := 130) hC dL_isAhead_371 (by decide) ?_
                                refine x_sub (l' := [(0, va_rf r0), (1, .int i1), (2, .int v117), (3, .int v118), (4, .int (1 : Int32)), (6, .int (v119 + (1 : Int32)))]) [2, 3, 4, 5, 1, 0] rfl ?_
                                have hb := bk_x h hg_130
                                exact hb
                              · replace h := it_f c123 h
                                refine x_iload (i := 9) hC dL_isAhead_334 6 rfl ?_
                                refine x_if_ne (t := 343) hC dL_isAhead_336 (by decide) (fun c124 => ?_) (fun c124 => ?_)
                                · replace h := it_f c124 h
                                  refine x_iconst (v := (0 : Int32)) hC dL_isAhead_343 (by decide) ?_
                                  refine x_goto (t := 366) hC dL_isAhead_344 (by decide) ?_
                                  refine x_istore (i := 4) (l' := [(4, .int (0 : Int32)), (0, va_rf r0), (1, .int i1), (2, .int v117), (3, .int v118), (6, .int v119), (7, .int v120), (9, .int v121)]) hC dL_isAhead_366 (⟨fun _ => c_rf r0, ⟨fun _ => rfl, ⟨fun _ => rfl, ⟨fun _ => rfl, ⟨fun _ => rfl, ⟨fun _ => rfl, ⟨fun _ => rfl, trivial⟩⟩⟩⟩⟩⟩⟩) (by decide) rfl ?_
                                  refine x_iinc (i := 6) (v := (v119 + (1 : Int32))) (l' := [(6, .int (v119 + (1 : Int32))), (4, .int (0 : Int32)), (0, va_rf r0), (1, .int i1), (2, .int v117), (3, .int v118), (7, .int v120), (9, .int v121)]) hC dL_isAhead_368 5 rfl rfl (⟨fun _ => rfl, ⟨fun _ => c_rf r0, ⟨fun _ => rfl, ⟨fun _ => rfl, ⟨fun _ => rfl, ⟨fun _ => rfl, ⟨fun _ => rfl, ⟨fun _ => rfl, trivial⟩⟩⟩⟩⟩⟩⟩⟩) (by decide) rfl ?_
                                  refine x_goto (t := 130) hC dL_isAhead_371 (by decide) ?_
                                  refine x_sub (l' := [(0, va_rf r0), (1, .int i1), (2, .int v117), (3, .int v118), (4, .int (0 : Int32)), (6, .int (v119 + (1 : Int32)))]) [2, 3, 4, 5, 1, 0] rfl ?_
                                  have hb := bk_x h hg_130
                                  exact hb
                                · replace h := it_t c124 h
                                  refine x_iconst (v := (1 : Int32)) hC dL_isAhead_339 (by decide) ?_
                                  refine x_goto (t := 366) hC dL_isAhead_340 (by decide) ?_
                                  refine x_istore (i := 4) (l' := [(4, .int (1 : Int32)), (0, va_rf r0), (1, .int i1), (2, .int v117), (3, .int v118), (6, .int v119), (7, .int v120), (9, .int v121)]) hC dL_isAhead_366 (⟨fun _ => c_rf r0, ⟨fun _ => rfl, ⟨fun _ => rfl, ⟨fun _ => rfl, ⟨fun _ => rfl, ⟨fun _ => rfl, ⟨fun _ => rfl, trivial⟩⟩⟩⟩⟩⟩⟩) (by decide) rfl ?_
                                  refine x_iinc (i := 6) (v := (v119 + (1 : Int32))) (l' := [(6, .int (v119 + (1 : Int32))), (4, .int (1 : Int32)), (0, va_rf r0), (1, .int i1), (2, .int v117), (3, .int v118), (7, .int v120), (9, .int v121)]) hC dL_isAhead_368 5 rfl rfl (⟨fun _ => rfl, ⟨fun _ => c_rf r0, ⟨fun _ => rfl, ⟨fun _ => rfl, ⟨fun _ => rfl, ⟨fun _ => rfl, ⟨fun _ => rfl, ⟨fun _ => rfl, trivial⟩⟩⟩⟩⟩⟩⟩⟩) (by decide) rfl ?_
                                  refine x_goto (t := 130) hC dL_isAhead_371 (by decide) ?_
                                  refine x_sub (l' := [(0, va_rf r0), (1, .int i1), (2, .int v117), (3, .int v118), (4, .int (1 : Int32)), (6, .int (v119 + (1 : Int32)))]) [2, 3, 4, 5, 1, 0] rfl ?_
                                  have hb := bk_x h hg_130
                                  exact hb
                            have J_314 : ∀ (v107 : Int32) (v108 : Int32) (v109 : Int32) (v110 : Int32) (v111 : Int32) (v112 : Int32) (v113 : Int32) (S114 : PH), j_L_isAhead_314 r0 i1 v107 v108 v109 v110 v111 v112 v113 S114 = some x_130 → PX Z 10 S114 0 0 314 [(0, va_rf r0), (1, .int i1), (2, .int v107), (3, .int v108), (6, .int v109), (7, .int v110), (9, .int v111)] [.int v113, .int v112] := by
                              intro v107 v108 v109 v110 v111 v112 v113 S114 h
                              unfold j_L_isAhead_314 at h
                              refine x_icmp_ne (t := 343) hC dL_isAhead_314 (by decide) (fun c115 => ?_) (fun c115 => ?_)
                              · replace h := it_f c115 h
                                refine x_iconst (v := (0 : Int32)) hC dL_isAhead_343 (by decide) ?_
                                refine x_goto (t := 366) hC dL_isAhead_344 (by decide) ?_
                                refine x_istore (i := 4) (l' := [(4, .int (0 : Int32)), (0, va_rf r0), (1, .int i1), (2, .int v107), (3, .int v108), (6, .int v109), (7, .int v110), (9, .int v111)]) hC dL_isAhead_366 (⟨fun _ => c_rf r0, ⟨fun _ => rfl, ⟨fun _ => rfl, ⟨fun _ => rfl, ⟨fun _ => rfl, ⟨fun _ => rfl, ⟨fun _ => rfl, trivial⟩⟩⟩⟩⟩⟩⟩) (by decide) rfl ?_
                                refine x_iinc (i := 6) (v := (v109 + (1 : Int32))) (l' := [(6, .int (v109 + (1 : Int32))), (4, .int (0 : Int32)), (0, va_rf r0), (1, .int i1), (2, .int v107), (3, .int v108), (7, .int v110), (9, .int v111)]) hC dL_isAhead_368 5 rfl rfl (⟨fun _ => rfl, ⟨fun _ => c_rf r0, ⟨fun _ => rfl, ⟨fun _ => rfl, ⟨fun _ => rfl, ⟨fun _ => rfl, ⟨fun _ => rfl, ⟨fun _ => rfl, trivial⟩⟩⟩⟩⟩⟩⟩⟩) (by decide) rfl ?_
                                refine x_goto (t := 130) hC dL_isAhead_371 (by decide) ?_
                                refine x_sub (l' := [(0, va_rf r0), (1, .int i1), (2, .int v107), (3, .int v108), (4, .int (0 : Int32)), (6, .int (v109 + (1 : Int32)))]) [2, 3, 4, 5, 1, 0] rfl ?_
                                have hb := bk_x h hg_130
                                exact hb
                              · replace h := it_t c115 h
                                refine x_iload (i := 7) hC dL_isAhead_317 5 rfl ?_
                                refine x_iconst (v := (4 : Int32)) hC dL_isAhead_319 (by decide) ?_
                                refine x_icmp_ne (t := 328) hC dL_isAhead_320 (by decide) (fun c116 => ?_) (fun c116 => ?_)
                                · replace h := it_f c116 h
                                  exact J_328 _ _ _ _ _ _ h
                                · replace h := it_t c116 h
                                  refine x_iload (i := 9) hC dL_isAhead_323 6 rfl ?_
                                  refine x_if_eq (t := 343) hC dL_isAhead_325 (by decide) (fun c125 => ?_) (fun c125 => ?_)
                                  · replace h := it_t c125 h
                                    refine x_iconst (v := (0 : Int32)) hC dL_isAhead_343 (by decide) ?_
                                    refine x_goto (t := 366) hC dL_isAhead_344 (by decide) ?_
                                    refine x_istore (i := 4) (l' := [(4, .int (0 : Int32)), (0, va_rf r0), (1, .int i1), (2, .int v107), (3, .int v108), (6, .int v109), (7, .int v110), (9, .int v111)]) hC dL_isAhead_366 (⟨fun _ => c_rf r0, ⟨fun _ => rfl, ⟨fun _ => rfl, ⟨fun _ => rfl, ⟨fun _ => rfl, ⟨fun _ => rfl, ⟨fun _ => rfl, trivial⟩⟩⟩⟩⟩⟩⟩) (by decide) rfl ?_
                                    refine x_iinc (i := 6) (v := (v109 + (1 : Int32))) (l' := [(6, .int (v109 + (1 : Int32))), (4, .int (0 : Int32)), (0, va_rf r0), (1, .int i1), (2, .int v107), (3, .int v108), (7, .int v110), (9, .int v111)]) hC dL_isAhead_368 5 rfl rfl (⟨fun _ => rfl, ⟨fun _ => c_rf r0, ⟨fun _ => rfl, ⟨fun _ => rfl, ⟨fun _ => rfl, ⟨fun _ => rfl, ⟨fun _ => rfl, ⟨fun _ => rfl, trivial⟩⟩⟩⟩⟩⟩⟩⟩) (by decide) rfl ?_
                                    refine x_goto (t := 130) hC dL_isAhead_371 (by decide) ?_
                                    refine x_sub (l' := [(0, va_rf r0), (1, .int i1), (2, .int v107), (3, .int v108), (4, .int (0 : Int32)), (6, .int (v109 + (1 : Int32)))]) [2, 3, 4, 5, 1, 0] rfl ?_
                                    have hb := bk_x h hg_130
                                    exact hb
                                  · replace h := it_f c125 h
                                    exact J_328 _ _ _ _ _ _ h
                            have J_271 : ∀ (v92 : Int32) (v93 : Int32) (v94 : Int32) (v95 : Int32) (v96 : Int32) (v97 : Int32) (S98 : PH), j_L_isAhead_271 r0 i1 v92 v93 v94 v95 v96 v97 S98 = some x_130 → PX Z 10 S98 0 0 271 [(0, va_rf r0), (1, .int i1), (2, .int v92), (3, .int v93), (6, .int v94), (7, .int v95), (9, .int v96)] [.int v97] := by
                              intro v92 v93 v94 v95 v96 v97 S98 h
                              unfold j_L_isAhead_271 at h
                              refine x_aload_n (i := 0) hC dL_isAhead_271 rfl 0 rfl ?_
                              refine x_iload_n (i := 1) hC dL_isAhead_272 rfl 1 rfl ?_
                              refine x_bipush (v := (8 : Int32)) hC dL_isAhead_273 (by decide) ?_
                              replace h := dr_el h
                              obtain ⟨a99, ea100, ha101, h⟩ := h
                              replace h := bt_el h
                              obtain ⟨v102, S103, hb155, h⟩ | ⟨j104, S105, hb155, h⟩ := h
                              · refine x_callV hC (st := [.int v97]) (mtr_X4_paperOf _ _ _ _ (v102, S103) hb155) ea100 ha101 kf_4 q_527 q_528 q_529 q_1 q_530 ⟨rfl, hy_X4_paperOf⟩ ⟨Nat.le_of_ble_eq_true rfl, Nat.le_of_ble_eq_true rfl⟩ ⟨Nat.le_of_ble_eq_true rfl, Nat.le_of_ble_eq_true rfl⟩ rfl (Nat.le_of_ble_eq_true rfl) dL_isAhead_275 (r_N ?_) r_NX
                                show PX Z 10 S103 0 0 278 [(0, va_rf r0), (1, .int i1), (2, .int v92), (3, .int v93), (6, .int v94), (7, .int v95), (9, .int v96)] [.int v102, .int v97]
                                refine x_if_ne (t := 313) hC dL_isAhead_278 (by decide) (fun c106 => ?_) (fun c106 => ?_)
                                · replace h := it_f c106 h
                                  refine x_iconst (v := (0 : Int32)) hC dL_isAhead_313 (by decide) ?_
                                  exact J_314 _ _ _ _ _ _ _ _ h
                                · replace h := it_t c106 h
                                  refine x_aload_n (i := 0) hC dL_isAhead_281 rfl 0 rfl ?_
                                  refine x_iload (i := 6) hC dL_isAhead_282 4 rfl ?_
                                  refine x_iload_n (i := 1) hC dL_isAhead_284 rfl 1 rfl ?_
                                  replace h := dr_el h
                                  obtain ⟨a126, ea127, ha128, h⟩ := h
                                  replace h := bt_el h
                                  obtain ⟨v129, S130, hb154, h⟩ | ⟨j131, S132, hb154, h⟩ := h
                                  · refine x_callV hC (st := [.int v97]) (mtr_X4_score _ _ _ _ (v129, S130) hb154) ea127 ha128 kf_4 q_548 q_549 q_550 q_1 q_551 ⟨rfl, hy_X4_score⟩ ⟨Nat.le_of_ble_eq_true rfl, Nat.le_of_ble_eq_true rfl⟩ ⟨Nat.le_of_ble_eq_true rfl, Nat.le_of_ble_eq_true rfl⟩ rfl (Nat.le_of_ble_eq_true rfl) dL_isAhead_285 (r_N ?_) r_NX
                                    show PX Z 10 S130 0 0 288 [(0, va_rf r0), (1, .int i1), (2, .int v92), (3, .int v93), (6, .int v94), (7, .int v95), (9, .int v96)] [.int v129, .int v97]
                                    refine x_iconst (v := (-1 : Int32)) hC dL_isAhead_288 (by decide) ?_
                                    refine x_icmp_ne (t := 313) hC dL_isAhead_289 (by decide) (fun c133 => ?_) (fun c133 => ?_)
                                    · replace h := it_f c133 h
                                      refine x_iconst (v := (0 : Int32)) hC dL_isAhead_313 (by decide) ?_
                                      exact J_314 _ _ _ _ _ _ _ _ h
                                    · replace h := it_t c133 h
                                      refine x_aload_n (i := 0) hC dL_isAhead_292 rfl 0 rfl ?_
                                      refine x_iload_n (i := 1) hC dL_isAhead_293 rfl 1 rfl ?_
                                      refine x_iconst (v := (2 : Int32)) hC dL_isAhead_294 (by decide) ?_
                                      replace h := dr_el h
                                      obtain ⟨a134, ea135, ha136, h⟩ := h
                                      replace h := bt_el h
                                      obtain ⟨v137, S138, hb153, h⟩ | ⟨j139, S140, hb153, h⟩ := h
                                      · refine x_callV hC (st := [.int v97]) (mtr_X4_paperOf _ _ _ _ (v137, S138) hb153) ea135 ha136 kf_4 q_527 q_528 q_529 q_1 q_530 ⟨rfl, hy_X4_paperOf⟩ ⟨Nat.le_of_ble_eq_true rfl, Nat.le_of_ble_eq_true rfl⟩ ⟨Nat.le_of_ble_eq_true rfl, Nat.le_of_ble_eq_true rfl⟩ rfl (Nat.le_of_ble_eq_true rfl) dL_isAhead_295 (r_N ?_) r_NX
                                        show PX Z 10 S138 0 0 298 [(0, va_rf r0), (1, .int i1), (2, .int v92), (3, .int v93), (6, .int v94), (7, .int v95), (9, .int v96)] [.int v137, .int v97]
                                        replace h := bd_el h
                                        obtain ⟨v141, S142, hb143, h⟩ := h
                                        refine x_callS hC (st := [.int v97]) (mt_L_bits _ _ _ hb143) q_656 q_657 q_0 q_658 hy_L_bits ⟨Nat.le_of_ble_eq_true rfl, Nat.le_of_ble_eq_true rfl⟩ ⟨Nat.le_of_ble_eq_true rfl, Nat.le_of_ble_eq_true rfl⟩ rfl (Nat.le_of_ble_eq_true rfl) dL_isAhead_298 (r_N ?_) r_NX
                                        show PX Z 10 S142 0 0 301 [(0, va_rf r0), (1, .int i1), (2, .int v92), (3, .int v93), (6, .int v94), (7, .int v95), (9, .int v96)] [.int v141, .int v97]
                                        refine x_aload_n (i := 0) hC dL_isAhead_301 rfl 0 rfl ?_
                                        refine x_iconst (v := (0 : Int32)) hC dL_isAhead_302 (by decide) ?_
                                        replace h := dr_el h
                                        obtain ⟨a144, ea145, ha146, h⟩ := h
                                        replace h := bt_el h
                                        obtain ⟨v147, S148, hb152, h⟩ | ⟨j149, S150, hb152, h⟩ := h
                                        · refine x_callV hC (st := [.int v141, .int v97]) (mtr_X4_setting _ _ _ (v147, S148) hb152) ea145 ha146 kf_4 q_552 q_553 q_554 q_1 q_555 ⟨rfl, hy_X4_setting⟩ ⟨Nat.le_of_ble_eq_true rfl, Nat.le_of_ble_eq_true rfl⟩ ⟨Nat.le_of_ble_eq_true rfl, Nat.le_of_ble_eq_true rfl⟩ rfl (Nat.le_of_ble_eq_true rfl) dL_isAhead_303 (r_N ?_) r_NX
                                          show PX Z 10 S148 0 0 306 [(0, va_rf r0), (1, .int i1), (2, .int v92), (3, .int v93), (6, .int v94), (7, .int v95), (9, .int v96)] [.int v147, .int v141, .int v97]
                                          refine x_icmp_ge (t := 313) hC dL_isAhead_306 (by decide) (fun c151 => ?_) (fun c151 => ?_)
                                          · replace h := it_t c151 h
                                            refine x_iconst (v := (0 : Int32)) hC dL_isAhead_313 (by decide) ?_
                                            exact J_314 _ _ _ _ _ _ _ _ h
                                          · replace h := it_f c151 h
                                            refine x_iconst (v := (1 : Int32)) hC dL_isAhead_309 (by decide) ?_
                                            refine x_goto (t := 314) hC dL_isAhead_310 (by decide) ?_
                                            exact J_314 _ _ _ _ _ _ _ _ h
                                        · replace h := ir_x h hg_130; exact z_no hyr (Option.some.inj h)
                                      · replace h := ir_x h hg_130; exact z_no hyr (Option.some.inj h)
                                  · replace h := ir_x h hg_130; exact z_no hyr (Option.some.inj h)
                              · replace h := ir_x h hg_130; exact z_no hyr (Option.some.inj h)
                            have J_253 : ∀ (v80 : Int32) (v81 : Int32) (v82 : Int32) (v83 : Int32) (v84 : Int32) (v85 : Int32) (S86 : PH), j_L_isAhead_253 r0 i1 v80 v81 v82 v83 v84 v85 S86 = some x_130 → PX Z 10 S86 0 0 253 [(0, va_rf r0), (1, .int i1), (2, .int v80), (3, .int v81), (6, .int v82), (7, .int v83), (8, .int v84)] [.int v85] := by
                              intro v80 v81 v82 v83 v84 v85 S86 h
                              unfold j_L_isAhead_253 at h
                              refine x_istore (i := 9) (l' := [(9, .int v85), (0, va_rf r0), (1, .int i1), (2, .int v80), (3, .int v81), (6, .int v82), (7, .int v83), (8, .int v84)]) hC dL_isAhead_253 (⟨fun _ => c_rf r0, ⟨fun _ => rfl, ⟨fun _ => rfl, ⟨fun _ => rfl, ⟨fun _ => rfl, ⟨fun _ => rfl, ⟨fun _ => rfl, trivial⟩⟩⟩⟩⟩⟩⟩) (by decide) rfl ?_
                              refine x_iload (i := 7) hC dL_isAhead_255 6 rfl ?_
                              refine x_if_le (t := 347) hC dL_isAhead_257 (by decide) (fun c87 => ?_) (fun c87 => ?_)
                              · replace h := it_t c87 h
                                refine x_iload_n (i := 3) hC dL_isAhead_347 rfl 4 rfl ?_
                                refine x_if_lt (t := 365) hC dL_isAhead_348 (by decide) (fun c88 => ?_) (fun c88 => ?_)
                                · replace h := it_t c88 h
                                  refine x_iconst (v := (0 : Int32)) hC dL_isAhead_365 (by decide) ?_
                                  refine x_istore (i := 4) (l' := [(4, .int (0 : Int32)), (9, .int v85), (0, va_rf r0), (1, .int i1), (2, .int v80), (3, .int v81), (6, .int v82), (7, .int v83), (8, .int v84)]) hC dL_isAhead_366 (⟨fun _ => rfl, ⟨fun _ => c_rf r0, ⟨fun _ => rfl, ⟨fun _ => rfl, ⟨fun _ => rfl, ⟨fun _ => rfl, ⟨fun _ => rfl, ⟨fun _ => rfl, trivial⟩⟩⟩⟩⟩⟩⟩⟩) (by decide) rfl ?_
                                  refine x_iinc (i := 6) (v := (v82 + (1 : Int32))) (l' := [(6, .int (v82 + (1 : Int32))), (4, .int (0 : Int32)), (9, .int v85), (0, va_rf r0), (1, .int i1), (2, .int v80), (3, .int v81), (7, .int v83), (8, .int v84)]) hC dL_isAhead_368 6 rfl rfl (⟨fun _ => rfl, ⟨fun _ => rfl, ⟨fun _ => c_rf r0, ⟨fun _ => rfl, ⟨fun _ => rfl, ⟨fun _ => rfl, ⟨fun _ => rfl, ⟨fun _ => rfl, ⟨fun _ => rfl, trivial⟩⟩⟩⟩⟩⟩⟩⟩⟩) (by decide) rfl ?_
                                  refine x_goto (t := 130) hC dL_isAhead_371 (by decide) ?_
                                  refine x_sub (l' := [(0, va_rf r0), (1, .int i1), (2, .int v80), (3, .int v81), (4, .int (0 : Int32)), (6, .int (v82 + (1 : Int32)))]) [3, 4, 5, 6, 1, 0] rfl ?_
                                  have hb := bk_x h hg_130
                                  exact hb
                                · replace h := it_f c88 h
                                  refine x_iload (i := 8) hC dL_isAhead_351 7 rfl ?_
                                  refine x_if_ne (t := 365) hC dL_isAhead_353 (by decide) (fun c89 => ?_) (fun c89 => ?_)
                                  · replace h := it_f c89 h
                                    refine x_iconst (v := (0 : Int32)) hC dL_isAhead_365 (by decide) ?_
                                    refine x_istore (i := 4) (l' := [(4, .int (0 : Int32)), (9, .int v85), (0, va_rf r0), (1, .int i1), (2, .int v80), (3, .int v81), (6, .int v82), (7, .int v83), (8, .int v84)]) hC dL_isAhead_366 (⟨fun _ => rfl, ⟨fun _ => c_rf r0, ⟨fun _ => rfl, ⟨fun _ => rfl, ⟨fun _ => rfl, ⟨fun _ => rfl, ⟨fun _ => rfl, ⟨fun _ => rfl, trivial⟩⟩⟩⟩⟩⟩⟩⟩) (by decide) rfl ?_
                                    refine x_iinc (i := 6) (v := (v82 + (1 : Int32))) (l' := [(6, .int (v82 + (1 : Int32))), (4, .int (0 : Int32)), (9, .int v85), (0, va_rf r0), (1, .int i1), (2, .int v80), (3, .int v81), (7, .int v83), (8, .int v84)]) hC dL_isAhead_368 6 rfl rfl (⟨fun _ => rfl, ⟨fun _ => rfl, ⟨fun _ => c_rf r0, ⟨fun _ => rfl, ⟨fun _ => rfl, ⟨fun _ => rfl, ⟨fun _ => rfl, ⟨fun _ => rfl, ⟨fun _ => rfl, trivial⟩⟩⟩⟩⟩⟩⟩⟩⟩) (by decide) rfl ?_
                                    refine x_goto (t := 130) hC dL_isAhead_371 (by decide) ?_
                                    refine x_sub (l' := [(0, va_rf r0), (1, .int i1), (2, .int v80), (3, .int v81), (4, .int (0 : Int32)), (6, .int (v82 + (1 : Int32)))]) [3, 4, 5, 6, 1, 0] rfl ?_
                                    have hb := bk_x h hg_130
                                    exact hb
                                  · replace h := it_t c89 h
                                    refine x_iload (i := 9) hC dL_isAhead_356 0 rfl ?_
                                    refine x_if_ne (t := 365) hC dL_isAhead_358 (by decide) (fun c90 => ?_) (fun c90 => ?_)
                                    · replace h := it_f c90 h
                                      refine x_iconst (v := (0 : Int32)) hC dL_isAhead_365 (by decide) ?_
                                      refine x_istore (i := 4) (l' := [(4, .int (0 : Int32)), (9, .int v85), (0, va_rf r0), (1, .int i1), (2, .int v80), (3, .int v81), (6, .int v82), (7, .int v83), (8, .int v84)]) hC dL_isAhead_366 (⟨fun _ => rfl, ⟨fun _ => c_rf r0, ⟨fun _ => rfl, ⟨fun _ => rfl, ⟨fun _ => rfl, ⟨fun _ => rfl, ⟨fun _ => rfl, ⟨fun _ => rfl, trivial⟩⟩⟩⟩⟩⟩⟩⟩) (by decide) rfl ?_
                                      refine x_iinc (i := 6) (v := (v82 + (1 : Int32))) (l' := [(6, .int (v82 + (1 : Int32))), (4, .int (0 : Int32)), (9, .int v85), (0, va_rf r0), (1, .int i1), (2, .int v80), (3, .int v81), (7, .int v83), (8, .int v84)]) hC dL_isAhead_368 6 rfl rfl (⟨fun _ => rfl, ⟨fun _ => rfl, ⟨fun _ => c_rf r0, ⟨fun _ => rfl, ⟨fun _ => rfl, ⟨fun _ => rfl, ⟨fun _ => rfl, ⟨fun _ => rfl, ⟨fun _ => rfl, trivial⟩⟩⟩⟩⟩⟩⟩⟩⟩) (by decide) rfl ?_
                                      refine x_goto (t := 130) hC dL_isAhead_371 (by decide) ?_
                                      refine x_sub (l' := [(0, va_rf r0), (1, .int i1), (2, .int v80), (3, .int v81), (4, .int (0 : Int32)), (6, .int (v82 + (1 : Int32)))]) [3, 4, 5, 6, 1, 0] rfl ?_
                                      have hb := bk_x h hg_130
                                      exact hb
                                    · replace h := it_t c90 h
                                      refine x_iconst (v := (1 : Int32)) hC dL_isAhead_361 (by decide) ?_
                                      refine x_goto (t := 366) hC dL_isAhead_362 (by decide) ?_
                                      refine x_istore (i := 4) (l' := [(4, .int (1 : Int32)), (9, .int v85), (0, va_rf r0), (1, .int i1), (2, .int v80), (3, .int v81), (6, .int v82), (7, .int v83), (8, .int v84)]) hC dL_isAhead_366 (⟨fun _ => rfl, ⟨fun _ => c_rf r0, ⟨fun _ => rfl, ⟨fun _ => rfl, ⟨fun _ => rfl, ⟨fun _ => rfl, ⟨fun _ => rfl, ⟨fun _ => rfl, trivial⟩⟩⟩⟩⟩⟩⟩⟩) (by decide) rfl ?_
                                      refine x_iinc (i := 6) (v := (v82 + (1 : Int32))) (l' := [(6, .int (v82 + (1 : Int32))), (4, .int (1 : Int32)), (9, .int v85), (0, va_rf r0), (1, .int i1), (2, .int v80), (3, .int v81), (7, .int v83), (8, .int v84)]) hC dL_isAhead_368 6 rfl rfl (⟨fun _ => rfl, ⟨fun _ => rfl, ⟨fun _ => c_rf r0, ⟨fun _ => rfl, ⟨fun _ => rfl, ⟨fun _ => rfl, ⟨fun _ => rfl, ⟨fun _ => rfl, ⟨fun _ => rfl, trivial⟩⟩⟩⟩⟩⟩⟩⟩⟩) (by decide) rfl ?_
                                      refine x_goto (t := 130) hC dL_isAhead_371 (by decide) ?_
                                      refine x_sub (l' := [(0, va_rf r0), (1, .int i1), (2, .int v80), (3, .int v81), (4, .int (1 : Int32)), (6, .int (v82 + (1 : Int32)))]) [3, 4, 5, 6, 1, 0] rfl ?_
                                      have hb := bk_x h hg_130
                                      exact hb
                              · replace h := it_f c87 h
                                refine x_iload (i := 7) hC dL_isAhead_260 6 rfl ?_
                                refine x_iconst (v := (4 : Int32)) hC dL_isAhead_262 (by decide) ?_
                                refine x_icmp_lt (t := 270) hC dL_isAhead_263 (by decide) (fun c91 => ?_) (fun c91 => ?_)
                                · replace h := it_t c91 h
                                  refine x_iconst (v := (0 : Int32)) hC dL_isAhead_270 (by decide) ?_
                                  refine x_sub (l' := [(0, va_rf r0), (1, .int i1), (2, .int v80), (3, .int v81), (6, .int v82), (7, .int v83), (9, .int v85)]) [1, 2, 3, 4, 5, 6, 0] rfl ?_
                                  exact J_271 _ _ _ _ _ _ _ h
                                · replace h := it_f c91 h
                                  refine x_iconst (v := (1 : Int32)) hC dL_isAhead_266 (by decide) ?_
                                  refine x_goto (t := 271) hC dL_isAhead_267 (by decide) ?_
                                  refine x_sub (l' := [(0, va_rf r0), (1, .int i1), (2, .int v80), (3, .int v81), (6, .int v82), (7, .int v83), (9, .int v85)]) [1, 2, 3, 4, 5, 6, 0] rfl ?_
                                  exact J_271 _ _ _ _ _ _ _ h
                            have J_230 : ∀ (v66 : Int32) (v67 : Int32) (v68 : Int32) (v69 : Int32) (v70 : Int32) (S71 : PH), j_L_isAhead_230 r0 i1 v66 v67 v68 v69 v70 S71 = some x_130 → PX Z 10 S71 0 0 230 [(0, va_rf r0), (1, .int i1), (2, .int v66), (3, .int v67), (6, .int v68), (7, .int v69)] [.int v70] := by
                              intro v66 v67 v68 v69 v70 S71 h
                              unfold j_L_isAhead_230 at h
                              refine x_istore (i := 8) (l' := [(8, .int v70), (0, va_rf r0), (1, .int i1), (2, .int v66), (3, .int v67), (6, .int v68), (7, .int v69)]) hC dL_isAhead_230 (⟨fun _ => c_rf r0, ⟨fun _ => rfl, ⟨fun _ => rfl, ⟨fun _ => rfl, ⟨fun _ => rfl, ⟨fun _ => rfl, trivial⟩⟩⟩⟩⟩⟩) (by decide) rfl ?_
                              refine x_aload_n (i := 0) hC dL_isAhead_232 rfl 1 rfl ?_
                              refine x_iload (i := 6) hC dL_isAhead_233 5 rfl ?_
                              refine x_bipush (v := (8 : Int32)) hC dL_isAhead_235 (by decide) ?_
                              replace h := dr_el h
                              obtain ⟨a72, ea73, ha74, h⟩ := h
                              replace h := bt_el h
                              obtain ⟨v75, S76, hb156, h⟩ | ⟨j77, S78, hb156, h⟩ := h
                              · refine x_callV hC (st := []) (mtr_X4_personOf _ _ _ _ (v75, S76) hb156) ea73 ha74 kf_4 q_506 q_507 q_508 q_1 q_509 ⟨rfl, hy_X4_personOf⟩ ⟨Nat.le_of_ble_eq_true rfl, Nat.le_of_ble_eq_true rfl⟩ ⟨Nat.le_of_ble_eq_true rfl, Nat.le_of_ble_eq_true rfl⟩ rfl (Nat.le_of_ble_eq_true rfl) dL_isAhead_237 (r_N ?_) r_NX
                                show PX Z 10 S76 0 0 240 [(8, .int v70), (0, va_rf r0), (1, .int i1), (2, .int v66), (3, .int v67), (6, .int v68), (7, .int v69)] [.int v75]
                                refine x_iload_n (i := 1) hC dL_isAhead_240 rfl 2 rfl ?_
                                refine x_ishr hC dL_isAhead_241 ?_
                                refine x_iconst (v := (1 : Int32)) hC dL_isAhead_242 (by decide) ?_
                                refine x_iand hC dL_isAhead_243 ?_
                                refine x_iconst (v := (1 : Int32)) hC dL_isAhead_244 (by decide) ?_
                                refine x_icmp_ne (t := 252) hC dL_isAhead_245 (by decide) (fun c79 => ?_) (fun c79 => ?_)
                                · replace h := it_f c79 h
                                  refine x_iconst (v := (0 : Int32)) hC dL_isAhead_252 (by decide) ?_
                                  refine x_sub (l' := [(0, va_rf r0), (1, .int i1), (2, .int v66), (3, .int v67), (6, .int v68), (7, .int v69), (8, .int v70)]) [1, 2, 3, 4, 5, 6, 0] rfl ?_
                                  exact J_253 _ _ _ _ _ _ _ h
                                · replace h := it_t c79 h
                                  refine x_iconst (v := (1 : Int32)) hC dL_isAhead_248 (by decide) ?_
                                  refine x_goto (t := 253) hC dL_isAhead_249 (by decide) ?_
                                  refine x_sub (l' := [(0, va_rf r0), (1, .int i1), (2, .int v66), (3, .int v67), (6, .int v68), (7, .int v69), (8, .int v70)]) [1, 2, 3, 4, 5, 6, 0] rfl ?_
                                  exact J_253 _ _ _ _ _ _ _ h
                              · replace h := ir_x h hg_130; exact z_no hyr (Option.some.inj h)
                            unfold st_L_isAhead_130 at h
                            refine x_iload (i := 6) hC dL_isAhead_130 5 rfl ?_
                            refine x_bipush (v := (8 : Int32)) hC dL_isAhead_132 (by decide) ?_
                            refine x_icmp_ge (t := 374) hC dL_isAhead_134 (by decide) (fun c789 => ?_) (fun c789 => ?_)
                            · replace h := it_t c789 h
                              replace h := ir_x h hg_130
                              refine x_sub (l' := [(0, va_rf r0), (1, .int i1), (2, .int v784), (4, .int v786)]) [0, 1, 2, 4] rfl ?_
                              exact J_374 _ _ _ h
                            · replace h := it_f c789 h
                              refine x_iload (i := 4) hC dL_isAhead_137 4 rfl ?_
                              refine x_if_eq (t := 374) hC dL_isAhead_139 (by decide) (fun c790 => ?_) (fun c790 => ?_)
                              · replace h := it_t c790 h
                                replace h := ir_x h hg_130
                                refine x_sub (l' := [(0, va_rf r0), (1, .int i1), (2, .int v784), (4, .int v786)]) [0, 1, 2, 4] rfl ?_
                                exact J_374 _ _ _ h
                              · replace h := it_f c790 h
                                refine x_aload_n (i := 0) hC dL_isAhead_142 rfl 0 rfl ?_
                                refine x_iload (i := 6) hC dL_isAhead_143 5 rfl ?_
                                refine x_iload_n (i := 1) hC dL_isAhead_145 rfl 1 rfl ?_
                                replace h := dr_el h
                                obtain ⟨a791, ea792, ha793, h⟩ := h
                                replace h := bt_el h
                                obtain ⟨v794, S795, hb868, h⟩ | ⟨j796, S797, hb868, h⟩ := h
                                · refine x_callV hC (st := []) (mtr_X4_whyNot _ _ _ _ (v794, S795) hb868) ea792 ha793 kf_4 q_445 q_446 q_447 q_1 q_448 ⟨rfl, hy_X4_whyNot⟩ ⟨Nat.le_of_ble_eq_true rfl, Nat.le_of_ble_eq_true rfl⟩ ⟨Nat.le_of_ble_eq_true rfl, Nat.le_of_ble_eq_true rfl⟩ rfl (Nat.le_of_ble_eq_true rfl) dL_isAhead_146 (r_N ?_) r_NX
                                  show PX Z 10 S795 0 0 149 [(0, va_rf r0), (1, .int i1), (2, .int v784), (3, .int v785), (4, .int v786), (6, .int v787)] [.int v794]
                                  refine x_istore (i := 7) (l' := [(7, .int v794), (0, va_rf r0), (1, .int i1), (2, .int v784), (3, .int v785), (4, .int v786), (6, .int v787)]) hC dL_isAhead_149 (⟨fun _ => c_rf r0, ⟨fun _ => rfl, ⟨fun _ => rfl, ⟨fun _ => rfl, ⟨fun _ => rfl, ⟨fun _ => rfl, trivial⟩⟩⟩⟩⟩⟩) (by decide) rfl ?_
                                  refine x_iload_n (i := 3) hC dL_isAhead_151 rfl 4 rfl ?_
                                  refine x_if_lt (t := 229) hC dL_isAhead_152 (by decide) (fun c798 => ?_) (fun c798 => ?_)
                                  · replace h := it_t c798 h
                                    refine x_iconst (v := (0 : Int32)) hC dL_isAhead_229 (by decide) ?_
                                    refine x_sub (l' := [(0, va_rf r0), (1, .int i1), (2, .int v784), (3, .int v785), (6, .int v787), (7, .int v794)]) [1, 2, 3, 4, 6, 0] rfl ?_
                                    exact J_230 _ _ _ _ _ _ h
                                  · replace h := it_f c798 h
                                    refine x_aload_n (i := 0) hC dL_isAhead_155 rfl 1 rfl ?_
                                    refine x_iload (i := 6) hC dL_isAhead_156 6 rfl ?_
                                    refine x_iconst (v := (3 : Int32)) hC dL_isAhead_158 (by decide) ?_
                                    replace h := dr_el h
                                    obtain ⟨a799, ea800, ha801, h⟩ := h
                                    replace h := bt_el h
                                    obtain ⟨v802, S803, hb867, h⟩ | ⟨j804, S805, hb867, h⟩ := h
                                    · refine x_callV hC (st := []) (mtr_X4_personOf _ _ _ _ (v802, S803) hb867) ea800 ha801 kf_4 q_506 q_507 q_508 q_1 q_509 ⟨rfl, hy_X4_personOf⟩ ⟨Nat.le_of_ble_eq_true rfl, Nat.le_of_ble_eq_true rfl⟩ ⟨Nat.le_of_ble_eq_true rfl, Nat.le_of_ble_eq_true rfl⟩ rfl (Nat.le_of_ble_eq_true rfl) dL_isAhead_159 (r_N ?_) r_NX
                                      show PX Z 10 S803 0 0 162 [(7, .int v794), (0, va_rf r0), (1, .int i1), (2, .int v784), (3, .int v785), (4, .int v786), (6, .int v787)] [.int v802]
                                      refine x_aload_n (i := 0) hC dL_isAhead_162 rfl 1 rfl ?_
                                      refine x_iload_n (i := 3) hC dL_isAhead_163 rfl 4 rfl ?_
                                      refine x_iconst (v := (3 : Int32)) hC dL_isAhead_164 (by decide) ?_
                                      replace h := dr_el h
                                      obtain ⟨a806, ea807, ha808, h⟩ := h
                                      replace h := bt_el h
                                      obtain ⟨v809, S810, hb866, h⟩ | ⟨j811, S812, hb866, h⟩ := h
                                      · refine x_callV hC (st := [.int v802]) (mtr_X4_personOf _ _ _ _ (v809, S810) hb866) ea807 ha808 kf_4 q_506 q_507 q_508 q_1 q_509 ⟨rfl, hy_X4_personOf⟩ ⟨Nat.le_of_ble_eq_true rfl, Nat.le_of_ble_eq_true rfl⟩ ⟨Nat.le_of_ble_eq_true rfl, Nat.le_of_ble_eq_true rfl⟩ rfl (Nat.le_of_ble_eq_true rfl) dL_isAhead_165 (r_N ?_) r_NX
                                        show PX Z 10 S810 0 0 168 [(7, .int v794), (0, va_rf r0), (1, .int i1), (2, .int v784), (3, .int v785), (4, .int v786), (6, .int v787)] [.int v809, .int v802]
                                        refine x_icmp_lt (t := 225) hC dL_isAhead_168 (by decide) (fun c813 => ?_) (fun c813 => ?_)
                                        · replace h := it_t c813 h
                                          refine x_iconst (v := (1 : Int32)) hC dL_isAhead_225 (by decide) ?_
                                          refine x_goto (t := 230) hC dL_isAhead_226 (by decide) ?_
                                          refine x_sub (l' := [(0, va_rf r0), (1, .int i1), (2, .int v784), (3, .int v785), (6, .int v787), (7, .int v794)]) [1, 2, 3, 4, 6, 0] rfl ?_
                                          exact J_230 _ _ _ _ _ _ h
                                        · replace h := it_f c813 h
                                          refine x_aload_n (i := 0) hC dL_isAhead_171 rfl 1 rfl ?_
                                          refine x_iload (i := 6) hC dL_isAhead_172 6 rfl ?_
                                          refine x_iconst (v := (3 : Int32)) hC dL_isAhead_174 (by decide) ?_
                                          replace h := dr_el h
                                          obtain ⟨a814, ea815, ha816, h⟩ := h
                                          replace h := bt_el h
                                          obtain ⟨v817, S818, hb865, h⟩ | ⟨j819, S820, hb865, h⟩ := h
                                          · refine x_callV hC (st := []) (mtr_X4_personOf _ _ _ _ (v817, S818) hb865) ea815 ha816 kf_4 q_506 q_507 q_508 q_1 q_509 ⟨rfl, hy_X4_personOf⟩ ⟨Nat.le_of_ble_eq_true rfl, Nat.le_of_ble_eq_true rfl⟩ ⟨Nat.le_of_ble_eq_true rfl, Nat.le_of_ble_eq_true rfl⟩ rfl (Nat.le_of_ble_eq_true rfl) dL_isAhead_175 (r_N ?_) r_NX
                                            show PX Z 10 S818 0 0 178 [(7, .int v794), (0, va_rf r0), (1, .int i1), (2, .int v784), (3, .int v785), (4, .int v786), (6, .int v787)] [.int v817]
                                            refine x_aload_n (i := 0) hC dL_isAhead_178 rfl 1 rfl ?_
                                            refine x_iload_n (i := 3) hC dL_isAhead_179 rfl 4 rfl ?_
                                            refine x_iconst (v := (3 : Int32)) hC dL_isAhead_180 (by decide) ?_
                                            replace h := dr_el h
                                            obtain ⟨a821, ea822, ha823, h⟩ := h
                                            replace h := bt_el h
                                            obtain ⟨v824, S825, hb864, h⟩ | ⟨j826, S827, hb864, h⟩ := h
                                            · refine x_callV hC (st := [.int v817]) (mtr_X4_personOf _ _ _ _ (v824, S825) hb864) ea822 ha823 kf_4 q_506 q_507 q_508 q_1 q_509 ⟨rfl, hy_X4_personOf⟩ ⟨Nat.le_of_ble_eq_true rfl, Nat.le_of_ble_eq_true rfl⟩ ⟨Nat.le_of_ble_eq_true rfl, Nat.le_of_ble_eq_true rfl⟩ rfl (Nat.le_of_ble_eq_true rfl) dL_isAhead_181 (r_N ?_) r_NX
                                              show PX Z 10 S825 0 0 184 [(7, .int v794), (0, va_rf r0), (1, .int i1), (2, .int v784), (3, .int v785), (4, .int v786), (6, .int v787)] [.int v824, .int v817]
                                              refine x_icmp_ne (t := 229) hC dL_isAhead_184 (by decide) (fun c828 => ?_) (fun c828 => ?_)
                                              · replace h := it_f c828 h
                                                refine x_iconst (v := (0 : Int32)) hC dL_isAhead_229 (by decide) ?_
                                                refine x_sub (l' := [(0, va_rf r0), (1, .int i1), (2, .int v784), (3, .int v785), (6, .int v787), (7, .int v794)]) [1, 2, 3, 4, 6, 0] rfl ?_
                                                exact J_230 _ _ _ _ _ _ h
                                              · replace h := it_t c828 h
                                                refine x_aload_n (i := 0) hC dL_isAhead_187 rfl 1 rfl ?_
                                                refine x_iload (i := 6) hC dL_isAhead_188 6 rfl ?_
                                                refine x_iconst (v := (0 : Int32)) hC dL_isAhead_190 (by decide) ?_
                                                replace h := dr_el h
                                                obtain ⟨a829, ea830, ha831, h⟩ := h
                                                replace h := bt_el h
                                                obtain ⟨v832, S833, hb863, h⟩ | ⟨j834, S835, hb863, h⟩ := h
                                                · refine x_callV hC (st := []) (mtr_X4_personOf _ _ _ _ (v832, S833) hb863) ea830 ha831 kf_4 q_506 q_507 q_508 q_1 q_509 ⟨rfl, hy_X4_personOf⟩ ⟨Nat.le_of_ble_eq_true rfl, Nat.le_of_ble_eq_true rfl⟩ ⟨Nat.le_of_ble_eq_true rfl, Nat.le_of_ble_eq_true rfl⟩ rfl (Nat.le_of_ble_eq_true rfl) dL_isAhead_191 (r_N ?_) r_NX
                                                  show PX Z 10 S833 0 0 194 [(7, .int v794), (0, va_rf r0), (1, .int i1), (2, .int v784), (3, .int v785), (4, .int v786), (6, .int v787)] [.int v832]
                                                  refine x_aload_n (i := 0) hC dL_isAhead_194 rfl 1 rfl ?_
                                                  refine x_iload_n (i := 3) hC dL_isAhead_195 rfl 4 rfl ?_
                                                  refine x_iconst (v := (0 : Int32)) hC dL_isAhead_196 (by decide) ?_
                                                  replace h := dr_el h
                                                  obtain ⟨a836, ea837, ha838, h⟩ := h
                                                  replace h := bt_el h
                                                  obtain ⟨v839, S840, hb862, h⟩ | ⟨j841, S842, hb862, h⟩ := h
                                                  · refine x_callV hC (st := [.int v832]) (mtr_X4_personOf _ _ _ _ (v839, S840) hb862) ea837 ha838 kf_4 q_506 q_507 q_508 q_1 q_509 ⟨rfl, hy_X4_personOf⟩ ⟨Nat.le_of_ble_eq_true rfl, Nat.le_of_ble_eq_true rfl⟩ ⟨Nat.le_of_ble_eq_true rfl, Nat.le_of_ble_eq_true rfl⟩ rfl (Nat.le_of_ble_eq_true rfl) dL_isAhead_197 (r_N ?_) r_NX
                                                    show PX Z 10 S840 0 0 200 [(7, .int v794), (0, va_rf r0), (1, .int i1), (2, .int v784), (3, .int v785), (4, .int v786), (6, .int v787)] [.int v839, .int v832]
                                                    refine x_icmp_gt (t := 225) hC dL_isAhead_200 (by decide) (fun c843 => ?_) (fun c843 => ?_)
                                                    · replace h := it_t c843 h
                                                      refine x_iconst (v := (1 : Int32)) hC dL_isAhead_225 (by decide) ?_
                                                      refine x_goto (t := 230) hC dL_isAhead_226 (by decide) ?_
                                                      refine x_sub (l' := [(0, va_rf r0), (1, .int i1), (2, .int v784), (3, .int v785), (6, .int v787), (7, .int v794)]) [1, 2, 3, 4, 6, 0] rfl ?_
                                                      exact J_230 _ _ _ _ _ _ h
                                                    · replace h := it_f c843 h
                                                      refine x_aload_n (i := 0) hC dL_isAhead_203 rfl 1 rfl ?_
                                                      refine x_iload (i := 6) hC dL_isAhead_204 6 rfl ?_
                                                      refine x_iconst (v := (0 : Int32)) hC dL_isAhead_206 (by decide) ?_
                                                      replace h := dr_el h
                                                      obtain ⟨a844, ea845, ha846, h⟩ := h
                                                      replace h := bt_el h
                                                      obtain ⟨v847, S848, hb861, h⟩ | ⟨j849, S850, hb861, h⟩ := h
                                                      · refine x_callV hC (st := []) (mtr_X4_personOf _ _ _ _ (v847, S848) hb861) ea845 ha846 kf_4 q_506 q_507 q_508 q_1 q_509 ⟨rfl, hy_X4_personOf⟩ ⟨Nat.le_of_ble_eq_true rfl, Nat.le_of_ble_eq_true rfl⟩ ⟨Nat.le_of_ble_eq_true rfl, Nat.le_of_ble_eq_true rfl⟩ rfl (Nat.le_of_ble_eq_true rfl) dL_isAhead_207 (r_N ?_) r_NX
                                                        show PX Z 10 S848 0 0 210 [(7, .int v794), (0, va_rf r0), (1, .int i1), (2, .int v784), (3, .int v785), (4, .int v786), (6, .int v787)] [.int v847]
                                                        refine x_aload_n (i := 0) hC dL_isAhead_210 rfl 1 rfl ?_
                                                        refine x_iload_n (i := 3) hC dL_isAhead_211 rfl 4 rfl ?_
                                                        refine x_iconst (v := (0 : Int32)) hC dL_isAhead_212 (by decide) ?_
                                                        replace h := dr_el h
                                                        obtain ⟨a851, ea852, ha853, h⟩ := h
                                                        replace h := bt_el h
                                                        obtain ⟨v854, S855, hb860, h⟩ | ⟨j856, S857, hb860, h⟩ := h
                                                        · refine x_callV hC (st := [.int v847]) (mtr_X4_personOf _ _ _ _ (v854, S855) hb860) ea852 ha853 kf_4 q_506 q_507 q_508 q_1 q_509 ⟨rfl, hy_X4_personOf⟩ ⟨Nat.le_of_ble_eq_true rfl, Nat.le_of_ble_eq_true rfl⟩ ⟨Nat.le_of_ble_eq_true rfl, Nat.le_of_ble_eq_true rfl⟩ rfl (Nat.le_of_ble_eq_true rfl) dL_isAhead_213 (r_N ?_) r_NX
                                                          show PX Z 10 S855 0 0 216 [(7, .int v794), (0, va_rf r0), (1, .int i1), (2, .int v784), (3, .int v785), (4, .int v786), (6, .int v787)] [.int v854, .int v847]
                                                          refine x_icmp_ne (t := 229) hC dL_isAhead_216 (by decide) (fun c858 => ?_) (fun c858 => ?_)
                                                          · replace h := it_f c858 h
                                                            refine x_iconst (v := (0 : Int32)) hC dL_isAhead_229 (by decide) ?_
                                                            refine x_sub (l' := [(0, va_rf r0), (1, .int i1), (2, .int v784), (3, .int v785), (6, .int v787), (7, .int v794)]) [1, 2, 3, 4, 6, 0] rfl ?_
                                                            exact J_230 _ _ _ _ _ _ h
                                                          · replace h := it_t c858 h
                                                            refine x_iload (i := 6) hC dL_isAhead_219 6 rfl ?_
                                                            refine x_iload_n (i := 3) hC dL_isAhead_221 rfl 4 rfl ?_
                                                            refine x_icmp_ge (t := 229) hC dL_isAhead_222 (by decide) (fun c859 => ?_) (fun c859 => ?_)
                                                            · replace h := it_t c859 h
                                                              refine x_iconst (v := (0 : Int32)) hC dL_isAhead_229 (by decide) ?_
                                                              refine x_sub (l' := [(0, va_rf r0), (1, .int i1), (2, .int v784), (3, .int v785), (6, .int v787), (7, .int v794)]) [1, 2, 3, 4, 6, 0] rfl ?_
                                                              exact J_230 _ _ _ _ _ _ h
                                                            · replace h := it_f c859 h
                                                              refine x_iconst (v := (1 : Int32)) hC dL_isAhead_225 (by decide) ?_
                                                              refine x_goto (t := 230) hC dL_isAhead_226 (by decide) ?_
                                                              refine x_sub (l' := [(0, va_rf r0), (1, .int i1), (2, .int v784), (3, .int v785), (6, .int v787), (7, .int v794)]) [1, 2, 3, 4, 6, 0] rfl ?_
                                                              exact J_230 _ _ _ _ _ _ h
                                                        · replace h := ir_x h hg_130; exact z_no hyr (Option.some.inj h)
                                                      · replace h := ir_x h hg_130; exact z_no hyr (Option.some.inj h)
                                                  · replace h := ir_x h hg_130; exact z_no hyr (Option.some.inj h)
                                                · replace h := ir_x h hg_130; exact z_no hyr (Option.some.inj h)
                                            · replace h := ir_x h hg_130; exact z_no hyr (Option.some.inj h)
                                          · replace h := ir_x h hg_130; exact z_no hyr (Option.some.inj h)
                                      · replace h := ir_x h hg_130; exact z_no hyr (Option.some.inj h)
                                    · replace h := ir_x h hg_130; exact z_no hyr (Option.some.inj h)
                                · replace h := ir_x h hg_130; exact z_no hyr (Option.some.inj h)
                          · replace h := it_f c783 h
                            refine x_iload (i := 5) hC dL_isAhead_106 5 rfl ?_
                            refine x_iload_n (i := 2) hC dL_isAhead_108 rfl 2 rfl ?_
                            refine x_if_le (t := 116) hC dL_isAhead_109 (by decide) (fun c869 => ?_) (fun c869 => ?_)
                            · replace h := it_t c869 h
                              refine x_iconst (v := (0 : Int32)) hC dL_isAhead_116 (by decide) ?_
                              refine x_sub (l' := [(0, va_rf r0), (1, .int i1), (2, .int v769), (3, .int v770)]) [0, 1, 2, 3] rfl ?_
                              exact J_117 _ _ _ _ _ h
                            · replace h := it_f c869 h
                              refine x_iconst (v := (1 : Int32)) hC dL_isAhead_112 (by decide) ?_
                              refine x_goto (t := 117) hC dL_isAhead_113 (by decide) ?_
                              refine x_sub (l' := [(0, va_rf r0), (1, .int i1), (2, .int v769), (3, .int v770)]) [0, 1, 2, 3] rfl ?_
                              exact J_117 _ _ _ _ _ h
                        · replace h := it_f c782 h
                          refine x_iload (i := 5) hC dL_isAhead_73 5 rfl ?_
                          refine x_if_ne (t := 88) hC dL_isAhead_75 (by decide) (fun c870 => ?_) (fun c870 => ?_)
                          · replace h := it_f c870 h
                            refine x_iconst (v := (1 : Int32)) hC dL_isAhead_88 (by decide) ?_
                            refine x_goto (t := 93) hC dL_isAhead_89 (by decide) ?_
                            refine x_istore (i := 5) (l' := [(5, .int (1 : Int32)), (0, va_rf r0), (1, .int i1), (2, .int v769), (3, .int v770), (4, .int v771), (6, .int v773)]) hC dL_isAhead_93 (⟨fun _ => c_rf r0, ⟨fun _ => rfl, ⟨fun _ => rfl, ⟨fun _ => rfl, ⟨fun _ => rfl, ⟨fun _ => rfl, ⟨fun _ => rfl, trivial⟩⟩⟩⟩⟩⟩⟩) (by decide) rfl ?_
                            refine x_iinc (i := 6) (v := (v773 + (1 : Int32))) (l' := [(6, .int (v773 + (1 : Int32))), (5, .int (1 : Int32)), (0, va_rf r0), (1, .int i1), (2, .int v769), (3, .int v770), (4, .int v771)]) hC dL_isAhead_95 6 rfl rfl (⟨fun _ => rfl, ⟨fun _ => c_rf r0, ⟨fun _ => rfl, ⟨fun _ => rfl, ⟨fun _ => rfl, ⟨fun _ => rfl, ⟨fun _ => rfl, trivial⟩⟩⟩⟩⟩⟩⟩) (by decide) rfl ?_
                            refine x_goto (t := 63) hC dL_isAhead_98 (by decide) ?_
                            refine x_sub (l' := [(0, va_rf r0), (1, .int i1), (2, .int v769), (3, .int v770), (4, .int v771), (5, .int (1 : Int32)), (6, .int (v773 + (1 : Int32)))]) [2, 3, 4, 5, 6, 1, 0] rfl ?_
                            have hb := bk_x h hg_63
                            exact hb
                          · replace h := it_t c870 h
                            refine x_aload_n (i := 0) hC dL_isAhead_78 rfl 0 rfl ?_
                            refine x_iload (i := 6) hC dL_isAhead_79 6 rfl ?_
                            replace h := dr_el h
                            obtain ⟨a871, ea872, ha873, h⟩ := h
                            replace h := bt_el h
                            obtain ⟨v874, S875, hb879, h⟩ | ⟨j876, S877, hb879, h⟩ := h
                            · refine x_callV hC (st := []) (mtr_X4_bestReviewer _ _ _ (v874, S875) hb879) ea872 ha873 kf_4 q_688 q_689 q_690 q_1 q_691 ⟨rfl, hy_X4_bestReviewer⟩ ⟨Nat.le_of_ble_eq_true rfl, Nat.le_of_ble_eq_true rfl⟩ ⟨Nat.le_of_ble_eq_true rfl, Nat.le_of_ble_eq_true rfl⟩ rfl (Nat.le_of_ble_eq_true rfl) dL_isAhead_81 (r_N ?_) r_NX
                              show PX Z 10 S875 0 0 84 [(0, va_rf r0), (1, .int i1), (2, .int v769), (3, .int v770), (4, .int v771), (5, .int v772), (6, .int v773)] [.int v874]
                              refine x_iconst (v := (-1 : Int32)) hC dL_isAhead_84 (by decide) ?_
                              refine x_icmp_eq (t := 92) hC dL_isAhead_85 (by decide) (fun c878 => ?_) (fun c878 => ?_)
                              · replace h := it_t c878 h
                                refine x_iconst (v := (0 : Int32)) hC dL_isAhead_92 (by decide) ?_
                                refine x_istore (i := 5) (l' := [(5, .int (0 : Int32)), (0, va_rf r0), (1, .int i1), (2, .int v769), (3, .int v770), (4, .int v771), (6, .int v773)]) hC dL_isAhead_93 (⟨fun _ => c_rf r0, ⟨fun _ => rfl, ⟨fun _ => rfl, ⟨fun _ => rfl, ⟨fun _ => rfl, ⟨fun _ => rfl, ⟨fun _ => rfl, trivial⟩⟩⟩⟩⟩⟩⟩) (by decide) rfl ?_
                                refine x_iinc (i := 6) (v := (v773 + (1 : Int32))) (l' := [(6, .int (v773 + (1 : Int32))), (5, .int (0 : Int32)), (0, va_rf r0), (1, .int i1), (2, .int v769), (3, .int v770), (4, .int v771)]) hC dL_isAhead_95 6 rfl rfl (⟨fun _ => rfl, ⟨fun _ => c_rf r0, ⟨fun _ => rfl, ⟨fun _ => rfl, ⟨fun _ => rfl, ⟨fun _ => rfl, ⟨fun _ => rfl, trivial⟩⟩⟩⟩⟩⟩⟩) (by decide) rfl ?_
                                refine x_goto (t := 63) hC dL_isAhead_98 (by decide) ?_
                                refine x_sub (l' := [(0, va_rf r0), (1, .int i1), (2, .int v769), (3, .int v770), (4, .int v771), (5, .int (0 : Int32)), (6, .int (v773 + (1 : Int32)))]) [2, 3, 4, 5, 6, 1, 0] rfl ?_
                                have hb := bk_x h hg_63
                                exact hb
                              · replace h := it_f c878 h
                                refine x_iconst (v := (1 : Int32)) hC dL_isAhead_88 (by decide) ?_
                                refine x_goto (t := 93) hC dL_isAhead_89 (by decide) ?_
                                refine x_istore (i := 5) (l' := [(5, .int (1 : Int32)), (0, va_rf r0), (1, .int i1), (2, .int v769), (3, .int v770), (4, .int v771), (6, .int v773)]) hC dL_isAhead_93 (⟨fun _ => c_rf r0, ⟨fun _ => rfl, ⟨fun _ => rfl, ⟨fun _ => rfl, ⟨fun _ => rfl, ⟨fun _ => rfl, ⟨fun _ => rfl, trivial⟩⟩⟩⟩⟩⟩⟩) (by decide) rfl ?_
                                refine x_iinc (i := 6) (v := (v773 + (1 : Int32))) (l' := [(6, .int (v773 + (1 : Int32))), (5, .int (1 : Int32)), (0, va_rf r0), (1, .int i1), (2, .int v769), (3, .int v770), (4, .int v771)]) hC dL_isAhead_95 6 rfl rfl (⟨fun _ => rfl, ⟨fun _ => c_rf r0, ⟨fun _ => rfl, ⟨fun _ => rfl, ⟨fun _ => rfl, ⟨fun _ => rfl, ⟨fun _ => rfl, trivial⟩⟩⟩⟩⟩⟩⟩) (by decide) rfl ?_
                                refine x_goto (t := 63) hC dL_isAhead_98 (by decide) ?_
                                refine x_sub (l' := [(0, va_rf r0), (1, .int i1), (2, .int v769), (3, .int v770), (4, .int v771), (5, .int (1 : Int32)), (6, .int (v773 + (1 : Int32)))]) [2, 3, 4, 5, 6, 1, 0] rfl ?_
                                have hb := bk_x h hg_63
                                exact hb
                            · replace h := ir_x h hg_63; exact z_no hyr (Option.some.inj h)
                      · replace h := ir_x h hg_63; exact z_no hyr (Option.some.inj h)
                    · replace h := it_t c768 h
                      refine x_iconst (v := (1 : Int32)) hC dL_isAhead_50 (by decide) ?_
                      refine x_goto (t := 55) hC dL_isAhead_51 (by decide) ?_
                      refine x_istore (i := 4) (l' := [(4, .int (1 : Int32)), (3, .int v11), (2, .int v4), (0, va_rf r0), (1, .int i1)]) hC dL_isAhead_55 (⟨fun _ => rfl, ⟨fun _ => rfl, ⟨fun _ => c_rf r0, ⟨fun _ => rfl, trivial⟩⟩⟩⟩) (by decide) rfl ?_
                      refine x_iconst (v := (0 : Int32)) hC dL_isAhead_57 (by decide) ?_
                      refine x_istore (i := 5) (l' := [(5, .int (0 : Int32)), (4, .int (1 : Int32)), (3, .int v11), (2, .int v4), (0, va_rf r0), (1, .int i1)]) hC dL_isAhead_58 (⟨fun _ => rfl, ⟨fun _ => rfl, ⟨fun _ => rfl, ⟨fun _ => c_rf r0, ⟨fun _ => rfl, trivial⟩⟩⟩⟩⟩) (by decide) rfl ?_
                      refine x_iconst (v := (0 : Int32)) hC dL_isAhead_60 (by decide) ?_
                      refine x_istore (i := 6) (l' := [(6, .int (0 : Int32)), (5, .int (0 : Int32)), (4, .int (1 : Int32)), (3, .int v11), (2, .int v4), (0, va_rf r0), (1, .int i1)]) hC dL_isAhead_61 (⟨fun _ => rfl, ⟨fun _ => rfl, ⟨fun _ => rfl, ⟨fun _ => rfl, ⟨fun _ => c_rf r0, ⟨fun _ => rfl, trivial⟩⟩⟩⟩⟩⟩) (by decide) rfl ?_
                      refine x_sub (l' := [(0, va_rf r0), (1, .int i1), (2, .int v4), (3, .int v11), (4, .int (1 : Int32)), (5, .int (0 : Int32)), (6, .int (0 : Int32))]) [5, 6, 4, 3, 2, 1, 0] rfl ?_
                      refine lp_sim (P := fun (t : (Int32 × Int32 × Int32 × Int32 × Int32 × PH)) => PX Z 10 t.2.2.2.2.2 0 0 63 [(0, va_rf r0), (1, .int i1), (2, .int t.1), (3, .int t.2.1), (4, .int t.2.2.1), (5, .int t.2.2.2.1), (6, .int t.2.2.2.2.1)] []) (G := fun r => r = y) ?_ h rfl
                      clear h
                      intro t x_63 h hg_63
                      obtain ⟨v881, v882, v883, v884, v885, S886⟩ := t
                      show PX Z 10 S886 0 0 63 [(0, va_rf r0), (1, .int i1), (2, .int v881), (3, .int v882), (4, .int v883), (5, .int v884), (6, .int v885)] []
                      unfold st_L_isAhead_63 at h
                      refine x_iload (i := 6) hC dL_isAhead_63 6 rfl ?_
                      refine x_aload_n (i := 0) hC dL_isAhead_65 rfl 0 rfl ?_
                      refine x_iconst (v := (0 : Int32)) hC dL_isAhead_66 (by decide) ?_
                      replace h := dr_el h
                      obtain ⟨a887, ea888, ha889, h⟩ := h
                      replace h := bt_el h
                      obtain ⟨v890, S891, hb992, h⟩ | ⟨j892, S893, hb992, h⟩ := h
                      · refine x_callV hC (st := [.int v885]) (mtr_X4_count _ _ _ (v890, S891) hb992) ea888 ha889 kf_4 q_406 q_407 q_408 q_1 q_409 ⟨rfl, hy_X4_count⟩ ⟨Nat.le_of_ble_eq_true rfl, Nat.le_of_ble_eq_true rfl⟩ ⟨Nat.le_of_ble_eq_true rfl, Nat.le_of_ble_eq_true rfl⟩ rfl (Nat.le_of_ble_eq_true rfl) dL_isAhead_67 (r_N ?_) r_NX
                        show PX Z 10 S891 0 0 70 [(0, va_rf r0), (1, .int i1), (2, .int v881), (3, .int v882), (4, .int v883), (5, .int v884), (6, .int v885)] [.int v890, .int v885]
                        refine x_icmp_ge (t := 101) hC dL_isAhead_70 (by decide) (fun c894 => ?_) (fun c894 => ?_)
                        · replace h := it_t c894 h
                          replace h := ir_x h hg_63
                          refine x_iload (i := 4) hC dL_isAhead_101 4 rfl ?_
                          refine x_if_eq (t := 124) hC dL_isAhead_103 (by decide) (fun c895 => ?_) (fun c895 => ?_)
                          · replace h := it_t c895 h
                            refine x_iconst (v := (0 : Int32)) hC dL_isAhead_124 (by decide) ?_
                            refine x_istore (i := 4) (l' := [(4, .int (0 : Int32)), (0, va_rf r0), (1, .int i1), (2, .int v881), (3, .int v882), (5, .int v884), (6, .int v885)]) hC dL_isAhead_125 (⟨fun _ => c_rf r0, ⟨fun _ => rfl, ⟨fun _ => rfl, ⟨fun _ => rfl, ⟨fun _ => rfl, ⟨fun _ => rfl, ⟨fun _ => rfl, trivial⟩⟩⟩⟩⟩⟩⟩) (by decide) rfl ?_
                            refine x_iconst (v := (0 : Int32)) hC dL_isAhead_127 (by decide) ?_
                            refine x_istore (i := 6) (l' := [(6, .int (0 : Int32)), (4, .int (0 : Int32)), (0, va_rf r0), (1, .int i1), (2, .int v881), (3, .int v882), (5, .int v884)]) hC dL_isAhead_128 (⟨fun _ => rfl, ⟨fun _ => c_rf r0, ⟨fun _ => rfl, ⟨fun _ => rfl, ⟨fun _ => rfl, ⟨fun _ => rfl, ⟨fun _ => rfl, trivial⟩⟩⟩⟩⟩⟩⟩) (by decide) rfl ?_
                            refine x_sub (l' := [(0, va_rf r0), (1, .int i1), (2, .int v881), (3, .int v882), (4, .int (0 : Int32)), (6, .int (0 : Int32))]) [2, 3, 4, 5, 1, 0] rfl ?_
                            refine lp_sim (P := fun (t : (Int32 × Int32 × Int32 × Int32 × PH)) => PX Z 10 t.2.2.2.2 0 0 130 [(0, va_rf r0), (1, .int i1), (2, .int t.1), (3, .int t.2.1), (4, .int t.2.2.1), (6, .int t.2.2.2.1)] []) (G := fun r => r = y) ?_ h rfl
                            clear h
                            intro t x_130 h hg_130
                            obtain ⟨v896, v897, v898, v899, S900⟩ := t
                            show PX Z 10 S900 0 0 130 [(0, va_rf r0), (1, .int i1), (2, .int v896), (3, .int v897), (4, .int v898), (6, .int v899)] []
                            have J_328 : ∀ (v117 : Int32) (v118 : Int32) (v119 : Int32) (v120 : Int32) (v121 : Int32) (S122 : PH), j_L_isAhead_328 r0 i1 v117 v118 v119 v120 v121 S122 = some x_130 → PX Z 10 S122 0 0 328 [(0, va_rf r0), (1, .int i1), (2, .int v117), (3, .int v118), (6, .int v119), (7, .int v120), (9, .int v121)] [] := by
                              intro v117 v118 v119 v120 v121 S122 h
                              unfold j_L_isAhead_328 at h
                              refine x_iload (i := 7) hC dL_isAhead_328 5 rfl ?_
                              refine x_iconst (v := (5 : Int32)) hC dL_isAhead_330 (by decide) ?_
                              refine x_icmp_lt (t := 339) hC dL_isAhead_331 (by decide) (fun c123 => ?_) (fun c123 => ?_)
                              · replace h := it_t c123 h
                                refine x_iconst (v := (1 : Int32)) hC dL_isAhead_339 (by decide) ?_
                                refine x_goto (t := 366) hC dL_isAhead_340 (by decide) ?_
                                refine x_istore (i := 4) (l' := [(4, .int (1 : Int32)), (0, va_rf r0), (1, .int i1), (2, .int v117), (3, .int v118), (6, .int v119), (7, .int v120), (9, .int v121)]) hC dL_isAhead_366 (⟨fun _ => c_rf r0, ⟨fun _ => rfl, ⟨fun _ => rfl, ⟨fun _ => rfl, ⟨fun _ => rfl, ⟨fun _ => rfl, ⟨fun _ => rfl, trivial⟩⟩⟩⟩⟩⟩⟩) (by decide) rfl ?_
                                refine x_iinc (i := 6) (v := (v119 + (1 : Int32))) (l' := [(6, .int (v119 + (1 : Int32))), (4, .int (1 : Int32)), (0, va_rf r0), (1, .int i1), (2, .int v117), (3, .int v118), (7, .int v120), (9, .int v121)]) hC dL_isAhead_368 5 rfl rfl (⟨fun _ => rfl, ⟨fun _ => c_rf r0, ⟨fun _ => rfl, ⟨fun _ => rfl, ⟨fun _ => rfl, ⟨fun _ => rfl, ⟨fun _ => rfl, ⟨fun _ => rfl, trivial⟩⟩⟩⟩⟩⟩⟩⟩) (by decide) rfl ?_
                                refine x_goto (t := 130) hC dL_isAhead_371 (by decide) ?_
                                refine x_sub (l' := [(0, va_rf r0), (1, .int i1), (2, .int v117), (3, .int v118), (4, .int (1 : Int32)), (6, .int (v119 + (1 : Int32)))]) [2, 3, 4, 5, 1, 0] rfl ?_
                                have hb := bk_x h hg_130
                                exact hb
                              · replace h := it_f c123 h
                                refine x_iload (i := 9) hC dL_isAhead_334 6 rfl ?_
                                refine x_if_ne (t := 343) hC dL_isAhead_336 (by decide) (fun c124 => ?_) (fun c124 => ?_)
                                · replace h := it_f c124 h
                                  refine x_iconst (v := (0 : Int32)) hC dL_isAhead_343 (by decide) ?_
                                  refine x_goto (t := 366) hC dL_isAhead_344 (by decide) ?_
                                  refine x_istore (i := 4) (l' := [(4, .int (0 : Int32)), (0, va_rf r0), (1, .int i1), (2, .int v117), (3, .int v118), (6, .int v119), (7, .int v120), (9, .int v121)]) hC dL_isAhead_366 (⟨fun _ => c_rf r0, ⟨fun _ => rfl, ⟨fun _ => rfl, ⟨fun _ => rfl, ⟨fun _ => rfl, ⟨fun _ => rfl, ⟨fun _ => rfl, trivial⟩⟩⟩⟩⟩⟩⟩) (by decide) rfl ?_
                                  refine x_iinc (i := 6) (v := (v119 + (1 : Int32))) (l' := [(6, .int (v119 + (1 : Int32))), (4, .int (0 : Int32)), (0, va_rf r0), (1, .int i1), (2, .int v117), (3, .int v118), (7, .int v120), (9, .int v121)]) hC dL_isAhead_368 5 rfl rfl (⟨fun _ => rfl, ⟨fun _ => c_rf r0, ⟨fun _ => rfl, ⟨fun _ => rfl, ⟨fun _ => rfl, ⟨fun _ => rfl, ⟨fun _ => rfl, ⟨fun _ => rfl, trivial⟩⟩⟩⟩⟩⟩⟩⟩) (by decide) rfl ?_
                                  refine x_goto (t := 130) hC dL_isAhead_371 (by decide) ?_
                                  refine x_sub (l' := [(0, va_rf r0), (1, .int i1), (2, .int v117), (3, .int v118), (4, .int (0 : Int32)), (6, .int (v119 + (1 : Int32)))]) [2, 3, 4, 5, 1, 0] rfl ?_
                                  have hb := bk_x h hg_130
                                  exact hb
                                · replace h := it_t c124 h
                                  refine x_iconst (v := (1 : Int32)) hC dL_isAhead_339 (by decide) ?_
                                  refine x_goto (t := 366) hC dL_isAhead_340 (by decide) ?_
                                  refine x_istore (i := 4) (l' := [(4, .int (1 : Int32)), (0, va_rf r0), (1, .int i1), (2, .int v117), (3, .int v118), (6, .int v119), (7, .int v120), (9, .int v121)]) hC dL_isAhead_366 (⟨fun _ => c_rf r0, ⟨fun _ => rfl, ⟨fun _ => rfl, ⟨fun _ => rfl, ⟨fun _ => rfl, ⟨fun _ => rfl, ⟨fun _ => rfl, trivial⟩⟩⟩⟩⟩⟩⟩) (by decide) rfl ?_
                                  refine x_iinc (i := 6) (v := (v119 + (1 : Int32))) (l' := [(6, .int (v119 + (1 : Int32))), (4, .int (1 : Int32)), (0, va_rf r0), (1, .int i1), (2, .int v117), (3, .int v118), (7, .int v120), (9, .int v121)]) hC dL_isAhead_368 5 rfl rfl (⟨fun _ => rfl, ⟨fun _ => c_rf r0, ⟨fun _ => rfl, ⟨fun _ => rfl, ⟨fun _ => rfl, ⟨fun _ => rfl, ⟨fun _ => rfl, ⟨fun _ => rfl, trivial⟩⟩⟩⟩⟩⟩⟩⟩) (by decide) rfl ?_
                                  refine x_goto (t := 130) hC dL_isAhead_371 (by decide) ?_
                                  refine x_sub (l' := [(0, va_rf r0), (1, .int i1), (2, .int v117), (3, .int v118), (4, .int (1 : Int32)), (6, .int (v119 + (1 : Int32)))]) [2, 3, 4, 5, 1, 0] rfl ?_
                                  have hb := bk_x h hg_130
                                  exact hb
                            have J_314 : ∀ (v107 : Int32) (v108 : Int32) (v109 : Int32) (v110 : Int32) (v111 : Int32) (v112 : Int32) (v113 : Int32) (S114 : PH), j_L_isAhead_314 r0 i1 v107 v108 v109 v110 v111 v112 v113 S114 = some x_130 → PX Z 10 S114 0 0 314 [(0, va_rf r0), (1, .int i1), (2, .int v107), (3, .int v108), (6, .int v109), (7, .int v110), (9, .int v111)] [.int v113, .int v112] := by
                              intro v107 v108 v109 v110 v111 v112 v113 S114 h
                              unfold j_L_isAhead_314 at h
                              refine x_icmp_ne (t := 343) hC dL_isAhead_314 (by decide) (fun c115 => ?_) (fun c115 => ?_)
                              · replace h := it_f c115 h
                                refine x_iconst (v := (0 : Int32)) hC dL_isAhead_343 (by decide) ?_
                                refine x_goto (t := 366) hC dL_isAhead_344 (by decide) ?_
                                refine x_istore (i := 4) (l' := [(4, .int (0 : Int32)), (0, va_rf r0), (1, .int i1), (2, .int v107), (3, .int v108), (6, .int v109), (7, .int v110), (9, .int v111)]) hC dL_isAhead_366 (⟨fun _ => c_rf r0, ⟨fun _ => rfl, ⟨fun _ => rfl, ⟨fun _ => rfl, ⟨fun _ => rfl, ⟨fun _ => rfl, ⟨fun _ => rfl, trivial⟩⟩⟩⟩⟩⟩⟩) (by decide) rfl ?_
                                refine x_iinc (i := 6) (v := (v109 + (1 : Int32))) (l' := [(6, .int (v109 + (1 : Int32))), (4, .int (0 : Int32)), (0, va_rf r0), (1, .int i1), (2, .int v107), (3, .int v108), (7, .int v110), (9, .int v111)]) hC dL_isAhead_368 5 rfl rfl (⟨fun _ => rfl, ⟨fun _ => c_rf r0, ⟨fun _ => rfl, ⟨fun _ => rfl, ⟨fun _ => rfl, ⟨fun _ => rfl, ⟨fun _ => rfl, ⟨fun _ => rfl, trivial⟩⟩⟩⟩⟩⟩⟩⟩) (by decide) rfl ?_
                                refine x_goto (t := 130) hC dL_isAhead_371 (by decide) ?_
                                refine x_sub (l' := [(0, va_rf r0), (1, .int i1), (2, .int v107), (3, .int v108), (4, .int (0 : Int32)), (6, .int (v109 + (1 : Int32)))]) [2, 3, 4, 5, 1, 0] rfl ?_
                                have hb := bk_x h hg_130
                                exact hb
                              · replace h := it_t c115 h
                                refine x_iload (i := 7) hC dL_isAhead_317 5 rfl ?_
                                refine x_iconst (v := (4 : Int32)) hC dL_isAhead_319 (by decide) ?_
                                refine x_icmp_ne (t := 328) hC dL_isAhead_320 (by decide) (fun c116 => ?_) (fun c116 => ?_)
                                · replace h := it_f c116 h
                                  exact J_328 _ _ _ _ _ _ h
                                · replace h := it_t c116 h
                                  refine x_iload (i := 9) hC dL_isAhead_323 6 rfl ?_
                                  refine x_if_eq (t := 343) hC dL_isAhead_325 (by decide) (fun c125 => ?_) (fun c125 => ?_)
                                  · replace h := it_t c125 h
                                    refine x_iconst (v := (0 : Int32)) hC dL_isAhead_343 (by decide) ?_
                                    refine x_goto (t := 366) hC dL_isAhead_344 (by decide) ?_
                                    refine x_istore (i := 4) (l' := [(4, .int (0 : Int32)), (0, va_rf r0), (1, .int i1), (2, .int v107), (3, .int v108), (6, .int v109), (7, .int v110), (9, .int v111)]) hC dL_isAhead_366 (⟨fun _ => c_rf r0, ⟨fun _ => rfl, ⟨fun _ => rfl, ⟨fun _ => rfl, ⟨fun _ => rfl, ⟨fun _ => rfl, ⟨fun _ => rfl, trivial⟩⟩⟩⟩⟩⟩⟩) (by decide) rfl ?_
                                    refine x_iinc (i := 6) (v := (v109 + (1 : Int32))) (l' := [(6, .int (v109 + (1 : Int32))), (4, .int (0 : Int32)), (0, va_rf r0), (1, .int i1), (2, .int v107), (3, .int v108), (7, .int v110), (9, .int v111)]) hC dL_isAhead_368 5 rfl rfl (⟨fun _ => rfl, ⟨fun _ => c_rf r0, ⟨fun _ => rfl, ⟨fun _ => rfl, ⟨fun _ => rfl, ⟨fun _ => rfl, ⟨fun _ => rfl, ⟨fun _ => rfl, trivial⟩⟩⟩⟩⟩⟩⟩⟩) (by decide) rfl ?_
                                    refine x_goto (t := 130) hC dL_isAhead_371 (by decide) ?_
                                    refine x_sub (l' := [(0, va_rf r0), (1, .int i1), (2, .int v107), (3, .int v108), (4, .int (0 : Int32)), (6, .int (v109 + (1 : Int32)))]) [2, 3, 4, 5, 1, 0] rfl ?_
                                    have hb := bk_x h hg_130
                                    exact hb
                                  · replace h := it_f c125 h
                                    exact J_328 _ _ _ _ _ _ h
                            have J_271 : ∀ (v92 : Int32) (v93 : Int32) (v94 : Int32) (v95 : Int32) (v96 : Int32) (v97 : Int32) (S98 : PH), j_L_isAhead_271 r0 i1 v92 v93 v94 v95 v96 v97 S98 = some x_130 → PX Z 10 S98 0 0 271 [(0, va_rf r0), (1, .int i1), (2, .int v92), (3, .int v93), (6, .int v94), (7, .int v95), (9, .int v96)] [.int v97] := by
                              intro v92 v93 v94 v95 v96 v97 S98 h
                              unfold j_L_isAhead_271 at h
                              refine x_aload_n (i := 0) hC dL_isAhead_271 rfl 0 rfl ?_
                              refine x_iload_n (i := 1) hC dL_isAhead_272 rfl 1 rfl ?_
                              refine x_bipush (v := (8 : Int32)) hC dL_isAhead_273 (by decide) ?_
                              replace h := dr_el h
                              obtain ⟨a99, ea100, ha101, h⟩ := h
                              replace h := bt_el h
                              obtain ⟨v102, S103, hb155, h⟩ | ⟨j104, S105, hb155, h⟩ := h
                              · refine x_callV hC (st := [.int v97]) (mtr_X4_paperOf _ _ _ _ (v102, S103) hb155) ea100 ha101 kf_4 q_527 q_528 q_529 q_1 q_530 ⟨rfl, hy_X4_paperOf⟩ ⟨Nat.le_of_ble_eq_true rfl, Nat.le_of_ble_eq_true rfl⟩ ⟨Nat.le_of_ble_eq_true rfl, Nat.le_of_ble_eq_true rfl⟩ rfl (Nat.le_of_ble_eq_true rfl) dL_isAhead_275 (r_N ?_) r_NX
                                show PX Z 10 S103 0 0 278 [(0, va_rf r0), (1, .int i1), (2, .int v92), (3, .int v93), (6, .int v94), (7, .int v95), (9, .int v96)] [.int v102, .int v97]
                                refine x_if_ne (t := 313) hC dL_isAhead_278 (by decide) (fun c106 => ?_) (fun c106 => ?_)
                                · replace h := it_f c106 h
                                  refine x_iconst (v := (0 : Int32)) hC dL_isAhead_313 (by decide) ?_
                                  exact J_314 _ _ _ _ _ _ _ _ h
                                · replace h := it_t c106 h
                                  refine x_aload_n (i := 0) hC dL_isAhead_281 rfl 0 rfl ?_
                                  refine x_iload (i := 6) hC dL_isAhead_282 4 rfl ?_
                                  refine x_iload_n (i := 1) hC dL_isAhead_284 rfl 1 rfl ?_
                                  replace h := dr_el h
                                  obtain ⟨a126, ea127, ha128, h⟩ := h
                                  replace h := bt_el h
                                  obtain ⟨v129, S130, hb154, h⟩ | ⟨j131, S132, hb154, h⟩ := h
                                  · refine x_callV hC (st := [.int v97]) (mtr_X4_score _ _ _ _ (v129, S130) hb154) ea127 ha128 kf_4 q_548 q_549 q_550 q_1 q_551 ⟨rfl, hy_X4_score⟩ ⟨Nat.le_of_ble_eq_true rfl, Nat.le_of_ble_eq_true rfl⟩ ⟨Nat.le_of_ble_eq_true rfl, Nat.le_of_ble_eq_true rfl⟩ rfl (Nat.le_of_ble_eq_true rfl) dL_isAhead_285 (r_N ?_) r_NX
                                    show PX Z 10 S130 0 0 288 [(0, va_rf r0), (1, .int i1), (2, .int v92), (3, .int v93), (6, .int v94), (7, .int v95), (9, .int v96)] [.int v129, .int v97]
                                    refine x_iconst (v := (-1 : Int32)) hC dL_isAhead_288 (by decide) ?_
                                    refine x_icmp_ne (t := 313) hC dL_isAhead_289 (by decide) (fun c133 => ?_) (fun c133 => ?_)
                                    · replace h := it_f c133 h
                                      refine x_iconst (v := (0 : Int32)) hC dL_isAhead_313 (by decide) ?_
                                      exact J_314 _ _ _ _ _ _ _ _ h
                                    · replace h := it_t c133 h
                                      refine x_aload_n (i := 0) hC dL_isAhead_292 rfl 0 rfl ?_
                                      refine x_iload_n (i := 1) hC dL_isAhead_293 rfl 1 rfl ?_
                                      refine x_iconst (v := (2 : Int32)) hC dL_isAhead_294 (by decide) ?_
                                      replace h := dr_el h
                                      obtain ⟨a134, ea135, ha136, h⟩ := h
                                      replace h := bt_el h
                                      obtain ⟨v137, S138, hb153, h⟩ | ⟨j139, S140, hb153, h⟩ := h
                                      · refine x_callV hC (st := [.int v97]) (mtr_X4_paperOf _ _ _ _ (v137, S138) hb153) ea135 ha136 kf_4 q_527 q_528 q_529 q_1 q_530 ⟨rfl, hy_X4_paperOf⟩ ⟨Nat.le_of_ble_eq_true rfl, Nat.le_of_ble_eq_true rfl⟩ ⟨Nat.le_of_ble_eq_true rfl, Nat.le_of_ble_eq_true rfl⟩ rfl (Nat.le_of_ble_eq_true rfl) dL_isAhead_295 (r_N ?_) r_NX
                                        show PX Z 10 S138 0 0 298 [(0, va_rf r0), (1, .int i1), (2, .int v92), (3, .int v93), (6, .int v94), (7, .int v95), (9, .int v96)] [.int v137, .int v97]
                                        replace h := bd_el h
                                        obtain ⟨v141, S142, hb143, h⟩ := h
                                        refine x_callS hC (st := [.int v97]) (mt_L_bits _ _ _ hb143) q_656 q_657 q_0 q_658 hy_L_bits ⟨Nat.le_of_ble_eq_true rfl, Nat.le_of_ble_eq_true rfl⟩ ⟨Nat.le_of_ble_eq_true rfl, Nat.le_of_ble_eq_true rfl⟩ rfl (Nat.le_of_ble_eq_true rfl) dL_isAhead_298 (r_N ?_) r_NX
                                        show PX Z 10 S142 0 0 301 [(0, va_rf r0), (1, .int i1), (2, .int v92), (3, .int v93), (6, .int v94), (7, .int v95), (9, .int v96)] [.int v141, .int v97]
                                        refine x_aload_n (i := 0) hC dL_isAhead_301 rfl 0 rfl ?_
                                        refine x_iconst (v := (0 : Int32)) hC dL_isAhead_302 (by decide) ?_
                                        replace h := dr_el h
                                        obtain ⟨a144, ea145, ha146, h⟩ := h
                                        replace h := bt_el h
                                        obtain ⟨v147, S148, hb152, h⟩ | ⟨j149, S150, hb152, h⟩ := h
                                        · refine x_callV hC (st := [.int v141, .int v97]) (mtr_X4_setting _ _ _ (v147, S148) hb152) ea145 ha146 kf_4 q_552 q_553 q_554 q_1 q_555 ⟨rfl, hy_X4_setting⟩ ⟨Nat.le_of_ble_eq_true rfl, Nat.le_of_ble_eq_true rfl⟩ ⟨Nat.le_of_ble_eq_true rfl, Nat.le_of_ble_eq_true rfl⟩ rfl (Nat.le_of_ble_eq_true rfl) dL_isAhead_303 (r_N ?_) r_NX
                                          show PX Z 10 S148 0 0 306 [(0, va_rf r0), (1, .int i1), (2, .int v92), (3, .int v93), (6, .int v94), (7, .int v95), (9, .int v96)] [.int v147, .int v141, .int v97]
                                          refine x_icmp_ge (t := 313) hC dL_isAhead_306 (by decide) (fun c151 => ?_) (fun c151 => ?_)
                                          · replace h := it_t c151 h
                                            refine x_iconst (v := (0 : Int32)) hC dL_isAhead_313 (by decide) ?_
                                            exact J_314 _ _ _ _ _ _ _ _ h
                                          · replace h := it_f c151 h
                                            refine x_iconst (v := (1 : Int32)) hC dL_isAhead_309 (by decide) ?_
                                            refine x_goto (t := 314) hC dL_isAhead_310 (by decide) ?_
                                            exact J_314 _ _ _ _ _ _ _ _ h
                                        · replace h := ir_x h hg_130; exact z_no hyr (Option.some.inj h)
                                      · replace h := ir_x h hg_130; exact z_no hyr (Option.some.inj h)
                                  · replace h := ir_x h hg_130; exact z_no hyr (Option.some.inj h)
                              · replace h := ir_x h hg_130; exact z_no hyr (Option.some.inj h)
                            have J_253 : ∀ (v80 : Int32) (v81 : Int32) (v82 : Int32) (v83 : Int32) (v84 : Int32) (v85 : Int32) (S86 : PH), j_L_isAhead_253 r0 i1 v80 v81 v82 v83 v84 v85 S86 = some x_130 → PX Z 10 S86 0 0 253 [(0, va_rf r0), (1, .int i1), (2, .int v80), (3, .int v81), (6, .int v82), (7, .int v83), (8, .int v84)] [.int v85] := by
                              intro v80 v81 v82 v83 v84 v85 S86 h
                              unfold j_L_isAhead_253 at h
                              refine x_istore (i := 9) (l' := [(9, .int v85), (0, va_rf r0), (1, .int i1), (2, .int v80), (3, .int v81), (6, .int v82), (7, .int v83), (8, .int v84)]) hC dL_isAhead_253 (⟨fun _ => c_rf r0, ⟨fun _ => rfl, ⟨fun _ => rfl, ⟨fun _ => rfl, ⟨fun _ => rfl, ⟨fun _ => rfl, ⟨fun _ => rfl, trivial⟩⟩⟩⟩⟩⟩⟩) (by decide) rfl ?_
                              refine x_iload (i := 7) hC dL_isAhead_255 6 rfl ?_
                              refine x_if_le (t := 347) hC dL_isAhead_257 (by decide) (fun c87 => ?_) (fun c87 => ?_)
                              · replace h := it_t c87 h
                                refine x_iload_n (i := 3) hC dL_isAhead_347 rfl 4 rfl ?_
                                refine x_if_lt (t := 365) hC dL_isAhead_348 (by decide) (fun c88 => ?_) (fun c88 => ?_)
                                · replace h := it_t c88 h
                                  refine x_iconst (v := (0 : Int32)) hC dL_isAhead_365 (by decide) ?_
                                  refine x_istore (i := 4) (l' := [(4, .int (0 : Int32)), (9, .int v85), (0, va_rf r0), (1, .int i1), (2, .int v80), (3, .int v81), (6, .int v82), (7, .int v83), (8, .int v84)]) hC dL_isAhead_366 (⟨fun _ => rfl, ⟨fun _ => c_rf r0, ⟨fun _ => rfl, ⟨fun _ => rfl, ⟨fun _ => rfl, ⟨fun _ => rfl, ⟨fun _ => rfl, ⟨fun _ => rfl, trivial⟩⟩⟩⟩⟩⟩⟩⟩) (by decide) rfl ?_
                                  refine x_iinc (i := 6) (v := (v82 + (1 : Int32))) (l' := [(6, .int (v82 + (1 : Int32))), (4, .int (0 : Int32)), (9, .int v85), (0, va_rf r0), (1, .int i1), (2, .int v80), (3, .int v81), (7, .int v83), (8, .int v84)]) hC dL_isAhead_368 6 rfl rfl (⟨fun _ => rfl, ⟨fun _ => rfl, ⟨fun _ => c_rf r0, ⟨fun _ => rfl, ⟨fun _ => rfl, ⟨fun _ => rfl, ⟨fun _ => rfl, ⟨fun _ => rfl, ⟨fun _ => rfl, trivial⟩⟩⟩⟩⟩⟩⟩⟩⟩) (by decide) rfl ?_
                                  refine x_goto (t := 130) hC dL_isAhead_371 (by decide) ?_
                                  refine x_sub (l' := [(0, va_rf r0), (1, .int i1), (2, .int v80), (3, .int v81), (4, .int (0 : Int32)), (6, .int (v82 + (1 : Int32)))]) [3, 4, 5, 6, 1, 0] rfl ?_
                                  have hb := bk_x h hg_130
                                  exact hb
                                · replace h := it_f c88 h
                                  refine x_iload (i := 8) hC dL_isAhead_351 7 rfl ?_
                                  refine x_if_ne (t := 365) hC dL_isAhead_353 (by decide) (fun c89 => ?_) (fun c89 => ?_)
                                  · replace h := it_f c89 h
                                    refine x_iconst (v := (0 : Int32)) hC dL_isAhead_365 (by decide) ?_
                                    refine x_istore (i := 4) (l' := [(4, .int (0 : Int32)), (9, .int v85), (0, va_rf r0), (1, .int i1), (2, .int v80), (3, .int v81), (6, .int v82), (7, .int v83), (8, .int v84)]) hC dL_isAhead_366 (⟨fun _ => rfl, ⟨fun _ => c_rf r0, ⟨fun _ => rfl, ⟨fun _ => rfl, ⟨fun _ => rfl, ⟨fun _ => rfl, ⟨fun _ => rfl, ⟨fun _ => rfl, trivial⟩⟩⟩⟩⟩⟩⟩⟩) (by decide) rfl ?_
                                    refine x_iinc (i := 6) (v := (v82 + (1 : Int32))) (l' := [(6, .int (v82 + (1 : Int32))), (4, .int (0 : Int32)), (9, .int v85), (0, va_rf r0), (1, .int i1), (2, .int v80), (3, .int v81), (7, .int v83), (8, .int v84)]) hC dL_isAhead_368 6 rfl rfl (⟨fun _ => rfl, ⟨fun _ => rfl, ⟨fun _ => c_rf r0, ⟨fun _ => rfl, ⟨fun _ => rfl, ⟨fun _ => rfl, ⟨fun _ => rfl, ⟨fun _ => rfl, ⟨fun _ => rfl, trivial⟩⟩⟩⟩⟩⟩⟩⟩⟩) (by decide) rfl ?_
                                    refine x_goto (t := 130) hC dL_isAhead_371 (by decide) ?_
                                    refine x_sub (l' := [(0, va_rf r0), (1, .int i1), (2, .int v80), (3, .int v81), (4, .int (0 : Int32)), (6, .int (v82 + (1 : Int32)))]) [3, 4, 5, 6, 1, 0] rfl ?_
                                    have hb := bk_x h hg_130
                                    exact hb
                                  · replace h := it_t c89 h
                                    refine x_iload (i := 9) hC dL_isAhead_356 0 rfl ?_
                                    refine x_if_ne (t := 365) hC dL_isAhead_358 (by decide) (fun c90 => ?_) (fun c90 => ?_)
                                    · replace h := it_f c90 h
                                      refine x_iconst (v := (0 : Int32)) hC dL_isAhead_365 (by decide) ?_
                                      refine x_istore (i := 4) (l' := [(4, .int (0 : Int32)), (9, .int v85), (0, va_rf r0), (1, .int i1), (2, .int v80), (3, .int v81), (6, .int v82), (7, .int v83), (8, .int v84)]) hC dL_isAhead_366 (⟨fun _ => rfl, ⟨fun _ => c_rf r0, ⟨fun _ => rfl, ⟨fun _ => rfl, ⟨fun _ => rfl, ⟨fun _ => rfl, ⟨fun _ => rfl, ⟨fun _ => rfl, trivial⟩⟩⟩⟩⟩⟩⟩⟩) (by decide) rfl ?_
                                      refine x_iinc (i := 6) (v := (v82 + (1 : Int32))) (l' := [(6, .int (v82 + (1 : Int32))), (4, .int (0 : Int32)), (9, .int v85), (0, va_rf r0), (1, .int i1), (2, .int v80), (3, .int v81), (7, .int v83), (8, .int v84)]) hC dL_isAhead_368 6 rfl rfl (⟨fun _ => rfl, ⟨fun _ => rfl, ⟨fun _ => c_rf r0, ⟨fun _ => rfl, ⟨fun _ => rfl, ⟨fun _ => rfl, ⟨fun _ => rfl, ⟨fun _ => rfl, ⟨fun _ => rfl, trivial⟩⟩⟩⟩⟩⟩⟩⟩⟩) (by decide) rfl ?_
                                      refine x_goto (t := 130) hC dL_isAhead_371 (by decide) ?_
                                      refine x_sub (l' := [(0, va_rf r0), (1, .int i1), (2, .int v80), (3, .int v81), (4, .int (0 : Int32)), (6, .int (v82 + (1 : Int32)))]) [3, 4, 5, 6, 1, 0] rfl ?_
                                      have hb := bk_x h hg_130
                                      exact hb
                                    · replace h := it_t c90 h
                                      refine x_iconst (v := (1 : Int32)) hC dL_isAhead_361 (by decide) ?_
                                      refine x_goto (t := 366) hC dL_isAhead_362 (by decide) ?_
                                      refine x_istore (i := 4) (l' := [(4, .int (1 : Int32)), (9, .int v85), (0, va_rf r0), (1, .int i1), (2, .int v80), (3, .int v81), (6, .int v82), (7, .int v83), (8, .int v84)]) hC dL_isAhead_366 (⟨fun _ => rfl, ⟨fun _ => c_rf r0, ⟨fun _ => rfl, ⟨fun _ => rfl, ⟨fun _ => rfl, ⟨fun _ => rfl, ⟨fun _ => rfl, ⟨fun _ => rfl, trivial⟩⟩⟩⟩⟩⟩⟩⟩) (by decide) rfl ?_
                                      refine x_iinc (i := 6) (v := (v82 + (1 : Int32))) (l' := [(6, .int (v82 + (1 : Int32))), (4, .int (1 : Int32)), (9, .int v85), (0, va_rf r0), (1, .int i1), (2, .int v80), (3, .int v81), (7, .int v83), (8, .int v84)]) hC dL_isAhead_368 6 rfl rfl (⟨fun _ => rfl, ⟨fun _ => rfl, ⟨fun _ => c_rf r0, ⟨fun _ => rfl, ⟨fun _ => rfl, ⟨fun _ => rfl, ⟨fun _ => rfl, ⟨fun _ => rfl, ⟨fun _ => rfl, trivial⟩⟩⟩⟩⟩⟩⟩⟩⟩) (by decide) rfl ?_
                                      refine x_goto (t := 130) hC dL_isAhead_371 (by decide) ?_
                                      refine x_sub (l' := [(0, va_rf r0), (1, .int i1), (2, .int v80), (3, .int v81), (4, .int (1 : Int32)), (6, .int (v82 + (1 : Int32)))]) [3, 4, 5, 6, 1, 0] rfl ?_
                                      have hb := bk_x h hg_130
                                      exact hb
                              · replace h := it_f c87 h
                                refine x_iload (i := 7) hC dL_isAhead_260 6 rfl ?_
                                refine x_iconst (v := (4 : Int32)) hC dL_isAhead_262 (by decide) ?_
                                refine x_icmp_lt (t := 270) hC dL_isAhead_263 (by decide) (fun c91 => ?_) (fun c91 => ?_)
                                · replace h := it_t c91 h
                                  refine x_iconst (v := (0 : Int32)) hC dL_isAhead_270 (by decide) ?_
                                  refine x_sub (l' := [(0, va_rf r0), (1, .int i1), (2, .int v80), (3, .int v81), (6, .int v82), (7, .int v83), (9, .int v85)]) [1, 2, 3, 4, 5, 6, 0] rfl ?_
                                  exact J_271 _ _ _ _ _ _ _ h
                                · replace h := it_f c91 h
                                  refine x_iconst (v := (1 : Int32)) hC dL_isAhead_266 (by decide) ?_
                                  refine x_goto (t := 271) hC dL_isAhead_267 (by decide) ?_
                                  refine x_sub (l' := [(0, va_rf r0), (1, .int i1), (2, .int v80), (3, .int v81), (6, .int v82), (7, .int v83), (9, .int v85)]) [1, 2, 3, 4, 5, 6, 0] rfl ?_
                                  exact J_271 _ _ _ _ _ _ _ h
                            have J_230 : ∀ (v66 : Int32) (v67 : Int32) (v68 : Int32) (v69 : Int32) (v70 : Int32) (S71 : PH), j_L_isAhead_230 r0 i1 v66 v67 v68 v69 v70 S71 = some x_130 → PX Z 10 S71 0 0 230 [(0, va_rf r0), (1, .int i1), (2, .int v66), (3, .int v67), (6, .int v68), (7, .int v69)] [.int v70] := by
                              intro v66 v67 v68 v69 v70 S71 h
                              unfold j_L_isAhead_230 at h
                              refine x_istore (i := 8) (l' := [(8, .int v70), (0, va_rf r0), (1, .int i1), (2, .int v66), (3, .int v67), (6, .int v68), (7, .int v69)]) hC dL_isAhead_230 (⟨fun _ => c_rf r0, ⟨fun _ => rfl, ⟨fun _ => rfl, ⟨fun _ => rfl, ⟨fun _ => rfl, ⟨fun _ => rfl, trivial⟩⟩⟩⟩⟩⟩) (by decide) rfl ?_
                              refine x_aload_n (i := 0) hC dL_isAhead_232 rfl 1 rfl ?_
                              refine x_iload (i := 6) hC dL_isAhead_233 5 rfl ?_
                              refine x_bipush (v := (8 : Int32)) hC dL_isAhead_235 (by decide) ?_
                              replace h := dr_el h
                              obtain ⟨a72, ea73, ha74, h⟩ := h
                              replace h := bt_el h
                              obtain ⟨v75, S76, hb156, h⟩ | ⟨j77, S78, hb156, h⟩ := h
                              · refine x_callV hC (st := []) (mtr_X4_personOf _ _ _ _ (v75, S76) hb156) ea73 ha74 kf_4 q_506 q_507 q_508 q_1 q_509 ⟨rfl, hy_X4_personOf⟩ ⟨Nat.le_of_ble_eq_true rfl, Nat.le_of_ble_eq_true rfl⟩ ⟨Nat.le_of_ble_eq_true rfl, Nat.le_of_ble_eq_true rfl⟩ rfl (Nat.le_of_ble_eq_true rfl) dL_isAhead_237 (r_N ?_) r_NX
                                show PX Z 10 S76 0 0 240 [(8, .int v70), (0, va_rf r0), (1, .int i1), (2, .int v66), (3, .int v67), (6, .int v68), (7, .int v69)] [.int v75]
                                refine x_iload_n (i := 1) hC dL_isAhead_240 rfl 2 rfl ?_
                                refine x_ishr hC dL_isAhead_241 ?_
                                refine x_iconst (v := (1 : Int32)) hC dL_isAhead_242 (by decide) ?_
                                refine x_iand hC dL_isAhead_243 ?_
                                refine x_iconst (v := (1 : Int32)) hC dL_isAhead_244 (by decide) ?_
                                refine x_icmp_ne (t := 252) hC dL_isAhead_245 (by decide) (fun c79 => ?_) (fun c79 => ?_)
                                · replace h := it_f c79 h
                                  refine x_iconst (v := (0 : Int32)) hC dL_isAhead_252 (by decide) ?_
                                  refine x_sub (l' := [(0, va_rf r0), (1, .int i1), (2, .int v66), (3, .int v67), (6, .int v68), (7, .int v69), (8, .int v70)]) [1, 2, 3, 4, 5, 6, 0] rfl ?_
                                  exact J_253 _ _ _ _ _ _ _ h
                                · replace h := it_t c79 h
                                  refine x_iconst (v := (1 : Int32)) hC dL_isAhead_248 (by decide) ?_
                                  refine x_goto (t := 253) hC dL_isAhead_249 (by decide) ?_
                                  refine x_sub (l' := [(0, va_rf r0), (1, .int i1), (2, .int v66), (3, .int v67), (6, .int v68), (7, .int v69), (8, .int v70)]) [1, 2, 3, 4, 5, 6, 0] rfl ?_
                                  exact J_253 _ _ _ _ _ _ _ h
                              · replace h := ir_x h hg_130; exact z_no hyr (Option.some.inj h)
                            unfold st_L_isAhead_130 at h
                            refine x_iload (i := 6) hC dL_isAhead_130 5 rfl ?_
                            refine x_bipush (v := (8 : Int32)) hC dL_isAhead_132 (by decide) ?_
                            refine x_icmp_ge (t := 374) hC dL_isAhead_134 (by decide) (fun c901 => ?_) (fun c901 => ?_)
                            · replace h := it_t c901 h
                              replace h := ir_x h hg_130
                              refine x_sub (l' := [(0, va_rf r0), (1, .int i1), (2, .int v896), (4, .int v898)]) [0, 1, 2, 4] rfl ?_
                              exact J_374 _ _ _ h
                            · replace h := it_f c901 h
                              refine x_iload (i := 4) hC dL_isAhead_137 4 rfl ?_
                              refine x_if_eq (t := 374) hC dL_isAhead_139 (by decide) (fun c902 => ?_) (fun c902 => ?_)
                              · replace h := it_t c902 h
                                replace h := ir_x h hg_130
                                refine x_sub (l' := [(0, va_rf r0), (1, .int i1), (2, .int v896), (4, .int v898)]) [0, 1, 2, 4] rfl ?_
                                exact J_374 _ _ _ h
                              · replace h := it_f c902 h
                                refine x_aload_n (i := 0) hC dL_isAhead_142 rfl 0 rfl ?_
                                refine x_iload (i := 6) hC dL_isAhead_143 5 rfl ?_
                                refine x_iload_n (i := 1) hC dL_isAhead_145 rfl 1 rfl ?_
                                replace h := dr_el h
                                obtain ⟨a903, ea904, ha905, h⟩ := h
                                replace h := bt_el h
                                obtain ⟨v906, S907, hb980, h⟩ | ⟨j908, S909, hb980, h⟩ := h
                                · refine x_callV hC (st := []) (mtr_X4_whyNot _ _ _ _ (v906, S907) hb980) ea904 ha905 kf_4 q_445 q_446 q_447 q_1 q_448 ⟨rfl, hy_X4_whyNot⟩ ⟨Nat.le_of_ble_eq_true rfl, Nat.le_of_ble_eq_true rfl⟩ ⟨Nat.le_of_ble_eq_true rfl, Nat.le_of_ble_eq_true rfl⟩ rfl (Nat.le_of_ble_eq_true rfl) dL_isAhead_146 (r_N ?_) r_NX
                                  show PX Z 10 S907 0 0 149 [(0, va_rf r0), (1, .int i1), (2, .int v896), (3, .int v897), (4, .int v898), (6, .int v899)] [.int v906]
                                  refine x_istore (i := 7) (l' := [(7, .int v906), (0, va_rf r0), (1, .int i1), (2, .int v896), (3, .int v897), (4, .int v898), (6, .int v899)]) hC dL_isAhead_149 (⟨fun _ => c_rf r0, ⟨fun _ => rfl, ⟨fun _ => rfl, ⟨fun _ => rfl, ⟨fun _ => rfl, ⟨fun _ => rfl, trivial⟩⟩⟩⟩⟩⟩) (by decide) rfl ?_
                                  refine x_iload_n (i := 3) hC dL_isAhead_151 rfl 4 rfl ?_
                                  refine x_if_lt (t := 229) hC dL_isAhead_152 (by decide) (fun c910 => ?_) (fun c910 => ?_)
                                  · replace h := it_t c910 h
                                    refine x_iconst (v := (0 : Int32)) hC dL_isAhead_229 (by decide) ?_
                                    refine x_sub (l' := [(0, va_rf r0), (1, .int i1), (2, .int v896), (3, .int v897), (6, .int v899), (7, .int v906)]) [1, 2, 3, 4, 6, 0] rfl ?_
                                    exact J_230 _ _ _ _ _ _ h
                                  · replace h := it_f c910 h
                                    refine x_aload_n (i := 0) hC dL_isAhead_155 rfl 1 rfl ?_
                                    refine x_iload (i := 6) hC dL_isAhead_156 6 rfl ?_
                                    refine x_iconst (v := (3 : Int32)) hC dL_isAhead_158 (by decide) ?_
                                    replace h := dr_el h
                                    obtain ⟨a911, ea912, ha913, h⟩ := h
                                    replace h := bt_el h
                                    obtain ⟨v914, S915, hb979, h⟩ | ⟨j916, S917, hb979, h⟩ := h
                                    · refine x_callV hC (st := []) (mtr_X4_personOf _ _ _ _ (v914, S915) hb979) ea912 ha913 kf_4 q_506 q_507 q_508 q_1 q_509 ⟨rfl, hy_X4_personOf⟩ ⟨Nat.le_of_ble_eq_true rfl, Nat.le_of_ble_eq_true rfl⟩ ⟨Nat.le_of_ble_eq_true rfl, Nat.le_of_ble_eq_true rfl⟩ rfl (Nat.le_of_ble_eq_true rfl) dL_isAhead_159 (r_N ?_) r_NX
                                      show PX Z 10 S915 0 0 162 [(7, .int v906), (0, va_rf r0), (1, .int i1), (2, .int v896), (3, .int v897), (4, .int v898), (6, .int v899)] [.int v914]
                                      refine x_aload_n (i := 0) hC dL_isAhead_162 rfl 1 rfl ?_
                                      refine x_iload_n (i := 3) hC dL_isAhead_163 rfl 4 rfl ?_
                                      refine x_iconst (v := (3 : Int32)) hC dL_isAhead_164 (by decide) ?_
                                      replace h := dr_el h
                                      obtain ⟨a918, ea919, ha920, h⟩ := h
                                      replace h := bt_el h
                                      obtain ⟨v921, S922, hb978, h⟩ | ⟨j923, S924, hb978, h⟩ := h
                                      · refine x_callV hC (st := [.int v914]) (mtr_X4_personOf _ _ _ _ (v921, S922) hb978) ea919 ha920 kf_4 q_506 q_507 q_508 q_1 q_509 ⟨rfl, hy_X4_personOf⟩ ⟨Nat.le_of_ble_eq_true rfl, Nat.le_of_ble_eq_true rfl⟩ ⟨Nat.le_of_ble_eq_true rfl, Nat.le_of_ble_eq_true rfl⟩ rfl (Nat.le_of_ble_eq_true rfl) dL_isAhead_165 (r_N ?_) r_NX
                                        show PX Z 10 S922 0 0 168 [(7, .int v906), (0, va_rf r0), (1, .int i1), (2, .int v896), (3, .int v897), (4, .int v898), (6, .int v899)] [.int v921, .int v914]
                                        refine x_icmp_lt (t := 225) hC dL_isAhead_168 (by decide) (fun c925 => ?_) (fun c925 => ?_)
                                        · replace h := it_t c925 h
                                          refine x_iconst (v := (1 : Int32)) hC dL_isAhead_225 (by decide) ?_
                                          refine x_goto (t := 230) hC dL_isAhead_226 (by decide) ?_
                                          refine x_sub (l' := [(0, va_rf r0), (1, .int i1), (2, .int v896), (3, .int v897), (6, .int v899), (7, .int v906)]) [1, 2, 3, 4, 6, 0] rfl ?_
                                          exact J_230 _ _ _ _ _ _ h
                                        · replace h := it_f c925 h
                                          refine x_aload_n (i := 0) hC dL_isAhead_171 rfl 1 rfl ?_
                                          refine x_iload (i := 6) hC dL_isAhead_172 6 rfl ?_
                                          refine x_iconst (v := (3 : Int32)) hC dL_isAhead_174 (by decide) ?_
                                          replace h := dr_el h
                                          obtain ⟨a926, ea927, ha928, h⟩ := h
                                          replace h := bt_el h
                                          obtain ⟨v929, S930, hb977, h⟩ | ⟨j931, S932, hb977, h⟩ := h
                                          · refine x_callV hC (st := []) (mtr_X4_personOf _ _ _ _ (v929, S930) hb977) ea927 ha928 kf_4 q_506 q_507 q_508 q_1 q_509 ⟨rfl, hy_X4_personOf⟩ ⟨Nat.le_of_ble_eq_true rfl, Nat.le_of_ble_eq_true rfl⟩ ⟨Nat.le_of_ble_eq_true rfl, Nat.le_of_ble_eq_true rfl⟩ rfl (Nat.le_of_ble_eq_true rfl) dL_isAhead_175 (r_N ?_) r_NX
                                            show PX Z 10 S930 0 0 178 [(7, .int v906), (0, va_rf r0), (1, .int i1), (2, .int v896), (3, .int v897), (4, .int v898), (6, .int v899)] [.int v929]
                                            refine x_aload_n (i := 0) hC dL_isAhead_178 rfl 1 rfl ?_
                                            refine x_iload_n (i := 3) hC dL_isAhead_179 rfl 4 rfl ?_
                                            refine x_iconst (v := (3 : Int32)) hC dL_isAhead_180 (by decide) ?_
                                            replace h := dr_el h
                                            obtain ⟨a933, ea934, ha935, h⟩ := h
                                            replace h := bt_el h
                                            obtain ⟨v936, S937, hb976, h⟩ | ⟨j938, S939, hb976, h⟩ := h
                                            · refine x_callV hC (st := [.int v929]) (mtr_X4_personOf _ _ _ _ (v936, S937) hb976) ea934 ha935 kf_4 q_506 q_507 q_508 q_1 q_509 ⟨rfl, hy_X4_personOf⟩ ⟨Nat.le_of_ble_eq_true rfl, Nat.le_of_ble_eq_true rfl⟩ ⟨Nat.le_of_ble_eq_true rfl, Nat.le_of_ble_eq_true rfl⟩ rfl (Nat.le_of_ble_eq_true rfl) dL_isAhead_181 (r_N ?_) r_NX
                                              show PX Z 10 S937 0 0 184 [(7, .int v906), (0, va_rf r0), (1, .int i1), (2, .int v896), (3, .int v897), (4, .int v898), (6, .int v899)] [.int v936, .int v929]
                                              refine x_icmp_ne (t := 229) hC dL_isAhead_184 (by decide) (fun c940 => ?_) (fun c940 => ?_)
                                              · replace h := it_f c940 h
                                                refine x_iconst (v := (0 : Int32)) hC dL_isAhead_229 (by decide) ?_
                                                refine x_sub (l' := [(0, va_rf r0), (1, .int i1), (2, .int v896), (3, .int v897), (6, .int v899), (7, .int v906)]) [1, 2, 3, 4, 6, 0] rfl ?_
                                                exact J_230 _ _ _ _ _ _ h
                                              · replace h := it_t c940 h
                                                refine x_aload_n (i := 0) hC dL_isAhead_187 rfl 1 rfl ?_
                                                refine x_iload (i := 6) hC dL_isAhead_188 6 rfl ?_
                                                refine x_iconst (v := (0 : Int32)) hC dL_isAhead_190 (by decide) ?_
                                                replace h := dr_el h
                                                obtain ⟨a941, ea942, ha943, h⟩ := h
                                                replace h := bt_el h
                                                obtain ⟨v944, S945, hb975, h⟩ | ⟨j946, S947, hb975, h⟩ := h
                                                · refine x_callV hC (st := []) (mtr_X4_personOf _ _ _ _ (v944, S945) hb975) ea942 ha943 kf_4 q_506 q_507 q_508 q_1 q_509 ⟨rfl, hy_X4_personOf⟩ ⟨Nat.le_of_ble_eq_true rfl, Nat.le_of_ble_eq_true rfl⟩ ⟨Nat.le_of_ble_eq_true rfl, Nat.le_of_ble_eq_true rfl⟩ rfl (Nat.le_of_ble_eq_true rfl) dL_isAhead_191 (r_N ?_) r_NX
                                                  show PX Z 10 S945 0 0 194 [(7, .int v906), (0, va_rf r0), (1, .int i1), (2, .int v896), (3, .int v897), (4, .int v898), (6, .int v899)] [.int v944]
                                                  refine x_aload_n (i := 0) hC dL_isAhead_194 rfl 1 rfl ?_
                                                  refine x_iload_n (i := 3) hC dL_isAhead_195 rfl 4 rfl ?_
                                                  refine x_iconst (v := (0 : Int32)) hC dL_isAhead_196 (by decide) ?_
                                                  replace h := dr_el h
                                                  obtain ⟨a948, ea949, ha950, h⟩ := h
                                                  replace h := bt_el h
                                                  obtain ⟨v951, S952, hb974, h⟩ | ⟨j953, S954, hb974, h⟩ := h
                                                  · refine x_callV hC (st := [.int v944]) (mtr_X4_personOf _ _ _ _ (v951, S952) hb974) ea949 ha950 kf_4 q_506 q_507 q_508 q_1 q_509 ⟨rfl, hy_X4_personOf⟩ ⟨Nat.le_of_ble_eq_true rfl, Nat.le_of_ble_eq_true rfl⟩ ⟨Nat.le_of_ble_eq_true rfl, Nat.le_of_ble_eq_true rfl⟩ rfl (Nat.le_of_ble_eq_true rfl) dL_isAhead_197 (r_N ?_) r_NX
                                                    show PX Z 10 S952 0 0 200 [(7, .int v906), (0, va_rf r0), (1, .int i1), (2, .int v896), (3, .int v897), (4, .int v898), (6, .int v899)] [.int v951, .int v944]
                                                    refine x_icmp_gt (t := 225) hC dL_isAhead_200 (by decide) (fun c955 => ?_) (fun c955 => ?_)
                                                    · replace h := it_t c955 h
                                                      refine x_iconst (v := (1 : Int32)) hC dL_isAhead_225 (by decide) ?_
                                                      refine x_goto (t := 230) hC dL_isAhead_226 (by decide) ?_
                                                      refine x_sub (l' := [(0, va_rf r0), (1, .int i1), (2, .int v896), (3, .int v897), (6, .int v899), (7, .int v906)]) [1, 2, 3, 4, 6, 0] rfl ?_
                                                      exact J_230 _ _ _ _ _ _ h
                                                    · replace h := it_f c955 h
                                                      refine x_aload_n (i := 0) hC dL_isAhead_203 rfl 1 rfl ?_
                                                      refine x_iload (i := 6) hC dL_isAhead_204 6 rfl ?_
                                                      refine x_iconst (v := (0 : Int32)) hC dL_isAhead_206 (by decide) ?_
                                                      replace h := dr_el h
                                                      obtain ⟨a956, ea957, ha958, h⟩ := h
                                                      replace h := bt_el h
                                                      obtain ⟨v959, S960, hb973, h⟩ | ⟨j961, S962, hb973, h⟩ := h
                                                      · refine x_callV hC (st := []) (mtr_X4_personOf _ _ _ _ (v959, S960) hb973) ea957 ha958 kf_4 q_506 q_507 q_508 q_1 q_509 ⟨rfl, hy_X4_personOf⟩ ⟨Nat.le_of_ble_eq_true rfl, Nat.le_of_ble_eq_true rfl⟩ ⟨Nat.le_of_ble_eq_true rfl, Nat.le_of_ble_eq_true rfl⟩ rfl (Nat.le_of_ble_eq_true rfl) dL_isAhead_207 (r_N ?_) r_NX
                                                        show PX Z 10 S960 0 0 210 [(7, .int v906), (0, va_rf r0), (1, .int i1), (2, .int v896), (3, .int v897), (4, .int v898), (6, .int v899)] [.int v959]
                                                        refine x_aload_n (i := 0) hC dL_isAhead_210 rfl 1 rfl ?_
                                                        refine x_iload_n (i := 3) hC dL_isAhead_211 rfl 4 rfl ?_
                                                        refine x_iconst (v := (0 : Int32)) hC dL_isAhead_212 (by decide) ?_
                                                        replace h := dr_el h
                                                        obtain ⟨a963, ea964, ha965, h⟩ := h
                                                        replace h := bt_el h
                                                        obtain ⟨v966, S967, hb972, h⟩ | ⟨j968, S969, hb972, h⟩ := h
                                                        · refine x_callV hC (st := [.int v959]) (mtr_X4_personOf _ _ _ _ (v966, S967) hb972) ea964 ha965 kf_4 q_506 q_507 q_508 q_1 q_509 ⟨rfl, hy_X4_personOf⟩ ⟨Nat.le_of_ble_eq_true rfl, Nat.le_of_ble_eq_true rfl⟩ ⟨Nat.le_of_ble_eq_true rfl, Nat.le_of_ble_eq_true rfl⟩ rfl (Nat.le_of_ble_eq_true rfl) dL_isAhead_213 (r_N ?_) r_NX
                                                          show PX Z 10 S967 0 0 216 [(7, .int v906), (0, va_rf r0), (1, .int i1), (2, .int v896), (3, .int v897), (4, .int v898), (6, .int v899)] [.int v966, .int v959]
                                                          refine x_icmp_ne (t := 229) hC dL_isAhead_216 (by decide) (fun c970 => ?_) (fun c970 => ?_)
                                                          · replace h := it_f c970 h
                                                            refine x_iconst (v := (0 : Int32)) hC dL_isAhead_229 (by decide) ?_
                                                            refine x_sub (l' := [(0, va_rf r0), (1, .int i1), (2, .int v896), (3, .int v897), (6, .int v899), (7, .int v906)]) [1, 2, 3, 4, 6, 0] rfl ?_
                                                            exact J_230 _ _ _ _ _ _ h
                                                          · replace h := it_t c970 h
                                                            refine x_iload (i := 6) hC dL_isAhead_219 6 rfl ?_
                                                            refine x_iload_n (i := 3) hC dL_isAhead_221 rfl 4 rfl ?_
                                                            refine x_icmp_ge (t := 229) hC dL_isAhead_222 (by decide) (fun c971 => ?_) (fun c971 => ?_)
                                                            · replace h := it_t c971 h
                                                              refine x_iconst (v := (0 : Int32)) hC dL_isAhead_229 (by decide) ?_
                                                              refine x_sub (l' := [(0, va_rf r0), (1, .int i1), (2, .int v896), (3, .int v897), (6, .int v899), (7, .int v906)]) [1, 2, 3, 4, 6, 0] rfl ?_
                                                              exact J_230 _ _ _ _ _ _ h
                                                            · replace h := it_f c971 h
                                                              refine x_iconst (v := (1 : Int32)) hC dL_isAhead_225 (by decide) ?_
                                                              refine x_goto (t := 230) hC dL_isAhead_226 (by decide) ?_
                                                              refine x_sub (l' := [(0, va_rf r0), (1, .int i1), (2, .int v896), (3, .int v897), (6, .int v899), (7, .int v906)]) [1, 2, 3, 4, 6, 0] rfl ?_
                                                              exact J_230 _ _ _ _ _ _ h
                                                        · replace h := ir_x h hg_130; exact z_no hyr (Option.some.inj h)
                                                      · replace h := ir_x h hg_130; exact z_no hyr (Option.some.inj h)
                                                  · replace h := ir_x h hg_130; exact z_no hyr (Option.some.inj h)
                                                · replace h := ir_x h hg_130; exact z_no hyr (Option.some.inj h)
                                            · replace h := ir_x h hg_130; exact z_no hyr (Option.some.inj h)
                                          · replace h := ir_x h hg_130; exact z_no hyr (Option.some.inj h)
                                      · replace h := ir_x h hg_130; exact z_no hyr (Option.some.inj h)
                                    · replace h := ir_x h hg_130; exact z_no hyr (Option.some.inj h)
                                · replace h := ir_x h hg_130; exact z_no hyr (Option.some.inj h)
                          · replace h := it_f c895 h
                            refine x_iload (i := 5) hC dL_isAhead_106 5 rfl ?_
                            refine x_iload_n (i := 2) hC dL_isAhead_108 rfl 2 rfl ?_
                            refine x_if_le (t := 116) hC dL_isAhead_109 (by decide) (fun c981 => ?_) (fun c981 => ?_)
                            · replace h := it_t c981 h
                              refine x_iconst (v := (0 : Int32)) hC dL_isAhead_116 (by decide) ?_
                              refine x_sub (l' := [(0, va_rf r0), (1, .int i1), (2, .int v881), (3, .int v882)]) [0, 1, 2, 3] rfl ?_
                              exact J_117 _ _ _ _ _ h
                            · replace h := it_f c981 h
                              refine x_iconst (v := (1 : Int32)) hC dL_isAhead_112 (by decide) ?_
                              refine x_goto (t := 117) hC dL_isAhead_113 (by decide) ?_
                              refine x_sub (l' := [(0, va_rf r0), (1, .int i1), (2, .int v881), (3, .int v882)]) [0, 1, 2, 3] rfl ?_
                              exact J_117 _ _ _ _ _ h
                        · replace h := it_f c894 h
                          refine x_iload (i := 5) hC dL_isAhead_73 5 rfl ?_
                          refine x_if_ne (t := 88) hC dL_isAhead_75 (by decide) (fun c982 => ?_) (fun c982 => ?_)
                          · replace h := it_f c982 h
                            refine x_iconst (v := (1 : Int32)) hC dL_isAhead_88 (by decide) ?_
                            refine x_goto (t := 93) hC dL_isAhead_89 (by decide) ?_
                            refine x_istore (i := 5) (l' := [(5, .int (1 : Int32)), (0, va_rf r0), (1, .int i1), (2, .int v881), (3, .int v882), (4, .int v883), (6, .int v885)]) hC dL_isAhead_93 (⟨fun _ => c_rf r0, ⟨fun _ => rfl, ⟨fun _ => rfl, ⟨fun _ => rfl, ⟨fun _ => rfl, ⟨fun _ => rfl, ⟨fun _ => rfl, trivial⟩⟩⟩⟩⟩⟩⟩) (by decide) rfl ?_
                            refine x_iinc (i := 6) (v := (v885 + (1 : Int32))) (l' := [(6, .int (v885 + (1 : Int32))), (5, .int (1 : Int32)), (0, va_rf r0), (1, .int i1), (2, .int v881), (3, .int v882), (4, .int v883)]) hC dL_isAhead_95 6 rfl rfl (⟨fun _ => rfl, ⟨fun _ => c_rf r0, ⟨fun _ => rfl, ⟨fun _ => rfl, ⟨fun _ => rfl, ⟨fun _ => rfl, ⟨fun _ => rfl, trivial⟩⟩⟩⟩⟩⟩⟩) (by decide) rfl ?_
                            refine x_goto (t := 63) hC dL_isAhead_98 (by decide) ?_
                            refine x_sub (l' := [(0, va_rf r0), (1, .int i1), (2, .int v881), (3, .int v882), (4, .int v883), (5, .int (1 : Int32)), (6, .int (v885 + (1 : Int32)))]) [2, 3, 4, 5, 6, 1, 0] rfl ?_
                            have hb := bk_x h hg_63
                            exact hb
                          · replace h := it_t c982 h
                            refine x_aload_n (i := 0) hC dL_isAhead_78 rfl 0 rfl ?_
                            refine x_iload (i := 6) hC dL_isAhead_79 6 rfl ?_
                            replace h := dr_el h
                            obtain ⟨a983, ea984, ha985, h⟩ := h
                            replace h := bt_el h
                            obtain ⟨v986, S987, hb991, h⟩ | ⟨j988, S989, hb991, h⟩ := h
                            · refine x_callV hC (st := []) (mtr_X4_bestReviewer _ _ _ (v986, S987) hb991) ea984 ha985 kf_4 q_688 q_689 q_690 q_1 q_691 ⟨rfl, hy_X4_bestReviewer⟩ ⟨Nat.le_of_ble_eq_true rfl, Nat.le_of_ble_eq_true rfl⟩ ⟨Nat.le_of_ble_eq_true rfl, Nat.le_of_ble_eq_true rfl⟩ rfl (Nat.le_of_ble_eq_true rfl) dL_isAhead_81 (r_N ?_) r_NX
                              show PX Z 10 S987 0 0 84 [(0, va_rf r0), (1, .int i1), (2, .int v881), (3, .int v882), (4, .int v883), (5, .int v884), (6, .int v885)] [.int v986]
                              refine x_iconst (v := (-1 : Int32)) hC dL_isAhead_84 (by decide) ?_
                              refine x_icmp_eq (t := 92) hC dL_isAhead_85 (by decide) (fun c990 => ?_) (fun c990 => ?_)
                              · replace h := it_t c990 h
                                refine x_iconst (v := (0 : Int32)) hC dL_isAhead_92 (by decide) ?_
                                refine x_istore (i := 5) (l' := [(5, .int (0 : Int32)), (0, va_rf r0), (1, .int i1), (2, .int v881), (3, .int v882), (4, .int v883), (6, .int v885)]) hC dL_isAhead_93 (⟨fun _ => c_rf r0, ⟨fun _ => rfl, ⟨fun _ => rfl, ⟨fun _ => rfl, ⟨fun _ => rfl, ⟨fun _ => rfl, ⟨fun _ => rfl, trivial⟩⟩⟩⟩⟩⟩⟩) (by decide) rfl ?_
                                refine x_iinc (i := 6) (v := (v885 + (1 : Int32))) (l' := [(6, .int (v885 + (1 : Int32))), (5, .int (0 : Int32)), (0, va_rf r0), (1, .int i1), (2, .int v881), (3, .int v882), (4, .int v883)]) hC dL_isAhead_95 6 rfl rfl (⟨fun _ => rfl, ⟨fun _ => c_rf r0, ⟨fun _ => rfl, ⟨fun _ => rfl, ⟨fun _ => rfl, ⟨fun _ => rfl, ⟨fun _ => rfl, trivial⟩⟩⟩⟩⟩⟩⟩) (by decide) rfl ?_
                                refine x_goto (t := 63) hC dL_isAhead_98 (by decide) ?_
                                refine x_sub (l' := [(0, va_rf r0), (1, .int i1), (2, .int v881), (3, .int v882), (4, .int v883), (5, .int (0 : Int32)), (6, .int (v885 + (1 : Int32)))]) [2, 3, 4, 5, 6, 1, 0] rfl ?_
                                have hb := bk_x h hg_63
                                exact hb
                              · replace h := it_f c990 h
                                refine x_iconst (v := (1 : Int32)) hC dL_isAhead_88 (by decide) ?_
                                refine x_goto (t := 93) hC dL_isAhead_89 (by decide) ?_
                                refine x_istore (i := 5) (l' := [(5, .int (1 : Int32)), (0, va_rf r0), (1, .int i1), (2, .int v881), (3, .int v882), (4, .int v883), (6, .int v885)]) hC dL_isAhead_93 (⟨fun _ => c_rf r0, ⟨fun _ => rfl, ⟨fun _ => rfl, ⟨fun _ => rfl, ⟨fun _ => rfl, ⟨fun _ => rfl, ⟨fun _ => rfl, trivial⟩⟩⟩⟩⟩⟩⟩) (by decide) rfl ?_
                                refine x_iinc (i := 6) (v := (v885 + (1 : Int32))) (l' := [(6, .int (v885 + (1 : Int32))), (5, .int (1 : Int32)), (0, va_rf r0), (1, .int i1), (2, .int v881), (3, .int v882), (4, .int v883)]) hC dL_isAhead_95 6 rfl rfl (⟨fun _ => rfl, ⟨fun _ => c_rf r0, ⟨fun _ => rfl, ⟨fun _ => rfl, ⟨fun _ => rfl, ⟨fun _ => rfl, ⟨fun _ => rfl, trivial⟩⟩⟩⟩⟩⟩⟩) (by decide) rfl ?_
                                refine x_goto (t := 63) hC dL_isAhead_98 (by decide) ?_
                                refine x_sub (l' := [(0, va_rf r0), (1, .int i1), (2, .int v881), (3, .int v882), (4, .int v883), (5, .int (1 : Int32)), (6, .int (v885 + (1 : Int32)))]) [2, 3, 4, 5, 6, 1, 0] rfl ?_
                                have hb := bk_x h hg_63
                                exact hb
                            · replace h := ir_x h hg_63; exact z_no hyr (Option.some.inj h)
                      · replace h := ir_x h hg_63; exact z_no hyr (Option.some.inj h)
                  · exact z_no hyr (Option.some.inj h)
            · exact z_no hyr (Option.some.inj h)
      · exact z_no hyr (Option.some.inj h)
    · exact z_no hyr (Option.some.inj h)
  · exact z_no hyr (Option.some.inj h)
