theorem dX3_digest_104 : decode cX3_digest 104 = .ok (.bipush 6, 2) := by decide +kernel
theorem dX3_digest_106 : decode cX3_digest 106 = .ok (.if_icmp .ge 39, 3) := by decide +kernel
theorem dX3_digest_109 : decode cX3_digest 109 = .ok (.iconst 0, 1) := by decide +kernel
theorem dX3_digest_110 : decode cX3_digest 110 = .ok (.istore 4, 2) := by decide +kernel
theorem dX3_digest_112 : decode cX3_digest 112 = .ok (.iload 4, 2) := by decide +kernel
theorem dX3_digest_114 : decode cX3_digest 114 = .ok (.iconst 5, 1) := by decide +kernel
theorem dX3_digest_115 : decode cX3_digest 115 = .ok (.if_icmp .gt 24, 3) := by decide +kernel
theorem dX3_digest_118 : decode cX3_digest 118 = .ok (.ldc2_w 213, 3) := by decide +kernel
theorem dX3_digest_121 : decode cX3_digest 121 = .ok (.lload_n 1, 1) := by decide +kernel
theorem dX3_digest_122 : decode cX3_digest 122 = .ok (.lmul, 1) := by decide +kernel
theorem dX3_digest_123 : decode cX3_digest 123 = .ok (.aload_n 0, 1) := by decide +kernel
theorem dX3_digest_124 : decode cX3_digest 124 = .ok (.iload_n 3, 1) := by decide +kernel
theorem dX3_digest_125 : decode cX3_digest 125 = .ok (.iload 4, 2) := by decide +kernel
theorem dX3_digest_127 : decode cX3_digest 127 = .ok (.invokevirtual 224, 3) := by decide +kernel
theorem dX3_digest_130 : decode cX3_digest 130 = .ok (.i2l, 1) := by decide +kernel
theorem dX3_digest_131 : decode cX3_digest 131 = .ok (.ladd, 1) := by decide +kernel
theorem dX3_digest_132 : decode cX3_digest 132 = .ok (.lstore_n 1, 1) := by decide +kernel
theorem dX3_digest_133 : decode cX3_digest 133 = .ok (.iinc 4 1, 3) := by decide +kernel
theorem dX3_digest_136 : decode cX3_digest 136 = .ok (.goto (-24), 3) := by decide +kernel
theorem dX3_digest_139 : decode cX3_digest 139 = .ok (.iinc 3 1, 3) := by decide +kernel
theorem dX3_digest_142 : decode cX3_digest 142 = .ok (.goto (-39), 3) := by decide +kernel
theorem dX3_digest_145 : decode cX3_digest 145 = .ok (.iconst 0, 1) := by decide +kernel
theorem dX3_digest_146 : decode cX3_digest 146 = .ok (.istore_n 3, 1) := by decide +kernel
theorem dX3_digest_147 : decode cX3_digest 147 = .ok (.iload_n 3, 1) := by decide +kernel
theorem dX3_digest_148 : decode cX3_digest 148 = .ok (.iconst 3, 1) := by decide +kernel
theorem dX3_digest_149 : decode cX3_digest 149 = .ok (.if_icmp .ge 67, 3) := by decide +kernel
theorem dX3_digest_152 : decode cX3_digest 152 = .ok (.iconst 0, 1) := by decide +kernel
theorem dX3_digest_153 : decode cX3_digest 153 = .ok (.istore 4, 2) := by decide +kernel
theorem dX3_digest_155 : decode cX3_digest 155 = .ok (.iload 4, 2) := by decide +kernel
theorem dX3_digest_157 : decode cX3_digest 157 = .ok (.iconst 5, 1) := by decide +kernel
theorem dX3_digest_158 : decode cX3_digest 158 = .ok (.if_icmp .gt 24, 3) := by decide +kernel
theorem dX3_digest_161 : decode cX3_digest 161 = .ok (.ldc2_w 213, 3) := by decide +kernel
theorem dX3_digest_164 : decode cX3_digest 164 = .ok (.lload_n 1, 1) := by decide +kernel
theorem dX3_digest_165 : decode cX3_digest 165 = .ok (.lmul, 1) := by decide +kernel
theorem dX3_digest_166 : decode cX3_digest 166 = .ok (.aload_n 0, 1) := by decide +kernel
theorem dX3_digest_167 : decode cX3_digest 167 = .ok (.iload_n 3, 1) := by decide +kernel
theorem dX3_digest_168 : decode cX3_digest 168 = .ok (.iload 4, 2) := by decide +kernel
theorem dX3_digest_170 : decode cX3_digest 170 = .ok (.invokevirtual 227, 3) := by decide +kernel
theorem dX3_digest_173 : decode cX3_digest 173 = .ok (.i2l, 1) := by decide +kernel
theorem dX3_digest_174 : decode cX3_digest 174 = .ok (.ladd, 1) := by decide +kernel
theorem dX3_digest_175 : decode cX3_digest 175 = .ok (.lstore_n 1, 1) := by decide +kernel
theorem dX3_digest_176 : decode cX3_digest 176 = .ok (.iinc 4 1, 3) := by decide +kernel
theorem dX3_digest_179 : decode cX3_digest 179 = .ok (.goto (-24), 3) := by decide +kernel
theorem dX3_digest_182 : decode cX3_digest 182 = .ok (.ldc2_w 213, 3) := by decide +kernel
theorem dX3_digest_185 : decode cX3_digest 185 = .ok (.lload_n 1, 1) := by decide +kernel
theorem dX3_digest_186 : decode cX3_digest 186 = .ok (.lmul, 1) := by decide +kernel
theorem dX3_digest_187 : decode cX3_digest 187 = .ok (.aload_n 0, 1) := by decide +kernel
theorem dX3_digest_188 : decode cX3_digest 188 = .ok (.iload_n 3, 1) := by decide +kernel
theorem dX3_digest_189 : decode cX3_digest 189 = .ok (.iconst 0, 1) := by decide +kernel
theorem dX3_digest_190 : decode cX3_digest 190 = .ok (.invokevirtual 230, 3) := by decide +kernel
theorem dX3_digest_193 : decode cX3_digest 193 = .ok (.i2l, 1) := by decide +kernel
theorem dX3_digest_194 : decode cX3_digest 194 = .ok (.ladd, 1) := by decide +kernel
theorem dX3_digest_195 : decode cX3_digest 195 = .ok (.lstore_n 1, 1) := by decide +kernel
theorem dX3_digest_196 : decode cX3_digest 196 = .ok (.ldc2_w 213, 3) := by decide +kernel
theorem dX3_digest_199 : decode cX3_digest 199 = .ok (.lload_n 1, 1) := by decide +kernel
theorem dX3_digest_200 : decode cX3_digest 200 = .ok (.lmul, 1) := by decide +kernel
theorem dX3_digest_201 : decode cX3_digest 201 = .ok (.aload_n 0, 1) := by decide +kernel
theorem dX3_digest_202 : decode cX3_digest 202 = .ok (.iload_n 3, 1) := by decide +kernel
theorem dX3_digest_203 : decode cX3_digest 203 = .ok (.iconst 1, 1) := by decide +kernel
theorem dX3_digest_204 : decode cX3_digest 204 = .ok (.invokevirtual 230, 3) := by decide +kernel
theorem dX3_digest_207 : decode cX3_digest 207 = .ok (.i2l, 1) := by decide +kernel
theorem dX3_digest_208 : decode cX3_digest 208 = .ok (.ladd, 1) := by decide +kernel
theorem dX3_digest_209 : decode cX3_digest 209 = .ok (.lstore_n 1, 1) := by decide +kernel
theorem dX3_digest_210 : decode cX3_digest 210 = .ok (.iinc 3 1, 3) := by decide +kernel
theorem dX3_digest_213 : decode cX3_digest 213 = .ok (.goto (-66), 3) := by decide +kernel
theorem dX3_digest_216 : decode cX3_digest 216 = .ok (.iconst 0, 1) := by decide +kernel
theorem dX3_digest_217 : decode cX3_digest 217 = .ok (.istore_n 3, 1) := by decide +kernel
theorem dX3_digest_218 : decode cX3_digest 218 = .ok (.iload_n 3, 1) := by decide +kernel
theorem dX3_digest_219 : decode cX3_digest 219 = .ok (.iconst 5, 1) := by decide +kernel
theorem dX3_digest_220 : decode cX3_digest 220 = .ok (.if_icmp .ge 54, 3) := by decide +kernel
theorem dX3_digest_223 : decode cX3_digest 223 = .ok (.iconst 0, 1) := by decide +kernel
theorem dX3_digest_224 : decode cX3_digest 224 = .ok (.istore 4, 2) := by decide +kernel
theorem dX3_digest_226 : decode cX3_digest 226 = .ok (.iload 4, 2) := by decide +kernel
theorem dX3_digest_228 : decode cX3_digest 228 = .ok (.iconst 3, 1) := by decide +kernel
theorem dX3_digest_229 : decode cX3_digest 229 = .ok (.if_icmp .gt 24, 3) := by decide +kernel
theorem dX3_digest_232 : decode cX3_digest 232 = .ok (.ldc2_w 213, 3) := by decide +kernel
theorem dX3_digest_235 : decode cX3_digest 235 = .ok (.lload_n 1, 1) := by decide +kernel
theorem dX3_digest_236 : decode cX3_digest 236 = .ok (.lmul, 1) := by decide +kernel
theorem dX3_digest_237 : decode cX3_digest 237 = .ok (.aload_n 0, 1) := by decide +kernel
theorem dX3_digest_238 : decode cX3_digest 238 = .ok (.iload_n 3, 1) := by decide +kernel
theorem dX3_digest_239 : decode cX3_digest 239 = .ok (.iload 4, 2) := by decide +kernel
theorem dX3_digest_241 : decode cX3_digest 241 = .ok (.invokevirtual 233, 3) := by decide +kernel
theorem dX3_digest_244 : decode cX3_digest 244 = .ok (.i2l, 1) := by decide +kernel
theorem dX3_digest_245 : decode cX3_digest 245 = .ok (.ladd, 1) := by decide +kernel
theorem dX3_digest_246 : decode cX3_digest 246 = .ok (.lstore_n 1, 1) := by decide +kernel
theorem dX3_digest_247 : decode cX3_digest 247 = .ok (.iinc 4 1, 3) := by decide +kernel
theorem dX3_digest_250 : decode cX3_digest 250 = .ok (.goto (-24), 3) := by decide +kernel
theorem dX3_digest_253 : decode cX3_digest 253 = .ok (.ldc2_w 213, 3) := by decide +kernel
theorem dX3_digest_256 : decode cX3_digest 256 = .ok (.lload_n 1, 1) := by decide +kernel
theorem dX3_digest_257 : decode cX3_digest 257 = .ok (.lmul, 1) := by decide +kernel
theorem dX3_digest_258 : decode cX3_digest 258 = .ok (.aload_n 0, 1) := by decide +kernel
theorem dX3_digest_259 : decode cX3_digest 259 = .ok (.iload_n 3, 1) := by decide +kernel
theorem dX3_digest_260 : decode cX3_digest 260 = .ok (.bipush 9, 2) := by decide +kernel
theorem dX3_digest_262 : decode cX3_digest 262 = .ok (.invokevirtual 236, 3) := by decide +kernel
theorem dX3_digest_265 : decode cX3_digest 265 = .ok (.i2l, 1) := by decide +kernel
theorem dX3_digest_266 : decode cX3_digest 266 = .ok (.ladd, 1) := by decide +kernel
theorem dX3_digest_267 : decode cX3_digest 267 = .ok (.lstore_n 1, 1) := by decide +kernel
theorem dX3_digest_268 : decode cX3_digest 268 = .ok (.iinc 3 1, 3) := by decide +kernel
theorem dX3_digest_271 : decode cX3_digest 271 = .ok (.goto (-53), 3) := by decide +kernel
theorem dX3_digest_274 : decode cX3_digest 274 = .ok (.ldc2_w 213, 3) := by decide +kernel
theorem dX3_digest_277 : decode cX3_digest 277 = .ok (.lload_n 1, 1) := by decide +kernel
theorem dX3_digest_278 : decode cX3_digest 278 = .ok (.lmul, 1) := by decide +kernel
theorem dX3_digest_279 : decode cX3_digest 279 = .ok (.aload_n 0, 1) := by decide +kernel
theorem dX3_digest_280 : decode cX3_digest 280 = .ok (.invokevirtual 239, 3) := by decide +kernel
theorem dX3_digest_283 : decode cX3_digest 283 = .ok (.i2l, 1) := by decide +kernel
theorem dX3_digest_284 : decode cX3_digest 284 = .ok (.ladd, 1) := by decide +kernel
theorem dX3_digest_285 : decode cX3_digest 285 = .ok (.lstore_n 1, 1) := by decide +kernel
theorem dX3_digest_286 : decode cX3_digest 286 = .ok (.ldc2_w 213, 3) := by decide +kernel
theorem dX3_digest_289 : decode cX3_digest 289 = .ok (.lload_n 1, 1) := by decide +kernel
theorem dX3_digest_290 : decode cX3_digest 290 = .ok (.lmul, 1) := by decide +kernel
theorem dX3_digest_291 : decode cX3_digest 291 = .ok (.aload_n 0, 1) := by decide +kernel
theorem dX3_digest_292 : decode cX3_digest 292 = .ok (.invokevirtual 242, 3) := by decide +kernel
theorem dX3_digest_295 : decode cX3_digest 295 = .ok (.i2l, 1) := by decide +kernel
theorem dX3_digest_296 : decode cX3_digest 296 = .ok (.ladd, 1) := by decide +kernel
theorem dX3_digest_297 : decode cX3_digest 297 = .ok (.lstore_n 1, 1) := by decide +kernel
theorem dX3_digest_298 : decode cX3_digest 298 = .ok (.ldc2_w 213, 3) := by decide +kernel
theorem dX3_digest_301 : decode cX3_digest 301 = .ok (.lload_n 1, 1) := by decide +kernel
theorem dX3_digest_302 : decode cX3_digest 302 = .ok (.lmul, 1) := by decide +kernel
theorem dX3_digest_303 : decode cX3_digest 303 = .ok (.aload_n 0, 1) := by decide +kernel
theorem dX3_digest_304 : decode cX3_digest 304 = .ok (.invokevirtual 245, 3) := by decide +kernel
theorem dX3_digest_307 : decode cX3_digest 307 = .ok (.invokestatic 249, 3) := by decide +kernel
theorem dX3_digest_310 : decode cX3_digest 310 = .ok (.ladd, 1) := by decide +kernel
theorem dX3_digest_311 : decode cX3_digest 311 = .ok (.lstore_n 1, 1) := by decide +kernel
theorem dX3_digest_312 : decode cX3_digest 312 = .ok (.iconst 0, 1) := by decide +kernel
theorem dX3_digest_313 : decode cX3_digest 313 = .ok (.istore_n 3, 1) := by decide +kernel
theorem dX3_digest_314 : decode cX3_digest 314 = .ok (.iload_n 3, 1) := by decide +kernel
theorem dX3_digest_315 : decode cX3_digest 315 = .ok (.iconst 2, 1) := by decide +kernel
theorem dX3_digest_316 : decode cX3_digest 316 = .ok (.if_icmp .ge 31, 3) := by decide +kernel
theorem dX3_digest_319 : decode cX3_digest 319 = .ok (.ldc2_w 213, 3) := by decide +kernel
theorem dX3_digest_322 : decode cX3_digest 322 = .ok (.lload_n 1, 1) := by decide +kernel
theorem dX3_digest_323 : decode cX3_digest 323 = .ok (.lmul, 1) := by decide +kernel
theorem dX3_digest_324 : decode cX3_digest 324 = .ok (.aload_n 0, 1) := by decide +kernel
theorem dX3_digest_325 : decode cX3_digest 325 = .ok (.getfield 20, 3) := by decide +kernel
theorem dX3_digest_328 : decode cX3_digest 328 = .ok (.iload_n 3, 1) := by decide +kernel
theorem dX3_digest_329 : decode cX3_digest 329 = .ok (.baload, 1) := by decide +kernel
theorem dX3_digest_330 : decode cX3_digest 330 = .ok (.ifCond .eq 7, 3) := by decide +kernel
theorem dX3_digest_333 : decode cX3_digest 333 = .ok (.iconst 1, 1) := by decide +kernel
theorem dX3_digest_334 : decode cX3_digest 334 = .ok (.goto 4, 3) := by decide +kernel
theorem dX3_digest_337 : decode cX3_digest 337 = .ok (.iconst 0, 1) := by decide +kernel
theorem dX3_digest_338 : decode cX3_digest 338 = .ok (.i2l, 1) := by decide +kernel
theorem dX3_digest_339 : decode cX3_digest 339 = .ok (.ladd, 1) := by decide +kernel
theorem dX3_digest_340 : decode cX3_digest 340 = .ok (.lstore_n 1, 1) := by decide +kernel
theorem dX3_digest_341 : decode cX3_digest 341 = .ok (.iinc 3 1, 3) := by decide +kernel
theorem dX3_digest_344 : decode cX3_digest 344 = .ok (.goto (-30), 3) := by decide +kernel
theorem dX3_digest_347 : decode cX3_digest 347 = .ok (.ldc2_w 213, 3) := by decide +kernel
theorem dX3_digest_350 : decode cX3_digest 350 = .ok (.lload_n 1, 1) := by decide +kernel
theorem dX3_digest_351 : decode cX3_digest 351 = .ok (.lmul, 1) := by decide +kernel
theorem dX3_digest_352 : decode cX3_digest 352 = .ok (.aload_n 0, 1) := by decide +kernel
theorem dX3_digest_353 : decode cX3_digest 353 = .ok (.getfield 37, 3) := by decide +kernel
theorem dX3_digest_356 : decode cX3_digest 356 = .ok (.getfield 126, 3) := by decide +kernel
theorem dX3_digest_359 : decode cX3_digest 359 = .ok (.i2l, 1) := by decide +kernel
theorem dX3_digest_360 : decode cX3_digest 360 = .ok (.ladd, 1) := by decide +kernel
theorem dX3_digest_361 : decode cX3_digest 361 = .ok (.lstore_n 1, 1) := by decide +kernel
theorem dX3_digest_362 : decode cX3_digest 362 = .ok (.iconst 0, 1) := by decide +kernel
theorem dX3_digest_363 : decode cX3_digest 363 = .ok (.istore_n 3, 1) := by decide +kernel
theorem dX3_digest_364 : decode cX3_digest 364 = .ok (.iload_n 3, 1) := by decide +kernel
theorem dX3_digest_365 : decode cX3_digest 365 = .ok (.aload_n 0, 1) := by decide +kernel
theorem dX3_digest_366 : decode cX3_digest 366 = .ok (.getfield 37, 3) := by decide +kernel
theorem dX3_digest_369 : decode cX3_digest 369 = .ok (.getfield 126, 3) := by decide +kernel
theorem dX3_digest_372 : decode cX3_digest 372 = .ok (.if_icmp .ge 26, 3) := by decide +kernel
theorem dX3_digest_375 : decode cX3_digest 375 = .ok (.ldc2_w 213, 3) := by decide +kernel
theorem dX3_digest_378 : decode cX3_digest 378 = .ok (.lload_n 1, 1) := by decide +kernel
theorem dX3_digest_379 : decode cX3_digest 379 = .ok (.lmul, 1) := by decide +kernel
theorem dX3_digest_380 : decode cX3_digest 380 = .ok (.aload_n 0, 1) := by decide +kernel
theorem dX3_digest_381 : decode cX3_digest 381 = .ok (.getfield 37, 3) := by decide +kernel
theorem dX3_digest_384 : decode cX3_digest 384 = .ok (.getfield 131, 3) := by decide +kernel
theorem dX3_digest_387 : decode cX3_digest 387 = .ok (.iload_n 3, 1) := by decide +kernel
theorem dX3_digest_388 : decode cX3_digest 388 = .ok (.iaload, 1) := by decide +kernel
theorem dX3_digest_389 : decode cX3_digest 389 = .ok (.i2l, 1) := by decide +kernel
theorem dX3_digest_390 : decode cX3_digest 390 = .ok (.ladd, 1) := by decide +kernel
theorem dX3_digest_391 : decode cX3_digest 391 = .ok (.lstore_n 1, 1) := by decide +kernel
theorem dX3_digest_392 : decode cX3_digest 392 = .ok (.iinc 3 1, 3) := by decide +kernel
theorem dX3_digest_395 : decode cX3_digest 395 = .ok (.goto (-31), 3) := by decide +kernel
theorem dX3_digest_398 : decode cX3_digest 398 = .ok (.lload_n 1, 1) := by decide +kernel
theorem dX3_digest_399 : decode cX3_digest 399 = .ok (.lreturn, 1) := by decide +kernel
theorem dX3_needIndex_0 : decode cX3_needIndex 0 = .ok (.iload_n 0, 1) := by decide +kernel
theorem dX3_needIndex_1 : decode cX3_needIndex 1 = .ok (.ifCond .lt 8, 3) := by decide +kernel
theorem dX3_needIndex_4 : decode cX3_needIndex 4 = .ok (.iload_n 0, 1) := by decide +kernel
theorem dX3_needIndex_5 : decode cX3_needIndex 5 = .ok (.iload_n 1, 1) := by decide +kernel
theorem dX3_needIndex_6 : decode cX3_needIndex 6 = .ok (.if_icmp .lt 13, 3) := by decide +kernel
theorem dX3_needIndex_9 : decode cX3_needIndex 9 = .ok (.new 253, 3) := by decide +kernel
theorem dX3_needIndex_12 : decode cX3_needIndex 12 = .ok (.dup, 1) := by decide +kernel
theorem dX3_needIndex_13 : decode cX3_needIndex 13 = .ok (.ldc 255, 2) := by decide +kernel
theorem dX3_needIndex_15 : decode cX3_needIndex 15 = .ok (.invokespecial 257, 3) := by decide +kernel
theorem dX3_needIndex_18 : decode cX3_needIndex 18 = .ok (.athrow, 1) := by decide +kernel
theorem dX3_needIndex_19 : decode cX3_needIndex 19 = .ok (.return_, 1) := by decide +kernel
theorem dX3_needRange_0 : decode cX3_needRange 0 = .ok (.iload_n 0, 1) := by decide +kernel
theorem dX3_needRange_1 : decode cX3_needRange 1 = .ok (.iload_n 1, 1) := by decide +kernel
theorem dX3_needRange_2 : decode cX3_needRange 2 = .ok (.if_icmp .lt 8, 3) := by decide +kernel
theorem dX3_needRange_5 : decode cX3_needRange 5 = .ok (.iload_n 0, 1) := by decide +kernel
theorem dX3_needRange_6 : decode cX3_needRange 6 = .ok (.iload_n 2, 1) := by decide +kernel
theorem dX3_needRange_7 : decode cX3_needRange 7 = .ok (.if_icmp .le 14, 3) := by decide +kernel
theorem dX3_needRange_10 : decode cX3_needRange 10 = .ok (.new 141, 3) := by decide +kernel
theorem dX3_needRange_13 : decode cX3_needRange 13 = .ok (.dup, 1) := by decide +kernel
theorem dX3_needRange_14 : decode cX3_needRange 14 = .ok (.ldc_w 258, 3) := by decide +kernel
theorem dX3_needRange_17 : decode cX3_needRange 17 = .ok (.invokespecial 145, 3) := by decide +kernel
theorem dX3_needRange_20 : decode cX3_needRange 20 = .ok (.athrow, 1) := by decide +kernel
theorem dX3_needRange_21 : decode cX3_needRange 21 = .ok (.return_, 1) := by decide +kernel
theorem dX3_saveState_0 : decode cX3_saveState 0 = .ok (.aload_n 0, 1) := by decide +kernel
theorem dX3_saveState_1 : decode cX3_saveState 1 = .ok (.getfield 24, 3) := by decide +kernel
theorem dX3_saveState_4 : decode cX3_saveState 4 = .ok (.aload_n 0, 1) := by decide +kernel
theorem dX3_saveState_5 : decode cX3_saveState 5 = .ok (.getfield 27, 3) := by decide +kernel
theorem dX3_saveState_8 : decode cX3_saveState 8 = .ok (.aaload, 1) := by decide +kernel
theorem dX3_saveState_9 : decode cX3_saveState 9 = .ok (.aload_n 0, 1) := by decide +kernel
theorem dX3_saveState_10 : decode cX3_saveState 10 = .ok (.getfield 10, 3) := by decide +kernel
theorem dX3_saveState_13 : decode cX3_saveState 13 = .ok (.invokevirtual 153, 3) := by decide +kernel
theorem dX3_saveState_16 : decode cX3_saveState 16 = .ok (.aload_n 0, 1) := by decide +kernel
theorem dX3_saveState_17 : decode cX3_saveState 17 = .ok (.aload_n 0, 1) := by decide +kernel
theorem dX3_saveState_18 : decode cX3_saveState 18 = .ok (.getfield 27, 3) := by decide +kernel
theorem dX3_saveState_21 : decode cX3_saveState 21 = .ok (.iconst 1, 1) := by decide +kernel
theorem dX3_saveState_22 : decode cX3_saveState 22 = .ok (.iadd, 1) := by decide +kernel
theorem dX3_saveState_23 : decode cX3_saveState 23 = .ok (.bipush 6, 2) := by decide +kernel
theorem dX3_saveState_25 : decode cX3_saveState 25 = .ok (.if_icmp .ge 12, 3) := by decide +kernel
theorem dX3_saveState_28 : decode cX3_saveState 28 = .ok (.aload_n 0, 1) := by decide +kernel
theorem dX3_saveState_29 : decode cX3_saveState 29 = .ok (.getfield 27, 3) := by decide +kernel
theorem dX3_saveState_32 : decode cX3_saveState 32 = .ok (.iconst 1, 1) := by decide +kernel
theorem dX3_saveState_33 : decode cX3_saveState 33 = .ok (.iadd, 1) := by decide +kernel
theorem dX3_saveState_34 : decode cX3_saveState 34 = .ok (.goto 4, 3) := by decide +kernel
theorem dX3_saveState_37 : decode cX3_saveState 37 = .ok (.iconst 0, 1) := by decide +kernel
theorem dX3_saveState_38 : decode cX3_saveState 38 = .ok (.putfield 27, 3) := by decide +kernel
theorem dX3_saveState_41 : decode cX3_saveState 41 = .ok (.aload_n 0, 1) := by decide +kernel
theorem dX3_saveState_42 : decode cX3_saveState 42 = .ok (.getfield 31, 3) := by decide +kernel
theorem dX3_saveState_45 : decode cX3_saveState 45 = .ok (.bipush 6, 2) := by decide +kernel
theorem dX3_saveState_47 : decode cX3_saveState 47 = .ok (.if_icmp .ge 13, 3) := by decide +kernel
theorem dX3_saveState_50 : decode cX3_saveState 50 = .ok (.aload_n 0, 1) := by decide +kernel
theorem dX3_saveState_51 : decode cX3_saveState 51 = .ok (.dup, 1) := by decide +kernel
theorem dX3_saveState_52 : decode cX3_saveState 52 = .ok (.getfield 31, 3) := by decide +kernel
theorem dX3_saveState_55 : decode cX3_saveState 55 = .ok (.iconst 1, 1) := by decide +kernel
theorem dX3_saveState_56 : decode cX3_saveState 56 = .ok (.iadd, 1) := by decide +kernel
theorem dX3_saveState_57 : decode cX3_saveState 57 = .ok (.putfield 31, 3) := by decide +kernel
theorem dX3_saveState_60 : decode cX3_saveState 60 = .ok (.return_, 1) := by decide +kernel
theorem dX3_hoursUntilGround_0 : decode cX3_hoursUntilGround 0 = .ok (.iload_n 1, 1) := by decide +kernel
theorem dX3_hoursUntilGround_1 : decode cX3_hoursUntilGround 1 = .ok (.istore_n 2, 1) := by decide +kernel
theorem dX3_hoursUntilGround_2 : decode cX3_hoursUntilGround 2 = .ok (.aload_n 0, 1) := by decide +kernel
theorem dX3_hoursUntilGround_3 : decode cX3_hoursUntilGround 3 = .ok (.getfield 10, 3) := by decide +kernel
theorem dX3_hoursUntilGround_6 : decode cX3_hoursUntilGround 6 = .ok (.getfield 156, 3) := by decide +kernel
theorem dX3_hoursUntilGround_9 : decode cX3_hoursUntilGround 9 = .ok (.istore_n 3, 1) := by decide +kernel
theorem dX3_hoursUntilGround_10 : decode cX3_hoursUntilGround 10 = .ok (.sipush 19008, 3) := by decide +kernel
theorem dX3_hoursUntilGround_13 : decode cX3_hoursUntilGround 13 = .ok (.istore 4, 2) := by decide +kernel
theorem dX3_hoursUntilGround_15 : decode cX3_hoursUntilGround 15 = .ok (.iconst 1, 1) := by decide +kernel
theorem dX3_hoursUntilGround_16 : decode cX3_hoursUntilGround 16 = .ok (.istore 5, 2) := by decide +kernel
theorem dX3_hoursUntilGround_18 : decode cX3_hoursUntilGround 18 = .ok (.iload 5, 2) := by decide +kernel
theorem dX3_hoursUntilGround_20 : decode cX3_hoursUntilGround 20 = .ok (.iload 4, 2) := by decide +kernel
theorem dX3_hoursUntilGround_22 : decode cX3_hoursUntilGround 22 = .ok (.if_icmp .gt 41, 3) := by decide +kernel
theorem dX3_hoursUntilGround_25 : decode cX3_hoursUntilGround 25 = .ok (.iload_n 2, 1) := by decide +kernel
theorem dX3_hoursUntilGround_26 : decode cX3_hoursUntilGround 26 = .ok (.aload_n 0, 1) := by decide +kernel
theorem dX3_hoursUntilGround_27 : decode cX3_hoursUntilGround 27 = .ok (.getfield 41, 3) := by decide +kernel
theorem dX3_hoursUntilGround_30 : decode cX3_hoursUntilGround 30 = .ok (.iload_n 3, 1) := by decide +kernel
theorem dX3_hoursUntilGround_31 : decode cX3_hoursUntilGround 31 = .ok (.iaload, 1) := by decide +kernel
theorem dX3_hoursUntilGround_32 : decode cX3_hoursUntilGround 32 = .ok (.isub, 1) := by decide +kernel
theorem dX3_hoursUntilGround_33 : decode cX3_hoursUntilGround 33 = .ok (.istore_n 2, 1) := by decide +kernel
theorem dX3_hoursUntilGround_34 : decode cX3_hoursUntilGround 34 = .ok (.iload_n 2, 1) := by decide +kernel
theorem dX3_hoursUntilGround_35 : decode cX3_hoursUntilGround 35 = .ok (.ifCond .gt 6, 3) := by decide +kernel
theorem dX3_hoursUntilGround_38 : decode cX3_hoursUntilGround 38 = .ok (.iload 5, 2) := by decide +kernel
theorem dX3_hoursUntilGround_40 : decode cX3_hoursUntilGround 40 = .ok (.ireturn, 1) := by decide +kernel
theorem dX3_hoursUntilGround_41 : decode cX3_hoursUntilGround 41 = .ok (.iload_n 3, 1) := by decide +kernel
theorem dX3_hoursUntilGround_42 : decode cX3_hoursUntilGround 42 = .ok (.iconst 1, 1) := by decide +kernel
theorem dX3_hoursUntilGround_43 : decode cX3_hoursUntilGround 43 = .ok (.iadd, 1) := by decide +kernel
theorem dX3_hoursUntilGround_44 : decode cX3_hoursUntilGround 44 = .ok (.bipush 24, 2) := by decide +kernel
theorem dX3_hoursUntilGround_46 : decode cX3_hoursUntilGround 46 = .ok (.if_icmp .ge 9, 3) := by decide +kernel
theorem dX3_hoursUntilGround_49 : decode cX3_hoursUntilGround 49 = .ok (.iload_n 3, 1) := by decide +kernel
theorem dX3_hoursUntilGround_50 : decode cX3_hoursUntilGround 50 = .ok (.iconst 1, 1) := by decide +kernel
theorem dX3_hoursUntilGround_51 : decode cX3_hoursUntilGround 51 = .ok (.iadd, 1) := by decide +kernel
theorem dX3_hoursUntilGround_52 : decode cX3_hoursUntilGround 52 = .ok (.goto 4, 3) := by decide +kernel
theorem dX3_hoursUntilGround_55 : decode cX3_hoursUntilGround 55 = .ok (.iconst 0, 1) := by decide +kernel
theorem dX3_hoursUntilGround_56 : decode cX3_hoursUntilGround 56 = .ok (.istore_n 3, 1) := by decide +kernel
theorem dX3_hoursUntilGround_57 : decode cX3_hoursUntilGround 57 = .ok (.iinc 5 1, 3) := by decide +kernel
theorem dX3_hoursUntilGround_60 : decode cX3_hoursUntilGround 60 = .ok (.goto (-42), 3) := by decide +kernel
theorem dX3_hoursUntilGround_63 : decode cX3_hoursUntilGround 63 = .ok (.iconst (-1), 1) := by decide +kernel
theorem dX3_hoursUntilGround_64 : decode cX3_hoursUntilGround 64 = .ok (.ireturn, 1) := by decide +kernel
theorem dX3_bitsOf_0 : decode cX3_bitsOf 0 = .ok (.dload_n 0, 1) := by decide +kernel
theorem dX3_bitsOf_1 : decode cX3_bitsOf 1 = .ok (.dconst 0, 1) := by decide +kernel
theorem dX3_bitsOf_2 : decode cX3_bitsOf 2 = .ok (.dcmp .g, 1) := by decide +kernel
theorem dX3_bitsOf_3 : decode cX3_bitsOf 3 = .ok (.ifCond .gt 5, 3) := by decide +kernel
theorem dX3_bitsOf_6 : decode cX3_bitsOf 6 = .ok (.lconst 0, 1) := by decide +kernel
theorem dX3_bitsOf_7 : decode cX3_bitsOf 7 = .ok (.lreturn, 1) := by decide +kernel
theorem dX3_bitsOf_8 : decode cX3_bitsOf 8 = .ok (.dload_n 0, 1) := by decide +kernel
theorem dX3_bitsOf_9 : decode cX3_bitsOf 9 = .ok (.dstore_n 2, 1) := by decide +kernel
theorem dX3_bitsOf_10 : decode cX3_bitsOf 10 = .ok (.ldc2_w 260, 3) := by decide +kernel
theorem dX3_bitsOf_13 : decode cX3_bitsOf 13 = .ok (.lstore 4, 2) := by decide +kernel
theorem dX3_bitsOf_15 : decode cX3_bitsOf 15 = .ok (.iconst 0, 1) := by decide +kernel
theorem dX3_bitsOf_16 : decode cX3_bitsOf 16 = .ok (.istore 6, 2) := by decide +kernel
theorem dX3_bitsOf_18 : decode cX3_bitsOf 18 = .ok (.iload 6, 2) := by decide +kernel
theorem dX3_bitsOf_20 : decode cX3_bitsOf 20 = .ok (.sipush 1000, 3) := by decide +kernel
theorem dX3_bitsOf_23 : decode cX3_bitsOf 23 = .ok (.if_icmp .ge 27, 3) := by decide +kernel
theorem dX3_bitsOf_26 : decode cX3_bitsOf 26 = .ok (.dload_n 2, 1) := by decide +kernel
theorem dX3_bitsOf_27 : decode cX3_bitsOf 27 = .ok (.dconst 1, 1) := by decide +kernel
theorem dX3_bitsOf_28 : decode cX3_bitsOf 28 = .ok (.dcmp .g, 1) := by decide +kernel
theorem dX3_bitsOf_29 : decode cX3_bitsOf 29 = .ok (.ifCond .ge 21, 3) := by decide +kernel
theorem dX3_bitsOf_32 : decode cX3_bitsOf 32 = .ok (.dload_n 2, 1) := by decide +kernel
theorem dX3_bitsOf_33 : decode cX3_bitsOf 33 = .ok (.ldc2_w 262, 3) := by decide +kernel
theorem dX3_bitsOf_36 : decode cX3_bitsOf 36 = .ok (.dmul, 1) := by decide +kernel
theorem dX3_bitsOf_37 : decode cX3_bitsOf 37 = .ok (.dstore_n 2, 1) := by decide +kernel
theorem dX3_bitsOf_38 : decode cX3_bitsOf 38 = .ok (.lload 4, 2) := by decide +kernel
theorem dX3_bitsOf_40 : decode cX3_bitsOf 40 = .ok (.lconst 1, 1) := by decide +kernel
theorem dX3_bitsOf_41 : decode cX3_bitsOf 41 = .ok (.lsub, 1) := by decide +kernel
theorem dX3_bitsOf_42 : decode cX3_bitsOf 42 = .ok (.lstore 4, 2) := by decide +kernel
theorem dX3_bitsOf_44 : decode cX3_bitsOf 44 = .ok (.iinc 6 1, 3) := by decide +kernel
theorem dX3_bitsOf_47 : decode cX3_bitsOf 47 = .ok (.goto (-29), 3) := by decide +kernel
theorem dX3_bitsOf_50 : decode cX3_bitsOf 50 = .ok (.dload_n 2, 1) := by decide +kernel
theorem dX3_bitsOf_51 : decode cX3_bitsOf 51 = .ok (.dconst 1, 1) := by decide +kernel
theorem dX3_bitsOf_52 : decode cX3_bitsOf 52 = .ok (.dsub, 1) := by decide +kernel
theorem dX3_bitsOf_53 : decode cX3_bitsOf 53 = .ok (.ldc2_w 264, 3) := by decide +kernel
theorem dX3_bitsOf_56 : decode cX3_bitsOf 56 = .ok (.dmul, 1) := by decide +kernel
theorem dX3_bitsOf_57 : decode cX3_bitsOf 57 = .ok (.d2l, 1) := by decide +kernel
theorem dX3_bitsOf_58 : decode cX3_bitsOf 58 = .ok (.lstore 6, 2) := by decide +kernel
theorem dX3_bitsOf_60 : decode cX3_bitsOf 60 = .ok (.lload 4, 2) := by decide +kernel
theorem dX3_bitsOf_62 : decode cX3_bitsOf 62 = .ok (.bipush 52, 2) := by decide +kernel
theorem dX3_bitsOf_64 : decode cX3_bitsOf 64 = .ok (.lshl, 1) := by decide +kernel
theorem dX3_bitsOf_65 : decode cX3_bitsOf 65 = .ok (.lload 6, 2) := by decide +kernel
theorem dX3_bitsOf_67 : decode cX3_bitsOf 67 = .ok (.lor, 1) := by decide +kernel
theorem dX3_bitsOf_68 : decode cX3_bitsOf 68 = .ok (.lreturn, 1) := by decide +kernel
theorem dX4_init_0 : decode cX4_init 0 = .ok (.aload_n 0, 1) := by decide +kernel
theorem dX4_init_1 : decode cX4_init 1 = .ok (.invokespecial 1, 3) := by decide +kernel
theorem dX4_init_4 : decode cX4_init 4 = .ok (.aload_n 0, 1) := by decide +kernel
theorem dX4_init_5 : decode cX4_init 5 = .ok (.sipush 150, 3) := by decide +kernel
theorem dX4_init_8 : decode cX4_init 8 = .ok (.newarray .int, 2) := by decide +kernel
theorem dX4_init_10 : decode cX4_init 10 = .ok (.putfield 7, 3) := by decide +kernel
theorem dX4_init_13 : decode cX4_init 13 = .ok (.aload_n 0, 1) := by decide +kernel
theorem dX4_init_14 : decode cX4_init 14 = .ok (.sipush 150, 3) := by decide +kernel
theorem dX4_init_17 : decode cX4_init 17 = .ok (.newarray .int, 2) := by decide +kernel
theorem dX4_init_19 : decode cX4_init 19 = .ok (.putfield 13, 3) := by decide +kernel
theorem dX4_init_22 : decode cX4_init 22 = .ok (.aload_n 0, 1) := by decide +kernel
theorem dX4_init_23 : decode cX4_init 23 = .ok (.sipush 900, 3) := by decide +kernel
theorem dX4_init_26 : decode cX4_init 26 = .ok (.newarray .int, 2) := by decide +kernel
theorem dX4_init_28 : decode cX4_init 28 = .ok (.putfield 16, 3) := by decide +kernel
theorem dX4_init_31 : decode cX4_init 31 = .ok (.aload_n 0, 1) := by decide +kernel
theorem dX4_init_32 : decode cX4_init 32 = .ok (.sipush 300, 3) := by decide +kernel
theorem dX4_init_35 : decode cX4_init 35 = .ok (.newarray .int, 2) := by decide +kernel
theorem dX4_init_37 : decode cX4_init 37 = .ok (.putfield 19, 3) := by decide +kernel
theorem dX4_init_40 : decode cX4_init 40 = .ok (.aload_n 0, 1) := by decide +kernel
theorem dX4_init_41 : decode cX4_init 41 = .ok (.iconst 2, 1) := by decide +kernel
theorem dX4_init_42 : decode cX4_init 42 = .ok (.newarray .boolean, 2) := by decide +kernel
theorem dX4_init_44 : decode cX4_init 44 = .ok (.putfield 22, 3) := by decide +kernel
theorem dX4_init_47 : decode cX4_init 47 = .ok (.aload_n 0, 1) := by decide +kernel
theorem dX4_init_48 : decode cX4_init 48 = .ok (.bipush 60, 2) := by decide +kernel
theorem dX4_init_50 : decode cX4_init 50 = .ok (.newarray .int, 2) := by decide +kernel
theorem dX4_init_52 : decode cX4_init 52 = .ok (.putfield 26, 3) := by decide +kernel
theorem dX4_init_55 : decode cX4_init 55 = .ok (.iconst 0, 1) := by decide +kernel
theorem dX4_init_56 : decode cX4_init 56 = .ok (.istore_n 1, 1) := by decide +kernel
theorem dX4_init_57 : decode cX4_init 57 = .ok (.iload_n 1, 1) := by decide +kernel
theorem dX4_init_58 : decode cX4_init 58 = .ok (.bipush 24, 2) := by decide +kernel
theorem dX4_init_60 : decode cX4_init 60 = .ok (.if_icmp .ge 35, 3) := by decide +kernel
theorem dX4_init_63 : decode cX4_init 63 = .ok (.aload_n 0, 1) := by decide +kernel
theorem dX4_init_64 : decode cX4_init 64 = .ok (.getfield 7, 3) := by decide +kernel
theorem dX4_init_67 : decode cX4_init 67 = .ok (.iconst 2, 1) := by decide +kernel
theorem dX4_init_68 : decode cX4_init 68 = .ok (.iload_n 1, 1) := by decide +kernel
theorem dX4_init_69 : decode cX4_init 69 = .ok (.imul, 1) := by decide +kernel
theorem dX4_init_70 : decode cX4_init 70 = .ok (.iload_n 1, 1) := by decide +kernel
theorem dX4_init_71 : decode cX4_init 71 = .ok (.bipush 8, 2) := by decide +kernel
theorem dX4_init_73 : decode cX4_init 73 = .ok (.irem, 1) := by decide +kernel
theorem dX4_init_74 : decode cX4_init 74 = .ok (.iastore, 1) := by decide +kernel
theorem dX4_init_75 : decode cX4_init 75 = .ok (.aload_n 0, 1) := by decide +kernel
theorem dX4_init_76 : decode cX4_init 76 = .ok (.getfield 7, 3) := by decide +kernel
theorem dX4_init_79 : decode cX4_init 79 = .ok (.iconst 2, 1) := by decide +kernel
theorem dX4_init_80 : decode cX4_init 80 = .ok (.iload_n 1, 1) := by decide +kernel
theorem dX4_init_81 : decode cX4_init 81 = .ok (.imul, 1) := by decide +kernel
theorem dX4_init_82 : decode cX4_init 82 = .ok (.iconst 1, 1) := by decide +kernel
theorem dX4_init_83 : decode cX4_init 83 = .ok (.iadd, 1) := by decide +kernel
theorem dX4_init_84 : decode cX4_init 84 = .ok (.iload_n 1, 1) := by decide +kernel
theorem dX4_init_85 : decode cX4_init 85 = .ok (.bipush 10, 2) := by decide +kernel
theorem dX4_init_87 : decode cX4_init 87 = .ok (.irem, 1) := by decide +kernel
theorem dX4_init_88 : decode cX4_init 88 = .ok (.iastore, 1) := by decide +kernel
theorem dX4_init_89 : decode cX4_init 89 = .ok (.iinc 1 1, 3) := by decide +kernel
theorem dX4_init_92 : decode cX4_init 92 = .ok (.goto (-35), 3) := by decide +kernel
theorem dX4_init_95 : decode cX4_init 95 = .ok (.iconst 0, 1) := by decide +kernel
theorem dX4_init_96 : decode cX4_init 96 = .ok (.istore_n 1, 1) := by decide +kernel
theorem dX4_init_97 : decode cX4_init 97 = .ok (.iload_n 1, 1) := by decide +kernel
theorem dX4_init_98 : decode cX4_init 98 = .ok (.bipush 6, 2) := by decide +kernel
theorem dX4_init_100 : decode cX4_init 100 = .ok (.if_icmp .ge 49, 3) := by decide +kernel
theorem dX4_init_103 : decode cX4_init 103 = .ok (.aload_n 0, 1) := by decide +kernel
theorem dX4_init_104 : decode cX4_init 104 = .ok (.getfield 7, 3) := by decide +kernel
theorem dX4_init_107 : decode cX4_init 107 = .ok (.bipush 48, 2) := by decide +kernel
theorem dX4_init_109 : decode cX4_init 109 = .ok (.iconst 4, 1) := by decide +kernel
theorem dX4_init_110 : decode cX4_init 110 = .ok (.iload_n 1, 1) := by decide +kernel
theorem dX4_init_111 : decode cX4_init 111 = .ok (.imul, 1) := by decide +kernel
theorem dX4_init_112 : decode cX4_init 112 = .ok (.iadd, 1) := by decide +kernel
theorem dX4_init_113 : decode cX4_init 113 = .ok (.iload_n 1, 1) := by decide +kernel
theorem dX4_init_114 : decode cX4_init 114 = .ok (.iastore, 1) := by decide +kernel
theorem dX4_init_115 : decode cX4_init 115 = .ok (.aload_n 0, 1) := by decide +kernel
theorem dX4_init_116 : decode cX4_init 116 = .ok (.getfield 7, 3) := by decide +kernel
theorem dX4_init_119 : decode cX4_init 119 = .ok (.bipush 48, 2) := by decide +kernel
theorem dX4_init_121 : decode cX4_init 121 = .ok (.iconst 4, 1) := by decide +kernel
theorem dX4_init_122 : decode cX4_init 122 = .ok (.iload_n 1, 1) := by decide +kernel
theorem dX4_init_123 : decode cX4_init 123 = .ok (.imul, 1) := by decide +kernel
theorem dX4_init_124 : decode cX4_init 124 = .ok (.iadd, 1) := by decide +kernel
theorem dX4_init_125 : decode cX4_init 125 = .ok (.iconst 1, 1) := by decide +kernel
theorem dX4_init_126 : decode cX4_init 126 = .ok (.iadd, 1) := by decide +kernel
theorem dX4_init_127 : decode cX4_init 127 = .ok (.iconst 2, 1) := by decide +kernel
theorem dX4_init_128 : decode cX4_init 128 = .ok (.iastore, 1) := by decide +kernel
theorem dX4_init_129 : decode cX4_init 129 = .ok (.aload_n 0, 1) := by decide +kernel
theorem dX4_init_130 : decode cX4_init 130 = .ok (.getfield 7, 3) := by decide +kernel
theorem dX4_init_133 : decode cX4_init 133 = .ok (.bipush 48, 2) := by decide +kernel
theorem dX4_init_135 : decode cX4_init 135 = .ok (.iconst 4, 1) := by decide +kernel
theorem dX4_init_136 : decode cX4_init 136 = .ok (.iload_n 1, 1) := by decide +kernel
theorem dX4_init_137 : decode cX4_init 137 = .ok (.imul, 1) := by decide +kernel
theorem dX4_init_138 : decode cX4_init 138 = .ok (.iadd, 1) := by decide +kernel
theorem dX4_init_139 : decode cX4_init 139 = .ok (.iconst 2, 1) := by decide +kernel
theorem dX4_init_140 : decode cX4_init 140 = .ok (.iadd, 1) := by decide +kernel
theorem dX4_init_141 : decode cX4_init 141 = .ok (.iconst 1, 1) := by decide +kernel
theorem dX4_init_142 : decode cX4_init 142 = .ok (.iastore, 1) := by decide +kernel
theorem dX4_init_143 : decode cX4_init 143 = .ok (.iinc 1 1, 3) := by decide +kernel
theorem dX4_init_146 : decode cX4_init 146 = .ok (.goto (-49), 3) := by decide +kernel
theorem dX4_init_149 : decode cX4_init 149 = .ok (.aload_n 0, 1) := by decide +kernel
theorem dX4_init_150 : decode cX4_init 150 = .ok (.getfield 7, 3) := by decide +kernel
theorem dX4_init_153 : decode cX4_init 153 = .ok (.bipush 72, 2) := by decide +kernel
theorem dX4_init_155 : decode cX4_init 155 = .ok (.iconst 3, 1) := by decide +kernel
theorem dX4_init_156 : decode cX4_init 156 = .ok (.iastore, 1) := by decide +kernel
theorem dX4_init_157 : decode cX4_init 157 = .ok (.iconst 0, 1) := by decide +kernel
theorem dX4_init_158 : decode cX4_init 158 = .ok (.istore_n 1, 1) := by decide +kernel
theorem dX4_init_159 : decode cX4_init 159 = .ok (.iload_n 1, 1) := by decide +kernel
theorem dX4_init_160 : decode cX4_init 160 = .ok (.iconst 3, 1) := by decide +kernel
theorem dX4_init_161 : decode cX4_init 161 = .ok (.if_icmp .ge 24, 3) := by decide +kernel
theorem dX4_init_164 : decode cX4_init 164 = .ok (.aload_n 0, 1) := by decide +kernel
theorem dX4_init_165 : decode cX4_init 165 = .ok (.getfield 7, 3) := by decide +kernel
theorem dX4_init_168 : decode cX4_init 168 = .ok (.bipush 74, 2) := by decide +kernel
theorem dX4_init_170 : decode cX4_init 170 = .ok (.bipush 19, 2) := by decide +kernel
theorem dX4_init_172 : decode cX4_init 172 = .ok (.iload_n 1, 1) := by decide +kernel
theorem dX4_init_173 : decode cX4_init 173 = .ok (.imul, 1) := by decide +kernel
theorem dX4_init_174 : decode cX4_init 174 = .ok (.iadd, 1) := by decide +kernel
theorem dX4_init_175 : decode cX4_init 175 = .ok (.iconst 0, 1) := by decide +kernel
theorem dX4_init_176 : decode cX4_init 176 = .ok (.iadd, 1) := by decide +kernel
theorem dX4_init_177 : decode cX4_init 177 = .ok (.iconst 2, 1) := by decide +kernel
theorem dX4_init_178 : decode cX4_init 178 = .ok (.iastore, 1) := by decide +kernel
theorem dX4_init_179 : decode cX4_init 179 = .ok (.iinc 1 1, 3) := by decide +kernel
theorem dX4_init_182 : decode cX4_init 182 = .ok (.goto (-23), 3) := by decide +kernel
theorem dX4_init_185 : decode cX4_init 185 = .ok (.return_, 1) := by decide +kernel
theorem dX4_thrown_0 : decode cX4_thrown 0 = .ok (.aload_n 0, 1) := by decide +kernel
theorem dX4_thrown_1 : decode cX4_thrown 1 = .ok (.getfield 29, 3) := by decide +kernel
theorem dX4_thrown_4 : decode cX4_thrown 4 = .ok (.ireturn, 1) := by decide +kernel
theorem dX4_in_0 : decode cX4_in 0 = .ok (.iload_n 0, 1) := by decide +kernel
theorem dX4_in_1 : decode cX4_in 1 = .ok (.iload_n 1, 1) := by decide +kernel
theorem dX4_in_2 : decode cX4_in 2 = .ok (.if_icmp .lt 12, 3) := by decide +kernel
theorem dX4_in_5 : decode cX4_in 5 = .ok (.iload_n 0, 1) := by decide +kernel
theorem dX4_in_6 : decode cX4_in 6 = .ok (.iload_n 2, 1) := by decide +kernel
theorem dX4_in_7 : decode cX4_in 7 = .ok (.if_icmp .gt 7, 3) := by decide +kernel
theorem dX4_in_10 : decode cX4_in 10 = .ok (.iconst 1, 1) := by decide +kernel
theorem dX4_in_11 : decode cX4_in 11 = .ok (.goto 4, 3) := by decide +kernel
theorem dX4_in_14 : decode cX4_in 14 = .ok (.iconst 0, 1) := by decide +kernel
theorem dX4_in_15 : decode cX4_in 15 = .ok (.ireturn, 1) := by decide +kernel
theorem dX4_vaneAt_0 : decode cX4_vaneAt 0 = .ok (.aload_n 0, 1) := by decide +kernel
theorem dX4_vaneAt_1 : decode cX4_vaneAt 1 = .ok (.getfield 7, 3) := by decide +kernel
theorem dX4_vaneAt_4 : decode cX4_vaneAt 4 = .ok (.bipush 48, 2) := by decide +kernel
theorem dX4_vaneAt_6 : decode cX4_vaneAt 6 = .ok (.iconst 4, 1) := by decide +kernel
theorem dX4_vaneAt_7 : decode cX4_vaneAt 7 = .ok (.iload_n 1, 1) := by decide +kernel
theorem dX4_vaneAt_8 : decode cX4_vaneAt 8 = .ok (.imul, 1) := by decide +kernel
theorem dX4_vaneAt_9 : decode cX4_vaneAt 9 = .ok (.iadd, 1) := by decide +kernel
theorem dX4_vaneAt_10 : decode cX4_vaneAt 10 = .ok (.iload_n 2, 1) := by decide +kernel
theorem dX4_vaneAt_11 : decode cX4_vaneAt 11 = .ok (.iadd, 1) := by decide +kernel
theorem dX4_vaneAt_12 : decode cX4_vaneAt 12 = .ok (.iaload, 1) := by decide +kernel
theorem dX4_vaneAt_13 : decode cX4_vaneAt 13 = .ok (.ireturn, 1) := by decide +kernel
theorem dX4_millAt_0 : decode cX4_millAt 0 = .ok (.aload_n 0, 1) := by decide +kernel
theorem dX4_millAt_1 : decode cX4_millAt 1 = .ok (.getfield 7, 3) := by decide +kernel
theorem dX4_millAt_4 : decode cX4_millAt 4 = .ok (.bipush 74, 2) := by decide +kernel
theorem dX4_millAt_6 : decode cX4_millAt 6 = .ok (.bipush 19, 2) := by decide +kernel
theorem dX4_millAt_8 : decode cX4_millAt 8 = .ok (.iload_n 1, 1) := by decide +kernel
theorem dX4_millAt_9 : decode cX4_millAt 9 = .ok (.imul, 1) := by decide +kernel
theorem dX4_millAt_10 : decode cX4_millAt 10 = .ok (.iadd, 1) := by decide +kernel
theorem dX4_millAt_11 : decode cX4_millAt 11 = .ok (.iload_n 2, 1) := by decide +kernel
theorem dX4_millAt_12 : decode cX4_millAt 12 = .ok (.iadd, 1) := by decide +kernel
theorem dX4_millAt_13 : decode cX4_millAt 13 = .ok (.iaload, 1) := by decide +kernel
theorem dX4_millAt_14 : decode cX4_millAt 14 = .ok (.ireturn, 1) := by decide +kernel
theorem dX4_ownerAt_0 : decode cX4_ownerAt 0 = .ok (.aload_n 0, 1) := by decide +kernel
theorem dX4_ownerAt_1 : decode cX4_ownerAt 1 = .ok (.getfield 7, 3) := by decide +kernel
theorem dX4_ownerAt_4 : decode cX4_ownerAt 4 = .ok (.sipush 131, 3) := by decide +kernel
theorem dX4_ownerAt_7 : decode cX4_ownerAt 7 = .ok (.iconst 3, 1) := by decide +kernel
theorem dX4_ownerAt_8 : decode cX4_ownerAt 8 = .ok (.iload_n 1, 1) := by decide +kernel
theorem dX4_ownerAt_9 : decode cX4_ownerAt 9 = .ok (.imul, 1) := by decide +kernel
theorem dX4_ownerAt_10 : decode cX4_ownerAt 10 = .ok (.iadd, 1) := by decide +kernel
theorem dX4_ownerAt_11 : decode cX4_ownerAt 11 = .ok (.iload_n 2, 1) := by decide +kernel
theorem dX4_ownerAt_12 : decode cX4_ownerAt 12 = .ok (.iadd, 1) := by decide +kernel
theorem dX4_ownerAt_13 : decode cX4_ownerAt 13 = .ok (.iaload, 1) := by decide +kernel
theorem dX4_ownerAt_14 : decode cX4_ownerAt 14 = .ok (.ireturn, 1) := by decide +kernel
theorem dX4_addToMill_0 : decode cX4_addToMill 0 = .ok (.aload_n 0, 1) := by decide +kernel
theorem dX4_addToMill_1 : decode cX4_addToMill 1 = .ok (.getfield 7, 3) := by decide +kernel
theorem dX4_addToMill_4 : decode cX4_addToMill 4 = .ok (.bipush 74, 2) := by decide +kernel
theorem dX4_addToMill_6 : decode cX4_addToMill 6 = .ok (.bipush 19, 2) := by decide +kernel
theorem dX4_addToMill_8 : decode cX4_addToMill 8 = .ok (.iload_n 1, 1) := by decide +kernel
theorem dX4_addToMill_9 : decode cX4_addToMill 9 = .ok (.imul, 1) := by decide +kernel
theorem dX4_addToMill_10 : decode cX4_addToMill 10 = .ok (.iadd, 1) := by decide +kernel
theorem dX4_addToMill_11 : decode cX4_addToMill 11 = .ok (.iload_n 2, 1) := by decide +kernel
theorem dX4_addToMill_12 : decode cX4_addToMill 12 = .ok (.iadd, 1) := by decide +kernel
theorem dX4_addToMill_13 : decode cX4_addToMill 13 = .ok (.dup2, 1) := by decide +kernel
theorem dX4_addToMill_14 : decode cX4_addToMill 14 = .ok (.iaload, 1) := by decide +kernel
theorem dX4_addToMill_15 : decode cX4_addToMill 15 = .ok (.iload_n 3, 1) := by decide +kernel
theorem dX4_addToMill_16 : decode cX4_addToMill 16 = .ok (.iadd, 1) := by decide +kernel
theorem dX4_addToMill_17 : decode cX4_addToMill 17 = .ok (.iastore, 1) := by decide +kernel
theorem dX4_addToMill_18 : decode cX4_addToMill 18 = .ok (.return_, 1) := by decide +kernel
theorem dX4_addToOwner_0 : decode cX4_addToOwner 0 = .ok (.aload_n 0, 1) := by decide +kernel
theorem dX4_addToOwner_1 : decode cX4_addToOwner 1 = .ok (.getfield 7, 3) := by decide +kernel
theorem dX4_addToOwner_4 : decode cX4_addToOwner 4 = .ok (.sipush 131, 3) := by decide +kernel
theorem dX4_addToOwner_7 : decode cX4_addToOwner 7 = .ok (.iconst 3, 1) := by decide +kernel
theorem dX4_addToOwner_8 : decode cX4_addToOwner 8 = .ok (.iload_n 1, 1) := by decide +kernel
theorem dX4_addToOwner_9 : decode cX4_addToOwner 9 = .ok (.imul, 1) := by decide +kernel
theorem dX4_addToOwner_10 : decode cX4_addToOwner 10 = .ok (.iadd, 1) := by decide +kernel
theorem dX4_addToOwner_11 : decode cX4_addToOwner 11 = .ok (.iload_n 2, 1) := by decide +kernel
theorem dX4_addToOwner_12 : decode cX4_addToOwner 12 = .ok (.iadd, 1) := by decide +kernel
theorem dX4_addToOwner_13 : decode cX4_addToOwner 13 = .ok (.dup2, 1) := by decide +kernel
theorem dX4_addToOwner_14 : decode cX4_addToOwner 14 = .ok (.iaload, 1) := by decide +kernel
theorem dX4_addToOwner_15 : decode cX4_addToOwner 15 = .ok (.iload_n 3, 1) := by decide +kernel
theorem dX4_addToOwner_16 : decode cX4_addToOwner 16 = .ok (.iadd, 1) := by decide +kernel
theorem dX4_addToOwner_17 : decode cX4_addToOwner 17 = .ok (.iastore, 1) := by decide +kernel
theorem dX4_addToOwner_18 : decode cX4_addToOwner 18 = .ok (.return_, 1) := by decide +kernel
theorem dX4_record_0 : decode cX4_record 0 = .ok (.aload_n 0, 1) := by decide +kernel
theorem dX4_record_1 : decode cX4_record 1 = .ok (.getfield 33, 3) := by decide +kernel
theorem dX4_record_4 : decode cX4_record 4 = .ok (.bipush 6, 2) := by decide +kernel
theorem dX4_record_6 : decode cX4_record 6 = .ok (.if_icmp .ne 44, 3) := by decide +kernel
theorem dX4_record_9 : decode cX4_record 9 = .ok (.iconst 0, 1) := by decide +kernel
theorem dX4_record_10 : decode cX4_record 10 = .ok (.istore_n 1, 1) := by decide +kernel
theorem dX4_record_11 : decode cX4_record 11 = .ok (.iload_n 1, 1) := by decide +kernel
theorem dX4_record_12 : decode cX4_record 12 = .ok (.sipush 750, 3) := by decide +kernel
theorem dX4_record_15 : decode cX4_record 15 = .ok (.if_icmp .ge 25, 3) := by decide +kernel
theorem dX4_record_18 : decode cX4_record 18 = .ok (.aload_n 0, 1) := by decide +kernel
theorem dX4_record_19 : decode cX4_record 19 = .ok (.getfield 16, 3) := by decide +kernel
theorem dX4_record_22 : decode cX4_record 22 = .ok (.iload_n 1, 1) := by decide +kernel
theorem dX4_record_23 : decode cX4_record 23 = .ok (.aload_n 0, 1) := by decide +kernel
theorem dX4_record_24 : decode cX4_record 24 = .ok (.getfield 16, 3) := by decide +kernel
theorem dX4_record_27 : decode cX4_record 27 = .ok (.sipush 150, 3) := by decide +kernel
theorem dX4_record_30 : decode cX4_record 30 = .ok (.iload_n 1, 1) := by decide +kernel
theorem dX4_record_31 : decode cX4_record 31 = .ok (.iadd, 1) := by decide +kernel
theorem dX4_record_32 : decode cX4_record 32 = .ok (.iaload, 1) := by decide +kernel
theorem dX4_record_33 : decode cX4_record 33 = .ok (.iastore, 1) := by decide +kernel
theorem dX4_record_34 : decode cX4_record 34 = .ok (.iinc 1 1, 3) := by decide +kernel
theorem dX4_record_37 : decode cX4_record 37 = .ok (.goto (-26), 3) := by decide +kernel
theorem dX4_record_40 : decode cX4_record 40 = .ok (.aload_n 0, 1) := by decide +kernel
theorem dX4_record_41 : decode cX4_record 41 = .ok (.dup, 1) := by decide +kernel
theorem dX4_record_42 : decode cX4_record 42 = .ok (.getfield 33, 3) := by decide +kernel
theorem dX4_record_45 : decode cX4_record 45 = .ok (.iconst 1, 1) := by decide +kernel
theorem dX4_record_46 : decode cX4_record 46 = .ok (.isub, 1) := by decide +kernel
theorem dX4_record_47 : decode cX4_record 47 = .ok (.putfield 33, 3) := by decide +kernel
theorem dX4_record_50 : decode cX4_record 50 = .ok (.iconst 0, 1) := by decide +kernel
theorem dX4_record_51 : decode cX4_record 51 = .ok (.istore_n 1, 1) := by decide +kernel
theorem dX4_record_52 : decode cX4_record 52 = .ok (.iload_n 1, 1) := by decide +kernel
theorem dX4_record_53 : decode cX4_record 53 = .ok (.sipush 150, 3) := by decide +kernel
theorem dX4_record_56 : decode cX4_record 56 = .ok (.if_icmp .ge 30, 3) := by decide +kernel
theorem dX4_record_59 : decode cX4_record 59 = .ok (.aload_n 0, 1) := by decide +kernel
theorem dX4_record_60 : decode cX4_record 60 = .ok (.getfield 16, 3) := by decide +kernel
theorem dX4_record_63 : decode cX4_record 63 = .ok (.sipush 150, 3) := by decide +kernel
theorem dX4_record_66 : decode cX4_record 66 = .ok (.aload_n 0, 1) := by decide +kernel
theorem dX4_record_67 : decode cX4_record 67 = .ok (.getfield 33, 3) := by decide +kernel
theorem dX4_record_70 : decode cX4_record 70 = .ok (.imul, 1) := by decide +kernel
theorem dX4_record_71 : decode cX4_record 71 = .ok (.iload_n 1, 1) := by decide +kernel
theorem dX4_record_72 : decode cX4_record 72 = .ok (.iadd, 1) := by decide +kernel
theorem dX4_record_73 : decode cX4_record 73 = .ok (.aload_n 0, 1) := by decide +kernel
theorem dX4_record_74 : decode cX4_record 74 = .ok (.getfield 7, 3) := by decide +kernel
theorem dX4_record_77 : decode cX4_record 77 = .ok (.iload_n 1, 1) := by decide +kernel
theorem dX4_record_78 : decode cX4_record 78 = .ok (.iaload, 1) := by decide +kernel
theorem dX4_record_79 : decode cX4_record 79 = .ok (.iastore, 1) := by decide +kernel
theorem dX4_record_80 : decode cX4_record 80 = .ok (.iinc 1 1, 3) := by decide +kernel
theorem dX4_record_83 : decode cX4_record 83 = .ok (.goto (-31), 3) := by decide +kernel
theorem dX4_record_86 : decode cX4_record 86 = .ok (.aload_n 0, 1) := by decide +kernel
theorem dX4_record_87 : decode cX4_record 87 = .ok (.dup, 1) := by decide +kernel
theorem dX4_record_88 : decode cX4_record 88 = .ok (.getfield 33, 3) := by decide +kernel
theorem dX4_record_91 : decode cX4_record 91 = .ok (.iconst 1, 1) := by decide +kernel
theorem dX4_record_92 : decode cX4_record 92 = .ok (.iadd, 1) := by decide +kernel
theorem dX4_record_93 : decode cX4_record 93 = .ok (.putfield 33, 3) := by decide +kernel
theorem dX4_record_96 : decode cX4_record 96 = .ok (.return_, 1) := by decide +kernel
theorem dX4_undo_0 : decode cX4_undo 0 = .ok (.aload_n 0, 1) := by decide +kernel
theorem dX4_undo_1 : decode cX4_undo 1 = .ok (.aload_n 0, 1) := by decide +kernel
theorem dX4_undo_2 : decode cX4_undo 2 = .ok (.getfield 33, 3) := by decide +kernel
theorem dX4_undo_5 : decode cX4_undo 5 = .ok (.ifCond .ne 7, 3) := by decide +kernel
theorem dX4_undo_8 : decode cX4_undo 8 = .ok (.iconst 1, 1) := by decide +kernel
theorem dX4_undo_9 : decode cX4_undo 9 = .ok (.goto 4, 3) := by decide +kernel
theorem dX4_undo_12 : decode cX4_undo 12 = .ok (.iconst 0, 1) := by decide +kernel
theorem dX4_undo_13 : decode cX4_undo 13 = .ok (.putfield 29, 3) := by decide +kernel
theorem dX4_undo_16 : decode cX4_undo 16 = .ok (.aload_n 0, 1) := by decide +kernel
theorem dX4_undo_17 : decode cX4_undo 17 = .ok (.getfield 29, 3) := by decide +kernel
theorem dX4_undo_20 : decode cX4_undo 20 = .ok (.ifCond .le 5, 3) := by decide +kernel
theorem dX4_undo_23 : decode cX4_undo 23 = .ok (.iconst 0, 1) := by decide +kernel
theorem dX4_undo_24 : decode cX4_undo 24 = .ok (.ireturn, 1) := by decide +kernel
theorem dX4_undo_25 : decode cX4_undo 25 = .ok (.aload_n 0, 1) := by decide +kernel
theorem dX4_undo_26 : decode cX4_undo 26 = .ok (.dup, 1) := by decide +kernel
theorem dX4_undo_27 : decode cX4_undo 27 = .ok (.getfield 33, 3) := by decide +kernel
theorem dX4_undo_30 : decode cX4_undo 30 = .ok (.iconst 1, 1) := by decide +kernel
theorem dX4_undo_31 : decode cX4_undo 31 = .ok (.isub, 1) := by decide +kernel
theorem dX4_undo_32 : decode cX4_undo 32 = .ok (.putfield 33, 3) := by decide +kernel
theorem dX4_undo_35 : decode cX4_undo 35 = .ok (.iconst 0, 1) := by decide +kernel
theorem dX4_undo_36 : decode cX4_undo 36 = .ok (.istore_n 1, 1) := by decide +kernel
theorem dX4_undo_37 : decode cX4_undo 37 = .ok (.iload_n 1, 1) := by decide +kernel
theorem dX4_undo_38 : decode cX4_undo 38 = .ok (.sipush 150, 3) := by decide +kernel
theorem dX4_undo_41 : decode cX4_undo 41 = .ok (.if_icmp .ge 30, 3) := by decide +kernel
theorem dX4_undo_44 : decode cX4_undo 44 = .ok (.aload_n 0, 1) := by decide +kernel
theorem dX4_undo_45 : decode cX4_undo 45 = .ok (.getfield 7, 3) := by decide +kernel
theorem dX4_undo_48 : decode cX4_undo 48 = .ok (.iload_n 1, 1) := by decide +kernel
theorem dX4_undo_49 : decode cX4_undo 49 = .ok (.aload_n 0, 1) := by decide +kernel
theorem dX4_undo_50 : decode cX4_undo 50 = .ok (.getfield 16, 3) := by decide +kernel
theorem dX4_undo_53 : decode cX4_undo 53 = .ok (.sipush 150, 3) := by decide +kernel
theorem dX4_undo_56 : decode cX4_undo 56 = .ok (.aload_n 0, 1) := by decide +kernel
theorem dX4_undo_57 : decode cX4_undo 57 = .ok (.getfield 33, 3) := by decide +kernel
theorem dX4_undo_60 : decode cX4_undo 60 = .ok (.imul, 1) := by decide +kernel
theorem dX4_undo_61 : decode cX4_undo 61 = .ok (.iload_n 1, 1) := by decide +kernel
theorem dX4_undo_62 : decode cX4_undo 62 = .ok (.iadd, 1) := by decide +kernel
theorem dX4_undo_63 : decode cX4_undo 63 = .ok (.iaload, 1) := by decide +kernel
theorem dX4_undo_64 : decode cX4_undo 64 = .ok (.iastore, 1) := by decide +kernel
theorem dX4_undo_65 : decode cX4_undo 65 = .ok (.iinc 1 1, 3) := by decide +kernel
theorem dX4_undo_68 : decode cX4_undo 68 = .ok (.goto (-31), 3) := by decide +kernel
theorem dX4_undo_71 : decode cX4_undo 71 = .ok (.aload_n 0, 1) := by decide +kernel
theorem dX4_undo_72 : decode cX4_undo 72 = .ok (.getfield 33, 3) := by decide +kernel
theorem dX4_undo_75 : decode cX4_undo 75 = .ok (.ireturn, 1) := by decide +kernel
theorem dX4_keep_0 : decode cX4_keep 0 = .ok (.aload_n 0, 1) := by decide +kernel
theorem dX4_keep_1 : decode cX4_keep 1 = .ok (.iload_n 1, 1) := by decide +kernel
theorem dX4_keep_2 : decode cX4_keep 2 = .ok (.iconst 0, 1) := by decide +kernel
theorem dX4_keep_3 : decode cX4_keep 3 = .ok (.iconst 1, 1) := by decide +kernel
theorem dX4_keep_4 : decode cX4_keep 4 = .ok (.invokestatic 36, 3) := by decide +kernel
theorem dX4_keep_7 : decode cX4_keep 7 = .ok (.ifCond .eq 7, 3) := by decide +kernel
theorem dX4_keep_10 : decode cX4_keep 10 = .ok (.iconst 0, 1) := by decide +kernel
theorem dX4_keep_11 : decode cX4_keep 11 = .ok (.goto 4, 3) := by decide +kernel
theorem dX4_keep_14 : decode cX4_keep 14 = .ok (.iconst 1, 1) := by decide +kernel
theorem dX4_keep_15 : decode cX4_keep 15 = .ok (.putfield 29, 3) := by decide +kernel
theorem dX4_keep_18 : decode cX4_keep 18 = .ok (.aload_n 0, 1) := by decide +kernel
theorem dX4_keep_19 : decode cX4_keep 19 = .ok (.getfield 29, 3) := by decide +kernel
theorem dX4_keep_22 : decode cX4_keep 22 = .ok (.ifCond .le 5, 3) := by decide +kernel
theorem dX4_keep_25 : decode cX4_keep 25 = .ok (.iconst 0, 1) := by decide +kernel
theorem dX4_keep_26 : decode cX4_keep 26 = .ok (.ireturn, 1) := by decide +kernel
theorem dX4_keep_27 : decode cX4_keep 27 = .ok (.iconst 0, 1) := by decide +kernel
theorem dX4_keep_28 : decode cX4_keep 28 = .ok (.istore_n 2, 1) := by decide +kernel
theorem dX4_keep_29 : decode cX4_keep 29 = .ok (.iload_n 2, 1) := by decide +kernel
theorem dX4_keep_30 : decode cX4_keep 30 = .ok (.sipush 150, 3) := by decide +kernel
theorem dX4_keep_33 : decode cX4_keep 33 = .ok (.if_icmp .ge 27, 3) := by decide +kernel
theorem dX4_keep_36 : decode cX4_keep 36 = .ok (.aload_n 0, 1) := by decide +kernel
theorem dX4_keep_37 : decode cX4_keep 37 = .ok (.getfield 19, 3) := by decide +kernel
theorem dX4_keep_40 : decode cX4_keep 40 = .ok (.sipush 150, 3) := by decide +kernel
theorem dX4_keep_43 : decode cX4_keep 43 = .ok (.iload_n 1, 1) := by decide +kernel
theorem dX4_keep_44 : decode cX4_keep 44 = .ok (.imul, 1) := by decide +kernel
theorem dX4_keep_45 : decode cX4_keep 45 = .ok (.iload_n 2, 1) := by decide +kernel
theorem dX4_keep_46 : decode cX4_keep 46 = .ok (.iadd, 1) := by decide +kernel
theorem dX4_keep_47 : decode cX4_keep 47 = .ok (.aload_n 0, 1) := by decide +kernel
theorem dX4_keep_48 : decode cX4_keep 48 = .ok (.getfield 7, 3) := by decide +kernel
theorem dX4_keep_51 : decode cX4_keep 51 = .ok (.iload_n 2, 1) := by decide +kernel
theorem dX4_keep_52 : decode cX4_keep 52 = .ok (.iaload, 1) := by decide +kernel
theorem dX4_keep_53 : decode cX4_keep 53 = .ok (.iastore, 1) := by decide +kernel
theorem dX4_keep_54 : decode cX4_keep 54 = .ok (.iinc 2 1, 3) := by decide +kernel
theorem dX4_keep_57 : decode cX4_keep 57 = .ok (.goto (-28), 3) := by decide +kernel
theorem dX4_keep_60 : decode cX4_keep 60 = .ok (.aload_n 0, 1) := by decide +kernel
theorem dX4_keep_61 : decode cX4_keep 61 = .ok (.getfield 22, 3) := by decide +kernel
theorem dX4_keep_64 : decode cX4_keep 64 = .ok (.iload_n 1, 1) := by decide +kernel
theorem dX4_keep_65 : decode cX4_keep 65 = .ok (.iconst 1, 1) := by decide +kernel
theorem dX4_keep_66 : decode cX4_keep 66 = .ok (.bastore, 1) := by decide +kernel
theorem dX4_keep_67 : decode cX4_keep 67 = .ok (.aload_n 0, 1) := by decide +kernel
theorem dX4_keep_68 : decode cX4_keep 68 = .ok (.getfield 7, 3) := by decide +kernel
theorem dX4_keep_71 : decode cX4_keep 71 = .ok (.sipush 146, 3) := by decide +kernel
theorem dX4_keep_74 : decode cX4_keep 74 = .ok (.iaload, 1) := by decide +kernel
theorem dX4_keep_75 : decode cX4_keep 75 = .ok (.ireturn, 1) := by decide +kernel
theorem dX4_goBack_0 : decode cX4_goBack 0 = .ok (.aload_n 0, 1) := by decide +kernel
theorem dX4_goBack_1 : decode cX4_goBack 1 = .ok (.iload_n 1, 1) := by decide +kernel
theorem dX4_goBack_2 : decode cX4_goBack 2 = .ok (.iconst 0, 1) := by decide +kernel
theorem dX4_goBack_3 : decode cX4_goBack 3 = .ok (.iconst 1, 1) := by decide +kernel
theorem dX4_goBack_4 : decode cX4_goBack 4 = .ok (.invokestatic 36, 3) := by decide +kernel
theorem dX4_goBack_7 : decode cX4_goBack 7 = .ok (.ifCond .ne 7, 3) := by decide +kernel
theorem dX4_goBack_10 : decode cX4_goBack 10 = .ok (.iconst 1, 1) := by decide +kernel
theorem dX4_goBack_11 : decode cX4_goBack 11 = .ok (.goto 17, 3) := by decide +kernel
theorem dX4_goBack_14 : decode cX4_goBack 14 = .ok (.aload_n 0, 1) := by decide +kernel
theorem dX4_goBack_15 : decode cX4_goBack 15 = .ok (.getfield 22, 3) := by decide +kernel
theorem dX4_goBack_18 : decode cX4_goBack 18 = .ok (.iload_n 1, 1) := by decide +kernel
theorem dX4_goBack_19 : decode cX4_goBack 19 = .ok (.baload, 1) := by decide +kernel
theorem dX4_goBack_20 : decode cX4_goBack 20 = .ok (.ifCond .eq 7, 3) := by decide +kernel
theorem dX4_goBack_23 : decode cX4_goBack 23 = .ok (.iconst 0, 1) := by decide +kernel
theorem dX4_goBack_24 : decode cX4_goBack 24 = .ok (.goto 4, 3) := by decide +kernel
theorem dX4_goBack_27 : decode cX4_goBack 27 = .ok (.iconst 2, 1) := by decide +kernel
theorem dX4_goBack_28 : decode cX4_goBack 28 = .ok (.putfield 29, 3) := by decide +kernel
theorem dX4_goBack_31 : decode cX4_goBack 31 = .ok (.aload_n 0, 1) := by decide +kernel
theorem dX4_goBack_32 : decode cX4_goBack 32 = .ok (.getfield 29, 3) := by decide +kernel
theorem dX4_goBack_35 : decode cX4_goBack 35 = .ok (.ifCond .le 5, 3) := by decide +kernel
theorem dX4_goBack_38 : decode cX4_goBack 38 = .ok (.iconst 0, 1) := by decide +kernel
theorem dX4_goBack_39 : decode cX4_goBack 39 = .ok (.ireturn, 1) := by decide +kernel
theorem dX4_goBack_40 : decode cX4_goBack 40 = .ok (.aload_n 0, 1) := by decide +kernel
theorem dX4_goBack_41 : decode cX4_goBack 41 = .ok (.invokevirtual 40, 3) := by decide +kernel
theorem dX4_goBack_44 : decode cX4_goBack 44 = .ok (.iconst 0, 1) := by decide +kernel
theorem dX4_goBack_45 : decode cX4_goBack 45 = .ok (.istore_n 2, 1) := by decide +kernel
theorem dX4_goBack_46 : decode cX4_goBack 46 = .ok (.iload_n 2, 1) := by decide +kernel
theorem dX4_goBack_47 : decode cX4_goBack 47 = .ok (.sipush 150, 3) := by decide +kernel
theorem dX4_goBack_50 : decode cX4_goBack 50 = .ok (.if_icmp .ge 27, 3) := by decide +kernel
theorem dX4_goBack_53 : decode cX4_goBack 53 = .ok (.aload_n 0, 1) := by decide +kernel
theorem dX4_goBack_54 : decode cX4_goBack 54 = .ok (.getfield 7, 3) := by decide +kernel
theorem dX4_goBack_57 : decode cX4_goBack 57 = .ok (.iload_n 2, 1) := by decide +kernel
theorem dX4_goBack_58 : decode cX4_goBack 58 = .ok (.aload_n 0, 1) := by decide +kernel
theorem dX4_goBack_59 : decode cX4_goBack 59 = .ok (.getfield 19, 3) := by decide +kernel
theorem dX4_goBack_62 : decode cX4_goBack 62 = .ok (.sipush 150, 3) := by decide +kernel
theorem dX4_goBack_65 : decode cX4_goBack 65 = .ok (.iload_n 1, 1) := by decide +kernel
theorem dX4_goBack_66 : decode cX4_goBack 66 = .ok (.imul, 1) := by decide +kernel
theorem dX4_goBack_67 : decode cX4_goBack 67 = .ok (.iload_n 2, 1) := by decide +kernel
theorem dX4_goBack_68 : decode cX4_goBack 68 = .ok (.iadd, 1) := by decide +kernel
theorem dX4_goBack_69 : decode cX4_goBack 69 = .ok (.iaload, 1) := by decide +kernel
theorem dX4_goBack_70 : decode cX4_goBack 70 = .ok (.iastore, 1) := by decide +kernel
theorem dX4_goBack_71 : decode cX4_goBack 71 = .ok (.iinc 2 1, 3) := by decide +kernel
theorem dX4_goBack_74 : decode cX4_goBack 74 = .ok (.goto (-28), 3) := by decide +kernel
theorem dX4_goBack_77 : decode cX4_goBack 77 = .ok (.aload_n 0, 1) := by decide +kernel
theorem dX4_goBack_78 : decode cX4_goBack 78 = .ok (.getfield 7, 3) := by decide +kernel
theorem dX4_goBack_81 : decode cX4_goBack 81 = .ok (.sipush 146, 3) := by decide +kernel
theorem dX4_goBack_84 : decode cX4_goBack 84 = .ok (.iaload, 1) := by decide +kernel
theorem dX4_goBack_85 : decode cX4_goBack 85 = .ok (.ireturn, 1) := by decide +kernel
theorem dX4_putAside_0 : decode cX4_putAside 0 = .ok (.iconst 0, 1) := by decide +kernel
theorem dX4_putAside_1 : decode cX4_putAside 1 = .ok (.istore_n 1, 1) := by decide +kernel
theorem dX4_putAside_2 : decode cX4_putAside 2 = .ok (.iload_n 1, 1) := by decide +kernel
theorem dX4_putAside_3 : decode cX4_putAside 3 = .ok (.sipush 150, 3) := by decide +kernel
theorem dX4_putAside_6 : decode cX4_putAside 6 = .ok (.if_icmp .ge 21, 3) := by decide +kernel
theorem dX4_putAside_9 : decode cX4_putAside 9 = .ok (.aload_n 0, 1) := by decide +kernel
theorem dX4_putAside_10 : decode cX4_putAside 10 = .ok (.getfield 13, 3) := by decide +kernel
theorem dX4_putAside_13 : decode cX4_putAside 13 = .ok (.iload_n 1, 1) := by decide +kernel
theorem dX4_putAside_14 : decode cX4_putAside 14 = .ok (.aload_n 0, 1) := by decide +kernel
theorem dX4_putAside_15 : decode cX4_putAside 15 = .ok (.getfield 7, 3) := by decide +kernel
theorem dX4_putAside_18 : decode cX4_putAside 18 = .ok (.iload_n 1, 1) := by decide +kernel
theorem dX4_putAside_19 : decode cX4_putAside 19 = .ok (.iaload, 1) := by decide +kernel
theorem dX4_putAside_20 : decode cX4_putAside 20 = .ok (.iastore, 1) := by decide +kernel
theorem dX4_putAside_21 : decode cX4_putAside 21 = .ok (.iinc 1 1, 3) := by decide +kernel
theorem dX4_putAside_24 : decode cX4_putAside 24 = .ok (.goto (-22), 3) := by decide +kernel
theorem dX4_putAside_27 : decode cX4_putAside 27 = .ok (.return_, 1) := by decide +kernel
theorem dX4_putBack_0 : decode cX4_putBack 0 = .ok (.iconst 0, 1) := by decide +kernel
theorem dX4_putBack_1 : decode cX4_putBack 1 = .ok (.istore_n 1, 1) := by decide +kernel
theorem dX4_putBack_2 : decode cX4_putBack 2 = .ok (.iload_n 1, 1) := by decide +kernel
theorem dX4_putBack_3 : decode cX4_putBack 3 = .ok (.sipush 150, 3) := by decide +kernel
theorem dX4_putBack_6 : decode cX4_putBack 6 = .ok (.if_icmp .ge 21, 3) := by decide +kernel
theorem dX4_putBack_9 : decode cX4_putBack 9 = .ok (.aload_n 0, 1) := by decide +kernel
theorem dX4_putBack_10 : decode cX4_putBack 10 = .ok (.getfield 7, 3) := by decide +kernel
theorem dX4_putBack_13 : decode cX4_putBack 13 = .ok (.iload_n 1, 1) := by decide +kernel
theorem dX4_putBack_14 : decode cX4_putBack 14 = .ok (.aload_n 0, 1) := by decide +kernel
theorem dX4_putBack_15 : decode cX4_putBack 15 = .ok (.getfield 13, 3) := by decide +kernel
theorem dX4_putBack_18 : decode cX4_putBack 18 = .ok (.iload_n 1, 1) := by decide +kernel
theorem dX4_putBack_19 : decode cX4_putBack 19 = .ok (.iaload, 1) := by decide +kernel
theorem dX4_putBack_20 : decode cX4_putBack 20 = .ok (.iastore, 1) := by decide +kernel
theorem dX4_putBack_21 : decode cX4_putBack 21 = .ok (.iinc 1 1, 3) := by decide +kernel
theorem dX4_putBack_24 : decode cX4_putBack 24 = .ok (.goto (-22), 3) := by decide +kernel
theorem dX4_putBack_27 : decode cX4_putBack 27 = .ok (.return_, 1) := by decide +kernel
theorem dX4_agrees_0 : decode cX4_agrees 0 = .ok (.aload_n 0, 1) := by decide +kernel
theorem dX4_agrees_1 : decode cX4_agrees 1 = .ok (.iload_n 1, 1) := by decide +kernel
theorem dX4_agrees_2 : decode cX4_agrees 2 = .ok (.iconst 0, 1) := by decide +kernel
theorem dX4_agrees_3 : decode cX4_agrees 3 = .ok (.invokevirtual 43, 3) := by decide +kernel
theorem dX4_agrees_6 : decode cX4_agrees 6 = .ok (.aload_n 0, 1) := by decide +kernel
theorem dX4_agrees_7 : decode cX4_agrees 7 = .ok (.getfield 7, 3) := by decide +kernel
theorem dX4_agrees_10 : decode cX4_agrees 10 = .ok (.iconst 2, 1) := by decide +kernel
theorem dX4_agrees_11 : decode cX4_agrees 11 = .ok (.iload_n 2, 1) := by decide +kernel
theorem dX4_agrees_12 : decode cX4_agrees 12 = .ok (.imul, 1) := by decide +kernel
theorem dX4_agrees_13 : decode cX4_agrees 13 = .ok (.iaload, 1) := by decide +kernel
theorem dX4_agrees_14 : decode cX4_agrees 14 = .ok (.isub, 1) := by decide +kernel
theorem dX4_agrees_15 : decode cX4_agrees 15 = .ok (.bipush 8, 2) := by decide +kernel
theorem dX4_agrees_17 : decode cX4_agrees 17 = .ok (.iadd, 1) := by decide +kernel
theorem dX4_agrees_18 : decode cX4_agrees 18 = .ok (.bipush 8, 2) := by decide +kernel
theorem dX4_agrees_20 : decode cX4_agrees 20 = .ok (.irem, 1) := by decide +kernel
theorem dX4_agrees_21 : decode cX4_agrees 21 = .ok (.istore_n 3, 1) := by decide +kernel
theorem dX4_agrees_22 : decode cX4_agrees 22 = .ok (.iload_n 3, 1) := by decide +kernel
theorem dX4_agrees_23 : decode cX4_agrees 23 = .ok (.iconst 4, 1) := by decide +kernel
theorem dX4_agrees_24 : decode cX4_agrees 24 = .ok (.if_icmp .le 10, 3) := by decide +kernel
theorem dX4_agrees_27 : decode cX4_agrees 27 = .ok (.bipush 8, 2) := by decide +kernel
theorem dX4_agrees_29 : decode cX4_agrees 29 = .ok (.iload_n 3, 1) := by decide +kernel
theorem dX4_agrees_30 : decode cX4_agrees 30 = .ok (.isub, 1) := by decide +kernel
theorem dX4_agrees_31 : decode cX4_agrees 31 = .ok (.goto 4, 3) := by decide +kernel
theorem dX4_agrees_34 : decode cX4_agrees 34 = .ok (.iload_n 3, 1) := by decide +kernel
theorem dX4_agrees_35 : decode cX4_agrees 35 = .ok (.istore 4, 2) := by decide +kernel
theorem dX4_agrees_37 : decode cX4_agrees 37 = .ok (.aload_n 0, 1) := by decide +kernel
theorem dX4_agrees_38 : decode cX4_agrees 38 = .ok (.getfield 7, 3) := by decide +kernel
theorem dX4_agrees_41 : decode cX4_agrees 41 = .ok (.iconst 2, 1) := by decide +kernel
theorem dX4_agrees_42 : decode cX4_agrees 42 = .ok (.iload_n 2, 1) := by decide +kernel
theorem dX4_agrees_43 : decode cX4_agrees 43 = .ok (.imul, 1) := by decide +kernel
theorem dX4_agrees_44 : decode cX4_agrees 44 = .ok (.iconst 1, 1) := by decide +kernel
theorem dX4_agrees_45 : decode cX4_agrees 45 = .ok (.iadd, 1) := by decide +kernel
theorem dX4_agrees_46 : decode cX4_agrees 46 = .ok (.iaload, 1) := by decide +kernel
theorem dX4_agrees_47 : decode cX4_agrees 47 = .ok (.aload_n 0, 1) := by decide +kernel
theorem dX4_agrees_48 : decode cX4_agrees 48 = .ok (.iload_n 1, 1) := by decide +kernel
theorem dX4_agrees_49 : decode cX4_agrees 49 = .ok (.iconst 2, 1) := by decide +kernel
theorem dX4_agrees_50 : decode cX4_agrees 50 = .ok (.invokevirtual 43, 3) := by decide +kernel
theorem dX4_agrees_53 : decode cX4_agrees 53 = .ok (.if_icmp .lt 18, 3) := by decide +kernel
theorem dX4_agrees_56 : decode cX4_agrees 56 = .ok (.iload 4, 2) := by decide +kernel
theorem dX4_agrees_58 : decode cX4_agrees 58 = .ok (.aload_n 0, 1) := by decide +kernel
theorem dX4_agrees_59 : decode cX4_agrees 59 = .ok (.iload_n 1, 1) := by decide +kernel
theorem dX4_agrees_60 : decode cX4_agrees 60 = .ok (.iconst 1, 1) := by decide +kernel
theorem dX4_agrees_61 : decode cX4_agrees 61 = .ok (.invokevirtual 43, 3) := by decide +kernel
theorem dX4_agrees_64 : decode cX4_agrees 64 = .ok (.if_icmp .gt 7, 3) := by decide +kernel
theorem dX4_agrees_67 : decode cX4_agrees 67 = .ok (.iconst 1, 1) := by decide +kernel
theorem dX4_agrees_68 : decode cX4_agrees 68 = .ok (.goto 4, 3) := by decide +kernel
theorem dX4_agrees_71 : decode cX4_agrees 71 = .ok (.iconst 0, 1) := by decide +kernel
theorem dX4_agrees_72 : decode cX4_agrees 72 = .ok (.ireturn, 1) := by decide +kernel
theorem dX4_committee_0 : decode cX4_committee 0 = .ok (.iconst 0, 1) := by decide +kernel
theorem dX4_committee_1 : decode cX4_committee 1 = .ok (.istore_n 1, 1) := by decide +kernel
theorem dX4_committee_2 : decode cX4_committee 2 = .ok (.iconst 0, 1) := by decide +kernel
theorem dX4_committee_3 : decode cX4_committee 3 = .ok (.istore_n 2, 1) := by decide +kernel
theorem dX4_committee_4 : decode cX4_committee 4 = .ok (.iload_n 2, 1) := by decide +kernel
theorem dX4_committee_5 : decode cX4_committee 5 = .ok (.bipush 6, 2) := by decide +kernel
theorem dX4_committee_7 : decode cX4_committee 7 = .ok (.if_icmp .ge 20, 3) := by decide +kernel
theorem dX4_committee_10 : decode cX4_committee 10 = .ok (.iload_n 1, 1) := by decide +kernel
theorem dX4_committee_11 : decode cX4_committee 11 = .ok (.iconst 1, 1) := by decide +kernel
theorem dX4_committee_12 : decode cX4_committee 12 = .ok (.aload_n 0, 1) := by decide +kernel
theorem dX4_committee_13 : decode cX4_committee 13 = .ok (.iload_n 2, 1) := by decide +kernel
theorem dX4_committee_14 : decode cX4_committee 14 = .ok (.iconst 3, 1) := by decide +kernel
theorem dX4_committee_15 : decode cX4_committee 15 = .ok (.invokevirtual 43, 3) := by decide +kernel
theorem dX4_committee_18 : decode cX4_committee 18 = .ok (.isub, 1) := by decide +kernel
theorem dX4_committee_19 : decode cX4_committee 19 = .ok (.iadd, 1) := by decide +kernel
theorem dX4_committee_20 : decode cX4_committee 20 = .ok (.istore_n 1, 1) := by decide +kernel
theorem dX4_committee_21 : decode cX4_committee 21 = .ok (.iinc 2 1, 3) := by decide +kernel
theorem dX4_committee_24 : decode cX4_committee 24 = .ok (.goto (-20), 3) := by decide +kernel
theorem dX4_committee_27 : decode cX4_committee 27 = .ok (.iload_n 1, 1) := by decide +kernel
theorem dX4_committee_28 : decode cX4_committee 28 = .ok (.ireturn, 1) := by decide +kernel
theorem dX4_agreeing_0 : decode cX4_agreeing 0 = .ok (.iconst 0, 1) := by decide +kernel
theorem dX4_agreeing_1 : decode cX4_agreeing 1 = .ok (.istore_n 2, 1) := by decide +kernel
theorem dX4_agreeing_2 : decode cX4_agreeing 2 = .ok (.iconst 0, 1) := by decide +kernel
theorem dX4_agreeing_3 : decode cX4_agreeing 3 = .ok (.istore_n 3, 1) := by decide +kernel
theorem dX4_agreeing_4 : decode cX4_agreeing 4 = .ok (.iload_n 3, 1) := by decide +kernel
theorem dX4_agreeing_5 : decode cX4_agreeing 5 = .ok (.bipush 6, 2) := by decide +kernel
theorem dX4_agreeing_7 : decode cX4_agreeing 7 = .ok (.if_icmp .ge 35, 3) := by decide +kernel
theorem dX4_agreeing_10 : decode cX4_agreeing 10 = .ok (.iload_n 2, 1) := by decide +kernel
theorem dX4_agreeing_11 : decode cX4_agreeing 11 = .ok (.aload_n 0, 1) := by decide +kernel
theorem dX4_agreeing_12 : decode cX4_agreeing 12 = .ok (.iload_n 3, 1) := by decide +kernel
theorem dX4_agreeing_13 : decode cX4_agreeing 13 = .ok (.iconst 3, 1) := by decide +kernel
theorem dX4_agreeing_14 : decode cX4_agreeing 14 = .ok (.invokevirtual 43, 3) := by decide +kernel
theorem dX4_agreeing_17 : decode cX4_agreeing 17 = .ok (.ifCond .ne 16, 3) := by decide +kernel
theorem dX4_agreeing_20 : decode cX4_agreeing 20 = .ok (.aload_n 0, 1) := by decide +kernel
theorem dX4_agreeing_21 : decode cX4_agreeing 21 = .ok (.iload_n 3, 1) := by decide +kernel
theorem dX4_agreeing_22 : decode cX4_agreeing 22 = .ok (.iload_n 1, 1) := by decide +kernel
theorem dX4_agreeing_23 : decode cX4_agreeing 23 = .ok (.invokevirtual 47, 3) := by decide +kernel
theorem dX4_agreeing_26 : decode cX4_agreeing 26 = .ok (.ifCond .eq 7, 3) := by decide +kernel
theorem dX4_agreeing_29 : decode cX4_agreeing 29 = .ok (.iconst 1, 1) := by decide +kernel
theorem dX4_agreeing_30 : decode cX4_agreeing 30 = .ok (.goto 4, 3) := by decide +kernel
theorem dX4_agreeing_33 : decode cX4_agreeing 33 = .ok (.iconst 0, 1) := by decide +kernel
theorem dX4_agreeing_34 : decode cX4_agreeing 34 = .ok (.iadd, 1) := by decide +kernel
theorem dX4_agreeing_35 : decode cX4_agreeing 35 = .ok (.istore_n 2, 1) := by decide +kernel
theorem dX4_agreeing_36 : decode cX4_agreeing 36 = .ok (.iinc 3 1, 3) := by decide +kernel
theorem dX4_agreeing_39 : decode cX4_agreeing 39 = .ok (.goto (-35), 3) := by decide +kernel
theorem dX4_agreeing_42 : decode cX4_agreeing 42 = .ok (.iload_n 2, 1) := by decide +kernel
theorem dX4_agreeing_43 : decode cX4_agreeing 43 = .ok (.ireturn, 1) := by decide +kernel
theorem dX4_whyNot_0 : decode cX4_whyNot 0 = .ok (.aload_n 0, 1) := by decide +kernel
theorem dX4_whyNot_1 : decode cX4_whyNot 1 = .ok (.invokevirtual 51, 3) := by decide +kernel
theorem dX4_whyNot_4 : decode cX4_whyNot 4 = .ok (.istore_n 2, 1) := by decide +kernel
theorem dX4_whyNot_5 : decode cX4_whyNot 5 = .ok (.iload_n 2, 1) := by decide +kernel
theorem dX4_whyNot_6 : decode cX4_whyNot 6 = .ok (.aload_n 0, 1) := by decide +kernel
theorem dX4_whyNot_7 : decode cX4_whyNot 7 = .ok (.getfield 7, 3) := by decide +kernel
theorem dX4_whyNot_10 : decode cX4_whyNot 10 = .ok (.bipush 72, 2) := by decide +kernel
theorem dX4_whyNot_12 : decode cX4_whyNot 12 = .ok (.iaload, 1) := by decide +kernel
theorem dX4_whyNot_13 : decode cX4_whyNot 13 = .ok (.if_icmp .ge 5, 3) := by decide +kernel
theorem dX4_whyNot_16 : decode cX4_whyNot 16 = .ok (.iconst 1, 1) := by decide +kernel
theorem dX4_whyNot_17 : decode cX4_whyNot 17 = .ok (.ireturn, 1) := by decide +kernel
theorem dX4_whyNot_18 : decode cX4_whyNot 18 = .ok (.iconst 2, 1) := by decide +kernel
theorem dX4_whyNot_19 : decode cX4_whyNot 19 = .ok (.aload_n 0, 1) := by decide +kernel
theorem dX4_whyNot_20 : decode cX4_whyNot 20 = .ok (.iload_n 1, 1) := by decide +kernel
theorem dX4_whyNot_21 : decode cX4_whyNot 21 = .ok (.invokevirtual 55, 3) := by decide +kernel
theorem dX4_whyNot_24 : decode cX4_whyNot 24 = .ok (.imul, 1) := by decide +kernel
theorem dX4_whyNot_25 : decode cX4_whyNot 25 = .ok (.istore_n 3, 1) := by decide +kernel
theorem dX4_whyNot_26 : decode cX4_whyNot 26 = .ok (.iload_n 3, 1) := by decide +kernel
theorem dX4_whyNot_27 : decode cX4_whyNot 27 = .ok (.iload_n 2, 1) := by decide +kernel
theorem dX4_whyNot_28 : decode cX4_whyNot 28 = .ok (.if_icmp .gt 19, 3) := by decide +kernel
theorem dX4_whyNot_31 : decode cX4_whyNot 31 = .ok (.aload_n 0, 1) := by decide +kernel
theorem dX4_whyNot_32 : decode cX4_whyNot 32 = .ok (.getfield 7, 3) := by decide +kernel
theorem dX4_whyNot_35 : decode cX4_whyNot 35 = .ok (.bipush 73, 2) := by decide +kernel
theorem dX4_whyNot_37 : decode cX4_whyNot 37 = .ok (.iaload, 1) := by decide +kernel
theorem dX4_whyNot_38 : decode cX4_whyNot 38 = .ok (.iconst 1, 1) := by decide +kernel
theorem dX4_whyNot_39 : decode cX4_whyNot 39 = .ok (.if_icmp .ne 12, 3) := by decide +kernel
theorem dX4_whyNot_42 : decode cX4_whyNot 42 = .ok (.iload_n 3, 1) := by decide +kernel
theorem dX4_whyNot_43 : decode cX4_whyNot 43 = .ok (.iload_n 2, 1) := by decide +kernel
theorem dX4_whyNot_44 : decode cX4_whyNot 44 = .ok (.if_icmp .ne 7, 3) := by decide +kernel
theorem dX4_whyNot_47 : decode cX4_whyNot 47 = .ok (.iconst 0, 1) := by decide +kernel
theorem dX4_whyNot_48 : decode cX4_whyNot 48 = .ok (.goto 4, 3) := by decide +kernel
theorem dX4_whyNot_51 : decode cX4_whyNot 51 = .ok (.iconst 2, 1) := by decide +kernel
theorem dX4_whyNot_52 : decode cX4_whyNot 52 = .ok (.ireturn, 1) := by decide +kernel
theorem dX4_hoursOfDay_0 : decode cX4_hoursOfDay 0 = .ok (.iconst 0, 1) := by decide +kernel
theorem dX4_hoursOfDay_1 : decode cX4_hoursOfDay 1 = .ok (.istore_n 1, 1) := by decide +kernel
theorem dX4_hoursOfDay_2 : decode cX4_hoursOfDay 2 = .ok (.iconst 0, 1) := by decide +kernel
theorem dX4_hoursOfDay_3 : decode cX4_hoursOfDay 3 = .ok (.istore_n 2, 1) := by decide +kernel
theorem dX4_hoursOfDay_4 : decode cX4_hoursOfDay 4 = .ok (.iload_n 2, 1) := by decide +kernel
theorem dX4_hoursOfDay_5 : decode cX4_hoursOfDay 5 = .ok (.bipush 24, 2) := by decide +kernel
theorem dX4_hoursOfDay_7 : decode cX4_hoursOfDay 7 = .ok (.if_icmp .ge 25, 3) := by decide +kernel
theorem dX4_hoursOfDay_10 : decode cX4_hoursOfDay 10 = .ok (.iload_n 1, 1) := by decide +kernel
theorem dX4_hoursOfDay_11 : decode cX4_hoursOfDay 11 = .ok (.aload_n 0, 1) := by decide +kernel
theorem dX4_hoursOfDay_12 : decode cX4_hoursOfDay 12 = .ok (.iload_n 2, 1) := by decide +kernel
theorem dX4_hoursOfDay_13 : decode cX4_hoursOfDay 13 = .ok (.invokevirtual 59, 3) := by decide +kernel
theorem dX4_hoursOfDay_16 : decode cX4_hoursOfDay 16 = .ok (.ifCond .ne 7, 3) := by decide +kernel
theorem dX4_hoursOfDay_19 : decode cX4_hoursOfDay 19 = .ok (.iconst 1, 1) := by decide +kernel
theorem dX4_hoursOfDay_20 : decode cX4_hoursOfDay 20 = .ok (.goto 4, 3) := by decide +kernel
theorem dX4_hoursOfDay_23 : decode cX4_hoursOfDay 23 = .ok (.iconst 0, 1) := by decide +kernel
theorem dX4_hoursOfDay_24 : decode cX4_hoursOfDay 24 = .ok (.iadd, 1) := by decide +kernel
theorem dX4_hoursOfDay_25 : decode cX4_hoursOfDay 25 = .ok (.istore_n 1, 1) := by decide +kernel
theorem dX4_hoursOfDay_26 : decode cX4_hoursOfDay 26 = .ok (.iinc 2 1, 3) := by decide +kernel
theorem dX4_hoursOfDay_29 : decode cX4_hoursOfDay 29 = .ok (.goto (-25), 3) := by decide +kernel
theorem dX4_hoursOfDay_32 : decode cX4_hoursOfDay 32 = .ok (.iload_n 1, 1) := by decide +kernel
theorem dX4_hoursOfDay_33 : decode cX4_hoursOfDay 33 = .ok (.ireturn, 1) := by decide +kernel
theorem dX4_much_0 : decode cX4_much 0 = .ok (.aload_n 0, 1) := by decide +kernel
theorem dX4_much_1 : decode cX4_much 1 = .ok (.iload_n 2, 1) := by decide +kernel
theorem dX4_much_2 : decode cX4_much 2 = .ok (.invokevirtual 59, 3) := by decide +kernel
theorem dX4_much_5 : decode cX4_much 5 = .ok (.ifCond .ne 25, 3) := by decide +kernel
theorem dX4_much_8 : decode cX4_much 8 = .ok (.aload_n 0, 1) := by decide +kernel
theorem dX4_much_9 : decode cX4_much 9 = .ok (.iload_n 1, 1) := by decide +kernel
theorem dX4_much_10 : decode cX4_much 10 = .ok (.iconst 0, 1) := by decide +kernel
theorem dX4_much_11 : decode cX4_much 11 = .ok (.invokevirtual 62, 3) := by decide +kernel
theorem dX4_much_14 : decode cX4_much 14 = .ok (.aload_n 0, 1) := by decide +kernel
theorem dX4_much_15 : decode cX4_much 15 = .ok (.getfield 7, 3) := by decide +kernel
theorem dX4_much_18 : decode cX4_much 18 = .ok (.iconst 2, 1) := by decide +kernel
theorem dX4_much_19 : decode cX4_much 19 = .ok (.iload_n 2, 1) := by decide +kernel
theorem dX4_much_20 : decode cX4_much 20 = .ok (.imul, 1) := by decide +kernel
theorem dX4_much_21 : decode cX4_much 21 = .ok (.iconst 1, 1) := by decide +kernel
theorem dX4_much_22 : decode cX4_much 22 = .ok (.iadd, 1) := by decide +kernel
theorem dX4_much_23 : decode cX4_much 23 = .ok (.iaload, 1) := by decide +kernel
theorem dX4_much_24 : decode cX4_much 24 = .ok (.imul, 1) := by decide +kernel
theorem dX4_much_25 : decode cX4_much 25 = .ok (.iconst 4, 1) := by decide +kernel
theorem dX4_much_26 : decode cX4_much 26 = .ok (.idiv, 1) := by decide +kernel
theorem dX4_much_27 : decode cX4_much 27 = .ok (.goto 4, 3) := by decide +kernel
theorem dX4_much_30 : decode cX4_much 30 = .ok (.iconst 0, 1) := by decide +kernel
theorem dX4_much_31 : decode cX4_much 31 = .ok (.ireturn, 1) := by decide +kernel
theorem dX4_muchInDay_0 : decode cX4_muchInDay 0 = .ok (.iconst 0, 1) := by decide +kernel
theorem dX4_muchInDay_1 : decode cX4_muchInDay 1 = .ok (.istore_n 2, 1) := by decide +kernel
theorem dX4_muchInDay_2 : decode cX4_muchInDay 2 = .ok (.iconst 0, 1) := by decide +kernel
theorem dX4_muchInDay_3 : decode cX4_muchInDay 3 = .ok (.istore_n 3, 1) := by decide +kernel
theorem dX4_muchInDay_4 : decode cX4_muchInDay 4 = .ok (.iload_n 3, 1) := by decide +kernel
theorem dX4_muchInDay_5 : decode cX4_muchInDay 5 = .ok (.bipush 24, 2) := by decide +kernel
theorem dX4_muchInDay_7 : decode cX4_muchInDay 7 = .ok (.if_icmp .ge 18, 3) := by decide +kernel
theorem dX4_muchInDay_10 : decode cX4_muchInDay 10 = .ok (.iload_n 2, 1) := by decide +kernel
theorem dX4_muchInDay_11 : decode cX4_muchInDay 11 = .ok (.aload_n 0, 1) := by decide +kernel
theorem dX4_muchInDay_12 : decode cX4_muchInDay 12 = .ok (.iload_n 1, 1) := by decide +kernel
theorem dX4_muchInDay_13 : decode cX4_muchInDay 13 = .ok (.iload_n 3, 1) := by decide +kernel
theorem dX4_muchInDay_14 : decode cX4_muchInDay 14 = .ok (.invokevirtual 65, 3) := by decide +kernel
theorem dX4_muchInDay_17 : decode cX4_muchInDay 17 = .ok (.iadd, 1) := by decide +kernel
theorem dX4_muchInDay_18 : decode cX4_muchInDay 18 = .ok (.istore_n 2, 1) := by decide +kernel
theorem dX4_muchInDay_19 : decode cX4_muchInDay 19 = .ok (.iinc 3 1, 3) := by decide +kernel
theorem dX4_muchInDay_22 : decode cX4_muchInDay 22 = .ok (.goto (-18), 3) := by decide +kernel
theorem dX4_muchInDay_25 : decode cX4_muchInDay 25 = .ok (.iload_n 2, 1) := by decide +kernel
theorem dX4_muchInDay_26 : decode cX4_muchInDay 26 = .ok (.ireturn, 1) := by decide +kernel
theorem dX4_waiting_0 : decode cX4_waiting 0 = .ok (.iconst 0, 1) := by decide +kernel
theorem dX4_waiting_1 : decode cX4_waiting 1 = .ok (.istore_n 2, 1) := by decide +kernel
theorem dX4_waiting_2 : decode cX4_waiting 2 = .ok (.iconst 0, 1) := by decide +kernel
theorem dX4_waiting_3 : decode cX4_waiting 3 = .ok (.istore_n 3, 1) := by decide +kernel
theorem dX4_waiting_4 : decode cX4_waiting 4 = .ok (.iload_n 3, 1) := by decide +kernel
theorem dX4_waiting_5 : decode cX4_waiting 5 = .ok (.aload_n 0, 1) := by decide +kernel
theorem dX4_waiting_6 : decode cX4_waiting 6 = .ok (.iload_n 1, 1) := by decide +kernel
theorem dX4_waiting_7 : decode cX4_waiting 7 = .ok (.iconst 1, 1) := by decide +kernel
theorem dX4_waiting_8 : decode cX4_waiting 8 = .ok (.invokevirtual 62, 3) := by decide +kernel
theorem dX4_waiting_11 : decode cX4_waiting 11 = .ok (.if_icmp .ge 24, 3) := by decide +kernel
theorem dX4_waiting_14 : decode cX4_waiting 14 = .ok (.iload_n 2, 1) := by decide +kernel
theorem dX4_waiting_15 : decode cX4_waiting 15 = .ok (.aload_n 0, 1) := by decide +kernel
theorem dX4_waiting_16 : decode cX4_waiting 16 = .ok (.iload_n 1, 1) := by decide +kernel
theorem dX4_waiting_17 : decode cX4_waiting 17 = .ok (.iconst 3, 1) := by decide +kernel
theorem dX4_waiting_18 : decode cX4_waiting 18 = .ok (.iconst 2, 1) := by decide +kernel
theorem dX4_waiting_19 : decode cX4_waiting 19 = .ok (.iload_n 3, 1) := by decide +kernel
theorem dX4_waiting_20 : decode cX4_waiting 20 = .ok (.imul, 1) := by decide +kernel
theorem dX4_waiting_21 : decode cX4_waiting 21 = .ok (.iadd, 1) := by decide +kernel
theorem dX4_waiting_22 : decode cX4_waiting 22 = .ok (.iconst 1, 1) := by decide +kernel
theorem dX4_waiting_23 : decode cX4_waiting 23 = .ok (.iadd, 1) := by decide +kernel
theorem dX4_waiting_24 : decode cX4_waiting 24 = .ok (.invokevirtual 62, 3) := by decide +kernel
theorem dX4_waiting_27 : decode cX4_waiting 27 = .ok (.iadd, 1) := by decide +kernel
theorem dX4_waiting_28 : decode cX4_waiting 28 = .ok (.istore_n 2, 1) := by decide +kernel
theorem dX4_waiting_29 : decode cX4_waiting 29 = .ok (.iinc 3 1, 3) := by decide +kernel
theorem dX4_waiting_32 : decode cX4_waiting 32 = .ok (.goto (-28), 3) := by decide +kernel
theorem dX4_waiting_35 : decode cX4_waiting 35 = .ok (.iload_n 2, 1) := by decide +kernel
theorem dX4_waiting_36 : decode cX4_waiting 36 = .ok (.ireturn, 1) := by decide +kernel
theorem dX4_dropFirst_0 : decode cX4_dropFirst 0 = .ok (.aload_n 0, 1) := by decide +kernel
theorem dX4_dropFirst_1 : decode cX4_dropFirst 1 = .ok (.iload_n 1, 1) := by decide +kernel
theorem dX4_dropFirst_2 : decode cX4_dropFirst 2 = .ok (.iconst 1, 1) := by decide +kernel
theorem dX4_dropFirst_3 : decode cX4_dropFirst 3 = .ok (.iconst (-1), 1) := by decide +kernel
theorem dX4_dropFirst_4 : decode cX4_dropFirst 4 = .ok (.invokevirtual 68, 3) := by decide +kernel
theorem dX4_dropFirst_7 : decode cX4_dropFirst 7 = .ok (.bipush 74, 2) := by decide +kernel
theorem dX4_dropFirst_9 : decode cX4_dropFirst 9 = .ok (.bipush 19, 2) := by decide +kernel
theorem dX4_dropFirst_11 : decode cX4_dropFirst 11 = .ok (.iload_n 1, 1) := by decide +kernel
theorem dX4_dropFirst_12 : decode cX4_dropFirst 12 = .ok (.imul, 1) := by decide +kernel
theorem dX4_dropFirst_13 : decode cX4_dropFirst 13 = .ok (.iadd, 1) := by decide +kernel
theorem dX4_dropFirst_14 : decode cX4_dropFirst 14 = .ok (.iconst 3, 1) := by decide +kernel
theorem dX4_dropFirst_15 : decode cX4_dropFirst 15 = .ok (.iadd, 1) := by decide +kernel
theorem dX4_dropFirst_16 : decode cX4_dropFirst 16 = .ok (.istore_n 2, 1) := by decide +kernel
theorem dX4_dropFirst_17 : decode cX4_dropFirst 17 = .ok (.iload_n 2, 1) := by decide +kernel
theorem dX4_dropFirst_18 : decode cX4_dropFirst 18 = .ok (.istore_n 3, 1) := by decide +kernel
theorem dX4_dropFirst_19 : decode cX4_dropFirst 19 = .ok (.iload_n 3, 1) := by decide +kernel
theorem dX4_dropFirst_20 : decode cX4_dropFirst 20 = .ok (.iload_n 2, 1) := by decide +kernel
theorem dX4_dropFirst_21 : decode cX4_dropFirst 21 = .ok (.iconst 2, 1) := by decide +kernel
theorem dX4_dropFirst_22 : decode cX4_dropFirst 22 = .ok (.aload_n 0, 1) := by decide +kernel
theorem dX4_dropFirst_23 : decode cX4_dropFirst 23 = .ok (.iload_n 1, 1) := by decide +kernel
theorem dX4_dropFirst_24 : decode cX4_dropFirst 24 = .ok (.iconst 1, 1) := by decide +kernel
theorem dX4_dropFirst_25 : decode cX4_dropFirst 25 = .ok (.invokevirtual 62, 3) := by decide +kernel
theorem dX4_dropFirst_28 : decode cX4_dropFirst 28 = .ok (.imul, 1) := by decide +kernel
theorem dX4_dropFirst_29 : decode cX4_dropFirst 29 = .ok (.iadd, 1) := by decide +kernel
theorem dX4_dropFirst_30 : decode cX4_dropFirst 30 = .ok (.if_icmp .ge 23, 3) := by decide +kernel
theorem dX4_dropFirst_33 : decode cX4_dropFirst 33 = .ok (.aload_n 0, 1) := by decide +kernel
theorem dX4_dropFirst_34 : decode cX4_dropFirst 34 = .ok (.getfield 7, 3) := by decide +kernel
theorem dX4_dropFirst_37 : decode cX4_dropFirst 37 = .ok (.iload_n 3, 1) := by decide +kernel
theorem dX4_dropFirst_38 : decode cX4_dropFirst 38 = .ok (.aload_n 0, 1) := by decide +kernel
theorem dX4_dropFirst_39 : decode cX4_dropFirst 39 = .ok (.getfield 7, 3) := by decide +kernel
theorem dX4_dropFirst_42 : decode cX4_dropFirst 42 = .ok (.iload_n 3, 1) := by decide +kernel
theorem dX4_dropFirst_43 : decode cX4_dropFirst 43 = .ok (.iconst 2, 1) := by decide +kernel
theorem dX4_dropFirst_44 : decode cX4_dropFirst 44 = .ok (.iadd, 1) := by decide +kernel
theorem dX4_dropFirst_45 : decode cX4_dropFirst 45 = .ok (.iaload, 1) := by decide +kernel
theorem dX4_dropFirst_46 : decode cX4_dropFirst 46 = .ok (.iastore, 1) := by decide +kernel
theorem dX4_dropFirst_47 : decode cX4_dropFirst 47 = .ok (.iinc 3 1, 3) := by decide +kernel
theorem dX4_dropFirst_50 : decode cX4_dropFirst 50 = .ok (.goto (-31), 3) := by decide +kernel
theorem dX4_dropFirst_53 : decode cX4_dropFirst 53 = .ok (.return_, 1) := by decide +kernel
theorem dX4_grind_0 : decode cX4_grind 0 = .ok (.iload_n 2, 1) := by decide +kernel
theorem dX4_grind_1 : decode cX4_grind 1 = .ok (.istore_n 3, 1) := by decide +kernel
theorem dX4_grind_2 : decode cX4_grind 2 = .ok (.iload_n 3, 1) := by decide +kernel
theorem dX4_grind_3 : decode cX4_grind 3 = .ok (.ifCond .le 84, 3) := by decide +kernel
theorem dX4_grind_6 : decode cX4_grind 6 = .ok (.aload_n 0, 1) := by decide +kernel
theorem dX4_grind_7 : decode cX4_grind 7 = .ok (.iload_n 1, 1) := by decide +kernel
theorem dX4_grind_8 : decode cX4_grind 8 = .ok (.iconst 1, 1) := by decide +kernel
theorem dX4_grind_9 : decode cX4_grind 9 = .ok (.invokevirtual 62, 3) := by decide +kernel
theorem dX4_grind_12 : decode cX4_grind 12 = .ok (.ifCond .le 75, 3) := by decide +kernel
theorem dX4_grind_15 : decode cX4_grind 15 = .ok (.aload_n 0, 1) := by decide +kernel
theorem dX4_grind_16 : decode cX4_grind 16 = .ok (.iload_n 1, 1) := by decide +kernel
theorem dX4_grind_17 : decode cX4_grind 17 = .ok (.iconst 4, 1) := by decide +kernel
theorem dX4_grind_18 : decode cX4_grind 18 = .ok (.invokevirtual 62, 3) := by decide +kernel
theorem dX4_grind_21 : decode cX4_grind 21 = .ok (.istore 4, 2) := by decide +kernel
theorem dX4_grind_23 : decode cX4_grind 23 = .ok (.iload 4, 2) := by decide +kernel
theorem dX4_grind_25 : decode cX4_grind 25 = .ok (.iload_n 3, 1) := by decide +kernel
theorem dX4_grind_26 : decode cX4_grind 26 = .ok (.if_icmp .ge 8, 3) := by decide +kernel
theorem dX4_grind_29 : decode cX4_grind 29 = .ok (.iload 4, 2) := by decide +kernel
theorem dX4_grind_31 : decode cX4_grind 31 = .ok (.goto 4, 3) := by decide +kernel
theorem dX4_grind_34 : decode cX4_grind 34 = .ok (.iload_n 3, 1) := by decide +kernel
theorem dX4_grind_35 : decode cX4_grind 35 = .ok (.istore 5, 2) := by decide +kernel
theorem dX4_grind_37 : decode cX4_grind 37 = .ok (.aload_n 0, 1) := by decide +kernel
theorem dX4_grind_38 : decode cX4_grind 38 = .ok (.aload_n 0, 1) := by decide +kernel
theorem dX4_grind_39 : decode cX4_grind 39 = .ok (.iload_n 1, 1) := by decide +kernel
theorem dX4_grind_40 : decode cX4_grind 40 = .ok (.iconst 3, 1) := by decide +kernel
theorem dX4_grind_41 : decode cX4_grind 41 = .ok (.invokevirtual 62, 3) := by decide +kernel
theorem dX4_grind_44 : decode cX4_grind 44 = .ok (.iconst 0, 1) := by decide +kernel
theorem dX4_grind_45 : decode cX4_grind 45 = .ok (.iload 5, 2) := by decide +kernel
theorem dX4_grind_47 : decode cX4_grind 47 = .ok (.invokevirtual 72, 3) := by decide +kernel
theorem dX4_grind_50 : decode cX4_grind 50 = .ok (.aload_n 0, 1) := by decide +kernel
theorem dX4_grind_51 : decode cX4_grind 51 = .ok (.iload_n 1, 1) := by decide +kernel
theorem dX4_grind_52 : decode cX4_grind 52 = .ok (.iconst 2, 1) := by decide +kernel
theorem dX4_grind_53 : decode cX4_grind 53 = .ok (.iload 5, 2) := by decide +kernel
theorem dX4_grind_55 : decode cX4_grind 55 = .ok (.invokevirtual 68, 3) := by decide +kernel
theorem dX4_grind_58 : decode cX4_grind 58 = .ok (.aload_n 0, 1) := by decide +kernel
theorem dX4_grind_59 : decode cX4_grind 59 = .ok (.iload_n 1, 1) := by decide +kernel
theorem dX4_grind_60 : decode cX4_grind 60 = .ok (.iconst 4, 1) := by decide +kernel
theorem dX4_grind_61 : decode cX4_grind 61 = .ok (.iload 5, 2) := by decide +kernel
theorem dX4_grind_63 : decode cX4_grind 63 = .ok (.ineg, 1) := by decide +kernel
theorem dX4_grind_64 : decode cX4_grind 64 = .ok (.invokevirtual 68, 3) := by decide +kernel
theorem dX4_grind_67 : decode cX4_grind 67 = .ok (.iload_n 3, 1) := by decide +kernel
theorem dX4_grind_68 : decode cX4_grind 68 = .ok (.iload 5, 2) := by decide +kernel
theorem dX4_grind_70 : decode cX4_grind 70 = .ok (.isub, 1) := by decide +kernel
theorem dX4_grind_71 : decode cX4_grind 71 = .ok (.istore_n 3, 1) := by decide +kernel
theorem dX4_grind_72 : decode cX4_grind 72 = .ok (.iload 5, 2) := by decide +kernel
theorem dX4_grind_74 : decode cX4_grind 74 = .ok (.iload 4, 2) := by decide +kernel
theorem dX4_grind_76 : decode cX4_grind 76 = .ok (.if_icmp .ne 8, 3) := by decide +kernel
theorem dX4_grind_79 : decode cX4_grind 79 = .ok (.aload_n 0, 1) := by decide +kernel
theorem dX4_grind_80 : decode cX4_grind 80 = .ok (.iload_n 1, 1) := by decide +kernel
theorem dX4_grind_81 : decode cX4_grind 81 = .ok (.invokevirtual 75, 3) := by decide +kernel
theorem dX4_grind_84 : decode cX4_grind 84 = .ok (.goto (-82), 3) := by decide +kernel
theorem dX4_grind_87 : decode cX4_grind 87 = .ok (.iload_n 2, 1) := by decide +kernel
theorem dX4_grind_88 : decode cX4_grind 88 = .ok (.iload_n 3, 1) := by decide +kernel
theorem dX4_grind_89 : decode cX4_grind 89 = .ok (.isub, 1) := by decide +kernel
theorem dX4_grind_90 : decode cX4_grind 90 = .ok (.ireturn, 1) := by decide +kernel
theorem dX4_doHour_0 : decode cX4_doHour 0 = .ok (.aload_n 0, 1) := by decide +kernel
theorem dX4_doHour_1 : decode cX4_doHour 1 = .ok (.getfield 7, 3) := by decide +kernel
theorem dX4_doHour_4 : decode cX4_doHour 4 = .ok (.sipush 146, 3) := by decide +kernel
theorem dX4_doHour_7 : decode cX4_doHour 7 = .ok (.iaload, 1) := by decide +kernel
theorem dX4_doHour_8 : decode cX4_doHour 8 = .ok (.istore_n 1, 1) := by decide +kernel
theorem dX4_doHour_9 : decode cX4_doHour 9 = .ok (.iconst 0, 1) := by decide +kernel
theorem dX4_doHour_10 : decode cX4_doHour 10 = .ok (.istore_n 2, 1) := by decide +kernel
theorem dX4_doHour_11 : decode cX4_doHour 11 = .ok (.iconst 0, 1) := by decide +kernel
theorem dX4_doHour_12 : decode cX4_doHour 12 = .ok (.istore_n 3, 1) := by decide +kernel
theorem dX4_doHour_13 : decode cX4_doHour 13 = .ok (.iload_n 3, 1) := by decide +kernel
theorem dX4_doHour_14 : decode cX4_doHour 14 = .ok (.iconst 3, 1) := by decide +kernel
theorem dX4_doHour_15 : decode cX4_doHour 15 = .ok (.if_icmp .ge 23, 3) := by decide +kernel
theorem dX4_doHour_18 : decode cX4_doHour 18 = .ok (.iload_n 2, 1) := by decide +kernel
theorem dX4_doHour_19 : decode cX4_doHour 19 = .ok (.aload_n 0, 1) := by decide +kernel
theorem dX4_doHour_20 : decode cX4_doHour 20 = .ok (.iload_n 3, 1) := by decide +kernel
theorem dX4_doHour_21 : decode cX4_doHour 21 = .ok (.aload_n 0, 1) := by decide +kernel
theorem dX4_doHour_22 : decode cX4_doHour 22 = .ok (.iload_n 3, 1) := by decide +kernel
theorem dX4_doHour_23 : decode cX4_doHour 23 = .ok (.iload_n 1, 1) := by decide +kernel
theorem dX4_doHour_24 : decode cX4_doHour 24 = .ok (.invokevirtual 65, 3) := by decide +kernel
theorem dX4_doHour_27 : decode cX4_doHour 27 = .ok (.invokevirtual 79, 3) := by decide +kernel
theorem dX4_doHour_30 : decode cX4_doHour 30 = .ok (.iadd, 1) := by decide +kernel
theorem dX4_doHour_31 : decode cX4_doHour 31 = .ok (.istore_n 2, 1) := by decide +kernel
theorem dX4_doHour_32 : decode cX4_doHour 32 = .ok (.iinc 3 1, 3) := by decide +kernel
theorem dX4_doHour_35 : decode cX4_doHour 35 = .ok (.goto (-22), 3) := by decide +kernel
theorem dX4_doHour_38 : decode cX4_doHour 38 = .ok (.aload_n 0, 1) := by decide +kernel
theorem dX4_doHour_39 : decode cX4_doHour 39 = .ok (.getfield 7, 3) := by decide +kernel
theorem dX4_doHour_42 : decode cX4_doHour 42 = .ok (.sipush 148, 3) := by decide +kernel
theorem dX4_doHour_45 : decode cX4_doHour 45 = .ok (.dup2, 1) := by decide +kernel
theorem dX4_doHour_46 : decode cX4_doHour 46 = .ok (.iaload, 1) := by decide +kernel
theorem dX4_doHour_47 : decode cX4_doHour 47 = .ok (.aload_n 0, 1) := by decide +kernel
theorem dX4_doHour_48 : decode cX4_doHour 48 = .ok (.iload_n 1, 1) := by decide +kernel
theorem dX4_doHour_49 : decode cX4_doHour 49 = .ok (.invokevirtual 59, 3) := by decide +kernel
theorem dX4_doHour_52 : decode cX4_doHour 52 = .ok (.ifCond .ne 7, 3) := by decide +kernel
theorem dX4_doHour_55 : decode cX4_doHour 55 = .ok (.iconst 1, 1) := by decide +kernel
theorem dX4_doHour_56 : decode cX4_doHour 56 = .ok (.goto 4, 3) := by decide +kernel
theorem dX4_doHour_59 : decode cX4_doHour 59 = .ok (.iconst 0, 1) := by decide +kernel
theorem dX4_doHour_60 : decode cX4_doHour 60 = .ok (.iadd, 1) := by decide +kernel
theorem dX4_doHour_61 : decode cX4_doHour 61 = .ok (.iastore, 1) := by decide +kernel
theorem dX4_doHour_62 : decode cX4_doHour 62 = .ok (.aload_n 0, 1) := by decide +kernel
theorem dX4_doHour_63 : decode cX4_doHour 63 = .ok (.getfield 7, 3) := by decide +kernel
theorem dX4_doHour_66 : decode cX4_doHour 66 = .ok (.sipush 147, 3) := by decide +kernel
theorem dX4_doHour_69 : decode cX4_doHour 69 = .ok (.dup2, 1) := by decide +kernel
theorem dX4_doHour_70 : decode cX4_doHour 70 = .ok (.iaload, 1) := by decide +kernel
theorem dX4_doHour_71 : decode cX4_doHour 71 = .ok (.iconst 1, 1) := by decide +kernel
theorem dX4_doHour_72 : decode cX4_doHour 72 = .ok (.iadd, 1) := by decide +kernel
theorem dX4_doHour_73 : decode cX4_doHour 73 = .ok (.iastore, 1) := by decide +kernel
theorem dX4_doHour_74 : decode cX4_doHour 74 = .ok (.aload_n 0, 1) := by decide +kernel
theorem dX4_doHour_75 : decode cX4_doHour 75 = .ok (.getfield 7, 3) := by decide +kernel
theorem dX4_doHour_78 : decode cX4_doHour 78 = .ok (.sipush 146, 3) := by decide +kernel
theorem dX4_doHour_81 : decode cX4_doHour 81 = .ok (.iload_n 1, 1) := by decide +kernel
theorem dX4_doHour_82 : decode cX4_doHour 82 = .ok (.iconst 1, 1) := by decide +kernel
theorem dX4_doHour_83 : decode cX4_doHour 83 = .ok (.iadd, 1) := by decide +kernel
theorem dX4_doHour_84 : decode cX4_doHour 84 = .ok (.bipush 24, 2) := by decide +kernel
theorem dX4_doHour_86 : decode cX4_doHour 86 = .ok (.irem, 1) := by decide +kernel
theorem dX4_doHour_87 : decode cX4_doHour 87 = .ok (.iastore, 1) := by decide +kernel
theorem dX4_doHour_88 : decode cX4_doHour 88 = .ok (.iload_n 2, 1) := by decide +kernel
theorem dX4_doHour_89 : decode cX4_doHour 89 = .ok (.ireturn, 1) := by decide +kernel
theorem dX4_doHours_0 : decode cX4_doHours 0 = .ok (.iconst 0, 1) := by decide +kernel
theorem dX4_doHours_1 : decode cX4_doHours 1 = .ok (.istore_n 2, 1) := by decide +kernel
theorem dX4_doHours_2 : decode cX4_doHours 2 = .ok (.iconst 0, 1) := by decide +kernel
theorem dX4_doHours_3 : decode cX4_doHours 3 = .ok (.istore_n 3, 1) := by decide +kernel
theorem dX4_doHours_4 : decode cX4_doHours 4 = .ok (.iload_n 3, 1) := by decide +kernel
theorem dX4_doHours_5 : decode cX4_doHours 5 = .ok (.iload_n 1, 1) := by decide +kernel
theorem dX4_doHours_6 : decode cX4_doHours 6 = .ok (.if_icmp .ge 16, 3) := by decide +kernel
theorem dX4_doHours_9 : decode cX4_doHours 9 = .ok (.iload_n 2, 1) := by decide +kernel
theorem dX4_doHours_10 : decode cX4_doHours 10 = .ok (.aload_n 0, 1) := by decide +kernel
theorem dX4_doHours_11 : decode cX4_doHours 11 = .ok (.invokevirtual 82, 3) := by decide +kernel
theorem dX4_doHours_14 : decode cX4_doHours 14 = .ok (.iadd, 1) := by decide +kernel
theorem dX4_doHours_15 : decode cX4_doHours 15 = .ok (.istore_n 2, 1) := by decide +kernel
theorem dX4_doHours_16 : decode cX4_doHours 16 = .ok (.iinc 3 1, 3) := by decide +kernel
theorem dX4_doHours_19 : decode cX4_doHours 19 = .ok (.goto (-15), 3) := by decide +kernel
theorem dX4_doHours_22 : decode cX4_doHours 22 = .ok (.iload_n 2, 1) := by decide +kernel
theorem dX4_doHours_23 : decode cX4_doHours 23 = .ok (.ireturn, 1) := by decide +kernel
theorem dX4_change_0 : decode cX4_change 0 = .ok (.aload_n 0, 1) := by decide +kernel
theorem dX4_change_1 : decode cX4_change 1 = .ok (.invokevirtual 40, 3) := by decide +kernel
theorem dX4_change_4 : decode cX4_change 4 = .ok (.aload_n 0, 1) := by decide +kernel
theorem dX4_change_5 : decode cX4_change 5 = .ok (.getfield 7, 3) := by decide +kernel
theorem dX4_change_8 : decode cX4_change 8 = .ok (.iload_n 1, 1) := by decide +kernel
theorem dX4_change_9 : decode cX4_change 9 = .ok (.iaload, 1) := by decide +kernel
theorem dX4_change_10 : decode cX4_change 10 = .ok (.istore_n 3, 1) := by decide +kernel
theorem dX4_change_11 : decode cX4_change 11 = .ok (.aload_n 0, 1) := by decide +kernel
theorem dX4_change_12 : decode cX4_change 12 = .ok (.getfield 7, 3) := by decide +kernel
theorem dX4_change_15 : decode cX4_change 15 = .ok (.iload_n 1, 1) := by decide +kernel
theorem dX4_change_16 : decode cX4_change 16 = .ok (.iload_n 2, 1) := by decide +kernel
theorem dX4_change_17 : decode cX4_change 17 = .ok (.iastore, 1) := by decide +kernel
theorem dX4_change_18 : decode cX4_change 18 = .ok (.iload_n 3, 1) := by decide +kernel
theorem dX4_change_19 : decode cX4_change 19 = .ok (.ireturn, 1) := by decide +kernel
theorem dX4_wind_0 : decode cX4_wind 0 = .ok (.aload_n 0, 1) := by decide +kernel
theorem dX4_wind_1 : decode cX4_wind 1 = .ok (.iload_n 1, 1) := by decide +kernel
theorem dX4_wind_2 : decode cX4_wind 2 = .ok (.iconst 0, 1) := by decide +kernel
theorem dX4_wind_3 : decode cX4_wind 3 = .ok (.bipush 23, 2) := by decide +kernel
theorem dX4_wind_5 : decode cX4_wind 5 = .ok (.invokestatic 36, 3) := by decide +kernel
theorem dX4_wind_8 : decode cX4_wind 8 = .ok (.ifCond .ne 7, 3) := by decide +kernel
theorem dX4_wind_11 : decode cX4_wind 11 = .ok (.iconst 1, 1) := by decide +kernel
theorem dX4_wind_12 : decode cX4_wind 12 = .ok (.goto 28, 3) := by decide +kernel
theorem dX4_wind_15 : decode cX4_wind 15 = .ok (.iload_n 2, 1) := by decide +kernel
theorem dX4_wind_16 : decode cX4_wind 16 = .ok (.iconst 0, 1) := by decide +kernel
theorem dX4_wind_17 : decode cX4_wind 17 = .ok (.bipush 7, 2) := by decide +kernel
theorem dX4_wind_19 : decode cX4_wind 19 = .ok (.invokestatic 36, 3) := by decide +kernel
theorem dX4_wind_22 : decode cX4_wind 22 = .ok (.ifCond .eq 17, 3) := by decide +kernel
theorem dX4_wind_25 : decode cX4_wind 25 = .ok (.iload_n 3, 1) := by decide +kernel
theorem dX4_wind_26 : decode cX4_wind 26 = .ok (.iconst 0, 1) := by decide +kernel
theorem dX4_wind_27 : decode cX4_wind 27 = .ok (.bipush 9, 2) := by decide +kernel
theorem dX4_wind_29 : decode cX4_wind 29 = .ok (.invokestatic 36, 3) := by decide +kernel
theorem dX4_wind_32 : decode cX4_wind 32 = .ok (.ifCond .eq 7, 3) := by decide +kernel
theorem dX4_wind_35 : decode cX4_wind 35 = .ok (.iconst 0, 1) := by decide +kernel
theorem dX4_wind_36 : decode cX4_wind 36 = .ok (.goto 4, 3) := by decide +kernel
theorem dX4_wind_39 : decode cX4_wind 39 = .ok (.iconst 2, 1) := by decide +kernel
theorem dX4_wind_40 : decode cX4_wind 40 = .ok (.putfield 29, 3) := by decide +kernel
theorem dX4_wind_43 : decode cX4_wind 43 = .ok (.aload_n 0, 1) := by decide +kernel
theorem dX4_wind_44 : decode cX4_wind 44 = .ok (.getfield 29, 3) := by decide +kernel
theorem dX4_wind_47 : decode cX4_wind 47 = .ok (.ifCond .le 5, 3) := by decide +kernel
theorem dX4_wind_50 : decode cX4_wind 50 = .ok (.iconst 0, 1) := by decide +kernel
theorem dX4_wind_51 : decode cX4_wind 51 = .ok (.ireturn, 1) := by decide +kernel
theorem dX4_wind_52 : decode cX4_wind 52 = .ok (.aload_n 0, 1) := by decide +kernel
theorem dX4_wind_53 : decode cX4_wind 53 = .ok (.invokevirtual 40, 3) := by decide +kernel
theorem dX4_wind_56 : decode cX4_wind 56 = .ok (.bipush 10, 2) := by decide +kernel
theorem dX4_wind_58 : decode cX4_wind 58 = .ok (.aload_n 0, 1) := by decide +kernel
theorem dX4_wind_59 : decode cX4_wind 59 = .ok (.getfield 7, 3) := by decide +kernel
theorem dX4_wind_62 : decode cX4_wind 62 = .ok (.iconst 2, 1) := by decide +kernel
theorem dX4_wind_63 : decode cX4_wind 63 = .ok (.iload_n 1, 1) := by decide +kernel
theorem dX4_wind_64 : decode cX4_wind 64 = .ok (.imul, 1) := by decide +kernel
theorem dX4_wind_65 : decode cX4_wind 65 = .ok (.iaload, 1) := by decide +kernel
theorem dX4_wind_66 : decode cX4_wind 66 = .ok (.imul, 1) := by decide +kernel
theorem dX4_wind_67 : decode cX4_wind 67 = .ok (.aload_n 0, 1) := by decide +kernel
theorem dX4_wind_68 : decode cX4_wind 68 = .ok (.getfield 7, 3) := by decide +kernel
theorem dX4_wind_71 : decode cX4_wind 71 = .ok (.iconst 2, 1) := by decide +kernel
theorem dX4_wind_72 : decode cX4_wind 72 = .ok (.iload_n 1, 1) := by decide +kernel
theorem dX4_wind_73 : decode cX4_wind 73 = .ok (.imul, 1) := by decide +kernel
theorem dX4_wind_74 : decode cX4_wind 74 = .ok (.iconst 1, 1) := by decide +kernel
theorem dX4_wind_75 : decode cX4_wind 75 = .ok (.iadd, 1) := by decide +kernel
theorem dX4_wind_76 : decode cX4_wind 76 = .ok (.iaload, 1) := by decide +kernel
theorem dX4_wind_77 : decode cX4_wind 77 = .ok (.iadd, 1) := by decide +kernel
theorem dX4_wind_78 : decode cX4_wind 78 = .ok (.istore 4, 2) := by decide +kernel
theorem dX4_wind_80 : decode cX4_wind 80 = .ok (.aload_n 0, 1) := by decide +kernel
theorem dX4_wind_81 : decode cX4_wind 81 = .ok (.getfield 7, 3) := by decide +kernel
theorem dX4_wind_84 : decode cX4_wind 84 = .ok (.iconst 2, 1) := by decide +kernel
theorem dX4_wind_85 : decode cX4_wind 85 = .ok (.iload_n 1, 1) := by decide +kernel
theorem dX4_wind_86 : decode cX4_wind 86 = .ok (.imul, 1) := by decide +kernel
theorem dX4_wind_87 : decode cX4_wind 87 = .ok (.iload_n 2, 1) := by decide +kernel
theorem dX4_wind_88 : decode cX4_wind 88 = .ok (.iastore, 1) := by decide +kernel
theorem dX4_wind_89 : decode cX4_wind 89 = .ok (.aload_n 0, 1) := by decide +kernel
theorem dX4_wind_90 : decode cX4_wind 90 = .ok (.getfield 7, 3) := by decide +kernel
theorem dX4_wind_93 : decode cX4_wind 93 = .ok (.iconst 2, 1) := by decide +kernel
theorem dX4_wind_94 : decode cX4_wind 94 = .ok (.iload_n 1, 1) := by decide +kernel
theorem dX4_wind_95 : decode cX4_wind 95 = .ok (.imul, 1) := by decide +kernel
theorem dX4_wind_96 : decode cX4_wind 96 = .ok (.iconst 1, 1) := by decide +kernel
theorem dX4_wind_97 : decode cX4_wind 97 = .ok (.iadd, 1) := by decide +kernel
theorem dX4_wind_98 : decode cX4_wind 98 = .ok (.iload_n 3, 1) := by decide +kernel
theorem dX4_wind_99 : decode cX4_wind 99 = .ok (.iastore, 1) := by decide +kernel
theorem dX4_wind_100 : decode cX4_wind 100 = .ok (.iload 4, 2) := by decide +kernel
theorem dX4_wind_102 : decode cX4_wind 102 = .ok (.ireturn, 1) := by decide +kernel
theorem dX4_most_0 : decode cX4_most 0 = .ok (.iload_n 0, 1) := by decide +kernel
theorem dX4_most_1 : decode cX4_most 1 = .ok (.ifCond .ne 8, 3) := by decide +kernel
theorem dX4_most_4 : decode cX4_most 4 = .ok (.bipush 7, 2) := by decide +kernel
theorem dX4_most_6 : decode cX4_most 6 = .ok (.goto 23, 3) := by decide +kernel
theorem dX4_most_9 : decode cX4_most 9 = .ok (.iload_n 0, 1) := by decide +kernel
theorem dX4_most_10 : decode cX4_most 10 = .ok (.iconst 1, 1) := by decide +kernel
theorem dX4_most_11 : decode cX4_most 11 = .ok (.if_icmp .ne 7, 3) := by decide +kernel
theorem dX4_most_14 : decode cX4_most 14 = .ok (.iconst 4, 1) := by decide +kernel
theorem dX4_most_15 : decode cX4_most 15 = .ok (.goto 14, 3) := by decide +kernel
theorem dX4_most_18 : decode cX4_most 18 = .ok (.iload_n 0, 1) := by decide +kernel
theorem dX4_most_19 : decode cX4_most 19 = .ok (.iconst 2, 1) := by decide +kernel
theorem dX4_most_20 : decode cX4_most 20 = .ok (.if_icmp .ne 8, 3) := by decide +kernel
theorem dX4_most_23 : decode cX4_most 23 = .ok (.bipush 9, 2) := by decide +kernel
theorem dX4_most_25 : decode cX4_most 25 = .ok (.goto 4, 3) := by decide +kernel
theorem dX4_most_28 : decode cX4_most 28 = .ok (.iconst 1, 1) := by decide +kernel
theorem dX4_most_29 : decode cX4_most 29 = .ok (.ireturn, 1) := by decide +kernel
theorem dX4_vane_0 : decode cX4_vane 0 = .ok (.aload_n 0, 1) := by decide +kernel
theorem dX4_vane_1 : decode cX4_vane 1 = .ok (.iload_n 1, 1) := by decide +kernel
theorem dX4_vane_2 : decode cX4_vane 2 = .ok (.iconst 0, 1) := by decide +kernel
theorem dX4_vane_3 : decode cX4_vane 3 = .ok (.iconst 5, 1) := by decide +kernel
theorem dX4_vane_4 : decode cX4_vane 4 = .ok (.invokestatic 36, 3) := by decide +kernel
theorem dX4_vane_7 : decode cX4_vane 7 = .ok (.ifCond .ne 7, 3) := by decide +kernel
theorem dX4_vane_10 : decode cX4_vane 10 = .ok (.iconst 1, 1) := by decide +kernel
theorem dX4_vane_11 : decode cX4_vane 11 = .ok (.goto 29, 3) := by decide +kernel
theorem dX4_vane_14 : decode cX4_vane 14 = .ok (.iload_n 2, 1) := by decide +kernel
theorem dX4_vane_15 : decode cX4_vane 15 = .ok (.iconst 0, 1) := by decide +kernel
theorem dX4_vane_16 : decode cX4_vane 16 = .ok (.iconst 3, 1) := by decide +kernel
theorem dX4_vane_17 : decode cX4_vane 17 = .ok (.invokestatic 36, 3) := by decide +kernel
theorem dX4_vane_20 : decode cX4_vane 20 = .ok (.ifCond .eq 19, 3) := by decide +kernel
theorem dX4_vane_23 : decode cX4_vane 23 = .ok (.iload_n 3, 1) := by decide +kernel
theorem dX4_vane_24 : decode cX4_vane 24 = .ok (.iconst 0, 1) := by decide +kernel
theorem dX4_vane_25 : decode cX4_vane 25 = .ok (.iload_n 2, 1) := by decide +kernel
theorem dX4_vane_26 : decode cX4_vane 26 = .ok (.invokestatic 85, 3) := by decide +kernel
theorem dX4_vane_29 : decode cX4_vane 29 = .ok (.invokestatic 36, 3) := by decide +kernel
theorem dX4_vane_32 : decode cX4_vane 32 = .ok (.ifCond .eq 7, 3) := by decide +kernel
theorem dX4_vane_35 : decode cX4_vane 35 = .ok (.iconst 0, 1) := by decide +kernel
theorem dX4_vane_36 : decode cX4_vane 36 = .ok (.goto 4, 3) := by decide +kernel
theorem dX4_vane_39 : decode cX4_vane 39 = .ok (.iconst 2, 1) := by decide +kernel
theorem dX4_vane_40 : decode cX4_vane 40 = .ok (.putfield 29, 3) := by decide +kernel
theorem dX4_vane_43 : decode cX4_vane 43 = .ok (.aload_n 0, 1) := by decide +kernel
theorem dX4_vane_44 : decode cX4_vane 44 = .ok (.getfield 29, 3) := by decide +kernel
theorem dX4_vane_47 : decode cX4_vane 47 = .ok (.ifCond .le 7, 3) := by decide +kernel
theorem dX4_vane_50 : decode cX4_vane 50 = .ok (.iconst 0, 1) := by decide +kernel
theorem dX4_vane_51 : decode cX4_vane 51 = .ok (.goto 16, 3) := by decide +kernel
theorem dX4_vane_54 : decode cX4_vane 54 = .ok (.aload_n 0, 1) := by decide +kernel
theorem dX4_vane_55 : decode cX4_vane 55 = .ok (.bipush 48, 2) := by decide +kernel
theorem dX4_vane_57 : decode cX4_vane 57 = .ok (.iconst 4, 1) := by decide +kernel
theorem dX4_vane_58 : decode cX4_vane 58 = .ok (.iload_n 1, 1) := by decide +kernel
theorem dX4_vane_59 : decode cX4_vane 59 = .ok (.imul, 1) := by decide +kernel
theorem dX4_vane_60 : decode cX4_vane 60 = .ok (.iadd, 1) := by decide +kernel
theorem dX4_vane_61 : decode cX4_vane 61 = .ok (.iload_n 2, 1) := by decide +kernel
theorem dX4_vane_62 : decode cX4_vane 62 = .ok (.iadd, 1) := by decide +kernel
theorem dX4_vane_63 : decode cX4_vane 63 = .ok (.iload_n 3, 1) := by decide +kernel
theorem dX4_vane_64 : decode cX4_vane 64 = .ok (.invokevirtual 88, 3) := by decide +kernel
theorem dX4_vane_67 : decode cX4_vane 67 = .ok (.ireturn, 1) := by decide +kernel
theorem dX4_mill_0 : decode cX4_mill 0 = .ok (.aload_n 0, 1) := by decide +kernel
theorem dX4_mill_1 : decode cX4_mill 1 = .ok (.iload_n 1, 1) := by decide +kernel
theorem dX4_mill_2 : decode cX4_mill 2 = .ok (.iconst 0, 1) := by decide +kernel
theorem dX4_mill_3 : decode cX4_mill 3 = .ok (.iconst 2, 1) := by decide +kernel
theorem dX4_mill_4 : decode cX4_mill 4 = .ok (.invokestatic 36, 3) := by decide +kernel
theorem dX4_mill_7 : decode cX4_mill 7 = .ok (.ifCond .ne 7, 3) := by decide +kernel
theorem dX4_mill_10 : decode cX4_mill 10 = .ok (.iconst 1, 1) := by decide +kernel
theorem dX4_mill_11 : decode cX4_mill 11 = .ok (.goto 18, 3) := by decide +kernel
theorem dX4_mill_14 : decode cX4_mill 14 = .ok (.iload_n 2, 1) := by decide +kernel
theorem dX4_mill_15 : decode cX4_mill 15 = .ok (.iconst 0, 1) := by decide +kernel
theorem dX4_mill_16 : decode cX4_mill 16 = .ok (.bipush 9, 2) := by decide +kernel
theorem dX4_mill_18 : decode cX4_mill 18 = .ok (.invokestatic 36, 3) := by decide +kernel
theorem dX4_mill_21 : decode cX4_mill 21 = .ok (.ifCond .eq 7, 3) := by decide +kernel
theorem dX4_mill_24 : decode cX4_mill 24 = .ok (.iconst 0, 1) := by decide +kernel
theorem dX4_mill_25 : decode cX4_mill 25 = .ok (.goto 4, 3) := by decide +kernel
theorem dX4_mill_28 : decode cX4_mill 28 = .ok (.iconst 2, 1) := by decide +kernel
theorem dX4_mill_29 : decode cX4_mill 29 = .ok (.putfield 29, 3) := by decide +kernel
theorem dX4_mill_32 : decode cX4_mill 32 = .ok (.aload_n 0, 1) := by decide +kernel
theorem dX4_mill_33 : decode cX4_mill 33 = .ok (.getfield 29, 3) := by decide +kernel
theorem dX4_mill_36 : decode cX4_mill 36 = .ok (.ifCond .le 7, 3) := by decide +kernel
theorem dX4_mill_39 : decode cX4_mill 39 = .ok (.iconst 0, 1) := by decide +kernel
theorem dX4_mill_40 : decode cX4_mill 40 = .ok (.goto 17, 3) := by decide +kernel
theorem dX4_mill_43 : decode cX4_mill 43 = .ok (.aload_n 0, 1) := by decide +kernel
theorem dX4_mill_44 : decode cX4_mill 44 = .ok (.bipush 74, 2) := by decide +kernel
theorem dX4_mill_46 : decode cX4_mill 46 = .ok (.bipush 19, 2) := by decide +kernel
theorem dX4_mill_48 : decode cX4_mill 48 = .ok (.iload_n 1, 1) := by decide +kernel
theorem dX4_mill_49 : decode cX4_mill 49 = .ok (.imul, 1) := by decide +kernel
theorem dX4_mill_50 : decode cX4_mill 50 = .ok (.iadd, 1) := by decide +kernel
theorem dX4_mill_51 : decode cX4_mill 51 = .ok (.iconst 0, 1) := by decide +kernel
theorem dX4_mill_52 : decode cX4_mill 52 = .ok (.iadd, 1) := by decide +kernel
theorem dX4_mill_53 : decode cX4_mill 53 = .ok (.iload_n 2, 1) := by decide +kernel
theorem dX4_mill_54 : decode cX4_mill 54 = .ok (.invokevirtual 88, 3) := by decide +kernel
theorem dX4_mill_57 : decode cX4_mill 57 = .ok (.ireturn, 1) := by decide +kernel
theorem dX4_set_0 : decode cX4_set 0 = .ok (.aload_n 0, 1) := by decide +kernel
theorem dX4_set_1 : decode cX4_set 1 = .ok (.iload_n 1, 1) := by decide +kernel
theorem dX4_set_2 : decode cX4_set 2 = .ok (.iconst 0, 1) := by decide +kernel
theorem dX4_set_3 : decode cX4_set 3 = .ok (.iconst 1, 1) := by decide +kernel
theorem dX4_set_4 : decode cX4_set 4 = .ok (.invokestatic 36, 3) := by decide +kernel
theorem dX4_set_7 : decode cX4_set 7 = .ok (.ifCond .ne 7, 3) := by decide +kernel
theorem dX4_set_10 : decode cX4_set 10 = .ok (.iconst 1, 1) := by decide +kernel
theorem dX4_set_11 : decode cX4_set 11 = .ok (.goto 28, 3) := by decide +kernel
theorem dX4_set_14 : decode cX4_set 14 = .ok (.iload_n 2, 1) := by decide +kernel
theorem dX4_set_15 : decode cX4_set 15 = .ok (.iconst 1, 1) := by decide +kernel
theorem dX4_set_16 : decode cX4_set 16 = .ok (.iload_n 1, 1) := by decide +kernel
theorem dX4_set_17 : decode cX4_set 17 = .ok (.isub, 1) := by decide +kernel
theorem dX4_set_18 : decode cX4_set 18 = .ok (.iload_n 1, 1) := by decide +kernel
theorem dX4_set_19 : decode cX4_set 19 = .ok (.ifCond .ne 8, 3) := by decide +kernel
theorem dX4_set_22 : decode cX4_set 22 = .ok (.bipush 6, 2) := by decide +kernel
theorem dX4_set_24 : decode cX4_set 24 = .ok (.goto 4, 3) := by decide +kernel
theorem dX4_set_27 : decode cX4_set 27 = .ok (.iconst 1, 1) := by decide +kernel
theorem dX4_set_28 : decode cX4_set 28 = .ok (.invokestatic 36, 3) := by decide +kernel
theorem dX4_set_31 : decode cX4_set 31 = .ok (.ifCond .eq 7, 3) := by decide +kernel
theorem dX4_set_34 : decode cX4_set 34 = .ok (.iconst 0, 1) := by decide +kernel
theorem dX4_set_35 : decode cX4_set 35 = .ok (.goto 4, 3) := by decide +kernel
theorem dX4_set_38 : decode cX4_set 38 = .ok (.iconst 2, 1) := by decide +kernel
theorem dX4_set_39 : decode cX4_set 39 = .ok (.putfield 29, 3) := by decide +kernel
theorem dX4_set_42 : decode cX4_set 42 = .ok (.aload_n 0, 1) := by decide +kernel
theorem dX4_set_43 : decode cX4_set 43 = .ok (.getfield 29, 3) := by decide +kernel
theorem dX4_set_46 : decode cX4_set 46 = .ok (.ifCond .le 7, 3) := by decide +kernel
theorem dX4_set_49 : decode cX4_set 49 = .ok (.iconst 0, 1) := by decide +kernel
theorem dX4_set_50 : decode cX4_set 50 = .ok (.goto 12, 3) := by decide +kernel
theorem dX4_set_53 : decode cX4_set 53 = .ok (.aload_n 0, 1) := by decide +kernel
theorem dX4_set_54 : decode cX4_set 54 = .ok (.bipush 72, 2) := by decide +kernel
theorem dX4_set_56 : decode cX4_set 56 = .ok (.iload_n 1, 1) := by decide +kernel
theorem dX4_set_57 : decode cX4_set 57 = .ok (.iadd, 1) := by decide +kernel
theorem dX4_set_58 : decode cX4_set 58 = .ok (.iload_n 2, 1) := by decide +kernel
theorem dX4_set_59 : decode cX4_set 59 = .ok (.invokevirtual 88, 3) := by decide +kernel
theorem dX4_set_62 : decode cX4_set 62 = .ok (.ireturn, 1) := by decide +kernel
theorem dX4_bring_0 : decode cX4_bring 0 = .ok (.aload_n 0, 1) := by decide +kernel
theorem dX4_bring_1 : decode cX4_bring 1 = .ok (.iload_n 1, 1) := by decide +kernel
theorem dX4_bring_2 : decode cX4_bring 2 = .ok (.iconst 0, 1) := by decide +kernel
theorem dX4_bring_3 : decode cX4_bring 3 = .ok (.iconst 4, 1) := by decide +kernel
theorem dX4_bring_4 : decode cX4_bring 4 = .ok (.invokestatic 36, 3) := by decide +kernel
theorem dX4_bring_7 : decode cX4_bring 7 = .ok (.ifCond .eq 12, 3) := by decide +kernel
theorem dX4_bring_10 : decode cX4_bring 10 = .ok (.iload_n 2, 1) := by decide +kernel
theorem dX4_bring_11 : decode cX4_bring 11 = .ok (.iconst 0, 1) := by decide +kernel
theorem dX4_bring_12 : decode cX4_bring 12 = .ok (.iconst 2, 1) := by decide +kernel
theorem dX4_bring_13 : decode cX4_bring 13 = .ok (.invokestatic 36, 3) := by decide +kernel
theorem dX4_bring_16 : decode cX4_bring 16 = .ok (.ifCond .ne 7, 3) := by decide +kernel
theorem dX4_bring_19 : decode cX4_bring 19 = .ok (.iconst 1, 1) := by decide +kernel
theorem dX4_bring_20 : decode cX4_bring 20 = .ok (.goto 18, 3) := by decide +kernel
theorem dX4_bring_23 : decode cX4_bring 23 = .ok (.iload_n 3, 1) := by decide +kernel
theorem dX4_bring_24 : decode cX4_bring 24 = .ok (.iconst 1, 1) := by decide +kernel
theorem dX4_bring_25 : decode cX4_bring 25 = .ok (.bipush 99, 2) := by decide +kernel
theorem dX4_bring_27 : decode cX4_bring 27 = .ok (.invokestatic 36, 3) := by decide +kernel
theorem dX4_bring_30 : decode cX4_bring 30 = .ok (.ifCond .eq 7, 3) := by decide +kernel
theorem dX4_bring_33 : decode cX4_bring 33 = .ok (.iconst 0, 1) := by decide +kernel
theorem dX4_bring_34 : decode cX4_bring 34 = .ok (.goto 4, 3) := by decide +kernel
theorem dX4_bring_37 : decode cX4_bring 37 = .ok (.iconst 2, 1) := by decide +kernel
theorem dX4_bring_38 : decode cX4_bring 38 = .ok (.putfield 29, 3) := by decide +kernel
theorem dX4_bring_41 : decode cX4_bring 41 = .ok (.aload_n 0, 1) := by decide +kernel
theorem dX4_bring_42 : decode cX4_bring 42 = .ok (.getfield 29, 3) := by decide +kernel
theorem dX4_bring_45 : decode cX4_bring 45 = .ok (.ifCond .le 5, 3) := by decide +kernel
theorem dX4_bring_48 : decode cX4_bring 48 = .ok (.iconst 0, 1) := by decide +kernel
theorem dX4_bring_49 : decode cX4_bring 49 = .ok (.ireturn, 1) := by decide +kernel
theorem dX4_bring_50 : decode cX4_bring 50 = .ok (.aload_n 0, 1) := by decide +kernel
theorem dX4_bring_51 : decode cX4_bring 51 = .ok (.invokevirtual 40, 3) := by decide +kernel
theorem dX4_bring_54 : decode cX4_bring 54 = .ok (.aload_n 0, 1) := by decide +kernel
theorem dX4_bring_55 : decode cX4_bring 55 = .ok (.iload_n 2, 1) := by decide +kernel
theorem dX4_bring_56 : decode cX4_bring 56 = .ok (.iconst 1, 1) := by decide +kernel
theorem dX4_bring_57 : decode cX4_bring 57 = .ok (.invokevirtual 62, 3) := by decide +kernel
theorem dX4_bring_60 : decode cX4_bring 60 = .ok (.bipush 8, 2) := by decide +kernel
theorem dX4_bring_62 : decode cX4_bring 62 = .ok (.if_icmp .ne 17, 3) := by decide +kernel
theorem dX4_bring_65 : decode cX4_bring 65 = .ok (.aload_n 0, 1) := by decide +kernel
theorem dX4_bring_66 : decode cX4_bring 66 = .ok (.getfield 7, 3) := by decide +kernel
theorem dX4_bring_69 : decode cX4_bring 69 = .ok (.sipush 149, 3) := by decide +kernel
theorem dX4_bring_72 : decode cX4_bring 72 = .ok (.dup2, 1) := by decide +kernel
theorem dX4_bring_73 : decode cX4_bring 73 = .ok (.iaload, 1) := by decide +kernel
theorem dX4_bring_74 : decode cX4_bring 74 = .ok (.iconst 1, 1) := by decide +kernel
theorem dX4_bring_75 : decode cX4_bring 75 = .ok (.iadd, 1) := by decide +kernel
theorem dX4_bring_76 : decode cX4_bring 76 = .ok (.iastore, 1) := by decide +kernel
theorem dX4_bring_77 : decode cX4_bring 77 = .ok (.iconst (-1), 1) := by decide +kernel
theorem dX4_bring_78 : decode cX4_bring 78 = .ok (.ireturn, 1) := by decide +kernel
theorem dX4_bring_79 : decode cX4_bring 79 = .ok (.bipush 74, 2) := by decide +kernel
theorem dX4_bring_81 : decode cX4_bring 81 = .ok (.bipush 19, 2) := by decide +kernel
theorem dX4_bring_83 : decode cX4_bring 83 = .ok (.iload_n 2, 1) := by decide +kernel
theorem dX4_bring_84 : decode cX4_bring 84 = .ok (.imul, 1) := by decide +kernel
theorem dX4_bring_85 : decode cX4_bring 85 = .ok (.iadd, 1) := by decide +kernel
theorem dX4_bring_86 : decode cX4_bring 86 = .ok (.iconst 3, 1) := by decide +kernel
theorem dX4_bring_87 : decode cX4_bring 87 = .ok (.iadd, 1) := by decide +kernel
theorem dX4_bring_88 : decode cX4_bring 88 = .ok (.iconst 2, 1) := by decide +kernel
theorem dX4_bring_89 : decode cX4_bring 89 = .ok (.aload_n 0, 1) := by decide +kernel
theorem dX4_bring_90 : decode cX4_bring 90 = .ok (.iload_n 2, 1) := by decide +kernel
theorem dX4_bring_91 : decode cX4_bring 91 = .ok (.iconst 1, 1) := by decide +kernel
theorem dX4_bring_92 : decode cX4_bring 92 = .ok (.invokevirtual 62, 3) := by decide +kernel
theorem dX4_bring_95 : decode cX4_bring 95 = .ok (.imul, 1) := by decide +kernel
theorem dX4_bring_96 : decode cX4_bring 96 = .ok (.iadd, 1) := by decide +kernel
theorem dX4_bring_97 : decode cX4_bring 97 = .ok (.istore 4, 2) := by decide +kernel
theorem dX4_bring_99 : decode cX4_bring 99 = .ok (.aload_n 0, 1) := by decide +kernel
theorem dX4_bring_100 : decode cX4_bring 100 = .ok (.getfield 7, 3) := by decide +kernel
theorem dX4_bring_103 : decode cX4_bring 103 = .ok (.iload 4, 2) := by decide +kernel
theorem dX4_bring_105 : decode cX4_bring 105 = .ok (.iload_n 1, 1) := by decide +kernel
theorem dX4_bring_106 : decode cX4_bring 106 = .ok (.iastore, 1) := by decide +kernel
theorem dX4_bring_107 : decode cX4_bring 107 = .ok (.aload_n 0, 1) := by decide +kernel
theorem dX4_bring_108 : decode cX4_bring 108 = .ok (.getfield 7, 3) := by decide +kernel
theorem dX4_bring_111 : decode cX4_bring 111 = .ok (.iload 4, 2) := by decide +kernel
theorem dX4_bring_113 : decode cX4_bring 113 = .ok (.iconst 1, 1) := by decide +kernel
theorem dX4_bring_114 : decode cX4_bring 114 = .ok (.iadd, 1) := by decide +kernel
theorem dX4_bring_115 : decode cX4_bring 115 = .ok (.iload_n 3, 1) := by decide +kernel
theorem dX4_bring_116 : decode cX4_bring 116 = .ok (.iastore, 1) := by decide +kernel
theorem dX4_bring_117 : decode cX4_bring 117 = .ok (.aload_n 0, 1) := by decide +kernel
theorem dX4_bring_118 : decode cX4_bring 118 = .ok (.iload_n 2, 1) := by decide +kernel
theorem dX4_bring_119 : decode cX4_bring 119 = .ok (.iconst 1, 1) := by decide +kernel
theorem dX4_bring_120 : decode cX4_bring 120 = .ok (.iconst 1, 1) := by decide +kernel
theorem dX4_bring_121 : decode cX4_bring 121 = .ok (.invokevirtual 68, 3) := by decide +kernel
theorem dX4_bring_124 : decode cX4_bring 124 = .ok (.aload_n 0, 1) := by decide +kernel
theorem dX4_bring_125 : decode cX4_bring 125 = .ok (.iload_n 1, 1) := by decide +kernel
theorem dX4_bring_126 : decode cX4_bring 126 = .ok (.iconst 1, 1) := by decide +kernel
theorem dX4_bring_127 : decode cX4_bring 127 = .ok (.iload_n 3, 1) := by decide +kernel
theorem dX4_bring_128 : decode cX4_bring 128 = .ok (.invokevirtual 72, 3) := by decide +kernel
theorem dX4_bring_131 : decode cX4_bring 131 = .ok (.aload_n 0, 1) := by decide +kernel
theorem dX4_bring_132 : decode cX4_bring 132 = .ok (.iload_n 2, 1) := by decide +kernel
theorem dX4_bring_133 : decode cX4_bring 133 = .ok (.invokevirtual 91, 3) := by decide +kernel
theorem dX4_bring_136 : decode cX4_bring 136 = .ok (.ireturn, 1) := by decide +kernel
theorem dX4_takeBack_0 : decode cX4_takeBack 0 = .ok (.aload_n 0, 1) := by decide +kernel
theorem dX4_takeBack_1 : decode cX4_takeBack 1 = .ok (.iload_n 1, 1) := by decide +kernel
theorem dX4_takeBack_2 : decode cX4_takeBack 2 = .ok (.iconst 0, 1) := by decide +kernel
theorem dX4_takeBack_3 : decode cX4_takeBack 3 = .ok (.iconst 2, 1) := by decide +kernel
theorem dX4_takeBack_4 : decode cX4_takeBack 4 = .ok (.invokestatic 36, 3) := by decide +kernel
theorem dX4_takeBack_7 : decode cX4_takeBack 7 = .ok (.ifCond .eq 7, 3) := by decide +kernel
theorem dX4_takeBack_10 : decode cX4_takeBack 10 = .ok (.iconst 0, 1) := by decide +kernel
theorem dX4_takeBack_11 : decode cX4_takeBack 11 = .ok (.goto 4, 3) := by decide +kernel
theorem dX4_takeBack_14 : decode cX4_takeBack 14 = .ok (.iconst 1, 1) := by decide +kernel
theorem dX4_takeBack_15 : decode cX4_takeBack 15 = .ok (.putfield 29, 3) := by decide +kernel
theorem dX4_takeBack_18 : decode cX4_takeBack 18 = .ok (.aload_n 0, 1) := by decide +kernel
theorem dX4_takeBack_19 : decode cX4_takeBack 19 = .ok (.getfield 29, 3) := by decide +kernel
theorem dX4_takeBack_22 : decode cX4_takeBack 22 = .ok (.ifCond .le 5, 3) := by decide +kernel
theorem dX4_takeBack_25 : decode cX4_takeBack 25 = .ok (.iconst 0, 1) := by decide +kernel
theorem dX4_takeBack_26 : decode cX4_takeBack 26 = .ok (.ireturn, 1) := by decide +kernel
theorem dX4_takeBack_27 : decode cX4_takeBack 27 = .ok (.aload_n 0, 1) := by decide +kernel
theorem dX4_takeBack_28 : decode cX4_takeBack 28 = .ok (.invokevirtual 40, 3) := by decide +kernel
theorem dX4_takeBack_31 : decode cX4_takeBack 31 = .ok (.aload_n 0, 1) := by decide +kernel
theorem dX4_takeBack_32 : decode cX4_takeBack 32 = .ok (.iload_n 1, 1) := by decide +kernel
theorem dX4_takeBack_33 : decode cX4_takeBack 33 = .ok (.iconst 1, 1) := by decide +kernel
theorem dX4_takeBack_34 : decode cX4_takeBack 34 = .ok (.invokevirtual 62, 3) := by decide +kernel
theorem dX4_takeBack_37 : decode cX4_takeBack 37 = .ok (.ifCond .ne 17, 3) := by decide +kernel
theorem dX4_takeBack_40 : decode cX4_takeBack 40 = .ok (.aload_n 0, 1) := by decide +kernel
theorem dX4_takeBack_41 : decode cX4_takeBack 41 = .ok (.getfield 7, 3) := by decide +kernel
theorem dX4_takeBack_44 : decode cX4_takeBack 44 = .ok (.sipush 149, 3) := by decide +kernel
theorem dX4_takeBack_47 : decode cX4_takeBack 47 = .ok (.dup2, 1) := by decide +kernel
theorem dX4_takeBack_48 : decode cX4_takeBack 48 = .ok (.iaload, 1) := by decide +kernel
theorem dX4_takeBack_49 : decode cX4_takeBack 49 = .ok (.iconst 1, 1) := by decide +kernel
theorem dX4_takeBack_50 : decode cX4_takeBack 50 = .ok (.iadd, 1) := by decide +kernel
theorem dX4_takeBack_51 : decode cX4_takeBack 51 = .ok (.iastore, 1) := by decide +kernel
theorem dX4_takeBack_52 : decode cX4_takeBack 52 = .ok (.iconst (-1), 1) := by decide +kernel
theorem dX4_takeBack_53 : decode cX4_takeBack 53 = .ok (.ireturn, 1) := by decide +kernel
theorem dX4_takeBack_54 : decode cX4_takeBack 54 = .ok (.aload_n 0, 1) := by decide +kernel
theorem dX4_takeBack_55 : decode cX4_takeBack 55 = .ok (.iload_n 1, 1) := by decide +kernel
theorem dX4_takeBack_56 : decode cX4_takeBack 56 = .ok (.iconst 1, 1) := by decide +kernel
theorem dX4_takeBack_57 : decode cX4_takeBack 57 = .ok (.iconst (-1), 1) := by decide +kernel
theorem dX4_takeBack_58 : decode cX4_takeBack 58 = .ok (.invokevirtual 68, 3) := by decide +kernel
theorem dX4_takeBack_61 : decode cX4_takeBack 61 = .ok (.iconst 3, 1) := by decide +kernel
theorem dX4_takeBack_62 : decode cX4_takeBack 62 = .ok (.iconst 2, 1) := by decide +kernel
theorem dX4_takeBack_63 : decode cX4_takeBack 63 = .ok (.aload_n 0, 1) := by decide +kernel
theorem dX4_takeBack_64 : decode cX4_takeBack 64 = .ok (.iload_n 1, 1) := by decide +kernel
theorem dX4_takeBack_65 : decode cX4_takeBack 65 = .ok (.iconst 1, 1) := by decide +kernel
theorem dX4_takeBack_66 : decode cX4_takeBack 66 = .ok (.invokevirtual 62, 3) := by decide +kernel
theorem dX4_takeBack_69 : decode cX4_takeBack 69 = .ok (.imul, 1) := by decide +kernel
theorem dX4_takeBack_70 : decode cX4_takeBack 70 = .ok (.iadd, 1) := by decide +kernel
theorem dX4_takeBack_71 : decode cX4_takeBack 71 = .ok (.istore_n 2, 1) := by decide +kernel
theorem dX4_takeBack_72 : decode cX4_takeBack 72 = .ok (.aload_n 0, 1) := by decide +kernel
theorem dX4_takeBack_73 : decode cX4_takeBack 73 = .ok (.aload_n 0, 1) := by decide +kernel
theorem dX4_takeBack_74 : decode cX4_takeBack 74 = .ok (.iload_n 1, 1) := by decide +kernel
theorem dX4_takeBack_75 : decode cX4_takeBack 75 = .ok (.iload_n 2, 1) := by decide +kernel
theorem dX4_takeBack_76 : decode cX4_takeBack 76 = .ok (.invokevirtual 62, 3) := by decide +kernel
theorem dX4_takeBack_79 : decode cX4_takeBack 79 = .ok (.iconst 2, 1) := by decide +kernel
theorem dX4_takeBack_80 : decode cX4_takeBack 80 = .ok (.aload_n 0, 1) := by decide +kernel
theorem dX4_takeBack_81 : decode cX4_takeBack 81 = .ok (.iload_n 1, 1) := by decide +kernel
theorem dX4_takeBack_82 : decode cX4_takeBack 82 = .ok (.iload_n 2, 1) := by decide +kernel
theorem dX4_takeBack_83 : decode cX4_takeBack 83 = .ok (.iconst 1, 1) := by decide +kernel
theorem dX4_takeBack_84 : decode cX4_takeBack 84 = .ok (.iadd, 1) := by decide +kernel
theorem dX4_takeBack_85 : decode cX4_takeBack 85 = .ok (.invokevirtual 62, 3) := by decide +kernel
theorem dX4_takeBack_88 : decode cX4_takeBack 88 = .ok (.invokevirtual 72, 3) := by decide +kernel
theorem dX4_takeBack_91 : decode cX4_takeBack 91 = .ok (.aload_n 0, 1) := by decide +kernel
theorem dX4_takeBack_92 : decode cX4_takeBack 92 = .ok (.iload_n 1, 1) := by decide +kernel
theorem dX4_takeBack_93 : decode cX4_takeBack 93 = .ok (.iload_n 2, 1) := by decide +kernel
theorem dX4_takeBack_94 : decode cX4_takeBack 94 = .ok (.iconst 1, 1) := by decide +kernel
theorem dX4_takeBack_95 : decode cX4_takeBack 95 = .ok (.iadd, 1) := by decide +kernel
theorem dX4_takeBack_96 : decode cX4_takeBack 96 = .ok (.invokevirtual 62, 3) := by decide +kernel
theorem dX4_takeBack_99 : decode cX4_takeBack 99 = .ok (.ireturn, 1) := by decide +kernel
theorem dX4_pass_0 : decode cX4_pass 0 = .ok (.aload_n 0, 1) := by decide +kernel
theorem dX4_pass_1 : decode cX4_pass 1 = .ok (.iload_n 1, 1) := by decide +kernel
theorem dX4_pass_2 : decode cX4_pass 2 = .ok (.iconst 1, 1) := by decide +kernel
theorem dX4_pass_3 : decode cX4_pass 3 = .ok (.bipush 99, 2) := by decide +kernel
theorem dX4_pass_5 : decode cX4_pass 5 = .ok (.invokestatic 36, 3) := by decide +kernel
theorem dX4_pass_8 : decode cX4_pass 8 = .ok (.ifCond .ne 7, 3) := by decide +kernel
theorem dX4_pass_11 : decode cX4_pass 11 = .ok (.iconst 1, 1) := by decide +kernel
theorem dX4_pass_12 : decode cX4_pass 12 = .ok (.goto 23, 3) := by decide +kernel
theorem dX4_pass_15 : decode cX4_pass 15 = .ok (.aload_n 0, 1) := by decide +kernel
theorem dX4_pass_16 : decode cX4_pass 16 = .ok (.getfield 7, 3) := by decide +kernel
theorem dX4_pass_19 : decode cX4_pass 19 = .ok (.sipush 147, 3) := by decide +kernel
theorem dX4_pass_22 : decode cX4_pass 22 = .ok (.iaload, 1) := by decide +kernel
theorem dX4_pass_23 : decode cX4_pass 23 = .ok (.iload_n 1, 1) := by decide +kernel
theorem dX4_pass_24 : decode cX4_pass 24 = .ok (.iadd, 1) := by decide +kernel
theorem dX4_pass_25 : decode cX4_pass 25 = .ok (.ldc 94, 2) := by decide +kernel
theorem dX4_pass_27 : decode cX4_pass 27 = .ok (.if_icmp .le 7, 3) := by decide +kernel
theorem dX4_pass_30 : decode cX4_pass 30 = .ok (.iconst 2, 1) := by decide +kernel
theorem dX4_pass_31 : decode cX4_pass 31 = .ok (.goto 4, 3) := by decide +kernel
theorem dX4_pass_34 : decode cX4_pass 34 = .ok (.iconst 0, 1) := by decide +kernel
theorem dX4_pass_35 : decode cX4_pass 35 = .ok (.putfield 29, 3) := by decide +kernel
theorem dX4_pass_38 : decode cX4_pass 38 = .ok (.aload_n 0, 1) := by decide +kernel
theorem dX4_pass_39 : decode cX4_pass 39 = .ok (.getfield 29, 3) := by decide +kernel
theorem dX4_pass_42 : decode cX4_pass 42 = .ok (.ifCond .le 5, 3) := by decide +kernel
theorem dX4_pass_45 : decode cX4_pass 45 = .ok (.iconst 0, 1) := by decide +kernel
theorem dX4_pass_46 : decode cX4_pass 46 = .ok (.ireturn, 1) := by decide +kernel
theorem dX4_pass_47 : decode cX4_pass 47 = .ok (.aload_n 0, 1) := by decide +kernel
theorem dX4_pass_48 : decode cX4_pass 48 = .ok (.invokevirtual 40, 3) := by decide +kernel
theorem dX4_pass_51 : decode cX4_pass 51 = .ok (.aload_n 0, 1) := by decide +kernel
theorem dX4_pass_52 : decode cX4_pass 52 = .ok (.iload_n 1, 1) := by decide +kernel
theorem dX4_pass_53 : decode cX4_pass 53 = .ok (.invokevirtual 95, 3) := by decide +kernel
theorem dX4_pass_56 : decode cX4_pass 56 = .ok (.ireturn, 1) := by decide +kernel
theorem dX4_append_0 : decode cX4_append 0 = .ok (.aload_n 0, 1) := by decide +kernel
theorem dX4_append_1 : decode cX4_append 1 = .ok (.iload_n 1, 1) := by decide +kernel
theorem dX4_append_2 : decode cX4_append 2 = .ok (.bipush 33, 2) := by decide +kernel
theorem dX4_append_4 : decode cX4_append 4 = .ok (.bipush 126, 2) := by decide +kernel
theorem dX4_append_6 : decode cX4_append 6 = .ok (.invokestatic 36, 3) := by decide +kernel
theorem dX4_append_9 : decode cX4_append 9 = .ok (.ifCond .ne 7, 3) := by decide +kernel
theorem dX4_append_12 : decode cX4_append 12 = .ok (.iconst 1, 1) := by decide +kernel
theorem dX4_append_13 : decode cX4_append 13 = .ok (.goto 17, 3) := by decide +kernel
theorem dX4_append_16 : decode cX4_append 16 = .ok (.aload_n 0, 1) := by decide +kernel
theorem dX4_append_17 : decode cX4_append 17 = .ok (.getfield 98, 3) := by decide +kernel
theorem dX4_append_20 : decode cX4_append 20 = .ok (.bipush 60, 2) := by decide +kernel
theorem dX4_append_22 : decode cX4_append 22 = .ok (.if_icmp .ne 7, 3) := by decide +kernel
theorem dX4_append_25 : decode cX4_append 25 = .ok (.iconst 2, 1) := by decide +kernel
theorem dX4_append_26 : decode cX4_append 26 = .ok (.goto 4, 3) := by decide +kernel
theorem dX4_append_29 : decode cX4_append 29 = .ok (.iconst 0, 1) := by decide +kernel
theorem dX4_append_30 : decode cX4_append 30 = .ok (.putfield 29, 3) := by decide +kernel
theorem dX4_append_33 : decode cX4_append 33 = .ok (.aload_n 0, 1) := by decide +kernel
theorem dX4_append_34 : decode cX4_append 34 = .ok (.getfield 29, 3) := by decide +kernel
theorem dX4_append_37 : decode cX4_append 37 = .ok (.ifCond .le 5, 3) := by decide +kernel
theorem dX4_append_40 : decode cX4_append 40 = .ok (.iconst 0, 1) := by decide +kernel
theorem dX4_append_41 : decode cX4_append 41 = .ok (.ireturn, 1) := by decide +kernel
theorem dX4_append_42 : decode cX4_append 42 = .ok (.aload_n 0, 1) := by decide +kernel
theorem dX4_append_43 : decode cX4_append 43 = .ok (.getfield 26, 3) := by decide +kernel
theorem dX4_append_46 : decode cX4_append 46 = .ok (.aload_n 0, 1) := by decide +kernel
theorem dX4_append_47 : decode cX4_append 47 = .ok (.getfield 98, 3) := by decide +kernel
theorem dX4_append_50 : decode cX4_append 50 = .ok (.iload_n 1, 1) := by decide +kernel
theorem dX4_append_51 : decode cX4_append 51 = .ok (.iastore, 1) := by decide +kernel
theorem dX4_append_52 : decode cX4_append 52 = .ok (.aload_n 0, 1) := by decide +kernel
theorem dX4_append_53 : decode cX4_append 53 = .ok (.dup, 1) := by decide +kernel
theorem dX4_append_54 : decode cX4_append 54 = .ok (.getfield 98, 3) := by decide +kernel
theorem dX4_append_57 : decode cX4_append 57 = .ok (.iconst 1, 1) := by decide +kernel
theorem dX4_append_58 : decode cX4_append 58 = .ok (.iadd, 1) := by decide +kernel
theorem dX4_append_59 : decode cX4_append 59 = .ok (.putfield 98, 3) := by decide +kernel
theorem dX4_append_62 : decode cX4_append 62 = .ok (.aload_n 0, 1) := by decide +kernel
theorem dX4_append_63 : decode cX4_append 63 = .ok (.getfield 98, 3) := by decide +kernel
theorem dX4_append_66 : decode cX4_append 66 = .ok (.ireturn, 1) := by decide +kernel
theorem dX4_clearBuffer_0 : decode cX4_clearBuffer 0 = .ok (.aload_n 0, 1) := by decide +kernel
theorem dX4_clearBuffer_1 : decode cX4_clearBuffer 1 = .ok (.iconst 0, 1) := by decide +kernel
theorem dX4_clearBuffer_2 : decode cX4_clearBuffer 2 = .ok (.putfield 29, 3) := by decide +kernel
theorem dX4_clearBuffer_5 : decode cX4_clearBuffer 5 = .ok (.aload_n 0, 1) := by decide +kernel
theorem dX4_clearBuffer_6 : decode cX4_clearBuffer 6 = .ok (.getfield 98, 3) := by decide +kernel
theorem dX4_clearBuffer_9 : decode cX4_clearBuffer 9 = .ok (.istore_n 1, 1) := by decide +kernel
theorem dX4_clearBuffer_10 : decode cX4_clearBuffer 10 = .ok (.aload_n 0, 1) := by decide +kernel
theorem dX4_clearBuffer_11 : decode cX4_clearBuffer 11 = .ok (.iconst 0, 1) := by decide +kernel
theorem dX4_clearBuffer_12 : decode cX4_clearBuffer 12 = .ok (.putfield 98, 3) := by decide +kernel
theorem dX4_clearBuffer_15 : decode cX4_clearBuffer 15 = .ok (.iload_n 1, 1) := by decide +kernel
theorem dX4_clearBuffer_16 : decode cX4_clearBuffer 16 = .ok (.ireturn, 1) := by decide +kernel
theorem dX4_at_0 : decode cX4_at 0 = .ok (.iload_n 1, 1) := by decide +kernel
theorem dX4_at_1 : decode cX4_at 1 = .ok (.aload_n 0, 1) := by decide +kernel
theorem dX4_at_2 : decode cX4_at 2 = .ok (.getfield 98, 3) := by decide +kernel
theorem dX4_at_5 : decode cX4_at 5 = .ok (.if_icmp .ge 12, 3) := by decide +kernel
theorem dX4_at_8 : decode cX4_at 8 = .ok (.aload_n 0, 1) := by decide +kernel
theorem dX4_at_9 : decode cX4_at 9 = .ok (.getfield 26, 3) := by decide +kernel
theorem dX4_at_12 : decode cX4_at 12 = .ok (.iload_n 1, 1) := by decide +kernel
theorem dX4_at_13 : decode cX4_at 13 = .ok (.iaload, 1) := by decide +kernel
theorem dX4_at_14 : decode cX4_at 14 = .ok (.goto 4, 3) := by decide +kernel
theorem dX4_at_17 : decode cX4_at 17 = .ok (.iconst 0, 1) := by decide +kernel
theorem dX4_at_18 : decode cX4_at 18 = .ok (.ireturn, 1) := by decide +kernel
theorem dX4_readWind_0 : decode cX4_readWind 0 = .ok (.iload_n 1, 1) := by decide +kernel
theorem dX4_readWind_1 : decode cX4_readWind 1 = .ok (.iconst 1, 1) := by decide +kernel
theorem dX4_readWind_2 : decode cX4_readWind 2 = .ok (.iadd, 1) := by decide +kernel
theorem dX4_readWind_3 : decode cX4_readWind 3 = .ok (.istore_n 2, 1) := by decide +kernel
theorem dX4_readWind_4 : decode cX4_readWind 4 = .ok (.aload_n 0, 1) := by decide +kernel
theorem dX4_readWind_5 : decode cX4_readWind 5 = .ok (.aload_n 0, 1) := by decide +kernel
theorem dX4_readWind_6 : decode cX4_readWind 6 = .ok (.iload_n 1, 1) := by decide +kernel
theorem dX4_readWind_7 : decode cX4_readWind 7 = .ok (.invokevirtual 101, 3) := by decide +kernel
theorem dX4_readWind_10 : decode cX4_readWind 10 = .ok (.bipush 48, 2) := by decide +kernel
theorem dX4_readWind_12 : decode cX4_readWind 12 = .ok (.isub, 1) := by decide +kernel
theorem dX4_readWind_13 : decode cX4_readWind 13 = .ok (.putfield 104, 3) := by decide +kernel
theorem dX4_readWind_16 : decode cX4_readWind 16 = .ok (.aload_n 0, 1) := by decide +kernel
theorem dX4_readWind_17 : decode cX4_readWind 17 = .ok (.getfield 104, 3) := by decide +kernel
theorem dX4_readWind_20 : decode cX4_readWind 20 = .ok (.iconst 0, 1) := by decide +kernel
theorem dX4_readWind_21 : decode cX4_readWind 21 = .ok (.bipush 9, 2) := by decide +kernel
theorem dX4_readWind_23 : decode cX4_readWind 23 = .ok (.invokestatic 36, 3) := by decide +kernel
theorem dX4_readWind_26 : decode cX4_readWind 26 = .ok (.ifCond .ne 7, 3) := by decide +kernel
theorem dX4_readWind_29 : decode cX4_readWind 29 = .ok (.iconst (-1), 1) := by decide +kernel
theorem dX4_readWind_30 : decode cX4_readWind 30 = .ok (.iload_n 1, 1) := by decide +kernel
theorem dX4_readWind_31 : decode cX4_readWind 31 = .ok (.isub, 1) := by decide +kernel
theorem dX4_readWind_32 : decode cX4_readWind 32 = .ok (.ireturn, 1) := by decide +kernel
theorem dX4_readWind_33 : decode cX4_readWind 33 = .ok (.aload_n 0, 1) := by decide +kernel
theorem dX4_readWind_34 : decode cX4_readWind 34 = .ok (.getfield 104, 3) := by decide +kernel
theorem dX4_readWind_37 : decode cX4_readWind 37 = .ok (.ifCond .le 62, 3) := by decide +kernel
theorem dX4_readWind_40 : decode cX4_readWind 40 = .ok (.aload_n 0, 1) := by decide +kernel
theorem dX4_readWind_41 : decode cX4_readWind 41 = .ok (.iload_n 2, 1) := by decide +kernel
theorem dX4_readWind_42 : decode cX4_readWind 42 = .ok (.invokevirtual 101, 3) := by decide +kernel
theorem dX4_readWind_45 : decode cX4_readWind 45 = .ok (.bipush 48, 2) := by decide +kernel
theorem dX4_readWind_47 : decode cX4_readWind 47 = .ok (.bipush 57, 2) := by decide +kernel
theorem dX4_readWind_49 : decode cX4_readWind 49 = .ok (.invokestatic 36, 3) := by decide +kernel
theorem dX4_readWind_52 : decode cX4_readWind 52 = .ok (.ifCond .eq 47, 3) := by decide +kernel
theorem dX4_readWind_55 : decode cX4_readWind 55 = .ok (.bipush 10, 2) := by decide +kernel
theorem dX4_readWind_57 : decode cX4_readWind 57 = .ok (.aload_n 0, 1) := by decide +kernel
theorem dX4_readWind_58 : decode cX4_readWind 58 = .ok (.getfield 104, 3) := by decide +kernel
theorem dX4_readWind_61 : decode cX4_readWind 61 = .ok (.imul, 1) := by decide +kernel
theorem dX4_readWind_62 : decode cX4_readWind 62 = .ok (.aload_n 0, 1) := by decide +kernel
theorem dX4_readWind_63 : decode cX4_readWind 63 = .ok (.iload_n 2, 1) := by decide +kernel
theorem dX4_readWind_64 : decode cX4_readWind 64 = .ok (.invokevirtual 101, 3) := by decide +kernel
theorem dX4_readWind_67 : decode cX4_readWind 67 = .ok (.iadd, 1) := by decide +kernel
theorem dX4_readWind_68 : decode cX4_readWind 68 = .ok (.bipush 48, 2) := by decide +kernel
theorem dX4_readWind_70 : decode cX4_readWind 70 = .ok (.isub, 1) := by decide +kernel
theorem dX4_readWind_71 : decode cX4_readWind 71 = .ok (.bipush 24, 2) := by decide +kernel
theorem dX4_readWind_73 : decode cX4_readWind 73 = .ok (.if_icmp .ge 26, 3) := by decide +kernel
theorem dX4_readWind_76 : decode cX4_readWind 76 = .ok (.aload_n 0, 1) := by decide +kernel
theorem dX4_readWind_77 : decode cX4_readWind 77 = .ok (.bipush 10, 2) := by decide +kernel
theorem dX4_readWind_79 : decode cX4_readWind 79 = .ok (.aload_n 0, 1) := by decide +kernel
theorem dX4_readWind_80 : decode cX4_readWind 80 = .ok (.getfield 104, 3) := by decide +kernel
theorem dX4_readWind_83 : decode cX4_readWind 83 = .ok (.imul, 1) := by decide +kernel
theorem dX4_readWind_84 : decode cX4_readWind 84 = .ok (.aload_n 0, 1) := by decide +kernel
theorem dX4_readWind_85 : decode cX4_readWind 85 = .ok (.iload_n 2, 1) := by decide +kernel
theorem dX4_readWind_86 : decode cX4_readWind 86 = .ok (.invokevirtual 101, 3) := by decide +kernel
theorem dX4_readWind_89 : decode cX4_readWind 89 = .ok (.iadd, 1) := by decide +kernel
theorem dX4_readWind_90 : decode cX4_readWind 90 = .ok (.bipush 48, 2) := by decide +kernel
theorem dX4_readWind_92 : decode cX4_readWind 92 = .ok (.isub, 1) := by decide +kernel
theorem dX4_readWind_93 : decode cX4_readWind 93 = .ok (.putfield 104, 3) := by decide +kernel
theorem dX4_readWind_96 : decode cX4_readWind 96 = .ok (.iinc 2 1, 3) := by decide +kernel
theorem dX4_readWind_99 : decode cX4_readWind 99 = .ok (.aload_n 0, 1) := by decide +kernel
theorem dX4_readWind_100 : decode cX4_readWind 100 = .ok (.iload_n 2, 1) := by decide +kernel
theorem dX4_readWind_101 : decode cX4_readWind 101 = .ok (.invokevirtual 101, 3) := by decide +kernel
theorem dX4_readWind_104 : decode cX4_readWind 104 = .ok (.bipush 61, 2) := by decide +kernel
theorem dX4_readWind_106 : decode cX4_readWind 106 = .ok (.if_icmp .eq 7, 3) := by decide +kernel
theorem dX4_readWind_109 : decode cX4_readWind 109 = .ok (.iconst (-1), 1) := by decide +kernel
theorem dX4_readWind_110 : decode cX4_readWind 110 = .ok (.iload_n 2, 1) := by decide +kernel
theorem dX4_readWind_111 : decode cX4_readWind 111 = .ok (.isub, 1) := by decide +kernel
theorem dX4_readWind_112 : decode cX4_readWind 112 = .ok (.ireturn, 1) := by decide +kernel
theorem dX4_readWind_113 : decode cX4_readWind 113 = .ok (.aload_n 0, 1) := by decide +kernel
theorem dX4_readWind_114 : decode cX4_readWind 114 = .ok (.iload_n 2, 1) := by decide +kernel
theorem dX4_readWind_115 : decode cX4_readWind 115 = .ok (.iconst 1, 1) := by decide +kernel
theorem dX4_readWind_116 : decode cX4_readWind 116 = .ok (.iadd, 1) := by decide +kernel
theorem dX4_readWind_117 : decode cX4_readWind 117 = .ok (.invokevirtual 101, 3) := by decide +kernel
theorem dX4_readWind_120 : decode cX4_readWind 120 = .ok (.bipush 48, 2) := by decide +kernel
theorem dX4_readWind_122 : decode cX4_readWind 122 = .ok (.bipush 55, 2) := by decide +kernel
theorem dX4_readWind_124 : decode cX4_readWind 124 = .ok (.invokestatic 36, 3) := by decide +kernel
theorem dX4_readWind_127 : decode cX4_readWind 127 = .ok (.ifCond .ne 8, 3) := by decide +kernel
theorem dX4_readWind_130 : decode cX4_readWind 130 = .ok (.bipush (-2), 2) := by decide +kernel
theorem dX4_readWind_132 : decode cX4_readWind 132 = .ok (.iload_n 2, 1) := by decide +kernel
theorem dX4_readWind_133 : decode cX4_readWind 133 = .ok (.isub, 1) := by decide +kernel
theorem dX4_readWind_134 : decode cX4_readWind 134 = .ok (.ireturn, 1) := by decide +kernel
theorem dX4_readWind_135 : decode cX4_readWind 135 = .ok (.aload_n 0, 1) := by decide +kernel
theorem dX4_readWind_136 : decode cX4_readWind 136 = .ok (.iload_n 2, 1) := by decide +kernel
theorem dX4_readWind_137 : decode cX4_readWind 137 = .ok (.iconst 2, 1) := by decide +kernel
theorem dX4_readWind_138 : decode cX4_readWind 138 = .ok (.iadd, 1) := by decide +kernel
theorem dX4_readWind_139 : decode cX4_readWind 139 = .ok (.invokevirtual 101, 3) := by decide +kernel
theorem dX4_readWind_142 : decode cX4_readWind 142 = .ok (.bipush 48, 2) := by decide +kernel
theorem dX4_readWind_144 : decode cX4_readWind 144 = .ok (.bipush 57, 2) := by decide +kernel
theorem dX4_readWind_146 : decode cX4_readWind 146 = .ok (.invokestatic 36, 3) := by decide +kernel
theorem dX4_readWind_149 : decode cX4_readWind 149 = .ok (.ifCond .eq 9, 3) := by decide +kernel
theorem dX4_readWind_152 : decode cX4_readWind 152 = .ok (.iload_n 2, 1) := by decide +kernel
theorem dX4_readWind_153 : decode cX4_readWind 153 = .ok (.iconst 3, 1) := by decide +kernel
theorem dX4_readWind_154 : decode cX4_readWind 154 = .ok (.iadd, 1) := by decide +kernel
theorem dX4_readWind_155 : decode cX4_readWind 155 = .ok (.goto 7, 3) := by decide +kernel
theorem dX4_readWind_158 : decode cX4_readWind 158 = .ok (.bipush (-3), 2) := by decide +kernel
theorem dX4_readWind_160 : decode cX4_readWind 160 = .ok (.iload_n 2, 1) := by decide +kernel
theorem dX4_readWind_161 : decode cX4_readWind 161 = .ok (.isub, 1) := by decide +kernel
theorem dX4_readWind_162 : decode cX4_readWind 162 = .ok (.ireturn, 1) := by decide +kernel
theorem dX4_findError_0 : decode cX4_findError 0 = .ok (.iconst 0, 1) := by decide +kernel
theorem dX4_findError_1 : decode cX4_findError 1 = .ok (.istore_n 1, 1) := by decide +kernel
theorem dX4_findError_2 : decode cX4_findError 2 = .ok (.aload_n 0, 1) := by decide +kernel
theorem dX4_findError_3 : decode cX4_findError 3 = .ok (.iload_n 1, 1) := by decide +kernel
theorem dX4_findError_4 : decode cX4_findError 4 = .ok (.invokevirtual 107, 3) := by decide +kernel
theorem dX4_findError_7 : decode cX4_findError 7 = .ok (.istore_n 1, 1) := by decide +kernel
theorem dX4_findError_8 : decode cX4_findError 8 = .ok (.iload_n 1, 1) := by decide +kernel
theorem dX4_findError_9 : decode cX4_findError 9 = .ok (.ifCond .ge 7, 3) := by decide +kernel
theorem dX4_findError_12 : decode cX4_findError 12 = .ok (.iconst (-1), 1) := by decide +kernel
theorem dX4_findError_13 : decode cX4_findError 13 = .ok (.iload_n 1, 1) := by decide +kernel
theorem dX4_findError_14 : decode cX4_findError 14 = .ok (.isub, 1) := by decide +kernel
theorem dX4_findError_15 : decode cX4_findError 15 = .ok (.ireturn, 1) := by decide +kernel
theorem dX4_findError_16 : decode cX4_findError 16 = .ok (.iload_n 1, 1) := by decide +kernel
theorem dX4_findError_17 : decode cX4_findError 17 = .ok (.aload_n 0, 1) := by decide +kernel
theorem dX4_findError_18 : decode cX4_findError 18 = .ok (.getfield 98, 3) := by decide +kernel
theorem dX4_findError_21 : decode cX4_findError 21 = .ok (.if_icmp .ne 5, 3) := by decide +kernel
theorem dX4_findError_24 : decode cX4_findError 24 = .ok (.iconst (-1), 1) := by decide +kernel
theorem dX4_findError_25 : decode cX4_findError 25 = .ok (.ireturn, 1) := by decide +kernel
theorem dX4_findError_26 : decode cX4_findError 26 = .ok (.aload_n 0, 1) := by decide +kernel
theorem dX4_findError_27 : decode cX4_findError 27 = .ok (.getfield 26, 3) := by decide +kernel
theorem dX4_findError_30 : decode cX4_findError 30 = .ok (.iload_n 1, 1) := by decide +kernel
theorem dX4_findError_31 : decode cX4_findError 31 = .ok (.iaload, 1) := by decide +kernel
theorem dX4_findError_32 : decode cX4_findError 32 = .ok (.bipush 59, 2) := by decide +kernel
theorem dX4_findError_34 : decode cX4_findError 34 = .ok (.if_icmp .eq 5, 3) := by decide +kernel
theorem dX4_findError_37 : decode cX4_findError 37 = .ok (.iload_n 1, 1) := by decide +kernel
theorem dX4_findError_38 : decode cX4_findError 38 = .ok (.ireturn, 1) := by decide +kernel
theorem dX4_findError_39 : decode cX4_findError 39 = .ok (.iinc 1 1, 3) := by decide +kernel
theorem dX4_findError_42 : decode cX4_findError 42 = .ok (.goto (-40), 3) := by decide +kernel
theorem dX4_firstError_0 : decode cX4_firstError 0 = .ok (.aload_n 0, 1) := by decide +kernel
theorem dX4_firstError_1 : decode cX4_firstError 1 = .ok (.iconst 0, 1) := by decide +kernel
theorem dX4_firstError_2 : decode cX4_firstError 2 = .ok (.putfield 29, 3) := by decide +kernel
theorem dX4_firstError_5 : decode cX4_firstError 5 = .ok (.aload_n 0, 1) := by decide +kernel
theorem dX4_firstError_6 : decode cX4_firstError 6 = .ok (.invokevirtual 110, 3) := by decide +kernel
theorem dX4_firstError_9 : decode cX4_firstError 9 = .ok (.istore_n 1, 1) := by decide +kernel
theorem dX4_firstError_10 : decode cX4_firstError 10 = .ok (.iload_n 1, 1) := by decide +kernel
theorem dX4_firstError_11 : decode cX4_firstError 11 = .ok (.ifCond .ge 10, 3) := by decide +kernel
theorem dX4_firstError_14 : decode cX4_firstError 14 = .ok (.aload_n 0, 1) := by decide +kernel
theorem dX4_firstError_15 : decode cX4_firstError 15 = .ok (.getfield 98, 3) := by decide +kernel
theorem dX4_firstError_18 : decode cX4_firstError 18 = .ok (.goto 4, 3) := by decide +kernel
theorem dX4_firstError_21 : decode cX4_firstError 21 = .ok (.iload_n 1, 1) := by decide +kernel
theorem dX4_firstError_22 : decode cX4_firstError 22 = .ok (.ireturn, 1) := by decide +kernel
theorem dX4_load_0 : decode cX4_load 0 = .ok (.aload_n 0, 1) := by decide +kernel
theorem dX4_load_1 : decode cX4_load 1 = .ok (.aload_n 0, 1) := by decide +kernel
theorem dX4_load_2 : decode cX4_load 2 = .ok (.invokevirtual 110, 3) := by decide +kernel
theorem dX4_load_5 : decode cX4_load 5 = .ok (.ifCond .ge 7, 3) := by decide +kernel
theorem dX4_load_8 : decode cX4_load 8 = .ok (.iconst 0, 1) := by decide +kernel
theorem dX4_load_9 : decode cX4_load 9 = .ok (.goto 4, 3) := by decide +kernel
theorem dX4_load_12 : decode cX4_load 12 = .ok (.iconst 1, 1) := by decide +kernel
theorem dX4_load_13 : decode cX4_load 13 = .ok (.putfield 29, 3) := by decide +kernel
theorem dX4_load_16 : decode cX4_load 16 = .ok (.aload_n 0, 1) := by decide +kernel
theorem dX4_load_17 : decode cX4_load 17 = .ok (.getfield 29, 3) := by decide +kernel
theorem dX4_load_20 : decode cX4_load 20 = .ok (.ifCond .le 5, 3) := by decide +kernel
theorem dX4_load_23 : decode cX4_load 23 = .ok (.iconst 0, 1) := by decide +kernel
theorem dX4_load_24 : decode cX4_load 24 = .ok (.ireturn, 1) := by decide +kernel
theorem dX4_load_25 : decode cX4_load 25 = .ok (.aload_n 0, 1) := by decide +kernel
theorem dX4_load_26 : decode cX4_load 26 = .ok (.invokevirtual 40, 3) := by decide +kernel
theorem dX4_load_29 : decode cX4_load 29 = .ok (.iconst 0, 1) := by decide +kernel
theorem dX4_load_30 : decode cX4_load 30 = .ok (.istore_n 1, 1) := by decide +kernel
theorem dX4_load_31 : decode cX4_load 31 = .ok (.iload_n 1, 1) := by decide +kernel
theorem dX4_load_32 : decode cX4_load 32 = .ok (.aload_n 0, 1) := by decide +kernel
theorem dX4_load_33 : decode cX4_load 33 = .ok (.getfield 98, 3) := by decide +kernel
theorem dX4_load_36 : decode cX4_load 36 = .ok (.if_icmp .ge 60, 3) := by decide +kernel
theorem dX4_load_39 : decode cX4_load 39 = .ok (.aload_n 0, 1) := by decide +kernel
theorem dX4_load_40 : decode cX4_load 40 = .ok (.iload_n 1, 1) := by decide +kernel
theorem dX4_load_41 : decode cX4_load 41 = .ok (.invokevirtual 107, 3) := by decide +kernel
theorem dX4_load_44 : decode cX4_load 44 = .ok (.iconst 1, 1) := by decide +kernel
theorem dX4_load_45 : decode cX4_load 45 = .ok (.iadd, 1) := by decide +kernel
theorem dX4_load_46 : decode cX4_load 46 = .ok (.istore_n 1, 1) := by decide +kernel
theorem dX4_load_47 : decode cX4_load 47 = .ok (.aload_n 0, 1) := by decide +kernel
theorem dX4_load_48 : decode cX4_load 48 = .ok (.getfield 7, 3) := by decide +kernel
theorem dX4_load_51 : decode cX4_load 51 = .ok (.iconst 2, 1) := by decide +kernel
theorem dX4_load_52 : decode cX4_load 52 = .ok (.aload_n 0, 1) := by decide +kernel
theorem dX4_load_53 : decode cX4_load 53 = .ok (.getfield 104, 3) := by decide +kernel
theorem dX4_load_56 : decode cX4_load 56 = .ok (.imul, 1) := by decide +kernel
theorem dX4_load_57 : decode cX4_load 57 = .ok (.aload_n 0, 1) := by decide +kernel
theorem dX4_load_58 : decode cX4_load 58 = .ok (.getfield 26, 3) := by decide +kernel
theorem dX4_load_61 : decode cX4_load 61 = .ok (.iload_n 1, 1) := by decide +kernel
theorem dX4_load_62 : decode cX4_load 62 = .ok (.iconst 3, 1) := by decide +kernel
theorem dX4_load_63 : decode cX4_load 63 = .ok (.isub, 1) := by decide +kernel
theorem dX4_load_64 : decode cX4_load 64 = .ok (.iaload, 1) := by decide +kernel
theorem dX4_load_65 : decode cX4_load 65 = .ok (.bipush 48, 2) := by decide +kernel
theorem dX4_load_67 : decode cX4_load 67 = .ok (.isub, 1) := by decide +kernel
theorem dX4_load_68 : decode cX4_load 68 = .ok (.iastore, 1) := by decide +kernel
theorem dX4_load_69 : decode cX4_load 69 = .ok (.aload_n 0, 1) := by decide +kernel
theorem dX4_load_70 : decode cX4_load 70 = .ok (.getfield 7, 3) := by decide +kernel
theorem dX4_load_73 : decode cX4_load 73 = .ok (.iconst 2, 1) := by decide +kernel
theorem dX4_load_74 : decode cX4_load 74 = .ok (.aload_n 0, 1) := by decide +kernel
theorem dX4_load_75 : decode cX4_load 75 = .ok (.getfield 104, 3) := by decide +kernel
theorem dX4_load_78 : decode cX4_load 78 = .ok (.imul, 1) := by decide +kernel
theorem dX4_load_79 : decode cX4_load 79 = .ok (.iconst 1, 1) := by decide +kernel
theorem dX4_load_80 : decode cX4_load 80 = .ok (.iadd, 1) := by decide +kernel
theorem dX4_load_81 : decode cX4_load 81 = .ok (.aload_n 0, 1) := by decide +kernel
theorem dX4_load_82 : decode cX4_load 82 = .ok (.getfield 26, 3) := by decide +kernel
theorem dX4_load_85 : decode cX4_load 85 = .ok (.iload_n 1, 1) := by decide +kernel
theorem dX4_load_86 : decode cX4_load 86 = .ok (.iconst 2, 1) := by decide +kernel
theorem dX4_load_87 : decode cX4_load 87 = .ok (.isub, 1) := by decide +kernel
theorem dX4_load_88 : decode cX4_load 88 = .ok (.iaload, 1) := by decide +kernel
theorem dX4_load_89 : decode cX4_load 89 = .ok (.bipush 48, 2) := by decide +kernel
theorem dX4_load_91 : decode cX4_load 91 = .ok (.isub, 1) := by decide +kernel
theorem dX4_load_92 : decode cX4_load 92 = .ok (.iastore, 1) := by decide +kernel
theorem dX4_load_93 : decode cX4_load 93 = .ok (.goto (-62), 3) := by decide +kernel
theorem dX4_load_96 : decode cX4_load 96 = .ok (.aload_n 0, 1) := by decide +kernel
theorem dX4_load_97 : decode cX4_load 97 = .ok (.iconst 0, 1) := by decide +kernel
theorem dX4_load_98 : decode cX4_load 98 = .ok (.putfield 98, 3) := by decide +kernel
theorem dX4_load_101 : decode cX4_load 101 = .ok (.aload_n 0, 1) := by decide +kernel
theorem dX4_load_102 : decode cX4_load 102 = .ok (.invokevirtual 113, 3) := by decide +kernel
theorem dX4_load_105 : decode cX4_load 105 = .ok (.ireturn, 1) := by decide +kernel
theorem dX4_hourNow_0 : decode cX4_hourNow 0 = .ok (.iload_n 2, 1) := by decide +kernel
theorem dX4_hourNow_1 : decode cX4_hourNow 1 = .ok (.tableswitch 54 0 3 #[31, 31, 42, 48], 31) := by decide +kernel
theorem dX4_hourNow_32 : decode cX4_hourNow 32 = .ok (.aload_n 0, 1) := by decide +kernel
theorem dX4_hourNow_33 : decode cX4_hourNow 33 = .ok (.getfield 7, 3) := by decide +kernel
theorem dX4_hourNow_36 : decode cX4_hourNow 36 = .ok (.iconst 2, 1) := by decide +kernel
theorem dX4_hourNow_37 : decode cX4_hourNow 37 = .ok (.iload_n 1, 1) := by decide +kernel
theorem dX4_hourNow_38 : decode cX4_hourNow 38 = .ok (.imul, 1) := by decide +kernel
theorem dX4_hourNow_39 : decode cX4_hourNow 39 = .ok (.iload_n 2, 1) := by decide +kernel
theorem dX4_hourNow_40 : decode cX4_hourNow 40 = .ok (.iadd, 1) := by decide +kernel
theorem dX4_hourNow_41 : decode cX4_hourNow 41 = .ok (.iaload, 1) := by decide +kernel
theorem dX4_hourNow_42 : decode cX4_hourNow 42 = .ok (.ireturn, 1) := by decide +kernel
theorem dX4_hourNow_43 : decode cX4_hourNow 43 = .ok (.aload_n 0, 1) := by decide +kernel
theorem dX4_hourNow_44 : decode cX4_hourNow 44 = .ok (.iload_n 1, 1) := by decide +kernel
theorem dX4_hourNow_45 : decode cX4_hourNow 45 = .ok (.invokevirtual 55, 3) := by decide +kernel
theorem dX4_hourNow_48 : decode cX4_hourNow 48 = .ok (.ireturn, 1) := by decide +kernel
theorem dX4_hourNow_49 : decode cX4_hourNow 49 = .ok (.aload_n 0, 1) := by decide +kernel
theorem dX4_hourNow_50 : decode cX4_hourNow 50 = .ok (.iload_n 1, 1) := by decide +kernel
theorem dX4_hourNow_51 : decode cX4_hourNow 51 = .ok (.invokevirtual 59, 3) := by decide +kernel
theorem dX4_hourNow_54 : decode cX4_hourNow 54 = .ok (.ireturn, 1) := by decide +kernel
theorem dX4_hourNow_55 : decode cX4_hourNow 55 = .ok (.aload_n 0, 1) := by decide +kernel
theorem dX4_hourNow_56 : decode cX4_hourNow 56 = .ok (.iconst 0, 1) := by decide +kernel
theorem dX4_hourNow_57 : decode cX4_hourNow 57 = .ok (.iload_n 1, 1) := by decide +kernel
theorem dX4_hourNow_58 : decode cX4_hourNow 58 = .ok (.invokevirtual 65, 3) := by decide +kernel
theorem dX4_hourNow_61 : decode cX4_hourNow 61 = .ok (.aload_n 0, 1) := by decide +kernel
theorem dX4_hourNow_62 : decode cX4_hourNow 62 = .ok (.iconst 1, 1) := by decide +kernel
theorem dX4_hourNow_63 : decode cX4_hourNow 63 = .ok (.iload_n 1, 1) := by decide +kernel
theorem dX4_hourNow_64 : decode cX4_hourNow 64 = .ok (.invokevirtual 65, 3) := by decide +kernel
theorem dX4_hourNow_67 : decode cX4_hourNow 67 = .ok (.iadd, 1) := by decide +kernel
theorem dX4_hourNow_68 : decode cX4_hourNow 68 = .ok (.aload_n 0, 1) := by decide +kernel
theorem dX4_hourNow_69 : decode cX4_hourNow 69 = .ok (.iconst 2, 1) := by decide +kernel
theorem dX4_hourNow_70 : decode cX4_hourNow 70 = .ok (.iload_n 1, 1) := by decide +kernel
theorem dX4_hourNow_71 : decode cX4_hourNow 71 = .ok (.invokevirtual 65, 3) := by decide +kernel
theorem dX4_hourNow_74 : decode cX4_hourNow 74 = .ok (.iadd, 1) := by decide +kernel
theorem dX4_hourNow_75 : decode cX4_hourNow 75 = .ok (.ireturn, 1) := by decide +kernel
theorem dX4_hourOf_0 : decode cX4_hourOf 0 = .ok (.aload_n 0, 1) := by decide +kernel
theorem dX4_hourOf_1 : decode cX4_hourOf 1 = .ok (.iload_n 1, 1) := by decide +kernel
theorem dX4_hourOf_2 : decode cX4_hourOf 2 = .ok (.iconst 0, 1) := by decide +kernel
theorem dX4_hourOf_3 : decode cX4_hourOf 3 = .ok (.bipush 23, 2) := by decide +kernel
theorem dX4_hourOf_5 : decode cX4_hourOf 5 = .ok (.invokestatic 36, 3) := by decide +kernel
theorem dX4_hourOf_8 : decode cX4_hourOf 8 = .ok (.ifCond .ne 7, 3) := by decide +kernel
theorem dX4_hourOf_11 : decode cX4_hourOf 11 = .ok (.iconst 1, 1) := by decide +kernel
theorem dX4_hourOf_12 : decode cX4_hourOf 12 = .ok (.goto 17, 3) := by decide +kernel
theorem dX4_hourOf_15 : decode cX4_hourOf 15 = .ok (.iload_n 2, 1) := by decide +kernel
theorem dX4_hourOf_16 : decode cX4_hourOf 16 = .ok (.iconst 0, 1) := by decide +kernel
theorem dX4_hourOf_17 : decode cX4_hourOf 17 = .ok (.iconst 4, 1) := by decide +kernel
theorem dX4_hourOf_18 : decode cX4_hourOf 18 = .ok (.invokestatic 36, 3) := by decide +kernel
theorem dX4_hourOf_21 : decode cX4_hourOf 21 = .ok (.ifCond .eq 7, 3) := by decide +kernel
theorem dX4_hourOf_24 : decode cX4_hourOf 24 = .ok (.iconst 0, 1) := by decide +kernel
theorem dX4_hourOf_25 : decode cX4_hourOf 25 = .ok (.goto 4, 3) := by decide +kernel
theorem dX4_hourOf_28 : decode cX4_hourOf 28 = .ok (.iconst 2, 1) := by decide +kernel
theorem dX4_hourOf_29 : decode cX4_hourOf 29 = .ok (.putfield 29, 3) := by decide +kernel
theorem dX4_hourOf_32 : decode cX4_hourOf 32 = .ok (.aload_n 0, 1) := by decide +kernel
theorem dX4_hourOf_33 : decode cX4_hourOf 33 = .ok (.getfield 29, 3) := by decide +kernel
theorem dX4_hourOf_36 : decode cX4_hourOf 36 = .ok (.ifCond .le 7, 3) := by decide +kernel
theorem dX4_hourOf_39 : decode cX4_hourOf 39 = .ok (.iconst 0, 1) := by decide +kernel
theorem dX4_hourOf_40 : decode cX4_hourOf 40 = .ok (.goto 9, 3) := by decide +kernel
theorem dX4_hourOf_43 : decode cX4_hourOf 43 = .ok (.aload_n 0, 1) := by decide +kernel
theorem dX4_hourOf_44 : decode cX4_hourOf 44 = .ok (.iload_n 1, 1) := by decide +kernel
theorem dX4_hourOf_45 : decode cX4_hourOf 45 = .ok (.iload_n 2, 1) := by decide +kernel
theorem dX4_hourOf_46 : decode cX4_hourOf 46 = .ok (.invokevirtual 116, 3) := by decide +kernel
theorem dX4_hourOf_49 : decode cX4_hourOf 49 = .ok (.ireturn, 1) := by decide +kernel
theorem dX4_agreeingHours_0 : decode cX4_agreeingHours 0 = .ok (.iconst 0, 1) := by decide +kernel
theorem dX4_agreeingHours_1 : decode cX4_agreeingHours 1 = .ok (.istore_n 2, 1) := by decide +kernel
theorem dX4_agreeingHours_2 : decode cX4_agreeingHours 2 = .ok (.iconst 0, 1) := by decide +kernel
theorem dX4_agreeingHours_3 : decode cX4_agreeingHours 3 = .ok (.istore_n 3, 1) := by decide +kernel
theorem dX4_agreeingHours_4 : decode cX4_agreeingHours 4 = .ok (.iload_n 3, 1) := by decide +kernel
theorem dX4_agreeingHours_5 : decode cX4_agreeingHours 5 = .ok (.bipush 24, 2) := by decide +kernel
theorem dX4_agreeingHours_7 : decode cX4_agreeingHours 7 = .ok (.if_icmp .ge 26, 3) := by decide +kernel
theorem dX4_agreeingHours_10 : decode cX4_agreeingHours 10 = .ok (.iload_n 2, 1) := by decide +kernel
theorem dX4_agreeingHours_11 : decode cX4_agreeingHours 11 = .ok (.aload_n 0, 1) := by decide +kernel
theorem dX4_agreeingHours_12 : decode cX4_agreeingHours 12 = .ok (.iload_n 1, 1) := by decide +kernel
theorem dX4_agreeingHours_13 : decode cX4_agreeingHours 13 = .ok (.iload_n 3, 1) := by decide +kernel
theorem dX4_agreeingHours_14 : decode cX4_agreeingHours 14 = .ok (.invokevirtual 47, 3) := by decide +kernel
theorem dX4_agreeingHours_17 : decode cX4_agreeingHours 17 = .ok (.ifCond .eq 7, 3) := by decide +kernel
theorem dX4_agreeingHours_20 : decode cX4_agreeingHours 20 = .ok (.iconst 1, 1) := by decide +kernel
theorem dX4_agreeingHours_21 : decode cX4_agreeingHours 21 = .ok (.goto 4, 3) := by decide +kernel
theorem dX4_agreeingHours_24 : decode cX4_agreeingHours 24 = .ok (.iconst 0, 1) := by decide +kernel
theorem dX4_agreeingHours_25 : decode cX4_agreeingHours 25 = .ok (.iadd, 1) := by decide +kernel
theorem dX4_agreeingHours_26 : decode cX4_agreeingHours 26 = .ok (.istore_n 2, 1) := by decide +kernel
theorem dX4_agreeingHours_27 : decode cX4_agreeingHours 27 = .ok (.iinc 3 1, 3) := by decide +kernel
theorem dX4_agreeingHours_30 : decode cX4_agreeingHours 30 = .ok (.goto (-26), 3) := by decide +kernel
theorem dX4_agreeingHours_33 : decode cX4_agreeingHours 33 = .ok (.iload_n 2, 1) := by decide +kernel
theorem dX4_agreeingHours_34 : decode cX4_agreeingHours 34 = .ok (.ireturn, 1) := by decide +kernel
theorem dX4_matters_0 : decode cX4_matters 0 = .ok (.bipush 48, 2) := by decide +kernel
theorem dX4_matters_2 : decode cX4_matters 2 = .ok (.iconst 4, 1) := by decide +kernel
theorem dX4_matters_3 : decode cX4_matters 3 = .ok (.iload_n 1, 1) := by decide +kernel
theorem dX4_matters_4 : decode cX4_matters 4 = .ok (.imul, 1) := by decide +kernel
theorem dX4_matters_5 : decode cX4_matters 5 = .ok (.iadd, 1) := by decide +kernel
theorem dX4_matters_6 : decode cX4_matters 6 = .ok (.iconst 3, 1) := by decide +kernel
theorem dX4_matters_7 : decode cX4_matters 7 = .ok (.iadd, 1) := by decide +kernel
theorem dX4_matters_8 : decode cX4_matters 8 = .ok (.istore_n 2, 1) := by decide +kernel
theorem dX4_matters_9 : decode cX4_matters 9 = .ok (.iconst 0, 1) := by decide +kernel
theorem dX4_matters_10 : decode cX4_matters 10 = .ok (.istore_n 3, 1) := by decide +kernel
theorem dX4_matters_11 : decode cX4_matters 11 = .ok (.iconst 0, 1) := by decide +kernel
theorem dX4_matters_12 : decode cX4_matters 12 = .ok (.istore 4, 2) := by decide +kernel
theorem dX4_matters_14 : decode cX4_matters 14 = .ok (.iload 4, 2) := by decide +kernel
theorem dX4_matters_16 : decode cX4_matters 16 = .ok (.bipush 24, 2) := by decide +kernel
theorem dX4_matters_18 : decode cX4_matters 18 = .ok (.if_icmp .ge 80, 3) := by decide +kernel
theorem dX4_matters_21 : decode cX4_matters 21 = .ok (.aload_n 0, 1) := by decide +kernel
theorem dX4_matters_22 : decode cX4_matters 22 = .ok (.iload 4, 2) := by decide +kernel
theorem dX4_matters_24 : decode cX4_matters 24 = .ok (.invokevirtual 59, 3) := by decide +kernel
theorem dX4_matters_27 : decode cX4_matters 27 = .ok (.ifCond .ne 7, 3) := by decide +kernel
theorem dX4_matters_30 : decode cX4_matters 30 = .ok (.iconst 1, 1) := by decide +kernel
theorem dX4_matters_31 : decode cX4_matters 31 = .ok (.goto 4, 3) := by decide +kernel
theorem dX4_matters_34 : decode cX4_matters 34 = .ok (.iconst 0, 1) := by decide +kernel
theorem dX4_matters_35 : decode cX4_matters 35 = .ok (.istore 5, 2) := by decide +kernel
theorem dX4_matters_37 : decode cX4_matters 37 = .ok (.aload_n 0, 1) := by decide +kernel
theorem dX4_matters_38 : decode cX4_matters 38 = .ok (.getfield 7, 3) := by decide +kernel
theorem dX4_matters_41 : decode cX4_matters 41 = .ok (.iload_n 2, 1) := by decide +kernel
theorem dX4_matters_42 : decode cX4_matters 42 = .ok (.iconst 1, 1) := by decide +kernel
theorem dX4_matters_43 : decode cX4_matters 43 = .ok (.aload_n 0, 1) := by decide +kernel
theorem dX4_matters_44 : decode cX4_matters 44 = .ok (.getfield 7, 3) := by decide +kernel
theorem dX4_matters_47 : decode cX4_matters 47 = .ok (.iload_n 2, 1) := by decide +kernel
theorem dX4_matters_48 : decode cX4_matters 48 = .ok (.iaload, 1) := by decide +kernel
theorem dX4_matters_49 : decode cX4_matters 49 = .ok (.isub, 1) := by decide +kernel
theorem dX4_matters_50 : decode cX4_matters 50 = .ok (.iastore, 1) := by decide +kernel
theorem dX4_matters_51 : decode cX4_matters 51 = .ok (.iload_n 3, 1) := by decide +kernel
theorem dX4_matters_52 : decode cX4_matters 52 = .ok (.aload_n 0, 1) := by decide +kernel
theorem dX4_matters_53 : decode cX4_matters 53 = .ok (.iload 4, 2) := by decide +kernel
theorem dX4_matters_55 : decode cX4_matters 55 = .ok (.invokevirtual 59, 3) := by decide +kernel
theorem dX4_matters_58 : decode cX4_matters 58 = .ok (.ifCond .ne 7, 3) := by decide +kernel
theorem dX4_matters_61 : decode cX4_matters 61 = .ok (.iconst 1, 1) := by decide +kernel
theorem dX4_matters_62 : decode cX4_matters 62 = .ok (.goto 4, 3) := by decide +kernel
theorem dX4_matters_65 : decode cX4_matters 65 = .ok (.iconst 0, 1) := by decide +kernel
theorem dX4_matters_66 : decode cX4_matters 66 = .ok (.iload 5, 2) := by decide +kernel
theorem dX4_matters_68 : decode cX4_matters 68 = .ok (.if_icmp .eq 7, 3) := by decide +kernel
theorem dX4_matters_71 : decode cX4_matters 71 = .ok (.iconst 1, 1) := by decide +kernel
theorem dX4_matters_72 : decode cX4_matters 72 = .ok (.goto 4, 3) := by decide +kernel
theorem dX4_matters_75 : decode cX4_matters 75 = .ok (.iconst 0, 1) := by decide +kernel
theorem dX4_matters_76 : decode cX4_matters 76 = .ok (.iadd, 1) := by decide +kernel
theorem dX4_matters_77 : decode cX4_matters 77 = .ok (.istore_n 3, 1) := by decide +kernel
theorem dX4_matters_78 : decode cX4_matters 78 = .ok (.aload_n 0, 1) := by decide +kernel
theorem dX4_matters_79 : decode cX4_matters 79 = .ok (.getfield 7, 3) := by decide +kernel
theorem dX4_matters_82 : decode cX4_matters 82 = .ok (.iload_n 2, 1) := by decide +kernel
theorem dX4_matters_83 : decode cX4_matters 83 = .ok (.iconst 1, 1) := by decide +kernel
theorem dX4_matters_84 : decode cX4_matters 84 = .ok (.aload_n 0, 1) := by decide +kernel
theorem dX4_matters_85 : decode cX4_matters 85 = .ok (.getfield 7, 3) := by decide +kernel
theorem dX4_matters_88 : decode cX4_matters 88 = .ok (.iload_n 2, 1) := by decide +kernel
theorem dX4_matters_89 : decode cX4_matters 89 = .ok (.iaload, 1) := by decide +kernel
theorem dX4_matters_90 : decode cX4_matters 90 = .ok (.isub, 1) := by decide +kernel
theorem dX4_matters_91 : decode cX4_matters 91 = .ok (.iastore, 1) := by decide +kernel
theorem dX4_matters_92 : decode cX4_matters 92 = .ok (.iinc 4 1, 3) := by decide +kernel
theorem dX4_matters_95 : decode cX4_matters 95 = .ok (.goto (-81), 3) := by decide +kernel
theorem dX4_matters_98 : decode cX4_matters 98 = .ok (.iload_n 3, 1) := by decide +kernel
theorem dX4_matters_99 : decode cX4_matters 99 = .ok (.ireturn, 1) := by decide +kernel
theorem dX4_vaneNow_0 : decode cX4_vaneNow 0 = .ok (.iload_n 2, 1) := by decide +kernel
theorem dX4_vaneNow_1 : decode cX4_vaneNow 1 = .ok (.iconst 4, 1) := by decide +kernel
theorem dX4_vaneNow_2 : decode cX4_vaneNow 2 = .ok (.if_icmp .ge 12, 3) := by decide +kernel
theorem dX4_vaneNow_5 : decode cX4_vaneNow 5 = .ok (.aload_n 0, 1) := by decide +kernel
theorem dX4_vaneNow_6 : decode cX4_vaneNow 6 = .ok (.iload_n 1, 1) := by decide +kernel
theorem dX4_vaneNow_7 : decode cX4_vaneNow 7 = .ok (.iload_n 2, 1) := by decide +kernel
theorem dX4_vaneNow_8 : decode cX4_vaneNow 8 = .ok (.invokevirtual 43, 3) := by decide +kernel
theorem dX4_vaneNow_11 : decode cX4_vaneNow 11 = .ok (.goto 21, 3) := by decide +kernel
theorem dX4_vaneNow_14 : decode cX4_vaneNow 14 = .ok (.iload_n 2, 1) := by decide +kernel
theorem dX4_vaneNow_15 : decode cX4_vaneNow 15 = .ok (.iconst 4, 1) := by decide +kernel
theorem dX4_vaneNow_16 : decode cX4_vaneNow 16 = .ok (.if_icmp .ne 11, 3) := by decide +kernel
theorem dX4_vaneNow_19 : decode cX4_vaneNow 19 = .ok (.aload_n 0, 1) := by decide +kernel
theorem dX4_vaneNow_20 : decode cX4_vaneNow 20 = .ok (.iload_n 1, 1) := by decide +kernel
theorem dX4_vaneNow_21 : decode cX4_vaneNow 21 = .ok (.invokevirtual 119, 3) := by decide +kernel
theorem dX4_vaneNow_24 : decode cX4_vaneNow 24 = .ok (.goto 8, 3) := by decide +kernel
theorem dX4_vaneNow_27 : decode cX4_vaneNow 27 = .ok (.aload_n 0, 1) := by decide +kernel
theorem dX4_vaneNow_28 : decode cX4_vaneNow 28 = .ok (.iload_n 1, 1) := by decide +kernel
theorem dX4_vaneNow_29 : decode cX4_vaneNow 29 = .ok (.invokevirtual 122, 3) := by decide +kernel
theorem dX4_vaneNow_32 : decode cX4_vaneNow 32 = .ok (.ireturn, 1) := by decide +kernel
theorem dX4_vaneOf_0 : decode cX4_vaneOf 0 = .ok (.aload_n 0, 1) := by decide +kernel
theorem dX4_vaneOf_1 : decode cX4_vaneOf 1 = .ok (.iload_n 1, 1) := by decide +kernel
theorem dX4_vaneOf_2 : decode cX4_vaneOf 2 = .ok (.iconst 0, 1) := by decide +kernel
theorem dX4_vaneOf_3 : decode cX4_vaneOf 3 = .ok (.iconst 5, 1) := by decide +kernel
theorem dX4_vaneOf_4 : decode cX4_vaneOf 4 = .ok (.invokestatic 36, 3) := by decide +kernel
theorem dX4_vaneOf_7 : decode cX4_vaneOf 7 = .ok (.ifCond .ne 7, 3) := by decide +kernel
theorem dX4_vaneOf_10 : decode cX4_vaneOf 10 = .ok (.iconst 1, 1) := by decide +kernel
theorem dX4_vaneOf_11 : decode cX4_vaneOf 11 = .ok (.goto 17, 3) := by decide +kernel
theorem dX4_vaneOf_14 : decode cX4_vaneOf 14 = .ok (.iload_n 2, 1) := by decide +kernel
theorem dX4_vaneOf_15 : decode cX4_vaneOf 15 = .ok (.iconst 0, 1) := by decide +kernel
theorem dX4_vaneOf_16 : decode cX4_vaneOf 16 = .ok (.iconst 5, 1) := by decide +kernel
theorem dX4_vaneOf_17 : decode cX4_vaneOf 17 = .ok (.invokestatic 36, 3) := by decide +kernel
theorem dX4_vaneOf_20 : decode cX4_vaneOf 20 = .ok (.ifCond .eq 7, 3) := by decide +kernel
theorem dX4_vaneOf_23 : decode cX4_vaneOf 23 = .ok (.iconst 0, 1) := by decide +kernel
theorem dX4_vaneOf_24 : decode cX4_vaneOf 24 = .ok (.goto 4, 3) := by decide +kernel
theorem dX4_vaneOf_27 : decode cX4_vaneOf 27 = .ok (.iconst 2, 1) := by decide +kernel
theorem dX4_vaneOf_28 : decode cX4_vaneOf 28 = .ok (.putfield 29, 3) := by decide +kernel
theorem dX4_vaneOf_31 : decode cX4_vaneOf 31 = .ok (.aload_n 0, 1) := by decide +kernel
theorem dX4_vaneOf_32 : decode cX4_vaneOf 32 = .ok (.getfield 29, 3) := by decide +kernel
theorem dX4_vaneOf_35 : decode cX4_vaneOf 35 = .ok (.ifCond .le 7, 3) := by decide +kernel
theorem dX4_vaneOf_38 : decode cX4_vaneOf 38 = .ok (.iconst 0, 1) := by decide +kernel
theorem dX4_vaneOf_39 : decode cX4_vaneOf 39 = .ok (.goto 9, 3) := by decide +kernel
theorem dX4_vaneOf_42 : decode cX4_vaneOf 42 = .ok (.aload_n 0, 1) := by decide +kernel
theorem dX4_vaneOf_43 : decode cX4_vaneOf 43 = .ok (.iload_n 1, 1) := by decide +kernel
theorem dX4_vaneOf_44 : decode cX4_vaneOf 44 = .ok (.iload_n 2, 1) := by decide +kernel
theorem dX4_vaneOf_45 : decode cX4_vaneOf 45 = .ok (.invokevirtual 125, 3) := by decide +kernel
theorem dX4_vaneOf_48 : decode cX4_vaneOf 48 = .ok (.ireturn, 1) := by decide +kernel
theorem dX4_millNow_0 : decode cX4_millNow 0 = .ok (.iload_n 2, 1) := by decide +kernel
theorem dX4_millNow_1 : decode cX4_millNow 1 = .ok (.tableswitch 82 0 4 #[35, 42, 49, 55, 62], 35) := by decide +kernel
theorem dX4_millNow_36 : decode cX4_millNow 36 = .ok (.aload_n 0, 1) := by decide +kernel
theorem dX4_millNow_37 : decode cX4_millNow 37 = .ok (.iload_n 1, 1) := by decide +kernel
theorem dX4_millNow_38 : decode cX4_millNow 38 = .ok (.iconst 0, 1) := by decide +kernel
theorem dX4_millNow_39 : decode cX4_millNow 39 = .ok (.invokevirtual 62, 3) := by decide +kernel
theorem dX4_millNow_42 : decode cX4_millNow 42 = .ok (.ireturn, 1) := by decide +kernel
theorem dX4_millNow_43 : decode cX4_millNow 43 = .ok (.aload_n 0, 1) := by decide +kernel
theorem dX4_millNow_44 : decode cX4_millNow 44 = .ok (.iload_n 1, 1) := by decide +kernel
theorem dX4_millNow_45 : decode cX4_millNow 45 = .ok (.iconst 1, 1) := by decide +kernel
theorem dX4_millNow_46 : decode cX4_millNow 46 = .ok (.invokevirtual 62, 3) := by decide +kernel
theorem dX4_millNow_49 : decode cX4_millNow 49 = .ok (.ireturn, 1) := by decide +kernel
theorem dX4_millNow_50 : decode cX4_millNow 50 = .ok (.aload_n 0, 1) := by decide +kernel
theorem dX4_millNow_51 : decode cX4_millNow 51 = .ok (.iload_n 1, 1) := by decide +kernel
theorem dX4_millNow_52 : decode cX4_millNow 52 = .ok (.invokevirtual 91, 3) := by decide +kernel
theorem dX4_millNow_55 : decode cX4_millNow 55 = .ok (.ireturn, 1) := by decide +kernel
theorem dX4_millNow_56 : decode cX4_millNow 56 = .ok (.aload_n 0, 1) := by decide +kernel
theorem dX4_millNow_57 : decode cX4_millNow 57 = .ok (.iload_n 1, 1) := by decide +kernel
theorem dX4_millNow_58 : decode cX4_millNow 58 = .ok (.iconst 2, 1) := by decide +kernel
theorem dX4_millNow_59 : decode cX4_millNow 59 = .ok (.invokevirtual 62, 3) := by decide +kernel
theorem dX4_millNow_62 : decode cX4_millNow 62 = .ok (.ireturn, 1) := by decide +kernel
theorem dX4_millNow_63 : decode cX4_millNow 63 = .ok (.aload_n 0, 1) := by decide +kernel
theorem dX4_millNow_64 : decode cX4_millNow 64 = .ok (.iload_n 1, 1) := by decide +kernel
theorem dX4_millNow_65 : decode cX4_millNow 65 = .ok (.iconst 1, 1) := by decide +kernel
theorem dX4_millNow_66 : decode cX4_millNow 66 = .ok (.invokevirtual 62, 3) := by decide +kernel
theorem dX4_millNow_69 : decode cX4_millNow 69 = .ok (.ifCond .ne 7, 3) := by decide +kernel
theorem dX4_millNow_72 : decode cX4_millNow 72 = .ok (.iconst (-1), 1) := by decide +kernel
theorem dX4_millNow_73 : decode cX4_millNow 73 = .ok (.goto 9, 3) := by decide +kernel
theorem dX4_millNow_76 : decode cX4_millNow 76 = .ok (.aload_n 0, 1) := by decide +kernel
theorem dX4_millNow_77 : decode cX4_millNow 77 = .ok (.iload_n 1, 1) := by decide +kernel
theorem dX4_millNow_78 : decode cX4_millNow 78 = .ok (.iconst 3, 1) := by decide +kernel
theorem dX4_millNow_79 : decode cX4_millNow 79 = .ok (.invokevirtual 62, 3) := by decide +kernel
theorem dX4_millNow_82 : decode cX4_millNow 82 = .ok (.ireturn, 1) := by decide +kernel
theorem dX4_millNow_83 : decode cX4_millNow 83 = .ok (.aload_n 0, 1) := by decide +kernel
theorem dX4_millNow_84 : decode cX4_millNow 84 = .ok (.iload_n 1, 1) := by decide +kernel
theorem dX4_millNow_85 : decode cX4_millNow 85 = .ok (.invokevirtual 128, 3) := by decide +kernel
theorem dX4_millNow_88 : decode cX4_millNow 88 = .ok (.ireturn, 1) := by decide +kernel
theorem dX4_millOf_0 : decode cX4_millOf 0 = .ok (.aload_n 0, 1) := by decide +kernel
theorem dX4_millOf_1 : decode cX4_millOf 1 = .ok (.iload_n 1, 1) := by decide +kernel
theorem dX4_millOf_2 : decode cX4_millOf 2 = .ok (.iconst 0, 1) := by decide +kernel
theorem dX4_millOf_3 : decode cX4_millOf 3 = .ok (.iconst 2, 1) := by decide +kernel
theorem dX4_millOf_4 : decode cX4_millOf 4 = .ok (.invokestatic 36, 3) := by decide +kernel
theorem dX4_millOf_7 : decode cX4_millOf 7 = .ok (.ifCond .ne 7, 3) := by decide +kernel
theorem dX4_millOf_10 : decode cX4_millOf 10 = .ok (.iconst 1, 1) := by decide +kernel
theorem dX4_millOf_11 : decode cX4_millOf 11 = .ok (.goto 17, 3) := by decide +kernel
theorem dX4_millOf_14 : decode cX4_millOf 14 = .ok (.iload_n 2, 1) := by decide +kernel
theorem dX4_millOf_15 : decode cX4_millOf 15 = .ok (.iconst 0, 1) := by decide +kernel
theorem dX4_millOf_16 : decode cX4_millOf 16 = .ok (.iconst 5, 1) := by decide +kernel
theorem dX4_millOf_17 : decode cX4_millOf 17 = .ok (.invokestatic 36, 3) := by decide +kernel
theorem dX4_millOf_20 : decode cX4_millOf 20 = .ok (.ifCond .eq 7, 3) := by decide +kernel
theorem dX4_millOf_23 : decode cX4_millOf 23 = .ok (.iconst 0, 1) := by decide +kernel
theorem dX4_millOf_24 : decode cX4_millOf 24 = .ok (.goto 4, 3) := by decide +kernel
theorem dX4_millOf_27 : decode cX4_millOf 27 = .ok (.iconst 2, 1) := by decide +kernel
theorem dX4_millOf_28 : decode cX4_millOf 28 = .ok (.putfield 29, 3) := by decide +kernel
theorem dX4_millOf_31 : decode cX4_millOf 31 = .ok (.aload_n 0, 1) := by decide +kernel
theorem dX4_millOf_32 : decode cX4_millOf 32 = .ok (.getfield 29, 3) := by decide +kernel
theorem dX4_millOf_35 : decode cX4_millOf 35 = .ok (.ifCond .le 7, 3) := by decide +kernel
theorem dX4_millOf_38 : decode cX4_millOf 38 = .ok (.iconst 0, 1) := by decide +kernel
theorem dX4_millOf_39 : decode cX4_millOf 39 = .ok (.goto 9, 3) := by decide +kernel
