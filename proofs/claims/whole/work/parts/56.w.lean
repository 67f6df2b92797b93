theorem dX12_next_0 : decode cX12_next 0 = .ok (.aload_n 0, 1) := by decide +kernel
theorem dX12_next_1 : decode cX12_next 1 = .ok (.getfield 105, 3) := by decide +kernel
theorem dX12_next_4 : decode cX12_next 4 = .ok (.aload_n 0, 1) := by decide +kernel
theorem dX12_next_5 : decode cX12_next 5 = .ok (.getfield 67, 3) := by decide +kernel
theorem dX12_next_8 : decode cX12_next 8 = .ok (.if_icmp .ge 44, 3) := by decide +kernel
theorem dX12_next_11 : decode cX12_next 11 = .ok (.aload_n 0, 1) := by decide +kernel
theorem dX12_next_12 : decode cX12_next 12 = .ok (.getfield 25, 3) := by decide +kernel
theorem dX12_next_15 : decode cX12_next 15 = .ok (.aload_n 0, 1) := by decide +kernel
theorem dX12_next_16 : decode cX12_next 16 = .ok (.getfield 105, 3) := by decide +kernel
theorem dX12_next_19 : decode cX12_next 19 = .ok (.iaload, 1) := by decide +kernel
theorem dX12_next_20 : decode cX12_next 20 = .ok (.bipush 32, 2) := by decide +kernel
theorem dX12_next_22 : decode cX12_next 22 = .ok (.if_icmp .eq 17, 3) := by decide +kernel
theorem dX12_next_25 : decode cX12_next 25 = .ok (.aload_n 0, 1) := by decide +kernel
theorem dX12_next_26 : decode cX12_next 26 = .ok (.getfield 25, 3) := by decide +kernel
theorem dX12_next_29 : decode cX12_next 29 = .ok (.aload_n 0, 1) := by decide +kernel
theorem dX12_next_30 : decode cX12_next 30 = .ok (.getfield 105, 3) := by decide +kernel
theorem dX12_next_33 : decode cX12_next 33 = .ok (.iaload, 1) := by decide +kernel
theorem dX12_next_34 : decode cX12_next 34 = .ok (.bipush 10, 2) := by decide +kernel
theorem dX12_next_36 : decode cX12_next 36 = .ok (.if_icmp .ne 16, 3) := by decide +kernel
theorem dX12_next_39 : decode cX12_next 39 = .ok (.aload_n 0, 1) := by decide +kernel
theorem dX12_next_40 : decode cX12_next 40 = .ok (.dup, 1) := by decide +kernel
theorem dX12_next_41 : decode cX12_next 41 = .ok (.getfield 105, 3) := by decide +kernel
theorem dX12_next_44 : decode cX12_next 44 = .ok (.iconst 1, 1) := by decide +kernel
theorem dX12_next_45 : decode cX12_next 45 = .ok (.iadd, 1) := by decide +kernel
theorem dX12_next_46 : decode cX12_next 46 = .ok (.putfield 105, 3) := by decide +kernel
theorem dX12_next_49 : decode cX12_next 49 = .ok (.goto (-49), 3) := by decide +kernel
theorem dX12_next_52 : decode cX12_next 52 = .ok (.aload_n 0, 1) := by decide +kernel
theorem dX12_next_53 : decode cX12_next 53 = .ok (.aload_n 0, 1) := by decide +kernel
theorem dX12_next_54 : decode cX12_next 54 = .ok (.getfield 105, 3) := by decide +kernel
theorem dX12_next_57 : decode cX12_next 57 = .ok (.putfield 108, 3) := by decide +kernel
theorem dX12_next_60 : decode cX12_next 60 = .ok (.aload_n 0, 1) := by decide +kernel
theorem dX12_next_61 : decode cX12_next 61 = .ok (.iconst 0, 1) := by decide +kernel
theorem dX12_next_62 : decode cX12_next 62 = .ok (.putfield 111, 3) := by decide +kernel
theorem dX12_next_65 : decode cX12_next 65 = .ok (.aload_n 0, 1) := by decide +kernel
theorem dX12_next_66 : decode cX12_next 66 = .ok (.iconst 0, 1) := by decide +kernel
theorem dX12_next_67 : decode cX12_next 67 = .ok (.putfield 114, 3) := by decide +kernel
theorem dX12_next_70 : decode cX12_next 70 = .ok (.aload_n 0, 1) := by decide +kernel
theorem dX12_next_71 : decode cX12_next 71 = .ok (.getfield 105, 3) := by decide +kernel
theorem dX12_next_74 : decode cX12_next 74 = .ok (.aload_n 0, 1) := by decide +kernel
theorem dX12_next_75 : decode cX12_next 75 = .ok (.getfield 67, 3) := by decide +kernel
theorem dX12_next_78 : decode cX12_next 78 = .ok (.if_icmp .ne 4, 3) := by decide +kernel
theorem dX12_next_81 : decode cX12_next 81 = .ok (.return_, 1) := by decide +kernel
theorem dX12_next_82 : decode cX12_next 82 = .ok (.aload_n 0, 1) := by decide +kernel
theorem dX12_next_83 : decode cX12_next 83 = .ok (.getfield 25, 3) := by decide +kernel
theorem dX12_next_86 : decode cX12_next 86 = .ok (.aload_n 0, 1) := by decide +kernel
theorem dX12_next_87 : decode cX12_next 87 = .ok (.getfield 105, 3) := by decide +kernel
theorem dX12_next_90 : decode cX12_next 90 = .ok (.iaload, 1) := by decide +kernel
theorem dX12_next_91 : decode cX12_next 91 = .ok (.istore_n 1, 1) := by decide +kernel
theorem dX12_next_92 : decode cX12_next 92 = .ok (.iload_n 1, 1) := by decide +kernel
theorem dX12_next_93 : decode cX12_next 93 = .ok (.bipush 97, 2) := by decide +kernel
theorem dX12_next_95 : decode cX12_next 95 = .ok (.bipush 122, 2) := by decide +kernel
theorem dX12_next_97 : decode cX12_next 97 = .ok (.invokestatic 75, 3) := by decide +kernel
theorem dX12_next_100 : decode cX12_next 100 = .ok (.ifCond .eq 117, 3) := by decide +kernel
theorem dX12_next_103 : decode cX12_next 103 = .ok (.aload_n 0, 1) := by decide +kernel
theorem dX12_next_104 : decode cX12_next 104 = .ok (.getfield 105, 3) := by decide +kernel
theorem dX12_next_107 : decode cX12_next 107 = .ok (.aload_n 0, 1) := by decide +kernel
theorem dX12_next_108 : decode cX12_next 108 = .ok (.getfield 67, 3) := by decide +kernel
theorem dX12_next_111 : decode cX12_next 111 = .ok (.if_icmp .ge 35, 3) := by decide +kernel
theorem dX12_next_114 : decode cX12_next 114 = .ok (.aload_n 0, 1) := by decide +kernel
theorem dX12_next_115 : decode cX12_next 115 = .ok (.getfield 25, 3) := by decide +kernel
theorem dX12_next_118 : decode cX12_next 118 = .ok (.aload_n 0, 1) := by decide +kernel
theorem dX12_next_119 : decode cX12_next 119 = .ok (.getfield 105, 3) := by decide +kernel
theorem dX12_next_122 : decode cX12_next 122 = .ok (.iaload, 1) := by decide +kernel
theorem dX12_next_123 : decode cX12_next 123 = .ok (.bipush 97, 2) := by decide +kernel
theorem dX12_next_125 : decode cX12_next 125 = .ok (.bipush 122, 2) := by decide +kernel
theorem dX12_next_127 : decode cX12_next 127 = .ok (.invokestatic 75, 3) := by decide +kernel
theorem dX12_next_130 : decode cX12_next 130 = .ok (.ifCond .eq 16, 3) := by decide +kernel
theorem dX12_next_133 : decode cX12_next 133 = .ok (.aload_n 0, 1) := by decide +kernel
theorem dX12_next_134 : decode cX12_next 134 = .ok (.dup, 1) := by decide +kernel
theorem dX12_next_135 : decode cX12_next 135 = .ok (.getfield 105, 3) := by decide +kernel
theorem dX12_next_138 : decode cX12_next 138 = .ok (.iconst 1, 1) := by decide +kernel
theorem dX12_next_139 : decode cX12_next 139 = .ok (.iadd, 1) := by decide +kernel
theorem dX12_next_140 : decode cX12_next 140 = .ok (.putfield 105, 3) := by decide +kernel
theorem dX12_next_143 : decode cX12_next 143 = .ok (.goto (-40), 3) := by decide +kernel
theorem dX12_next_146 : decode cX12_next 146 = .ok (.aload_n 0, 1) := by decide +kernel
theorem dX12_next_147 : decode cX12_next 147 = .ok (.aload_n 0, 1) := by decide +kernel
theorem dX12_next_148 : decode cX12_next 148 = .ok (.getfield 108, 3) := by decide +kernel
theorem dX12_next_151 : decode cX12_next 151 = .ok (.aload_n 0, 1) := by decide +kernel
theorem dX12_next_152 : decode cX12_next 152 = .ok (.getfield 105, 3) := by decide +kernel
theorem dX12_next_155 : decode cX12_next 155 = .ok (.invokevirtual 117, 3) := by decide +kernel
theorem dX12_next_158 : decode cX12_next 158 = .ok (.istore_n 2, 1) := by decide +kernel
theorem dX12_next_159 : decode cX12_next 159 = .ok (.aload_n 0, 1) := by decide +kernel
theorem dX12_next_160 : decode cX12_next 160 = .ok (.iload_n 2, 1) := by decide +kernel
theorem dX12_next_161 : decode cX12_next 161 = .ok (.iconst 3, 1) := by decide +kernel
theorem dX12_next_162 : decode cX12_next 162 = .ok (.if_icmp .ge 7, 3) := by decide +kernel
theorem dX12_next_165 : decode cX12_next 165 = .ok (.iconst 3, 1) := by decide +kernel
theorem dX12_next_166 : decode cX12_next 166 = .ok (.goto 29, 3) := by decide +kernel
theorem dX12_next_169 : decode cX12_next 169 = .ok (.iload_n 2, 1) := by decide +kernel
theorem dX12_next_170 : decode cX12_next 170 = .ok (.bipush 9, 2) := by decide +kernel
theorem dX12_next_172 : decode cX12_next 172 = .ok (.if_icmp .ge 7, 3) := by decide +kernel
theorem dX12_next_175 : decode cX12_next 175 = .ok (.iconst 2, 1) := by decide +kernel
theorem dX12_next_176 : decode cX12_next 176 = .ok (.goto 19, 3) := by decide +kernel
theorem dX12_next_179 : decode cX12_next 179 = .ok (.iload_n 2, 1) := by decide +kernel
theorem dX12_next_180 : decode cX12_next 180 = .ok (.bipush 12, 2) := by decide +kernel
theorem dX12_next_182 : decode cX12_next 182 = .ok (.if_icmp .ne 7, 3) := by decide +kernel
theorem dX12_next_185 : decode cX12_next 185 = .ok (.iconst (-1), 1) := by decide +kernel
theorem dX12_next_186 : decode cX12_next 186 = .ok (.goto 9, 3) := by decide +kernel
theorem dX12_next_189 : decode cX12_next 189 = .ok (.iconst 4, 1) := by decide +kernel
theorem dX12_next_190 : decode cX12_next 190 = .ok (.iload_n 2, 1) := by decide +kernel
theorem dX12_next_191 : decode cX12_next 191 = .ok (.iadd, 1) := by decide +kernel
theorem dX12_next_192 : decode cX12_next 192 = .ok (.bipush 9, 2) := by decide +kernel
theorem dX12_next_194 : decode cX12_next 194 = .ok (.isub, 1) := by decide +kernel
theorem dX12_next_195 : decode cX12_next 195 = .ok (.putfield 111, 3) := by decide +kernel
theorem dX12_next_198 : decode cX12_next 198 = .ok (.aload_n 0, 1) := by decide +kernel
theorem dX12_next_199 : decode cX12_next 199 = .ok (.iload_n 2, 1) := by decide +kernel
theorem dX12_next_200 : decode cX12_next 200 = .ok (.iconst 3, 1) := by decide +kernel
theorem dX12_next_201 : decode cX12_next 201 = .ok (.if_icmp .ge 7, 3) := by decide +kernel
theorem dX12_next_204 : decode cX12_next 204 = .ok (.iload_n 2, 1) := by decide +kernel
theorem dX12_next_205 : decode cX12_next 205 = .ok (.goto 6, 3) := by decide +kernel
theorem dX12_next_208 : decode cX12_next 208 = .ok (.iload_n 2, 1) := by decide +kernel
theorem dX12_next_209 : decode cX12_next 209 = .ok (.iconst 3, 1) := by decide +kernel
theorem dX12_next_210 : decode cX12_next 210 = .ok (.isub, 1) := by decide +kernel
theorem dX12_next_211 : decode cX12_next 211 = .ok (.putfield 114, 3) := by decide +kernel
theorem dX12_next_214 : decode cX12_next 214 = .ok (.goto 189, 3) := by decide +kernel
theorem dX12_next_217 : decode cX12_next 217 = .ok (.iload_n 1, 1) := by decide +kernel
theorem dX12_next_218 : decode cX12_next 218 = .ok (.bipush 48, 2) := by decide +kernel
theorem dX12_next_220 : decode cX12_next 220 = .ok (.bipush 57, 2) := by decide +kernel
theorem dX12_next_222 : decode cX12_next 222 = .ok (.invokestatic 75, 3) := by decide +kernel
theorem dX12_next_225 : decode cX12_next 225 = .ok (.ifCond .eq 101, 3) := by decide +kernel
theorem dX12_next_228 : decode cX12_next 228 = .ok (.iconst 0, 1) := by decide +kernel
theorem dX12_next_229 : decode cX12_next 229 = .ok (.istore_n 2, 1) := by decide +kernel
theorem dX12_next_230 : decode cX12_next 230 = .ok (.aload_n 0, 1) := by decide +kernel
theorem dX12_next_231 : decode cX12_next 231 = .ok (.getfield 105, 3) := by decide +kernel
theorem dX12_next_234 : decode cX12_next 234 = .ok (.aload_n 0, 1) := by decide +kernel
theorem dX12_next_235 : decode cX12_next 235 = .ok (.getfield 67, 3) := by decide +kernel
theorem dX12_next_238 : decode cX12_next 238 = .ok (.if_icmp .ge 71, 3) := by decide +kernel
theorem dX12_next_241 : decode cX12_next 241 = .ok (.aload_n 0, 1) := by decide +kernel
theorem dX12_next_242 : decode cX12_next 242 = .ok (.getfield 25, 3) := by decide +kernel
theorem dX12_next_245 : decode cX12_next 245 = .ok (.aload_n 0, 1) := by decide +kernel
theorem dX12_next_246 : decode cX12_next 246 = .ok (.getfield 105, 3) := by decide +kernel
theorem dX12_next_249 : decode cX12_next 249 = .ok (.iaload, 1) := by decide +kernel
theorem dX12_next_250 : decode cX12_next 250 = .ok (.bipush 48, 2) := by decide +kernel
theorem dX12_next_252 : decode cX12_next 252 = .ok (.bipush 57, 2) := by decide +kernel
theorem dX12_next_254 : decode cX12_next 254 = .ok (.invokestatic 75, 3) := by decide +kernel
theorem dX12_next_257 : decode cX12_next 257 = .ok (.ifCond .eq 52, 3) := by decide +kernel
theorem dX12_next_260 : decode cX12_next 260 = .ok (.aload_n 0, 1) := by decide +kernel
theorem dX12_next_261 : decode cX12_next 261 = .ok (.iload_n 2, 1) := by decide +kernel
theorem dX12_next_262 : decode cX12_next 262 = .ok (.iconst 4, 1) := by decide +kernel
theorem dX12_next_263 : decode cX12_next 263 = .ok (.if_icmp .ge 26, 3) := by decide +kernel
theorem dX12_next_266 : decode cX12_next 266 = .ok (.bipush 10, 2) := by decide +kernel
theorem dX12_next_268 : decode cX12_next 268 = .ok (.aload_n 0, 1) := by decide +kernel
theorem dX12_next_269 : decode cX12_next 269 = .ok (.getfield 114, 3) := by decide +kernel
theorem dX12_next_272 : decode cX12_next 272 = .ok (.imul, 1) := by decide +kernel
theorem dX12_next_273 : decode cX12_next 273 = .ok (.aload_n 0, 1) := by decide +kernel
theorem dX12_next_274 : decode cX12_next 274 = .ok (.getfield 25, 3) := by decide +kernel
theorem dX12_next_277 : decode cX12_next 277 = .ok (.aload_n 0, 1) := by decide +kernel
theorem dX12_next_278 : decode cX12_next 278 = .ok (.getfield 105, 3) := by decide +kernel
theorem dX12_next_281 : decode cX12_next 281 = .ok (.iaload, 1) := by decide +kernel
theorem dX12_next_282 : decode cX12_next 282 = .ok (.iadd, 1) := by decide +kernel
theorem dX12_next_283 : decode cX12_next 283 = .ok (.bipush 48, 2) := by decide +kernel
theorem dX12_next_285 : decode cX12_next 285 = .ok (.isub, 1) := by decide +kernel
theorem dX12_next_286 : decode cX12_next 286 = .ok (.goto 4, 3) := by decide +kernel
theorem dX12_next_289 : decode cX12_next 289 = .ok (.iconst 0, 1) := by decide +kernel
theorem dX12_next_290 : decode cX12_next 290 = .ok (.putfield 114, 3) := by decide +kernel
theorem dX12_next_293 : decode cX12_next 293 = .ok (.iinc 2 1, 3) := by decide +kernel
theorem dX12_next_296 : decode cX12_next 296 = .ok (.aload_n 0, 1) := by decide +kernel
theorem dX12_next_297 : decode cX12_next 297 = .ok (.dup, 1) := by decide +kernel
theorem dX12_next_298 : decode cX12_next 298 = .ok (.getfield 105, 3) := by decide +kernel
theorem dX12_next_301 : decode cX12_next 301 = .ok (.iconst 1, 1) := by decide +kernel
theorem dX12_next_302 : decode cX12_next 302 = .ok (.iadd, 1) := by decide +kernel
theorem dX12_next_303 : decode cX12_next 303 = .ok (.putfield 105, 3) := by decide +kernel
theorem dX12_next_306 : decode cX12_next 306 = .ok (.goto (-76), 3) := by decide +kernel
theorem dX12_next_309 : decode cX12_next 309 = .ok (.aload_n 0, 1) := by decide +kernel
theorem dX12_next_310 : decode cX12_next 310 = .ok (.iload_n 2, 1) := by decide +kernel
theorem dX12_next_311 : decode cX12_next 311 = .ok (.iconst 4, 1) := by decide +kernel
theorem dX12_next_312 : decode cX12_next 312 = .ok (.if_icmp .le 7, 3) := by decide +kernel
theorem dX12_next_315 : decode cX12_next 315 = .ok (.iconst (-1), 1) := by decide +kernel
theorem dX12_next_316 : decode cX12_next 316 = .ok (.goto 4, 3) := by decide +kernel
theorem dX12_next_319 : decode cX12_next 319 = .ok (.iconst 1, 1) := by decide +kernel
theorem dX12_next_320 : decode cX12_next 320 = .ok (.putfield 111, 3) := by decide +kernel
theorem dX12_next_323 : decode cX12_next 323 = .ok (.goto 80, 3) := by decide +kernel
theorem dX12_next_326 : decode cX12_next 326 = .ok (.iload_n 1, 1) := by decide +kernel
theorem dX12_next_327 : decode cX12_next 327 = .ok (.bipush 40, 2) := by decide +kernel
theorem dX12_next_329 : decode cX12_next 329 = .ok (.if_icmp .eq 45, 3) := by decide +kernel
theorem dX12_next_332 : decode cX12_next 332 = .ok (.iload_n 1, 1) := by decide +kernel
theorem dX12_next_333 : decode cX12_next 333 = .ok (.bipush 41, 2) := by decide +kernel
theorem dX12_next_335 : decode cX12_next 335 = .ok (.if_icmp .eq 39, 3) := by decide +kernel
theorem dX12_next_338 : decode cX12_next 338 = .ok (.iload_n 1, 1) := by decide +kernel
theorem dX12_next_339 : decode cX12_next 339 = .ok (.bipush 59, 2) := by decide +kernel
theorem dX12_next_341 : decode cX12_next 341 = .ok (.if_icmp .eq 33, 3) := by decide +kernel
theorem dX12_next_344 : decode cX12_next 344 = .ok (.iload_n 1, 1) := by decide +kernel
theorem dX12_next_345 : decode cX12_next 345 = .ok (.bipush 43, 2) := by decide +kernel
theorem dX12_next_347 : decode cX12_next 347 = .ok (.if_icmp .eq 27, 3) := by decide +kernel
theorem dX12_next_350 : decode cX12_next 350 = .ok (.iload_n 1, 1) := by decide +kernel
theorem dX12_next_351 : decode cX12_next 351 = .ok (.bipush 45, 2) := by decide +kernel
theorem dX12_next_353 : decode cX12_next 353 = .ok (.if_icmp .eq 21, 3) := by decide +kernel
theorem dX12_next_356 : decode cX12_next 356 = .ok (.iload_n 1, 1) := by decide +kernel
theorem dX12_next_357 : decode cX12_next 357 = .ok (.bipush 42, 2) := by decide +kernel
theorem dX12_next_359 : decode cX12_next 359 = .ok (.if_icmp .eq 15, 3) := by decide +kernel
theorem dX12_next_362 : decode cX12_next 362 = .ok (.iload_n 1, 1) := by decide +kernel
theorem dX12_next_363 : decode cX12_next 363 = .ok (.bipush 60, 2) := by decide +kernel
theorem dX12_next_365 : decode cX12_next 365 = .ok (.if_icmp .eq 9, 3) := by decide +kernel
theorem dX12_next_368 : decode cX12_next 368 = .ok (.iload_n 1, 1) := by decide +kernel
theorem dX12_next_369 : decode cX12_next 369 = .ok (.bipush 61, 2) := by decide +kernel
theorem dX12_next_371 : decode cX12_next 371 = .ok (.if_icmp .ne 7, 3) := by decide +kernel
theorem dX12_next_374 : decode cX12_next 374 = .ok (.iconst 1, 1) := by decide +kernel
theorem dX12_next_375 : decode cX12_next 375 = .ok (.goto 4, 3) := by decide +kernel
theorem dX12_next_378 : decode cX12_next 378 = .ok (.iconst 0, 1) := by decide +kernel
theorem dX12_next_379 : decode cX12_next 379 = .ok (.istore_n 2, 1) := by decide +kernel
theorem dX12_next_380 : decode cX12_next 380 = .ok (.aload_n 0, 1) := by decide +kernel
theorem dX12_next_381 : decode cX12_next 381 = .ok (.iload_n 2, 1) := by decide +kernel
theorem dX12_next_382 : decode cX12_next 382 = .ok (.ifCond .eq 7, 3) := by decide +kernel
theorem dX12_next_385 : decode cX12_next 385 = .ok (.iload_n 1, 1) := by decide +kernel
theorem dX12_next_386 : decode cX12_next 386 = .ok (.goto 4, 3) := by decide +kernel
theorem dX12_next_389 : decode cX12_next 389 = .ok (.iconst (-1), 1) := by decide +kernel
theorem dX12_next_390 : decode cX12_next 390 = .ok (.putfield 111, 3) := by decide +kernel
theorem dX12_next_393 : decode cX12_next 393 = .ok (.aload_n 0, 1) := by decide +kernel
theorem dX12_next_394 : decode cX12_next 394 = .ok (.dup, 1) := by decide +kernel
theorem dX12_next_395 : decode cX12_next 395 = .ok (.getfield 105, 3) := by decide +kernel
theorem dX12_next_398 : decode cX12_next 398 = .ok (.iconst 1, 1) := by decide +kernel
theorem dX12_next_399 : decode cX12_next 399 = .ok (.iadd, 1) := by decide +kernel
theorem dX12_next_400 : decode cX12_next 400 = .ok (.putfield 105, 3) := by decide +kernel
theorem dX12_next_403 : decode cX12_next 403 = .ok (.return_, 1) := by decide +kernel
set_option maxRecDepth 100000 in
set_option maxHeartbeats 4000000 in
theorem kX12_next (l : Launch) (w : wT) (hw : yOk w 20) (σ : Hp)  (K : Hp → Prop) (hv : VX12_next K σ ) : yMet l w mcf 20 yX12_next cX12_next 3 none 2 [.ref (w.1 0)] σ (yQv w mcf 20 K) := by
  unfold VX12_next at hv
  refine y_start (lv0 := [(0, .ref (w.1 0))]) (by decide +kernel) (own := RX12) rfl hw (Nat.le_of_ble_eq_true rfl) rfl (fun p e s m below meth c A E => ?_)
  have hb390 : ∀ (σ : Hp) (s0 : Int32), VX12_next_b390 K σ s0 → YY p l e (yRm 2) s m [.ref (w.1 0)].toArray below meth c w mcf 20 A (MQ below (yQv w mcf 20 K A) [.ref (w.1 0)].toArray s 0 0 A) 3 σ 390 [(0, .ref (w.1 0))] [.int s0, .ref (w.1 0)] := by
    intro σ s0 hv
    unfold VX12_next_b390 at hv
    refine pf_X12_23 E (by decide) (by decide) wm_506 dX12_next_390 ?_
    refine y_nmH (fun u35 hu35 => ?_)
    replace hv := hv u35 hu35
    refine y_aload_n E dX12_next_393 0 rfl ?_
    refine y_dup E dX12_next_394 rfl ?_
    refine gf_X12_21 E (by decide) (by decide) wm_504 dX12_next_395 ?_
    refine y_iconst (v := 1) E dX12_next_398 (by decide) ?_
    refine y_iadd E dX12_next_399 ?_
    refine pf_X12_21 E (by decide) (by decide) wm_504 dX12_next_400 ?_
    refine y_nmH (fun u36 hu36 => ?_)
    replace hv := hv u36 hu36
    exact y_vret E dX12_next_403 hv
  have hb379 : ∀ (σ : Hp) (l1 : Int32) (s0 : Int32), VX12_next_b379 K σ l1 s0 → YY p l e (yRm 2) s m [.ref (w.1 0)].toArray below meth c w mcf 20 A (MQ below (yQv w mcf 20 K A) [.ref (w.1 0)].toArray s 0 0 A) 3 σ 379 [(0, .ref (w.1 0)), (1, .int l1)] [.int s0] := by
    intro σ l1 s0 hv
    unfold VX12_next_b379 at hv
    refine y_istore_n (lv' := [(2, .int s0), (0, .ref (w.1 0)), (1, .int l1)]) E dX12_next_379 (by decide) rfl ?_
    refine y_aload_n E dX12_next_380 1 rfl ?_
    refine y_iload_n E dX12_next_381 0 rfl ?_
    refine y_if_eq (tgt := 389) E dX12_next_382 (by decide) (fun c24 => ?_) (fun c24 => ?_)
    · replace hv := ite_t hv c24
      refine y_iconst (v := (-1)) E dX12_next_389 (by decide) ?_
      refine y_lv (lv' := [(0, .ref (w.1 0))]) [1] rfl ?_
      exact hb390 σ (-1) hv
    · replace hv := ite_f hv c24
      refine y_iload_n E dX12_next_385 2 rfl ?_
      refine y_goto (tgt := 390) E dX12_next_386 (by decide) ?_
      refine y_lv (lv' := [(0, .ref (w.1 0))]) [1] rfl ?_
      exact hb390 σ l1 hv
  have hb309 : ∀ (σ : Hp) (l2 : Int32), VX12_next_b309 K σ l2 → YY p l e (yRm 2) s m [.ref (w.1 0)].toArray below meth c w mcf 20 A (MQ below (yQv w mcf 20 K A) [.ref (w.1 0)].toArray s 0 0 A) 3 σ 309 [(0, .ref (w.1 0)), (2, .int l2)] [] := by
    intro σ l2 hv
    unfold VX12_next_b309 at hv
    refine y_aload_n E dX12_next_309 0 rfl ?_
    refine y_iload_n E dX12_next_310 1 rfl ?_
    refine y_iconst (v := 4) E dX12_next_311 (by decide) ?_
    refine y_icmp_le (tgt := 319) E dX12_next_312 (by decide) (fun c37 => ?_) (fun c37 => ?_)
    · replace hv := ite_t hv c37
      refine y_iconst (v := 1) E dX12_next_319 (by decide) ?_
      refine pf_X12_23 E (by decide) (by decide) wm_506 dX12_next_320 ?_
      refine y_nmH (fun u38 hu38 => ?_)
      replace hv := hv u38 hu38
      refine y_goto (tgt := 403) E dX12_next_323 (by decide) ?_
      exact y_vret E dX12_next_403 hv
    · replace hv := ite_f hv c37
      refine y_iconst (v := (-1)) E dX12_next_315 (by decide) ?_
      refine y_goto (tgt := 320) E dX12_next_316 (by decide) ?_
      refine pf_X12_23 E (by decide) (by decide) wm_506 dX12_next_320 ?_
      refine y_nmH (fun u39 hu39 => ?_)
      replace hv := hv u39 hu39
      refine y_goto (tgt := 403) E dX12_next_323 (by decide) ?_
      exact y_vret E dX12_next_403 hv
  have hL230 : ∀ (n230 : Nat) (σ : Hp) (l2 : Int32), VX12_next_L230 K n230 σ l2 → YY p l e (yRm 2) s m [.ref (w.1 0)].toArray below meth c w mcf 20 A (MQ below (yQv w mcf 20 K A) [.ref (w.1 0)].toArray s 0 0 A) 3 σ 230 [(0, .ref (w.1 0)), (2, .int l2)] [] := by
    intro n230
    induction n230 with
    | zero => exact fun _ _ hv => (by unfold VX12_next_L230 at hv; exact hv.elim)
    | succ n230 ih230 =>
      have hb290 : ∀ (σ : Hp) (l2 : Int32) (s0 : Int32), VX12_next_b290 K (VX12_next_L230 K n230) σ l2 s0 → YY p l e (yRm 2) s m [.ref (w.1 0)].toArray below meth c w mcf 20 A (MQ below (yQv w mcf 20 K A) [.ref (w.1 0)].toArray s 0 0 A) 3 σ 290 [(0, .ref (w.1 0)), (2, .int l2)] [.int s0, .ref (w.1 0)] := by
        intro σ l2 s0 hv
        unfold VX12_next_b290 at hv
        refine pf_X12_24 E (by decide) (by decide) wm_507 dX12_next_290 ?_
        refine y_nmH (fun u40 hu40 => ?_)
        replace hv := hv u40 hu40
        obtain ⟨x41, hx41⟩ : ∃ z : Int32, z = l2 + 1 := ⟨_, rfl⟩
        replace hv := hv x41 hx41
        refine y_iinc (v := x41) (lv' := [(2, .int x41), (0, .ref (w.1 0))]) E dX12_next_293 1 rfl (by rw [hx41]; rfl) (by decide) rfl ?_
        refine y_aload_n E dX12_next_296 1 rfl ?_
        refine y_dup E dX12_next_297 rfl ?_
        refine gf_X12_21 E (by decide) (by decide) wm_504 dX12_next_298 ?_
        refine y_iconst (v := 1) E dX12_next_301 (by decide) ?_
        refine y_iadd E dX12_next_302 ?_
        refine pf_X12_21 E (by decide) (by decide) wm_504 dX12_next_303 ?_
        refine y_nmH (fun u42 hu42 => ?_)
        replace hv := hv u42 hu42
        refine y_goto (tgt := 230) E dX12_next_306 (by decide) ?_
        refine y_lv (lv' := [(0, .ref (w.1 0)), (2, .int x41)]) [1, 0] rfl ?_
        exact ih230 u42 x41 hv
      intro σ l2 hv
      unfold VX12_next_L230 at hv
      refine y_aload_n E dX12_next_230 0 rfl ?_
      refine gf_X12_21 E (by decide) (by decide) wm_504 dX12_next_231 ?_
      refine y_aload_n E dX12_next_234 0 rfl ?_
      refine gf_X12_8 E (by decide) (by decide) wm_498 dX12_next_235 ?_
      refine y_icmp_ge (tgt := 309) E dX12_next_238 (by decide) (fun c25 => ?_) (fun c25 => ?_)
      · replace hv := ite_t hv c25
        exact hb309 σ l2 hv
      · replace hv := ite_f hv c25
        refine y_aload_n E dX12_next_241 0 rfl ?_
        refine gf_X12_7 E (by decide) (by decide) wm_502 dX12_next_242 ?_
        refine y_aload_n E dX12_next_245 0 rfl ?_
        refine gf_X12_21 E (by decide) (by decide) wm_504 dX12_next_246 ?_
        obtain ⟨hi, hv⟩ := hv
        refine y_iald E (Nat.lt_of_lt_of_le (show 6 < 7 by decide) (by decide)) (mc_m_tape (by decide) (by decide)) hi dX12_next_249 ?_
        refine y_bipush (v := 48) E dX12_next_250 (by decide) ?_
        refine y_bipush (v := 57) E dX12_next_252 (by decide) ?_
        refine y_calli E (y_runS E (rest := []) (kX12_in l w E.2.2.1 σ (σ 6 (σ 0 21).toNatClampNeg) 48 57 _ hv) (y_cwS 3 E.1.2.2.2.2 wm_477 wm_478 wm_479 wm_480 (by decide +kernel) (yRm_le (by decide) (by decide))) rfl rfl (Nat.le_of_ble_eq_true rfl) dX12_next_254) (fun v26 u27 hk => ?_)
        clear hv
        have hv := hk
        clear hk
        refine y_if_eq (tgt := 309) E dX12_next_257 (by decide) (fun c28 => ?_) (fun c28 => ?_)
        · replace hv := ite_t hv c28
          exact hb309 u27 l2 hv
        · replace hv := ite_f hv c28
          refine y_aload_n E dX12_next_260 0 rfl ?_
          refine y_iload_n E dX12_next_261 1 rfl ?_
          refine y_iconst (v := 4) E dX12_next_262 (by decide) ?_
          refine y_icmp_ge (tgt := 289) E dX12_next_263 (by decide) (fun c29 => ?_) (fun c29 => ?_)
          · replace hv := ite_t hv c29
            refine y_iconst (v := 0) E dX12_next_289 (by decide) ?_
            exact hb290 u27 l2 0 hv
          · replace hv := ite_f hv c29
            refine y_bipush (v := 10) E dX12_next_266 (by decide) ?_
            refine y_aload_n E dX12_next_268 0 rfl ?_
            refine gf_X12_24 E (by decide) (by decide) wm_507 dX12_next_269 ?_
            refine y_imul E dX12_next_272 ?_
            refine y_aload_n E dX12_next_273 0 rfl ?_
            refine gf_X12_7 E (by decide) (by decide) wm_502 dX12_next_274 ?_
            refine y_aload_n E dX12_next_277 0 rfl ?_
            refine gf_X12_21 E (by decide) (by decide) wm_504 dX12_next_278 ?_
            obtain ⟨hi, hv⟩ := hv
            refine y_iald E (Nat.lt_of_lt_of_le (show 6 < 7 by decide) (by decide)) (mc_m_tape (by decide) (by decide)) hi dX12_next_281 ?_
            refine y_iadd E dX12_next_282 ?_
            refine y_bipush (v := 48) E dX12_next_283 (by decide) ?_
            refine y_isub E dX12_next_285 ?_
            refine y_goto (tgt := 290) E dX12_next_286 (by decide) ?_
            exact hb290 u27 l2 (((10 * (u27 0 24)) + (u27 6 (u27 0 21).toNatClampNeg)) - 48) hv
  have hb195 : ∀ (σ : Hp) (l2 : Int32) (s0 : Int32), VX12_next_b195 K σ l2 s0 → YY p l e (yRm 2) s m [.ref (w.1 0)].toArray below meth c w mcf 20 A (MQ below (yQv w mcf 20 K A) [.ref (w.1 0)].toArray s 0 0 A) 3 σ 195 [(0, .ref (w.1 0)), (2, .int l2)] [.int s0, .ref (w.1 0)] := by
    intro σ l2 s0 hv
    unfold VX12_next_b195 at hv
    refine pf_X12_23 E (by decide) (by decide) wm_506 dX12_next_195 ?_
    refine y_nmH (fun u48 hu48 => ?_)
    replace hv := hv u48 hu48
    refine y_aload_n E dX12_next_198 0 rfl ?_
    refine y_iload_n E dX12_next_199 1 rfl ?_
    refine y_iconst (v := 3) E dX12_next_200 (by decide) ?_
    refine y_icmp_ge (tgt := 208) E dX12_next_201 (by decide) (fun c49 => ?_) (fun c49 => ?_)
    · replace hv := ite_t hv c49
      refine y_iload_n E dX12_next_208 1 rfl ?_
      refine y_iconst (v := 3) E dX12_next_209 (by decide) ?_
      refine y_isub E dX12_next_210 ?_
      refine pf_X12_24 E (by decide) (by decide) wm_507 dX12_next_211 ?_
      refine y_nmH (fun u50 hu50 => ?_)
      replace hv := hv u50 hu50
      refine y_goto (tgt := 403) E dX12_next_214 (by decide) ?_
      exact y_vret E dX12_next_403 hv
    · replace hv := ite_f hv c49
      refine y_iload_n E dX12_next_204 1 rfl ?_
      refine y_goto (tgt := 211) E dX12_next_205 (by decide) ?_
      refine pf_X12_24 E (by decide) (by decide) wm_507 dX12_next_211 ?_
      refine y_nmH (fun u51 hu51 => ?_)
      replace hv := hv u51 hu51
      refine y_goto (tgt := 403) E dX12_next_214 (by decide) ?_
      exact y_vret E dX12_next_403 hv
  have hb146 : ∀ (σ : Hp), VX12_next_b146 K σ → YY p l e (yRm 2) s m [.ref (w.1 0)].toArray below meth c w mcf 20 A (MQ below (yQv w mcf 20 K A) [.ref (w.1 0)].toArray s 0 0 A) 3 σ 146 [(0, .ref (w.1 0))] [] := by
    intro σ hv
    unfold VX12_next_b146 at hv
    refine y_aload_n E dX12_next_146 0 rfl ?_
    refine y_aload_n E dX12_next_147 0 rfl ?_
    refine gf_X12_22 E (by decide) (by decide) wm_505 dX12_next_148 ?_
    refine y_aload_n E dX12_next_151 0 rfl ?_
    refine gf_X12_21 E (by decide) (by decide) wm_504 dX12_next_152 ?_
    refine y_calli E (y_runV E (rest := []) (kX12_wordFrom l w E.2.2.1 σ (σ 0 22) (σ 0 21) _ hv) (y_cwV 2 E.1.2.2.2.2 wm_508 wm_509 wm_510 wm_479 wm_511 (by decide +kernel) (yRm_le (by decide) (by decide))) (Nat.lt_of_lt_of_le (show 0 < 1 by decide) (by decide)) (mc_X12 (by decide) (by decide)) rfl rfl rfl (Nat.le_of_ble_eq_true rfl) dX12_next_155) (fun v43 u44 hk => ?_)
    clear hv
    have hv := hk
    clear hk
    refine y_istore_n (lv' := [(2, .int v43), (0, .ref (w.1 0))]) E dX12_next_158 (by decide) rfl ?_
    refine y_aload_n E dX12_next_159 1 rfl ?_
    refine y_iload_n E dX12_next_160 0 rfl ?_
    refine y_iconst (v := 3) E dX12_next_161 (by decide) ?_
    refine y_icmp_ge (tgt := 169) E dX12_next_162 (by decide) (fun c45 => ?_) (fun c45 => ?_)
    · replace hv := ite_t hv c45
      refine y_iload_n E dX12_next_169 0 rfl ?_
      refine y_bipush (v := 9) E dX12_next_170 (by decide) ?_
      refine y_icmp_ge (tgt := 179) E dX12_next_172 (by decide) (fun c46 => ?_) (fun c46 => ?_)
      · replace hv := ite_t hv c46
        refine y_iload_n E dX12_next_179 0 rfl ?_
        refine y_bipush (v := 12) E dX12_next_180 (by decide) ?_
        refine y_icmp_ne (tgt := 189) E dX12_next_182 (by decide) (fun c47 => ?_) (fun c47 => ?_)
        · replace hv := ite_f hv c47
          refine y_iconst (v := 4) E dX12_next_189 (by decide) ?_
          refine y_iload_n E dX12_next_190 0 rfl ?_
          refine y_iadd E dX12_next_191 ?_
          refine y_bipush (v := 9) E dX12_next_192 (by decide) ?_
          refine y_isub E dX12_next_194 ?_
          refine y_lv (lv' := [(0, .ref (w.1 0)), (2, .int v43)]) [1, 0] rfl ?_
          exact hb195 u44 v43 ((4 + v43) - 9) hv
        · replace hv := ite_t hv c47
          refine y_iconst (v := (-1)) E dX12_next_185 (by decide) ?_
          refine y_goto (tgt := 195) E dX12_next_186 (by decide) ?_
          refine y_lv (lv' := [(0, .ref (w.1 0)), (2, .int v43)]) [1, 0] rfl ?_
          exact hb195 u44 v43 (-1) hv
      · replace hv := ite_f hv c46
        refine y_iconst (v := 2) E dX12_next_175 (by decide) ?_
        refine y_goto (tgt := 195) E dX12_next_176 (by decide) ?_
        refine y_lv (lv' := [(0, .ref (w.1 0)), (2, .int v43)]) [1, 0] rfl ?_
        exact hb195 u44 v43 2 hv
    · replace hv := ite_f hv c45
      refine y_iconst (v := 3) E dX12_next_165 (by decide) ?_
      refine y_goto (tgt := 195) E dX12_next_166 (by decide) ?_
      refine y_lv (lv' := [(0, .ref (w.1 0)), (2, .int v43)]) [1, 0] rfl ?_
      exact hb195 u44 v43 3 hv
  have hL103 : ∀ (n103 : Nat) (σ : Hp), VX12_next_L103 K n103 σ → YY p l e (yRm 2) s m [.ref (w.1 0)].toArray below meth c w mcf 20 A (MQ below (yQv w mcf 20 K A) [.ref (w.1 0)].toArray s 0 0 A) 3 σ 103 [(0, .ref (w.1 0))] [] := by
    intro n103
    induction n103 with
    | zero => exact fun _ hv => (by unfold VX12_next_L103 at hv; exact hv.elim)
    | succ n103 ih103 =>
      intro σ hv
      unfold VX12_next_L103 at hv
      refine y_aload_n E dX12_next_103 0 rfl ?_
      refine gf_X12_21 E (by decide) (by decide) wm_504 dX12_next_104 ?_
      refine y_aload_n E dX12_next_107 0 rfl ?_
      refine gf_X12_8 E (by decide) (by decide) wm_498 dX12_next_108 ?_
      refine y_icmp_ge (tgt := 146) E dX12_next_111 (by decide) (fun c30 => ?_) (fun c30 => ?_)
      · replace hv := ite_t hv c30
        exact hb146 σ hv
      · replace hv := ite_f hv c30
        refine y_aload_n E dX12_next_114 0 rfl ?_
        refine gf_X12_7 E (by decide) (by decide) wm_502 dX12_next_115 ?_
        refine y_aload_n E dX12_next_118 0 rfl ?_
        refine gf_X12_21 E (by decide) (by decide) wm_504 dX12_next_119 ?_
        obtain ⟨hi, hv⟩ := hv
        refine y_iald E (Nat.lt_of_lt_of_le (show 6 < 7 by decide) (by decide)) (mc_m_tape (by decide) (by decide)) hi dX12_next_122 ?_
        refine y_bipush (v := 97) E dX12_next_123 (by decide) ?_
        refine y_bipush (v := 122) E dX12_next_125 (by decide) ?_
        refine y_calli E (y_runS E (rest := []) (kX12_in l w E.2.2.1 σ (σ 6 (σ 0 21).toNatClampNeg) 97 122 _ hv) (y_cwS 3 E.1.2.2.2.2 wm_477 wm_478 wm_479 wm_480 (by decide +kernel) (yRm_le (by decide) (by decide))) rfl rfl (Nat.le_of_ble_eq_true rfl) dX12_next_127) (fun v31 u32 hk => ?_)
        clear hv
        have hv := hk
        clear hk
        refine y_if_eq (tgt := 146) E dX12_next_130 (by decide) (fun c33 => ?_) (fun c33 => ?_)
        · replace hv := ite_t hv c33
          exact hb146 u32 hv
        · replace hv := ite_f hv c33
          refine y_aload_n E dX12_next_133 0 rfl ?_
          refine y_dup E dX12_next_134 rfl ?_
          refine gf_X12_21 E (by decide) (by decide) wm_504 dX12_next_135 ?_
          refine y_iconst (v := 1) E dX12_next_138 (by decide) ?_
          refine y_iadd E dX12_next_139 ?_
          refine pf_X12_21 E (by decide) (by decide) wm_504 dX12_next_140 ?_
          refine y_nmH (fun u34 hu34 => ?_)
          replace hv := hv u34 hu34
          refine y_goto (tgt := 103) E dX12_next_143 (by decide) ?_
          exact ih103 u34 hv
  have hb52 : ∀ (σ : Hp), VX12_next_b52 K σ → YY p l e (yRm 2) s m [.ref (w.1 0)].toArray below meth c w mcf 20 A (MQ below (yQv w mcf 20 K A) [.ref (w.1 0)].toArray s 0 0 A) 3 σ 52 [(0, .ref (w.1 0))] [] := by
    intro σ hv
    unfold VX12_next_b52 at hv
    refine y_aload_n E dX12_next_52 0 rfl ?_
    refine y_aload_n E dX12_next_53 0 rfl ?_
    refine gf_X12_21 E (by decide) (by decide) wm_504 dX12_next_54 ?_
    refine pf_X12_22 E (by decide) (by decide) wm_505 dX12_next_57 ?_
    refine y_nmH (fun u4 hu4 => ?_)
    replace hv := hv u4 hu4
    refine y_aload_n E dX12_next_60 0 rfl ?_
    refine y_iconst (v := 0) E dX12_next_61 (by decide) ?_
    refine pf_X12_23 E (by decide) (by decide) wm_506 dX12_next_62 ?_
    refine y_nmH (fun u5 hu5 => ?_)
    replace hv := hv u5 hu5
    refine y_aload_n E dX12_next_65 0 rfl ?_
    refine y_iconst (v := 0) E dX12_next_66 (by decide) ?_
    refine pf_X12_24 E (by decide) (by decide) wm_507 dX12_next_67 ?_
    refine y_nmH (fun u6 hu6 => ?_)
    replace hv := hv u6 hu6
    refine y_aload_n E dX12_next_70 0 rfl ?_
    refine gf_X12_21 E (by decide) (by decide) wm_504 dX12_next_71 ?_
    refine y_aload_n E dX12_next_74 0 rfl ?_
    refine gf_X12_8 E (by decide) (by decide) wm_498 dX12_next_75 ?_
    refine y_icmp_ne (tgt := 82) E dX12_next_78 (by decide) (fun c7 => ?_) (fun c7 => ?_)
    · replace hv := ite_f hv c7
      refine y_aload_n E dX12_next_82 0 rfl ?_
      refine gf_X12_7 E (by decide) (by decide) wm_502 dX12_next_83 ?_
      refine y_aload_n E dX12_next_86 0 rfl ?_
      refine gf_X12_21 E (by decide) (by decide) wm_504 dX12_next_87 ?_
      obtain ⟨hi, hv⟩ := hv
      refine y_iald E (Nat.lt_of_lt_of_le (show 6 < 7 by decide) (by decide)) (mc_m_tape (by decide) (by decide)) hi dX12_next_90 ?_
      refine y_nmi (fun x8 hx8 => ?_)
      replace hv := hv x8 hx8
      refine y_istore_n (lv' := [(1, .int x8), (0, .ref (w.1 0))]) E dX12_next_91 (by decide) rfl ?_
      refine y_iload_n E dX12_next_92 0 rfl ?_
      refine y_bipush (v := 97) E dX12_next_93 (by decide) ?_
      refine y_bipush (v := 122) E dX12_next_95 (by decide) ?_
      refine y_calli E (y_runS E (rest := []) (kX12_in l w E.2.2.1 u6 x8 97 122 _ hv) (y_cwS 3 E.1.2.2.2.2 wm_477 wm_478 wm_479 wm_480 (by decide +kernel) (yRm_le (by decide) (by decide))) rfl rfl (Nat.le_of_ble_eq_true rfl) dX12_next_97) (fun v9 u10 hk => ?_)
      clear hv
      have hv := hk
      clear hk
      refine y_if_eq (tgt := 217) E dX12_next_100 (by decide) (fun c11 => ?_) (fun c11 => ?_)
      · replace hv := ite_t hv c11
        refine y_iload_n E dX12_next_217 0 rfl ?_
        refine y_bipush (v := 48) E dX12_next_218 (by decide) ?_
        refine y_bipush (v := 57) E dX12_next_220 (by decide) ?_
        refine y_calli E (y_runS E (rest := []) (kX12_in l w E.2.2.1 u10 x8 48 57 _ hv) (y_cwS 3 E.1.2.2.2.2 wm_477 wm_478 wm_479 wm_480 (by decide +kernel) (yRm_le (by decide) (by decide))) rfl rfl (Nat.le_of_ble_eq_true rfl) dX12_next_222) (fun v12 u13 hk => ?_)
        clear hv
        have hv := hk
        clear hk
        refine y_if_eq (tgt := 326) E dX12_next_225 (by decide) (fun c14 => ?_) (fun c14 => ?_)
        · replace hv := ite_t hv c14
          refine y_iload_n E dX12_next_326 0 rfl ?_
          refine y_bipush (v := 40) E dX12_next_327 (by decide) ?_
          refine y_icmp_eq (tgt := 374) E dX12_next_329 (by decide) (fun c15 => ?_) (fun c15 => ?_)
          · replace hv := ite_t hv c15
            refine y_iconst (v := 1) E dX12_next_374 (by decide) ?_
            refine y_goto (tgt := 379) E dX12_next_375 (by decide) ?_
            refine y_lv (lv' := [(0, .ref (w.1 0)), (1, .int x8)]) [1, 0] rfl ?_
            exact hb379 u13 x8 1 hv
          · replace hv := ite_f hv c15
            refine y_iload_n E dX12_next_332 0 rfl ?_
            refine y_bipush (v := 41) E dX12_next_333 (by decide) ?_
            refine y_icmp_eq (tgt := 374) E dX12_next_335 (by decide) (fun c16 => ?_) (fun c16 => ?_)
            · replace hv := ite_t hv c16
              refine y_iconst (v := 1) E dX12_next_374 (by decide) ?_
              refine y_goto (tgt := 379) E dX12_next_375 (by decide) ?_
              refine y_lv (lv' := [(0, .ref (w.1 0)), (1, .int x8)]) [1, 0] rfl ?_
              exact hb379 u13 x8 1 hv
            · replace hv := ite_f hv c16
              refine y_iload_n E dX12_next_338 0 rfl ?_
              refine y_bipush (v := 59) E dX12_next_339 (by decide) ?_
              refine y_icmp_eq (tgt := 374) E dX12_next_341 (by decide) (fun c17 => ?_) (fun c17 => ?_)
              · replace hv := ite_t hv c17
                refine y_iconst (v := 1) E dX12_next_374 (by decide) ?_
                refine y_goto (tgt := 379) E dX12_next_375 (by decide) ?_
                refine y_lv (lv' := [(0, .ref (w.1 0)), (1, .int x8)]) [1, 0] rfl ?_
                exact hb379 u13 x8 1 hv
              · replace hv := ite_f hv c17
                refine y_iload_n E dX12_next_344 0 rfl ?_
                refine y_bipush (v := 43) E dX12_next_345 (by decide) ?_
                refine y_icmp_eq (tgt := 374) E dX12_next_347 (by decide) (fun c18 => ?_) (fun c18 => ?_)
                · replace hv := ite_t hv c18
                  refine y_iconst (v := 1) E dX12_next_374 (by decide) ?_
                  refine y_goto (tgt := 379) E dX12_next_375 (by decide) ?_
                  refine y_lv (lv' := [(0, .ref (w.1 0)), (1, .int x8)]) [1, 0] rfl ?_
                  exact hb379 u13 x8 1 hv
                · replace hv := ite_f hv c18
                  refine y_iload_n E dX12_next_350 0 rfl ?_
                  refine y_bipush (v := 45) E dX12_next_351 (by decide) ?_
                  refine y_icmp_eq (tgt := 374) E dX12_next_353 (by decide) (fun c19 => ?_) (fun c19 => ?_)
                  · replace hv := ite_t hv c19
                    refine y_iconst (v := 1) E dX12_next_374 (by decide) ?_
                    refine y_goto (tgt := 379) E dX12_next_375 (by decide) ?_
                    refine y_lv (lv' := [(0, .ref (w.1 0)), (1, .int x8)]) [1, 0] rfl ?_
                    exact hb379 u13 x8 1 hv
                  · replace hv := ite_f hv c19
                    refine y_iload_n E dX12_next_356 0 rfl ?_
                    refine y_bipush (v := 42) E dX12_next_357 (by decide) ?_
                    refine y_icmp_eq (tgt := 374) E dX12_next_359 (by decide) (fun c20 => ?_) (fun c20 => ?_)
                    · replace hv := ite_t hv c20
                      refine y_iconst (v := 1) E dX12_next_374 (by decide) ?_
                      refine y_goto (tgt := 379) E dX12_next_375 (by decide) ?_
                      refine y_lv (lv' := [(0, .ref (w.1 0)), (1, .int x8)]) [1, 0] rfl ?_
                      exact hb379 u13 x8 1 hv
                    · replace hv := ite_f hv c20
                      refine y_iload_n E dX12_next_362 0 rfl ?_
                      refine y_bipush (v := 60) E dX12_next_363 (by decide) ?_
                      refine y_icmp_eq (tgt := 374) E dX12_next_365 (by decide) (fun c21 => ?_) (fun c21 => ?_)
                      · replace hv := ite_t hv c21
                        refine y_iconst (v := 1) E dX12_next_374 (by decide) ?_
                        refine y_goto (tgt := 379) E dX12_next_375 (by decide) ?_
                        refine y_lv (lv' := [(0, .ref (w.1 0)), (1, .int x8)]) [1, 0] rfl ?_
                        exact hb379 u13 x8 1 hv
                      · replace hv := ite_f hv c21
                        refine y_iload_n E dX12_next_368 0 rfl ?_
                        refine y_bipush (v := 61) E dX12_next_369 (by decide) ?_
                        refine y_icmp_ne (tgt := 378) E dX12_next_371 (by decide) (fun c22 => ?_) (fun c22 => ?_)
                        · replace hv := ite_f hv c22
                          refine y_iconst (v := 0) E dX12_next_378 (by decide) ?_
                          refine y_lv (lv' := [(0, .ref (w.1 0)), (1, .int x8)]) [1, 0] rfl ?_
                          exact hb379 u13 x8 0 hv
                        · replace hv := ite_t hv c22
                          refine y_iconst (v := 1) E dX12_next_374 (by decide) ?_
                          refine y_goto (tgt := 379) E dX12_next_375 (by decide) ?_
                          refine y_lv (lv' := [(0, .ref (w.1 0)), (1, .int x8)]) [1, 0] rfl ?_
                          exact hb379 u13 x8 1 hv
        · replace hv := ite_f hv c14
          refine y_iconst (v := 0) E dX12_next_228 (by decide) ?_
          refine y_istore_n (lv' := [(2, .int 0), (1, .int x8), (0, .ref (w.1 0))]) E dX12_next_229 (by decide) rfl ?_
          refine y_lv (lv' := [(0, .ref (w.1 0)), (2, .int 0)]) [2, 0] rfl ?_
          obtain ⟨n0, hv⟩ := hv
          exact hL230 n0 u13 0 hv
      · replace hv := ite_f hv c11
        refine y_lv (lv' := [(0, .ref (w.1 0))]) [1] rfl ?_
        obtain ⟨n0, hv⟩ := hv
        exact hL103 n0 u10 hv
    · replace hv := ite_t hv c7
      exact y_vret E dX12_next_81 hv
  have hL0 : ∀ (n0 : Nat) (σ : Hp), VX12_next_L0 K n0 σ → YY p l e (yRm 2) s m [.ref (w.1 0)].toArray below meth c w mcf 20 A (MQ below (yQv w mcf 20 K A) [.ref (w.1 0)].toArray s 0 0 A) 3 σ 0 [(0, .ref (w.1 0))] [] := by
    intro n0
    induction n0 with
    | zero => exact fun _ hv => (by unfold VX12_next_L0 at hv; exact hv.elim)
    | succ n0 ih0 =>
      have hb39 : ∀ (σ : Hp), VX12_next_b39 K (VX12_next_L0 K n0) σ → YY p l e (yRm 2) s m [.ref (w.1 0)].toArray below meth c w mcf 20 A (MQ below (yQv w mcf 20 K A) [.ref (w.1 0)].toArray s 0 0 A) 3 σ 39 [(0, .ref (w.1 0))] [] := by
        intro σ hv
        unfold VX12_next_b39 at hv
        refine y_aload_n E dX12_next_39 0 rfl ?_
        refine y_dup E dX12_next_40 rfl ?_
        refine gf_X12_21 E (by decide) (by decide) wm_504 dX12_next_41 ?_
        refine y_iconst (v := 1) E dX12_next_44 (by decide) ?_
        refine y_iadd E dX12_next_45 ?_
        refine pf_X12_21 E (by decide) (by decide) wm_504 dX12_next_46 ?_
        refine y_nmH (fun u23 hu23 => ?_)
        replace hv := hv u23 hu23
        refine y_goto (tgt := 0) E dX12_next_49 (by decide) ?_
        exact ih0 u23 hv
      intro σ hv
      unfold VX12_next_L0 at hv
      refine y_aload_n E dX12_next_0 0 rfl ?_
      refine gf_X12_21 E (by decide) (by decide) wm_504 dX12_next_1 ?_
      refine y_aload_n E dX12_next_4 0 rfl ?_
      refine gf_X12_8 E (by decide) (by decide) wm_498 dX12_next_5 ?_
      refine y_icmp_ge (tgt := 52) E dX12_next_8 (by decide) (fun c1 => ?_) (fun c1 => ?_)
      · replace hv := ite_t hv c1
        exact hb52 σ hv
      · replace hv := ite_f hv c1
        refine y_aload_n E dX12_next_11 0 rfl ?_
        refine gf_X12_7 E (by decide) (by decide) wm_502 dX12_next_12 ?_
        refine y_aload_n E dX12_next_15 0 rfl ?_
        refine gf_X12_21 E (by decide) (by decide) wm_504 dX12_next_16 ?_
        obtain ⟨hi, hv⟩ := hv
        refine y_iald E (Nat.lt_of_lt_of_le (show 6 < 7 by decide) (by decide)) (mc_m_tape (by decide) (by decide)) hi dX12_next_19 ?_
        refine y_bipush (v := 32) E dX12_next_20 (by decide) ?_
        refine y_icmp_eq (tgt := 39) E dX12_next_22 (by decide) (fun c2 => ?_) (fun c2 => ?_)
        · replace hv := ite_t hv c2
          exact hb39 σ hv
        · replace hv := ite_f hv c2
          refine y_aload_n E dX12_next_25 0 rfl ?_
          refine gf_X12_7 E (by decide) (by decide) wm_502 dX12_next_26 ?_
          refine y_aload_n E dX12_next_29 0 rfl ?_
          refine gf_X12_21 E (by decide) (by decide) wm_504 dX12_next_30 ?_
          obtain ⟨hi, hv⟩ := hv
          refine y_iald E (Nat.lt_of_lt_of_le (show 6 < 7 by decide) (by decide)) (mc_m_tape (by decide) (by decide)) hi dX12_next_33 ?_
          refine y_bipush (v := 10) E dX12_next_34 (by decide) ?_
          refine y_icmp_ne (tgt := 52) E dX12_next_36 (by decide) (fun c3 => ?_) (fun c3 => ?_)
          · replace hv := ite_f hv c3
            exact hb52 σ hv
          · replace hv := ite_t hv c3
            exact hb39 σ hv
  obtain ⟨n0, hv⟩ := hv
  exact hL0 n0 σ hv
theorem dX12_rank_0 : decode cX12_rank 0 = .ok (.iload_n 0, 1) := by decide +kernel
theorem dX12_rank_1 : decode cX12_rank 1 = .ok (.ifCond .ne 7, 3) := by decide +kernel
theorem dX12_rank_4 : decode cX12_rank 4 = .ok (.iconst 0, 1) := by decide +kernel
theorem dX12_rank_5 : decode cX12_rank 5 = .ok (.goto 66, 3) := by decide +kernel
theorem dX12_rank_8 : decode cX12_rank 8 = .ok (.iload_n 0, 1) := by decide +kernel
theorem dX12_rank_9 : decode cX12_rank 9 = .ok (.bipush 11, 2) := by decide +kernel
theorem dX12_rank_11 : decode cX12_rank 11 = .ok (.if_icmp .ne 7, 3) := by decide +kernel
theorem dX12_rank_14 : decode cX12_rank 14 = .ok (.iconst 1, 1) := by decide +kernel
theorem dX12_rank_15 : decode cX12_rank 15 = .ok (.goto 56, 3) := by decide +kernel
theorem dX12_rank_18 : decode cX12_rank 18 = .ok (.iload_n 0, 1) := by decide +kernel
theorem dX12_rank_19 : decode cX12_rank 19 = .ok (.bipush 12, 2) := by decide +kernel
theorem dX12_rank_21 : decode cX12_rank 21 = .ok (.if_icmp .ne 7, 3) := by decide +kernel
theorem dX12_rank_24 : decode cX12_rank 24 = .ok (.iconst 2, 1) := by decide +kernel
theorem dX12_rank_25 : decode cX12_rank 25 = .ok (.goto 46, 3) := by decide +kernel
theorem dX12_rank_28 : decode cX12_rank 28 = .ok (.iload_n 0, 1) := by decide +kernel
theorem dX12_rank_29 : decode cX12_rank 29 = .ok (.bipush 13, 2) := by decide +kernel
theorem dX12_rank_31 : decode cX12_rank 31 = .ok (.if_icmp .ne 7, 3) := by decide +kernel
theorem dX12_rank_34 : decode cX12_rank 34 = .ok (.iconst 3, 1) := by decide +kernel
theorem dX12_rank_35 : decode cX12_rank 35 = .ok (.goto 36, 3) := by decide +kernel
theorem dX12_rank_38 : decode cX12_rank 38 = .ok (.iload_n 0, 1) := by decide +kernel
theorem dX12_rank_39 : decode cX12_rank 39 = .ok (.bipush 15, 2) := by decide +kernel
theorem dX12_rank_41 : decode cX12_rank 41 = .ok (.if_icmp .gt 7, 3) := by decide +kernel
theorem dX12_rank_44 : decode cX12_rank 44 = .ok (.iconst 4, 1) := by decide +kernel
theorem dX12_rank_45 : decode cX12_rank 45 = .ok (.goto 26, 3) := by decide +kernel
theorem dX12_rank_48 : decode cX12_rank 48 = .ok (.iload_n 0, 1) := by decide +kernel
theorem dX12_rank_49 : decode cX12_rank 49 = .ok (.bipush 17, 2) := by decide +kernel
theorem dX12_rank_51 : decode cX12_rank 51 = .ok (.if_icmp .gt 7, 3) := by decide +kernel
theorem dX12_rank_54 : decode cX12_rank 54 = .ok (.iconst 5, 1) := by decide +kernel
theorem dX12_rank_55 : decode cX12_rank 55 = .ok (.goto 16, 3) := by decide +kernel
theorem dX12_rank_58 : decode cX12_rank 58 = .ok (.iload_n 0, 1) := by decide +kernel
theorem dX12_rank_59 : decode cX12_rank 59 = .ok (.bipush 18, 2) := by decide +kernel
theorem dX12_rank_61 : decode cX12_rank 61 = .ok (.if_icmp .ne 8, 3) := by decide +kernel
theorem dX12_rank_64 : decode cX12_rank 64 = .ok (.bipush 6, 2) := by decide +kernel
theorem dX12_rank_66 : decode cX12_rank 66 = .ok (.goto 5, 3) := by decide +kernel
theorem dX12_rank_69 : decode cX12_rank 69 = .ok (.bipush 7, 2) := by decide +kernel
theorem dX12_rank_71 : decode cX12_rank 71 = .ok (.ireturn, 1) := by decide +kernel
set_option maxRecDepth 100000 in
set_option maxHeartbeats 4000000 in
theorem kX12_rank (l : Launch) (w : wT) (hw : yOk w 20) (σ : Hp) (a1 : Int32) (K : Int32 → Hp → Prop) (hv : VX12_rank K σ a1) : yMet l w mcf 20 yX12_rank cX12_rank 1 (some .int) 1 [.int a1] σ (yQi w mcf 20 K) := by
  unfold VX12_rank at hv
  refine y_start (lv0 := [(0, .int a1)]) (by decide +kernel) (own := RX12) rfl hw (Nat.le_of_ble_eq_true rfl) rfl (fun p e s m below meth c A E => ?_)
  refine y_iload_n E dX12_rank_0 0 rfl ?_
  refine y_if_ne (tgt := 8) E dX12_rank_1 (by decide) (fun c1 => ?_) (fun c1 => ?_)
  · replace hv := ite_f hv c1
    refine y_iload_n E dX12_rank_8 0 rfl ?_
    refine y_bipush (v := 11) E dX12_rank_9 (by decide) ?_
    refine y_icmp_ne (tgt := 18) E dX12_rank_11 (by decide) (fun c2 => ?_) (fun c2 => ?_)
    · replace hv := ite_f hv c2
      refine y_iload_n E dX12_rank_18 0 rfl ?_
      refine y_bipush (v := 12) E dX12_rank_19 (by decide) ?_
      refine y_icmp_ne (tgt := 28) E dX12_rank_21 (by decide) (fun c3 => ?_) (fun c3 => ?_)
      · replace hv := ite_f hv c3
        refine y_iload_n E dX12_rank_28 0 rfl ?_
        refine y_bipush (v := 13) E dX12_rank_29 (by decide) ?_
        refine y_icmp_ne (tgt := 38) E dX12_rank_31 (by decide) (fun c4 => ?_) (fun c4 => ?_)
        · replace hv := ite_f hv c4
          refine y_iload_n E dX12_rank_38 0 rfl ?_
          refine y_bipush (v := 15) E dX12_rank_39 (by decide) ?_
          refine y_icmp_gt (tgt := 48) E dX12_rank_41 (by decide) (fun c5 => ?_) (fun c5 => ?_)
          · replace hv := ite_t hv c5
            refine y_iload_n E dX12_rank_48 0 rfl ?_
            refine y_bipush (v := 17) E dX12_rank_49 (by decide) ?_
            refine y_icmp_gt (tgt := 58) E dX12_rank_51 (by decide) (fun c6 => ?_) (fun c6 => ?_)
            · replace hv := ite_t hv c6
              refine y_iload_n E dX12_rank_58 0 rfl ?_
              refine y_bipush (v := 18) E dX12_rank_59 (by decide) ?_
              refine y_icmp_ne (tgt := 69) E dX12_rank_61 (by decide) (fun c7 => ?_) (fun c7 => ?_)
              · replace hv := ite_f hv c7
                refine y_bipush (v := 7) E dX12_rank_69 (by decide) ?_
                exact y_iret E dX12_rank_71 hv
              · replace hv := ite_t hv c7
                refine y_bipush (v := 6) E dX12_rank_64 (by decide) ?_
                refine y_goto (tgt := 71) E dX12_rank_66 (by decide) ?_
                exact y_iret E dX12_rank_71 hv
            · replace hv := ite_f hv c6
              refine y_iconst (v := 5) E dX12_rank_54 (by decide) ?_
              refine y_goto (tgt := 71) E dX12_rank_55 (by decide) ?_
              exact y_iret E dX12_rank_71 hv
          · replace hv := ite_f hv c5
            refine y_iconst (v := 4) E dX12_rank_44 (by decide) ?_
            refine y_goto (tgt := 71) E dX12_rank_45 (by decide) ?_
            exact y_iret E dX12_rank_71 hv
        · replace hv := ite_t hv c4
          refine y_iconst (v := 3) E dX12_rank_34 (by decide) ?_
          refine y_goto (tgt := 71) E dX12_rank_35 (by decide) ?_
          exact y_iret E dX12_rank_71 hv
      · replace hv := ite_t hv c3
        refine y_iconst (v := 2) E dX12_rank_24 (by decide) ?_
        refine y_goto (tgt := 71) E dX12_rank_25 (by decide) ?_
        exact y_iret E dX12_rank_71 hv
    · replace hv := ite_t hv c2
      refine y_iconst (v := 1) E dX12_rank_14 (by decide) ?_
      refine y_goto (tgt := 71) E dX12_rank_15 (by decide) ?_
      exact y_iret E dX12_rank_71 hv
  · replace hv := ite_t hv c1
    refine y_iconst (v := 0) E dX12_rank_4 (by decide) ?_
    refine y_goto (tgt := 71) E dX12_rank_5 (by decide) ?_
    exact y_iret E dX12_rank_71 hv
theorem dX12_puts_0 : decode cX12_puts 0 = .ok (.aload_n 0, 1) := by decide +kernel
theorem dX12_puts_1 : decode cX12_puts 1 = .ok (.getfield 28, 3) := by decide +kernel
theorem dX12_puts_4 : decode cX12_puts 4 = .ok (.sipush 200, 3) := by decide +kernel
theorem dX12_puts_7 : decode cX12_puts 7 = .ok (.aload_n 0, 1) := by decide +kernel
theorem dX12_puts_8 : decode cX12_puts 8 = .ok (.getfield 96, 3) := by decide +kernel
theorem dX12_puts_11 : decode cX12_puts 11 = .ok (.imul, 1) := by decide +kernel
theorem dX12_puts_12 : decode cX12_puts 12 = .ok (.aload_n 0, 1) := by decide +kernel
theorem dX12_puts_13 : decode cX12_puts 13 = .ok (.getfield 121, 3) := by decide +kernel
theorem dX12_puts_16 : decode cX12_puts 16 = .ok (.iadd, 1) := by decide +kernel
theorem dX12_puts_17 : decode cX12_puts 17 = .ok (.iload_n 1, 1) := by decide +kernel
theorem dX12_puts_18 : decode cX12_puts 18 = .ok (.iastore, 1) := by decide +kernel
theorem dX12_puts_19 : decode cX12_puts 19 = .ok (.aload_n 0, 1) := by decide +kernel
theorem dX12_puts_20 : decode cX12_puts 20 = .ok (.dup, 1) := by decide +kernel
theorem dX12_puts_21 : decode cX12_puts 21 = .ok (.getfield 121, 3) := by decide +kernel
theorem dX12_puts_24 : decode cX12_puts 24 = .ok (.iconst 1, 1) := by decide +kernel
theorem dX12_puts_25 : decode cX12_puts 25 = .ok (.iadd, 1) := by decide +kernel
theorem dX12_puts_26 : decode cX12_puts 26 = .ok (.putfield 121, 3) := by decide +kernel
theorem dX12_puts_29 : decode cX12_puts 29 = .ok (.return_, 1) := by decide +kernel
set_option maxRecDepth 100000 in
set_option maxHeartbeats 4000000 in
theorem kX12_puts (l : Launch) (w : wT) (hw : yOk w 20) (σ : Hp) (a1 : Int32) (K : Hp → Prop) (hv : VX12_puts K σ a1) : yMet l w mcf 20 yX12_puts cX12_puts 2 none 1 [.ref (w.1 0), .int a1] σ (yQv w mcf 20 K) := by
  unfold VX12_puts at hv
  refine y_start (lv0 := [(0, .ref (w.1 0)), (1, .int a1)]) (by decide +kernel) (own := RX12) rfl hw (Nat.le_of_ble_eq_true rfl) rfl (fun p e s m below meth c A E => ?_)
  refine y_aload_n E dX12_puts_0 0 rfl ?_
  refine gf_X12_9 E (by decide) (by decide) wm_512 dX12_puts_1 ?_
  refine y_sipush (v := 200) E dX12_puts_4 (by decide) ?_
  refine y_aload_n E dX12_puts_7 0 rfl ?_
  refine gf_X12_11 E (by decide) (by decide) wm_496 dX12_puts_8 ?_
  refine y_imul E dX12_puts_11 ?_
  refine y_aload_n E dX12_puts_12 0 rfl ?_
  refine gf_X12_29 E (by decide) (by decide) wm_513 dX12_puts_13 ?_
  refine y_iadd E dX12_puts_16 ?_
  refine y_iload_n E dX12_puts_17 1 rfl ?_
  obtain ⟨hi, hv⟩ := hv
  refine y_iast E (Nat.lt_of_lt_of_le (show 7 < 8 by decide) (by decide)) (fun _ => mc_m_codes (by decide) (by decide)) hi dX12_puts_18 ?_
  refine y_nmH (fun u1 hu1 => ?_)
  replace hv := hv u1 hu1
  refine y_aload_n E dX12_puts_19 0 rfl ?_
  refine y_dup E dX12_puts_20 rfl ?_
  refine gf_X12_29 E (by decide) (by decide) wm_513 dX12_puts_21 ?_
  refine y_iconst (v := 1) E dX12_puts_24 (by decide) ?_
  refine y_iadd E dX12_puts_25 ?_
  refine pf_X12_29 E (by decide) (by decide) wm_513 dX12_puts_26 ?_
  refine y_nmH (fun u2 hu2 => ?_)
  replace hv := hv u2 hu2
  exact y_vret E dX12_puts_29 hv
theorem dX12_unwinds_0 : decode cX12_unwinds 0 = .ok (.aload_n 0, 1) := by decide +kernel
theorem dX12_unwinds_1 : decode cX12_unwinds 1 = .ok (.getfield 124, 3) := by decide +kernel
theorem dX12_unwinds_4 : decode cX12_unwinds 4 = .ok (.ifCond .le 75, 3) := by decide +kernel
theorem dX12_unwinds_7 : decode cX12_unwinds 7 = .ok (.aload_n 0, 1) := by decide +kernel
theorem dX12_unwinds_8 : decode cX12_unwinds 8 = .ok (.getfield 52, 3) := by decide +kernel
theorem dX12_unwinds_11 : decode cX12_unwinds 11 = .ok (.aload_n 0, 1) := by decide +kernel
theorem dX12_unwinds_12 : decode cX12_unwinds 12 = .ok (.getfield 124, 3) := by decide +kernel
theorem dX12_unwinds_15 : decode cX12_unwinds 15 = .ok (.iconst 1, 1) := by decide +kernel
theorem dX12_unwinds_16 : decode cX12_unwinds 16 = .ok (.isub, 1) := by decide +kernel
theorem dX12_unwinds_17 : decode cX12_unwinds 17 = .ok (.iaload, 1) := by decide +kernel
theorem dX12_unwinds_18 : decode cX12_unwinds 18 = .ok (.invokestatic 127, 3) := by decide +kernel
theorem dX12_unwinds_21 : decode cX12_unwinds 21 = .ok (.iload_n 1, 1) := by decide +kernel
theorem dX12_unwinds_22 : decode cX12_unwinds 22 = .ok (.if_icmp .lt 57, 3) := by decide +kernel
theorem dX12_unwinds_25 : decode cX12_unwinds 25 = .ok (.aload_n 0, 1) := by decide +kernel
theorem dX12_unwinds_26 : decode cX12_unwinds 26 = .ok (.dup, 1) := by decide +kernel
theorem dX12_unwinds_27 : decode cX12_unwinds 27 = .ok (.getfield 124, 3) := by decide +kernel
theorem dX12_unwinds_30 : decode cX12_unwinds 30 = .ok (.iconst 1, 1) := by decide +kernel
theorem dX12_unwinds_31 : decode cX12_unwinds 31 = .ok (.isub, 1) := by decide +kernel
theorem dX12_unwinds_32 : decode cX12_unwinds 32 = .ok (.putfield 124, 3) := by decide +kernel
theorem dX12_unwinds_35 : decode cX12_unwinds 35 = .ok (.aload_n 0, 1) := by decide +kernel
theorem dX12_unwinds_36 : decode cX12_unwinds 36 = .ok (.getfield 52, 3) := by decide +kernel
theorem dX12_unwinds_39 : decode cX12_unwinds 39 = .ok (.aload_n 0, 1) := by decide +kernel
theorem dX12_unwinds_40 : decode cX12_unwinds 40 = .ok (.getfield 124, 3) := by decide +kernel
theorem dX12_unwinds_43 : decode cX12_unwinds 43 = .ok (.iaload, 1) := by decide +kernel
theorem dX12_unwinds_44 : decode cX12_unwinds 44 = .ok (.istore_n 2, 1) := by decide +kernel
theorem dX12_unwinds_45 : decode cX12_unwinds 45 = .ok (.aload_n 0, 1) := by decide +kernel
theorem dX12_unwinds_46 : decode cX12_unwinds 46 = .ok (.dup, 1) := by decide +kernel
theorem dX12_unwinds_47 : decode cX12_unwinds 47 = .ok (.getfield 131, 3) := by decide +kernel
theorem dX12_unwinds_50 : decode cX12_unwinds 50 = .ok (.iload_n 2, 1) := by decide +kernel
theorem dX12_unwinds_51 : decode cX12_unwinds 51 = .ok (.bipush 13, 2) := by decide +kernel
theorem dX12_unwinds_53 : decode cX12_unwinds 53 = .ok (.if_icmp .eq 9, 3) := by decide +kernel
theorem dX12_unwinds_56 : decode cX12_unwinds 56 = .ok (.iload_n 2, 1) := by decide +kernel
theorem dX12_unwinds_57 : decode cX12_unwinds 57 = .ok (.bipush 19, 2) := by decide +kernel
theorem dX12_unwinds_59 : decode cX12_unwinds 59 = .ok (.if_icmp .ne 7, 3) := by decide +kernel
theorem dX12_unwinds_62 : decode cX12_unwinds 62 = .ok (.iconst 1, 1) := by decide +kernel
theorem dX12_unwinds_63 : decode cX12_unwinds 63 = .ok (.goto 4, 3) := by decide +kernel
theorem dX12_unwinds_66 : decode cX12_unwinds 66 = .ok (.iconst 0, 1) := by decide +kernel
theorem dX12_unwinds_67 : decode cX12_unwinds 67 = .ok (.isub, 1) := by decide +kernel
theorem dX12_unwinds_68 : decode cX12_unwinds 68 = .ok (.putfield 131, 3) := by decide +kernel
theorem dX12_unwinds_71 : decode cX12_unwinds 71 = .ok (.aload_n 0, 1) := by decide +kernel
theorem dX12_unwinds_72 : decode cX12_unwinds 72 = .ok (.iload_n 2, 1) := by decide +kernel
theorem dX12_unwinds_73 : decode cX12_unwinds 73 = .ok (.invokevirtual 134, 3) := by decide +kernel
theorem dX12_unwinds_76 : decode cX12_unwinds 76 = .ok (.goto (-76), 3) := by decide +kernel
theorem dX12_unwinds_79 : decode cX12_unwinds 79 = .ok (.return_, 1) := by decide +kernel
set_option maxRecDepth 100000 in
set_option maxHeartbeats 4000000 in
theorem kX12_unwinds (l : Launch) (w : wT) (hw : yOk w 20) (σ : Hp) (a1 : Int32) (K : Hp → Prop) (hv : VX12_unwinds K σ a1) : yMet l w mcf 20 yX12_unwinds cX12_unwinds 3 none 2 [.ref (w.1 0), .int a1] σ (yQv w mcf 20 K) := by
  unfold VX12_unwinds at hv
  refine y_start (lv0 := [(0, .ref (w.1 0)), (1, .int a1)]) (by decide +kernel) (own := RX12) rfl hw (Nat.le_of_ble_eq_true rfl) rfl (fun p e s m below meth c A E => ?_)
  have hL0 : ∀ (n0 : Nat) (σ : Hp) (l1 : Int32), VX12_unwinds_L0 K n0 σ l1 → YY p l e (yRm 2) s m [.ref (w.1 0), .int a1].toArray below meth c w mcf 20 A (MQ below (yQv w mcf 20 K A) [.ref (w.1 0), .int a1].toArray s 0 0 A) 3 σ 0 [(0, .ref (w.1 0)), (1, .int l1)] [] := by
    intro n0
    induction n0 with
    | zero => exact fun _ _ hv => (by unfold VX12_unwinds_L0 at hv; exact hv.elim)
    | succ n0 ih0 =>
      have hb67 : ∀ (σ : Hp) (l1 : Int32) (l2 : Int32) (s0 : Int32) (s1 : Int32), VX12_unwinds_b67 K (VX12_unwinds_L0 K n0) σ l1 l2 s0 s1 → YY p l e (yRm 2) s m [.ref (w.1 0), .int a1].toArray below meth c w mcf 20 A (MQ below (yQv w mcf 20 K A) [.ref (w.1 0), .int a1].toArray s 0 0 A) 3 σ 67 [(0, .ref (w.1 0)), (1, .int l1), (2, .int l2)] [.int s0, .int s1, .ref (w.1 0)] := by
        intro σ l1 l2 s0 s1 hv
        unfold VX12_unwinds_b67 at hv
        refine y_isub E dX12_unwinds_67 ?_
        refine pf_X12_28 E (by decide) (by decide) wm_517 dX12_unwinds_68 ?_
        refine y_nmH (fun u9 hu9 => ?_)
        replace hv := hv u9 hu9
        refine y_aload_n E dX12_unwinds_71 0 rfl ?_
        refine y_iload_n E dX12_unwinds_72 2 rfl ?_
        refine y_callv E (y_runV E (rest := []) (kX12_puts l w E.2.2.1 u9 l2 _ hv) (y_cwV 1 E.1.2.2.2.2 wm_520 wm_521 wm_522 wm_479 wm_523 (by decide +kernel) (yRm_le (by decide) (by decide))) (Nat.lt_of_lt_of_le (show 0 < 1 by decide) (by decide)) (mc_X12 (by decide) (by decide)) rfl rfl rfl (Nat.le_of_ble_eq_true rfl) dX12_unwinds_73) (fun u11 hk => ?_)
        clear hv
        have hv := hk
        clear hk
        refine y_goto (tgt := 0) E dX12_unwinds_76 (by decide) ?_
        refine y_lv (lv' := [(0, .ref (w.1 0)), (1, .int l1)]) [0, 1] rfl ?_
        exact ih0 u11 l1 hv
      intro σ l1 hv
      unfold VX12_unwinds_L0 at hv
      refine y_aload_n E dX12_unwinds_0 0 rfl ?_
      refine gf_X12_27 E (by decide) (by decide) wm_514 dX12_unwinds_1 ?_
      refine y_if_le (tgt := 79) E dX12_unwinds_4 (by decide) (fun c1 => ?_) (fun c1 => ?_)
      · replace hv := ite_t hv c1
        exact y_vret E dX12_unwinds_79 hv
      · replace hv := ite_f hv c1
        refine y_aload_n E dX12_unwinds_7 0 rfl ?_
        refine gf_X12_26 E (by decide) (by decide) wm_515 dX12_unwinds_8 ?_
        refine y_aload_n E dX12_unwinds_11 0 rfl ?_
        refine gf_X12_27 E (by decide) (by decide) wm_514 dX12_unwinds_12 ?_
        refine y_iconst (v := 1) E dX12_unwinds_15 (by decide) ?_
        refine y_isub E dX12_unwinds_16 ?_
        obtain ⟨hi, hv⟩ := hv
        refine y_iald E (Nat.lt_of_lt_of_le (show 15 < 16 by decide) (by decide)) (mc_m_held (by decide) (by decide)) hi dX12_unwinds_17 ?_
        refine y_calli E (y_runS E (rest := []) (kX12_rank l w E.2.2.1 σ (σ 15 ((σ 0 27) - 1).toNatClampNeg) _ hv) (y_cwS 1 E.1.2.2.2.2 wm_516 wm_518 wm_479 wm_519 (by decide +kernel) (yRm_le (by decide) (by decide))) rfl rfl (Nat.le_of_ble_eq_true rfl) dX12_unwinds_18) (fun v2 u3 hk => ?_)
        clear hv
        have hv := hk
        clear hk
        refine y_iload_n E dX12_unwinds_21 1 rfl ?_
        refine y_icmp_lt (tgt := 79) E dX12_unwinds_22 (by decide) (fun c4 => ?_) (fun c4 => ?_)
        · replace hv := ite_t hv c4
          exact y_vret E dX12_unwinds_79 hv
        · replace hv := ite_f hv c4
          refine y_aload_n E dX12_unwinds_25 0 rfl ?_
          refine y_dup E dX12_unwinds_26 rfl ?_
          refine gf_X12_27 E (by decide) (by decide) wm_514 dX12_unwinds_27 ?_
          refine y_iconst (v := 1) E dX12_unwinds_30 (by decide) ?_
          refine y_isub E dX12_unwinds_31 ?_
          refine pf_X12_27 E (by decide) (by decide) wm_514 dX12_unwinds_32 ?_
          refine y_nmH (fun u5 hu5 => ?_)
          replace hv := hv u5 hu5
          refine y_aload_n E dX12_unwinds_35 0 rfl ?_
          refine gf_X12_26 E (by decide) (by decide) wm_515 dX12_unwinds_36 ?_
          refine y_aload_n E dX12_unwinds_39 0 rfl ?_
          refine gf_X12_27 E (by decide) (by decide) wm_514 dX12_unwinds_40 ?_
          obtain ⟨hi, hv⟩ := hv
          refine y_iald E (Nat.lt_of_lt_of_le (show 15 < 16 by decide) (by decide)) (mc_m_held (by decide) (by decide)) hi dX12_unwinds_43 ?_
          refine y_nmi (fun x6 hx6 => ?_)
          replace hv := hv x6 hx6
          refine y_istore_n (lv' := [(2, .int x6), (0, .ref (w.1 0)), (1, .int l1)]) E dX12_unwinds_44 (by decide) rfl ?_
          refine y_aload_n E dX12_unwinds_45 1 rfl ?_
          refine y_dup E dX12_unwinds_46 rfl ?_
          refine gf_X12_28 E (by decide) (by decide) wm_517 dX12_unwinds_47 ?_
          refine y_iload_n E dX12_unwinds_50 0 rfl ?_
          refine y_bipush (v := 13) E dX12_unwinds_51 (by decide) ?_
          refine y_icmp_eq (tgt := 62) E dX12_unwinds_53 (by decide) (fun c7 => ?_) (fun c7 => ?_)
          · replace hv := ite_t hv c7
            refine y_iconst (v := 1) E dX12_unwinds_62 (by decide) ?_
            refine y_goto (tgt := 67) E dX12_unwinds_63 (by decide) ?_
            refine y_lv (lv' := [(0, .ref (w.1 0)), (1, .int l1), (2, .int x6)]) [1, 2, 0] rfl ?_
            exact hb67 u5 l1 x6 1 (u5 0 28) hv
          · replace hv := ite_f hv c7
            refine y_iload_n E dX12_unwinds_56 0 rfl ?_
            refine y_bipush (v := 19) E dX12_unwinds_57 (by decide) ?_
            refine y_icmp_ne (tgt := 66) E dX12_unwinds_59 (by decide) (fun c8 => ?_) (fun c8 => ?_)
            · replace hv := ite_f hv c8
              refine y_iconst (v := 0) E dX12_unwinds_66 (by decide) ?_
              refine y_lv (lv' := [(0, .ref (w.1 0)), (1, .int l1), (2, .int x6)]) [1, 2, 0] rfl ?_
              exact hb67 u5 l1 x6 0 (u5 0 28) hv
            · replace hv := ite_t hv c8
              refine y_iconst (v := 1) E dX12_unwinds_62 (by decide) ?_
              refine y_goto (tgt := 67) E dX12_unwinds_63 (by decide) ?_
              refine y_lv (lv' := [(0, .ref (w.1 0)), (1, .int l1), (2, .int x6)]) [1, 2, 0] rfl ?_
              exact hb67 u5 l1 x6 1 (u5 0 28) hv
  obtain ⟨n0, hv⟩ := hv
  exact hL0 n0 σ a1 hv
theorem dX12_holds_0 : decode cX12_holds 0 = .ok (.aload_n 0, 1) := by decide +kernel
theorem dX12_holds_1 : decode cX12_holds 1 = .ok (.getfield 52, 3) := by decide +kernel
theorem dX12_holds_4 : decode cX12_holds 4 = .ok (.aload_n 0, 1) := by decide +kernel
theorem dX12_holds_5 : decode cX12_holds 5 = .ok (.getfield 124, 3) := by decide +kernel
theorem dX12_holds_8 : decode cX12_holds 8 = .ok (.iload_n 1, 1) := by decide +kernel
theorem dX12_holds_9 : decode cX12_holds 9 = .ok (.iastore, 1) := by decide +kernel
theorem dX12_holds_10 : decode cX12_holds 10 = .ok (.aload_n 0, 1) := by decide +kernel
theorem dX12_holds_11 : decode cX12_holds 11 = .ok (.dup, 1) := by decide +kernel
theorem dX12_holds_12 : decode cX12_holds 12 = .ok (.getfield 124, 3) := by decide +kernel
theorem dX12_holds_15 : decode cX12_holds 15 = .ok (.iconst 1, 1) := by decide +kernel
theorem dX12_holds_16 : decode cX12_holds 16 = .ok (.iadd, 1) := by decide +kernel
theorem dX12_holds_17 : decode cX12_holds 17 = .ok (.putfield 124, 3) := by decide +kernel
theorem dX12_holds_20 : decode cX12_holds 20 = .ok (.return_, 1) := by decide +kernel
set_option maxRecDepth 100000 in
set_option maxHeartbeats 4000000 in
theorem kX12_holds (l : Launch) (w : wT) (hw : yOk w 20) (σ : Hp) (a1 : Int32) (K : Hp → Prop) (hv : VX12_holds K σ a1) : yMet l w mcf 20 yX12_holds cX12_holds 2 none 1 [.ref (w.1 0), .int a1] σ (yQv w mcf 20 K) := by
  unfold VX12_holds at hv
  refine y_start (lv0 := [(0, .ref (w.1 0)), (1, .int a1)]) (by decide +kernel) (own := RX12) rfl hw (Nat.le_of_ble_eq_true rfl) rfl (fun p e s m below meth c A E => ?_)
  refine y_aload_n E dX12_holds_0 0 rfl ?_
  refine gf_X12_26 E (by decide) (by decide) wm_515 dX12_holds_1 ?_
  refine y_aload_n E dX12_holds_4 0 rfl ?_
  refine gf_X12_27 E (by decide) (by decide) wm_514 dX12_holds_5 ?_
  refine y_iload_n E dX12_holds_8 1 rfl ?_
  obtain ⟨hi, hv⟩ := hv
  refine y_iast E (Nat.lt_of_lt_of_le (show 15 < 16 by decide) (by decide)) (fun _ => mc_m_held (by decide) (by decide)) hi dX12_holds_9 ?_
  refine y_nmH (fun u1 hu1 => ?_)
  replace hv := hv u1 hu1
  refine y_aload_n E dX12_holds_10 0 rfl ?_
  refine y_dup E dX12_holds_11 rfl ?_
  refine gf_X12_27 E (by decide) (by decide) wm_514 dX12_holds_12 ?_
  refine y_iconst (v := 1) E dX12_holds_15 (by decide) ?_
  refine y_iadd E dX12_holds_16 ?_
  refine pf_X12_27 E (by decide) (by decide) wm_514 dX12_holds_17 ?_
  refine y_nmH (fun u2 hu2 => ?_)
  replace hv := hv u2 hu2
  exact y_vret E dX12_holds_20 hv
theorem dX12_opensOne_0 : decode cX12_opensOne 0 = .ok (.aload_n 0, 1) := by decide +kernel
theorem dX12_opensOne_1 : decode cX12_opensOne 1 = .ok (.getfield 131, 3) := by decide +kernel
theorem dX12_opensOne_4 : decode cX12_opensOne 4 = .ok (.iconst 5, 1) := by decide +kernel
theorem dX12_opensOne_5 : decode cX12_opensOne 5 = .ok (.if_icmp .ne 5, 3) := by decide +kernel
theorem dX12_opensOne_8 : decode cX12_opensOne 8 = .ok (.iconst 0, 1) := by decide +kernel
theorem dX12_opensOne_9 : decode cX12_opensOne 9 = .ok (.ireturn, 1) := by decide +kernel
theorem dX12_opensOne_10 : decode cX12_opensOne 10 = .ok (.aload_n 0, 1) := by decide +kernel
theorem dX12_opensOne_11 : decode cX12_opensOne 11 = .ok (.dup, 1) := by decide +kernel
theorem dX12_opensOne_12 : decode cX12_opensOne 12 = .ok (.getfield 131, 3) := by decide +kernel
theorem dX12_opensOne_15 : decode cX12_opensOne 15 = .ok (.iconst 1, 1) := by decide +kernel
theorem dX12_opensOne_16 : decode cX12_opensOne 16 = .ok (.iadd, 1) := by decide +kernel
theorem dX12_opensOne_17 : decode cX12_opensOne 17 = .ok (.putfield 131, 3) := by decide +kernel
theorem dX12_opensOne_20 : decode cX12_opensOne 20 = .ok (.aload_n 0, 1) := by decide +kernel
theorem dX12_opensOne_21 : decode cX12_opensOne 21 = .ok (.iload_n 1, 1) := by decide +kernel
theorem dX12_opensOne_22 : decode cX12_opensOne 22 = .ok (.invokevirtual 138, 3) := by decide +kernel
theorem dX12_opensOne_25 : decode cX12_opensOne 25 = .ok (.iconst 1, 1) := by decide +kernel
theorem dX12_opensOne_26 : decode cX12_opensOne 26 = .ok (.ireturn, 1) := by decide +kernel
set_option maxRecDepth 100000 in
set_option maxHeartbeats 4000000 in
theorem kX12_opensOne (l : Launch) (w : wT) (hw : yOk w 20) (σ : Hp) (a1 : Int32) (K : Int32 → Hp → Prop) (hv : VX12_opensOne K σ a1) : yMet l w mcf 20 yX12_opensOne cX12_opensOne 2 (some .boolean) 2 [.ref (w.1 0), .int a1] σ (yQi w mcf 20 K) := by
  unfold VX12_opensOne at hv
  refine y_start (lv0 := [(0, .ref (w.1 0)), (1, .int a1)]) (by decide +kernel) (own := RX12) rfl hw (Nat.le_of_ble_eq_true rfl) rfl (fun p e s m below meth c A E => ?_)
  refine y_aload_n E dX12_opensOne_0 0 rfl ?_
  refine gf_X12_28 E (by decide) (by decide) wm_517 dX12_opensOne_1 ?_
  refine y_iconst (v := 5) E dX12_opensOne_4 (by decide) ?_
  refine y_icmp_ne (tgt := 10) E dX12_opensOne_5 (by decide) (fun c1 => ?_) (fun c1 => ?_)
  · replace hv := ite_f hv c1
    refine y_aload_n E dX12_opensOne_10 0 rfl ?_
    refine y_dup E dX12_opensOne_11 rfl ?_
    refine gf_X12_28 E (by decide) (by decide) wm_517 dX12_opensOne_12 ?_
    refine y_iconst (v := 1) E dX12_opensOne_15 (by decide) ?_
    refine y_iadd E dX12_opensOne_16 ?_
    refine pf_X12_28 E (by decide) (by decide) wm_517 dX12_opensOne_17 ?_
    refine y_nmH (fun u2 hu2 => ?_)
    replace hv := hv u2 hu2
    refine y_aload_n E dX12_opensOne_20 0 rfl ?_
    refine y_iload_n E dX12_opensOne_21 1 rfl ?_
    refine y_callv E (y_runV E (rest := []) (kX12_holds l w E.2.2.1 u2 a1 _ hv) (y_cwV 1 E.1.2.2.2.2 wm_524 wm_525 wm_526 wm_479 wm_527 (by decide +kernel) (yRm_le (by decide) (by decide))) (Nat.lt_of_lt_of_le (show 0 < 1 by decide) (by decide)) (mc_X12 (by decide) (by decide)) rfl rfl rfl (Nat.le_of_ble_eq_true rfl) dX12_opensOne_22) (fun u4 hk => ?_)
    clear hv
    have hv := hk
    clear hk
    refine y_iconst (v := 1) E dX12_opensOne_25 (by decide) ?_
    exact y_nret E dX12_opensOne_26 (by decide) hv
  · replace hv := ite_t hv c1
    refine y_iconst (v := 0) E dX12_opensOne_8 (by decide) ?_
    exact y_nret E dX12_opensOne_9 (by decide) hv
theorem dX12_between_0 : decode cX12_between 0 = .ok (.aload_n 0, 1) := by decide +kernel
theorem dX12_between_1 : decode cX12_between 1 = .ok (.iload_n 1, 1) := by decide +kernel
theorem dX12_between_2 : decode cX12_between 2 = .ok (.invokestatic 127, 3) := by decide +kernel
theorem dX12_between_5 : decode cX12_between 5 = .ok (.iconst 4, 1) := by decide +kernel
theorem dX12_between_6 : decode cX12_between 6 = .ok (.if_icmp .ne 7, 3) := by decide +kernel
theorem dX12_between_9 : decode cX12_between 9 = .ok (.iconst 5, 1) := by decide +kernel
theorem dX12_between_10 : decode cX12_between 10 = .ok (.goto 7, 3) := by decide +kernel
theorem dX12_between_13 : decode cX12_between 13 = .ok (.iload_n 1, 1) := by decide +kernel
theorem dX12_between_14 : decode cX12_between 14 = .ok (.invokestatic 127, 3) := by decide +kernel
theorem dX12_between_17 : decode cX12_between 17 = .ok (.invokevirtual 141, 3) := by decide +kernel
theorem dX12_between_20 : decode cX12_between 20 = .ok (.iload_n 1, 1) := by decide +kernel
theorem dX12_between_21 : decode cX12_between 21 = .ok (.invokestatic 127, 3) := by decide +kernel
theorem dX12_between_24 : decode cX12_between 24 = .ok (.iconst 4, 1) := by decide +kernel
theorem dX12_between_25 : decode cX12_between 25 = .ok (.if_icmp .ne 30, 3) := by decide +kernel
theorem dX12_between_28 : decode cX12_between 28 = .ok (.aload_n 0, 1) := by decide +kernel
theorem dX12_between_29 : decode cX12_between 29 = .ok (.getfield 124, 3) := by decide +kernel
theorem dX12_between_32 : decode cX12_between 32 = .ok (.ifCond .le 23, 3) := by decide +kernel
theorem dX12_between_35 : decode cX12_between 35 = .ok (.aload_n 0, 1) := by decide +kernel
theorem dX12_between_36 : decode cX12_between 36 = .ok (.getfield 52, 3) := by decide +kernel
theorem dX12_between_39 : decode cX12_between 39 = .ok (.aload_n 0, 1) := by decide +kernel
theorem dX12_between_40 : decode cX12_between 40 = .ok (.getfield 124, 3) := by decide +kernel
theorem dX12_between_43 : decode cX12_between 43 = .ok (.iconst 1, 1) := by decide +kernel
theorem dX12_between_44 : decode cX12_between 44 = .ok (.isub, 1) := by decide +kernel
theorem dX12_between_45 : decode cX12_between 45 = .ok (.iaload, 1) := by decide +kernel
theorem dX12_between_46 : decode cX12_between 46 = .ok (.invokestatic 127, 3) := by decide +kernel
theorem dX12_between_49 : decode cX12_between 49 = .ok (.iconst 4, 1) := by decide +kernel
theorem dX12_between_50 : decode cX12_between 50 = .ok (.if_icmp .ne 5, 3) := by decide +kernel
theorem dX12_between_53 : decode cX12_between 53 = .ok (.iconst 0, 1) := by decide +kernel
theorem dX12_between_54 : decode cX12_between 54 = .ok (.ireturn, 1) := by decide +kernel
theorem dX12_between_55 : decode cX12_between 55 = .ok (.aload_n 0, 1) := by decide +kernel
theorem dX12_between_56 : decode cX12_between 56 = .ok (.iload_n 1, 1) := by decide +kernel
theorem dX12_between_57 : decode cX12_between 57 = .ok (.invokevirtual 138, 3) := by decide +kernel
theorem dX12_between_60 : decode cX12_between 60 = .ok (.iconst 1, 1) := by decide +kernel
theorem dX12_between_61 : decode cX12_between 61 = .ok (.ireturn, 1) := by decide +kernel
set_option maxRecDepth 100000 in
set_option maxHeartbeats 4000000 in
theorem kX12_between (l : Launch) (w : wT) (hw : yOk w 20) (σ : Hp) (a1 : Int32) (K : Int32 → Hp → Prop) (hv : VX12_between K σ a1) : yMet l w mcf 20 yX12_between cX12_between 2 (some .boolean) 3 [.ref (w.1 0), .int a1] σ (yQi w mcf 20 K) := by
  unfold VX12_between at hv
  refine y_start (lv0 := [(0, .ref (w.1 0)), (1, .int a1)]) (by decide +kernel) (own := RX12) rfl hw (Nat.le_of_ble_eq_true rfl) rfl (fun p e s m below meth c A E => ?_)
  have hb55 : ∀ (σ : Hp) (l1 : Int32), VX12_between_b55 K σ l1 → YY p l e (yRm 3) s m [.ref (w.1 0), .int a1].toArray below meth c w mcf 20 A (MQ below (yQi w mcf 20 K A) [.ref (w.1 0), .int a1].toArray s 0 0 A) 2 σ 55 [(0, .ref (w.1 0)), (1, .int l1)] [] := by
    intro σ l1 hv
    unfold VX12_between_b55 at hv
    refine y_aload_n E dX12_between_55 0 rfl ?_
    refine y_iload_n E dX12_between_56 1 rfl ?_
    refine y_callv E (y_runV E (rest := []) (kX12_holds l w E.2.2.1 σ l1 _ hv) (y_cwV 1 E.1.2.2.2.2 wm_524 wm_525 wm_526 wm_479 wm_527 (by decide +kernel) (yRm_le (by decide) (by decide))) (Nat.lt_of_lt_of_le (show 0 < 1 by decide) (by decide)) (mc_X12 (by decide) (by decide)) rfl rfl rfl (Nat.le_of_ble_eq_true rfl) dX12_between_57) (fun u16 hk => ?_)
    clear hv
    have hv := hk
    clear hk
    refine y_iconst (v := 1) E dX12_between_60 (by decide) ?_
    exact y_nret E dX12_between_61 (by decide) hv
  have hb17 : ∀ (σ : Hp) (l1 : Int32) (s0 : Int32), VX12_between_b17 K σ l1 s0 → YY p l e (yRm 3) s m [.ref (w.1 0), .int a1].toArray below meth c w mcf 20 A (MQ below (yQi w mcf 20 K A) [.ref (w.1 0), .int a1].toArray s 0 0 A) 2 σ 17 [(0, .ref (w.1 0)), (1, .int l1)] [.int s0, .ref (w.1 0)] := by
    intro σ l1 s0 hv
    unfold VX12_between_b17 at hv
    refine y_callv E (y_runV E (rest := []) (kX12_unwinds l w E.2.2.1 σ s0 _ hv) (y_cwV 1 E.1.2.2.2.2 wm_528 wm_529 wm_530 wm_479 wm_531 (by decide +kernel) (yRm_le (by decide) (by decide))) (Nat.lt_of_lt_of_le (show 0 < 1 by decide) (by decide)) (mc_X12 (by decide) (by decide)) rfl rfl rfl (Nat.le_of_ble_eq_true rfl) dX12_between_17) (fun u7 hk => ?_)
    clear hv
    have hv := hk
    clear hk
    refine y_iload_n E dX12_between_20 1 rfl ?_
    refine y_calli E (y_runS E (rest := []) (kX12_rank l w E.2.2.1 u7 l1 _ hv) (y_cwS 1 E.1.2.2.2.2 wm_516 wm_518 wm_479 wm_519 (by decide +kernel) (yRm_le (by decide) (by decide))) rfl rfl (Nat.le_of_ble_eq_true rfl) dX12_between_21) (fun v8 u9 hk => ?_)
    clear hv
    have hv := hk
    clear hk
    refine y_iconst (v := 4) E dX12_between_24 (by decide) ?_
    refine y_icmp_ne (tgt := 55) E dX12_between_25 (by decide) (fun c10 => ?_) (fun c10 => ?_)
    · replace hv := ite_f hv c10
      exact hb55 u9 l1 hv
    · replace hv := ite_t hv c10
      refine y_aload_n E dX12_between_28 0 rfl ?_
      refine gf_X12_27 E (by decide) (by decide) wm_514 dX12_between_29 ?_
      refine y_if_le (tgt := 55) E dX12_between_32 (by decide) (fun c11 => ?_) (fun c11 => ?_)
      · replace hv := ite_t hv c11
        exact hb55 u9 l1 hv
      · replace hv := ite_f hv c11
        refine y_aload_n E dX12_between_35 0 rfl ?_
        refine gf_X12_26 E (by decide) (by decide) wm_515 dX12_between_36 ?_
        refine y_aload_n E dX12_between_39 0 rfl ?_
        refine gf_X12_27 E (by decide) (by decide) wm_514 dX12_between_40 ?_
        refine y_iconst (v := 1) E dX12_between_43 (by decide) ?_
        refine y_isub E dX12_between_44 ?_
        obtain ⟨hi, hv⟩ := hv
        refine y_iald E (Nat.lt_of_lt_of_le (show 15 < 16 by decide) (by decide)) (mc_m_held (by decide) (by decide)) hi dX12_between_45 ?_
        refine y_calli E (y_runS E (rest := []) (kX12_rank l w E.2.2.1 u9 (u9 15 ((u9 0 27) - 1).toNatClampNeg) _ hv) (y_cwS 1 E.1.2.2.2.2 wm_516 wm_518 wm_479 wm_519 (by decide +kernel) (yRm_le (by decide) (by decide))) rfl rfl (Nat.le_of_ble_eq_true rfl) dX12_between_46) (fun v12 u13 hk => ?_)
        clear hv
        have hv := hk
        clear hk
        refine y_iconst (v := 4) E dX12_between_49 (by decide) ?_
        refine y_icmp_ne (tgt := 55) E dX12_between_50 (by decide) (fun c14 => ?_) (fun c14 => ?_)
        · replace hv := ite_f hv c14
          exact hb55 u13 l1 hv
        · replace hv := ite_t hv c14
          refine y_iconst (v := 0) E dX12_between_53 (by decide) ?_
          exact y_nret E dX12_between_54 (by decide) hv
  refine y_aload_n E dX12_between_0 0 rfl ?_
  refine y_iload_n E dX12_between_1 1 rfl ?_
  refine y_calli E (y_runS E (rest := [.ref (w.1 0)]) (kX12_rank l w E.2.2.1 σ a1 _ hv) (y_cwS 1 E.1.2.2.2.2 wm_516 wm_518 wm_479 wm_519 (by decide +kernel) (yRm_le (by decide) (by decide))) rfl rfl (Nat.le_of_ble_eq_true rfl) dX12_between_2) (fun v1 u2 hk => ?_)
  clear hv
  have hv := hk
  clear hk
  refine y_iconst (v := 4) E dX12_between_5 (by decide) ?_
  refine y_icmp_ne (tgt := 13) E dX12_between_6 (by decide) (fun c3 => ?_) (fun c3 => ?_)
  · replace hv := ite_f hv c3
    refine y_iload_n E dX12_between_13 1 rfl ?_
    refine y_calli E (y_runS E (rest := [.ref (w.1 0)]) (kX12_rank l w E.2.2.1 u2 a1 _ hv) (y_cwS 1 E.1.2.2.2.2 wm_516 wm_518 wm_479 wm_519 (by decide +kernel) (yRm_le (by decide) (by decide))) rfl rfl (Nat.le_of_ble_eq_true rfl) dX12_between_14) (fun v4 u5 hk => ?_)
    clear hv
    have hv := hk
    clear hk
    exact hb17 u5 a1 v4 hv
  · replace hv := ite_t hv c3
    refine y_iconst (v := 5) E dX12_between_9 (by decide) ?_
    refine y_goto (tgt := 17) E dX12_between_10 (by decide) ?_
    exact hb17 u2 a1 5 hv
theorem dX12_signOf_0 : decode cX12_signOf 0 = .ok (.aload_n 0, 1) := by decide +kernel
theorem dX12_signOf_1 : decode cX12_signOf 1 = .ok (.getfield 111, 3) := by decide +kernel
theorem dX12_signOf_4 : decode cX12_signOf 4 = .ok (.iconst 4, 1) := by decide +kernel
theorem dX12_signOf_5 : decode cX12_signOf 5 = .ok (.if_icmp .ne 8, 3) := by decide +kernel
theorem dX12_signOf_8 : decode cX12_signOf 8 = .ok (.bipush 11, 2) := by decide +kernel
theorem dX12_signOf_10 : decode cX12_signOf 10 = .ok (.goto 87, 3) := by decide +kernel
theorem dX12_signOf_13 : decode cX12_signOf 13 = .ok (.aload_n 0, 1) := by decide +kernel
theorem dX12_signOf_14 : decode cX12_signOf 14 = .ok (.getfield 111, 3) := by decide +kernel
theorem dX12_signOf_17 : decode cX12_signOf 17 = .ok (.iconst 5, 1) := by decide +kernel
theorem dX12_signOf_18 : decode cX12_signOf 18 = .ok (.if_icmp .ne 8, 3) := by decide +kernel
theorem dX12_signOf_21 : decode cX12_signOf 21 = .ok (.bipush 12, 2) := by decide +kernel
theorem dX12_signOf_23 : decode cX12_signOf 23 = .ok (.goto 74, 3) := by decide +kernel
theorem dX12_signOf_26 : decode cX12_signOf 26 = .ok (.aload_n 0, 1) := by decide +kernel
theorem dX12_signOf_27 : decode cX12_signOf 27 = .ok (.getfield 111, 3) := by decide +kernel
theorem dX12_signOf_30 : decode cX12_signOf 30 = .ok (.bipush 60, 2) := by decide +kernel
theorem dX12_signOf_32 : decode cX12_signOf 32 = .ok (.if_icmp .ne 8, 3) := by decide +kernel
theorem dX12_signOf_35 : decode cX12_signOf 35 = .ok (.bipush 14, 2) := by decide +kernel
theorem dX12_signOf_37 : decode cX12_signOf 37 = .ok (.goto 60, 3) := by decide +kernel
theorem dX12_signOf_40 : decode cX12_signOf 40 = .ok (.aload_n 0, 1) := by decide +kernel
theorem dX12_signOf_41 : decode cX12_signOf 41 = .ok (.getfield 111, 3) := by decide +kernel
theorem dX12_signOf_44 : decode cX12_signOf 44 = .ok (.bipush 61, 2) := by decide +kernel
theorem dX12_signOf_46 : decode cX12_signOf 46 = .ok (.if_icmp .ne 8, 3) := by decide +kernel
theorem dX12_signOf_49 : decode cX12_signOf 49 = .ok (.bipush 15, 2) := by decide +kernel
theorem dX12_signOf_51 : decode cX12_signOf 51 = .ok (.goto 46, 3) := by decide +kernel
theorem dX12_signOf_54 : decode cX12_signOf 54 = .ok (.aload_n 0, 1) := by decide +kernel
theorem dX12_signOf_55 : decode cX12_signOf 55 = .ok (.getfield 111, 3) := by decide +kernel
theorem dX12_signOf_58 : decode cX12_signOf 58 = .ok (.bipush 43, 2) := by decide +kernel
theorem dX12_signOf_60 : decode cX12_signOf 60 = .ok (.if_icmp .ne 8, 3) := by decide +kernel
theorem dX12_signOf_63 : decode cX12_signOf 63 = .ok (.bipush 16, 2) := by decide +kernel
theorem dX12_signOf_65 : decode cX12_signOf 65 = .ok (.goto 32, 3) := by decide +kernel
theorem dX12_signOf_68 : decode cX12_signOf 68 = .ok (.aload_n 0, 1) := by decide +kernel
theorem dX12_signOf_69 : decode cX12_signOf 69 = .ok (.getfield 111, 3) := by decide +kernel
theorem dX12_signOf_72 : decode cX12_signOf 72 = .ok (.bipush 45, 2) := by decide +kernel
theorem dX12_signOf_74 : decode cX12_signOf 74 = .ok (.if_icmp .ne 8, 3) := by decide +kernel
theorem dX12_signOf_77 : decode cX12_signOf 77 = .ok (.bipush 17, 2) := by decide +kernel
theorem dX12_signOf_79 : decode cX12_signOf 79 = .ok (.goto 18, 3) := by decide +kernel
theorem dX12_signOf_82 : decode cX12_signOf 82 = .ok (.aload_n 0, 1) := by decide +kernel
theorem dX12_signOf_83 : decode cX12_signOf 83 = .ok (.getfield 111, 3) := by decide +kernel
theorem dX12_signOf_86 : decode cX12_signOf 86 = .ok (.bipush 42, 2) := by decide +kernel
theorem dX12_signOf_88 : decode cX12_signOf 88 = .ok (.if_icmp .ne 8, 3) := by decide +kernel
theorem dX12_signOf_91 : decode cX12_signOf 91 = .ok (.bipush 18, 2) := by decide +kernel
theorem dX12_signOf_93 : decode cX12_signOf 93 = .ok (.goto 4, 3) := by decide +kernel
theorem dX12_signOf_96 : decode cX12_signOf 96 = .ok (.iconst (-1), 1) := by decide +kernel
theorem dX12_signOf_97 : decode cX12_signOf 97 = .ok (.ireturn, 1) := by decide +kernel
set_option maxRecDepth 100000 in
set_option maxHeartbeats 4000000 in
theorem kX12_signOf (l : Launch) (w : wT) (hw : yOk w 20) (σ : Hp)  (K : Int32 → Hp → Prop) (hv : VX12_signOf K σ ) : yMet l w mcf 20 yX12_signOf cX12_signOf 1 (some .int) 1 [.ref (w.1 0)] σ (yQi w mcf 20 K) := by
  unfold VX12_signOf at hv
  refine y_start (lv0 := [(0, .ref (w.1 0))]) (by decide +kernel) (own := RX12) rfl hw (Nat.le_of_ble_eq_true rfl) rfl (fun p e s m below meth c A E => ?_)
  refine y_aload_n E dX12_signOf_0 0 rfl ?_
  refine gf_X12_23 E (by decide) (by decide) wm_506 dX12_signOf_1 ?_
  refine y_iconst (v := 4) E dX12_signOf_4 (by decide) ?_
  refine y_icmp_ne (tgt := 13) E dX12_signOf_5 (by decide) (fun c1 => ?_) (fun c1 => ?_)
  · replace hv := ite_f hv c1
    refine y_aload_n E dX12_signOf_13 0 rfl ?_
    refine gf_X12_23 E (by decide) (by decide) wm_506 dX12_signOf_14 ?_
    refine y_iconst (v := 5) E dX12_signOf_17 (by decide) ?_
    refine y_icmp_ne (tgt := 26) E dX12_signOf_18 (by decide) (fun c2 => ?_) (fun c2 => ?_)
    · replace hv := ite_f hv c2
      refine y_aload_n E dX12_signOf_26 0 rfl ?_
      refine gf_X12_23 E (by decide) (by decide) wm_506 dX12_signOf_27 ?_
      refine y_bipush (v := 60) E dX12_signOf_30 (by decide) ?_
      refine y_icmp_ne (tgt := 40) E dX12_signOf_32 (by decide) (fun c3 => ?_) (fun c3 => ?_)
      · replace hv := ite_f hv c3
        refine y_aload_n E dX12_signOf_40 0 rfl ?_
        refine gf_X12_23 E (by decide) (by decide) wm_506 dX12_signOf_41 ?_
        refine y_bipush (v := 61) E dX12_signOf_44 (by decide) ?_
        refine y_icmp_ne (tgt := 54) E dX12_signOf_46 (by decide) (fun c4 => ?_) (fun c4 => ?_)
        · replace hv := ite_f hv c4
          refine y_aload_n E dX12_signOf_54 0 rfl ?_
          refine gf_X12_23 E (by decide) (by decide) wm_506 dX12_signOf_55 ?_
          refine y_bipush (v := 43) E dX12_signOf_58 (by decide) ?_
          refine y_icmp_ne (tgt := 68) E dX12_signOf_60 (by decide) (fun c5 => ?_) (fun c5 => ?_)
          · replace hv := ite_f hv c5
            refine y_aload_n E dX12_signOf_68 0 rfl ?_
            refine gf_X12_23 E (by decide) (by decide) wm_506 dX12_signOf_69 ?_
            refine y_bipush (v := 45) E dX12_signOf_72 (by decide) ?_
            refine y_icmp_ne (tgt := 82) E dX12_signOf_74 (by decide) (fun c6 => ?_) (fun c6 => ?_)
            · replace hv := ite_f hv c6
              refine y_aload_n E dX12_signOf_82 0 rfl ?_
              refine gf_X12_23 E (by decide) (by decide) wm_506 dX12_signOf_83 ?_
              refine y_bipush (v := 42) E dX12_signOf_86 (by decide) ?_
              refine y_icmp_ne (tgt := 96) E dX12_signOf_88 (by decide) (fun c7 => ?_) (fun c7 => ?_)
              · replace hv := ite_f hv c7
                refine y_iconst (v := (-1)) E dX12_signOf_96 (by decide) ?_
                exact y_iret E dX12_signOf_97 hv
              · replace hv := ite_t hv c7
                refine y_bipush (v := 18) E dX12_signOf_91 (by decide) ?_
                refine y_goto (tgt := 97) E dX12_signOf_93 (by decide) ?_
                exact y_iret E dX12_signOf_97 hv
            · replace hv := ite_t hv c6
              refine y_bipush (v := 17) E dX12_signOf_77 (by decide) ?_
              refine y_goto (tgt := 97) E dX12_signOf_79 (by decide) ?_
              exact y_iret E dX12_signOf_97 hv
          · replace hv := ite_t hv c5
            refine y_bipush (v := 16) E dX12_signOf_63 (by decide) ?_
            refine y_goto (tgt := 97) E dX12_signOf_65 (by decide) ?_
            exact y_iret E dX12_signOf_97 hv
        · replace hv := ite_t hv c4
          refine y_bipush (v := 15) E dX12_signOf_49 (by decide) ?_
          refine y_goto (tgt := 97) E dX12_signOf_51 (by decide) ?_
          exact y_iret E dX12_signOf_97 hv
      · replace hv := ite_t hv c3
        refine y_bipush (v := 14) E dX12_signOf_35 (by decide) ?_
        refine y_goto (tgt := 97) E dX12_signOf_37 (by decide) ?_
        exact y_iret E dX12_signOf_97 hv
    · replace hv := ite_t hv c2
      refine y_bipush (v := 12) E dX12_signOf_21 (by decide) ?_
      refine y_goto (tgt := 97) E dX12_signOf_23 (by decide) ?_
      exact y_iret E dX12_signOf_97 hv
  · replace hv := ite_t hv c1
    refine y_bipush (v := 11) E dX12_signOf_8 (by decide) ?_
    refine y_goto (tgt := 97) E dX12_signOf_10 (by decide) ?_
    exact y_iret E dX12_signOf_97 hv
theorem dX12_eRead_0 : decode cX12_eRead 0 = .ok (.aload_n 0, 1) := by decide +kernel
theorem dX12_eRead_1 : decode cX12_eRead 1 = .ok (.iconst 0, 1) := by decide +kernel
theorem dX12_eRead_2 : decode cX12_eRead 2 = .ok (.putfield 124, 3) := by decide +kernel
theorem dX12_eRead_5 : decode cX12_eRead 5 = .ok (.aload_n 0, 1) := by decide +kernel
theorem dX12_eRead_6 : decode cX12_eRead 6 = .ok (.iconst 0, 1) := by decide +kernel
theorem dX12_eRead_7 : decode cX12_eRead 7 = .ok (.putfield 131, 3) := by decide +kernel
theorem dX12_eRead_10 : decode cX12_eRead 10 = .ok (.iconst 1, 1) := by decide +kernel
theorem dX12_eRead_11 : decode cX12_eRead 11 = .ok (.istore_n 1, 1) := by decide +kernel
theorem dX12_eRead_12 : decode cX12_eRead 12 = .ok (.iconst 1, 1) := by decide +kernel
theorem dX12_eRead_13 : decode cX12_eRead 13 = .ok (.istore_n 2, 1) := by decide +kernel
theorem dX12_eRead_14 : decode cX12_eRead 14 = .ok (.aload_n 0, 1) := by decide +kernel
theorem dX12_eRead_15 : decode cX12_eRead 15 = .ok (.invokevirtual 144, 3) := by decide +kernel
theorem dX12_eRead_18 : decode cX12_eRead 18 = .ok (.iload_n 1, 1) := by decide +kernel
theorem dX12_eRead_19 : decode cX12_eRead 19 = .ok (.ifCond .eq 131, 3) := by decide +kernel
theorem dX12_eRead_22 : decode cX12_eRead 22 = .ok (.aload_n 0, 1) := by decide +kernel
theorem dX12_eRead_23 : decode cX12_eRead 23 = .ok (.getfield 111, 3) := by decide +kernel
theorem dX12_eRead_26 : decode cX12_eRead 26 = .ok (.iconst 1, 1) := by decide +kernel
theorem dX12_eRead_27 : decode cX12_eRead 27 = .ok (.if_icmp .eq 11, 3) := by decide +kernel
theorem dX12_eRead_30 : decode cX12_eRead 30 = .ok (.aload_n 0, 1) := by decide +kernel
theorem dX12_eRead_31 : decode cX12_eRead 31 = .ok (.getfield 111, 3) := by decide +kernel
theorem dX12_eRead_34 : decode cX12_eRead 34 = .ok (.iconst 2, 1) := by decide +kernel
theorem dX12_eRead_35 : decode cX12_eRead 35 = .ok (.if_icmp .ne 40, 3) := by decide +kernel
theorem dX12_eRead_38 : decode cX12_eRead 38 = .ok (.aload_n 0, 1) := by decide +kernel
theorem dX12_eRead_39 : decode cX12_eRead 39 = .ok (.aload_n 0, 1) := by decide +kernel
theorem dX12_eRead_40 : decode cX12_eRead 40 = .ok (.getfield 111, 3) := by decide +kernel
theorem dX12_eRead_43 : decode cX12_eRead 43 = .ok (.iconst 1, 1) := by decide +kernel
theorem dX12_eRead_44 : decode cX12_eRead 44 = .ok (.if_icmp .ne 13, 3) := by decide +kernel
theorem dX12_eRead_47 : decode cX12_eRead 47 = .ok (.ldc 147, 2) := by decide +kernel
theorem dX12_eRead_49 : decode cX12_eRead 49 = .ok (.aload_n 0, 1) := by decide +kernel
theorem dX12_eRead_50 : decode cX12_eRead 50 = .ok (.getfield 114, 3) := by decide +kernel
theorem dX12_eRead_53 : decode cX12_eRead 53 = .ok (.iadd, 1) := by decide +kernel
theorem dX12_eRead_54 : decode cX12_eRead 54 = .ok (.goto 7, 3) := by decide +kernel
theorem dX12_eRead_57 : decode cX12_eRead 57 = .ok (.aload_n 0, 1) := by decide +kernel
theorem dX12_eRead_58 : decode cX12_eRead 58 = .ok (.getfield 114, 3) := by decide +kernel
theorem dX12_eRead_61 : decode cX12_eRead 61 = .ok (.invokevirtual 134, 3) := by decide +kernel
theorem dX12_eRead_64 : decode cX12_eRead 64 = .ok (.aload_n 0, 1) := by decide +kernel
theorem dX12_eRead_65 : decode cX12_eRead 65 = .ok (.bipush 7, 2) := by decide +kernel
theorem dX12_eRead_67 : decode cX12_eRead 67 = .ok (.invokevirtual 141, 3) := by decide +kernel
theorem dX12_eRead_70 : decode cX12_eRead 70 = .ok (.iconst 0, 1) := by decide +kernel
theorem dX12_eRead_71 : decode cX12_eRead 71 = .ok (.istore_n 1, 1) := by decide +kernel
theorem dX12_eRead_72 : decode cX12_eRead 72 = .ok (.goto (-58), 3) := by decide +kernel
theorem dX12_eRead_75 : decode cX12_eRead 75 = .ok (.aload_n 0, 1) := by decide +kernel
theorem dX12_eRead_76 : decode cX12_eRead 76 = .ok (.getfield 111, 3) := by decide +kernel
theorem dX12_eRead_79 : decode cX12_eRead 79 = .ok (.bipush 6, 2) := by decide +kernel
theorem dX12_eRead_81 : decode cX12_eRead 81 = .ok (.if_icmp .ne 18, 3) := by decide +kernel
theorem dX12_eRead_84 : decode cX12_eRead 84 = .ok (.iload_n 2, 1) := by decide +kernel
theorem dX12_eRead_85 : decode cX12_eRead 85 = .ok (.ifCond .eq 14, 3) := by decide +kernel
theorem dX12_eRead_88 : decode cX12_eRead 88 = .ok (.aload_n 0, 1) := by decide +kernel
theorem dX12_eRead_89 : decode cX12_eRead 89 = .ok (.bipush 13, 2) := by decide +kernel
theorem dX12_eRead_91 : decode cX12_eRead 91 = .ok (.invokevirtual 148, 3) := by decide +kernel
theorem dX12_eRead_94 : decode cX12_eRead 94 = .ok (.ifCond .ne (-80), 3) := by decide +kernel
theorem dX12_eRead_97 : decode cX12_eRead 97 = .ok (.iconst 0, 1) := by decide +kernel
theorem dX12_eRead_98 : decode cX12_eRead 98 = .ok (.ireturn, 1) := by decide +kernel
theorem dX12_eRead_99 : decode cX12_eRead 99 = .ok (.aload_n 0, 1) := by decide +kernel
theorem dX12_eRead_100 : decode cX12_eRead 100 = .ok (.getfield 111, 3) := by decide +kernel
theorem dX12_eRead_103 : decode cX12_eRead 103 = .ok (.bipush 45, 2) := by decide +kernel
theorem dX12_eRead_105 : decode cX12_eRead 105 = .ok (.if_icmp .ne 19, 3) := by decide +kernel
theorem dX12_eRead_108 : decode cX12_eRead 108 = .ok (.aload_n 0, 1) := by decide +kernel
theorem dX12_eRead_109 : decode cX12_eRead 109 = .ok (.bipush 19, 2) := by decide +kernel
theorem dX12_eRead_111 : decode cX12_eRead 111 = .ok (.invokevirtual 148, 3) := by decide +kernel
theorem dX12_eRead_114 : decode cX12_eRead 114 = .ok (.ifCond .ne 5, 3) := by decide +kernel
theorem dX12_eRead_117 : decode cX12_eRead 117 = .ok (.iconst 0, 1) := by decide +kernel
theorem dX12_eRead_118 : decode cX12_eRead 118 = .ok (.ireturn, 1) := by decide +kernel
theorem dX12_eRead_119 : decode cX12_eRead 119 = .ok (.iconst 0, 1) := by decide +kernel
theorem dX12_eRead_120 : decode cX12_eRead 120 = .ok (.istore_n 2, 1) := by decide +kernel
theorem dX12_eRead_121 : decode cX12_eRead 121 = .ok (.goto (-107), 3) := by decide +kernel
theorem dX12_eRead_124 : decode cX12_eRead 124 = .ok (.aload_n 0, 1) := by decide +kernel
theorem dX12_eRead_125 : decode cX12_eRead 125 = .ok (.getfield 111, 3) := by decide +kernel
theorem dX12_eRead_128 : decode cX12_eRead 128 = .ok (.bipush 40, 2) := by decide +kernel
theorem dX12_eRead_130 : decode cX12_eRead 130 = .ok (.if_icmp .ne 18, 3) := by decide +kernel
theorem dX12_eRead_133 : decode cX12_eRead 133 = .ok (.aload_n 0, 1) := by decide +kernel
theorem dX12_eRead_134 : decode cX12_eRead 134 = .ok (.iconst 0, 1) := by decide +kernel
theorem dX12_eRead_135 : decode cX12_eRead 135 = .ok (.invokevirtual 148, 3) := by decide +kernel
theorem dX12_eRead_138 : decode cX12_eRead 138 = .ok (.ifCond .ne 5, 3) := by decide +kernel
theorem dX12_eRead_141 : decode cX12_eRead 141 = .ok (.iconst 0, 1) := by decide +kernel
theorem dX12_eRead_142 : decode cX12_eRead 142 = .ok (.ireturn, 1) := by decide +kernel
theorem dX12_eRead_143 : decode cX12_eRead 143 = .ok (.iconst 1, 1) := by decide +kernel
theorem dX12_eRead_144 : decode cX12_eRead 144 = .ok (.istore_n 2, 1) := by decide +kernel
theorem dX12_eRead_145 : decode cX12_eRead 145 = .ok (.goto (-131), 3) := by decide +kernel
theorem dX12_eRead_148 : decode cX12_eRead 148 = .ok (.iconst 0, 1) := by decide +kernel
theorem dX12_eRead_149 : decode cX12_eRead 149 = .ok (.ireturn, 1) := by decide +kernel
theorem dX12_eRead_150 : decode cX12_eRead 150 = .ok (.aload_n 0, 1) := by decide +kernel
theorem dX12_eRead_151 : decode cX12_eRead 151 = .ok (.getfield 111, 3) := by decide +kernel
theorem dX12_eRead_154 : decode cX12_eRead 154 = .ok (.bipush 59, 2) := by decide +kernel
theorem dX12_eRead_156 : decode cX12_eRead 156 = .ok (.if_icmp .ne 21, 3) := by decide +kernel
theorem dX12_eRead_159 : decode cX12_eRead 159 = .ok (.aload_n 0, 1) := by decide +kernel
theorem dX12_eRead_160 : decode cX12_eRead 160 = .ok (.iconst 1, 1) := by decide +kernel
theorem dX12_eRead_161 : decode cX12_eRead 161 = .ok (.invokevirtual 141, 3) := by decide +kernel
theorem dX12_eRead_164 : decode cX12_eRead 164 = .ok (.aload_n 0, 1) := by decide +kernel
theorem dX12_eRead_165 : decode cX12_eRead 165 = .ok (.getfield 124, 3) := by decide +kernel
theorem dX12_eRead_168 : decode cX12_eRead 168 = .ok (.ifCond .ne 7, 3) := by decide +kernel
theorem dX12_eRead_171 : decode cX12_eRead 171 = .ok (.iconst 1, 1) := by decide +kernel
theorem dX12_eRead_172 : decode cX12_eRead 172 = .ok (.goto 4, 3) := by decide +kernel
theorem dX12_eRead_175 : decode cX12_eRead 175 = .ok (.iconst 0, 1) := by decide +kernel
theorem dX12_eRead_176 : decode cX12_eRead 176 = .ok (.ireturn, 1) := by decide +kernel
theorem dX12_eRead_177 : decode cX12_eRead 177 = .ok (.aload_n 0, 1) := by decide +kernel
theorem dX12_eRead_178 : decode cX12_eRead 178 = .ok (.getfield 111, 3) := by decide +kernel
theorem dX12_eRead_181 : decode cX12_eRead 181 = .ok (.bipush 41, 2) := by decide +kernel
theorem dX12_eRead_183 : decode cX12_eRead 183 = .ok (.if_icmp .ne 46, 3) := by decide +kernel
theorem dX12_eRead_186 : decode cX12_eRead 186 = .ok (.aload_n 0, 1) := by decide +kernel
theorem dX12_eRead_187 : decode cX12_eRead 187 = .ok (.iconst 1, 1) := by decide +kernel
theorem dX12_eRead_188 : decode cX12_eRead 188 = .ok (.invokevirtual 141, 3) := by decide +kernel
theorem dX12_eRead_191 : decode cX12_eRead 191 = .ok (.aload_n 0, 1) := by decide +kernel
theorem dX12_eRead_192 : decode cX12_eRead 192 = .ok (.getfield 124, 3) := by decide +kernel
theorem dX12_eRead_195 : decode cX12_eRead 195 = .ok (.ifCond .ne 5, 3) := by decide +kernel
theorem dX12_eRead_198 : decode cX12_eRead 198 = .ok (.iconst 0, 1) := by decide +kernel
theorem dX12_eRead_199 : decode cX12_eRead 199 = .ok (.ireturn, 1) := by decide +kernel
theorem dX12_eRead_200 : decode cX12_eRead 200 = .ok (.aload_n 0, 1) := by decide +kernel
theorem dX12_eRead_201 : decode cX12_eRead 201 = .ok (.dup, 1) := by decide +kernel
theorem dX12_eRead_202 : decode cX12_eRead 202 = .ok (.getfield 124, 3) := by decide +kernel
theorem dX12_eRead_205 : decode cX12_eRead 205 = .ok (.iconst 1, 1) := by decide +kernel
theorem dX12_eRead_206 : decode cX12_eRead 206 = .ok (.isub, 1) := by decide +kernel
theorem dX12_eRead_207 : decode cX12_eRead 207 = .ok (.putfield 124, 3) := by decide +kernel
theorem dX12_eRead_210 : decode cX12_eRead 210 = .ok (.aload_n 0, 1) := by decide +kernel
theorem dX12_eRead_211 : decode cX12_eRead 211 = .ok (.dup, 1) := by decide +kernel
theorem dX12_eRead_212 : decode cX12_eRead 212 = .ok (.getfield 131, 3) := by decide +kernel
theorem dX12_eRead_215 : decode cX12_eRead 215 = .ok (.iconst 1, 1) := by decide +kernel
theorem dX12_eRead_216 : decode cX12_eRead 216 = .ok (.isub, 1) := by decide +kernel
theorem dX12_eRead_217 : decode cX12_eRead 217 = .ok (.putfield 131, 3) := by decide +kernel
theorem dX12_eRead_220 : decode cX12_eRead 220 = .ok (.aload_n 0, 1) := by decide +kernel
theorem dX12_eRead_221 : decode cX12_eRead 221 = .ok (.bipush 7, 2) := by decide +kernel
theorem dX12_eRead_223 : decode cX12_eRead 223 = .ok (.invokevirtual 141, 3) := by decide +kernel
theorem dX12_eRead_226 : decode cX12_eRead 226 = .ok (.goto (-212), 3) := by decide +kernel
theorem dX12_eRead_229 : decode cX12_eRead 229 = .ok (.aload_n 0, 1) := by decide +kernel
theorem dX12_eRead_230 : decode cX12_eRead 230 = .ok (.invokevirtual 151, 3) := by decide +kernel
theorem dX12_eRead_233 : decode cX12_eRead 233 = .ok (.istore_n 3, 1) := by decide +kernel
theorem dX12_eRead_234 : decode cX12_eRead 234 = .ok (.iload_n 3, 1) := by decide +kernel
theorem dX12_eRead_235 : decode cX12_eRead 235 = .ok (.iconst (-1), 1) := by decide +kernel
theorem dX12_eRead_236 : decode cX12_eRead 236 = .ok (.if_icmp .eq 11, 3) := by decide +kernel
theorem dX12_eRead_239 : decode cX12_eRead 239 = .ok (.aload_n 0, 1) := by decide +kernel
theorem dX12_eRead_240 : decode cX12_eRead 240 = .ok (.iload_n 3, 1) := by decide +kernel
theorem dX12_eRead_241 : decode cX12_eRead 241 = .ok (.invokevirtual 154, 3) := by decide +kernel
theorem dX12_eRead_244 : decode cX12_eRead 244 = .ok (.ifCond .ne 5, 3) := by decide +kernel
theorem dX12_eRead_247 : decode cX12_eRead 247 = .ok (.iconst 0, 1) := by decide +kernel
theorem dX12_eRead_248 : decode cX12_eRead 248 = .ok (.ireturn, 1) := by decide +kernel
theorem dX12_eRead_249 : decode cX12_eRead 249 = .ok (.iconst 1, 1) := by decide +kernel
theorem dX12_eRead_250 : decode cX12_eRead 250 = .ok (.istore_n 1, 1) := by decide +kernel
theorem dX12_eRead_251 : decode cX12_eRead 251 = .ok (.iload_n 3, 1) := by decide +kernel
theorem dX12_eRead_252 : decode cX12_eRead 252 = .ok (.bipush 12, 2) := by decide +kernel
theorem dX12_eRead_254 : decode cX12_eRead 254 = .ok (.if_icmp .gt 7, 3) := by decide +kernel
theorem dX12_eRead_257 : decode cX12_eRead 257 = .ok (.iconst 1, 1) := by decide +kernel
theorem dX12_eRead_258 : decode cX12_eRead 258 = .ok (.goto 4, 3) := by decide +kernel
theorem dX12_eRead_261 : decode cX12_eRead 261 = .ok (.iconst 0, 1) := by decide +kernel
theorem dX12_eRead_262 : decode cX12_eRead 262 = .ok (.istore_n 2, 1) := by decide +kernel
theorem dX12_eRead_263 : decode cX12_eRead 263 = .ok (.goto (-249), 3) := by decide +kernel
set_option maxRecDepth 100000 in
set_option maxHeartbeats 4000000 in
theorem kX12_eRead (l : Launch) (w : wT) (hw : yOk w 20) (σ : Hp)  (K : Int32 → Hp → Prop) (hv : VX12_eRead K σ ) : yMet l w mcf 20 yX12_eRead cX12_eRead 4 (some .boolean) 4 [.ref (w.1 0)] σ (yQi w mcf 20 K) := by
  unfold VX12_eRead at hv
  refine y_start (lv0 := [(0, .ref (w.1 0))]) (by decide +kernel) (own := RX12) rfl hw (Nat.le_of_ble_eq_true rfl) rfl (fun p e s m below meth c A E => ?_)
  have hL14 : ∀ (n14 : Nat) (σ : Hp) (l1 : Int32) (l2 : Int32), VX12_eRead_L14 K n14 σ l1 l2 → YY p l e (yRm 4) s m [.ref (w.1 0)].toArray below meth c w mcf 20 A (MQ below (yQi w mcf 20 K A) [.ref (w.1 0)].toArray s 0 0 A) 4 σ 14 [(0, .ref (w.1 0)), (1, .int l1), (2, .int l2)] [] := by
    intro n14
    induction n14 with
    | zero => exact fun _ _ _ hv => (by unfold VX12_eRead_L14 at hv; exact hv.elim)
    | succ n14 ih14 =>
      have hb61 : ∀ (σ : Hp) (l2 : Int32) (s0 : Int32), VX12_eRead_b61 K (VX12_eRead_L14 K n14) σ l2 s0 → YY p l e (yRm 4) s m [.ref (w.1 0)].toArray below meth c w mcf 20 A (MQ below (yQi w mcf 20 K A) [.ref (w.1 0)].toArray s 0 0 A) 4 σ 61 [(0, .ref (w.1 0)), (2, .int l2)] [.int s0, .ref (w.1 0)] := by
        intro σ l2 s0 hv
        unfold VX12_eRead_b61 at hv
        refine y_callv E (y_runV E (rest := []) (kX12_puts l w E.2.2.1 σ s0 _ hv) (y_cwV 1 E.1.2.2.2.2 wm_520 wm_521 wm_522 wm_479 wm_523 (by decide +kernel) (yRm_le (by decide) (by decide))) (Nat.lt_of_lt_of_le (show 0 < 1 by decide) (by decide)) (mc_X12 (by decide) (by decide)) rfl rfl rfl (Nat.le_of_ble_eq_true rfl) dX12_eRead_61) (fun u42 hk => ?_)
        clear hv
        have hv := hk
        clear hk
        refine y_aload_n E dX12_eRead_64 0 rfl ?_
        refine y_bipush (v := 7) E dX12_eRead_65 (by decide) ?_
        refine y_callv E (y_runV E (rest := []) (kX12_unwinds l w E.2.2.1 u42 7 _ hv) (y_cwV 1 E.1.2.2.2.2 wm_528 wm_529 wm_530 wm_479 wm_531 (by decide +kernel) (yRm_le (by decide) (by decide))) (Nat.lt_of_lt_of_le (show 0 < 1 by decide) (by decide)) (mc_X12 (by decide) (by decide)) rfl rfl rfl (Nat.le_of_ble_eq_true rfl) dX12_eRead_67) (fun u44 hk => ?_)
        clear hv
        have hv := hk
        clear hk
        refine y_iconst (v := 0) E dX12_eRead_70 (by decide) ?_
        refine y_istore_n (lv' := [(1, .int 0), (0, .ref (w.1 0)), (2, .int l2)]) E dX12_eRead_71 (by decide) rfl ?_
        refine y_goto (tgt := 14) E dX12_eRead_72 (by decide) ?_
        refine y_lv (lv' := [(0, .ref (w.1 0)), (1, .int 0), (2, .int l2)]) [1, 0, 2] rfl ?_
        exact ih14 u44 0 l2 hv
      have hb38 : ∀ (σ : Hp) (l2 : Int32), VX12_eRead_b38 K (VX12_eRead_L14 K n14) σ l2 → YY p l e (yRm 4) s m [.ref (w.1 0)].toArray below meth c w mcf 20 A (MQ below (yQi w mcf 20 K A) [.ref (w.1 0)].toArray s 0 0 A) 4 σ 38 [(0, .ref (w.1 0)), (2, .int l2)] [] := by
        intro σ l2 hv
        unfold VX12_eRead_b38 at hv
        refine y_aload_n E dX12_eRead_38 0 rfl ?_
        refine y_aload_n E dX12_eRead_39 0 rfl ?_
        refine gf_X12_23 E (by decide) (by decide) wm_506 dX12_eRead_40 ?_
        refine y_iconst (v := 1) E dX12_eRead_43 (by decide) ?_
        refine y_icmp_ne (tgt := 57) E dX12_eRead_44 (by decide) (fun c32 => ?_) (fun c32 => ?_)
        · replace hv := ite_f hv c32
          refine y_aload_n E dX12_eRead_57 0 rfl ?_
          refine gf_X12_24 E (by decide) (by decide) wm_507 dX12_eRead_58 ?_
          exact hb61 σ l2 (σ 0 24) hv
        · replace hv := ite_t hv c32
          refine y_ldc (v := 100000) E wm_548 dX12_eRead_47 ?_
          refine y_aload_n E dX12_eRead_49 0 rfl ?_
          refine gf_X12_24 E (by decide) (by decide) wm_507 dX12_eRead_50 ?_
          refine y_iadd E dX12_eRead_53 ?_
          refine y_goto (tgt := 61) E dX12_eRead_54 (by decide) ?_
          exact hb61 σ l2 (100000 + (σ 0 24)) hv
      have hb99 : ∀ (σ : Hp) (l1 : Int32), VX12_eRead_b99 K (VX12_eRead_L14 K n14) σ l1 → YY p l e (yRm 4) s m [.ref (w.1 0)].toArray below meth c w mcf 20 A (MQ below (yQi w mcf 20 K A) [.ref (w.1 0)].toArray s 0 0 A) 4 σ 99 [(0, .ref (w.1 0)), (1, .int l1)] [] := by
        intro σ l1 hv
        unfold VX12_eRead_b99 at hv
        refine y_aload_n E dX12_eRead_99 0 rfl ?_
        refine gf_X12_23 E (by decide) (by decide) wm_506 dX12_eRead_100 ?_
        refine y_bipush (v := 45) E dX12_eRead_103 (by decide) ?_
        refine y_icmp_ne (tgt := 124) E dX12_eRead_105 (by decide) (fun c33 => ?_) (fun c33 => ?_)
        · replace hv := ite_f hv c33
          refine y_aload_n E dX12_eRead_124 0 rfl ?_
          refine gf_X12_23 E (by decide) (by decide) wm_506 dX12_eRead_125 ?_
          refine y_bipush (v := 40) E dX12_eRead_128 (by decide) ?_
          refine y_icmp_ne (tgt := 148) E dX12_eRead_130 (by decide) (fun c34 => ?_) (fun c34 => ?_)
          · replace hv := ite_f hv c34
            refine y_iconst (v := 0) E dX12_eRead_148 (by decide) ?_
            exact y_nret E dX12_eRead_149 (by decide) hv
          · replace hv := ite_t hv c34
            refine y_aload_n E dX12_eRead_133 0 rfl ?_
            refine y_iconst (v := 0) E dX12_eRead_134 (by decide) ?_
            refine y_calli E (y_runV E (rest := []) (kX12_opensOne l w E.2.2.1 σ 0 _ hv) (y_cwV 1 E.1.2.2.2.2 wm_541 wm_542 wm_543 wm_479 wm_544 (by decide +kernel) (yRm_le (by decide) (by decide))) (Nat.lt_of_lt_of_le (show 0 < 1 by decide) (by decide)) (mc_X12 (by decide) (by decide)) rfl rfl rfl (Nat.le_of_ble_eq_true rfl) dX12_eRead_135) (fun v35 u36 hk => ?_)
            clear hv
            have hv := hk
            clear hk
            refine y_if_ne (tgt := 143) E dX12_eRead_138 (by decide) (fun c37 => ?_) (fun c37 => ?_)
            · replace hv := ite_f hv c37
              refine y_iconst (v := 1) E dX12_eRead_143 (by decide) ?_
              refine y_istore_n (lv' := [(2, .int 1), (0, .ref (w.1 0)), (1, .int l1)]) E dX12_eRead_144 (by decide) rfl ?_
              refine y_goto (tgt := 14) E dX12_eRead_145 (by decide) ?_
              refine y_lv (lv' := [(0, .ref (w.1 0)), (1, .int l1), (2, .int 1)]) [1, 2, 0] rfl ?_
              exact ih14 u36 l1 1 hv
            · replace hv := ite_t hv c37
              refine y_iconst (v := 0) E dX12_eRead_141 (by decide) ?_
              exact y_nret E dX12_eRead_142 (by decide) hv
        · replace hv := ite_t hv c33
          refine y_aload_n E dX12_eRead_108 0 rfl ?_
          refine y_bipush (v := 19) E dX12_eRead_109 (by decide) ?_
          refine y_calli E (y_runV E (rest := []) (kX12_opensOne l w E.2.2.1 σ 19 _ hv) (y_cwV 1 E.1.2.2.2.2 wm_541 wm_542 wm_543 wm_479 wm_544 (by decide +kernel) (yRm_le (by decide) (by decide))) (Nat.lt_of_lt_of_le (show 0 < 1 by decide) (by decide)) (mc_X12 (by decide) (by decide)) rfl rfl rfl (Nat.le_of_ble_eq_true rfl) dX12_eRead_111) (fun v38 u39 hk => ?_)
          clear hv
          have hv := hk
          clear hk
          refine y_if_ne (tgt := 119) E dX12_eRead_114 (by decide) (fun c40 => ?_) (fun c40 => ?_)
          · replace hv := ite_f hv c40
            refine y_iconst (v := 0) E dX12_eRead_119 (by decide) ?_
            refine y_istore_n (lv' := [(2, .int 0), (0, .ref (w.1 0)), (1, .int l1)]) E dX12_eRead_120 (by decide) rfl ?_
            refine y_goto (tgt := 14) E dX12_eRead_121 (by decide) ?_
            refine y_lv (lv' := [(0, .ref (w.1 0)), (1, .int l1), (2, .int 0)]) [1, 2, 0] rfl ?_
            exact ih14 u39 l1 0 hv
          · replace hv := ite_t hv c40
            refine y_iconst (v := 0) E dX12_eRead_117 (by decide) ?_
            exact y_nret E dX12_eRead_118 (by decide) hv
      intro σ l1 l2 hv
      unfold VX12_eRead_L14 at hv
      refine y_aload_n E dX12_eRead_14 0 rfl ?_
      refine y_callv E (y_runV E (rest := []) (kX12_next l w E.2.2.1 σ _ hv) (y_cwV 0 E.1.2.2.2.2 wm_532 wm_545 wm_546 wm_479 wm_547 (by decide +kernel) (yRm_le (by decide) (by decide))) (Nat.lt_of_lt_of_le (show 0 < 1 by decide) (by decide)) (mc_X12 (by decide) (by decide)) rfl rfl rfl (Nat.le_of_ble_eq_true rfl) dX12_eRead_15) (fun u4 hk => ?_)
      clear hv
      have hv := hk
      clear hk
      refine y_iload_n E dX12_eRead_18 1 rfl ?_
      refine y_if_eq (tgt := 150) E dX12_eRead_19 (by decide) (fun c5 => ?_) (fun c5 => ?_)
      · replace hv := ite_t hv c5
        refine y_aload_n E dX12_eRead_150 0 rfl ?_
        refine gf_X12_23 E (by decide) (by decide) wm_506 dX12_eRead_151 ?_
        refine y_bipush (v := 59) E dX12_eRead_154 (by decide) ?_
        refine y_icmp_ne (tgt := 177) E dX12_eRead_156 (by decide) (fun c6 => ?_) (fun c6 => ?_)
        · replace hv := ite_f hv c6
          refine y_aload_n E dX12_eRead_177 0 rfl ?_
          refine gf_X12_23 E (by decide) (by decide) wm_506 dX12_eRead_178 ?_
          refine y_bipush (v := 41) E dX12_eRead_181 (by decide) ?_
          refine y_icmp_ne (tgt := 229) E dX12_eRead_183 (by decide) (fun c7 => ?_) (fun c7 => ?_)
          · replace hv := ite_f hv c7
            refine y_aload_n E dX12_eRead_229 0 rfl ?_
            refine y_calli E (y_runV E (rest := []) (kX12_signOf l w E.2.2.1 u4 _ hv) (y_cwV 0 E.1.2.2.2.2 wm_533 wm_538 wm_539 wm_479 wm_540 (by decide +kernel) (yRm_le (by decide) (by decide))) (Nat.lt_of_lt_of_le (show 0 < 1 by decide) (by decide)) (mc_X12 (by decide) (by decide)) rfl rfl rfl (Nat.le_of_ble_eq_true rfl) dX12_eRead_230) (fun v8 u9 hk => ?_)
            clear hv
            have hv := hk
            clear hk
            refine y_istore_n (lv' := [(3, .int v8), (0, .ref (w.1 0)), (1, .int l1), (2, .int l2)]) E dX12_eRead_233 (by decide) rfl ?_
            refine y_iload_n E dX12_eRead_234 0 rfl ?_
            refine y_iconst (v := (-1)) E dX12_eRead_235 (by decide) ?_
            refine y_icmp_eq (tgt := 247) E dX12_eRead_236 (by decide) (fun c10 => ?_) (fun c10 => ?_)
            · replace hv := ite_t hv c10
              refine y_iconst (v := 0) E dX12_eRead_247 (by decide) ?_
              exact y_nret E dX12_eRead_248 (by decide) hv
            · replace hv := ite_f hv c10
              refine y_aload_n E dX12_eRead_239 1 rfl ?_
              refine y_iload_n E dX12_eRead_240 0 rfl ?_
              refine y_calli E (y_runV E (rest := []) (kX12_between l w E.2.2.1 u9 v8 _ hv) (y_cwV 1 E.1.2.2.2.2 wm_534 wm_535 wm_536 wm_479 wm_537 (by decide +kernel) (yRm_le (by decide) (by decide))) (Nat.lt_of_lt_of_le (show 0 < 1 by decide) (by decide)) (mc_X12 (by decide) (by decide)) rfl rfl rfl (Nat.le_of_ble_eq_true rfl) dX12_eRead_241) (fun v11 u12 hk => ?_)
              clear hv
              have hv := hk
              clear hk
              refine y_if_ne (tgt := 249) E dX12_eRead_244 (by decide) (fun c13 => ?_) (fun c13 => ?_)
              · replace hv := ite_f hv c13
                refine y_iconst (v := 1) E dX12_eRead_249 (by decide) ?_
                refine y_istore_n (lv' := [(1, .int 1), (3, .int v8), (0, .ref (w.1 0)), (2, .int l2)]) E dX12_eRead_250 (by decide) rfl ?_
                refine y_iload_n E dX12_eRead_251 1 rfl ?_
                refine y_bipush (v := 12) E dX12_eRead_252 (by decide) ?_
                refine y_icmp_gt (tgt := 261) E dX12_eRead_254 (by decide) (fun c14 => ?_) (fun c14 => ?_)
                · replace hv := ite_t hv c14
                  refine y_iconst (v := 0) E dX12_eRead_261 (by decide) ?_
                  refine y_istore_n (lv' := [(2, .int 0), (1, .int 1), (3, .int v8), (0, .ref (w.1 0))]) E dX12_eRead_262 (by decide) rfl ?_
                  refine y_goto (tgt := 14) E dX12_eRead_263 (by decide) ?_
                  refine y_lv (lv' := [(0, .ref (w.1 0)), (1, .int 1), (2, .int 0)]) [3, 1, 0] rfl ?_
                  exact ih14 u12 1 0 hv
                · replace hv := ite_f hv c14
                  refine y_iconst (v := 1) E dX12_eRead_257 (by decide) ?_
                  refine y_goto (tgt := 262) E dX12_eRead_258 (by decide) ?_
                  refine y_istore_n (lv' := [(2, .int 1), (1, .int 1), (3, .int v8), (0, .ref (w.1 0))]) E dX12_eRead_262 (by decide) rfl ?_
                  refine y_goto (tgt := 14) E dX12_eRead_263 (by decide) ?_
                  refine y_lv (lv' := [(0, .ref (w.1 0)), (1, .int 1), (2, .int 1)]) [3, 1, 0] rfl ?_
                  exact ih14 u12 1 1 hv
              · replace hv := ite_t hv c13
                refine y_iconst (v := 0) E dX12_eRead_247 (by decide) ?_
                exact y_nret E dX12_eRead_248 (by decide) hv
          · replace hv := ite_t hv c7
            refine y_aload_n E dX12_eRead_186 0 rfl ?_
            refine y_iconst (v := 1) E dX12_eRead_187 (by decide) ?_
            refine y_callv E (y_runV E (rest := []) (kX12_unwinds l w E.2.2.1 u4 1 _ hv) (y_cwV 1 E.1.2.2.2.2 wm_528 wm_529 wm_530 wm_479 wm_531 (by decide +kernel) (yRm_le (by decide) (by decide))) (Nat.lt_of_lt_of_le (show 0 < 1 by decide) (by decide)) (mc_X12 (by decide) (by decide)) rfl rfl rfl (Nat.le_of_ble_eq_true rfl) dX12_eRead_188) (fun u16 hk => ?_)
            clear hv
            have hv := hk
            clear hk
            refine y_aload_n E dX12_eRead_191 0 rfl ?_
            refine gf_X12_27 E (by decide) (by decide) wm_514 dX12_eRead_192 ?_
            refine y_if_ne (tgt := 200) E dX12_eRead_195 (by decide) (fun c17 => ?_) (fun c17 => ?_)
            · replace hv := ite_f hv c17
              refine y_aload_n E dX12_eRead_200 0 rfl ?_
              refine y_dup E dX12_eRead_201 rfl ?_
              refine gf_X12_27 E (by decide) (by decide) wm_514 dX12_eRead_202 ?_
              refine y_iconst (v := 1) E dX12_eRead_205 (by decide) ?_
              refine y_isub E dX12_eRead_206 ?_
              refine pf_X12_27 E (by decide) (by decide) wm_514 dX12_eRead_207 ?_
              refine y_nmH (fun u18 hu18 => ?_)
              replace hv := hv u18 hu18
              refine y_aload_n E dX12_eRead_210 0 rfl ?_
              refine y_dup E dX12_eRead_211 rfl ?_
              refine gf_X12_28 E (by decide) (by decide) wm_517 dX12_eRead_212 ?_
              refine y_iconst (v := 1) E dX12_eRead_215 (by decide) ?_
              refine y_isub E dX12_eRead_216 ?_
              refine pf_X12_28 E (by decide) (by decide) wm_517 dX12_eRead_217 ?_
              refine y_nmH (fun u19 hu19 => ?_)
              replace hv := hv u19 hu19
              refine y_aload_n E dX12_eRead_220 0 rfl ?_
              refine y_bipush (v := 7) E dX12_eRead_221 (by decide) ?_
              refine y_callv E (y_runV E (rest := []) (kX12_unwinds l w E.2.2.1 u19 7 _ hv) (y_cwV 1 E.1.2.2.2.2 wm_528 wm_529 wm_530 wm_479 wm_531 (by decide +kernel) (yRm_le (by decide) (by decide))) (Nat.lt_of_lt_of_le (show 0 < 1 by decide) (by decide)) (mc_X12 (by decide) (by decide)) rfl rfl rfl (Nat.le_of_ble_eq_true rfl) dX12_eRead_223) (fun u21 hk => ?_)
              clear hv
              have hv := hk
              clear hk
              refine y_goto (tgt := 14) E dX12_eRead_226 (by decide) ?_
              exact ih14 u21 l1 l2 hv
            · replace hv := ite_t hv c17
              refine y_iconst (v := 0) E dX12_eRead_198 (by decide) ?_
              exact y_nret E dX12_eRead_199 (by decide) hv
        · replace hv := ite_t hv c6
          refine y_aload_n E dX12_eRead_159 0 rfl ?_
          refine y_iconst (v := 1) E dX12_eRead_160 (by decide) ?_
          refine y_callv E (y_runV E (rest := []) (kX12_unwinds l w E.2.2.1 u4 1 _ hv) (y_cwV 1 E.1.2.2.2.2 wm_528 wm_529 wm_530 wm_479 wm_531 (by decide +kernel) (yRm_le (by decide) (by decide))) (Nat.lt_of_lt_of_le (show 0 < 1 by decide) (by decide)) (mc_X12 (by decide) (by decide)) rfl rfl rfl (Nat.le_of_ble_eq_true rfl) dX12_eRead_161) (fun u23 hk => ?_)
          clear hv
          have hv := hk
          clear hk
          refine y_aload_n E dX12_eRead_164 0 rfl ?_
          refine gf_X12_27 E (by decide) (by decide) wm_514 dX12_eRead_165 ?_
          refine y_if_ne (tgt := 175) E dX12_eRead_168 (by decide) (fun c24 => ?_) (fun c24 => ?_)
          · replace hv := ite_f hv c24
            refine y_iconst (v := 0) E dX12_eRead_175 (by decide) ?_
            exact y_nret E dX12_eRead_176 (by decide) hv
          · replace hv := ite_t hv c24
            refine y_iconst (v := 1) E dX12_eRead_171 (by decide) ?_
            refine y_goto (tgt := 176) E dX12_eRead_172 (by decide) ?_
            exact y_nret E dX12_eRead_176 (by decide) hv
      · replace hv := ite_f hv c5
        refine y_aload_n E dX12_eRead_22 0 rfl ?_
        refine gf_X12_23 E (by decide) (by decide) wm_506 dX12_eRead_23 ?_
        refine y_iconst (v := 1) E dX12_eRead_26 (by decide) ?_
        refine y_icmp_eq (tgt := 38) E dX12_eRead_27 (by decide) (fun c25 => ?_) (fun c25 => ?_)
        · replace hv := ite_t hv c25
          refine y_lv (lv' := [(0, .ref (w.1 0)), (2, .int l2)]) [0, 2] rfl ?_
          exact hb38 u4 l2 hv
        · replace hv := ite_f hv c25
          refine y_aload_n E dX12_eRead_30 0 rfl ?_
          refine gf_X12_23 E (by decide) (by decide) wm_506 dX12_eRead_31 ?_
          refine y_iconst (v := 2) E dX12_eRead_34 (by decide) ?_
          refine y_icmp_ne (tgt := 75) E dX12_eRead_35 (by decide) (fun c26 => ?_) (fun c26 => ?_)
          · replace hv := ite_f hv c26
            refine y_aload_n E dX12_eRead_75 0 rfl ?_
            refine gf_X12_23 E (by decide) (by decide) wm_506 dX12_eRead_76 ?_
            refine y_bipush (v := 6) E dX12_eRead_79 (by decide) ?_
            refine y_icmp_ne (tgt := 99) E dX12_eRead_81 (by decide) (fun c27 => ?_) (fun c27 => ?_)
            · replace hv := ite_f hv c27
              refine y_lv (lv' := [(0, .ref (w.1 0)), (1, .int l1)]) [0, 1] rfl ?_
              exact hb99 u4 l1 hv
            · replace hv := ite_t hv c27
              refine y_iload_n E dX12_eRead_84 2 rfl ?_
              refine y_if_eq (tgt := 99) E dX12_eRead_85 (by decide) (fun c28 => ?_) (fun c28 => ?_)
              · replace hv := ite_t hv c28
                refine y_lv (lv' := [(0, .ref (w.1 0)), (1, .int l1)]) [0, 1] rfl ?_
                exact hb99 u4 l1 hv
              · replace hv := ite_f hv c28
                refine y_aload_n E dX12_eRead_88 0 rfl ?_
                refine y_bipush (v := 13) E dX12_eRead_89 (by decide) ?_
                refine y_calli E (y_runV E (rest := []) (kX12_opensOne l w E.2.2.1 u4 13 _ hv) (y_cwV 1 E.1.2.2.2.2 wm_541 wm_542 wm_543 wm_479 wm_544 (by decide +kernel) (yRm_le (by decide) (by decide))) (Nat.lt_of_lt_of_le (show 0 < 1 by decide) (by decide)) (mc_X12 (by decide) (by decide)) rfl rfl rfl (Nat.le_of_ble_eq_true rfl) dX12_eRead_91) (fun v29 u30 hk => ?_)
                clear hv
                have hv := hk
                clear hk
                refine y_if_ne (tgt := 14) E dX12_eRead_94 (by decide) (fun c31 => ?_) (fun c31 => ?_)
                · replace hv := ite_f hv c31
                  exact ih14 u30 l1 l2 hv
                · replace hv := ite_t hv c31
                  refine y_iconst (v := 0) E dX12_eRead_97 (by decide) ?_
                  exact y_nret E dX12_eRead_98 (by decide) hv
          · replace hv := ite_t hv c26
            refine y_lv (lv' := [(0, .ref (w.1 0)), (2, .int l2)]) [0, 2] rfl ?_
            exact hb38 u4 l2 hv
  refine y_aload_n E dX12_eRead_0 0 rfl ?_
  refine y_iconst (v := 0) E dX12_eRead_1 (by decide) ?_
  refine pf_X12_27 E (by decide) (by decide) wm_514 dX12_eRead_2 ?_
  refine y_nmH (fun u1 hu1 => ?_)
  replace hv := hv u1 hu1
  refine y_aload_n E dX12_eRead_5 0 rfl ?_
  refine y_iconst (v := 0) E dX12_eRead_6 (by decide) ?_
  refine pf_X12_28 E (by decide) (by decide) wm_517 dX12_eRead_7 ?_
  refine y_nmH (fun u2 hu2 => ?_)
  replace hv := hv u2 hu2
  refine y_iconst (v := 1) E dX12_eRead_10 (by decide) ?_
  refine y_istore_n (lv' := [(1, .int 1), (0, .ref (w.1 0))]) E dX12_eRead_11 (by decide) rfl ?_
  refine y_iconst (v := 1) E dX12_eRead_12 (by decide) ?_
  refine y_istore_n (lv' := [(2, .int 1), (1, .int 1), (0, .ref (w.1 0))]) E dX12_eRead_13 (by decide) rfl ?_
  refine y_lv (lv' := [(0, .ref (w.1 0)), (1, .int 1), (2, .int 1)]) [2, 1, 0] rfl ?_
  obtain ⟨n0, hv⟩ := hv
  exact hL14 n0 u2 1 1 hv
theorem dX12_text_0 : decode cX12_text 0 = .ok (.aload_n 0, 1) := by decide +kernel
theorem dX12_text_1 : decode cX12_text 1 = .ok (.getfield 96, 3) := by decide +kernel
theorem dX12_text_4 : decode cX12_text 4 = .ok (.bipush 6, 2) := by decide +kernel
theorem dX12_text_6 : decode cX12_text 6 = .ok (.if_icmp .ne 6, 3) := by decide +kernel
theorem dX12_text_9 : decode cX12_text 9 = .ok (.bipush (-4), 2) := by decide +kernel
theorem dX12_text_11 : decode cX12_text 11 = .ok (.ireturn, 1) := by decide +kernel
theorem dX12_text_12 : decode cX12_text 12 = .ok (.aload_n 0, 1) := by decide +kernel
theorem dX12_text_13 : decode cX12_text 13 = .ok (.iconst 0, 1) := by decide +kernel
theorem dX12_text_14 : decode cX12_text 14 = .ok (.putfield 105, 3) := by decide +kernel
theorem dX12_text_17 : decode cX12_text 17 = .ok (.aload_n 0, 1) := by decide +kernel
theorem dX12_text_18 : decode cX12_text 18 = .ok (.iconst 0, 1) := by decide +kernel
theorem dX12_text_19 : decode cX12_text 19 = .ok (.putfield 121, 3) := by decide +kernel
theorem dX12_text_22 : decode cX12_text 22 = .ok (.iconst 1, 1) := by decide +kernel
theorem dX12_text_23 : decode cX12_text 23 = .ok (.istore_n 1, 1) := by decide +kernel
theorem dX12_text_24 : decode cX12_text 24 = .ok (.iconst 0, 1) := by decide +kernel
theorem dX12_text_25 : decode cX12_text 25 = .ok (.istore_n 2, 1) := by decide +kernel
theorem dX12_text_26 : decode cX12_text 26 = .ok (.iload_n 2, 1) := by decide +kernel
theorem dX12_text_27 : decode cX12_text 27 = .ok (.iconst 3, 1) := by decide +kernel
theorem dX12_text_28 : decode cX12_text 28 = .ok (.if_icmp .ge 73, 3) := by decide +kernel
theorem dX12_text_31 : decode cX12_text 31 = .ok (.iload_n 1, 1) := by decide +kernel
theorem dX12_text_32 : decode cX12_text 32 = .ok (.ifCond .eq 69, 3) := by decide +kernel
theorem dX12_text_35 : decode cX12_text 35 = .ok (.aload_n 0, 1) := by decide +kernel
theorem dX12_text_36 : decode cX12_text 36 = .ok (.invokevirtual 144, 3) := by decide +kernel
theorem dX12_text_39 : decode cX12_text 39 = .ok (.aload_n 0, 1) := by decide +kernel
theorem dX12_text_40 : decode cX12_text 40 = .ok (.getfield 111, 3) := by decide +kernel
theorem dX12_text_43 : decode cX12_text 43 = .ok (.iconst 3, 1) := by decide +kernel
theorem dX12_text_44 : decode cX12_text 44 = .ok (.if_icmp .ne 15, 3) := by decide +kernel
theorem dX12_text_47 : decode cX12_text 47 = .ok (.aload_n 0, 1) := by decide +kernel
theorem dX12_text_48 : decode cX12_text 48 = .ok (.getfield 114, 3) := by decide +kernel
theorem dX12_text_51 : decode cX12_text 51 = .ok (.iload_n 2, 1) := by decide +kernel
theorem dX12_text_52 : decode cX12_text 52 = .ok (.if_icmp .ne 7, 3) := by decide +kernel
theorem dX12_text_55 : decode cX12_text 55 = .ok (.iconst 1, 1) := by decide +kernel
theorem dX12_text_56 : decode cX12_text 56 = .ok (.goto 4, 3) := by decide +kernel
theorem dX12_text_59 : decode cX12_text 59 = .ok (.iconst 0, 1) := by decide +kernel
theorem dX12_text_60 : decode cX12_text 60 = .ok (.istore_n 1, 1) := by decide +kernel
theorem dX12_text_61 : decode cX12_text 61 = .ok (.aload_n 0, 1) := by decide +kernel
theorem dX12_text_62 : decode cX12_text 62 = .ok (.getfield 31, 3) := by decide +kernel
theorem dX12_text_65 : decode cX12_text 65 = .ok (.iconst 4, 1) := by decide +kernel
theorem dX12_text_66 : decode cX12_text 66 = .ok (.aload_n 0, 1) := by decide +kernel
theorem dX12_text_67 : decode cX12_text 67 = .ok (.getfield 96, 3) := by decide +kernel
theorem dX12_text_70 : decode cX12_text 70 = .ok (.imul, 1) := by decide +kernel
theorem dX12_text_71 : decode cX12_text 71 = .ok (.iload_n 2, 1) := by decide +kernel
theorem dX12_text_72 : decode cX12_text 72 = .ok (.iadd, 1) := by decide +kernel
theorem dX12_text_73 : decode cX12_text 73 = .ok (.aload_n 0, 1) := by decide +kernel
theorem dX12_text_74 : decode cX12_text 74 = .ok (.getfield 121, 3) := by decide +kernel
theorem dX12_text_77 : decode cX12_text 77 = .ok (.iastore, 1) := by decide +kernel
theorem dX12_text_78 : decode cX12_text 78 = .ok (.iload_n 1, 1) := by decide +kernel
theorem dX12_text_79 : decode cX12_text 79 = .ok (.ifCond .eq 14, 3) := by decide +kernel
theorem dX12_text_82 : decode cX12_text 82 = .ok (.aload_n 0, 1) := by decide +kernel
theorem dX12_text_83 : decode cX12_text 83 = .ok (.invokevirtual 157, 3) := by decide +kernel
theorem dX12_text_86 : decode cX12_text 86 = .ok (.ifCond .eq 7, 3) := by decide +kernel
theorem dX12_text_89 : decode cX12_text 89 = .ok (.iconst 1, 1) := by decide +kernel
theorem dX12_text_90 : decode cX12_text 90 = .ok (.goto 4, 3) := by decide +kernel
theorem dX12_text_93 : decode cX12_text 93 = .ok (.iconst 0, 1) := by decide +kernel
theorem dX12_text_94 : decode cX12_text 94 = .ok (.istore_n 1, 1) := by decide +kernel
theorem dX12_text_95 : decode cX12_text 95 = .ok (.iinc 2 1, 3) := by decide +kernel
theorem dX12_text_98 : decode cX12_text 98 = .ok (.goto (-72), 3) := by decide +kernel
theorem dX12_text_101 : decode cX12_text 101 = .ok (.iload_n 1, 1) := by decide +kernel
theorem dX12_text_102 : decode cX12_text 102 = .ok (.ifCond .eq 20, 3) := by decide +kernel
theorem dX12_text_105 : decode cX12_text 105 = .ok (.aload_n 0, 1) := by decide +kernel
theorem dX12_text_106 : decode cX12_text 106 = .ok (.invokevirtual 144, 3) := by decide +kernel
theorem dX12_text_109 : decode cX12_text 109 = .ok (.aload_n 0, 1) := by decide +kernel
theorem dX12_text_110 : decode cX12_text 110 = .ok (.getfield 111, 3) := by decide +kernel
theorem dX12_text_113 : decode cX12_text 113 = .ok (.ifCond .ne 7, 3) := by decide +kernel
theorem dX12_text_116 : decode cX12_text 116 = .ok (.iconst 1, 1) := by decide +kernel
theorem dX12_text_117 : decode cX12_text 117 = .ok (.goto 4, 3) := by decide +kernel
theorem dX12_text_120 : decode cX12_text 120 = .ok (.iconst 0, 1) := by decide +kernel
theorem dX12_text_121 : decode cX12_text 121 = .ok (.istore_n 1, 1) := by decide +kernel
theorem dX12_text_122 : decode cX12_text 122 = .ok (.aload_n 0, 1) := by decide +kernel
theorem dX12_text_123 : decode cX12_text 123 = .ok (.getfield 31, 3) := by decide +kernel
theorem dX12_text_126 : decode cX12_text 126 = .ok (.iconst 4, 1) := by decide +kernel
theorem dX12_text_127 : decode cX12_text 127 = .ok (.aload_n 0, 1) := by decide +kernel
theorem dX12_text_128 : decode cX12_text 128 = .ok (.getfield 96, 3) := by decide +kernel
theorem dX12_text_131 : decode cX12_text 131 = .ok (.imul, 1) := by decide +kernel
theorem dX12_text_132 : decode cX12_text 132 = .ok (.iconst 3, 1) := by decide +kernel
theorem dX12_text_133 : decode cX12_text 133 = .ok (.iadd, 1) := by decide +kernel
theorem dX12_text_134 : decode cX12_text 134 = .ok (.aload_n 0, 1) := by decide +kernel
theorem dX12_text_135 : decode cX12_text 135 = .ok (.getfield 121, 3) := by decide +kernel
theorem dX12_text_138 : decode cX12_text 138 = .ok (.iastore, 1) := by decide +kernel
theorem dX12_text_139 : decode cX12_text 139 = .ok (.aload_n 0, 1) := by decide +kernel
theorem dX12_text_140 : decode cX12_text 140 = .ok (.iconst 0, 1) := by decide +kernel
theorem dX12_text_141 : decode cX12_text 141 = .ok (.putfield 67, 3) := by decide +kernel
theorem dX12_text_144 : decode cX12_text 144 = .ok (.iload_n 1, 1) := by decide +kernel
theorem dX12_text_145 : decode cX12_text 145 = .ok (.ifCond .ne 11, 3) := by decide +kernel
theorem dX12_text_148 : decode cX12_text 148 = .ok (.bipush (-100), 2) := by decide +kernel
theorem dX12_text_150 : decode cX12_text 150 = .ok (.aload_n 0, 1) := by decide +kernel
theorem dX12_text_151 : decode cX12_text 151 = .ok (.getfield 108, 3) := by decide +kernel
theorem dX12_text_154 : decode cX12_text 154 = .ok (.isub, 1) := by decide +kernel
theorem dX12_text_155 : decode cX12_text 155 = .ok (.ireturn, 1) := by decide +kernel
theorem dX12_text_156 : decode cX12_text 156 = .ok (.aload_n 0, 1) := by decide +kernel
theorem dX12_text_157 : decode cX12_text 157 = .ok (.dup, 1) := by decide +kernel
theorem dX12_text_158 : decode cX12_text 158 = .ok (.getfield 96, 3) := by decide +kernel
theorem dX12_text_161 : decode cX12_text 161 = .ok (.iconst 1, 1) := by decide +kernel
theorem dX12_text_162 : decode cX12_text 162 = .ok (.iadd, 1) := by decide +kernel
theorem dX12_text_163 : decode cX12_text 163 = .ok (.putfield 96, 3) := by decide +kernel
theorem dX12_text_166 : decode cX12_text 166 = .ok (.aload_n 0, 1) := by decide +kernel
theorem dX12_text_167 : decode cX12_text 167 = .ok (.getfield 96, 3) := by decide +kernel
theorem dX12_text_170 : decode cX12_text 170 = .ok (.iconst 1, 1) := by decide +kernel
theorem dX12_text_171 : decode cX12_text 171 = .ok (.isub, 1) := by decide +kernel
theorem dX12_text_172 : decode cX12_text 172 = .ok (.ireturn, 1) := by decide +kernel
set_option maxRecDepth 100000 in
set_option maxHeartbeats 4000000 in
theorem kX12_text (l : Launch) (w : wT) (hw : yOk w 20) (σ : Hp)  (K : Int32 → Hp → Prop) (hv : VX12_text K σ ) : yMet l w mcf 20 yX12_text cX12_text 3 (some .int) 5 [.ref (w.1 0)] σ (yQi w mcf 20 K) := by
  unfold VX12_text at hv
  refine y_start (lv0 := [(0, .ref (w.1 0))]) (by decide +kernel) (own := RX12) rfl hw (Nat.le_of_ble_eq_true rfl) rfl (fun p e s m below meth c A E => ?_)
  have hb122 : ∀ (σ : Hp) (l1 : Int32), VX12_text_b122 K σ l1 → YY p l e (yRm 5) s m [.ref (w.1 0)].toArray below meth c w mcf 20 A (MQ below (yQi w mcf 20 K A) [.ref (w.1 0)].toArray s 0 0 A) 3 σ 122 [(0, .ref (w.1 0)), (1, .int l1)] [] := by
    intro σ l1 hv
    unfold VX12_text_b122 at hv
    refine y_aload_n E dX12_text_122 0 rfl ?_
    refine gf_X12_10 E (by decide) (by decide) wm_549 dX12_text_123 ?_
    refine y_iconst (v := 4) E dX12_text_126 (by decide) ?_
    refine y_aload_n E dX12_text_127 0 rfl ?_
    refine gf_X12_11 E (by decide) (by decide) wm_496 dX12_text_128 ?_
    refine y_imul E dX12_text_131 ?_
    refine y_iconst (v := 3) E dX12_text_132 (by decide) ?_
    refine y_iadd E dX12_text_133 ?_
    refine y_aload_n E dX12_text_134 0 rfl ?_
    refine gf_X12_29 E (by decide) (by decide) wm_513 dX12_text_135 ?_
    obtain ⟨hi, hv⟩ := hv
    refine y_iast E (Nat.lt_of_lt_of_le (show 8 < 9 by decide) (by decide)) (fun _ => mc_m_starts (by decide) (by decide)) hi dX12_text_138 ?_
    refine y_nmH (fun u22 hu22 => ?_)
    replace hv := hv u22 hu22
    refine y_aload_n E dX12_text_139 0 rfl ?_
    refine y_iconst (v := 0) E dX12_text_140 (by decide) ?_
    refine pf_X12_8 E (by decide) (by decide) wm_498 dX12_text_141 ?_
    refine y_nmH (fun u23 hu23 => ?_)
    replace hv := hv u23 hu23
    refine y_iload_n E dX12_text_144 1 rfl ?_
    refine y_if_ne (tgt := 156) E dX12_text_145 (by decide) (fun c24 => ?_) (fun c24 => ?_)
    · replace hv := ite_f hv c24
      refine y_aload_n E dX12_text_156 0 rfl ?_
      refine y_dup E dX12_text_157 rfl ?_
      refine gf_X12_11 E (by decide) (by decide) wm_496 dX12_text_158 ?_
      refine y_iconst (v := 1) E dX12_text_161 (by decide) ?_
      refine y_iadd E dX12_text_162 ?_
      refine pf_X12_11 E (by decide) (by decide) wm_496 dX12_text_163 ?_
      refine y_nmH (fun u25 hu25 => ?_)
      replace hv := hv u25 hu25
      refine y_aload_n E dX12_text_166 0 rfl ?_
      refine gf_X12_11 E (by decide) (by decide) wm_496 dX12_text_167 ?_
      refine y_iconst (v := 1) E dX12_text_170 (by decide) ?_
      refine y_isub E dX12_text_171 ?_
      exact y_iret E dX12_text_172 hv
    · replace hv := ite_t hv c24
      refine y_bipush (v := (-100)) E dX12_text_148 (by decide) ?_
      refine y_aload_n E dX12_text_150 0 rfl ?_
      refine gf_X12_22 E (by decide) (by decide) wm_505 dX12_text_151 ?_
      refine y_isub E dX12_text_154 ?_
      exact y_iret E dX12_text_155 hv
  have hb101 : ∀ (σ : Hp) (l1 : Int32), VX12_text_b101 K σ l1 → YY p l e (yRm 5) s m [.ref (w.1 0)].toArray below meth c w mcf 20 A (MQ below (yQi w mcf 20 K A) [.ref (w.1 0)].toArray s 0 0 A) 3 σ 101 [(0, .ref (w.1 0)), (1, .int l1)] [] := by
    intro σ l1 hv
    unfold VX12_text_b101 at hv
    refine y_iload_n E dX12_text_101 1 rfl ?_
    refine y_if_eq (tgt := 122) E dX12_text_102 (by decide) (fun c10 => ?_) (fun c10 => ?_)
    · replace hv := ite_t hv c10
      exact hb122 σ l1 hv
    · replace hv := ite_f hv c10
      refine y_aload_n E dX12_text_105 0 rfl ?_
      refine y_callv E (y_runV E (rest := []) (kX12_next l w E.2.2.1 σ _ hv) (y_cwV 0 E.1.2.2.2.2 wm_532 wm_545 wm_546 wm_479 wm_547 (by decide +kernel) (yRm_le (by decide) (by decide))) (Nat.lt_of_lt_of_le (show 0 < 1 by decide) (by decide)) (mc_X12 (by decide) (by decide)) rfl rfl rfl (Nat.le_of_ble_eq_true rfl) dX12_text_106) (fun u12 hk => ?_)
      clear hv
      have hv := hk
      clear hk
      refine y_aload_n E dX12_text_109 0 rfl ?_
      refine gf_X12_23 E (by decide) (by decide) wm_506 dX12_text_110 ?_
      refine y_if_ne (tgt := 120) E dX12_text_113 (by decide) (fun c13 => ?_) (fun c13 => ?_)
      · replace hv := ite_f hv c13
        refine y_iconst (v := 0) E dX12_text_120 (by decide) ?_
        refine y_istore_n (lv' := [(1, .int 0), (0, .ref (w.1 0))]) E dX12_text_121 (by decide) rfl ?_
        refine y_lv (lv' := [(0, .ref (w.1 0)), (1, .int 0)]) [1, 0] rfl ?_
        exact hb122 u12 0 hv
      · replace hv := ite_t hv c13
        refine y_iconst (v := 1) E dX12_text_116 (by decide) ?_
        refine y_goto (tgt := 121) E dX12_text_117 (by decide) ?_
        refine y_istore_n (lv' := [(1, .int 1), (0, .ref (w.1 0))]) E dX12_text_121 (by decide) rfl ?_
        refine y_lv (lv' := [(0, .ref (w.1 0)), (1, .int 1)]) [1, 0] rfl ?_
        exact hb122 u12 1 hv
  have hL26 : ∀ (n26 : Nat) (σ : Hp) (l1 : Int32) (l2 : Int32), VX12_text_L26 K n26 σ l1 l2 → YY p l e (yRm 5) s m [.ref (w.1 0)].toArray below meth c w mcf 20 A (MQ below (yQi w mcf 20 K A) [.ref (w.1 0)].toArray s 0 0 A) 3 σ 26 [(0, .ref (w.1 0)), (1, .int l1), (2, .int l2)] [] := by
    intro n26
    induction n26 with
    | zero => exact fun _ _ _ hv => (by unfold VX12_text_L26 at hv; exact hv.elim)
    | succ n26 ih26 =>
      have hb60 : ∀ (σ : Hp) (l2 : Int32) (s0 : Int32), VX12_text_b60 K (VX12_text_L26 K n26) σ l2 s0 → YY p l e (yRm 5) s m [.ref (w.1 0)].toArray below meth c w mcf 20 A (MQ below (yQi w mcf 20 K A) [.ref (w.1 0)].toArray s 0 0 A) 3 σ 60 [(0, .ref (w.1 0)), (2, .int l2)] [.int s0] := by
        intro σ l2 s0 hv
        unfold VX12_text_b60 at hv
        refine y_istore_n (lv' := [(1, .int s0), (0, .ref (w.1 0)), (2, .int l2)]) E dX12_text_60 (by decide) rfl ?_
        refine y_aload_n E dX12_text_61 1 rfl ?_
        refine gf_X12_10 E (by decide) (by decide) wm_549 dX12_text_62 ?_
        refine y_iconst (v := 4) E dX12_text_65 (by decide) ?_
        refine y_aload_n E dX12_text_66 1 rfl ?_
        refine gf_X12_11 E (by decide) (by decide) wm_496 dX12_text_67 ?_
        refine y_imul E dX12_text_70 ?_
        refine y_iload_n E dX12_text_71 2 rfl ?_
        refine y_iadd E dX12_text_72 ?_
        refine y_aload_n E dX12_text_73 1 rfl ?_
        refine gf_X12_29 E (by decide) (by decide) wm_513 dX12_text_74 ?_
        obtain ⟨hi, hv⟩ := hv
        refine y_iast E (Nat.lt_of_lt_of_le (show 8 < 9 by decide) (by decide)) (fun _ => mc_m_starts (by decide) (by decide)) hi dX12_text_77 ?_
        refine y_nmH (fun u14 hu14 => ?_)
        replace hv := hv u14 hu14
        refine y_iload_n E dX12_text_78 0 rfl ?_
        refine y_if_eq (tgt := 93) E dX12_text_79 (by decide) (fun c15 => ?_) (fun c15 => ?_)
        · replace hv := ite_t hv c15
          refine y_iconst (v := 0) E dX12_text_93 (by decide) ?_
          refine y_istore_n (lv' := [(1, .int 0), (0, .ref (w.1 0)), (2, .int l2)]) E dX12_text_94 (by decide) rfl ?_
          obtain ⟨x16, hx16⟩ : ∃ z : Int32, z = l2 + 1 := ⟨_, rfl⟩
          replace hv := hv x16 hx16
          refine y_iinc (v := x16) (lv' := [(2, .int x16), (1, .int 0), (0, .ref (w.1 0))]) E dX12_text_95 2 rfl (by rw [hx16]; rfl) (by decide) rfl ?_
          refine y_goto (tgt := 26) E dX12_text_98 (by decide) ?_
          refine y_lv (lv' := [(0, .ref (w.1 0)), (1, .int 0), (2, .int x16)]) [2, 1, 0] rfl ?_
          exact ih26 u14 0 x16 hv
        · replace hv := ite_f hv c15
          refine y_aload_n E dX12_text_82 1 rfl ?_
          refine y_calli E (y_runV E (rest := []) (kX12_eRead l w E.2.2.1 u14 _ hv) (y_cwV 0 E.1.2.2.2.2 wm_550 wm_551 wm_552 wm_479 wm_553 (by decide +kernel) (yRm_le (by decide) (by decide))) (Nat.lt_of_lt_of_le (show 0 < 1 by decide) (by decide)) (mc_X12 (by decide) (by decide)) rfl rfl rfl (Nat.le_of_ble_eq_true rfl) dX12_text_83) (fun v17 u18 hk => ?_)
          clear hv
          have hv := hk
          clear hk
          refine y_if_eq (tgt := 93) E dX12_text_86 (by decide) (fun c19 => ?_) (fun c19 => ?_)
          · replace hv := ite_t hv c19
            refine y_iconst (v := 0) E dX12_text_93 (by decide) ?_
            refine y_istore_n (lv' := [(1, .int 0), (0, .ref (w.1 0)), (2, .int l2)]) E dX12_text_94 (by decide) rfl ?_
            obtain ⟨x20, hx20⟩ : ∃ z : Int32, z = l2 + 1 := ⟨_, rfl⟩
            replace hv := hv x20 hx20
            refine y_iinc (v := x20) (lv' := [(2, .int x20), (1, .int 0), (0, .ref (w.1 0))]) E dX12_text_95 2 rfl (by rw [hx20]; rfl) (by decide) rfl ?_
            refine y_goto (tgt := 26) E dX12_text_98 (by decide) ?_
            refine y_lv (lv' := [(0, .ref (w.1 0)), (1, .int 0), (2, .int x20)]) [2, 1, 0] rfl ?_
            exact ih26 u18 0 x20 hv
          · replace hv := ite_f hv c19
            refine y_iconst (v := 1) E dX12_text_89 (by decide) ?_
            refine y_goto (tgt := 94) E dX12_text_90 (by decide) ?_
            refine y_istore_n (lv' := [(1, .int 1), (0, .ref (w.1 0)), (2, .int l2)]) E dX12_text_94 (by decide) rfl ?_
            obtain ⟨x21, hx21⟩ : ∃ z : Int32, z = l2 + 1 := ⟨_, rfl⟩
            replace hv := hv x21 hx21
            refine y_iinc (v := x21) (lv' := [(2, .int x21), (1, .int 1), (0, .ref (w.1 0))]) E dX12_text_95 2 rfl (by rw [hx21]; rfl) (by decide) rfl ?_
            refine y_goto (tgt := 26) E dX12_text_98 (by decide) ?_
            refine y_lv (lv' := [(0, .ref (w.1 0)), (1, .int 1), (2, .int x21)]) [2, 1, 0] rfl ?_
            exact ih26 u18 1 x21 hv
      intro σ l1 l2 hv
      unfold VX12_text_L26 at hv
      refine y_iload_n E dX12_text_26 2 rfl ?_
      refine y_iconst (v := 3) E dX12_text_27 (by decide) ?_
      refine y_icmp_ge (tgt := 101) E dX12_text_28 (by decide) (fun c4 => ?_) (fun c4 => ?_)
      · replace hv := ite_t hv c4
        refine y_lv (lv' := [(0, .ref (w.1 0)), (1, .int l1)]) [0, 1] rfl ?_
        exact hb101 σ l1 hv
      · replace hv := ite_f hv c4
        refine y_iload_n E dX12_text_31 1 rfl ?_
        refine y_if_eq (tgt := 101) E dX12_text_32 (by decide) (fun c5 => ?_) (fun c5 => ?_)
        · replace hv := ite_t hv c5
          refine y_lv (lv' := [(0, .ref (w.1 0)), (1, .int l1)]) [0, 1] rfl ?_
          exact hb101 σ l1 hv
        · replace hv := ite_f hv c5
          refine y_aload_n E dX12_text_35 0 rfl ?_
          refine y_callv E (y_runV E (rest := []) (kX12_next l w E.2.2.1 σ _ hv) (y_cwV 0 E.1.2.2.2.2 wm_532 wm_545 wm_546 wm_479 wm_547 (by decide +kernel) (yRm_le (by decide) (by decide))) (Nat.lt_of_lt_of_le (show 0 < 1 by decide) (by decide)) (mc_X12 (by decide) (by decide)) rfl rfl rfl (Nat.le_of_ble_eq_true rfl) dX12_text_36) (fun u7 hk => ?_)
          clear hv
          have hv := hk
          clear hk
          refine y_aload_n E dX12_text_39 0 rfl ?_
          refine gf_X12_23 E (by decide) (by decide) wm_506 dX12_text_40 ?_
          refine y_iconst (v := 3) E dX12_text_43 (by decide) ?_
          refine y_icmp_ne (tgt := 59) E dX12_text_44 (by decide) (fun c8 => ?_) (fun c8 => ?_)
          · replace hv := ite_f hv c8
            refine y_iconst (v := 0) E dX12_text_59 (by decide) ?_
            refine y_lv (lv' := [(0, .ref (w.1 0)), (2, .int l2)]) [0, 2] rfl ?_
            exact hb60 u7 l2 0 hv
          · replace hv := ite_t hv c8
            refine y_aload_n E dX12_text_47 0 rfl ?_
            refine gf_X12_24 E (by decide) (by decide) wm_507 dX12_text_48 ?_
            refine y_iload_n E dX12_text_51 2 rfl ?_
            refine y_icmp_ne (tgt := 59) E dX12_text_52 (by decide) (fun c9 => ?_) (fun c9 => ?_)
            · replace hv := ite_f hv c9
              refine y_iconst (v := 0) E dX12_text_59 (by decide) ?_
              refine y_lv (lv' := [(0, .ref (w.1 0)), (2, .int l2)]) [0, 2] rfl ?_
              exact hb60 u7 l2 0 hv
            · replace hv := ite_t hv c9
              refine y_iconst (v := 1) E dX12_text_55 (by decide) ?_
              refine y_goto (tgt := 60) E dX12_text_56 (by decide) ?_
              refine y_lv (lv' := [(0, .ref (w.1 0)), (2, .int l2)]) [0, 2] rfl ?_
              exact hb60 u7 l2 1 hv
  refine y_aload_n E dX12_text_0 0 rfl ?_
  refine gf_X12_11 E (by decide) (by decide) wm_496 dX12_text_1 ?_
  refine y_bipush (v := 6) E dX12_text_4 (by decide) ?_
  refine y_icmp_ne (tgt := 12) E dX12_text_6 (by decide) (fun c1 => ?_) (fun c1 => ?_)
  · replace hv := ite_f hv c1
    refine y_aload_n E dX12_text_12 0 rfl ?_
    refine y_iconst (v := 0) E dX12_text_13 (by decide) ?_
    refine pf_X12_21 E (by decide) (by decide) wm_504 dX12_text_14 ?_
    refine y_nmH (fun u2 hu2 => ?_)
    replace hv := hv u2 hu2
    refine y_aload_n E dX12_text_17 0 rfl ?_
    refine y_iconst (v := 0) E dX12_text_18 (by decide) ?_
    refine pf_X12_29 E (by decide) (by decide) wm_513 dX12_text_19 ?_
    refine y_nmH (fun u3 hu3 => ?_)
    replace hv := hv u3 hu3
    refine y_iconst (v := 1) E dX12_text_22 (by decide) ?_
    refine y_istore_n (lv' := [(1, .int 1), (0, .ref (w.1 0))]) E dX12_text_23 (by decide) rfl ?_
    refine y_iconst (v := 0) E dX12_text_24 (by decide) ?_
    refine y_istore_n (lv' := [(2, .int 0), (1, .int 1), (0, .ref (w.1 0))]) E dX12_text_25 (by decide) rfl ?_
    refine y_lv (lv' := [(0, .ref (w.1 0)), (1, .int 1), (2, .int 0)]) [2, 1, 0] rfl ?_
    obtain ⟨n0, hv⟩ := hv
    exact hL26 n0 u3 1 0 hv
  · replace hv := ite_t hv c1
    refine y_bipush (v := (-4)) E dX12_text_9 (by decide) ?_
    exact y_iret E dX12_text_11 hv
theorem dX12_two_0 : decode cX12_two 0 = .ok (.iload_n 0, 1) := by decide +kernel
theorem dX12_two_1 : decode cX12_two 1 = .ok (.tableswitch 101 11 17 #[43, 57, 101, 71, 82, 93, 97], 43) := by decide +kernel
theorem dX12_two_44 : decode cX12_two 44 = .ok (.iload_n 1, 1) := by decide +kernel
theorem dX12_two_45 : decode cX12_two 45 = .ok (.ifCond .ne 7, 3) := by decide +kernel
theorem dX12_two_48 : decode cX12_two 48 = .ok (.iload_n 2, 1) := by decide +kernel
theorem dX12_two_49 : decode cX12_two 49 = .ok (.ifCond .eq 7, 3) := by decide +kernel
theorem dX12_two_52 : decode cX12_two 52 = .ok (.iconst 1, 1) := by decide +kernel
theorem dX12_two_53 : decode cX12_two 53 = .ok (.goto 4, 3) := by decide +kernel
theorem dX12_two_56 : decode cX12_two 56 = .ok (.iconst 0, 1) := by decide +kernel
theorem dX12_two_57 : decode cX12_two 57 = .ok (.ireturn, 1) := by decide +kernel
theorem dX12_two_58 : decode cX12_two 58 = .ok (.iload_n 1, 1) := by decide +kernel
theorem dX12_two_59 : decode cX12_two 59 = .ok (.ifCond .eq 11, 3) := by decide +kernel
theorem dX12_two_62 : decode cX12_two 62 = .ok (.iload_n 2, 1) := by decide +kernel
theorem dX12_two_63 : decode cX12_two 63 = .ok (.ifCond .eq 7, 3) := by decide +kernel
theorem dX12_two_66 : decode cX12_two 66 = .ok (.iconst 1, 1) := by decide +kernel
theorem dX12_two_67 : decode cX12_two 67 = .ok (.goto 4, 3) := by decide +kernel
theorem dX12_two_70 : decode cX12_two 70 = .ok (.iconst 0, 1) := by decide +kernel
theorem dX12_two_71 : decode cX12_two 71 = .ok (.ireturn, 1) := by decide +kernel
theorem dX12_two_72 : decode cX12_two 72 = .ok (.iload_n 1, 1) := by decide +kernel
theorem dX12_two_73 : decode cX12_two 73 = .ok (.iload_n 2, 1) := by decide +kernel
theorem dX12_two_74 : decode cX12_two 74 = .ok (.if_icmp .ge 7, 3) := by decide +kernel
theorem dX12_two_77 : decode cX12_two 77 = .ok (.iconst 1, 1) := by decide +kernel
theorem dX12_two_78 : decode cX12_two 78 = .ok (.goto 4, 3) := by decide +kernel
theorem dX12_two_81 : decode cX12_two 81 = .ok (.iconst 0, 1) := by decide +kernel
theorem dX12_two_82 : decode cX12_two 82 = .ok (.ireturn, 1) := by decide +kernel
theorem dX12_two_83 : decode cX12_two 83 = .ok (.iload_n 1, 1) := by decide +kernel
theorem dX12_two_84 : decode cX12_two 84 = .ok (.iload_n 2, 1) := by decide +kernel
theorem dX12_two_85 : decode cX12_two 85 = .ok (.if_icmp .ne 7, 3) := by decide +kernel
theorem dX12_two_88 : decode cX12_two 88 = .ok (.iconst 1, 1) := by decide +kernel
theorem dX12_two_89 : decode cX12_two 89 = .ok (.goto 4, 3) := by decide +kernel
theorem dX12_two_92 : decode cX12_two 92 = .ok (.iconst 0, 1) := by decide +kernel
theorem dX12_two_93 : decode cX12_two 93 = .ok (.ireturn, 1) := by decide +kernel
theorem dX12_two_94 : decode cX12_two 94 = .ok (.iload_n 1, 1) := by decide +kernel
theorem dX12_two_95 : decode cX12_two 95 = .ok (.iload_n 2, 1) := by decide +kernel
theorem dX12_two_96 : decode cX12_two 96 = .ok (.iadd, 1) := by decide +kernel
theorem dX12_two_97 : decode cX12_two 97 = .ok (.ireturn, 1) := by decide +kernel
theorem dX12_two_98 : decode cX12_two 98 = .ok (.iload_n 1, 1) := by decide +kernel
theorem dX12_two_99 : decode cX12_two 99 = .ok (.iload_n 2, 1) := by decide +kernel
theorem dX12_two_100 : decode cX12_two 100 = .ok (.isub, 1) := by decide +kernel
theorem dX12_two_101 : decode cX12_two 101 = .ok (.ireturn, 1) := by decide +kernel
theorem dX12_two_102 : decode cX12_two 102 = .ok (.iload_n 1, 1) := by decide +kernel
theorem dX12_two_103 : decode cX12_two 103 = .ok (.iload_n 2, 1) := by decide +kernel
theorem dX12_two_104 : decode cX12_two 104 = .ok (.imul, 1) := by decide +kernel
theorem dX12_two_105 : decode cX12_two 105 = .ok (.ireturn, 1) := by decide +kernel
set_option maxRecDepth 100000 in
set_option maxHeartbeats 4000000 in
theorem kX12_two (l : Launch) (w : wT) (hw : yOk w 20) (σ : Hp) (a1 : Int32) (a2 : Int32) (a3 : Int32) (K : Int32 → Hp → Prop) (hv : VX12_two K σ a1 a2 a3) : yMet l w mcf 20 yX12_two cX12_two 3 (some .int) 1 [.int a1, .int a2, .int a3] σ (yQi w mcf 20 K) := by
  unfold VX12_two at hv
  refine y_start (lv0 := [(0, .int a1), (1, .int a2), (2, .int a3)]) (by decide +kernel) (own := RX12) rfl hw (Nat.le_of_ble_eq_true rfl) rfl (fun p e s m below meth c A E => ?_)
  refine y_iload_n E dX12_two_0 0 rfl ?_
  by_cases c1 : a1 = 11
  · replace hv := ite_t hv c1
    refine y_table1 (tgt := 44) (off := 43) (j := 0) E dX12_two_1 (i32_eq (z := 11) (by decide) c1) (by decide) rfl (by decide) ?_
    refine y_iload_n E dX12_two_44 1 rfl ?_
    refine y_if_ne (tgt := 52) E dX12_two_45 (by decide) (fun c2 => ?_) (fun c2 => ?_)
    · replace hv := ite_f hv c2
      refine y_iconst (v := 1) E dX12_two_52 (by decide) ?_
      refine y_goto (tgt := 57) E dX12_two_53 (by decide) ?_
      exact y_iret E dX12_two_57 hv
    · replace hv := ite_t hv c2
      refine y_iload_n E dX12_two_48 2 rfl ?_
      refine y_if_eq (tgt := 56) E dX12_two_49 (by decide) (fun c3 => ?_) (fun c3 => ?_)
      · replace hv := ite_t hv c3
        refine y_iconst (v := 0) E dX12_two_56 (by decide) ?_
        exact y_iret E dX12_two_57 hv
      · replace hv := ite_f hv c3
        refine y_iconst (v := 1) E dX12_two_52 (by decide) ?_
        refine y_goto (tgt := 57) E dX12_two_53 (by decide) ?_
        exact y_iret E dX12_two_57 hv
  · replace hv := ite_f hv c1
    by_cases c4 : a1 = 12
    · replace hv := ite_t hv c4
      refine y_table1 (tgt := 58) (off := 57) (j := 1) E dX12_two_1 (i32_eq (z := 12) (by decide) c4) (by decide) rfl (by decide) ?_
      refine y_iload_n E dX12_two_58 1 rfl ?_
      refine y_if_eq (tgt := 70) E dX12_two_59 (by decide) (fun c5 => ?_) (fun c5 => ?_)
      · replace hv := ite_t hv c5
        refine y_iconst (v := 0) E dX12_two_70 (by decide) ?_
        exact y_iret E dX12_two_71 hv
      · replace hv := ite_f hv c5
        refine y_iload_n E dX12_two_62 2 rfl ?_
        refine y_if_eq (tgt := 70) E dX12_two_63 (by decide) (fun c6 => ?_) (fun c6 => ?_)
        · replace hv := ite_t hv c6
          refine y_iconst (v := 0) E dX12_two_70 (by decide) ?_
          exact y_iret E dX12_two_71 hv
        · replace hv := ite_f hv c6
          refine y_iconst (v := 1) E dX12_two_66 (by decide) ?_
          refine y_goto (tgt := 71) E dX12_two_67 (by decide) ?_
          exact y_iret E dX12_two_71 hv
    · replace hv := ite_f hv c4
      by_cases c7 : a1 = 14
      · replace hv := ite_t hv c7
        refine y_table1 (tgt := 72) (off := 71) (j := 3) E dX12_two_1 (i32_eq (z := 14) (by decide) c7) (by decide) rfl (by decide) ?_
        refine y_iload_n E dX12_two_72 1 rfl ?_
        refine y_iload_n E dX12_two_73 2 rfl ?_
        refine y_icmp_ge (tgt := 81) E dX12_two_74 (by decide) (fun c8 => ?_) (fun c8 => ?_)
        · replace hv := ite_t hv c8
          refine y_iconst (v := 0) E dX12_two_81 (by decide) ?_
          exact y_iret E dX12_two_82 hv
        · replace hv := ite_f hv c8
          refine y_iconst (v := 1) E dX12_two_77 (by decide) ?_
          refine y_goto (tgt := 82) E dX12_two_78 (by decide) ?_
          exact y_iret E dX12_two_82 hv
      · replace hv := ite_f hv c7
        by_cases c9 : a1 = 15
        · replace hv := ite_t hv c9
          refine y_table1 (tgt := 83) (off := 82) (j := 4) E dX12_two_1 (i32_eq (z := 15) (by decide) c9) (by decide) rfl (by decide) ?_
          refine y_iload_n E dX12_two_83 1 rfl ?_
          refine y_iload_n E dX12_two_84 2 rfl ?_
          refine y_icmp_ne (tgt := 92) E dX12_two_85 (by decide) (fun c10 => ?_) (fun c10 => ?_)
          · replace hv := ite_f hv c10
            refine y_iconst (v := 0) E dX12_two_92 (by decide) ?_
            exact y_iret E dX12_two_93 hv
          · replace hv := ite_t hv c10
            refine y_iconst (v := 1) E dX12_two_88 (by decide) ?_
            refine y_goto (tgt := 93) E dX12_two_89 (by decide) ?_
            exact y_iret E dX12_two_93 hv
        · replace hv := ite_f hv c9
          by_cases c11 : a1 = 16
          · replace hv := ite_t hv c11
            refine y_table1 (tgt := 94) (off := 93) (j := 5) E dX12_two_1 (i32_eq (z := 16) (by decide) c11) (by decide) rfl (by decide) ?_
            refine y_iload_n E dX12_two_94 1 rfl ?_
            refine y_iload_n E dX12_two_95 2 rfl ?_
            refine y_iadd E dX12_two_96 ?_
            exact y_iret E dX12_two_97 hv
          · replace hv := ite_f hv c11
            by_cases c12 : a1 = 17
            · replace hv := ite_t hv c12
              refine y_table1 (tgt := 98) (off := 97) (j := 6) E dX12_two_1 (i32_eq (z := 17) (by decide) c12) (by decide) rfl (by decide) ?_
              refine y_iload_n E dX12_two_98 1 rfl ?_
              refine y_iload_n E dX12_two_99 2 rfl ?_
              refine y_isub E dX12_two_100 ?_
              exact y_iret E dX12_two_101 hv
            · replace hv := ite_f hv c12
              refine y_table0 (tgt := 102) E dX12_two_1 (by decide) (fun j hj => ?_) (by decide) ?_
              · match j, hj with
                | 0, _ => exact Or.inr (i32_ne (z := 11 + ((0 : Nat) : Int)) (by decide) c1)
                | 1, _ => exact Or.inr (i32_ne (z := 11 + ((1 : Nat) : Int)) (by decide) c4)
                | 2, _ => exact Or.inl rfl
                | 3, _ => exact Or.inr (i32_ne (z := 11 + ((3 : Nat) : Int)) (by decide) c7)
                | 4, _ => exact Or.inr (i32_ne (z := 11 + ((4 : Nat) : Int)) (by decide) c9)
                | 5, _ => exact Or.inr (i32_ne (z := 11 + ((5 : Nat) : Int)) (by decide) c11)
                | 6, _ => exact Or.inr (i32_ne (z := 11 + ((6 : Nat) : Int)) (by decide) c12)
                | j + 7, hj => exact absurd hj (by simp)
              · refine y_iload_n E dX12_two_102 1 rfl ?_
                refine y_iload_n E dX12_two_103 2 rfl ?_
                refine y_imul E dX12_two_104 ?_
                exact y_iret E dX12_two_105 hv
theorem dX12_says_0 : decode cX12_says 0 = .ok (.iconst 0, 1) := by decide +kernel
theorem dX12_says_1 : decode cX12_says 1 = .ok (.istore_n 2, 1) := by decide +kernel
theorem dX12_says_2 : decode cX12_says 2 = .ok (.aload_n 0, 1) := by decide +kernel
theorem dX12_says_3 : decode cX12_says 3 = .ok (.getfield 31, 3) := by decide +kernel
theorem dX12_says_6 : decode cX12_says 6 = .ok (.iconst 4, 1) := by decide +kernel
theorem dX12_says_7 : decode cX12_says 7 = .ok (.aload_n 0, 1) := by decide +kernel
theorem dX12_says_8 : decode cX12_says 8 = .ok (.getfield 99, 3) := by decide +kernel
theorem dX12_says_11 : decode cX12_says 11 = .ok (.imul, 1) := by decide +kernel
theorem dX12_says_12 : decode cX12_says 12 = .ok (.iload_n 1, 1) := by decide +kernel
theorem dX12_says_13 : decode cX12_says 13 = .ok (.iadd, 1) := by decide +kernel
theorem dX12_says_14 : decode cX12_says 14 = .ok (.iaload, 1) := by decide +kernel
theorem dX12_says_15 : decode cX12_says 15 = .ok (.istore_n 3, 1) := by decide +kernel
theorem dX12_says_16 : decode cX12_says 16 = .ok (.iload_n 3, 1) := by decide +kernel
theorem dX12_says_17 : decode cX12_says 17 = .ok (.aload_n 0, 1) := by decide +kernel
theorem dX12_says_18 : decode cX12_says 18 = .ok (.getfield 31, 3) := by decide +kernel
theorem dX12_says_21 : decode cX12_says 21 = .ok (.iconst 4, 1) := by decide +kernel
theorem dX12_says_22 : decode cX12_says 22 = .ok (.aload_n 0, 1) := by decide +kernel
theorem dX12_says_23 : decode cX12_says 23 = .ok (.getfield 99, 3) := by decide +kernel
theorem dX12_says_26 : decode cX12_says 26 = .ok (.imul, 1) := by decide +kernel
theorem dX12_says_27 : decode cX12_says 27 = .ok (.iload_n 1, 1) := by decide +kernel
theorem dX12_says_28 : decode cX12_says 28 = .ok (.iadd, 1) := by decide +kernel
theorem dX12_says_29 : decode cX12_says 29 = .ok (.iconst 1, 1) := by decide +kernel
theorem dX12_says_30 : decode cX12_says 30 = .ok (.iadd, 1) := by decide +kernel
theorem dX12_says_31 : decode cX12_says 31 = .ok (.iaload, 1) := by decide +kernel
theorem dX12_says_32 : decode cX12_says 32 = .ok (.if_icmp .ge 165, 3) := by decide +kernel
theorem dX12_says_35 : decode cX12_says 35 = .ok (.aload_n 0, 1) := by decide +kernel
theorem dX12_says_36 : decode cX12_says 36 = .ok (.getfield 28, 3) := by decide +kernel
theorem dX12_says_39 : decode cX12_says 39 = .ok (.sipush 200, 3) := by decide +kernel
theorem dX12_says_42 : decode cX12_says 42 = .ok (.aload_n 0, 1) := by decide +kernel
theorem dX12_says_43 : decode cX12_says 43 = .ok (.getfield 99, 3) := by decide +kernel
theorem dX12_says_46 : decode cX12_says 46 = .ok (.imul, 1) := by decide +kernel
theorem dX12_says_47 : decode cX12_says 47 = .ok (.iload_n 3, 1) := by decide +kernel
theorem dX12_says_48 : decode cX12_says 48 = .ok (.iadd, 1) := by decide +kernel
theorem dX12_says_49 : decode cX12_says 49 = .ok (.iaload, 1) := by decide +kernel
theorem dX12_says_50 : decode cX12_says 50 = .ok (.istore 4, 2) := by decide +kernel
theorem dX12_says_52 : decode cX12_says 52 = .ok (.iload 4, 2) := by decide +kernel
theorem dX12_says_54 : decode cX12_says 54 = .ok (.ldc 147, 2) := by decide +kernel
theorem dX12_says_56 : decode cX12_says 56 = .ok (.if_icmp .ge 10, 3) := by decide +kernel
theorem dX12_says_59 : decode cX12_says 59 = .ok (.iload 4, 2) := by decide +kernel
theorem dX12_says_61 : decode cX12_says 61 = .ok (.bipush 11, 2) := by decide +kernel
theorem dX12_says_63 : decode cX12_says 63 = .ok (.if_icmp .ge 37, 3) := by decide +kernel
theorem dX12_says_66 : decode cX12_says 66 = .ok (.aload_n 0, 1) := by decide +kernel
theorem dX12_says_67 : decode cX12_says 67 = .ok (.getfield 55, 3) := by decide +kernel
theorem dX12_says_70 : decode cX12_says 70 = .ok (.iload_n 2, 1) := by decide +kernel
theorem dX12_says_71 : decode cX12_says 71 = .ok (.iload 4, 2) := by decide +kernel
theorem dX12_says_73 : decode cX12_says 73 = .ok (.bipush 11, 2) := by decide +kernel
theorem dX12_says_75 : decode cX12_says 75 = .ok (.if_icmp .ge 13, 3) := by decide +kernel
theorem dX12_says_78 : decode cX12_says 78 = .ok (.aload_n 0, 1) := by decide +kernel
theorem dX12_says_79 : decode cX12_says 79 = .ok (.getfield 58, 3) := by decide +kernel
theorem dX12_says_82 : decode cX12_says 82 = .ok (.iload 4, 2) := by decide +kernel
theorem dX12_says_84 : decode cX12_says 84 = .ok (.iaload, 1) := by decide +kernel
theorem dX12_says_85 : decode cX12_says 85 = .ok (.goto 8, 3) := by decide +kernel
theorem dX12_says_88 : decode cX12_says 88 = .ok (.iload 4, 2) := by decide +kernel
theorem dX12_says_90 : decode cX12_says 90 = .ok (.ldc 147, 2) := by decide +kernel
theorem dX12_says_92 : decode cX12_says 92 = .ok (.isub, 1) := by decide +kernel
theorem dX12_says_93 : decode cX12_says 93 = .ok (.iastore, 1) := by decide +kernel
theorem dX12_says_94 : decode cX12_says 94 = .ok (.iinc 2 1, 3) := by decide +kernel
theorem dX12_says_97 : decode cX12_says 97 = .ok (.goto 94, 3) := by decide +kernel
theorem dX12_says_100 : decode cX12_says 100 = .ok (.iload 4, 2) := by decide +kernel
theorem dX12_says_102 : decode cX12_says 102 = .ok (.bipush 13, 2) := by decide +kernel
theorem dX12_says_104 : decode cX12_says 104 = .ok (.if_icmp .ne 30, 3) := by decide +kernel
theorem dX12_says_107 : decode cX12_says 107 = .ok (.aload_n 0, 1) := by decide +kernel
theorem dX12_says_108 : decode cX12_says 108 = .ok (.getfield 55, 3) := by decide +kernel
theorem dX12_says_111 : decode cX12_says 111 = .ok (.iload_n 2, 1) := by decide +kernel
theorem dX12_says_112 : decode cX12_says 112 = .ok (.iconst 1, 1) := by decide +kernel
theorem dX12_says_113 : decode cX12_says 113 = .ok (.isub, 1) := by decide +kernel
theorem dX12_says_114 : decode cX12_says 114 = .ok (.aload_n 0, 1) := by decide +kernel
theorem dX12_says_115 : decode cX12_says 115 = .ok (.getfield 55, 3) := by decide +kernel
theorem dX12_says_118 : decode cX12_says 118 = .ok (.iload_n 2, 1) := by decide +kernel
theorem dX12_says_119 : decode cX12_says 119 = .ok (.iconst 1, 1) := by decide +kernel
theorem dX12_says_120 : decode cX12_says 120 = .ok (.isub, 1) := by decide +kernel
theorem dX12_says_121 : decode cX12_says 121 = .ok (.iaload, 1) := by decide +kernel
theorem dX12_says_122 : decode cX12_says 122 = .ok (.ifCond .ne 7, 3) := by decide +kernel
theorem dX12_says_125 : decode cX12_says 125 = .ok (.iconst 1, 1) := by decide +kernel
theorem dX12_says_126 : decode cX12_says 126 = .ok (.goto 4, 3) := by decide +kernel
theorem dX12_says_129 : decode cX12_says 129 = .ok (.iconst 0, 1) := by decide +kernel
theorem dX12_says_130 : decode cX12_says 130 = .ok (.iastore, 1) := by decide +kernel
theorem dX12_says_131 : decode cX12_says 131 = .ok (.goto 60, 3) := by decide +kernel
theorem dX12_says_134 : decode cX12_says 134 = .ok (.iload 4, 2) := by decide +kernel
theorem dX12_says_136 : decode cX12_says 136 = .ok (.bipush 19, 2) := by decide +kernel
theorem dX12_says_138 : decode cX12_says 138 = .ok (.if_icmp .ne 23, 3) := by decide +kernel
theorem dX12_says_141 : decode cX12_says 141 = .ok (.aload_n 0, 1) := by decide +kernel
theorem dX12_says_142 : decode cX12_says 142 = .ok (.getfield 55, 3) := by decide +kernel
theorem dX12_says_145 : decode cX12_says 145 = .ok (.iload_n 2, 1) := by decide +kernel
theorem dX12_says_146 : decode cX12_says 146 = .ok (.iconst 1, 1) := by decide +kernel
theorem dX12_says_147 : decode cX12_says 147 = .ok (.isub, 1) := by decide +kernel
theorem dX12_says_148 : decode cX12_says 148 = .ok (.aload_n 0, 1) := by decide +kernel
theorem dX12_says_149 : decode cX12_says 149 = .ok (.getfield 55, 3) := by decide +kernel
theorem dX12_says_152 : decode cX12_says 152 = .ok (.iload_n 2, 1) := by decide +kernel
theorem dX12_says_153 : decode cX12_says 153 = .ok (.iconst 1, 1) := by decide +kernel
theorem dX12_says_154 : decode cX12_says 154 = .ok (.isub, 1) := by decide +kernel
theorem dX12_says_155 : decode cX12_says 155 = .ok (.iaload, 1) := by decide +kernel
theorem dX12_says_156 : decode cX12_says 156 = .ok (.ineg, 1) := by decide +kernel
theorem dX12_says_157 : decode cX12_says 157 = .ok (.iastore, 1) := by decide +kernel
theorem dX12_says_158 : decode cX12_says 158 = .ok (.goto 33, 3) := by decide +kernel
theorem dX12_says_161 : decode cX12_says 161 = .ok (.iinc 2 (-1), 3) := by decide +kernel
theorem dX12_says_164 : decode cX12_says 164 = .ok (.aload_n 0, 1) := by decide +kernel
theorem dX12_says_165 : decode cX12_says 165 = .ok (.getfield 55, 3) := by decide +kernel
theorem dX12_says_168 : decode cX12_says 168 = .ok (.iload_n 2, 1) := by decide +kernel
theorem dX12_says_169 : decode cX12_says 169 = .ok (.iconst 1, 1) := by decide +kernel
theorem dX12_says_170 : decode cX12_says 170 = .ok (.isub, 1) := by decide +kernel
theorem dX12_says_171 : decode cX12_says 171 = .ok (.iload 4, 2) := by decide +kernel
theorem dX12_says_173 : decode cX12_says 173 = .ok (.aload_n 0, 1) := by decide +kernel
theorem dX12_says_174 : decode cX12_says 174 = .ok (.getfield 55, 3) := by decide +kernel
theorem dX12_says_177 : decode cX12_says 177 = .ok (.iload_n 2, 1) := by decide +kernel
theorem dX12_says_178 : decode cX12_says 178 = .ok (.iconst 1, 1) := by decide +kernel
theorem dX12_says_179 : decode cX12_says 179 = .ok (.isub, 1) := by decide +kernel
theorem dX12_says_180 : decode cX12_says 180 = .ok (.iaload, 1) := by decide +kernel
theorem dX12_says_181 : decode cX12_says 181 = .ok (.aload_n 0, 1) := by decide +kernel
theorem dX12_says_182 : decode cX12_says 182 = .ok (.getfield 55, 3) := by decide +kernel
theorem dX12_says_185 : decode cX12_says 185 = .ok (.iload_n 2, 1) := by decide +kernel
theorem dX12_says_186 : decode cX12_says 186 = .ok (.iaload, 1) := by decide +kernel
theorem dX12_says_187 : decode cX12_says 187 = .ok (.invokestatic 161, 3) := by decide +kernel
theorem dX12_says_190 : decode cX12_says 190 = .ok (.iastore, 1) := by decide +kernel
theorem dX12_says_191 : decode cX12_says 191 = .ok (.iinc 3 1, 3) := by decide +kernel
theorem dX12_says_194 : decode cX12_says 194 = .ok (.goto (-178), 3) := by decide +kernel
theorem dX12_says_197 : decode cX12_says 197 = .ok (.aload_n 0, 1) := by decide +kernel
theorem dX12_says_198 : decode cX12_says 198 = .ok (.getfield 55, 3) := by decide +kernel
theorem dX12_says_201 : decode cX12_says 201 = .ok (.iconst 0, 1) := by decide +kernel
theorem dX12_says_202 : decode cX12_says 202 = .ok (.iaload, 1) := by decide +kernel
theorem dX12_says_203 : decode cX12_says 203 = .ok (.ireturn, 1) := by decide +kernel
set_option maxRecDepth 100000 in
set_option maxHeartbeats 4000000 in
theorem kX12_says (l : Launch) (w : wT) (hw : yOk w 20) (σ : Hp) (a1 : Int32) (K : Int32 → Hp → Prop) (hv : VX12_says K σ a1) : yMet l w mcf 20 yX12_says cX12_says 5 (some .int) 2 [.ref (w.1 0), .int a1] σ (yQi w mcf 20 K) := by
  unfold VX12_says at hv
  refine y_start (lv0 := [(0, .ref (w.1 0)), (1, .int a1)]) (by decide +kernel) (own := RX12) rfl hw (Nat.le_of_ble_eq_true rfl) rfl (fun p e s m below meth c A E => ?_)
  have hL16 : ∀ (n16 : Nat) (σ : Hp) (l1 : Int32) (l2 : Int32) (l3 : Int32), VX12_says_L16 K n16 σ l1 l2 l3 → YY p l e (yRm 2) s m [.ref (w.1 0), .int a1].toArray below meth c w mcf 20 A (MQ below (yQi w mcf 20 K A) [.ref (w.1 0), .int a1].toArray s 0 0 A) 5 σ 16 [(0, .ref (w.1 0)), (1, .int l1), (2, .int l2), (3, .int l3)] [] := by
    intro n16
    induction n16 with
    | zero => exact fun _ _ _ _ hv => (by unfold VX12_says_L16 at hv; exact hv.elim)
    | succ n16 ih16 =>
      have hb66 : ∀ (σ : Hp) (l1 : Int32) (l2 : Int32) (l3 : Int32) (l4 : Int32), VX12_says_b66 K (VX12_says_L16 K n16) σ l1 l2 l3 l4 → YY p l e (yRm 2) s m [.ref (w.1 0), .int a1].toArray below meth c w mcf 20 A (MQ below (yQi w mcf 20 K A) [.ref (w.1 0), .int a1].toArray s 0 0 A) 5 σ 66 [(0, .ref (w.1 0)), (1, .int l1), (2, .int l2), (3, .int l3), (4, .int l4)] [] := by
        intro σ l1 l2 l3 l4 hv
        unfold VX12_says_b66 at hv
        refine y_aload_n E dX12_says_66 0 rfl ?_
        refine gf_X12_30 E (by decide) (by decide) wm_554 dX12_says_67 ?_
        refine y_iload_n E dX12_says_70 2 rfl ?_
        refine y_iload E dX12_says_71 4 rfl ?_
        refine y_bipush (v := 11) E dX12_says_73 (by decide) ?_
        refine y_icmp_ge (tgt := 88) E dX12_says_75 (by decide) (fun c20 => ?_) (fun c20 => ?_)
        · replace hv := ite_t hv c20
          refine y_iload E dX12_says_88 4 rfl ?_
          refine y_ldc (v := 100000) E wm_548 dX12_says_90 ?_
          refine y_isub E dX12_says_92 ?_
          obtain ⟨hi, hv⟩ := hv
          refine y_iast E (Nat.lt_of_lt_of_le (show 16 < 17 by decide) (by decide)) (fun _ => mc_m_stack (by decide) (by decide)) hi dX12_says_93 ?_
          refine y_nmH (fun u21 hu21 => ?_)
          replace hv := hv u21 hu21
          obtain ⟨x22, hx22⟩ : ∃ z : Int32, z = l2 + 1 := ⟨_, rfl⟩
          replace hv := hv x22 hx22
          refine y_iinc (v := x22) (lv' := [(2, .int x22), (0, .ref (w.1 0)), (1, .int l1), (3, .int l3), (4, .int l4)]) E dX12_says_94 2 rfl (by rw [hx22]; rfl) (by decide) rfl ?_
          refine y_goto (tgt := 191) E dX12_says_97 (by decide) ?_
          obtain ⟨x23, hx23⟩ : ∃ z : Int32, z = l3 + 1 := ⟨_, rfl⟩
          replace hv := hv x23 hx23
          refine y_iinc (v := x23) (lv' := [(3, .int x23), (2, .int x22), (0, .ref (w.1 0)), (1, .int l1), (4, .int l4)]) E dX12_says_191 3 rfl (by rw [hx23]; rfl) (by decide) rfl ?_
          refine y_goto (tgt := 16) E dX12_says_194 (by decide) ?_
          refine y_lv (lv' := [(0, .ref (w.1 0)), (1, .int l1), (2, .int x22), (3, .int x23)]) [2, 3, 1, 0] rfl ?_
          exact ih16 u21 l1 x22 x23 hv
        · replace hv := ite_f hv c20
          refine y_aload_n E dX12_says_78 0 rfl ?_
          refine gf_X12_31 E (by decide) (by decide) wm_558 dX12_says_79 ?_
          refine y_iload E dX12_says_82 4 rfl ?_
          obtain ⟨hi, hv⟩ := hv
          refine y_iald E (Nat.lt_of_lt_of_le (show 17 < 18 by decide) (by decide)) (mc_m_named (by decide) (by decide)) hi dX12_says_84 ?_
          refine y_goto (tgt := 93) E dX12_says_85 (by decide) ?_
          obtain ⟨hi, hv⟩ := hv
          refine y_iast E (Nat.lt_of_lt_of_le (show 16 < 17 by decide) (by decide)) (fun _ => mc_m_stack (by decide) (by decide)) hi dX12_says_93 ?_
          refine y_nmH (fun u24 hu24 => ?_)
          replace hv := hv u24 hu24
          obtain ⟨x25, hx25⟩ : ∃ z : Int32, z = l2 + 1 := ⟨_, rfl⟩
          replace hv := hv x25 hx25
          refine y_iinc (v := x25) (lv' := [(2, .int x25), (0, .ref (w.1 0)), (1, .int l1), (3, .int l3), (4, .int l4)]) E dX12_says_94 2 rfl (by rw [hx25]; rfl) (by decide) rfl ?_
          refine y_goto (tgt := 191) E dX12_says_97 (by decide) ?_
          obtain ⟨x26, hx26⟩ : ∃ z : Int32, z = l3 + 1 := ⟨_, rfl⟩
          replace hv := hv x26 hx26
          refine y_iinc (v := x26) (lv' := [(3, .int x26), (2, .int x25), (0, .ref (w.1 0)), (1, .int l1), (4, .int l4)]) E dX12_says_191 3 rfl (by rw [hx26]; rfl) (by decide) rfl ?_
          refine y_goto (tgt := 16) E dX12_says_194 (by decide) ?_
          refine y_lv (lv' := [(0, .ref (w.1 0)), (1, .int l1), (2, .int x25), (3, .int x26)]) [2, 3, 1, 0] rfl ?_
          exact ih16 u24 l1 x25 x26 hv
      intro σ l1 l2 l3 hv
      unfold VX12_says_L16 at hv
      refine y_iload_n E dX12_says_16 3 rfl ?_
      refine y_aload_n E dX12_says_17 0 rfl ?_
      refine gf_X12_10 E (by decide) (by decide) wm_549 dX12_says_18 ?_
      refine y_iconst (v := 4) E dX12_says_21 (by decide) ?_
      refine y_aload_n E dX12_says_22 0 rfl ?_
      refine gf_X12_12 E (by decide) (by decide) wm_497 dX12_says_23 ?_
      refine y_imul E dX12_says_26 ?_
      refine y_iload_n E dX12_says_27 1 rfl ?_
      refine y_iadd E dX12_says_28 ?_
      refine y_iconst (v := 1) E dX12_says_29 (by decide) ?_
      refine y_iadd E dX12_says_30 ?_
      obtain ⟨hi, hv⟩ := hv
      refine y_iald E (Nat.lt_of_lt_of_le (show 8 < 9 by decide) (by decide)) (mc_m_starts (by decide) (by decide)) hi dX12_says_31 ?_
      refine y_icmp_ge (tgt := 197) E dX12_says_32 (by decide) (fun c2 => ?_) (fun c2 => ?_)
      · replace hv := ite_t hv c2
        refine y_aload_n E dX12_says_197 0 rfl ?_
        refine gf_X12_30 E (by decide) (by decide) wm_554 dX12_says_198 ?_
        refine y_iconst (v := 0) E dX12_says_201 (by decide) ?_
        refine y_ialdc (j := 0) E (Nat.lt_of_lt_of_le (show 16 < 17 by decide) (by decide)) (mc_m_stack (by decide) (by decide)) (by decide) (by decide) dX12_says_202 ?_
        exact y_iret E dX12_says_203 hv
      · replace hv := ite_f hv c2
        refine y_aload_n E dX12_says_35 0 rfl ?_
        refine gf_X12_9 E (by decide) (by decide) wm_512 dX12_says_36 ?_
        refine y_sipush (v := 200) E dX12_says_39 (by decide) ?_
        refine y_aload_n E dX12_says_42 0 rfl ?_
        refine gf_X12_12 E (by decide) (by decide) wm_497 dX12_says_43 ?_
        refine y_imul E dX12_says_46 ?_
        refine y_iload_n E dX12_says_47 3 rfl ?_
        refine y_iadd E dX12_says_48 ?_
        obtain ⟨hi, hv⟩ := hv
        refine y_iald E (Nat.lt_of_lt_of_le (show 7 < 8 by decide) (by decide)) (mc_m_codes (by decide) (by decide)) hi dX12_says_49 ?_
        refine y_nmi (fun x3 hx3 => ?_)
        replace hv := hv x3 hx3
        refine y_istore (lv' := [(4, .int x3), (0, .ref (w.1 0)), (1, .int l1), (2, .int l2), (3, .int l3)]) E dX12_says_50 (by decide) rfl ?_
        refine y_iload E dX12_says_52 0 rfl ?_
        refine y_ldc (v := 100000) E wm_548 dX12_says_54 ?_
        refine y_icmp_ge (tgt := 66) E dX12_says_56 (by decide) (fun c4 => ?_) (fun c4 => ?_)
        · replace hv := ite_t hv c4
          refine y_lv (lv' := [(0, .ref (w.1 0)), (1, .int l1), (2, .int l2), (3, .int l3), (4, .int x3)]) [1, 2, 3, 4, 0] rfl ?_
          exact hb66 σ l1 l2 l3 x3 hv
        · replace hv := ite_f hv c4
          refine y_iload E dX12_says_59 0 rfl ?_
          refine y_bipush (v := 11) E dX12_says_61 (by decide) ?_
          refine y_icmp_ge (tgt := 100) E dX12_says_63 (by decide) (fun c5 => ?_) (fun c5 => ?_)
          · replace hv := ite_t hv c5
            refine y_iload E dX12_says_100 0 rfl ?_
            refine y_bipush (v := 13) E dX12_says_102 (by decide) ?_
            refine y_icmp_ne (tgt := 134) E dX12_says_104 (by decide) (fun c6 => ?_) (fun c6 => ?_)
            · replace hv := ite_f hv c6
              refine y_iload E dX12_says_134 0 rfl ?_
              refine y_bipush (v := 19) E dX12_says_136 (by decide) ?_
              refine y_icmp_ne (tgt := 161) E dX12_says_138 (by decide) (fun c7 => ?_) (fun c7 => ?_)
              · replace hv := ite_f hv c7
                obtain ⟨x8, hx8⟩ : ∃ z : Int32, z = l2 + (-1) := ⟨_, rfl⟩
                replace hv := hv x8 hx8
                refine y_iinc (v := x8) (lv' := [(2, .int x8), (4, .int x3), (0, .ref (w.1 0)), (1, .int l1), (3, .int l3)]) E dX12_says_161 3 rfl (by rw [hx8]; rfl) (by decide) rfl ?_
                refine y_aload_n E dX12_says_164 2 rfl ?_
                refine gf_X12_30 E (by decide) (by decide) wm_554 dX12_says_165 ?_
                refine y_iload_n E dX12_says_168 0 rfl ?_
                refine y_iconst (v := 1) E dX12_says_169 (by decide) ?_
                refine y_isub E dX12_says_170 ?_
                refine y_iload E dX12_says_171 1 rfl ?_
                refine y_aload_n E dX12_says_173 2 rfl ?_
                refine gf_X12_30 E (by decide) (by decide) wm_554 dX12_says_174 ?_
                refine y_iload_n E dX12_says_177 0 rfl ?_
                refine y_iconst (v := 1) E dX12_says_178 (by decide) ?_
                refine y_isub E dX12_says_179 ?_
                obtain ⟨hi, hv⟩ := hv
                refine y_iald E (Nat.lt_of_lt_of_le (show 16 < 17 by decide) (by decide)) (mc_m_stack (by decide) (by decide)) hi dX12_says_180 ?_
                refine y_aload_n E dX12_says_181 2 rfl ?_
                refine gf_X12_30 E (by decide) (by decide) wm_554 dX12_says_182 ?_
                refine y_iload_n E dX12_says_185 0 rfl ?_
                obtain ⟨hi, hv⟩ := hv
                refine y_iald E (Nat.lt_of_lt_of_le (show 16 < 17 by decide) (by decide)) (mc_m_stack (by decide) (by decide)) hi dX12_says_186 ?_
                refine y_calli E (y_runS E (rest := [.int (x8 - 1), .ref (w.1 16)]) (kX12_two l w E.2.2.1 σ x3 (σ 16 (x8 - 1).toNatClampNeg) (σ 16 x8.toNatClampNeg) _ hv) (y_cwS 3 E.1.2.2.2.2 wm_555 wm_556 wm_479 wm_557 (by decide +kernel) (yRm_le (by decide) (by decide))) rfl rfl (Nat.le_of_ble_eq_true rfl) dX12_says_187) (fun v9 u10 hk => ?_)
                clear hv
                have hv := hk
                clear hk
                obtain ⟨hi, hv⟩ := hv
                refine y_iast E (Nat.lt_of_lt_of_le (show 16 < 17 by decide) (by decide)) (fun _ => mc_m_stack (by decide) (by decide)) hi dX12_says_190 ?_
                refine y_nmH (fun u11 hu11 => ?_)
                replace hv := hv u11 hu11
                obtain ⟨x12, hx12⟩ : ∃ z : Int32, z = l3 + 1 := ⟨_, rfl⟩
                replace hv := hv x12 hx12
                refine y_iinc (v := x12) (lv' := [(3, .int x12), (2, .int x8), (4, .int x3), (0, .ref (w.1 0)), (1, .int l1)]) E dX12_says_191 4 rfl (by rw [hx12]; rfl) (by decide) rfl ?_
                refine y_goto (tgt := 16) E dX12_says_194 (by decide) ?_
                refine y_lv (lv' := [(0, .ref (w.1 0)), (1, .int l1), (2, .int x8), (3, .int x12)]) [3, 4, 1, 0] rfl ?_
                exact ih16 u11 l1 x8 x12 hv
              · replace hv := ite_t hv c7
                refine y_aload_n E dX12_says_141 1 rfl ?_
                refine gf_X12_30 E (by decide) (by decide) wm_554 dX12_says_142 ?_
                refine y_iload_n E dX12_says_145 3 rfl ?_
                refine y_iconst (v := 1) E dX12_says_146 (by decide) ?_
                refine y_isub E dX12_says_147 ?_
                refine y_aload_n E dX12_says_148 1 rfl ?_
                refine gf_X12_30 E (by decide) (by decide) wm_554 dX12_says_149 ?_
                refine y_iload_n E dX12_says_152 3 rfl ?_
                refine y_iconst (v := 1) E dX12_says_153 (by decide) ?_
                refine y_isub E dX12_says_154 ?_
                obtain ⟨hi, hv⟩ := hv
                refine y_iald E (Nat.lt_of_lt_of_le (show 16 < 17 by decide) (by decide)) (mc_m_stack (by decide) (by decide)) hi dX12_says_155 ?_
                refine y_ineg E dX12_says_156 ?_
                obtain ⟨hi, hv⟩ := hv
                refine y_iast E (Nat.lt_of_lt_of_le (show 16 < 17 by decide) (by decide)) (fun _ => mc_m_stack (by decide) (by decide)) hi dX12_says_157 ?_
                refine y_nmH (fun u13 hu13 => ?_)
                replace hv := hv u13 hu13
                refine y_goto (tgt := 191) E dX12_says_158 (by decide) ?_
                obtain ⟨x14, hx14⟩ : ∃ z : Int32, z = l3 + 1 := ⟨_, rfl⟩
                replace hv := hv x14 hx14
                refine y_iinc (v := x14) (lv' := [(3, .int x14), (4, .int x3), (0, .ref (w.1 0)), (1, .int l1), (2, .int l2)]) E dX12_says_191 4 rfl (by rw [hx14]; rfl) (by decide) rfl ?_
                refine y_goto (tgt := 16) E dX12_says_194 (by decide) ?_
                refine y_lv (lv' := [(0, .ref (w.1 0)), (1, .int l1), (2, .int l2), (3, .int x14)]) [2, 3, 4, 0] rfl ?_
                exact ih16 u13 l1 l2 x14 hv
            · replace hv := ite_t hv c6
              refine y_aload_n E dX12_says_107 1 rfl ?_
              refine gf_X12_30 E (by decide) (by decide) wm_554 dX12_says_108 ?_
              refine y_iload_n E dX12_says_111 3 rfl ?_
              refine y_iconst (v := 1) E dX12_says_112 (by decide) ?_
              refine y_isub E dX12_says_113 ?_
              refine y_aload_n E dX12_says_114 1 rfl ?_
              refine gf_X12_30 E (by decide) (by decide) wm_554 dX12_says_115 ?_
              refine y_iload_n E dX12_says_118 3 rfl ?_
              refine y_iconst (v := 1) E dX12_says_119 (by decide) ?_
              refine y_isub E dX12_says_120 ?_
              obtain ⟨hi, hv⟩ := hv
              refine y_iald E (Nat.lt_of_lt_of_le (show 16 < 17 by decide) (by decide)) (mc_m_stack (by decide) (by decide)) hi dX12_says_121 ?_
              refine y_if_ne (tgt := 129) E dX12_says_122 (by decide) (fun c15 => ?_) (fun c15 => ?_)
              · replace hv := ite_f hv c15
                refine y_iconst (v := 0) E dX12_says_129 (by decide) ?_
                obtain ⟨hi, hv⟩ := hv
                refine y_iast E (Nat.lt_of_lt_of_le (show 16 < 17 by decide) (by decide)) (fun _ => mc_m_stack (by decide) (by decide)) hi dX12_says_130 ?_
                refine y_nmH (fun u16 hu16 => ?_)
                replace hv := hv u16 hu16
                refine y_goto (tgt := 191) E dX12_says_131 (by decide) ?_
                obtain ⟨x17, hx17⟩ : ∃ z : Int32, z = l3 + 1 := ⟨_, rfl⟩
                replace hv := hv x17 hx17
                refine y_iinc (v := x17) (lv' := [(3, .int x17), (4, .int x3), (0, .ref (w.1 0)), (1, .int l1), (2, .int l2)]) E dX12_says_191 4 rfl (by rw [hx17]; rfl) (by decide) rfl ?_
                refine y_goto (tgt := 16) E dX12_says_194 (by decide) ?_
                refine y_lv (lv' := [(0, .ref (w.1 0)), (1, .int l1), (2, .int l2), (3, .int x17)]) [2, 3, 4, 0] rfl ?_
                exact ih16 u16 l1 l2 x17 hv
              · replace hv := ite_t hv c15
                refine y_iconst (v := 1) E dX12_says_125 (by decide) ?_
                refine y_goto (tgt := 130) E dX12_says_126 (by decide) ?_
                obtain ⟨hi, hv⟩ := hv
                refine y_iast E (Nat.lt_of_lt_of_le (show 16 < 17 by decide) (by decide)) (fun _ => mc_m_stack (by decide) (by decide)) hi dX12_says_130 ?_
                refine y_nmH (fun u18 hu18 => ?_)
                replace hv := hv u18 hu18
                refine y_goto (tgt := 191) E dX12_says_131 (by decide) ?_
                obtain ⟨x19, hx19⟩ : ∃ z : Int32, z = l3 + 1 := ⟨_, rfl⟩
                replace hv := hv x19 hx19
                refine y_iinc (v := x19) (lv' := [(3, .int x19), (4, .int x3), (0, .ref (w.1 0)), (1, .int l1), (2, .int l2)]) E dX12_says_191 4 rfl (by rw [hx19]; rfl) (by decide) rfl ?_
                refine y_goto (tgt := 16) E dX12_says_194 (by decide) ?_
                refine y_lv (lv' := [(0, .ref (w.1 0)), (1, .int l1), (2, .int l2), (3, .int x19)]) [2, 3, 4, 0] rfl ?_
                exact ih16 u18 l1 l2 x19 hv
          · replace hv := ite_f hv c5
            refine y_lv (lv' := [(0, .ref (w.1 0)), (1, .int l1), (2, .int l2), (3, .int l3), (4, .int x3)]) [1, 2, 3, 4, 0] rfl ?_
            exact hb66 σ l1 l2 l3 x3 hv
  refine y_iconst (v := 0) E dX12_says_0 (by decide) ?_
  refine y_istore_n (lv' := [(2, .int 0), (0, .ref (w.1 0)), (1, .int a1)]) E dX12_says_1 (by decide) rfl ?_
  refine y_aload_n E dX12_says_2 1 rfl ?_
  refine gf_X12_10 E (by decide) (by decide) wm_549 dX12_says_3 ?_
  refine y_iconst (v := 4) E dX12_says_6 (by decide) ?_
  refine y_aload_n E dX12_says_7 1 rfl ?_
  refine gf_X12_12 E (by decide) (by decide) wm_497 dX12_says_8 ?_
  refine y_imul E dX12_says_11 ?_
  refine y_iload_n E dX12_says_12 2 rfl ?_
  refine y_iadd E dX12_says_13 ?_
  obtain ⟨hi, hv⟩ := hv
  refine y_iald E (Nat.lt_of_lt_of_le (show 8 < 9 by decide) (by decide)) (mc_m_starts (by decide) (by decide)) hi dX12_says_14 ?_
  refine y_nmi (fun x1 hx1 => ?_)
  replace hv := hv x1 hx1
  refine y_istore_n (lv' := [(3, .int x1), (2, .int 0), (0, .ref (w.1 0)), (1, .int a1)]) E dX12_says_15 (by decide) rfl ?_
  refine y_lv (lv' := [(0, .ref (w.1 0)), (1, .int a1), (2, .int 0), (3, .int x1)]) [2, 3, 1, 0] rfl ?_
  obtain ⟨n0, hv⟩ := hv
  exact hL16 n0 σ a1 0 x1 hv
theorem dX12_force_0 : decode cX12_force 0 = .ok (.iload_n 1, 1) := by decide +kernel
theorem dX12_force_1 : decode cX12_force 1 = .ok (.iconst 0, 1) := by decide +kernel
theorem dX12_force_2 : decode cX12_force 2 = .ok (.aload_n 0, 1) := by decide +kernel
theorem dX12_force_3 : decode cX12_force 3 = .ok (.getfield 96, 3) := by decide +kernel
theorem dX12_force_6 : decode cX12_force 6 = .ok (.iconst 1, 1) := by decide +kernel
theorem dX12_force_7 : decode cX12_force 7 = .ok (.isub, 1) := by decide +kernel
theorem dX12_force_8 : decode cX12_force 8 = .ok (.invokestatic 75, 3) := by decide +kernel
theorem dX12_force_11 : decode cX12_force 11 = .ok (.ifCond .ne 6, 3) := by decide +kernel
theorem dX12_force_14 : decode cX12_force 14 = .ok (.bipush (-2), 2) := by decide +kernel
theorem dX12_force_16 : decode cX12_force 16 = .ok (.ireturn, 1) := by decide +kernel
theorem dX12_force_17 : decode cX12_force 17 = .ok (.aload_n 0, 1) := by decide +kernel
theorem dX12_force_18 : decode cX12_force 18 = .ok (.getfield 99, 3) := by decide +kernel
theorem dX12_force_21 : decode cX12_force 21 = .ok (.istore_n 2, 1) := by decide +kernel
theorem dX12_force_22 : decode cX12_force 22 = .ok (.aload_n 0, 1) := by decide +kernel
theorem dX12_force_23 : decode cX12_force 23 = .ok (.iload_n 1, 1) := by decide +kernel
theorem dX12_force_24 : decode cX12_force 24 = .ok (.putfield 99, 3) := by decide +kernel
theorem dX12_force_27 : decode cX12_force 27 = .ok (.iload_n 2, 1) := by decide +kernel
theorem dX12_force_28 : decode cX12_force 28 = .ok (.ireturn, 1) := by decide +kernel
set_option maxRecDepth 100000 in
set_option maxHeartbeats 4000000 in
theorem kX12_force (l : Launch) (w : wT) (hw : yOk w 20) (σ : Hp) (a1 : Int32) (K : Int32 → Hp → Prop) (hv : VX12_force K σ a1) : yMet l w mcf 20 yX12_force cX12_force 3 (some .int) 2 [.ref (w.1 0), .int a1] σ (yQi w mcf 20 K) := by
  unfold VX12_force at hv
  refine y_start (lv0 := [(0, .ref (w.1 0)), (1, .int a1)]) (by decide +kernel) (own := RX12) rfl hw (Nat.le_of_ble_eq_true rfl) rfl (fun p e s m below meth c A E => ?_)
  refine y_iload_n E dX12_force_0 1 rfl ?_
  refine y_iconst (v := 0) E dX12_force_1 (by decide) ?_
  refine y_aload_n E dX12_force_2 0 rfl ?_
  refine gf_X12_11 E (by decide) (by decide) wm_496 dX12_force_3 ?_
  refine y_iconst (v := 1) E dX12_force_6 (by decide) ?_
  refine y_isub E dX12_force_7 ?_
  refine y_calli E (y_runS E (rest := []) (kX12_in l w E.2.2.1 σ a1 0 ((σ 0 11) - 1) _ hv) (y_cwS 3 E.1.2.2.2.2 wm_477 wm_478 wm_479 wm_480 (by decide +kernel) (yRm_le (by decide) (by decide))) rfl rfl (Nat.le_of_ble_eq_true rfl) dX12_force_8) (fun v1 u2 hk => ?_)
  clear hv
  have hv := hk
  clear hk
  refine y_if_ne (tgt := 17) E dX12_force_11 (by decide) (fun c3 => ?_) (fun c3 => ?_)
  · replace hv := ite_f hv c3
    refine y_aload_n E dX12_force_17 0 rfl ?_
    refine gf_X12_12 E (by decide) (by decide) wm_497 dX12_force_18 ?_
    refine y_nmi (fun x4 hx4 => ?_)
    replace hv := hv x4 hx4
    refine y_istore_n (lv' := [(2, .int x4), (0, .ref (w.1 0)), (1, .int a1)]) E dX12_force_21 (by decide) rfl ?_
    refine y_aload_n E dX12_force_22 1 rfl ?_
    refine y_iload_n E dX12_force_23 2 rfl ?_
    refine pf_X12_12 E (by decide) (by decide) wm_497 dX12_force_24 ?_
    refine y_nmH (fun u5 hu5 => ?_)
    replace hv := hv u5 hu5
    refine y_iload_n E dX12_force_27 0 rfl ?_
    exact y_iret E dX12_force_28 hv
  · replace hv := ite_t hv c3
    refine y_bipush (v := (-2)) E dX12_force_14 (by decide) ?_
    exact y_iret E dX12_force_16 hv
theorem dX12_asksOf_0 : decode cX12_asksOf 0 = .ok (.aload_n 0, 1) := by decide +kernel
theorem dX12_asksOf_1 : decode cX12_asksOf 1 = .ok (.getfield 58, 3) := by decide +kernel
theorem dX12_asksOf_4 : decode cX12_asksOf 4 = .ok (.iconst 0, 1) := by decide +kernel
theorem dX12_asksOf_5 : decode cX12_asksOf 5 = .ok (.iload_n 2, 1) := by decide +kernel
theorem dX12_asksOf_6 : decode cX12_asksOf 6 = .ok (.iastore, 1) := by decide +kernel
theorem dX12_asksOf_7 : decode cX12_asksOf 7 = .ok (.aload_n 0, 1) := by decide +kernel
theorem dX12_asksOf_8 : decode cX12_asksOf 8 = .ok (.getfield 58, 3) := by decide +kernel
theorem dX12_asksOf_11 : decode cX12_asksOf 11 = .ok (.iconst 1, 1) := by decide +kernel
theorem dX12_asksOf_12 : decode cX12_asksOf 12 = .ok (.iload_n 2, 1) := by decide +kernel
theorem dX12_asksOf_13 : decode cX12_asksOf 13 = .ok (.bipush 6, 2) := by decide +kernel
theorem dX12_asksOf_15 : decode cX12_asksOf 15 = .ok (.irem, 1) := by decide +kernel
theorem dX12_asksOf_16 : decode cX12_asksOf 16 = .ok (.iastore, 1) := by decide +kernel
theorem dX12_asksOf_17 : decode cX12_asksOf 17 = .ok (.aload_n 0, 1) := by decide +kernel
theorem dX12_asksOf_18 : decode cX12_asksOf 18 = .ok (.getfield 58, 3) := by decide +kernel
theorem dX12_asksOf_21 : decode cX12_asksOf 21 = .ok (.iconst 2, 1) := by decide +kernel
theorem dX12_asksOf_22 : decode cX12_asksOf 22 = .ok (.iload_n 2, 1) := by decide +kernel
theorem dX12_asksOf_23 : decode cX12_asksOf 23 = .ok (.bipush 6, 2) := by decide +kernel
theorem dX12_asksOf_25 : decode cX12_asksOf 25 = .ok (.idiv, 1) := by decide +kernel
theorem dX12_asksOf_26 : decode cX12_asksOf 26 = .ok (.iastore, 1) := by decide +kernel
theorem dX12_asksOf_27 : decode cX12_asksOf 27 = .ok (.aload_n 0, 1) := by decide +kernel
theorem dX12_asksOf_28 : decode cX12_asksOf 28 = .ok (.getfield 58, 3) := by decide +kernel
theorem dX12_asksOf_31 : decode cX12_asksOf 31 = .ok (.iconst 3, 1) := by decide +kernel
theorem dX12_asksOf_32 : decode cX12_asksOf 32 = .ok (.iload_n 3, 1) := by decide +kernel
theorem dX12_asksOf_33 : decode cX12_asksOf 33 = .ok (.iastore, 1) := by decide +kernel
theorem dX12_asksOf_34 : decode cX12_asksOf 34 = .ok (.aload_n 0, 1) := by decide +kernel
theorem dX12_asksOf_35 : decode cX12_asksOf 35 = .ok (.getfield 58, 3) := by decide +kernel
theorem dX12_asksOf_38 : decode cX12_asksOf 38 = .ok (.iconst 4, 1) := by decide +kernel
theorem dX12_asksOf_39 : decode cX12_asksOf 39 = .ok (.iload 4, 2) := by decide +kernel
theorem dX12_asksOf_41 : decode cX12_asksOf 41 = .ok (.iastore, 1) := by decide +kernel
theorem dX12_asksOf_42 : decode cX12_asksOf 42 = .ok (.aload_n 0, 1) := by decide +kernel
theorem dX12_asksOf_43 : decode cX12_asksOf 43 = .ok (.getfield 58, 3) := by decide +kernel
theorem dX12_asksOf_46 : decode cX12_asksOf 46 = .ok (.iconst 5, 1) := by decide +kernel
theorem dX12_asksOf_47 : decode cX12_asksOf 47 = .ok (.iload 5, 2) := by decide +kernel
theorem dX12_asksOf_49 : decode cX12_asksOf 49 = .ok (.iastore, 1) := by decide +kernel
theorem dX12_asksOf_50 : decode cX12_asksOf 50 = .ok (.aload_n 0, 1) := by decide +kernel
theorem dX12_asksOf_51 : decode cX12_asksOf 51 = .ok (.iload_n 1, 1) := by decide +kernel
theorem dX12_asksOf_52 : decode cX12_asksOf 52 = .ok (.invokevirtual 165, 3) := by decide +kernel
theorem dX12_asksOf_55 : decode cX12_asksOf 55 = .ok (.iconst 0, 1) := by decide +kernel
theorem dX12_asksOf_56 : decode cX12_asksOf 56 = .ok (.iload_n 1, 1) := by decide +kernel
theorem dX12_asksOf_57 : decode cX12_asksOf 57 = .ok (.ifCond .ne 7, 3) := by decide +kernel
theorem dX12_asksOf_60 : decode cX12_asksOf 60 = .ok (.iconst 4, 1) := by decide +kernel
theorem dX12_asksOf_61 : decode cX12_asksOf 61 = .ok (.goto 15, 3) := by decide +kernel
theorem dX12_asksOf_64 : decode cX12_asksOf 64 = .ok (.iload_n 1, 1) := by decide +kernel
theorem dX12_asksOf_65 : decode cX12_asksOf 65 = .ok (.iconst 1, 1) := by decide +kernel
theorem dX12_asksOf_66 : decode cX12_asksOf 66 = .ok (.if_icmp .ne 8, 3) := by decide +kernel
theorem dX12_asksOf_69 : decode cX12_asksOf 69 = .ok (.bipush 99, 2) := by decide +kernel
theorem dX12_asksOf_71 : decode cX12_asksOf 71 = .ok (.goto 5, 3) := by decide +kernel
theorem dX12_asksOf_74 : decode cX12_asksOf 74 = .ok (.bipush 9, 2) := by decide +kernel
theorem dX12_asksOf_76 : decode cX12_asksOf 76 = .ok (.invokestatic 168, 3) := by decide +kernel
theorem dX12_asksOf_79 : decode cX12_asksOf 79 = .ok (.ireturn, 1) := by decide +kernel
set_option maxRecDepth 100000 in
set_option maxHeartbeats 4000000 in
theorem kX12_asksOf (l : Launch) (w : wT) (hw : yOk w 20) (σ : Hp) (a1 : Int32) (a2 : Int32) (a3 : Int32) (a4 : Int32) (a5 : Int32) (K : Int32 → Hp → Prop) (hv : VX12_asksOf K σ a1 a2 a3 a4 a5) : yMet l w mcf 20 yX12_asksOf cX12_asksOf 6 (some .int) 3 [.ref (w.1 0), .int a1, .int a2, .int a3, .int a4, .int a5] σ (yQi w mcf 20 K) := by
  unfold VX12_asksOf at hv
  refine y_start (lv0 := [(0, .ref (w.1 0)), (1, .int a1), (2, .int a2), (3, .int a3), (4, .int a4), (5, .int a5)]) (by decide +kernel) (own := RX12) rfl hw (Nat.le_of_ble_eq_true rfl) rfl (fun p e s m below meth c A E => ?_)
  refine y_aload_n E dX12_asksOf_0 0 rfl ?_
  refine gf_X12_31 E (by decide) (by decide) wm_558 dX12_asksOf_1 ?_
  refine y_iconst (v := 0) E dX12_asksOf_4 (by decide) ?_
  refine y_iload_n E dX12_asksOf_5 2 rfl ?_
  refine y_iastc (j := 0) E (Nat.lt_of_lt_of_le (show 17 < 18 by decide) (by decide)) (fun _ => mc_m_named (by decide) (by decide)) (by decide) (by decide) dX12_asksOf_6 ?_
  refine y_nmH (fun u1 hu1 => ?_)
  replace hv := hv u1 hu1
  refine y_aload_n E dX12_asksOf_7 0 rfl ?_
  refine gf_X12_31 E (by decide) (by decide) wm_558 dX12_asksOf_8 ?_
  refine y_iconst (v := 1) E dX12_asksOf_11 (by decide) ?_
  refine y_iload_n E dX12_asksOf_12 2 rfl ?_
  refine y_bipush (v := 6) E dX12_asksOf_13 (by decide) ?_
  refine y_irem E dX12_asksOf_15 (by decide) ?_
  refine y_iastc (j := 1) E (Nat.lt_of_lt_of_le (show 17 < 18 by decide) (by decide)) (fun _ => mc_m_named (by decide) (by decide)) (by decide) (by decide) dX12_asksOf_16 ?_
  refine y_nmH (fun u2 hu2 => ?_)
  replace hv := hv u2 hu2
  refine y_aload_n E dX12_asksOf_17 0 rfl ?_
  refine gf_X12_31 E (by decide) (by decide) wm_558 dX12_asksOf_18 ?_
  refine y_iconst (v := 2) E dX12_asksOf_21 (by decide) ?_
  refine y_iload_n E dX12_asksOf_22 2 rfl ?_
  refine y_bipush (v := 6) E dX12_asksOf_23 (by decide) ?_
  refine y_idiv E dX12_asksOf_25 (by decide) ?_
  refine y_iastc (j := 2) E (Nat.lt_of_lt_of_le (show 17 < 18 by decide) (by decide)) (fun _ => mc_m_named (by decide) (by decide)) (by decide) (by decide) dX12_asksOf_26 ?_
  refine y_nmH (fun u3 hu3 => ?_)
  replace hv := hv u3 hu3
  refine y_aload_n E dX12_asksOf_27 0 rfl ?_
  refine gf_X12_31 E (by decide) (by decide) wm_558 dX12_asksOf_28 ?_
  refine y_iconst (v := 3) E dX12_asksOf_31 (by decide) ?_
  refine y_iload_n E dX12_asksOf_32 3 rfl ?_
  refine y_iastc (j := 3) E (Nat.lt_of_lt_of_le (show 17 < 18 by decide) (by decide)) (fun _ => mc_m_named (by decide) (by decide)) (by decide) (by decide) dX12_asksOf_33 ?_
  refine y_nmH (fun u4 hu4 => ?_)
  replace hv := hv u4 hu4
  refine y_aload_n E dX12_asksOf_34 0 rfl ?_
  refine gf_X12_31 E (by decide) (by decide) wm_558 dX12_asksOf_35 ?_
  refine y_iconst (v := 4) E dX12_asksOf_38 (by decide) ?_
  refine y_iload E dX12_asksOf_39 4 rfl ?_
  refine y_iastc (j := 4) E (Nat.lt_of_lt_of_le (show 17 < 18 by decide) (by decide)) (fun _ => mc_m_named (by decide) (by decide)) (by decide) (by decide) dX12_asksOf_41 ?_
  refine y_nmH (fun u5 hu5 => ?_)
  replace hv := hv u5 hu5
  refine y_aload_n E dX12_asksOf_42 0 rfl ?_
  refine gf_X12_31 E (by decide) (by decide) wm_558 dX12_asksOf_43 ?_
  refine y_iconst (v := 5) E dX12_asksOf_46 (by decide) ?_
  refine y_iload E dX12_asksOf_47 5 rfl ?_
  refine y_iastc (j := 5) E (Nat.lt_of_lt_of_le (show 17 < 18 by decide) (by decide)) (fun _ => mc_m_named (by decide) (by decide)) (by decide) (by decide) dX12_asksOf_49 ?_
  refine y_nmH (fun u6 hu6 => ?_)
  replace hv := hv u6 hu6
  refine y_aload_n E dX12_asksOf_50 0 rfl ?_
  refine y_iload_n E dX12_asksOf_51 1 rfl ?_
  refine y_calli E (y_runV E (rest := []) (kX12_says l w E.2.2.1 u6 a1 _ hv) (y_cwV 1 E.1.2.2.2.2 wm_559 wm_563 wm_564 wm_479 wm_565 (by decide +kernel) (yRm_le (by decide) (by decide))) (Nat.lt_of_lt_of_le (show 0 < 1 by decide) (by decide)) (mc_X12 (by decide) (by decide)) rfl rfl rfl (Nat.le_of_ble_eq_true rfl) dX12_asksOf_52) (fun v7 u8 hk => ?_)
  clear hv
  have hv := hk
  clear hk
  refine y_iconst (v := 0) E dX12_asksOf_55 (by decide) ?_
  refine y_iload_n E dX12_asksOf_56 1 rfl ?_
  refine y_if_ne (tgt := 64) E dX12_asksOf_57 (by decide) (fun c9 => ?_) (fun c9 => ?_)
  · replace hv := ite_f hv c9
    refine y_iload_n E dX12_asksOf_64 1 rfl ?_
    refine y_iconst (v := 1) E dX12_asksOf_65 (by decide) ?_
    refine y_icmp_ne (tgt := 74) E dX12_asksOf_66 (by decide) (fun c10 => ?_) (fun c10 => ?_)
    · replace hv := ite_f hv c10
      refine y_bipush (v := 9) E dX12_asksOf_74 (by decide) ?_
      refine y_calli E (y_runS E (rest := []) (kX12_within l w E.2.2.1 u8 v7 0 9 _ hv) (y_cwS 3 E.1.2.2.2.2 wm_560 wm_561 wm_479 wm_562 (by decide +kernel) (yRm_le (by decide) (by decide))) rfl rfl (Nat.le_of_ble_eq_true rfl) dX12_asksOf_76) (fun v11 u12 hk => ?_)
      clear hv
      have hv := hk
      clear hk
      exact y_iret E dX12_asksOf_79 hv
    · replace hv := ite_t hv c10
      refine y_bipush (v := 99) E dX12_asksOf_69 (by decide) ?_
      refine y_goto (tgt := 76) E dX12_asksOf_71 (by decide) ?_
      refine y_calli E (y_runS E (rest := []) (kX12_within l w E.2.2.1 u8 v7 0 99 _ hv) (y_cwS 3 E.1.2.2.2.2 wm_560 wm_561 wm_479 wm_562 (by decide +kernel) (yRm_le (by decide) (by decide))) rfl rfl (Nat.le_of_ble_eq_true rfl) dX12_asksOf_76) (fun v13 u14 hk => ?_)
      clear hv
      have hv := hk
      clear hk
      exact y_iret E dX12_asksOf_79 hv
  · replace hv := ite_t hv c9
    refine y_iconst (v := 4) E dX12_asksOf_60 (by decide) ?_
    refine y_goto (tgt := 76) E dX12_asksOf_61 (by decide) ?_
    refine y_calli E (y_runS E (rest := []) (kX12_within l w E.2.2.1 u8 v7 0 4 _ hv) (y_cwS 3 E.1.2.2.2.2 wm_560 wm_561 wm_479 wm_562 (by decide +kernel) (yRm_le (by decide) (by decide))) rfl rfl (Nat.le_of_ble_eq_true rfl) dX12_asksOf_76) (fun v15 u16 hk => ?_)
    clear hv
    have hv := hk
    clear hk
    exact y_iret E dX12_asksOf_79 hv
theorem dX12_asks_0 : decode cX12_asks 0 = .ok (.iload_n 1, 1) := by decide +kernel
theorem dX12_asks_1 : decode cX12_asks 1 = .ok (.iconst 0, 1) := by decide +kernel
theorem dX12_asks_2 : decode cX12_asks 2 = .ok (.iconst 2, 1) := by decide +kernel
theorem dX12_asks_3 : decode cX12_asks 3 = .ok (.invokestatic 75, 3) := by decide +kernel
theorem dX12_asks_6 : decode cX12_asks 6 = .ok (.ifCond .eq 35, 3) := by decide +kernel
theorem dX12_asks_9 : decode cX12_asks 9 = .ok (.iload_n 2, 1) := by decide +kernel
theorem dX12_asks_10 : decode cX12_asks 10 = .ok (.invokestatic 79, 3) := by decide +kernel
theorem dX12_asks_13 : decode cX12_asks 13 = .ok (.ifCond .eq 28, 3) := by decide +kernel
theorem dX12_asks_16 : decode cX12_asks 16 = .ok (.iload_n 3, 1) := by decide +kernel
theorem dX12_asks_17 : decode cX12_asks 17 = .ok (.iconst 0, 1) := by decide +kernel
theorem dX12_asks_18 : decode cX12_asks 18 = .ok (.bipush 99, 2) := by decide +kernel
theorem dX12_asks_20 : decode cX12_asks 20 = .ok (.invokestatic 75, 3) := by decide +kernel
theorem dX12_asks_23 : decode cX12_asks 23 = .ok (.ifCond .eq 18, 3) := by decide +kernel
theorem dX12_asks_26 : decode cX12_asks 26 = .ok (.iload 4, 2) := by decide +kernel
theorem dX12_asks_28 : decode cX12_asks 28 = .ok (.iconst 0, 1) := by decide +kernel
theorem dX12_asks_29 : decode cX12_asks 29 = .ok (.bipush 99, 2) := by decide +kernel
theorem dX12_asks_31 : decode cX12_asks 31 = .ok (.invokestatic 75, 3) := by decide +kernel
theorem dX12_asks_34 : decode cX12_asks 34 = .ok (.ifCond .eq 7, 3) := by decide +kernel
theorem dX12_asks_37 : decode cX12_asks 37 = .ok (.iconst 1, 1) := by decide +kernel
theorem dX12_asks_38 : decode cX12_asks 38 = .ok (.goto 4, 3) := by decide +kernel
theorem dX12_asks_41 : decode cX12_asks 41 = .ok (.iconst 0, 1) := by decide +kernel
theorem dX12_asks_42 : decode cX12_asks 42 = .ok (.istore 5, 2) := by decide +kernel
theorem dX12_asks_44 : decode cX12_asks 44 = .ok (.iload 5, 2) := by decide +kernel
theorem dX12_asks_46 : decode cX12_asks 46 = .ok (.ifCond .eq 23, 3) := by decide +kernel
theorem dX12_asks_49 : decode cX12_asks 49 = .ok (.aload_n 0, 1) := by decide +kernel
theorem dX12_asks_50 : decode cX12_asks 50 = .ok (.iload_n 1, 1) := by decide +kernel
theorem dX12_asks_51 : decode cX12_asks 51 = .ok (.iload_n 2, 1) := by decide +kernel
theorem dX12_asks_52 : decode cX12_asks 52 = .ok (.iload_n 3, 1) := by decide +kernel
theorem dX12_asks_53 : decode cX12_asks 53 = .ok (.iload 4, 2) := by decide +kernel
theorem dX12_asks_55 : decode cX12_asks 55 = .ok (.bipush 10, 2) := by decide +kernel
theorem dX12_asks_57 : decode cX12_asks 57 = .ok (.idiv, 1) := by decide +kernel
theorem dX12_asks_58 : decode cX12_asks 58 = .ok (.iload 4, 2) := by decide +kernel
theorem dX12_asks_60 : decode cX12_asks 60 = .ok (.bipush 10, 2) := by decide +kernel
theorem dX12_asks_62 : decode cX12_asks 62 = .ok (.irem, 1) := by decide +kernel
theorem dX12_asks_63 : decode cX12_asks 63 = .ok (.invokevirtual 171, 3) := by decide +kernel
theorem dX12_asks_66 : decode cX12_asks 66 = .ok (.goto 5, 3) := by decide +kernel
theorem dX12_asks_69 : decode cX12_asks 69 = .ok (.bipush (-2), 2) := by decide +kernel
theorem dX12_asks_71 : decode cX12_asks 71 = .ok (.ireturn, 1) := by decide +kernel
set_option maxRecDepth 100000 in
set_option maxHeartbeats 4000000 in
theorem kX12_asks (l : Launch) (w : wT) (hw : yOk w 20) (σ : Hp) (a1 : Int32) (a2 : Int32) (a3 : Int32) (a4 : Int32) (K : Int32 → Hp → Prop) (hv : VX12_asks K σ a1 a2 a3 a4) : yMet l w mcf 20 yX12_asks cX12_asks 6 (some .int) 4 [.ref (w.1 0), .int a1, .int a2, .int a3, .int a4] σ (yQi w mcf 20 K) := by
  unfold VX12_asks at hv
  refine y_start (lv0 := [(0, .ref (w.1 0)), (1, .int a1), (2, .int a2), (3, .int a3), (4, .int a4)]) (by decide +kernel) (own := RX12) rfl hw (Nat.le_of_ble_eq_true rfl) rfl (fun p e s m below meth c A E => ?_)
  have hb42 : ∀ (σ : Hp) (l1 : Int32) (l2 : Int32) (l3 : Int32) (l4 : Int32) (s0 : Int32), VX12_asks_b42 K σ l1 l2 l3 l4 s0 → YY p l e (yRm 4) s m [.ref (w.1 0), .int a1, .int a2, .int a3, .int a4].toArray below meth c w mcf 20 A (MQ below (yQi w mcf 20 K A) [.ref (w.1 0), .int a1, .int a2, .int a3, .int a4].toArray s 0 0 A) 6 σ 42 [(0, .ref (w.1 0)), (1, .int l1), (2, .int l2), (3, .int l3), (4, .int l4)] [.int s0] := by
    intro σ l1 l2 l3 l4 s0 hv
    unfold VX12_asks_b42 at hv
    refine y_istore (lv' := [(5, .int s0), (0, .ref (w.1 0)), (1, .int l1), (2, .int l2), (3, .int l3), (4, .int l4)]) E dX12_asks_42 (by decide) rfl ?_
    refine y_iload E dX12_asks_44 0 rfl ?_
    refine y_if_eq (tgt := 69) E dX12_asks_46 (by decide) (fun c13 => ?_) (fun c13 => ?_)
    · replace hv := ite_t hv c13
      refine y_bipush (v := (-2)) E dX12_asks_69 (by decide) ?_
      exact y_iret E dX12_asks_71 hv
    · replace hv := ite_f hv c13
      refine y_aload_n E dX12_asks_49 1 rfl ?_
      refine y_iload_n E dX12_asks_50 2 rfl ?_
      refine y_iload_n E dX12_asks_51 3 rfl ?_
      refine y_iload_n E dX12_asks_52 4 rfl ?_
      refine y_iload E dX12_asks_53 5 rfl ?_
      refine y_bipush (v := 10) E dX12_asks_55 (by decide) ?_
      refine y_idiv E dX12_asks_57 (by decide) ?_
      refine y_iload E dX12_asks_58 5 rfl ?_
      refine y_bipush (v := 10) E dX12_asks_60 (by decide) ?_
      refine y_irem E dX12_asks_62 (by decide) ?_
      refine y_calli E (y_runV E (rest := []) (kX12_asksOf l w E.2.2.1 σ l1 l2 l3 (l4 / 10) (jrem l4 10) _ hv) (y_cwV 5 E.1.2.2.2.2 wm_566 wm_567 wm_568 wm_479 wm_569 (by decide +kernel) (yRm_le (by decide) (by decide))) (Nat.lt_of_lt_of_le (show 0 < 1 by decide) (by decide)) (mc_X12 (by decide) (by decide)) rfl rfl rfl (Nat.le_of_ble_eq_true rfl) dX12_asks_63) (fun v14 u15 hk => ?_)
      clear hv
      have hv := hk
      clear hk
      refine y_goto (tgt := 71) E dX12_asks_66 (by decide) ?_
      exact y_iret E dX12_asks_71 hv
  refine y_iload_n E dX12_asks_0 1 rfl ?_
  refine y_iconst (v := 0) E dX12_asks_1 (by decide) ?_
  refine y_iconst (v := 2) E dX12_asks_2 (by decide) ?_
  refine y_calli E (y_runS E (rest := []) (kX12_in l w E.2.2.1 σ a1 0 2 _ hv) (y_cwS 3 E.1.2.2.2.2 wm_477 wm_478 wm_479 wm_480 (by decide +kernel) (yRm_le (by decide) (by decide))) rfl rfl (Nat.le_of_ble_eq_true rfl) dX12_asks_3) (fun v1 u2 hk => ?_)
  clear hv
  have hv := hk
  clear hk
  refine y_if_eq (tgt := 41) E dX12_asks_6 (by decide) (fun c3 => ?_) (fun c3 => ?_)
  · replace hv := ite_t hv c3
    refine y_iconst (v := 0) E dX12_asks_41 (by decide) ?_
    exact hb42 u2 a1 a2 a3 a4 0 hv
  · replace hv := ite_f hv c3
    refine y_iload_n E dX12_asks_9 2 rfl ?_
    refine y_calli E (y_runS E (rest := []) (kX12_isCell l w E.2.2.1 u2 a2 _ hv) (y_cwS 1 E.1.2.2.2.2 wm_482 wm_487 wm_479 wm_488 (by decide +kernel) (yRm_le (by decide) (by decide))) rfl rfl (Nat.le_of_ble_eq_true rfl) dX12_asks_10) (fun v4 u5 hk => ?_)
    clear hv
    have hv := hk
    clear hk
    refine y_if_eq (tgt := 41) E dX12_asks_13 (by decide) (fun c6 => ?_) (fun c6 => ?_)
    · replace hv := ite_t hv c6
      refine y_iconst (v := 0) E dX12_asks_41 (by decide) ?_
      exact hb42 u5 a1 a2 a3 a4 0 hv
    · replace hv := ite_f hv c6
      refine y_iload_n E dX12_asks_16 3 rfl ?_
      refine y_iconst (v := 0) E dX12_asks_17 (by decide) ?_
      refine y_bipush (v := 99) E dX12_asks_18 (by decide) ?_
      refine y_calli E (y_runS E (rest := []) (kX12_in l w E.2.2.1 u5 a3 0 99 _ hv) (y_cwS 3 E.1.2.2.2.2 wm_477 wm_478 wm_479 wm_480 (by decide +kernel) (yRm_le (by decide) (by decide))) rfl rfl (Nat.le_of_ble_eq_true rfl) dX12_asks_20) (fun v7 u8 hk => ?_)
      clear hv
      have hv := hk
      clear hk
      refine y_if_eq (tgt := 41) E dX12_asks_23 (by decide) (fun c9 => ?_) (fun c9 => ?_)
      · replace hv := ite_t hv c9
        refine y_iconst (v := 0) E dX12_asks_41 (by decide) ?_
        exact hb42 u8 a1 a2 a3 a4 0 hv
      · replace hv := ite_f hv c9
        refine y_iload E dX12_asks_26 4 rfl ?_
        refine y_iconst (v := 0) E dX12_asks_28 (by decide) ?_
        refine y_bipush (v := 99) E dX12_asks_29 (by decide) ?_
        refine y_calli E (y_runS E (rest := []) (kX12_in l w E.2.2.1 u8 a4 0 99 _ hv) (y_cwS 3 E.1.2.2.2.2 wm_477 wm_478 wm_479 wm_480 (by decide +kernel) (yRm_le (by decide) (by decide))) rfl rfl (Nat.le_of_ble_eq_true rfl) dX12_asks_31) (fun v10 u11 hk => ?_)
        clear hv
        have hv := hk
        clear hk
        refine y_if_eq (tgt := 41) E dX12_asks_34 (by decide) (fun c12 => ?_) (fun c12 => ?_)
        · replace hv := ite_t hv c12
          refine y_iconst (v := 0) E dX12_asks_41 (by decide) ?_
          exact hb42 u11 a1 a2 a3 a4 0 hv
        · replace hv := ite_f hv c12
          refine y_iconst (v := 1) E dX12_asks_37 (by decide) ?_
          refine y_goto (tgt := 42) E dX12_asks_38 (by decide) ?_
          exact hb42 u11 a1 a2 a3 a4 1 hv
