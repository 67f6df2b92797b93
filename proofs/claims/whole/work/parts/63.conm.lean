theorem dX12_init_0 : decode cX12_init 0 = .ok (.aload_n 0, 1) := by decide +kernel
theorem dX12_init_1 : decode cX12_init 1 = .ok (.invokespecial 1, 3) := by decide +kernel
theorem dX12_init_4 : decode cX12_init 4 = .ok (.aload_n 0, 1) := by decide +kernel
theorem dX12_init_5 : decode cX12_init 5 = .ok (.iconst 3, 1) := by decide +kernel
theorem dX12_init_6 : decode cX12_init 6 = .ok (.newarray .int, 2) := by decide +kernel
theorem dX12_init_8 : decode cX12_init 8 = .ok (.putfield 7, 3) := by decide +kernel
theorem dX12_init_11 : decode cX12_init 11 = .ok (.aload_n 0, 1) := by decide +kernel
theorem dX12_init_12 : decode cX12_init 12 = .ok (.iconst 5, 1) := by decide +kernel
theorem dX12_init_13 : decode cX12_init 13 = .ok (.newarray .int, 2) := by decide +kernel
theorem dX12_init_15 : decode cX12_init 15 = .ok (.putfield 13, 3) := by decide +kernel
theorem dX12_init_18 : decode cX12_init 18 = .ok (.aload_n 0, 1) := by decide +kernel
theorem dX12_init_19 : decode cX12_init 19 = .ok (.iconst 5, 1) := by decide +kernel
theorem dX12_init_20 : decode cX12_init 20 = .ok (.newarray .int, 2) := by decide +kernel
theorem dX12_init_22 : decode cX12_init 22 = .ok (.putfield 16, 3) := by decide +kernel
theorem dX12_init_25 : decode cX12_init 25 = .ok (.aload_n 0, 1) := by decide +kernel
theorem dX12_init_26 : decode cX12_init 26 = .ok (.iconst 5, 1) := by decide +kernel
theorem dX12_init_27 : decode cX12_init 27 = .ok (.newarray .int, 2) := by decide +kernel
theorem dX12_init_29 : decode cX12_init 29 = .ok (.putfield 19, 3) := by decide +kernel
theorem dX12_init_32 : decode cX12_init 32 = .ok (.aload_n 0, 1) := by decide +kernel
theorem dX12_init_33 : decode cX12_init 33 = .ok (.iconst 5, 1) := by decide +kernel
theorem dX12_init_34 : decode cX12_init 34 = .ok (.newarray .int, 2) := by decide +kernel
theorem dX12_init_36 : decode cX12_init 36 = .ok (.putfield 22, 3) := by decide +kernel
theorem dX12_init_39 : decode cX12_init 39 = .ok (.aload_n 0, 1) := by decide +kernel
theorem dX12_init_40 : decode cX12_init 40 = .ok (.sipush 160, 3) := by decide +kernel
theorem dX12_init_43 : decode cX12_init 43 = .ok (.newarray .int, 2) := by decide +kernel
theorem dX12_init_45 : decode cX12_init 45 = .ok (.putfield 25, 3) := by decide +kernel
theorem dX12_init_48 : decode cX12_init 48 = .ok (.aload_n 0, 1) := by decide +kernel
theorem dX12_init_49 : decode cX12_init 49 = .ok (.sipush 1200, 3) := by decide +kernel
theorem dX12_init_52 : decode cX12_init 52 = .ok (.newarray .int, 2) := by decide +kernel
theorem dX12_init_54 : decode cX12_init 54 = .ok (.putfield 28, 3) := by decide +kernel
theorem dX12_init_57 : decode cX12_init 57 = .ok (.aload_n 0, 1) := by decide +kernel
theorem dX12_init_58 : decode cX12_init 58 = .ok (.bipush 24, 2) := by decide +kernel
theorem dX12_init_60 : decode cX12_init 60 = .ok (.newarray .int, 2) := by decide +kernel
theorem dX12_init_62 : decode cX12_init 62 = .ok (.putfield 31, 3) := by decide +kernel
theorem dX12_init_65 : decode cX12_init 65 = .ok (.aload_n 0, 1) := by decide +kernel
theorem dX12_init_66 : decode cX12_init 66 = .ok (.bipush 14, 2) := by decide +kernel
theorem dX12_init_68 : decode cX12_init 68 = .ok (.newarray .int, 2) := by decide +kernel
theorem dX12_init_70 : decode cX12_init 70 = .ok (.putfield 34, 3) := by decide +kernel
theorem dX12_init_73 : decode cX12_init 73 = .ok (.aload_n 0, 1) := by decide +kernel
theorem dX12_init_74 : decode cX12_init 74 = .ok (.iconst 4, 1) := by decide +kernel
theorem dX12_init_75 : decode cX12_init 75 = .ok (.newarray .int, 2) := by decide +kernel
theorem dX12_init_77 : decode cX12_init 77 = .ok (.dup, 1) := by decide +kernel
theorem dX12_init_78 : decode cX12_init 78 = .ok (.iconst 0, 1) := by decide +kernel
theorem dX12_init_79 : decode cX12_init 79 = .ok (.iconst (-1), 1) := by decide +kernel
theorem dX12_init_80 : decode cX12_init 80 = .ok (.iastore, 1) := by decide +kernel
theorem dX12_init_81 : decode cX12_init 81 = .ok (.dup, 1) := by decide +kernel
theorem dX12_init_82 : decode cX12_init 82 = .ok (.iconst 1, 1) := by decide +kernel
theorem dX12_init_83 : decode cX12_init 83 = .ok (.iconst (-1), 1) := by decide +kernel
theorem dX12_init_84 : decode cX12_init 84 = .ok (.iastore, 1) := by decide +kernel
theorem dX12_init_85 : decode cX12_init 85 = .ok (.dup, 1) := by decide +kernel
theorem dX12_init_86 : decode cX12_init 86 = .ok (.iconst 2, 1) := by decide +kernel
theorem dX12_init_87 : decode cX12_init 87 = .ok (.iconst (-1), 1) := by decide +kernel
theorem dX12_init_88 : decode cX12_init 88 = .ok (.iastore, 1) := by decide +kernel
theorem dX12_init_89 : decode cX12_init 89 = .ok (.dup, 1) := by decide +kernel
theorem dX12_init_90 : decode cX12_init 90 = .ok (.iconst 3, 1) := by decide +kernel
theorem dX12_init_91 : decode cX12_init 91 = .ok (.iconst (-1), 1) := by decide +kernel
theorem dX12_init_92 : decode cX12_init 92 = .ok (.iastore, 1) := by decide +kernel
theorem dX12_init_93 : decode cX12_init 93 = .ok (.putfield 37, 3) := by decide +kernel
theorem dX12_init_96 : decode cX12_init 96 = .ok (.aload_n 0, 1) := by decide +kernel
theorem dX12_init_97 : decode cX12_init 97 = .ok (.iconst 4, 1) := by decide +kernel
theorem dX12_init_98 : decode cX12_init 98 = .ok (.newarray .int, 2) := by decide +kernel
theorem dX12_init_100 : decode cX12_init 100 = .ok (.putfield 40, 3) := by decide +kernel
theorem dX12_init_103 : decode cX12_init 103 = .ok (.aload_n 0, 1) := by decide +kernel
theorem dX12_init_104 : decode cX12_init 104 = .ok (.sipush 160, 3) := by decide +kernel
theorem dX12_init_107 : decode cX12_init 107 = .ok (.newarray .int, 2) := by decide +kernel
theorem dX12_init_109 : decode cX12_init 109 = .ok (.putfield 43, 3) := by decide +kernel
theorem dX12_init_112 : decode cX12_init 112 = .ok (.aload_n 0, 1) := by decide +kernel
theorem dX12_init_113 : decode cX12_init 113 = .ok (.bipush 29, 2) := by decide +kernel
theorem dX12_init_115 : decode cX12_init 115 = .ok (.newarray .int, 2) := by decide +kernel
theorem dX12_init_117 : decode cX12_init 117 = .ok (.dup, 1) := by decide +kernel
theorem dX12_init_118 : decode cX12_init 118 = .ok (.iconst 0, 1) := by decide +kernel
theorem dX12_init_119 : decode cX12_init 119 = .ok (.bipush 98, 2) := by decide +kernel
theorem dX12_init_121 : decode cX12_init 121 = .ok (.iastore, 1) := by decide +kernel
theorem dX12_init_122 : decode cX12_init 122 = .ok (.dup, 1) := by decide +kernel
theorem dX12_init_123 : decode cX12_init 123 = .ok (.iconst 1, 1) := by decide +kernel
theorem dX12_init_124 : decode cX12_init 124 = .ok (.bipush 108, 2) := by decide +kernel
theorem dX12_init_126 : decode cX12_init 126 = .ok (.iastore, 1) := by decide +kernel
theorem dX12_init_127 : decode cX12_init 127 = .ok (.dup, 1) := by decide +kernel
theorem dX12_init_128 : decode cX12_init 128 = .ok (.iconst 2, 1) := by decide +kernel
theorem dX12_init_129 : decode cX12_init 129 = .ok (.bipush 111, 2) := by decide +kernel
theorem dX12_init_131 : decode cX12_init 131 = .ok (.iastore, 1) := by decide +kernel
theorem dX12_init_132 : decode cX12_init 132 = .ok (.dup, 1) := by decide +kernel
theorem dX12_init_133 : decode cX12_init 133 = .ok (.iconst 3, 1) := by decide +kernel
theorem dX12_init_134 : decode cX12_init 134 = .ok (.bipush 119, 2) := by decide +kernel
theorem dX12_init_136 : decode cX12_init 136 = .ok (.iastore, 1) := by decide +kernel
theorem dX12_init_137 : decode cX12_init 137 = .ok (.dup, 1) := by decide +kernel
theorem dX12_init_138 : decode cX12_init 138 = .ok (.iconst 4, 1) := by decide +kernel
theorem dX12_init_139 : decode cX12_init 139 = .ok (.bipush 115, 2) := by decide +kernel
theorem dX12_init_141 : decode cX12_init 141 = .ok (.iastore, 1) := by decide +kernel
theorem dX12_init_142 : decode cX12_init 142 = .ok (.dup, 1) := by decide +kernel
theorem dX12_init_143 : decode cX12_init 143 = .ok (.iconst 5, 1) := by decide +kernel
theorem dX12_init_144 : decode cX12_init 144 = .ok (.bipush 32, 2) := by decide +kernel
theorem dX12_init_146 : decode cX12_init 146 = .ok (.iastore, 1) := by decide +kernel
theorem dX12_init_147 : decode cX12_init 147 = .ok (.dup, 1) := by decide +kernel
theorem dX12_init_148 : decode cX12_init 148 = .ok (.bipush 6, 2) := by decide +kernel
theorem dX12_init_150 : decode cX12_init 150 = .ok (.bipush 52, 2) := by decide +kernel
theorem dX12_init_152 : decode cX12_init 152 = .ok (.iastore, 1) := by decide +kernel
theorem dX12_init_153 : decode cX12_init 153 = .ok (.dup, 1) := by decide +kernel
theorem dX12_init_154 : decode cX12_init 154 = .ok (.bipush 7, 2) := by decide +kernel
theorem dX12_init_156 : decode cX12_init 156 = .ok (.bipush 32, 2) := by decide +kernel
theorem dX12_init_158 : decode cX12_init 158 = .ok (.iastore, 1) := by decide +kernel
theorem dX12_init_159 : decode cX12_init 159 = .ok (.dup, 1) := by decide +kernel
theorem dX12_init_160 : decode cX12_init 160 = .ok (.bipush 8, 2) := by decide +kernel
theorem dX12_init_162 : decode cX12_init 162 = .ok (.bipush 59, 2) := by decide +kernel
theorem dX12_init_164 : decode cX12_init 164 = .ok (.iastore, 1) := by decide +kernel
theorem dX12_init_165 : decode cX12_init 165 = .ok (.dup, 1) := by decide +kernel
theorem dX12_init_166 : decode cX12_init 166 = .ok (.bipush 9, 2) := by decide +kernel
theorem dX12_init_168 : decode cX12_init 168 = .ok (.bipush 32, 2) := by decide +kernel
theorem dX12_init_170 : decode cX12_init 170 = .ok (.iastore, 1) := by decide +kernel
theorem dX12_init_171 : decode cX12_init 171 = .ok (.dup, 1) := by decide +kernel
theorem dX12_init_172 : decode cX12_init 172 = .ok (.bipush 10, 2) := by decide +kernel
theorem dX12_init_174 : decode cX12_init 174 = .ok (.bipush 119, 2) := by decide +kernel
theorem dX12_init_176 : decode cX12_init 176 = .ok (.iastore, 1) := by decide +kernel
theorem dX12_init_177 : decode cX12_init 177 = .ok (.dup, 1) := by decide +kernel
theorem dX12_init_178 : decode cX12_init 178 = .ok (.bipush 11, 2) := by decide +kernel
theorem dX12_init_180 : decode cX12_init 180 = .ok (.bipush 111, 2) := by decide +kernel
theorem dX12_init_182 : decode cX12_init 182 = .ok (.iastore, 1) := by decide +kernel
theorem dX12_init_183 : decode cX12_init 183 = .ok (.dup, 1) := by decide +kernel
theorem dX12_init_184 : decode cX12_init 184 = .ok (.bipush 12, 2) := by decide +kernel
theorem dX12_init_186 : decode cX12_init 186 = .ok (.bipush 114, 2) := by decide +kernel
theorem dX12_init_188 : decode cX12_init 188 = .ok (.iastore, 1) := by decide +kernel
theorem dX12_init_189 : decode cX12_init 189 = .ok (.dup, 1) := by decide +kernel
theorem dX12_init_190 : decode cX12_init 190 = .ok (.bipush 13, 2) := by decide +kernel
theorem dX12_init_192 : decode cX12_init 192 = .ok (.bipush 116, 2) := by decide +kernel
theorem dX12_init_194 : decode cX12_init 194 = .ok (.iastore, 1) := by decide +kernel
theorem dX12_init_195 : decode cX12_init 195 = .ok (.dup, 1) := by decide +kernel
theorem dX12_init_196 : decode cX12_init 196 = .ok (.bipush 14, 2) := by decide +kernel
theorem dX12_init_198 : decode cX12_init 198 = .ok (.bipush 104, 2) := by decide +kernel
theorem dX12_init_200 : decode cX12_init 200 = .ok (.iastore, 1) := by decide +kernel
theorem dX12_init_201 : decode cX12_init 201 = .ok (.dup, 1) := by decide +kernel
theorem dX12_init_202 : decode cX12_init 202 = .ok (.bipush 15, 2) := by decide +kernel
theorem dX12_init_204 : decode cX12_init 204 = .ok (.bipush 32, 2) := by decide +kernel
theorem dX12_init_206 : decode cX12_init 206 = .ok (.iastore, 1) := by decide +kernel
theorem dX12_init_207 : decode cX12_init 207 = .ok (.dup, 1) := by decide +kernel
theorem dX12_init_208 : decode cX12_init 208 = .ok (.bipush 16, 2) := by decide +kernel
theorem dX12_init_210 : decode cX12_init 210 = .ok (.bipush 53, 2) := by decide +kernel
theorem dX12_init_212 : decode cX12_init 212 = .ok (.iastore, 1) := by decide +kernel
theorem dX12_init_213 : decode cX12_init 213 = .ok (.dup, 1) := by decide +kernel
theorem dX12_init_214 : decode cX12_init 214 = .ok (.bipush 17, 2) := by decide +kernel
theorem dX12_init_216 : decode cX12_init 216 = .ok (.bipush 32, 2) := by decide +kernel
theorem dX12_init_218 : decode cX12_init 218 = .ok (.iastore, 1) := by decide +kernel
theorem dX12_init_219 : decode cX12_init 219 = .ok (.dup, 1) := by decide +kernel
theorem dX12_init_220 : decode cX12_init 220 = .ok (.bipush 18, 2) := by decide +kernel
theorem dX12_init_222 : decode cX12_init 222 = .ok (.bipush 59, 2) := by decide +kernel
theorem dX12_init_224 : decode cX12_init 224 = .ok (.iastore, 1) := by decide +kernel
theorem dX12_init_225 : decode cX12_init 225 = .ok (.dup, 1) := by decide +kernel
theorem dX12_init_226 : decode cX12_init 226 = .ok (.bipush 19, 2) := by decide +kernel
theorem dX12_init_228 : decode cX12_init 228 = .ok (.bipush 32, 2) := by decide +kernel
theorem dX12_init_230 : decode cX12_init 230 = .ok (.iastore, 1) := by decide +kernel
theorem dX12_init_231 : decode cX12_init 231 = .ok (.dup, 1) := by decide +kernel
theorem dX12_init_232 : decode cX12_init 232 = .ok (.bipush 20, 2) := by decide +kernel
theorem dX12_init_234 : decode cX12_init 234 = .ok (.bipush 104, 2) := by decide +kernel
theorem dX12_init_236 : decode cX12_init 236 = .ok (.iastore, 1) := by decide +kernel
theorem dX12_init_237 : decode cX12_init 237 = .ok (.dup, 1) := by decide +kernel
theorem dX12_init_238 : decode cX12_init 238 = .ok (.bipush 21, 2) := by decide +kernel
theorem dX12_init_240 : decode cX12_init 240 = .ok (.bipush 97, 2) := by decide +kernel
theorem dX12_init_242 : decode cX12_init 242 = .ok (.iastore, 1) := by decide +kernel
theorem dX12_init_243 : decode cX12_init 243 = .ok (.dup, 1) := by decide +kernel
theorem dX12_init_244 : decode cX12_init 244 = .ok (.bipush 22, 2) := by decide +kernel
theorem dX12_init_246 : decode cX12_init 246 = .ok (.bipush 110, 2) := by decide +kernel
theorem dX12_init_248 : decode cX12_init 248 = .ok (.iastore, 1) := by decide +kernel
theorem dX12_init_249 : decode cX12_init 249 = .ok (.dup, 1) := by decide +kernel
theorem dX12_init_250 : decode cX12_init 250 = .ok (.bipush 23, 2) := by decide +kernel
theorem dX12_init_252 : decode cX12_init 252 = .ok (.bipush 100, 2) := by decide +kernel
theorem dX12_init_254 : decode cX12_init 254 = .ok (.iastore, 1) := by decide +kernel
theorem dX12_init_255 : decode cX12_init 255 = .ok (.dup, 1) := by decide +kernel
theorem dX12_init_256 : decode cX12_init 256 = .ok (.bipush 24, 2) := by decide +kernel
theorem dX12_init_258 : decode cX12_init 258 = .ok (.bipush 115, 2) := by decide +kernel
theorem dX12_init_260 : decode cX12_init 260 = .ok (.iastore, 1) := by decide +kernel
theorem dX12_init_261 : decode cX12_init 261 = .ok (.dup, 1) := by decide +kernel
theorem dX12_init_262 : decode cX12_init 262 = .ok (.bipush 25, 2) := by decide +kernel
theorem dX12_init_264 : decode cX12_init 264 = .ok (.bipush 32, 2) := by decide +kernel
theorem dX12_init_266 : decode cX12_init 266 = .ok (.iastore, 1) := by decide +kernel
theorem dX12_init_267 : decode cX12_init 267 = .ok (.dup, 1) := by decide +kernel
theorem dX12_init_268 : decode cX12_init 268 = .ok (.bipush 26, 2) := by decide +kernel
theorem dX12_init_270 : decode cX12_init 270 = .ok (.bipush 49, 2) := by decide +kernel
theorem dX12_init_272 : decode cX12_init 272 = .ok (.iastore, 1) := by decide +kernel
theorem dX12_init_273 : decode cX12_init 273 = .ok (.dup, 1) := by decide +kernel
theorem dX12_init_274 : decode cX12_init 274 = .ok (.bipush 27, 2) := by decide +kernel
theorem dX12_init_276 : decode cX12_init 276 = .ok (.bipush 32, 2) := by decide +kernel
theorem dX12_init_278 : decode cX12_init 278 = .ok (.iastore, 1) := by decide +kernel
theorem dX12_init_279 : decode cX12_init 279 = .ok (.dup, 1) := by decide +kernel
theorem dX12_init_280 : decode cX12_init 280 = .ok (.bipush 28, 2) := by decide +kernel
theorem dX12_init_282 : decode cX12_init 282 = .ok (.bipush 59, 2) := by decide +kernel
theorem dX12_init_284 : decode cX12_init 284 = .ok (.iastore, 1) := by decide +kernel
theorem dX12_init_285 : decode cX12_init 285 = .ok (.putfield 46, 3) := by decide +kernel
theorem dX12_init_288 : decode cX12_init 288 = .ok (.aload_n 0, 1) := by decide +kernel
theorem dX12_init_289 : decode cX12_init 289 = .ok (.bipush 96, 2) := by decide +kernel
theorem dX12_init_291 : decode cX12_init 291 = .ok (.newarray .int, 2) := by decide +kernel
theorem dX12_init_293 : decode cX12_init 293 = .ok (.dup, 1) := by decide +kernel
theorem dX12_init_294 : decode cX12_init 294 = .ok (.iconst 0, 1) := by decide +kernel
theorem dX12_init_295 : decode cX12_init 295 = .ok (.bipush 98, 2) := by decide +kernel
theorem dX12_init_297 : decode cX12_init 297 = .ok (.iastore, 1) := by decide +kernel
theorem dX12_init_298 : decode cX12_init 298 = .ok (.dup, 1) := by decide +kernel
theorem dX12_init_299 : decode cX12_init 299 = .ok (.iconst 1, 1) := by decide +kernel
theorem dX12_init_300 : decode cX12_init 300 = .ok (.bipush 108, 2) := by decide +kernel
theorem dX12_init_302 : decode cX12_init 302 = .ok (.iastore, 1) := by decide +kernel
theorem dX12_init_303 : decode cX12_init 303 = .ok (.dup, 1) := by decide +kernel
theorem dX12_init_304 : decode cX12_init 304 = .ok (.iconst 2, 1) := by decide +kernel
theorem dX12_init_305 : decode cX12_init 305 = .ok (.bipush 111, 2) := by decide +kernel
theorem dX12_init_307 : decode cX12_init 307 = .ok (.iastore, 1) := by decide +kernel
theorem dX12_init_308 : decode cX12_init 308 = .ok (.dup, 1) := by decide +kernel
theorem dX12_init_309 : decode cX12_init 309 = .ok (.iconst 3, 1) := by decide +kernel
theorem dX12_init_310 : decode cX12_init 310 = .ok (.bipush 119, 2) := by decide +kernel
theorem dX12_init_312 : decode cX12_init 312 = .ok (.iastore, 1) := by decide +kernel
theorem dX12_init_313 : decode cX12_init 313 = .ok (.dup, 1) := by decide +kernel
theorem dX12_init_314 : decode cX12_init 314 = .ok (.iconst 4, 1) := by decide +kernel
theorem dX12_init_315 : decode cX12_init 315 = .ok (.bipush 115, 2) := by decide +kernel
theorem dX12_init_317 : decode cX12_init 317 = .ok (.iastore, 1) := by decide +kernel
theorem dX12_init_318 : decode cX12_init 318 = .ok (.dup, 1) := by decide +kernel
theorem dX12_init_319 : decode cX12_init 319 = .ok (.iconst 5, 1) := by decide +kernel
theorem dX12_init_320 : decode cX12_init 320 = .ok (.bipush 32, 2) := by decide +kernel
theorem dX12_init_322 : decode cX12_init 322 = .ok (.iastore, 1) := by decide +kernel
theorem dX12_init_323 : decode cX12_init 323 = .ok (.dup, 1) := by decide +kernel
theorem dX12_init_324 : decode cX12_init 324 = .ok (.bipush 6, 2) := by decide +kernel
theorem dX12_init_326 : decode cX12_init 326 = .ok (.bipush 32, 2) := by decide +kernel
theorem dX12_init_328 : decode cX12_init 328 = .ok (.iastore, 1) := by decide +kernel
theorem dX12_init_329 : decode cX12_init 329 = .ok (.dup, 1) := by decide +kernel
theorem dX12_init_330 : decode cX12_init 330 = .ok (.bipush 7, 2) := by decide +kernel
theorem dX12_init_332 : decode cX12_init 332 = .ok (.bipush 32, 2) := by decide +kernel
theorem dX12_init_334 : decode cX12_init 334 = .ok (.iastore, 1) := by decide +kernel
theorem dX12_init_335 : decode cX12_init 335 = .ok (.dup, 1) := by decide +kernel
theorem dX12_init_336 : decode cX12_init 336 = .ok (.bipush 8, 2) := by decide +kernel
theorem dX12_init_338 : decode cX12_init 338 = .ok (.bipush 119, 2) := by decide +kernel
theorem dX12_init_340 : decode cX12_init 340 = .ok (.iastore, 1) := by decide +kernel
theorem dX12_init_341 : decode cX12_init 341 = .ok (.dup, 1) := by decide +kernel
theorem dX12_init_342 : decode cX12_init 342 = .ok (.bipush 9, 2) := by decide +kernel
theorem dX12_init_344 : decode cX12_init 344 = .ok (.bipush 111, 2) := by decide +kernel
theorem dX12_init_346 : decode cX12_init 346 = .ok (.iastore, 1) := by decide +kernel
theorem dX12_init_347 : decode cX12_init 347 = .ok (.dup, 1) := by decide +kernel
theorem dX12_init_348 : decode cX12_init 348 = .ok (.bipush 10, 2) := by decide +kernel
theorem dX12_init_350 : decode cX12_init 350 = .ok (.bipush 114, 2) := by decide +kernel
theorem dX12_init_352 : decode cX12_init 352 = .ok (.iastore, 1) := by decide +kernel
theorem dX12_init_353 : decode cX12_init 353 = .ok (.dup, 1) := by decide +kernel
theorem dX12_init_354 : decode cX12_init 354 = .ok (.bipush 11, 2) := by decide +kernel
theorem dX12_init_356 : decode cX12_init 356 = .ok (.bipush 116, 2) := by decide +kernel
theorem dX12_init_358 : decode cX12_init 358 = .ok (.iastore, 1) := by decide +kernel
theorem dX12_init_359 : decode cX12_init 359 = .ok (.dup, 1) := by decide +kernel
theorem dX12_init_360 : decode cX12_init 360 = .ok (.bipush 12, 2) := by decide +kernel
theorem dX12_init_362 : decode cX12_init 362 = .ok (.bipush 104, 2) := by decide +kernel
theorem dX12_init_364 : decode cX12_init 364 = .ok (.iastore, 1) := by decide +kernel
theorem dX12_init_365 : decode cX12_init 365 = .ok (.dup, 1) := by decide +kernel
theorem dX12_init_366 : decode cX12_init 366 = .ok (.bipush 13, 2) := by decide +kernel
theorem dX12_init_368 : decode cX12_init 368 = .ok (.bipush 32, 2) := by decide +kernel
theorem dX12_init_370 : decode cX12_init 370 = .ok (.iastore, 1) := by decide +kernel
theorem dX12_init_371 : decode cX12_init 371 = .ok (.dup, 1) := by decide +kernel
theorem dX12_init_372 : decode cX12_init 372 = .ok (.bipush 14, 2) := by decide +kernel
theorem dX12_init_374 : decode cX12_init 374 = .ok (.bipush 32, 2) := by decide +kernel
theorem dX12_init_376 : decode cX12_init 376 = .ok (.iastore, 1) := by decide +kernel
theorem dX12_init_377 : decode cX12_init 377 = .ok (.dup, 1) := by decide +kernel
theorem dX12_init_378 : decode cX12_init 378 = .ok (.bipush 15, 2) := by decide +kernel
theorem dX12_init_380 : decode cX12_init 380 = .ok (.bipush 32, 2) := by decide +kernel
theorem dX12_init_382 : decode cX12_init 382 = .ok (.iastore, 1) := by decide +kernel
theorem dX12_init_383 : decode cX12_init 383 = .ok (.dup, 1) := by decide +kernel
theorem dX12_init_384 : decode cX12_init 384 = .ok (.bipush 16, 2) := by decide +kernel
theorem dX12_init_386 : decode cX12_init 386 = .ok (.bipush 104, 2) := by decide +kernel
theorem dX12_init_388 : decode cX12_init 388 = .ok (.iastore, 1) := by decide +kernel
theorem dX12_init_389 : decode cX12_init 389 = .ok (.dup, 1) := by decide +kernel
theorem dX12_init_390 : decode cX12_init 390 = .ok (.bipush 17, 2) := by decide +kernel
theorem dX12_init_392 : decode cX12_init 392 = .ok (.bipush 97, 2) := by decide +kernel
theorem dX12_init_394 : decode cX12_init 394 = .ok (.iastore, 1) := by decide +kernel
theorem dX12_init_395 : decode cX12_init 395 = .ok (.dup, 1) := by decide +kernel
theorem dX12_init_396 : decode cX12_init 396 = .ok (.bipush 18, 2) := by decide +kernel
theorem dX12_init_398 : decode cX12_init 398 = .ok (.bipush 110, 2) := by decide +kernel
theorem dX12_init_400 : decode cX12_init 400 = .ok (.iastore, 1) := by decide +kernel
theorem dX12_init_401 : decode cX12_init 401 = .ok (.dup, 1) := by decide +kernel
theorem dX12_init_402 : decode cX12_init 402 = .ok (.bipush 19, 2) := by decide +kernel
theorem dX12_init_404 : decode cX12_init 404 = .ok (.bipush 100, 2) := by decide +kernel
theorem dX12_init_406 : decode cX12_init 406 = .ok (.iastore, 1) := by decide +kernel
theorem dX12_init_407 : decode cX12_init 407 = .ok (.dup, 1) := by decide +kernel
theorem dX12_init_408 : decode cX12_init 408 = .ok (.bipush 20, 2) := by decide +kernel
theorem dX12_init_410 : decode cX12_init 410 = .ok (.bipush 115, 2) := by decide +kernel
theorem dX12_init_412 : decode cX12_init 412 = .ok (.iastore, 1) := by decide +kernel
theorem dX12_init_413 : decode cX12_init 413 = .ok (.dup, 1) := by decide +kernel
theorem dX12_init_414 : decode cX12_init 414 = .ok (.bipush 21, 2) := by decide +kernel
theorem dX12_init_416 : decode cX12_init 416 = .ok (.bipush 32, 2) := by decide +kernel
theorem dX12_init_418 : decode cX12_init 418 = .ok (.iastore, 1) := by decide +kernel
theorem dX12_init_419 : decode cX12_init 419 = .ok (.dup, 1) := by decide +kernel
theorem dX12_init_420 : decode cX12_init 420 = .ok (.bipush 22, 2) := by decide +kernel
theorem dX12_init_422 : decode cX12_init 422 = .ok (.bipush 32, 2) := by decide +kernel
theorem dX12_init_424 : decode cX12_init 424 = .ok (.iastore, 1) := by decide +kernel
theorem dX12_init_425 : decode cX12_init 425 = .ok (.dup, 1) := by decide +kernel
theorem dX12_init_426 : decode cX12_init 426 = .ok (.bipush 23, 2) := by decide +kernel
theorem dX12_init_428 : decode cX12_init 428 = .ok (.bipush 32, 2) := by decide +kernel
theorem dX12_init_430 : decode cX12_init 430 = .ok (.iastore, 1) := by decide +kernel
theorem dX12_init_431 : decode cX12_init 431 = .ok (.dup, 1) := by decide +kernel
theorem dX12_init_432 : decode cX12_init 432 = .ok (.bipush 24, 2) := by decide +kernel
theorem dX12_init_434 : decode cX12_init 434 = .ok (.bipush 99, 2) := by decide +kernel
theorem dX12_init_436 : decode cX12_init 436 = .ok (.iastore, 1) := by decide +kernel
theorem dX12_init_437 : decode cX12_init 437 = .ok (.dup, 1) := by decide +kernel
theorem dX12_init_438 : decode cX12_init 438 = .ok (.bipush 25, 2) := by decide +kernel
theorem dX12_init_440 : decode cX12_init 440 = .ok (.bipush 101, 2) := by decide +kernel
theorem dX12_init_442 : decode cX12_init 442 = .ok (.iastore, 1) := by decide +kernel
theorem dX12_init_443 : decode cX12_init 443 = .ok (.dup, 1) := by decide +kernel
theorem dX12_init_444 : decode cX12_init 444 = .ok (.bipush 26, 2) := by decide +kernel
theorem dX12_init_446 : decode cX12_init 446 = .ok (.bipush 108, 2) := by decide +kernel
theorem dX12_init_448 : decode cX12_init 448 = .ok (.iastore, 1) := by decide +kernel
theorem dX12_init_449 : decode cX12_init 449 = .ok (.dup, 1) := by decide +kernel
theorem dX12_init_450 : decode cX12_init 450 = .ok (.bipush 27, 2) := by decide +kernel
theorem dX12_init_452 : decode cX12_init 452 = .ok (.bipush 108, 2) := by decide +kernel
theorem dX12_init_454 : decode cX12_init 454 = .ok (.iastore, 1) := by decide +kernel
theorem dX12_init_455 : decode cX12_init 455 = .ok (.dup, 1) := by decide +kernel
theorem dX12_init_456 : decode cX12_init 456 = .ok (.bipush 28, 2) := by decide +kernel
theorem dX12_init_458 : decode cX12_init 458 = .ok (.bipush 32, 2) := by decide +kernel
theorem dX12_init_460 : decode cX12_init 460 = .ok (.iastore, 1) := by decide +kernel
theorem dX12_init_461 : decode cX12_init 461 = .ok (.dup, 1) := by decide +kernel
theorem dX12_init_462 : decode cX12_init 462 = .ok (.bipush 29, 2) := by decide +kernel
theorem dX12_init_464 : decode cX12_init 464 = .ok (.bipush 32, 2) := by decide +kernel
theorem dX12_init_466 : decode cX12_init 466 = .ok (.iastore, 1) := by decide +kernel
theorem dX12_init_467 : decode cX12_init 467 = .ok (.dup, 1) := by decide +kernel
theorem dX12_init_468 : decode cX12_init 468 = .ok (.bipush 30, 2) := by decide +kernel
theorem dX12_init_470 : decode cX12_init 470 = .ok (.bipush 32, 2) := by decide +kernel
theorem dX12_init_472 : decode cX12_init 472 = .ok (.iastore, 1) := by decide +kernel
theorem dX12_init_473 : decode cX12_init 473 = .ok (.dup, 1) := by decide +kernel
theorem dX12_init_474 : decode cX12_init 474 = .ok (.bipush 31, 2) := by decide +kernel
theorem dX12_init_476 : decode cX12_init 476 = .ok (.bipush 32, 2) := by decide +kernel
theorem dX12_init_478 : decode cX12_init 478 = .ok (.iastore, 1) := by decide +kernel
theorem dX12_init_479 : decode cX12_init 479 = .ok (.dup, 1) := by decide +kernel
theorem dX12_init_480 : decode cX12_init 480 = .ok (.bipush 32, 2) := by decide +kernel
theorem dX12_init_482 : decode cX12_init 482 = .ok (.bipush 120, 2) := by decide +kernel
theorem dX12_init_484 : decode cX12_init 484 = .ok (.iastore, 1) := by decide +kernel
theorem dX12_init_485 : decode cX12_init 485 = .ok (.dup, 1) := by decide +kernel
theorem dX12_init_486 : decode cX12_init 486 = .ok (.bipush 33, 2) := by decide +kernel
theorem dX12_init_488 : decode cX12_init 488 = .ok (.bipush 32, 2) := by decide +kernel
theorem dX12_init_490 : decode cX12_init 490 = .ok (.iastore, 1) := by decide +kernel
theorem dX12_init_491 : decode cX12_init 491 = .ok (.dup, 1) := by decide +kernel
theorem dX12_init_492 : decode cX12_init 492 = .ok (.bipush 34, 2) := by decide +kernel
theorem dX12_init_494 : decode cX12_init 494 = .ok (.bipush 32, 2) := by decide +kernel
theorem dX12_init_496 : decode cX12_init 496 = .ok (.iastore, 1) := by decide +kernel
theorem dX12_init_497 : decode cX12_init 497 = .ok (.dup, 1) := by decide +kernel
theorem dX12_init_498 : decode cX12_init 498 = .ok (.bipush 35, 2) := by decide +kernel
theorem dX12_init_500 : decode cX12_init 500 = .ok (.bipush 32, 2) := by decide +kernel
theorem dX12_init_502 : decode cX12_init 502 = .ok (.iastore, 1) := by decide +kernel
theorem dX12_init_503 : decode cX12_init 503 = .ok (.dup, 1) := by decide +kernel
theorem dX12_init_504 : decode cX12_init 504 = .ok (.bipush 36, 2) := by decide +kernel
theorem dX12_init_506 : decode cX12_init 506 = .ok (.bipush 32, 2) := by decide +kernel
theorem dX12_init_508 : decode cX12_init 508 = .ok (.iastore, 1) := by decide +kernel
theorem dX12_init_509 : decode cX12_init 509 = .ok (.dup, 1) := by decide +kernel
theorem dX12_init_510 : decode cX12_init 510 = .ok (.bipush 37, 2) := by decide +kernel
theorem dX12_init_512 : decode cX12_init 512 = .ok (.bipush 32, 2) := by decide +kernel
theorem dX12_init_514 : decode cX12_init 514 = .ok (.iastore, 1) := by decide +kernel
theorem dX12_init_515 : decode cX12_init 515 = .ok (.dup, 1) := by decide +kernel
theorem dX12_init_516 : decode cX12_init 516 = .ok (.bipush 38, 2) := by decide +kernel
theorem dX12_init_518 : decode cX12_init 518 = .ok (.bipush 32, 2) := by decide +kernel
theorem dX12_init_520 : decode cX12_init 520 = .ok (.iastore, 1) := by decide +kernel
theorem dX12_init_521 : decode cX12_init 521 = .ok (.dup, 1) := by decide +kernel
theorem dX12_init_522 : decode cX12_init 522 = .ok (.bipush 39, 2) := by decide +kernel
theorem dX12_init_524 : decode cX12_init 524 = .ok (.bipush 32, 2) := by decide +kernel
theorem dX12_init_526 : decode cX12_init 526 = .ok (.iastore, 1) := by decide +kernel
theorem dX12_init_527 : decode cX12_init 527 = .ok (.dup, 1) := by decide +kernel
theorem dX12_init_528 : decode cX12_init 528 = .ok (.bipush 40, 2) := by decide +kernel
theorem dX12_init_530 : decode cX12_init 530 = .ok (.bipush 121, 2) := by decide +kernel
theorem dX12_init_532 : decode cX12_init 532 = .ok (.iastore, 1) := by decide +kernel
theorem dX12_init_533 : decode cX12_init 533 = .ok (.dup, 1) := by decide +kernel
theorem dX12_init_534 : decode cX12_init 534 = .ok (.bipush 41, 2) := by decide +kernel
theorem dX12_init_536 : decode cX12_init 536 = .ok (.bipush 32, 2) := by decide +kernel
theorem dX12_init_538 : decode cX12_init 538 = .ok (.iastore, 1) := by decide +kernel
theorem dX12_init_539 : decode cX12_init 539 = .ok (.dup, 1) := by decide +kernel
theorem dX12_init_540 : decode cX12_init 540 = .ok (.bipush 42, 2) := by decide +kernel
theorem dX12_init_542 : decode cX12_init 542 = .ok (.bipush 32, 2) := by decide +kernel
theorem dX12_init_544 : decode cX12_init 544 = .ok (.iastore, 1) := by decide +kernel
theorem dX12_init_545 : decode cX12_init 545 = .ok (.dup, 1) := by decide +kernel
theorem dX12_init_546 : decode cX12_init 546 = .ok (.bipush 43, 2) := by decide +kernel
theorem dX12_init_548 : decode cX12_init 548 = .ok (.bipush 32, 2) := by decide +kernel
theorem dX12_init_550 : decode cX12_init 550 = .ok (.iastore, 1) := by decide +kernel
theorem dX12_init_551 : decode cX12_init 551 = .ok (.dup, 1) := by decide +kernel
theorem dX12_init_552 : decode cX12_init 552 = .ok (.bipush 44, 2) := by decide +kernel
theorem dX12_init_554 : decode cX12_init 554 = .ok (.bipush 32, 2) := by decide +kernel
theorem dX12_init_556 : decode cX12_init 556 = .ok (.iastore, 1) := by decide +kernel
theorem dX12_init_557 : decode cX12_init 557 = .ok (.dup, 1) := by decide +kernel
theorem dX12_init_558 : decode cX12_init 558 = .ok (.bipush 45, 2) := by decide +kernel
theorem dX12_init_560 : decode cX12_init 560 = .ok (.bipush 32, 2) := by decide +kernel
theorem dX12_init_562 : decode cX12_init 562 = .ok (.iastore, 1) := by decide +kernel
theorem dX12_init_563 : decode cX12_init 563 = .ok (.dup, 1) := by decide +kernel
theorem dX12_init_564 : decode cX12_init 564 = .ok (.bipush 46, 2) := by decide +kernel
theorem dX12_init_566 : decode cX12_init 566 = .ok (.bipush 32, 2) := by decide +kernel
theorem dX12_init_568 : decode cX12_init 568 = .ok (.iastore, 1) := by decide +kernel
theorem dX12_init_569 : decode cX12_init 569 = .ok (.dup, 1) := by decide +kernel
theorem dX12_init_570 : decode cX12_init 570 = .ok (.bipush 47, 2) := by decide +kernel
theorem dX12_init_572 : decode cX12_init 572 = .ok (.bipush 32, 2) := by decide +kernel
theorem dX12_init_574 : decode cX12_init 574 = .ok (.iastore, 1) := by decide +kernel
theorem dX12_init_575 : decode cX12_init 575 = .ok (.dup, 1) := by decide +kernel
theorem dX12_init_576 : decode cX12_init 576 = .ok (.bipush 48, 2) := by decide +kernel
theorem dX12_init_578 : decode cX12_init 578 = .ok (.bipush 115, 2) := by decide +kernel
theorem dX12_init_580 : decode cX12_init 580 = .ok (.iastore, 1) := by decide +kernel
theorem dX12_init_581 : decode cX12_init 581 = .ok (.dup, 1) := by decide +kernel
theorem dX12_init_582 : decode cX12_init 582 = .ok (.bipush 49, 2) := by decide +kernel
theorem dX12_init_584 : decode cX12_init 584 = .ok (.bipush 116, 2) := by decide +kernel
theorem dX12_init_586 : decode cX12_init 586 = .ok (.iastore, 1) := by decide +kernel
theorem dX12_init_587 : decode cX12_init 587 = .ok (.dup, 1) := by decide +kernel
theorem dX12_init_588 : decode cX12_init 588 = .ok (.bipush 50, 2) := by decide +kernel
theorem dX12_init_590 : decode cX12_init 590 = .ok (.bipush 101, 2) := by decide +kernel
theorem dX12_init_592 : decode cX12_init 592 = .ok (.iastore, 1) := by decide +kernel
theorem dX12_init_593 : decode cX12_init 593 = .ok (.dup, 1) := by decide +kernel
theorem dX12_init_594 : decode cX12_init 594 = .ok (.bipush 51, 2) := by decide +kernel
theorem dX12_init_596 : decode cX12_init 596 = .ok (.bipush 112, 2) := by decide +kernel
theorem dX12_init_598 : decode cX12_init 598 = .ok (.iastore, 1) := by decide +kernel
theorem dX12_init_599 : decode cX12_init 599 = .ok (.dup, 1) := by decide +kernel
theorem dX12_init_600 : decode cX12_init 600 = .ok (.bipush 52, 2) := by decide +kernel
theorem dX12_init_602 : decode cX12_init 602 = .ok (.bipush 32, 2) := by decide +kernel
theorem dX12_init_604 : decode cX12_init 604 = .ok (.iastore, 1) := by decide +kernel
theorem dX12_init_605 : decode cX12_init 605 = .ok (.dup, 1) := by decide +kernel
theorem dX12_init_606 : decode cX12_init 606 = .ok (.bipush 53, 2) := by decide +kernel
theorem dX12_init_608 : decode cX12_init 608 = .ok (.bipush 32, 2) := by decide +kernel
theorem dX12_init_610 : decode cX12_init 610 = .ok (.iastore, 1) := by decide +kernel
theorem dX12_init_611 : decode cX12_init 611 = .ok (.dup, 1) := by decide +kernel
theorem dX12_init_612 : decode cX12_init 612 = .ok (.bipush 54, 2) := by decide +kernel
theorem dX12_init_614 : decode cX12_init 614 = .ok (.bipush 32, 2) := by decide +kernel
theorem dX12_init_616 : decode cX12_init 616 = .ok (.iastore, 1) := by decide +kernel
theorem dX12_init_617 : decode cX12_init 617 = .ok (.dup, 1) := by decide +kernel
theorem dX12_init_618 : decode cX12_init 618 = .ok (.bipush 55, 2) := by decide +kernel
theorem dX12_init_620 : decode cX12_init 620 = .ok (.bipush 32, 2) := by decide +kernel
theorem dX12_init_622 : decode cX12_init 622 = .ok (.iastore, 1) := by decide +kernel
theorem dX12_init_623 : decode cX12_init 623 = .ok (.dup, 1) := by decide +kernel
theorem dX12_init_624 : decode cX12_init 624 = .ok (.bipush 56, 2) := by decide +kernel
theorem dX12_init_626 : decode cX12_init 626 = .ok (.bipush 116, 2) := by decide +kernel
theorem dX12_init_628 : decode cX12_init 628 = .ok (.iastore, 1) := by decide +kernel
theorem dX12_init_629 : decode cX12_init 629 = .ok (.dup, 1) := by decide +kernel
theorem dX12_init_630 : decode cX12_init 630 = .ok (.bipush 57, 2) := by decide +kernel
theorem dX12_init_632 : decode cX12_init 632 = .ok (.bipush 104, 2) := by decide +kernel
theorem dX12_init_634 : decode cX12_init 634 = .ok (.iastore, 1) := by decide +kernel
theorem dX12_init_635 : decode cX12_init 635 = .ok (.dup, 1) := by decide +kernel
theorem dX12_init_636 : decode cX12_init 636 = .ok (.bipush 58, 2) := by decide +kernel
theorem dX12_init_638 : decode cX12_init 638 = .ok (.bipush 105, 2) := by decide +kernel
theorem dX12_init_640 : decode cX12_init 640 = .ok (.iastore, 1) := by decide +kernel
theorem dX12_init_641 : decode cX12_init 641 = .ok (.dup, 1) := by decide +kernel
theorem dX12_init_642 : decode cX12_init 642 = .ok (.bipush 59, 2) := by decide +kernel
theorem dX12_init_644 : decode cX12_init 644 = .ok (.bipush 110, 2) := by decide +kernel
theorem dX12_init_646 : decode cX12_init 646 = .ok (.iastore, 1) := by decide +kernel
theorem dX12_init_647 : decode cX12_init 647 = .ok (.dup, 1) := by decide +kernel
theorem dX12_init_648 : decode cX12_init 648 = .ok (.bipush 60, 2) := by decide +kernel
theorem dX12_init_650 : decode cX12_init 650 = .ok (.bipush 103, 2) := by decide +kernel
theorem dX12_init_652 : decode cX12_init 652 = .ok (.iastore, 1) := by decide +kernel
theorem dX12_init_653 : decode cX12_init 653 = .ok (.dup, 1) := by decide +kernel
theorem dX12_init_654 : decode cX12_init 654 = .ok (.bipush 61, 2) := by decide +kernel
theorem dX12_init_656 : decode cX12_init 656 = .ok (.bipush 32, 2) := by decide +kernel
theorem dX12_init_658 : decode cX12_init 658 = .ok (.iastore, 1) := by decide +kernel
theorem dX12_init_659 : decode cX12_init 659 = .ok (.dup, 1) := by decide +kernel
theorem dX12_init_660 : decode cX12_init 660 = .ok (.bipush 62, 2) := by decide +kernel
theorem dX12_init_662 : decode cX12_init 662 = .ok (.bipush 32, 2) := by decide +kernel
theorem dX12_init_664 : decode cX12_init 664 = .ok (.iastore, 1) := by decide +kernel
theorem dX12_init_665 : decode cX12_init 665 = .ok (.dup, 1) := by decide +kernel
theorem dX12_init_666 : decode cX12_init 666 = .ok (.bipush 63, 2) := by decide +kernel
theorem dX12_init_668 : decode cX12_init 668 = .ok (.bipush 32, 2) := by decide +kernel
theorem dX12_init_670 : decode cX12_init 670 = .ok (.iastore, 1) := by decide +kernel
theorem dX12_init_671 : decode cX12_init 671 = .ok (.dup, 1) := by decide +kernel
theorem dX12_init_672 : decode cX12_init 672 = .ok (.bipush 64, 2) := by decide +kernel
theorem dX12_init_674 : decode cX12_init 674 = .ok (.bipush 109, 2) := by decide +kernel
theorem dX12_init_676 : decode cX12_init 676 = .ok (.iastore, 1) := by decide +kernel
theorem dX12_init_677 : decode cX12_init 677 = .ok (.dup, 1) := by decide +kernel
theorem dX12_init_678 : decode cX12_init 678 = .ok (.bipush 65, 2) := by decide +kernel
theorem dX12_init_680 : decode cX12_init 680 = .ok (.bipush 111, 2) := by decide +kernel
theorem dX12_init_682 : decode cX12_init 682 = .ok (.iastore, 1) := by decide +kernel
theorem dX12_init_683 : decode cX12_init 683 = .ok (.dup, 1) := by decide +kernel
theorem dX12_init_684 : decode cX12_init 684 = .ok (.bipush 66, 2) := by decide +kernel
theorem dX12_init_686 : decode cX12_init 686 = .ok (.bipush 114, 2) := by decide +kernel
theorem dX12_init_688 : decode cX12_init 688 = .ok (.iastore, 1) := by decide +kernel
theorem dX12_init_689 : decode cX12_init 689 = .ok (.dup, 1) := by decide +kernel
theorem dX12_init_690 : decode cX12_init 690 = .ok (.bipush 67, 2) := by decide +kernel
theorem dX12_init_692 : decode cX12_init 692 = .ok (.bipush 101, 2) := by decide +kernel
theorem dX12_init_694 : decode cX12_init 694 = .ok (.iastore, 1) := by decide +kernel
theorem dX12_init_695 : decode cX12_init 695 = .ok (.dup, 1) := by decide +kernel
theorem dX12_init_696 : decode cX12_init 696 = .ok (.bipush 68, 2) := by decide +kernel
theorem dX12_init_698 : decode cX12_init 698 = .ok (.bipush 32, 2) := by decide +kernel
theorem dX12_init_700 : decode cX12_init 700 = .ok (.iastore, 1) := by decide +kernel
theorem dX12_init_701 : decode cX12_init 701 = .ok (.dup, 1) := by decide +kernel
theorem dX12_init_702 : decode cX12_init 702 = .ok (.bipush 69, 2) := by decide +kernel
theorem dX12_init_704 : decode cX12_init 704 = .ok (.bipush 32, 2) := by decide +kernel
theorem dX12_init_706 : decode cX12_init 706 = .ok (.iastore, 1) := by decide +kernel
theorem dX12_init_707 : decode cX12_init 707 = .ok (.dup, 1) := by decide +kernel
theorem dX12_init_708 : decode cX12_init 708 = .ok (.bipush 70, 2) := by decide +kernel
theorem dX12_init_710 : decode cX12_init 710 = .ok (.bipush 32, 2) := by decide +kernel
theorem dX12_init_712 : decode cX12_init 712 = .ok (.iastore, 1) := by decide +kernel
theorem dX12_init_713 : decode cX12_init 713 = .ok (.dup, 1) := by decide +kernel
theorem dX12_init_714 : decode cX12_init 714 = .ok (.bipush 71, 2) := by decide +kernel
theorem dX12_init_716 : decode cX12_init 716 = .ok (.bipush 32, 2) := by decide +kernel
theorem dX12_init_718 : decode cX12_init 718 = .ok (.iastore, 1) := by decide +kernel
theorem dX12_init_719 : decode cX12_init 719 = .ok (.dup, 1) := by decide +kernel
theorem dX12_init_720 : decode cX12_init 720 = .ok (.bipush 72, 2) := by decide +kernel
theorem dX12_init_722 : decode cX12_init 722 = .ok (.bipush 111, 2) := by decide +kernel
theorem dX12_init_724 : decode cX12_init 724 = .ok (.iastore, 1) := by decide +kernel
theorem dX12_init_725 : decode cX12_init 725 = .ok (.dup, 1) := by decide +kernel
theorem dX12_init_726 : decode cX12_init 726 = .ok (.bipush 73, 2) := by decide +kernel
theorem dX12_init_728 : decode cX12_init 728 = .ok (.bipush 114, 2) := by decide +kernel
theorem dX12_init_730 : decode cX12_init 730 = .ok (.iastore, 1) := by decide +kernel
theorem dX12_init_731 : decode cX12_init 731 = .ok (.dup, 1) := by decide +kernel
theorem dX12_init_732 : decode cX12_init 732 = .ok (.bipush 74, 2) := by decide +kernel
theorem dX12_init_734 : decode cX12_init 734 = .ok (.bipush 32, 2) := by decide +kernel
theorem dX12_init_736 : decode cX12_init 736 = .ok (.iastore, 1) := by decide +kernel
theorem dX12_init_737 : decode cX12_init 737 = .ok (.dup, 1) := by decide +kernel
theorem dX12_init_738 : decode cX12_init 738 = .ok (.bipush 75, 2) := by decide +kernel
theorem dX12_init_740 : decode cX12_init 740 = .ok (.bipush 32, 2) := by decide +kernel
theorem dX12_init_742 : decode cX12_init 742 = .ok (.iastore, 1) := by decide +kernel
theorem dX12_init_743 : decode cX12_init 743 = .ok (.dup, 1) := by decide +kernel
theorem dX12_init_744 : decode cX12_init 744 = .ok (.bipush 76, 2) := by decide +kernel
theorem dX12_init_746 : decode cX12_init 746 = .ok (.bipush 32, 2) := by decide +kernel
theorem dX12_init_748 : decode cX12_init 748 = .ok (.iastore, 1) := by decide +kernel
theorem dX12_init_749 : decode cX12_init 749 = .ok (.dup, 1) := by decide +kernel
theorem dX12_init_750 : decode cX12_init 750 = .ok (.bipush 77, 2) := by decide +kernel
theorem dX12_init_752 : decode cX12_init 752 = .ok (.bipush 32, 2) := by decide +kernel
theorem dX12_init_754 : decode cX12_init 754 = .ok (.iastore, 1) := by decide +kernel
theorem dX12_init_755 : decode cX12_init 755 = .ok (.dup, 1) := by decide +kernel
theorem dX12_init_756 : decode cX12_init 756 = .ok (.bipush 78, 2) := by decide +kernel
theorem dX12_init_758 : decode cX12_init 758 = .ok (.bipush 32, 2) := by decide +kernel
theorem dX12_init_760 : decode cX12_init 760 = .ok (.iastore, 1) := by decide +kernel
theorem dX12_init_761 : decode cX12_init 761 = .ok (.dup, 1) := by decide +kernel
theorem dX12_init_762 : decode cX12_init 762 = .ok (.bipush 79, 2) := by decide +kernel
theorem dX12_init_764 : decode cX12_init 764 = .ok (.bipush 32, 2) := by decide +kernel
theorem dX12_init_766 : decode cX12_init 766 = .ok (.iastore, 1) := by decide +kernel
theorem dX12_init_767 : decode cX12_init 767 = .ok (.dup, 1) := by decide +kernel
theorem dX12_init_768 : decode cX12_init 768 = .ok (.bipush 80, 2) := by decide +kernel
theorem dX12_init_770 : decode cX12_init 770 = .ok (.bipush 97, 2) := by decide +kernel
theorem dX12_init_772 : decode cX12_init 772 = .ok (.iastore, 1) := by decide +kernel
theorem dX12_init_773 : decode cX12_init 773 = .ok (.dup, 1) := by decide +kernel
theorem dX12_init_774 : decode cX12_init 774 = .ok (.bipush 81, 2) := by decide +kernel
theorem dX12_init_776 : decode cX12_init 776 = .ok (.bipush 110, 2) := by decide +kernel
theorem dX12_init_778 : decode cX12_init 778 = .ok (.iastore, 1) := by decide +kernel
theorem dX12_init_779 : decode cX12_init 779 = .ok (.dup, 1) := by decide +kernel
theorem dX12_init_780 : decode cX12_init 780 = .ok (.bipush 82, 2) := by decide +kernel
theorem dX12_init_782 : decode cX12_init 782 = .ok (.bipush 100, 2) := by decide +kernel
theorem dX12_init_784 : decode cX12_init 784 = .ok (.iastore, 1) := by decide +kernel
theorem dX12_init_785 : decode cX12_init 785 = .ok (.dup, 1) := by decide +kernel
theorem dX12_init_786 : decode cX12_init 786 = .ok (.bipush 83, 2) := by decide +kernel
theorem dX12_init_788 : decode cX12_init 788 = .ok (.bipush 32, 2) := by decide +kernel
theorem dX12_init_790 : decode cX12_init 790 = .ok (.iastore, 1) := by decide +kernel
theorem dX12_init_791 : decode cX12_init 791 = .ok (.dup, 1) := by decide +kernel
theorem dX12_init_792 : decode cX12_init 792 = .ok (.bipush 84, 2) := by decide +kernel
theorem dX12_init_794 : decode cX12_init 794 = .ok (.bipush 32, 2) := by decide +kernel
theorem dX12_init_796 : decode cX12_init 796 = .ok (.iastore, 1) := by decide +kernel
theorem dX12_init_797 : decode cX12_init 797 = .ok (.dup, 1) := by decide +kernel
theorem dX12_init_798 : decode cX12_init 798 = .ok (.bipush 85, 2) := by decide +kernel
theorem dX12_init_800 : decode cX12_init 800 = .ok (.bipush 32, 2) := by decide +kernel
theorem dX12_init_802 : decode cX12_init 802 = .ok (.iastore, 1) := by decide +kernel
theorem dX12_init_803 : decode cX12_init 803 = .ok (.dup, 1) := by decide +kernel
theorem dX12_init_804 : decode cX12_init 804 = .ok (.bipush 86, 2) := by decide +kernel
theorem dX12_init_806 : decode cX12_init 806 = .ok (.bipush 32, 2) := by decide +kernel
theorem dX12_init_808 : decode cX12_init 808 = .ok (.iastore, 1) := by decide +kernel
theorem dX12_init_809 : decode cX12_init 809 = .ok (.dup, 1) := by decide +kernel
theorem dX12_init_810 : decode cX12_init 810 = .ok (.bipush 87, 2) := by decide +kernel
theorem dX12_init_812 : decode cX12_init 812 = .ok (.bipush 32, 2) := by decide +kernel
theorem dX12_init_814 : decode cX12_init 814 = .ok (.iastore, 1) := by decide +kernel
theorem dX12_init_815 : decode cX12_init 815 = .ok (.dup, 1) := by decide +kernel
theorem dX12_init_816 : decode cX12_init 816 = .ok (.bipush 88, 2) := by decide +kernel
theorem dX12_init_818 : decode cX12_init 818 = .ok (.bipush 110, 2) := by decide +kernel
theorem dX12_init_820 : decode cX12_init 820 = .ok (.iastore, 1) := by decide +kernel
theorem dX12_init_821 : decode cX12_init 821 = .ok (.dup, 1) := by decide +kernel
theorem dX12_init_822 : decode cX12_init 822 = .ok (.bipush 89, 2) := by decide +kernel
theorem dX12_init_824 : decode cX12_init 824 = .ok (.bipush 111, 2) := by decide +kernel
theorem dX12_init_826 : decode cX12_init 826 = .ok (.iastore, 1) := by decide +kernel
theorem dX12_init_827 : decode cX12_init 827 = .ok (.dup, 1) := by decide +kernel
theorem dX12_init_828 : decode cX12_init 828 = .ok (.bipush 90, 2) := by decide +kernel
theorem dX12_init_830 : decode cX12_init 830 = .ok (.bipush 116, 2) := by decide +kernel
theorem dX12_init_832 : decode cX12_init 832 = .ok (.iastore, 1) := by decide +kernel
theorem dX12_init_833 : decode cX12_init 833 = .ok (.dup, 1) := by decide +kernel
theorem dX12_init_834 : decode cX12_init 834 = .ok (.bipush 91, 2) := by decide +kernel
theorem dX12_init_836 : decode cX12_init 836 = .ok (.bipush 32, 2) := by decide +kernel
theorem dX12_init_838 : decode cX12_init 838 = .ok (.iastore, 1) := by decide +kernel
theorem dX12_init_839 : decode cX12_init 839 = .ok (.dup, 1) := by decide +kernel
theorem dX12_init_840 : decode cX12_init 840 = .ok (.bipush 92, 2) := by decide +kernel
theorem dX12_init_842 : decode cX12_init 842 = .ok (.bipush 32, 2) := by decide +kernel
theorem dX12_init_844 : decode cX12_init 844 = .ok (.iastore, 1) := by decide +kernel
theorem dX12_init_845 : decode cX12_init 845 = .ok (.dup, 1) := by decide +kernel
theorem dX12_init_846 : decode cX12_init 846 = .ok (.bipush 93, 2) := by decide +kernel
theorem dX12_init_848 : decode cX12_init 848 = .ok (.bipush 32, 2) := by decide +kernel
theorem dX12_init_850 : decode cX12_init 850 = .ok (.iastore, 1) := by decide +kernel
theorem dX12_init_851 : decode cX12_init 851 = .ok (.dup, 1) := by decide +kernel
theorem dX12_init_852 : decode cX12_init 852 = .ok (.bipush 94, 2) := by decide +kernel
theorem dX12_init_854 : decode cX12_init 854 = .ok (.bipush 32, 2) := by decide +kernel
theorem dX12_init_856 : decode cX12_init 856 = .ok (.iastore, 1) := by decide +kernel
theorem dX12_init_857 : decode cX12_init 857 = .ok (.dup, 1) := by decide +kernel
theorem dX12_init_858 : decode cX12_init 858 = .ok (.bipush 95, 2) := by decide +kernel
theorem dX12_init_860 : decode cX12_init 860 = .ok (.bipush 32, 2) := by decide +kernel
theorem dX12_init_862 : decode cX12_init 862 = .ok (.iastore, 1) := by decide +kernel
theorem dX12_init_863 : decode cX12_init 863 = .ok (.putfield 49, 3) := by decide +kernel
theorem dX12_init_866 : decode cX12_init 866 = .ok (.aload_n 0, 1) := by decide +kernel
theorem dX12_init_867 : decode cX12_init 867 = .ok (.sipush 200, 3) := by decide +kernel
theorem dX12_init_870 : decode cX12_init 870 = .ok (.newarray .int, 2) := by decide +kernel
theorem dX12_init_872 : decode cX12_init 872 = .ok (.putfield 52, 3) := by decide +kernel
theorem dX12_init_875 : decode cX12_init 875 = .ok (.aload_n 0, 1) := by decide +kernel
theorem dX12_init_876 : decode cX12_init 876 = .ok (.sipush 200, 3) := by decide +kernel
theorem dX12_init_879 : decode cX12_init 879 = .ok (.newarray .int, 2) := by decide +kernel
theorem dX12_init_881 : decode cX12_init 881 = .ok (.putfield 55, 3) := by decide +kernel
theorem dX12_init_884 : decode cX12_init 884 = .ok (.aload_n 0, 1) := by decide +kernel
theorem dX12_init_885 : decode cX12_init 885 = .ok (.bipush 6, 2) := by decide +kernel
theorem dX12_init_887 : decode cX12_init 887 = .ok (.newarray .int, 2) := by decide +kernel
theorem dX12_init_889 : decode cX12_init 889 = .ok (.putfield 58, 3) := by decide +kernel
theorem dX12_init_892 : decode cX12_init 892 = .ok (.aload_n 0, 1) := by decide +kernel
theorem dX12_init_893 : decode cX12_init 893 = .ok (.bipush 30, 2) := by decide +kernel
theorem dX12_init_895 : decode cX12_init 895 = .ok (.newarray .int, 2) := by decide +kernel
theorem dX12_init_897 : decode cX12_init 897 = .ok (.putfield 61, 3) := by decide +kernel
theorem dX12_init_900 : decode cX12_init 900 = .ok (.aload_n 0, 1) := by decide +kernel
theorem dX12_init_901 : decode cX12_init 901 = .ok (.iconst 5, 1) := by decide +kernel
theorem dX12_init_902 : decode cX12_init 902 = .ok (.newarray .int, 2) := by decide +kernel
theorem dX12_init_904 : decode cX12_init 904 = .ok (.putfield 64, 3) := by decide +kernel
theorem dX12_init_907 : decode cX12_init 907 = .ok (.iconst 0, 1) := by decide +kernel
theorem dX12_init_908 : decode cX12_init 908 = .ok (.istore_n 1, 1) := by decide +kernel
theorem dX12_init_909 : decode cX12_init 909 = .ok (.iload_n 1, 1) := by decide +kernel
theorem dX12_init_910 : decode cX12_init 910 = .ok (.bipush 29, 2) := by decide +kernel
theorem dX12_init_912 : decode cX12_init 912 = .ok (.if_icmp .ge 21, 3) := by decide +kernel
theorem dX12_init_915 : decode cX12_init 915 = .ok (.aload_n 0, 1) := by decide +kernel
theorem dX12_init_916 : decode cX12_init 916 = .ok (.getfield 25, 3) := by decide +kernel
theorem dX12_init_919 : decode cX12_init 919 = .ok (.iload_n 1, 1) := by decide +kernel
theorem dX12_init_920 : decode cX12_init 920 = .ok (.aload_n 0, 1) := by decide +kernel
theorem dX12_init_921 : decode cX12_init 921 = .ok (.getfield 46, 3) := by decide +kernel
theorem dX12_init_924 : decode cX12_init 924 = .ok (.iload_n 1, 1) := by decide +kernel
theorem dX12_init_925 : decode cX12_init 925 = .ok (.iaload, 1) := by decide +kernel
theorem dX12_init_926 : decode cX12_init 926 = .ok (.iastore, 1) := by decide +kernel
theorem dX12_init_927 : decode cX12_init 927 = .ok (.iinc 1 1, 3) := by decide +kernel
theorem dX12_init_930 : decode cX12_init 930 = .ok (.goto (-21), 3) := by decide +kernel
theorem dX12_init_933 : decode cX12_init 933 = .ok (.aload_n 0, 1) := by decide +kernel
theorem dX12_init_934 : decode cX12_init 934 = .ok (.bipush 29, 2) := by decide +kernel
theorem dX12_init_936 : decode cX12_init 936 = .ok (.putfield 67, 3) := by decide +kernel
theorem dX12_init_939 : decode cX12_init 939 = .ok (.aload_n 0, 1) := by decide +kernel
theorem dX12_init_940 : decode cX12_init 940 = .ok (.invokevirtual 71, 3) := by decide +kernel
theorem dX12_init_943 : decode cX12_init 943 = .ok (.pop, 1) := by decide +kernel
theorem dX12_init_944 : decode cX12_init 944 = .ok (.return_, 1) := by decide +kernel
set_option maxRecDepth 100000 in
set_option maxHeartbeats 40000000 in
theorem kIX12 (l : Launch) (w : wT) (h0 : Nat) (KM : Hp → Prop) (hm1 : VX12_text (fun _ u => KM u) m1) : yMetI (S := (Nat → Nat) × Hp) l w yX12_init cX12_init 2 6 19 2155 [.ref h0] [(h0, .inr (12, [.null, .int 0, .int 0, .null, .null, .null, .null, .null, .int 0, .null, .null, .int 0, .int 0, .int 0, .int 0, .int 0, .null, .null, .null, .null, .null, .int 0, .int 0, .int 0, .int 0, .null, .null, .int 0, .int 0, .int 0, .null, .null, .int 0, .int 0, .null, .null]))] (fun u => yw (u.1, w.2) mcf 20 u.2) (fun u => u.1 0 = h0 ∧ KM u.2) := by
  refine yi_start (lv0 := [(0, .ref h0)]) (by decide +kernel) (own := RX12) rfl (Nat.le_of_ble_eq_true rfl) rfl (fun p e s m below meth c A hin E => ?_)
  refine yi_aload_n E dX12_init_0 0 rfl ?_
  refine yi_objInit E wm_752 wm_689 wm_690 (by decide) (Nat.le_of_ble_eq_true rfl) dX12_init_1 ?_
  refine yi_aload_n E dX12_init_4 0 rfl ?_
  refine yi_iconst (v := 3) E dX12_init_5 (by decide) ?_
  refine yi_newaI (N' := 3) E wm_698 (by decide) (by decide) (Nat.le_of_ble_eq_true rfl) ⟨Nat.le_of_ble_eq_true rfl, Nat.le_of_ble_eq_true rfl⟩ dX12_init_6 (fun q1 => ?_)
  refine yi_eq (ws' := [(h0, .inr (12, [.null, .int 0, .int 0, .null, .null, .null, .null, .null, .int 0, .null, .null, .int 0, .int 0, .int 0, .int 0, .int 0, .null, .null, .null, .null, .null, .int 0, .int 0, .int 0, .int 0, .null, .null, .int 0, .int 0, .int 0, .null, .null, .int 0, .int 0, .null, .null])), (q1, .inl (w.2.1 1, 3, .inl (fun _ => 0)))]) rfl ?_
  refine yi_putF (q := 0) (ci := 12) (k := 0) (N := 36) (C := RX12) (T := TX12) (v := .ref q1) (ty := (.array .int)) (ws' := [(h0, .inr (12, [.ref q1, .int 0, .int 0, .null, .null, .null, .null, .null, .int 0, .null, .null, .int 0, .int 0, .int 0, .int 0, .int 0, .null, .null, .null, .null, .null, .int 0, .int 0, .int 0, .int 0, .null, .null, .int 0, .int 0, .int 0, .null, .null, .int 0, .int 0, .null, .null])), (q1, .inl (w.2.1 1, 3, .inl (fun _ => 0)))]) E rfl rfl wu_X12 tyX12 tyX12_ok nmX12 (by decide) wm_481 rfl hin rfl (by decide +kernel) rfl rfl (Nat.le_of_ble_eq_true rfl) rfl dX12_init_8 ?_
  refine yi_aload_n E dX12_init_11 0 rfl ?_
  refine yi_iconst (v := 5) E dX12_init_12 (by decide) ?_
  refine yi_newaI (N' := 5) E wm_698 (by decide) (by decide) (Nat.le_of_ble_eq_true rfl) ⟨Nat.le_of_ble_eq_true rfl, Nat.le_of_ble_eq_true rfl⟩ dX12_init_13 (fun q2 => ?_)
  refine yi_eq (ws' := [(h0, .inr (12, [.ref q1, .int 0, .int 0, .null, .null, .null, .null, .null, .int 0, .null, .null, .int 0, .int 0, .int 0, .int 0, .int 0, .null, .null, .null, .null, .null, .int 0, .int 0, .int 0, .int 0, .null, .null, .int 0, .int 0, .int 0, .null, .null, .int 0, .int 0, .null, .null])), (q1, .inl (w.2.1 1, 3, .inl (fun _ => 0))), (q2, .inl (w.2.1 1, 5, .inl (fun _ => 0)))]) rfl ?_
  refine yi_putF (q := 0) (ci := 12) (k := 3) (N := 36) (C := RX12) (T := TX12) (v := .ref q2) (ty := (.array .int)) (ws' := [(h0, .inr (12, [.ref q1, .int 0, .int 0, .ref q2, .null, .null, .null, .null, .int 0, .null, .null, .int 0, .int 0, .int 0, .int 0, .int 0, .null, .null, .null, .null, .null, .int 0, .int 0, .int 0, .int 0, .null, .null, .int 0, .int 0, .int 0, .null, .null, .int 0, .int 0, .null, .null])), (q1, .inl (w.2.1 1, 3, .inl (fun _ => 0))), (q2, .inl (w.2.1 1, 5, .inl (fun _ => 0)))]) E rfl rfl wu_X12 tyX12 tyX12_ok nmX12 (by decide) wm_571 rfl hin rfl (by decide +kernel) rfl rfl (Nat.le_of_ble_eq_true rfl) rfl dX12_init_15 ?_
  refine yi_aload_n E dX12_init_18 0 rfl ?_
  refine yi_iconst (v := 5) E dX12_init_19 (by decide) ?_
  refine yi_newaI (N' := 5) E wm_698 (by decide) (by decide) (Nat.le_of_ble_eq_true rfl) ⟨Nat.le_of_ble_eq_true rfl, Nat.le_of_ble_eq_true rfl⟩ dX12_init_20 (fun q3 => ?_)
  refine yi_eq (ws' := [(h0, .inr (12, [.ref q1, .int 0, .int 0, .ref q2, .null, .null, .null, .null, .int 0, .null, .null, .int 0, .int 0, .int 0, .int 0, .int 0, .null, .null, .null, .null, .null, .int 0, .int 0, .int 0, .int 0, .null, .null, .int 0, .int 0, .int 0, .null, .null, .int 0, .int 0, .null, .null])), (q1, .inl (w.2.1 1, 3, .inl (fun _ => 0))), (q2, .inl (w.2.1 1, 5, .inl (fun _ => 0))), (q3, .inl (w.2.1 1, 5, .inl (fun _ => 0)))]) rfl ?_
  refine yi_putF (q := 0) (ci := 12) (k := 4) (N := 36) (C := RX12) (T := TX12) (v := .ref q3) (ty := (.array .int)) (ws' := [(h0, .inr (12, [.ref q1, .int 0, .int 0, .ref q2, .ref q3, .null, .null, .null, .int 0, .null, .null, .int 0, .int 0, .int 0, .int 0, .int 0, .null, .null, .null, .null, .null, .int 0, .int 0, .int 0, .int 0, .null, .null, .int 0, .int 0, .int 0, .null, .null, .int 0, .int 0, .null, .null])), (q1, .inl (w.2.1 1, 3, .inl (fun _ => 0))), (q2, .inl (w.2.1 1, 5, .inl (fun _ => 0))), (q3, .inl (w.2.1 1, 5, .inl (fun _ => 0)))]) E rfl rfl wu_X12 tyX12 tyX12_ok nmX12 (by decide) wm_572 rfl hin rfl (by decide +kernel) rfl rfl (Nat.le_of_ble_eq_true rfl) rfl dX12_init_22 ?_
  refine yi_aload_n E dX12_init_25 0 rfl ?_
  refine yi_iconst (v := 5) E dX12_init_26 (by decide) ?_
  refine yi_newaI (N' := 5) E wm_698 (by decide) (by decide) (Nat.le_of_ble_eq_true rfl) ⟨Nat.le_of_ble_eq_true rfl, Nat.le_of_ble_eq_true rfl⟩ dX12_init_27 (fun q4 => ?_)
  refine yi_eq (ws' := [(h0, .inr (12, [.ref q1, .int 0, .int 0, .ref q2, .ref q3, .null, .null, .null, .int 0, .null, .null, .int 0, .int 0, .int 0, .int 0, .int 0, .null, .null, .null, .null, .null, .int 0, .int 0, .int 0, .int 0, .null, .null, .int 0, .int 0, .int 0, .null, .null, .int 0, .int 0, .null, .null])), (q1, .inl (w.2.1 1, 3, .inl (fun _ => 0))), (q2, .inl (w.2.1 1, 5, .inl (fun _ => 0))), (q3, .inl (w.2.1 1, 5, .inl (fun _ => 0))), (q4, .inl (w.2.1 1, 5, .inl (fun _ => 0)))]) rfl ?_
  refine yi_putF (q := 0) (ci := 12) (k := 5) (N := 36) (C := RX12) (T := TX12) (v := .ref q4) (ty := (.array .int)) (ws' := [(h0, .inr (12, [.ref q1, .int 0, .int 0, .ref q2, .ref q3, .ref q4, .null, .null, .int 0, .null, .null, .int 0, .int 0, .int 0, .int 0, .int 0, .null, .null, .null, .null, .null, .int 0, .int 0, .int 0, .int 0, .null, .null, .int 0, .int 0, .int 0, .null, .null, .int 0, .int 0, .null, .null])), (q1, .inl (w.2.1 1, 3, .inl (fun _ => 0))), (q2, .inl (w.2.1 1, 5, .inl (fun _ => 0))), (q3, .inl (w.2.1 1, 5, .inl (fun _ => 0))), (q4, .inl (w.2.1 1, 5, .inl (fun _ => 0)))]) E rfl rfl wu_X12 tyX12 tyX12_ok nmX12 (by decide) wm_490 rfl hin rfl (by decide +kernel) rfl rfl (Nat.le_of_ble_eq_true rfl) rfl dX12_init_29 ?_
  refine yi_aload_n E dX12_init_32 0 rfl ?_
  refine yi_iconst (v := 5) E dX12_init_33 (by decide) ?_
  refine yi_newaI (N' := 5) E wm_698 (by decide) (by decide) (Nat.le_of_ble_eq_true rfl) ⟨Nat.le_of_ble_eq_true rfl, Nat.le_of_ble_eq_true rfl⟩ dX12_init_34 (fun q5 => ?_)
  refine yi_eq (ws' := [(h0, .inr (12, [.ref q1, .int 0, .int 0, .ref q2, .ref q3, .ref q4, .null, .null, .int 0, .null, .null, .int 0, .int 0, .int 0, .int 0, .int 0, .null, .null, .null, .null, .null, .int 0, .int 0, .int 0, .int 0, .null, .null, .int 0, .int 0, .int 0, .null, .null, .int 0, .int 0, .null, .null])), (q1, .inl (w.2.1 1, 3, .inl (fun _ => 0))), (q2, .inl (w.2.1 1, 5, .inl (fun _ => 0))), (q3, .inl (w.2.1 1, 5, .inl (fun _ => 0))), (q4, .inl (w.2.1 1, 5, .inl (fun _ => 0))), (q5, .inl (w.2.1 1, 5, .inl (fun _ => 0)))]) rfl ?_
  refine yi_putF (q := 0) (ci := 12) (k := 6) (N := 36) (C := RX12) (T := TX12) (v := .ref q5) (ty := (.array .int)) (ws' := [(h0, .inr (12, [.ref q1, .int 0, .int 0, .ref q2, .ref q3, .ref q4, .ref q5, .null, .int 0, .null, .null, .int 0, .int 0, .int 0, .int 0, .int 0, .null, .null, .null, .null, .null, .int 0, .int 0, .int 0, .int 0, .null, .null, .int 0, .int 0, .int 0, .null, .null, .int 0, .int 0, .null, .null])), (q1, .inl (w.2.1 1, 3, .inl (fun _ => 0))), (q2, .inl (w.2.1 1, 5, .inl (fun _ => 0))), (q3, .inl (w.2.1 1, 5, .inl (fun _ => 0))), (q4, .inl (w.2.1 1, 5, .inl (fun _ => 0))), (q5, .inl (w.2.1 1, 5, .inl (fun _ => 0)))]) E rfl rfl wu_X12 tyX12 tyX12_ok nmX12 (by decide) wm_573 rfl hin rfl (by decide +kernel) rfl rfl (Nat.le_of_ble_eq_true rfl) rfl dX12_init_36 ?_
  refine yi_aload_n E dX12_init_39 0 rfl ?_
  refine yi_sipush (v := 160) E dX12_init_40 (by decide) ?_
  refine yi_newaI (N' := 160) E wm_698 (by decide) (by decide) (Nat.le_of_ble_eq_true rfl) ⟨Nat.le_of_ble_eq_true rfl, Nat.le_of_ble_eq_true rfl⟩ dX12_init_43 (fun q6 => ?_)
  refine yi_eq (ws' := [(h0, .inr (12, [.ref q1, .int 0, .int 0, .ref q2, .ref q3, .ref q4, .ref q5, .null, .int 0, .null, .null, .int 0, .int 0, .int 0, .int 0, .int 0, .null, .null, .null, .null, .null, .int 0, .int 0, .int 0, .int 0, .null, .null, .int 0, .int 0, .int 0, .null, .null, .int 0, .int 0, .null, .null])), (q1, .inl (w.2.1 1, 3, .inl (fun _ => 0))), (q2, .inl (w.2.1 1, 5, .inl (fun _ => 0))), (q3, .inl (w.2.1 1, 5, .inl (fun _ => 0))), (q4, .inl (w.2.1 1, 5, .inl (fun _ => 0))), (q5, .inl (w.2.1 1, 5, .inl (fun _ => 0))), (q6, .inl (w.2.1 1, 160, .inl (fun _ => 0)))]) rfl ?_
  refine yi_putF (q := 0) (ci := 12) (k := 7) (N := 36) (C := RX12) (T := TX12) (v := .ref q6) (ty := (.array .int)) (ws' := [(h0, .inr (12, [.ref q1, .int 0, .int 0, .ref q2, .ref q3, .ref q4, .ref q5, .ref q6, .int 0, .null, .null, .int 0, .int 0, .int 0, .int 0, .int 0, .null, .null, .null, .null, .null, .int 0, .int 0, .int 0, .int 0, .null, .null, .int 0, .int 0, .int 0, .null, .null, .int 0, .int 0, .null, .null])), (q1, .inl (w.2.1 1, 3, .inl (fun _ => 0))), (q2, .inl (w.2.1 1, 5, .inl (fun _ => 0))), (q3, .inl (w.2.1 1, 5, .inl (fun _ => 0))), (q4, .inl (w.2.1 1, 5, .inl (fun _ => 0))), (q5, .inl (w.2.1 1, 5, .inl (fun _ => 0))), (q6, .inl (w.2.1 1, 160, .inl (fun _ => 0)))]) E rfl rfl wu_X12 tyX12 tyX12_ok nmX12 (by decide) wm_502 rfl hin rfl (by decide +kernel) rfl rfl (Nat.le_of_ble_eq_true rfl) rfl dX12_init_45 ?_
  refine yi_aload_n E dX12_init_48 0 rfl ?_
  refine yi_sipush (v := 1200) E dX12_init_49 (by decide) ?_
  refine yi_newaI (N' := 1200) E wm_698 (by decide) (by decide) (Nat.le_of_ble_eq_true rfl) ⟨Nat.le_of_ble_eq_true rfl, Nat.le_of_ble_eq_true rfl⟩ dX12_init_52 (fun q7 => ?_)
  refine yi_eq (ws' := [(h0, .inr (12, [.ref q1, .int 0, .int 0, .ref q2, .ref q3, .ref q4, .ref q5, .ref q6, .int 0, .null, .null, .int 0, .int 0, .int 0, .int 0, .int 0, .null, .null, .null, .null, .null, .int 0, .int 0, .int 0, .int 0, .null, .null, .int 0, .int 0, .int 0, .null, .null, .int 0, .int 0, .null, .null])), (q1, .inl (w.2.1 1, 3, .inl (fun _ => 0))), (q2, .inl (w.2.1 1, 5, .inl (fun _ => 0))), (q3, .inl (w.2.1 1, 5, .inl (fun _ => 0))), (q4, .inl (w.2.1 1, 5, .inl (fun _ => 0))), (q5, .inl (w.2.1 1, 5, .inl (fun _ => 0))), (q6, .inl (w.2.1 1, 160, .inl (fun _ => 0))), (q7, .inl (w.2.1 1, 1200, .inl (fun _ => 0)))]) rfl ?_
  refine yi_putF (q := 0) (ci := 12) (k := 9) (N := 36) (C := RX12) (T := TX12) (v := .ref q7) (ty := (.array .int)) (ws' := [(h0, .inr (12, [.ref q1, .int 0, .int 0, .ref q2, .ref q3, .ref q4, .ref q5, .ref q6, .int 0, .ref q7, .null, .int 0, .int 0, .int 0, .int 0, .int 0, .null, .null, .null, .null, .null, .int 0, .int 0, .int 0, .int 0, .null, .null, .int 0, .int 0, .int 0, .null, .null, .int 0, .int 0, .null, .null])), (q1, .inl (w.2.1 1, 3, .inl (fun _ => 0))), (q2, .inl (w.2.1 1, 5, .inl (fun _ => 0))), (q3, .inl (w.2.1 1, 5, .inl (fun _ => 0))), (q4, .inl (w.2.1 1, 5, .inl (fun _ => 0))), (q5, .inl (w.2.1 1, 5, .inl (fun _ => 0))), (q6, .inl (w.2.1 1, 160, .inl (fun _ => 0))), (q7, .inl (w.2.1 1, 1200, .inl (fun _ => 0)))]) E rfl rfl wu_X12 tyX12 tyX12_ok nmX12 (by decide) wm_512 rfl hin rfl (by decide +kernel) rfl rfl (Nat.le_of_ble_eq_true rfl) rfl dX12_init_54 ?_
  refine yi_aload_n E dX12_init_57 0 rfl ?_
  refine yi_bipush (v := 24) E dX12_init_58 (by decide) ?_
  refine yi_newaI (N' := 24) E wm_698 (by decide) (by decide) (Nat.le_of_ble_eq_true rfl) ⟨Nat.le_of_ble_eq_true rfl, Nat.le_of_ble_eq_true rfl⟩ dX12_init_60 (fun q8 => ?_)
  refine yi_eq (ws' := [(h0, .inr (12, [.ref q1, .int 0, .int 0, .ref q2, .ref q3, .ref q4, .ref q5, .ref q6, .int 0, .ref q7, .null, .int 0, .int 0, .int 0, .int 0, .int 0, .null, .null, .null, .null, .null, .int 0, .int 0, .int 0, .int 0, .null, .null, .int 0, .int 0, .int 0, .null, .null, .int 0, .int 0, .null, .null])), (q1, .inl (w.2.1 1, 3, .inl (fun _ => 0))), (q2, .inl (w.2.1 1, 5, .inl (fun _ => 0))), (q3, .inl (w.2.1 1, 5, .inl (fun _ => 0))), (q4, .inl (w.2.1 1, 5, .inl (fun _ => 0))), (q5, .inl (w.2.1 1, 5, .inl (fun _ => 0))), (q6, .inl (w.2.1 1, 160, .inl (fun _ => 0))), (q7, .inl (w.2.1 1, 1200, .inl (fun _ => 0))), (q8, .inl (w.2.1 1, 24, .inl (fun _ => 0)))]) rfl ?_
  refine yi_putF (q := 0) (ci := 12) (k := 10) (N := 36) (C := RX12) (T := TX12) (v := .ref q8) (ty := (.array .int)) (ws' := [(h0, .inr (12, [.ref q1, .int 0, .int 0, .ref q2, .ref q3, .ref q4, .ref q5, .ref q6, .int 0, .ref q7, .ref q8, .int 0, .int 0, .int 0, .int 0, .int 0, .null, .null, .null, .null, .null, .int 0, .int 0, .int 0, .int 0, .null, .null, .int 0, .int 0, .int 0, .null, .null, .int 0, .int 0, .null, .null])), (q1, .inl (w.2.1 1, 3, .inl (fun _ => 0))), (q2, .inl (w.2.1 1, 5, .inl (fun _ => 0))), (q3, .inl (w.2.1 1, 5, .inl (fun _ => 0))), (q4, .inl (w.2.1 1, 5, .inl (fun _ => 0))), (q5, .inl (w.2.1 1, 5, .inl (fun _ => 0))), (q6, .inl (w.2.1 1, 160, .inl (fun _ => 0))), (q7, .inl (w.2.1 1, 1200, .inl (fun _ => 0))), (q8, .inl (w.2.1 1, 24, .inl (fun _ => 0)))]) E rfl rfl wu_X12 tyX12 tyX12_ok nmX12 (by decide) wm_549 rfl hin rfl (by decide +kernel) rfl rfl (Nat.le_of_ble_eq_true rfl) rfl dX12_init_62 ?_
  refine yi_aload_n E dX12_init_65 0 rfl ?_
  refine yi_bipush (v := 14) E dX12_init_66 (by decide) ?_
  refine yi_newaI (N' := 14) E wm_698 (by decide) (by decide) (Nat.le_of_ble_eq_true rfl) ⟨Nat.le_of_ble_eq_true rfl, Nat.le_of_ble_eq_true rfl⟩ dX12_init_68 (fun q9 => ?_)
  refine yi_eq (ws' := [(h0, .inr (12, [.ref q1, .int 0, .int 0, .ref q2, .ref q3, .ref q4, .ref q5, .ref q6, .int 0, .ref q7, .ref q8, .int 0, .int 0, .int 0, .int 0, .int 0, .null, .null, .null, .null, .null, .int 0, .int 0, .int 0, .int 0, .null, .null, .int 0, .int 0, .int 0, .null, .null, .int 0, .int 0, .null, .null])), (q1, .inl (w.2.1 1, 3, .inl (fun _ => 0))), (q2, .inl (w.2.1 1, 5, .inl (fun _ => 0))), (q3, .inl (w.2.1 1, 5, .inl (fun _ => 0))), (q4, .inl (w.2.1 1, 5, .inl (fun _ => 0))), (q5, .inl (w.2.1 1, 5, .inl (fun _ => 0))), (q6, .inl (w.2.1 1, 160, .inl (fun _ => 0))), (q7, .inl (w.2.1 1, 1200, .inl (fun _ => 0))), (q8, .inl (w.2.1 1, 24, .inl (fun _ => 0))), (q9, .inl (w.2.1 1, 14, .inl (fun _ => 0)))]) rfl ?_
  refine yi_putF (q := 0) (ci := 12) (k := 16) (N := 36) (C := RX12) (T := TX12) (v := .ref q9) (ty := (.array .int)) (ws' := [(h0, .inr (12, [.ref q1, .int 0, .int 0, .ref q2, .ref q3, .ref q4, .ref q5, .ref q6, .int 0, .ref q7, .ref q8, .int 0, .int 0, .int 0, .int 0, .int 0, .ref q9, .null, .null, .null, .null, .int 0, .int 0, .int 0, .int 0, .null, .null, .int 0, .int 0, .int 0, .null, .null, .int 0, .int 0, .null, .null])), (q1, .inl (w.2.1 1, 3, .inl (fun _ => 0))), (q2, .inl (w.2.1 1, 5, .inl (fun _ => 0))), (q3, .inl (w.2.1 1, 5, .inl (fun _ => 0))), (q4, .inl (w.2.1 1, 5, .inl (fun _ => 0))), (q5, .inl (w.2.1 1, 5, .inl (fun _ => 0))), (q6, .inl (w.2.1 1, 160, .inl (fun _ => 0))), (q7, .inl (w.2.1 1, 1200, .inl (fun _ => 0))), (q8, .inl (w.2.1 1, 24, .inl (fun _ => 0))), (q9, .inl (w.2.1 1, 14, .inl (fun _ => 0)))]) E rfl rfl wu_X12 tyX12 tyX12_ok nmX12 (by decide) wm_680 rfl hin rfl (by decide +kernel) rfl rfl (Nat.le_of_ble_eq_true rfl) rfl dX12_init_70 ?_
  refine yi_aload_n E dX12_init_73 0 rfl ?_
  refine yi_iconst (v := 4) E dX12_init_74 (by decide) ?_
  refine yi_newaI (N' := 4) E wm_698 (by decide) (by decide) (Nat.le_of_ble_eq_true rfl) ⟨Nat.le_of_ble_eq_true rfl, Nat.le_of_ble_eq_true rfl⟩ dX12_init_75 (fun q10 => ?_)
  refine yi_eq (ws' := [(h0, .inr (12, [.ref q1, .int 0, .int 0, .ref q2, .ref q3, .ref q4, .ref q5, .ref q6, .int 0, .ref q7, .ref q8, .int 0, .int 0, .int 0, .int 0, .int 0, .ref q9, .null, .null, .null, .null, .int 0, .int 0, .int 0, .int 0, .null, .null, .int 0, .int 0, .int 0, .null, .null, .int 0, .int 0, .null, .null])), (q1, .inl (w.2.1 1, 3, .inl (fun _ => 0))), (q2, .inl (w.2.1 1, 5, .inl (fun _ => 0))), (q3, .inl (w.2.1 1, 5, .inl (fun _ => 0))), (q4, .inl (w.2.1 1, 5, .inl (fun _ => 0))), (q5, .inl (w.2.1 1, 5, .inl (fun _ => 0))), (q6, .inl (w.2.1 1, 160, .inl (fun _ => 0))), (q7, .inl (w.2.1 1, 1200, .inl (fun _ => 0))), (q8, .inl (w.2.1 1, 24, .inl (fun _ => 0))), (q9, .inl (w.2.1 1, 14, .inl (fun _ => 0))), (q10, .inl (w.2.1 1, 4, .inl (fun _ => 0)))]) rfl ?_
  refine yi_dup E dX12_init_77 rfl ?_
  refine yi_iconst (v := 0) E dX12_init_78 (by decide) ?_
  refine yi_iconst (v := (-1)) E dX12_init_79 (by decide) ?_
  refine yi_iastc (q := 10) (f' := mA10_1) (ws' := [(h0, .inr (12, [.ref q1, .int 0, .int 0, .ref q2, .ref q3, .ref q4, .ref q5, .ref q6, .int 0, .ref q7, .ref q8, .int 0, .int 0, .int 0, .int 0, .int 0, .ref q9, .null, .null, .null, .null, .int 0, .int 0, .int 0, .int 0, .null, .null, .int 0, .int 0, .int 0, .null, .null, .int 0, .int 0, .null, .null])), (q1, .inl (w.2.1 1, 3, .inl (fun _ => 0))), (q2, .inl (w.2.1 1, 5, .inl (fun _ => 0))), (q3, .inl (w.2.1 1, 5, .inl (fun _ => 0))), (q4, .inl (w.2.1 1, 5, .inl (fun _ => 0))), (q5, .inl (w.2.1 1, 5, .inl (fun _ => 0))), (q6, .inl (w.2.1 1, 160, .inl (fun _ => 0))), (q7, .inl (w.2.1 1, 1200, .inl (fun _ => 0))), (q8, .inl (w.2.1 1, 24, .inl (fun _ => 0))), (q9, .inl (w.2.1 1, 14, .inl (fun _ => 0))), (q10, .inl (w.2.1 1, 4, .inl mA10_1))]) E rfl (vp_in_nI (n := 0) (by decide) (by decide)) rfl rfl dX12_init_80 ?_
  refine yi_dup E dX12_init_81 rfl ?_
  refine yi_iconst (v := 1) E dX12_init_82 (by decide) ?_
  refine yi_iconst (v := (-1)) E dX12_init_83 (by decide) ?_
  refine yi_iastc (q := 10) (f' := mA10_2) (ws' := [(h0, .inr (12, [.ref q1, .int 0, .int 0, .ref q2, .ref q3, .ref q4, .ref q5, .ref q6, .int 0, .ref q7, .ref q8, .int 0, .int 0, .int 0, .int 0, .int 0, .ref q9, .null, .null, .null, .null, .int 0, .int 0, .int 0, .int 0, .null, .null, .int 0, .int 0, .int 0, .null, .null, .int 0, .int 0, .null, .null])), (q1, .inl (w.2.1 1, 3, .inl (fun _ => 0))), (q2, .inl (w.2.1 1, 5, .inl (fun _ => 0))), (q3, .inl (w.2.1 1, 5, .inl (fun _ => 0))), (q4, .inl (w.2.1 1, 5, .inl (fun _ => 0))), (q5, .inl (w.2.1 1, 5, .inl (fun _ => 0))), (q6, .inl (w.2.1 1, 160, .inl (fun _ => 0))), (q7, .inl (w.2.1 1, 1200, .inl (fun _ => 0))), (q8, .inl (w.2.1 1, 24, .inl (fun _ => 0))), (q9, .inl (w.2.1 1, 14, .inl (fun _ => 0))), (q10, .inl (w.2.1 1, 4, .inl mA10_2))]) E rfl (vp_in_nI (n := 1) (by decide) (by decide)) rfl rfl dX12_init_84 ?_
  refine yi_dup E dX12_init_85 rfl ?_
  refine yi_iconst (v := 2) E dX12_init_86 (by decide) ?_
  refine yi_iconst (v := (-1)) E dX12_init_87 (by decide) ?_
  refine yi_iastc (q := 10) (f' := mA10_3) (ws' := [(h0, .inr (12, [.ref q1, .int 0, .int 0, .ref q2, .ref q3, .ref q4, .ref q5, .ref q6, .int 0, .ref q7, .ref q8, .int 0, .int 0, .int 0, .int 0, .int 0, .ref q9, .null, .null, .null, .null, .int 0, .int 0, .int 0, .int 0, .null, .null, .int 0, .int 0, .int 0, .null, .null, .int 0, .int 0, .null, .null])), (q1, .inl (w.2.1 1, 3, .inl (fun _ => 0))), (q2, .inl (w.2.1 1, 5, .inl (fun _ => 0))), (q3, .inl (w.2.1 1, 5, .inl (fun _ => 0))), (q4, .inl (w.2.1 1, 5, .inl (fun _ => 0))), (q5, .inl (w.2.1 1, 5, .inl (fun _ => 0))), (q6, .inl (w.2.1 1, 160, .inl (fun _ => 0))), (q7, .inl (w.2.1 1, 1200, .inl (fun _ => 0))), (q8, .inl (w.2.1 1, 24, .inl (fun _ => 0))), (q9, .inl (w.2.1 1, 14, .inl (fun _ => 0))), (q10, .inl (w.2.1 1, 4, .inl mA10_3))]) E rfl (vp_in_nI (n := 2) (by decide) (by decide)) rfl rfl dX12_init_88 ?_
  refine yi_dup E dX12_init_89 rfl ?_
  refine yi_iconst (v := 3) E dX12_init_90 (by decide) ?_
  refine yi_iconst (v := (-1)) E dX12_init_91 (by decide) ?_
  refine yi_iastc (q := 10) (f' := mA10_4) (ws' := [(h0, .inr (12, [.ref q1, .int 0, .int 0, .ref q2, .ref q3, .ref q4, .ref q5, .ref q6, .int 0, .ref q7, .ref q8, .int 0, .int 0, .int 0, .int 0, .int 0, .ref q9, .null, .null, .null, .null, .int 0, .int 0, .int 0, .int 0, .null, .null, .int 0, .int 0, .int 0, .null, .null, .int 0, .int 0, .null, .null])), (q1, .inl (w.2.1 1, 3, .inl (fun _ => 0))), (q2, .inl (w.2.1 1, 5, .inl (fun _ => 0))), (q3, .inl (w.2.1 1, 5, .inl (fun _ => 0))), (q4, .inl (w.2.1 1, 5, .inl (fun _ => 0))), (q5, .inl (w.2.1 1, 5, .inl (fun _ => 0))), (q6, .inl (w.2.1 1, 160, .inl (fun _ => 0))), (q7, .inl (w.2.1 1, 1200, .inl (fun _ => 0))), (q8, .inl (w.2.1 1, 24, .inl (fun _ => 0))), (q9, .inl (w.2.1 1, 14, .inl (fun _ => 0))), (q10, .inl (w.2.1 1, 4, .inl mA10_4))]) E rfl (vp_in_nI (n := 3) (by decide) (by decide)) rfl rfl dX12_init_92 ?_
  refine yi_putF (q := 0) (ci := 12) (k := 17) (N := 36) (C := RX12) (T := TX12) (v := .ref q10) (ty := (.array .int)) (ws' := [(h0, .inr (12, [.ref q1, .int 0, .int 0, .ref q2, .ref q3, .ref q4, .ref q5, .ref q6, .int 0, .ref q7, .ref q8, .int 0, .int 0, .int 0, .int 0, .int 0, .ref q9, .ref q10, .null, .null, .null, .int 0, .int 0, .int 0, .int 0, .null, .null, .int 0, .int 0, .int 0, .null, .null, .int 0, .int 0, .null, .null])), (q1, .inl (w.2.1 1, 3, .inl (fun _ => 0))), (q2, .inl (w.2.1 1, 5, .inl (fun _ => 0))), (q3, .inl (w.2.1 1, 5, .inl (fun _ => 0))), (q4, .inl (w.2.1 1, 5, .inl (fun _ => 0))), (q5, .inl (w.2.1 1, 5, .inl (fun _ => 0))), (q6, .inl (w.2.1 1, 160, .inl (fun _ => 0))), (q7, .inl (w.2.1 1, 1200, .inl (fun _ => 0))), (q8, .inl (w.2.1 1, 24, .inl (fun _ => 0))), (q9, .inl (w.2.1 1, 14, .inl (fun _ => 0))), (q10, .inl (w.2.1 1, 4, .inl mA10_4))]) E rfl rfl wu_X12 tyX12 tyX12_ok nmX12 (by decide) wm_652 rfl hin rfl (by decide +kernel) rfl rfl (Nat.le_of_ble_eq_true rfl) rfl dX12_init_93 ?_
  refine yi_aload_n E dX12_init_96 0 rfl ?_
  refine yi_iconst (v := 4) E dX12_init_97 (by decide) ?_
  refine yi_newaI (N' := 4) E wm_698 (by decide) (by decide) (Nat.le_of_ble_eq_true rfl) ⟨Nat.le_of_ble_eq_true rfl, Nat.le_of_ble_eq_true rfl⟩ dX12_init_98 (fun q15 => ?_)
  refine yi_eq (ws' := [(h0, .inr (12, [.ref q1, .int 0, .int 0, .ref q2, .ref q3, .ref q4, .ref q5, .ref q6, .int 0, .ref q7, .ref q8, .int 0, .int 0, .int 0, .int 0, .int 0, .ref q9, .ref q10, .null, .null, .null, .int 0, .int 0, .int 0, .int 0, .null, .null, .int 0, .int 0, .int 0, .null, .null, .int 0, .int 0, .null, .null])), (q1, .inl (w.2.1 1, 3, .inl (fun _ => 0))), (q2, .inl (w.2.1 1, 5, .inl (fun _ => 0))), (q3, .inl (w.2.1 1, 5, .inl (fun _ => 0))), (q4, .inl (w.2.1 1, 5, .inl (fun _ => 0))), (q5, .inl (w.2.1 1, 5, .inl (fun _ => 0))), (q6, .inl (w.2.1 1, 160, .inl (fun _ => 0))), (q7, .inl (w.2.1 1, 1200, .inl (fun _ => 0))), (q8, .inl (w.2.1 1, 24, .inl (fun _ => 0))), (q9, .inl (w.2.1 1, 14, .inl (fun _ => 0))), (q10, .inl (w.2.1 1, 4, .inl mA10_4)), (q15, .inl (w.2.1 1, 4, .inl (fun _ => 0)))]) rfl ?_
  refine yi_putF (q := 0) (ci := 12) (k := 18) (N := 36) (C := RX12) (T := TX12) (v := .ref q15) (ty := (.array .int)) (ws' := [(h0, .inr (12, [.ref q1, .int 0, .int 0, .ref q2, .ref q3, .ref q4, .ref q5, .ref q6, .int 0, .ref q7, .ref q8, .int 0, .int 0, .int 0, .int 0, .int 0, .ref q9, .ref q10, .ref q15, .null, .null, .int 0, .int 0, .int 0, .int 0, .null, .null, .int 0, .int 0, .int 0, .null, .null, .int 0, .int 0, .null, .null])), (q1, .inl (w.2.1 1, 3, .inl (fun _ => 0))), (q2, .inl (w.2.1 1, 5, .inl (fun _ => 0))), (q3, .inl (w.2.1 1, 5, .inl (fun _ => 0))), (q4, .inl (w.2.1 1, 5, .inl (fun _ => 0))), (q5, .inl (w.2.1 1, 5, .inl (fun _ => 0))), (q6, .inl (w.2.1 1, 160, .inl (fun _ => 0))), (q7, .inl (w.2.1 1, 1200, .inl (fun _ => 0))), (q8, .inl (w.2.1 1, 24, .inl (fun _ => 0))), (q9, .inl (w.2.1 1, 14, .inl (fun _ => 0))), (q10, .inl (w.2.1 1, 4, .inl mA10_4)), (q15, .inl (w.2.1 1, 4, .inl (fun _ => 0)))]) E rfl rfl wu_X12 tyX12 tyX12_ok nmX12 (by decide) wm_653 rfl hin rfl (by decide +kernel) rfl rfl (Nat.le_of_ble_eq_true rfl) rfl dX12_init_100 ?_
  refine yi_aload_n E dX12_init_103 0 rfl ?_
  refine yi_sipush (v := 160) E dX12_init_104 (by decide) ?_
  refine yi_newaI (N' := 160) E wm_698 (by decide) (by decide) (Nat.le_of_ble_eq_true rfl) ⟨Nat.le_of_ble_eq_true rfl, Nat.le_of_ble_eq_true rfl⟩ dX12_init_107 (fun q16 => ?_)
  refine yi_eq (ws' := [(h0, .inr (12, [.ref q1, .int 0, .int 0, .ref q2, .ref q3, .ref q4, .ref q5, .ref q6, .int 0, .ref q7, .ref q8, .int 0, .int 0, .int 0, .int 0, .int 0, .ref q9, .ref q10, .ref q15, .null, .null, .int 0, .int 0, .int 0, .int 0, .null, .null, .int 0, .int 0, .int 0, .null, .null, .int 0, .int 0, .null, .null])), (q1, .inl (w.2.1 1, 3, .inl (fun _ => 0))), (q2, .inl (w.2.1 1, 5, .inl (fun _ => 0))), (q3, .inl (w.2.1 1, 5, .inl (fun _ => 0))), (q4, .inl (w.2.1 1, 5, .inl (fun _ => 0))), (q5, .inl (w.2.1 1, 5, .inl (fun _ => 0))), (q6, .inl (w.2.1 1, 160, .inl (fun _ => 0))), (q7, .inl (w.2.1 1, 1200, .inl (fun _ => 0))), (q8, .inl (w.2.1 1, 24, .inl (fun _ => 0))), (q9, .inl (w.2.1 1, 14, .inl (fun _ => 0))), (q10, .inl (w.2.1 1, 4, .inl mA10_4)), (q15, .inl (w.2.1 1, 4, .inl (fun _ => 0))), (q16, .inl (w.2.1 1, 160, .inl (fun _ => 0)))]) rfl ?_
  refine yi_putF (q := 0) (ci := 12) (k := 19) (N := 36) (C := RX12) (T := TX12) (v := .ref q16) (ty := (.array .int)) (ws' := [(h0, .inr (12, [.ref q1, .int 0, .int 0, .ref q2, .ref q3, .ref q4, .ref q5, .ref q6, .int 0, .ref q7, .ref q8, .int 0, .int 0, .int 0, .int 0, .int 0, .ref q9, .ref q10, .ref q15, .ref q16, .null, .int 0, .int 0, .int 0, .int 0, .null, .null, .int 0, .int 0, .int 0, .null, .null, .int 0, .int 0, .null, .null])), (q1, .inl (w.2.1 1, 3, .inl (fun _ => 0))), (q2, .inl (w.2.1 1, 5, .inl (fun _ => 0))), (q3, .inl (w.2.1 1, 5, .inl (fun _ => 0))), (q4, .inl (w.2.1 1, 5, .inl (fun _ => 0))), (q5, .inl (w.2.1 1, 5, .inl (fun _ => 0))), (q6, .inl (w.2.1 1, 160, .inl (fun _ => 0))), (q7, .inl (w.2.1 1, 1200, .inl (fun _ => 0))), (q8, .inl (w.2.1 1, 24, .inl (fun _ => 0))), (q9, .inl (w.2.1 1, 14, .inl (fun _ => 0))), (q10, .inl (w.2.1 1, 4, .inl mA10_4)), (q15, .inl (w.2.1 1, 4, .inl (fun _ => 0))), (q16, .inl (w.2.1 1, 160, .inl (fun _ => 0)))]) E rfl rfl wu_X12 tyX12 tyX12_ok nmX12 (by decide) wm_658 rfl hin rfl (by decide +kernel) rfl rfl (Nat.le_of_ble_eq_true rfl) rfl dX12_init_109 ?_
  refine yi_aload_n E dX12_init_112 0 rfl ?_
  refine yi_bipush (v := 29) E dX12_init_113 (by decide) ?_
  refine yi_newaI (N' := 29) E wm_698 (by decide) (by decide) (Nat.le_of_ble_eq_true rfl) ⟨Nat.le_of_ble_eq_true rfl, Nat.le_of_ble_eq_true rfl⟩ dX12_init_115 (fun q17 => ?_)
  refine yi_eq (ws' := [(h0, .inr (12, [.ref q1, .int 0, .int 0, .ref q2, .ref q3, .ref q4, .ref q5, .ref q6, .int 0, .ref q7, .ref q8, .int 0, .int 0, .int 0, .int 0, .int 0, .ref q9, .ref q10, .ref q15, .ref q16, .null, .int 0, .int 0, .int 0, .int 0, .null, .null, .int 0, .int 0, .int 0, .null, .null, .int 0, .int 0, .null, .null])), (q1, .inl (w.2.1 1, 3, .inl (fun _ => 0))), (q2, .inl (w.2.1 1, 5, .inl (fun _ => 0))), (q3, .inl (w.2.1 1, 5, .inl (fun _ => 0))), (q4, .inl (w.2.1 1, 5, .inl (fun _ => 0))), (q5, .inl (w.2.1 1, 5, .inl (fun _ => 0))), (q6, .inl (w.2.1 1, 160, .inl (fun _ => 0))), (q7, .inl (w.2.1 1, 1200, .inl (fun _ => 0))), (q8, .inl (w.2.1 1, 24, .inl (fun _ => 0))), (q9, .inl (w.2.1 1, 14, .inl (fun _ => 0))), (q10, .inl (w.2.1 1, 4, .inl mA10_4)), (q15, .inl (w.2.1 1, 4, .inl (fun _ => 0))), (q16, .inl (w.2.1 1, 160, .inl (fun _ => 0))), (q17, .inl (w.2.1 1, 29, .inl (fun _ => 0)))]) rfl ?_
  refine yi_dup E dX12_init_117 rfl ?_
  refine yi_iconst (v := 0) E dX12_init_118 (by decide) ?_
  refine yi_bipush (v := 98) E dX12_init_119 (by decide) ?_
  refine yi_iastc (q := 13) (f' := mA17_1) (ws' := [(h0, .inr (12, [.ref q1, .int 0, .int 0, .ref q2, .ref q3, .ref q4, .ref q5, .ref q6, .int 0, .ref q7, .ref q8, .int 0, .int 0, .int 0, .int 0, .int 0, .ref q9, .ref q10, .ref q15, .ref q16, .null, .int 0, .int 0, .int 0, .int 0, .null, .null, .int 0, .int 0, .int 0, .null, .null, .int 0, .int 0, .null, .null])), (q1, .inl (w.2.1 1, 3, .inl (fun _ => 0))), (q2, .inl (w.2.1 1, 5, .inl (fun _ => 0))), (q3, .inl (w.2.1 1, 5, .inl (fun _ => 0))), (q4, .inl (w.2.1 1, 5, .inl (fun _ => 0))), (q5, .inl (w.2.1 1, 5, .inl (fun _ => 0))), (q6, .inl (w.2.1 1, 160, .inl (fun _ => 0))), (q7, .inl (w.2.1 1, 1200, .inl (fun _ => 0))), (q8, .inl (w.2.1 1, 24, .inl (fun _ => 0))), (q9, .inl (w.2.1 1, 14, .inl (fun _ => 0))), (q10, .inl (w.2.1 1, 4, .inl mA10_4)), (q15, .inl (w.2.1 1, 4, .inl (fun _ => 0))), (q16, .inl (w.2.1 1, 160, .inl (fun _ => 0))), (q17, .inl (w.2.1 1, 29, .inl mA17_1))]) E rfl (vp_in_nI (n := 0) (by decide) (by decide)) rfl rfl dX12_init_121 ?_
  refine yi_dup E dX12_init_122 rfl ?_
  refine yi_iconst (v := 1) E dX12_init_123 (by decide) ?_
  refine yi_bipush (v := 108) E dX12_init_124 (by decide) ?_
  refine yi_iastc (q := 13) (f' := mA17_2) (ws' := [(h0, .inr (12, [.ref q1, .int 0, .int 0, .ref q2, .ref q3, .ref q4, .ref q5, .ref q6, .int 0, .ref q7, .ref q8, .int 0, .int 0, .int 0, .int 0, .int 0, .ref q9, .ref q10, .ref q15, .ref q16, .null, .int 0, .int 0, .int 0, .int 0, .null, .null, .int 0, .int 0, .int 0, .null, .null, .int 0, .int 0, .null, .null])), (q1, .inl (w.2.1 1, 3, .inl (fun _ => 0))), (q2, .inl (w.2.1 1, 5, .inl (fun _ => 0))), (q3, .inl (w.2.1 1, 5, .inl (fun _ => 0))), (q4, .inl (w.2.1 1, 5, .inl (fun _ => 0))), (q5, .inl (w.2.1 1, 5, .inl (fun _ => 0))), (q6, .inl (w.2.1 1, 160, .inl (fun _ => 0))), (q7, .inl (w.2.1 1, 1200, .inl (fun _ => 0))), (q8, .inl (w.2.1 1, 24, .inl (fun _ => 0))), (q9, .inl (w.2.1 1, 14, .inl (fun _ => 0))), (q10, .inl (w.2.1 1, 4, .inl mA10_4)), (q15, .inl (w.2.1 1, 4, .inl (fun _ => 0))), (q16, .inl (w.2.1 1, 160, .inl (fun _ => 0))), (q17, .inl (w.2.1 1, 29, .inl mA17_2))]) E rfl (vp_in_nI (n := 1) (by decide) (by decide)) rfl rfl dX12_init_126 ?_
  refine yi_dup E dX12_init_127 rfl ?_
  refine yi_iconst (v := 2) E dX12_init_128 (by decide) ?_
  refine yi_bipush (v := 111) E dX12_init_129 (by decide) ?_
  refine yi_iastc (q := 13) (f' := mA17_3) (ws' := [(h0, .inr (12, [.ref q1, .int 0, .int 0, .ref q2, .ref q3, .ref q4, .ref q5, .ref q6, .int 0, .ref q7, .ref q8, .int 0, .int 0, .int 0, .int 0, .int 0, .ref q9, .ref q10, .ref q15, .ref q16, .null, .int 0, .int 0, .int 0, .int 0, .null, .null, .int 0, .int 0, .int 0, .null, .null, .int 0, .int 0, .null, .null])), (q1, .inl (w.2.1 1, 3, .inl (fun _ => 0))), (q2, .inl (w.2.1 1, 5, .inl (fun _ => 0))), (q3, .inl (w.2.1 1, 5, .inl (fun _ => 0))), (q4, .inl (w.2.1 1, 5, .inl (fun _ => 0))), (q5, .inl (w.2.1 1, 5, .inl (fun _ => 0))), (q6, .inl (w.2.1 1, 160, .inl (fun _ => 0))), (q7, .inl (w.2.1 1, 1200, .inl (fun _ => 0))), (q8, .inl (w.2.1 1, 24, .inl (fun _ => 0))), (q9, .inl (w.2.1 1, 14, .inl (fun _ => 0))), (q10, .inl (w.2.1 1, 4, .inl mA10_4)), (q15, .inl (w.2.1 1, 4, .inl (fun _ => 0))), (q16, .inl (w.2.1 1, 160, .inl (fun _ => 0))), (q17, .inl (w.2.1 1, 29, .inl mA17_3))]) E rfl (vp_in_nI (n := 2) (by decide) (by decide)) rfl rfl dX12_init_131 ?_
  refine yi_dup E dX12_init_132 rfl ?_
  refine yi_iconst (v := 3) E dX12_init_133 (by decide) ?_
  refine yi_bipush (v := 119) E dX12_init_134 (by decide) ?_
  refine yi_iastc (q := 13) (f' := mA17_4) (ws' := [(h0, .inr (12, [.ref q1, .int 0, .int 0, .ref q2, .ref q3, .ref q4, .ref q5, .ref q6, .int 0, .ref q7, .ref q8, .int 0, .int 0, .int 0, .int 0, .int 0, .ref q9, .ref q10, .ref q15, .ref q16, .null, .int 0, .int 0, .int 0, .int 0, .null, .null, .int 0, .int 0, .int 0, .null, .null, .int 0, .int 0, .null, .null])), (q1, .inl (w.2.1 1, 3, .inl (fun _ => 0))), (q2, .inl (w.2.1 1, 5, .inl (fun _ => 0))), (q3, .inl (w.2.1 1, 5, .inl (fun _ => 0))), (q4, .inl (w.2.1 1, 5, .inl (fun _ => 0))), (q5, .inl (w.2.1 1, 5, .inl (fun _ => 0))), (q6, .inl (w.2.1 1, 160, .inl (fun _ => 0))), (q7, .inl (w.2.1 1, 1200, .inl (fun _ => 0))), (q8, .inl (w.2.1 1, 24, .inl (fun _ => 0))), (q9, .inl (w.2.1 1, 14, .inl (fun _ => 0))), (q10, .inl (w.2.1 1, 4, .inl mA10_4)), (q15, .inl (w.2.1 1, 4, .inl (fun _ => 0))), (q16, .inl (w.2.1 1, 160, .inl (fun _ => 0))), (q17, .inl (w.2.1 1, 29, .inl mA17_4))]) E rfl (vp_in_nI (n := 3) (by decide) (by decide)) rfl rfl dX12_init_136 ?_
  refine yi_dup E dX12_init_137 rfl ?_
  refine yi_iconst (v := 4) E dX12_init_138 (by decide) ?_
  refine yi_bipush (v := 115) E dX12_init_139 (by decide) ?_
  refine yi_iastc (q := 13) (f' := mA17_5) (ws' := [(h0, .inr (12, [.ref q1, .int 0, .int 0, .ref q2, .ref q3, .ref q4, .ref q5, .ref q6, .int 0, .ref q7, .ref q8, .int 0, .int 0, .int 0, .int 0, .int 0, .ref q9, .ref q10, .ref q15, .ref q16, .null, .int 0, .int 0, .int 0, .int 0, .null, .null, .int 0, .int 0, .int 0, .null, .null, .int 0, .int 0, .null, .null])), (q1, .inl (w.2.1 1, 3, .inl (fun _ => 0))), (q2, .inl (w.2.1 1, 5, .inl (fun _ => 0))), (q3, .inl (w.2.1 1, 5, .inl (fun _ => 0))), (q4, .inl (w.2.1 1, 5, .inl (fun _ => 0))), (q5, .inl (w.2.1 1, 5, .inl (fun _ => 0))), (q6, .inl (w.2.1 1, 160, .inl (fun _ => 0))), (q7, .inl (w.2.1 1, 1200, .inl (fun _ => 0))), (q8, .inl (w.2.1 1, 24, .inl (fun _ => 0))), (q9, .inl (w.2.1 1, 14, .inl (fun _ => 0))), (q10, .inl (w.2.1 1, 4, .inl mA10_4)), (q15, .inl (w.2.1 1, 4, .inl (fun _ => 0))), (q16, .inl (w.2.1 1, 160, .inl (fun _ => 0))), (q17, .inl (w.2.1 1, 29, .inl mA17_5))]) E rfl (vp_in_nI (n := 4) (by decide) (by decide)) rfl rfl dX12_init_141 ?_
  refine yi_dup E dX12_init_142 rfl ?_
  refine yi_iconst (v := 5) E dX12_init_143 (by decide) ?_
  refine yi_bipush (v := 32) E dX12_init_144 (by decide) ?_
  refine yi_iastc (q := 13) (f' := mA17_6) (ws' := [(h0, .inr (12, [.ref q1, .int 0, .int 0, .ref q2, .ref q3, .ref q4, .ref q5, .ref q6, .int 0, .ref q7, .ref q8, .int 0, .int 0, .int 0, .int 0, .int 0, .ref q9, .ref q10, .ref q15, .ref q16, .null, .int 0, .int 0, .int 0, .int 0, .null, .null, .int 0, .int 0, .int 0, .null, .null, .int 0, .int 0, .null, .null])), (q1, .inl (w.2.1 1, 3, .inl (fun _ => 0))), (q2, .inl (w.2.1 1, 5, .inl (fun _ => 0))), (q3, .inl (w.2.1 1, 5, .inl (fun _ => 0))), (q4, .inl (w.2.1 1, 5, .inl (fun _ => 0))), (q5, .inl (w.2.1 1, 5, .inl (fun _ => 0))), (q6, .inl (w.2.1 1, 160, .inl (fun _ => 0))), (q7, .inl (w.2.1 1, 1200, .inl (fun _ => 0))), (q8, .inl (w.2.1 1, 24, .inl (fun _ => 0))), (q9, .inl (w.2.1 1, 14, .inl (fun _ => 0))), (q10, .inl (w.2.1 1, 4, .inl mA10_4)), (q15, .inl (w.2.1 1, 4, .inl (fun _ => 0))), (q16, .inl (w.2.1 1, 160, .inl (fun _ => 0))), (q17, .inl (w.2.1 1, 29, .inl mA17_6))]) E rfl (vp_in_nI (n := 5) (by decide) (by decide)) rfl rfl dX12_init_146 ?_
  refine yi_dup E dX12_init_147 rfl ?_
  refine yi_bipush (v := 6) E dX12_init_148 (by decide) ?_
  refine yi_bipush (v := 52) E dX12_init_150 (by decide) ?_
  refine yi_iastc (q := 13) (f' := mA17_7) (ws' := [(h0, .inr (12, [.ref q1, .int 0, .int 0, .ref q2, .ref q3, .ref q4, .ref q5, .ref q6, .int 0, .ref q7, .ref q8, .int 0, .int 0, .int 0, .int 0, .int 0, .ref q9, .ref q10, .ref q15, .ref q16, .null, .int 0, .int 0, .int 0, .int 0, .null, .null, .int 0, .int 0, .int 0, .null, .null, .int 0, .int 0, .null, .null])), (q1, .inl (w.2.1 1, 3, .inl (fun _ => 0))), (q2, .inl (w.2.1 1, 5, .inl (fun _ => 0))), (q3, .inl (w.2.1 1, 5, .inl (fun _ => 0))), (q4, .inl (w.2.1 1, 5, .inl (fun _ => 0))), (q5, .inl (w.2.1 1, 5, .inl (fun _ => 0))), (q6, .inl (w.2.1 1, 160, .inl (fun _ => 0))), (q7, .inl (w.2.1 1, 1200, .inl (fun _ => 0))), (q8, .inl (w.2.1 1, 24, .inl (fun _ => 0))), (q9, .inl (w.2.1 1, 14, .inl (fun _ => 0))), (q10, .inl (w.2.1 1, 4, .inl mA10_4)), (q15, .inl (w.2.1 1, 4, .inl (fun _ => 0))), (q16, .inl (w.2.1 1, 160, .inl (fun _ => 0))), (q17, .inl (w.2.1 1, 29, .inl mA17_7))]) E rfl (vp_in_nI (n := 6) (by decide) (by decide)) rfl rfl dX12_init_152 ?_
  refine yi_dup E dX12_init_153 rfl ?_
  refine yi_bipush (v := 7) E dX12_init_154 (by decide) ?_
  refine yi_bipush (v := 32) E dX12_init_156 (by decide) ?_
  refine yi_iastc (q := 13) (f' := mA17_8) (ws' := [(h0, .inr (12, [.ref q1, .int 0, .int 0, .ref q2, .ref q3, .ref q4, .ref q5, .ref q6, .int 0, .ref q7, .ref q8, .int 0, .int 0, .int 0, .int 0, .int 0, .ref q9, .ref q10, .ref q15, .ref q16, .null, .int 0, .int 0, .int 0, .int 0, .null, .null, .int 0, .int 0, .int 0, .null, .null, .int 0, .int 0, .null, .null])), (q1, .inl (w.2.1 1, 3, .inl (fun _ => 0))), (q2, .inl (w.2.1 1, 5, .inl (fun _ => 0))), (q3, .inl (w.2.1 1, 5, .inl (fun _ => 0))), (q4, .inl (w.2.1 1, 5, .inl (fun _ => 0))), (q5, .inl (w.2.1 1, 5, .inl (fun _ => 0))), (q6, .inl (w.2.1 1, 160, .inl (fun _ => 0))), (q7, .inl (w.2.1 1, 1200, .inl (fun _ => 0))), (q8, .inl (w.2.1 1, 24, .inl (fun _ => 0))), (q9, .inl (w.2.1 1, 14, .inl (fun _ => 0))), (q10, .inl (w.2.1 1, 4, .inl mA10_4)), (q15, .inl (w.2.1 1, 4, .inl (fun _ => 0))), (q16, .inl (w.2.1 1, 160, .inl (fun _ => 0))), (q17, .inl (w.2.1 1, 29, .inl mA17_8))]) E rfl (vp_in_nI (n := 7) (by decide) (by decide)) rfl rfl dX12_init_158 ?_
  refine yi_dup E dX12_init_159 rfl ?_
  refine yi_bipush (v := 8) E dX12_init_160 (by decide) ?_
  refine yi_bipush (v := 59) E dX12_init_162 (by decide) ?_
  refine yi_iastc (q := 13) (f' := mA17_9) (ws' := [(h0, .inr (12, [.ref q1, .int 0, .int 0, .ref q2, .ref q3, .ref q4, .ref q5, .ref q6, .int 0, .ref q7, .ref q8, .int 0, .int 0, .int 0, .int 0, .int 0, .ref q9, .ref q10, .ref q15, .ref q16, .null, .int 0, .int 0, .int 0, .int 0, .null, .null, .int 0, .int 0, .int 0, .null, .null, .int 0, .int 0, .null, .null])), (q1, .inl (w.2.1 1, 3, .inl (fun _ => 0))), (q2, .inl (w.2.1 1, 5, .inl (fun _ => 0))), (q3, .inl (w.2.1 1, 5, .inl (fun _ => 0))), (q4, .inl (w.2.1 1, 5, .inl (fun _ => 0))), (q5, .inl (w.2.1 1, 5, .inl (fun _ => 0))), (q6, .inl (w.2.1 1, 160, .inl (fun _ => 0))), (q7, .inl (w.2.1 1, 1200, .inl (fun _ => 0))), (q8, .inl (w.2.1 1, 24, .inl (fun _ => 0))), (q9, .inl (w.2.1 1, 14, .inl (fun _ => 0))), (q10, .inl (w.2.1 1, 4, .inl mA10_4)), (q15, .inl (w.2.1 1, 4, .inl (fun _ => 0))), (q16, .inl (w.2.1 1, 160, .inl (fun _ => 0))), (q17, .inl (w.2.1 1, 29, .inl mA17_9))]) E rfl (vp_in_nI (n := 8) (by decide) (by decide)) rfl rfl dX12_init_164 ?_
  refine yi_dup E dX12_init_165 rfl ?_
  refine yi_bipush (v := 9) E dX12_init_166 (by decide) ?_
  refine yi_bipush (v := 32) E dX12_init_168 (by decide) ?_
  refine yi_iastc (q := 13) (f' := mA17_10) (ws' := [(h0, .inr (12, [.ref q1, .int 0, .int 0, .ref q2, .ref q3, .ref q4, .ref q5, .ref q6, .int 0, .ref q7, .ref q8, .int 0, .int 0, .int 0, .int 0, .int 0, .ref q9, .ref q10, .ref q15, .ref q16, .null, .int 0, .int 0, .int 0, .int 0, .null, .null, .int 0, .int 0, .int 0, .null, .null, .int 0, .int 0, .null, .null])), (q1, .inl (w.2.1 1, 3, .inl (fun _ => 0))), (q2, .inl (w.2.1 1, 5, .inl (fun _ => 0))), (q3, .inl (w.2.1 1, 5, .inl (fun _ => 0))), (q4, .inl (w.2.1 1, 5, .inl (fun _ => 0))), (q5, .inl (w.2.1 1, 5, .inl (fun _ => 0))), (q6, .inl (w.2.1 1, 160, .inl (fun _ => 0))), (q7, .inl (w.2.1 1, 1200, .inl (fun _ => 0))), (q8, .inl (w.2.1 1, 24, .inl (fun _ => 0))), (q9, .inl (w.2.1 1, 14, .inl (fun _ => 0))), (q10, .inl (w.2.1 1, 4, .inl mA10_4)), (q15, .inl (w.2.1 1, 4, .inl (fun _ => 0))), (q16, .inl (w.2.1 1, 160, .inl (fun _ => 0))), (q17, .inl (w.2.1 1, 29, .inl mA17_10))]) E rfl (vp_in_nI (n := 9) (by decide) (by decide)) rfl rfl dX12_init_170 ?_
  refine yi_dup E dX12_init_171 rfl ?_
  refine yi_bipush (v := 10) E dX12_init_172 (by decide) ?_
  refine yi_bipush (v := 119) E dX12_init_174 (by decide) ?_
  refine yi_iastc (q := 13) (f' := mA17_11) (ws' := [(h0, .inr (12, [.ref q1, .int 0, .int 0, .ref q2, .ref q3, .ref q4, .ref q5, .ref q6, .int 0, .ref q7, .ref q8, .int 0, .int 0, .int 0, .int 0, .int 0, .ref q9, .ref q10, .ref q15, .ref q16, .null, .int 0, .int 0, .int 0, .int 0, .null, .null, .int 0, .int 0, .int 0, .null, .null, .int 0, .int 0, .null, .null])), (q1, .inl (w.2.1 1, 3, .inl (fun _ => 0))), (q2, .inl (w.2.1 1, 5, .inl (fun _ => 0))), (q3, .inl (w.2.1 1, 5, .inl (fun _ => 0))), (q4, .inl (w.2.1 1, 5, .inl (fun _ => 0))), (q5, .inl (w.2.1 1, 5, .inl (fun _ => 0))), (q6, .inl (w.2.1 1, 160, .inl (fun _ => 0))), (q7, .inl (w.2.1 1, 1200, .inl (fun _ => 0))), (q8, .inl (w.2.1 1, 24, .inl (fun _ => 0))), (q9, .inl (w.2.1 1, 14, .inl (fun _ => 0))), (q10, .inl (w.2.1 1, 4, .inl mA10_4)), (q15, .inl (w.2.1 1, 4, .inl (fun _ => 0))), (q16, .inl (w.2.1 1, 160, .inl (fun _ => 0))), (q17, .inl (w.2.1 1, 29, .inl mA17_11))]) E rfl (vp_in_nI (n := 10) (by decide) (by decide)) rfl rfl dX12_init_176 ?_
  refine yi_dup E dX12_init_177 rfl ?_
  refine yi_bipush (v := 11) E dX12_init_178 (by decide) ?_
  refine yi_bipush (v := 111) E dX12_init_180 (by decide) ?_
  refine yi_iastc (q := 13) (f' := mA17_12) (ws' := [(h0, .inr (12, [.ref q1, .int 0, .int 0, .ref q2, .ref q3, .ref q4, .ref q5, .ref q6, .int 0, .ref q7, .ref q8, .int 0, .int 0, .int 0, .int 0, .int 0, .ref q9, .ref q10, .ref q15, .ref q16, .null, .int 0, .int 0, .int 0, .int 0, .null, .null, .int 0, .int 0, .int 0, .null, .null, .int 0, .int 0, .null, .null])), (q1, .inl (w.2.1 1, 3, .inl (fun _ => 0))), (q2, .inl (w.2.1 1, 5, .inl (fun _ => 0))), (q3, .inl (w.2.1 1, 5, .inl (fun _ => 0))), (q4, .inl (w.2.1 1, 5, .inl (fun _ => 0))), (q5, .inl (w.2.1 1, 5, .inl (fun _ => 0))), (q6, .inl (w.2.1 1, 160, .inl (fun _ => 0))), (q7, .inl (w.2.1 1, 1200, .inl (fun _ => 0))), (q8, .inl (w.2.1 1, 24, .inl (fun _ => 0))), (q9, .inl (w.2.1 1, 14, .inl (fun _ => 0))), (q10, .inl (w.2.1 1, 4, .inl mA10_4)), (q15, .inl (w.2.1 1, 4, .inl (fun _ => 0))), (q16, .inl (w.2.1 1, 160, .inl (fun _ => 0))), (q17, .inl (w.2.1 1, 29, .inl mA17_12))]) E rfl (vp_in_nI (n := 11) (by decide) (by decide)) rfl rfl dX12_init_182 ?_
  refine yi_dup E dX12_init_183 rfl ?_
  refine yi_bipush (v := 12) E dX12_init_184 (by decide) ?_
  refine yi_bipush (v := 114) E dX12_init_186 (by decide) ?_
  refine yi_iastc (q := 13) (f' := mA17_13) (ws' := [(h0, .inr (12, [.ref q1, .int 0, .int 0, .ref q2, .ref q3, .ref q4, .ref q5, .ref q6, .int 0, .ref q7, .ref q8, .int 0, .int 0, .int 0, .int 0, .int 0, .ref q9, .ref q10, .ref q15, .ref q16, .null, .int 0, .int 0, .int 0, .int 0, .null, .null, .int 0, .int 0, .int 0, .null, .null, .int 0, .int 0, .null, .null])), (q1, .inl (w.2.1 1, 3, .inl (fun _ => 0))), (q2, .inl (w.2.1 1, 5, .inl (fun _ => 0))), (q3, .inl (w.2.1 1, 5, .inl (fun _ => 0))), (q4, .inl (w.2.1 1, 5, .inl (fun _ => 0))), (q5, .inl (w.2.1 1, 5, .inl (fun _ => 0))), (q6, .inl (w.2.1 1, 160, .inl (fun _ => 0))), (q7, .inl (w.2.1 1, 1200, .inl (fun _ => 0))), (q8, .inl (w.2.1 1, 24, .inl (fun _ => 0))), (q9, .inl (w.2.1 1, 14, .inl (fun _ => 0))), (q10, .inl (w.2.1 1, 4, .inl mA10_4)), (q15, .inl (w.2.1 1, 4, .inl (fun _ => 0))), (q16, .inl (w.2.1 1, 160, .inl (fun _ => 0))), (q17, .inl (w.2.1 1, 29, .inl mA17_13))]) E rfl (vp_in_nI (n := 12) (by decide) (by decide)) rfl rfl dX12_init_188 ?_
  refine yi_dup E dX12_init_189 rfl ?_
  refine yi_bipush (v := 13) E dX12_init_190 (by decide) ?_
  refine yi_bipush (v := 116) E dX12_init_192 (by decide) ?_
  refine yi_iastc (q := 13) (f' := mA17_14) (ws' := [(h0, .inr (12, [.ref q1, .int 0, .int 0, .ref q2, .ref q3, .ref q4, .ref q5, .ref q6, .int 0, .ref q7, .ref q8, .int 0, .int 0, .int 0, .int 0, .int 0, .ref q9, .ref q10, .ref q15, .ref q16, .null, .int 0, .int 0, .int 0, .int 0, .null, .null, .int 0, .int 0, .int 0, .null, .null, .int 0, .int 0, .null, .null])), (q1, .inl (w.2.1 1, 3, .inl (fun _ => 0))), (q2, .inl (w.2.1 1, 5, .inl (fun _ => 0))), (q3, .inl (w.2.1 1, 5, .inl (fun _ => 0))), (q4, .inl (w.2.1 1, 5, .inl (fun _ => 0))), (q5, .inl (w.2.1 1, 5, .inl (fun _ => 0))), (q6, .inl (w.2.1 1, 160, .inl (fun _ => 0))), (q7, .inl (w.2.1 1, 1200, .inl (fun _ => 0))), (q8, .inl (w.2.1 1, 24, .inl (fun _ => 0))), (q9, .inl (w.2.1 1, 14, .inl (fun _ => 0))), (q10, .inl (w.2.1 1, 4, .inl mA10_4)), (q15, .inl (w.2.1 1, 4, .inl (fun _ => 0))), (q16, .inl (w.2.1 1, 160, .inl (fun _ => 0))), (q17, .inl (w.2.1 1, 29, .inl mA17_14))]) E rfl (vp_in_nI (n := 13) (by decide) (by decide)) rfl rfl dX12_init_194 ?_
  refine yi_dup E dX12_init_195 rfl ?_
  refine yi_bipush (v := 14) E dX12_init_196 (by decide) ?_
  refine yi_bipush (v := 104) E dX12_init_198 (by decide) ?_
  refine yi_iastc (q := 13) (f' := mA17_15) (ws' := [(h0, .inr (12, [.ref q1, .int 0, .int 0, .ref q2, .ref q3, .ref q4, .ref q5, .ref q6, .int 0, .ref q7, .ref q8, .int 0, .int 0, .int 0, .int 0, .int 0, .ref q9, .ref q10, .ref q15, .ref q16, .null, .int 0, .int 0, .int 0, .int 0, .null, .null, .int 0, .int 0, .int 0, .null, .null, .int 0, .int 0, .null, .null])), (q1, .inl (w.2.1 1, 3, .inl (fun _ => 0))), (q2, .inl (w.2.1 1, 5, .inl (fun _ => 0))), (q3, .inl (w.2.1 1, 5, .inl (fun _ => 0))), (q4, .inl (w.2.1 1, 5, .inl (fun _ => 0))), (q5, .inl (w.2.1 1, 5, .inl (fun _ => 0))), (q6, .inl (w.2.1 1, 160, .inl (fun _ => 0))), (q7, .inl (w.2.1 1, 1200, .inl (fun _ => 0))), (q8, .inl (w.2.1 1, 24, .inl (fun _ => 0))), (q9, .inl (w.2.1 1, 14, .inl (fun _ => 0))), (q10, .inl (w.2.1 1, 4, .inl mA10_4)), (q15, .inl (w.2.1 1, 4, .inl (fun _ => 0))), (q16, .inl (w.2.1 1, 160, .inl (fun _ => 0))), (q17, .inl (w.2.1 1, 29, .inl mA17_15))]) E rfl (vp_in_nI (n := 14) (by decide) (by decide)) rfl rfl dX12_init_200 ?_
  refine yi_dup E dX12_init_201 rfl ?_
  refine yi_bipush (v := 15) E dX12_init_202 (by decide) ?_
  refine yi_bipush (v := 32) E dX12_init_204 (by decide) ?_
  refine yi_iastc (q := 13) (f' := mA17_16) (ws' := [(h0, .inr (12, [.ref q1, .int 0, .int 0, .ref q2, .ref q3, .ref q4, .ref q5, .ref q6, .int 0, .ref q7, .ref q8, .int 0, .int 0, .int 0, .int 0, .int 0, .ref q9, .ref q10, .ref q15, .ref q16, .null, .int 0, .int 0, .int 0, .int 0, .null, .null, .int 0, .int 0, .int 0, .null, .null, .int 0, .int 0, .null, .null])), (q1, .inl (w.2.1 1, 3, .inl (fun _ => 0))), (q2, .inl (w.2.1 1, 5, .inl (fun _ => 0))), (q3, .inl (w.2.1 1, 5, .inl (fun _ => 0))), (q4, .inl (w.2.1 1, 5, .inl (fun _ => 0))), (q5, .inl (w.2.1 1, 5, .inl (fun _ => 0))), (q6, .inl (w.2.1 1, 160, .inl (fun _ => 0))), (q7, .inl (w.2.1 1, 1200, .inl (fun _ => 0))), (q8, .inl (w.2.1 1, 24, .inl (fun _ => 0))), (q9, .inl (w.2.1 1, 14, .inl (fun _ => 0))), (q10, .inl (w.2.1 1, 4, .inl mA10_4)), (q15, .inl (w.2.1 1, 4, .inl (fun _ => 0))), (q16, .inl (w.2.1 1, 160, .inl (fun _ => 0))), (q17, .inl (w.2.1 1, 29, .inl mA17_16))]) E rfl (vp_in_nI (n := 15) (by decide) (by decide)) rfl rfl dX12_init_206 ?_
  refine yi_dup E dX12_init_207 rfl ?_
  refine yi_bipush (v := 16) E dX12_init_208 (by decide) ?_
  refine yi_bipush (v := 53) E dX12_init_210 (by decide) ?_
  refine yi_iastc (q := 13) (f' := mA17_17) (ws' := [(h0, .inr (12, [.ref q1, .int 0, .int 0, .ref q2, .ref q3, .ref q4, .ref q5, .ref q6, .int 0, .ref q7, .ref q8, .int 0, .int 0, .int 0, .int 0, .int 0, .ref q9, .ref q10, .ref q15, .ref q16, .null, .int 0, .int 0, .int 0, .int 0, .null, .null, .int 0, .int 0, .int 0, .null, .null, .int 0, .int 0, .null, .null])), (q1, .inl (w.2.1 1, 3, .inl (fun _ => 0))), (q2, .inl (w.2.1 1, 5, .inl (fun _ => 0))), (q3, .inl (w.2.1 1, 5, .inl (fun _ => 0))), (q4, .inl (w.2.1 1, 5, .inl (fun _ => 0))), (q5, .inl (w.2.1 1, 5, .inl (fun _ => 0))), (q6, .inl (w.2.1 1, 160, .inl (fun _ => 0))), (q7, .inl (w.2.1 1, 1200, .inl (fun _ => 0))), (q8, .inl (w.2.1 1, 24, .inl (fun _ => 0))), (q9, .inl (w.2.1 1, 14, .inl (fun _ => 0))), (q10, .inl (w.2.1 1, 4, .inl mA10_4)), (q15, .inl (w.2.1 1, 4, .inl (fun _ => 0))), (q16, .inl (w.2.1 1, 160, .inl (fun _ => 0))), (q17, .inl (w.2.1 1, 29, .inl mA17_17))]) E rfl (vp_in_nI (n := 16) (by decide) (by decide)) rfl rfl dX12_init_212 ?_
  refine yi_dup E dX12_init_213 rfl ?_
  refine yi_bipush (v := 17) E dX12_init_214 (by decide) ?_
  refine yi_bipush (v := 32) E dX12_init_216 (by decide) ?_
  refine yi_iastc (q := 13) (f' := mA17_18) (ws' := [(h0, .inr (12, [.ref q1, .int 0, .int 0, .ref q2, .ref q3, .ref q4, .ref q5, .ref q6, .int 0, .ref q7, .ref q8, .int 0, .int 0, .int 0, .int 0, .int 0, .ref q9, .ref q10, .ref q15, .ref q16, .null, .int 0, .int 0, .int 0, .int 0, .null, .null, .int 0, .int 0, .int 0, .null, .null, .int 0, .int 0, .null, .null])), (q1, .inl (w.2.1 1, 3, .inl (fun _ => 0))), (q2, .inl (w.2.1 1, 5, .inl (fun _ => 0))), (q3, .inl (w.2.1 1, 5, .inl (fun _ => 0))), (q4, .inl (w.2.1 1, 5, .inl (fun _ => 0))), (q5, .inl (w.2.1 1, 5, .inl (fun _ => 0))), (q6, .inl (w.2.1 1, 160, .inl (fun _ => 0))), (q7, .inl (w.2.1 1, 1200, .inl (fun _ => 0))), (q8, .inl (w.2.1 1, 24, .inl (fun _ => 0))), (q9, .inl (w.2.1 1, 14, .inl (fun _ => 0))), (q10, .inl (w.2.1 1, 4, .inl mA10_4)), (q15, .inl (w.2.1 1, 4, .inl (fun _ => 0))), (q16, .inl (w.2.1 1, 160, .inl (fun _ => 0))), (q17, .inl (w.2.1 1, 29, .inl mA17_18))]) E rfl (vp_in_nI (n := 17) (by decide) (by decide)) rfl rfl dX12_init_218 ?_
  refine yi_dup E dX12_init_219 rfl ?_
  refine yi_bipush (v := 18) E dX12_init_220 (by decide) ?_
  refine yi_bipush (v := 59) E dX12_init_222 (by decide) ?_
  refine yi_iastc (q := 13) (f' := mA17_19) (ws' := [(h0, .inr (12, [.ref q1, .int 0, .int 0, .ref q2, .ref q3, .ref q4, .ref q5, .ref q6, .int 0, .ref q7, .ref q8, .int 0, .int 0, .int 0, .int 0, .int 0, .ref q9, .ref q10, .ref q15, .ref q16, .null, .int 0, .int 0, .int 0, .int 0, .null, .null, .int 0, .int 0, .int 0, .null, .null, .int 0, .int 0, .null, .null])), (q1, .inl (w.2.1 1, 3, .inl (fun _ => 0))), (q2, .inl (w.2.1 1, 5, .inl (fun _ => 0))), (q3, .inl (w.2.1 1, 5, .inl (fun _ => 0))), (q4, .inl (w.2.1 1, 5, .inl (fun _ => 0))), (q5, .inl (w.2.1 1, 5, .inl (fun _ => 0))), (q6, .inl (w.2.1 1, 160, .inl (fun _ => 0))), (q7, .inl (w.2.1 1, 1200, .inl (fun _ => 0))), (q8, .inl (w.2.1 1, 24, .inl (fun _ => 0))), (q9, .inl (w.2.1 1, 14, .inl (fun _ => 0))), (q10, .inl (w.2.1 1, 4, .inl mA10_4)), (q15, .inl (w.2.1 1, 4, .inl (fun _ => 0))), (q16, .inl (w.2.1 1, 160, .inl (fun _ => 0))), (q17, .inl (w.2.1 1, 29, .inl mA17_19))]) E rfl (vp_in_nI (n := 18) (by decide) (by decide)) rfl rfl dX12_init_224 ?_
  refine yi_dup E dX12_init_225 rfl ?_
  refine yi_bipush (v := 19) E dX12_init_226 (by decide) ?_
  refine yi_bipush (v := 32) E dX12_init_228 (by decide) ?_
  refine yi_iastc (q := 13) (f' := mA17_20) (ws' := [(h0, .inr (12, [.ref q1, .int 0, .int 0, .ref q2, .ref q3, .ref q4, .ref q5, .ref q6, .int 0, .ref q7, .ref q8, .int 0, .int 0, .int 0, .int 0, .int 0, .ref q9, .ref q10, .ref q15, .ref q16, .null, .int 0, .int 0, .int 0, .int 0, .null, .null, .int 0, .int 0, .int 0, .null, .null, .int 0, .int 0, .null, .null])), (q1, .inl (w.2.1 1, 3, .inl (fun _ => 0))), (q2, .inl (w.2.1 1, 5, .inl (fun _ => 0))), (q3, .inl (w.2.1 1, 5, .inl (fun _ => 0))), (q4, .inl (w.2.1 1, 5, .inl (fun _ => 0))), (q5, .inl (w.2.1 1, 5, .inl (fun _ => 0))), (q6, .inl (w.2.1 1, 160, .inl (fun _ => 0))), (q7, .inl (w.2.1 1, 1200, .inl (fun _ => 0))), (q8, .inl (w.2.1 1, 24, .inl (fun _ => 0))), (q9, .inl (w.2.1 1, 14, .inl (fun _ => 0))), (q10, .inl (w.2.1 1, 4, .inl mA10_4)), (q15, .inl (w.2.1 1, 4, .inl (fun _ => 0))), (q16, .inl (w.2.1 1, 160, .inl (fun _ => 0))), (q17, .inl (w.2.1 1, 29, .inl mA17_20))]) E rfl (vp_in_nI (n := 19) (by decide) (by decide)) rfl rfl dX12_init_230 ?_
  refine yi_dup E dX12_init_231 rfl ?_
  refine yi_bipush (v := 20) E dX12_init_232 (by decide) ?_
  refine yi_bipush (v := 104) E dX12_init_234 (by decide) ?_
  refine yi_iastc (q := 13) (f' := mA17_21) (ws' := [(h0, .inr (12, [.ref q1, .int 0, .int 0, .ref q2, .ref q3, .ref q4, .ref q5, .ref q6, .int 0, .ref q7, .ref q8, .int 0, .int 0, .int 0, .int 0, .int 0, .ref q9, .ref q10, .ref q15, .ref q16, .null, .int 0, .int 0, .int 0, .int 0, .null, .null, .int 0, .int 0, .int 0, .null, .null, .int 0, .int 0, .null, .null])), (q1, .inl (w.2.1 1, 3, .inl (fun _ => 0))), (q2, .inl (w.2.1 1, 5, .inl (fun _ => 0))), (q3, .inl (w.2.1 1, 5, .inl (fun _ => 0))), (q4, .inl (w.2.1 1, 5, .inl (fun _ => 0))), (q5, .inl (w.2.1 1, 5, .inl (fun _ => 0))), (q6, .inl (w.2.1 1, 160, .inl (fun _ => 0))), (q7, .inl (w.2.1 1, 1200, .inl (fun _ => 0))), (q8, .inl (w.2.1 1, 24, .inl (fun _ => 0))), (q9, .inl (w.2.1 1, 14, .inl (fun _ => 0))), (q10, .inl (w.2.1 1, 4, .inl mA10_4)), (q15, .inl (w.2.1 1, 4, .inl (fun _ => 0))), (q16, .inl (w.2.1 1, 160, .inl (fun _ => 0))), (q17, .inl (w.2.1 1, 29, .inl mA17_21))]) E rfl (vp_in_nI (n := 20) (by decide) (by decide)) rfl rfl dX12_init_236 ?_
  refine yi_dup E dX12_init_237 rfl ?_
  refine yi_bipush (v := 21) E dX12_init_238 (by decide) ?_
  refine yi_bipush (v := 97) E dX12_init_240 (by decide) ?_
  refine yi_iastc (q := 13) (f' := mA17_22) (ws' := [(h0, .inr (12, [.ref q1, .int 0, .int 0, .ref q2, .ref q3, .ref q4, .ref q5, .ref q6, .int 0, .ref q7, .ref q8, .int 0, .int 0, .int 0, .int 0, .int 0, .ref q9, .ref q10, .ref q15, .ref q16, .null, .int 0, .int 0, .int 0, .int 0, .null, .null, .int 0, .int 0, .int 0, .null, .null, .int 0, .int 0, .null, .null])), (q1, .inl (w.2.1 1, 3, .inl (fun _ => 0))), (q2, .inl (w.2.1 1, 5, .inl (fun _ => 0))), (q3, .inl (w.2.1 1, 5, .inl (fun _ => 0))), (q4, .inl (w.2.1 1, 5, .inl (fun _ => 0))), (q5, .inl (w.2.1 1, 5, .inl (fun _ => 0))), (q6, .inl (w.2.1 1, 160, .inl (fun _ => 0))), (q7, .inl (w.2.1 1, 1200, .inl (fun _ => 0))), (q8, .inl (w.2.1 1, 24, .inl (fun _ => 0))), (q9, .inl (w.2.1 1, 14, .inl (fun _ => 0))), (q10, .inl (w.2.1 1, 4, .inl mA10_4)), (q15, .inl (w.2.1 1, 4, .inl (fun _ => 0))), (q16, .inl (w.2.1 1, 160, .inl (fun _ => 0))), (q17, .inl (w.2.1 1, 29, .inl mA17_22))]) E rfl (vp_in_nI (n := 21) (by decide) (by decide)) rfl rfl dX12_init_242 ?_
  refine yi_dup E dX12_init_243 rfl ?_
  refine yi_bipush (v := 22) E dX12_init_244 (by decide) ?_
  refine yi_bipush (v := 110) E dX12_init_246 (by decide) ?_
  refine yi_iastc (q := 13) (f' := mA17_23) (ws' := [(h0, .inr (12, [.ref q1, .int 0, .int 0, .ref q2, .ref q3, .ref q4, .ref q5, .ref q6, .int 0, .ref q7, .ref q8, .int 0, .int 0, .int 0, .int 0, .int 0, .ref q9, .ref q10, .ref q15, .ref q16, .null, .int 0, .int 0, .int 0, .int 0, .null, .null, .int 0, .int 0, .int 0, .null, .null, .int 0, .int 0, .null, .null])), (q1, .inl (w.2.1 1, 3, .inl (fun _ => 0))), (q2, .inl (w.2.1 1, 5, .inl (fun _ => 0))), (q3, .inl (w.2.1 1, 5, .inl (fun _ => 0))), (q4, .inl (w.2.1 1, 5, .inl (fun _ => 0))), (q5, .inl (w.2.1 1, 5, .inl (fun _ => 0))), (q6, .inl (w.2.1 1, 160, .inl (fun _ => 0))), (q7, .inl (w.2.1 1, 1200, .inl (fun _ => 0))), (q8, .inl (w.2.1 1, 24, .inl (fun _ => 0))), (q9, .inl (w.2.1 1, 14, .inl (fun _ => 0))), (q10, .inl (w.2.1 1, 4, .inl mA10_4)), (q15, .inl (w.2.1 1, 4, .inl (fun _ => 0))), (q16, .inl (w.2.1 1, 160, .inl (fun _ => 0))), (q17, .inl (w.2.1 1, 29, .inl mA17_23))]) E rfl (vp_in_nI (n := 22) (by decide) (by decide)) rfl rfl dX12_init_248 ?_
  refine yi_dup E dX12_init_249 rfl ?_
  refine yi_bipush (v := 23) E dX12_init_250 (by decide) ?_
  refine yi_bipush (v := 100) E dX12_init_252 (by decide) ?_
  refine yi_iastc (q := 13) (f' := mA17_24) (ws' := [(h0, .inr (12, [.ref q1, .int 0, .int 0, .ref q2, .ref q3, .ref q4, .ref q5, .ref q6, .int 0, .ref q7, .ref q8, .int 0, .int 0, .int 0, .int 0, .int 0, .ref q9, .ref q10, .ref q15, .ref q16, .null, .int 0, .int 0, .int 0, .int 0, .null, .null, .int 0, .int 0, .int 0, .null, .null, .int 0, .int 0, .null, .null])), (q1, .inl (w.2.1 1, 3, .inl (fun _ => 0))), (q2, .inl (w.2.1 1, 5, .inl (fun _ => 0))), (q3, .inl (w.2.1 1, 5, .inl (fun _ => 0))), (q4, .inl (w.2.1 1, 5, .inl (fun _ => 0))), (q5, .inl (w.2.1 1, 5, .inl (fun _ => 0))), (q6, .inl (w.2.1 1, 160, .inl (fun _ => 0))), (q7, .inl (w.2.1 1, 1200, .inl (fun _ => 0))), (q8, .inl (w.2.1 1, 24, .inl (fun _ => 0))), (q9, .inl (w.2.1 1, 14, .inl (fun _ => 0))), (q10, .inl (w.2.1 1, 4, .inl mA10_4)), (q15, .inl (w.2.1 1, 4, .inl (fun _ => 0))), (q16, .inl (w.2.1 1, 160, .inl (fun _ => 0))), (q17, .inl (w.2.1 1, 29, .inl mA17_24))]) E rfl (vp_in_nI (n := 23) (by decide) (by decide)) rfl rfl dX12_init_254 ?_
  refine yi_dup E dX12_init_255 rfl ?_
  refine yi_bipush (v := 24) E dX12_init_256 (by decide) ?_
  refine yi_bipush (v := 115) E dX12_init_258 (by decide) ?_
  refine yi_iastc (q := 13) (f' := mA17_25) (ws' := [(h0, .inr (12, [.ref q1, .int 0, .int 0, .ref q2, .ref q3, .ref q4, .ref q5, .ref q6, .int 0, .ref q7, .ref q8, .int 0, .int 0, .int 0, .int 0, .int 0, .ref q9, .ref q10, .ref q15, .ref q16, .null, .int 0, .int 0, .int 0, .int 0, .null, .null, .int 0, .int 0, .int 0, .null, .null, .int 0, .int 0, .null, .null])), (q1, .inl (w.2.1 1, 3, .inl (fun _ => 0))), (q2, .inl (w.2.1 1, 5, .inl (fun _ => 0))), (q3, .inl (w.2.1 1, 5, .inl (fun _ => 0))), (q4, .inl (w.2.1 1, 5, .inl (fun _ => 0))), (q5, .inl (w.2.1 1, 5, .inl (fun _ => 0))), (q6, .inl (w.2.1 1, 160, .inl (fun _ => 0))), (q7, .inl (w.2.1 1, 1200, .inl (fun _ => 0))), (q8, .inl (w.2.1 1, 24, .inl (fun _ => 0))), (q9, .inl (w.2.1 1, 14, .inl (fun _ => 0))), (q10, .inl (w.2.1 1, 4, .inl mA10_4)), (q15, .inl (w.2.1 1, 4, .inl (fun _ => 0))), (q16, .inl (w.2.1 1, 160, .inl (fun _ => 0))), (q17, .inl (w.2.1 1, 29, .inl mA17_25))]) E rfl (vp_in_nI (n := 24) (by decide) (by decide)) rfl rfl dX12_init_260 ?_
  refine yi_dup E dX12_init_261 rfl ?_
  refine yi_bipush (v := 25) E dX12_init_262 (by decide) ?_
  refine yi_bipush (v := 32) E dX12_init_264 (by decide) ?_
  refine yi_iastc (q := 13) (f' := mA17_26) (ws' := [(h0, .inr (12, [.ref q1, .int 0, .int 0, .ref q2, .ref q3, .ref q4, .ref q5, .ref q6, .int 0, .ref q7, .ref q8, .int 0, .int 0, .int 0, .int 0, .int 0, .ref q9, .ref q10, .ref q15, .ref q16, .null, .int 0, .int 0, .int 0, .int 0, .null, .null, .int 0, .int 0, .int 0, .null, .null, .int 0, .int 0, .null, .null])), (q1, .inl (w.2.1 1, 3, .inl (fun _ => 0))), (q2, .inl (w.2.1 1, 5, .inl (fun _ => 0))), (q3, .inl (w.2.1 1, 5, .inl (fun _ => 0))), (q4, .inl (w.2.1 1, 5, .inl (fun _ => 0))), (q5, .inl (w.2.1 1, 5, .inl (fun _ => 0))), (q6, .inl (w.2.1 1, 160, .inl (fun _ => 0))), (q7, .inl (w.2.1 1, 1200, .inl (fun _ => 0))), (q8, .inl (w.2.1 1, 24, .inl (fun _ => 0))), (q9, .inl (w.2.1 1, 14, .inl (fun _ => 0))), (q10, .inl (w.2.1 1, 4, .inl mA10_4)), (q15, .inl (w.2.1 1, 4, .inl (fun _ => 0))), (q16, .inl (w.2.1 1, 160, .inl (fun _ => 0))), (q17, .inl (w.2.1 1, 29, .inl mA17_26))]) E rfl (vp_in_nI (n := 25) (by decide) (by decide)) rfl rfl dX12_init_266 ?_
  refine yi_dup E dX12_init_267 rfl ?_
  refine yi_bipush (v := 26) E dX12_init_268 (by decide) ?_
  refine yi_bipush (v := 49) E dX12_init_270 (by decide) ?_
  refine yi_iastc (q := 13) (f' := mA17_27) (ws' := [(h0, .inr (12, [.ref q1, .int 0, .int 0, .ref q2, .ref q3, .ref q4, .ref q5, .ref q6, .int 0, .ref q7, .ref q8, .int 0, .int 0, .int 0, .int 0, .int 0, .ref q9, .ref q10, .ref q15, .ref q16, .null, .int 0, .int 0, .int 0, .int 0, .null, .null, .int 0, .int 0, .int 0, .null, .null, .int 0, .int 0, .null, .null])), (q1, .inl (w.2.1 1, 3, .inl (fun _ => 0))), (q2, .inl (w.2.1 1, 5, .inl (fun _ => 0))), (q3, .inl (w.2.1 1, 5, .inl (fun _ => 0))), (q4, .inl (w.2.1 1, 5, .inl (fun _ => 0))), (q5, .inl (w.2.1 1, 5, .inl (fun _ => 0))), (q6, .inl (w.2.1 1, 160, .inl (fun _ => 0))), (q7, .inl (w.2.1 1, 1200, .inl (fun _ => 0))), (q8, .inl (w.2.1 1, 24, .inl (fun _ => 0))), (q9, .inl (w.2.1 1, 14, .inl (fun _ => 0))), (q10, .inl (w.2.1 1, 4, .inl mA10_4)), (q15, .inl (w.2.1 1, 4, .inl (fun _ => 0))), (q16, .inl (w.2.1 1, 160, .inl (fun _ => 0))), (q17, .inl (w.2.1 1, 29, .inl mA17_27))]) E rfl (vp_in_nI (n := 26) (by decide) (by decide)) rfl rfl dX12_init_272 ?_
  refine yi_dup E dX12_init_273 rfl ?_
  refine yi_bipush (v := 27) E dX12_init_274 (by decide) ?_
  refine yi_bipush (v := 32) E dX12_init_276 (by decide) ?_
  refine yi_iastc (q := 13) (f' := mA17_28) (ws' := [(h0, .inr (12, [.ref q1, .int 0, .int 0, .ref q2, .ref q3, .ref q4, .ref q5, .ref q6, .int 0, .ref q7, .ref q8, .int 0, .int 0, .int 0, .int 0, .int 0, .ref q9, .ref q10, .ref q15, .ref q16, .null, .int 0, .int 0, .int 0, .int 0, .null, .null, .int 0, .int 0, .int 0, .null, .null, .int 0, .int 0, .null, .null])), (q1, .inl (w.2.1 1, 3, .inl (fun _ => 0))), (q2, .inl (w.2.1 1, 5, .inl (fun _ => 0))), (q3, .inl (w.2.1 1, 5, .inl (fun _ => 0))), (q4, .inl (w.2.1 1, 5, .inl (fun _ => 0))), (q5, .inl (w.2.1 1, 5, .inl (fun _ => 0))), (q6, .inl (w.2.1 1, 160, .inl (fun _ => 0))), (q7, .inl (w.2.1 1, 1200, .inl (fun _ => 0))), (q8, .inl (w.2.1 1, 24, .inl (fun _ => 0))), (q9, .inl (w.2.1 1, 14, .inl (fun _ => 0))), (q10, .inl (w.2.1 1, 4, .inl mA10_4)), (q15, .inl (w.2.1 1, 4, .inl (fun _ => 0))), (q16, .inl (w.2.1 1, 160, .inl (fun _ => 0))), (q17, .inl (w.2.1 1, 29, .inl mA17_28))]) E rfl (vp_in_nI (n := 27) (by decide) (by decide)) rfl rfl dX12_init_278 ?_
  refine yi_dup E dX12_init_279 rfl ?_
  refine yi_bipush (v := 28) E dX12_init_280 (by decide) ?_
  refine yi_bipush (v := 59) E dX12_init_282 (by decide) ?_
  refine yi_iastc (q := 13) (f' := mA17_29) (ws' := [(h0, .inr (12, [.ref q1, .int 0, .int 0, .ref q2, .ref q3, .ref q4, .ref q5, .ref q6, .int 0, .ref q7, .ref q8, .int 0, .int 0, .int 0, .int 0, .int 0, .ref q9, .ref q10, .ref q15, .ref q16, .null, .int 0, .int 0, .int 0, .int 0, .null, .null, .int 0, .int 0, .int 0, .null, .null, .int 0, .int 0, .null, .null])), (q1, .inl (w.2.1 1, 3, .inl (fun _ => 0))), (q2, .inl (w.2.1 1, 5, .inl (fun _ => 0))), (q3, .inl (w.2.1 1, 5, .inl (fun _ => 0))), (q4, .inl (w.2.1 1, 5, .inl (fun _ => 0))), (q5, .inl (w.2.1 1, 5, .inl (fun _ => 0))), (q6, .inl (w.2.1 1, 160, .inl (fun _ => 0))), (q7, .inl (w.2.1 1, 1200, .inl (fun _ => 0))), (q8, .inl (w.2.1 1, 24, .inl (fun _ => 0))), (q9, .inl (w.2.1 1, 14, .inl (fun _ => 0))), (q10, .inl (w.2.1 1, 4, .inl mA10_4)), (q15, .inl (w.2.1 1, 4, .inl (fun _ => 0))), (q16, .inl (w.2.1 1, 160, .inl (fun _ => 0))), (q17, .inl (w.2.1 1, 29, .inl mA17_29))]) E rfl (vp_in_nI (n := 28) (by decide) (by decide)) rfl rfl dX12_init_284 ?_
  refine yi_putF (q := 0) (ci := 12) (k := 20) (N := 36) (C := RX12) (T := TX12) (v := .ref q17) (ty := (.array .int)) (ws' := [(h0, .inr (12, [.ref q1, .int 0, .int 0, .ref q2, .ref q3, .ref q4, .ref q5, .ref q6, .int 0, .ref q7, .ref q8, .int 0, .int 0, .int 0, .int 0, .int 0, .ref q9, .ref q10, .ref q15, .ref q16, .ref q17, .int 0, .int 0, .int 0, .int 0, .null, .null, .int 0, .int 0, .int 0, .null, .null, .int 0, .int 0, .null, .null])), (q1, .inl (w.2.1 1, 3, .inl (fun _ => 0))), (q2, .inl (w.2.1 1, 5, .inl (fun _ => 0))), (q3, .inl (w.2.1 1, 5, .inl (fun _ => 0))), (q4, .inl (w.2.1 1, 5, .inl (fun _ => 0))), (q5, .inl (w.2.1 1, 5, .inl (fun _ => 0))), (q6, .inl (w.2.1 1, 160, .inl (fun _ => 0))), (q7, .inl (w.2.1 1, 1200, .inl (fun _ => 0))), (q8, .inl (w.2.1 1, 24, .inl (fun _ => 0))), (q9, .inl (w.2.1 1, 14, .inl (fun _ => 0))), (q10, .inl (w.2.1 1, 4, .inl mA10_4)), (q15, .inl (w.2.1 1, 4, .inl (fun _ => 0))), (q16, .inl (w.2.1 1, 160, .inl (fun _ => 0))), (q17, .inl (w.2.1 1, 29, .inl mA17_29))]) E rfl rfl wu_X12 tyX12 tyX12_ok nmX12 (by decide) wm_753 rfl hin rfl (by decide +kernel) rfl rfl (Nat.le_of_ble_eq_true rfl) rfl dX12_init_285 ?_
  refine yi_aload_n E dX12_init_288 0 rfl ?_
  refine yi_bipush (v := 96) E dX12_init_289 (by decide) ?_
  refine yi_newaI (N' := 96) E wm_698 (by decide) (by decide) (Nat.le_of_ble_eq_true rfl) ⟨Nat.le_of_ble_eq_true rfl, Nat.le_of_ble_eq_true rfl⟩ dX12_init_291 (fun q47 => ?_)
  refine yi_eq (ws' := [(h0, .inr (12, [.ref q1, .int 0, .int 0, .ref q2, .ref q3, .ref q4, .ref q5, .ref q6, .int 0, .ref q7, .ref q8, .int 0, .int 0, .int 0, .int 0, .int 0, .ref q9, .ref q10, .ref q15, .ref q16, .ref q17, .int 0, .int 0, .int 0, .int 0, .null, .null, .int 0, .int 0, .int 0, .null, .null, .int 0, .int 0, .null, .null])), (q1, .inl (w.2.1 1, 3, .inl (fun _ => 0))), (q2, .inl (w.2.1 1, 5, .inl (fun _ => 0))), (q3, .inl (w.2.1 1, 5, .inl (fun _ => 0))), (q4, .inl (w.2.1 1, 5, .inl (fun _ => 0))), (q5, .inl (w.2.1 1, 5, .inl (fun _ => 0))), (q6, .inl (w.2.1 1, 160, .inl (fun _ => 0))), (q7, .inl (w.2.1 1, 1200, .inl (fun _ => 0))), (q8, .inl (w.2.1 1, 24, .inl (fun _ => 0))), (q9, .inl (w.2.1 1, 14, .inl (fun _ => 0))), (q10, .inl (w.2.1 1, 4, .inl mA10_4)), (q15, .inl (w.2.1 1, 4, .inl (fun _ => 0))), (q16, .inl (w.2.1 1, 160, .inl (fun _ => 0))), (q17, .inl (w.2.1 1, 29, .inl mA17_29)), (q47, .inl (w.2.1 1, 96, .inl (fun _ => 0)))]) rfl ?_
  refine yi_dup E dX12_init_293 rfl ?_
  refine yi_iconst (v := 0) E dX12_init_294 (by decide) ?_
  refine yi_bipush (v := 98) E dX12_init_295 (by decide) ?_
  refine yi_iastc (q := 14) (f' := mA47_1) (ws' := [(h0, .inr (12, [.ref q1, .int 0, .int 0, .ref q2, .ref q3, .ref q4, .ref q5, .ref q6, .int 0, .ref q7, .ref q8, .int 0, .int 0, .int 0, .int 0, .int 0, .ref q9, .ref q10, .ref q15, .ref q16, .ref q17, .int 0, .int 0, .int 0, .int 0, .null, .null, .int 0, .int 0, .int 0, .null, .null, .int 0, .int 0, .null, .null])), (q1, .inl (w.2.1 1, 3, .inl (fun _ => 0))), (q2, .inl (w.2.1 1, 5, .inl (fun _ => 0))), (q3, .inl (w.2.1 1, 5, .inl (fun _ => 0))), (q4, .inl (w.2.1 1, 5, .inl (fun _ => 0))), (q5, .inl (w.2.1 1, 5, .inl (fun _ => 0))), (q6, .inl (w.2.1 1, 160, .inl (fun _ => 0))), (q7, .inl (w.2.1 1, 1200, .inl (fun _ => 0))), (q8, .inl (w.2.1 1, 24, .inl (fun _ => 0))), (q9, .inl (w.2.1 1, 14, .inl (fun _ => 0))), (q10, .inl (w.2.1 1, 4, .inl mA10_4)), (q15, .inl (w.2.1 1, 4, .inl (fun _ => 0))), (q16, .inl (w.2.1 1, 160, .inl (fun _ => 0))), (q17, .inl (w.2.1 1, 29, .inl mA17_29)), (q47, .inl (w.2.1 1, 96, .inl mA47_1))]) E rfl (vp_in_nI (n := 0) (by decide) (by decide)) rfl rfl dX12_init_297 ?_
  refine yi_dup E dX12_init_298 rfl ?_
  refine yi_iconst (v := 1) E dX12_init_299 (by decide) ?_
  refine yi_bipush (v := 108) E dX12_init_300 (by decide) ?_
  refine yi_iastc (q := 14) (f' := mA47_2) (ws' := [(h0, .inr (12, [.ref q1, .int 0, .int 0, .ref q2, .ref q3, .ref q4, .ref q5, .ref q6, .int 0, .ref q7, .ref q8, .int 0, .int 0, .int 0, .int 0, .int 0, .ref q9, .ref q10, .ref q15, .ref q16, .ref q17, .int 0, .int 0, .int 0, .int 0, .null, .null, .int 0, .int 0, .int 0, .null, .null, .int 0, .int 0, .null, .null])), (q1, .inl (w.2.1 1, 3, .inl (fun _ => 0))), (q2, .inl (w.2.1 1, 5, .inl (fun _ => 0))), (q3, .inl (w.2.1 1, 5, .inl (fun _ => 0))), (q4, .inl (w.2.1 1, 5, .inl (fun _ => 0))), (q5, .inl (w.2.1 1, 5, .inl (fun _ => 0))), (q6, .inl (w.2.1 1, 160, .inl (fun _ => 0))), (q7, .inl (w.2.1 1, 1200, .inl (fun _ => 0))), (q8, .inl (w.2.1 1, 24, .inl (fun _ => 0))), (q9, .inl (w.2.1 1, 14, .inl (fun _ => 0))), (q10, .inl (w.2.1 1, 4, .inl mA10_4)), (q15, .inl (w.2.1 1, 4, .inl (fun _ => 0))), (q16, .inl (w.2.1 1, 160, .inl (fun _ => 0))), (q17, .inl (w.2.1 1, 29, .inl mA17_29)), (q47, .inl (w.2.1 1, 96, .inl mA47_2))]) E rfl (vp_in_nI (n := 1) (by decide) (by decide)) rfl rfl dX12_init_302 ?_
  refine yi_dup E dX12_init_303 rfl ?_
  refine yi_iconst (v := 2) E dX12_init_304 (by decide) ?_
  refine yi_bipush (v := 111) E dX12_init_305 (by decide) ?_
  refine yi_iastc (q := 14) (f' := mA47_3) (ws' := [(h0, .inr (12, [.ref q1, .int 0, .int 0, .ref q2, .ref q3, .ref q4, .ref q5, .ref q6, .int 0, .ref q7, .ref q8, .int 0, .int 0, .int 0, .int 0, .int 0, .ref q9, .ref q10, .ref q15, .ref q16, .ref q17, .int 0, .int 0, .int 0, .int 0, .null, .null, .int 0, .int 0, .int 0, .null, .null, .int 0, .int 0, .null, .null])), (q1, .inl (w.2.1 1, 3, .inl (fun _ => 0))), (q2, .inl (w.2.1 1, 5, .inl (fun _ => 0))), (q3, .inl (w.2.1 1, 5, .inl (fun _ => 0))), (q4, .inl (w.2.1 1, 5, .inl (fun _ => 0))), (q5, .inl (w.2.1 1, 5, .inl (fun _ => 0))), (q6, .inl (w.2.1 1, 160, .inl (fun _ => 0))), (q7, .inl (w.2.1 1, 1200, .inl (fun _ => 0))), (q8, .inl (w.2.1 1, 24, .inl (fun _ => 0))), (q9, .inl (w.2.1 1, 14, .inl (fun _ => 0))), (q10, .inl (w.2.1 1, 4, .inl mA10_4)), (q15, .inl (w.2.1 1, 4, .inl (fun _ => 0))), (q16, .inl (w.2.1 1, 160, .inl (fun _ => 0))), (q17, .inl (w.2.1 1, 29, .inl mA17_29)), (q47, .inl (w.2.1 1, 96, .inl mA47_3))]) E rfl (vp_in_nI (n := 2) (by decide) (by decide)) rfl rfl dX12_init_307 ?_
  refine yi_dup E dX12_init_308 rfl ?_
  refine yi_iconst (v := 3) E dX12_init_309 (by decide) ?_
  refine yi_bipush (v := 119) E dX12_init_310 (by decide) ?_
  refine yi_iastc (q := 14) (f' := mA47_4) (ws' := [(h0, .inr (12, [.ref q1, .int 0, .int 0, .ref q2, .ref q3, .ref q4, .ref q5, .ref q6, .int 0, .ref q7, .ref q8, .int 0, .int 0, .int 0, .int 0, .int 0, .ref q9, .ref q10, .ref q15, .ref q16, .ref q17, .int 0, .int 0, .int 0, .int 0, .null, .null, .int 0, .int 0, .int 0, .null, .null, .int 0, .int 0, .null, .null])), (q1, .inl (w.2.1 1, 3, .inl (fun _ => 0))), (q2, .inl (w.2.1 1, 5, .inl (fun _ => 0))), (q3, .inl (w.2.1 1, 5, .inl (fun _ => 0))), (q4, .inl (w.2.1 1, 5, .inl (fun _ => 0))), (q5, .inl (w.2.1 1, 5, .inl (fun _ => 0))), (q6, .inl (w.2.1 1, 160, .inl (fun _ => 0))), (q7, .inl (w.2.1 1, 1200, .inl (fun _ => 0))), (q8, .inl (w.2.1 1, 24, .inl (fun _ => 0))), (q9, .inl (w.2.1 1, 14, .inl (fun _ => 0))), (q10, .inl (w.2.1 1, 4, .inl mA10_4)), (q15, .inl (w.2.1 1, 4, .inl (fun _ => 0))), (q16, .inl (w.2.1 1, 160, .inl (fun _ => 0))), (q17, .inl (w.2.1 1, 29, .inl mA17_29)), (q47, .inl (w.2.1 1, 96, .inl mA47_4))]) E rfl (vp_in_nI (n := 3) (by decide) (by decide)) rfl rfl dX12_init_312 ?_
  refine yi_dup E dX12_init_313 rfl ?_
  refine yi_iconst (v := 4) E dX12_init_314 (by decide) ?_
  refine yi_bipush (v := 115) E dX12_init_315 (by decide) ?_
  refine yi_iastc (q := 14) (f' := mA47_5) (ws' := [(h0, .inr (12, [.ref q1, .int 0, .int 0, .ref q2, .ref q3, .ref q4, .ref q5, .ref q6, .int 0, .ref q7, .ref q8, .int 0, .int 0, .int 0, .int 0, .int 0, .ref q9, .ref q10, .ref q15, .ref q16, .ref q17, .int 0, .int 0, .int 0, .int 0, .null, .null, .int 0, .int 0, .int 0, .null, .null, .int 0, .int 0, .null, .null])), (q1, .inl (w.2.1 1, 3, .inl (fun _ => 0))), (q2, .inl (w.2.1 1, 5, .inl (fun _ => 0))), (q3, .inl (w.2.1 1, 5, .inl (fun _ => 0))), (q4, .inl (w.2.1 1, 5, .inl (fun _ => 0))), (q5, .inl (w.2.1 1, 5, .inl (fun _ => 0))), (q6, .inl (w.2.1 1, 160, .inl (fun _ => 0))), (q7, .inl (w.2.1 1, 1200, .inl (fun _ => 0))), (q8, .inl (w.2.1 1, 24, .inl (fun _ => 0))), (q9, .inl (w.2.1 1, 14, .inl (fun _ => 0))), (q10, .inl (w.2.1 1, 4, .inl mA10_4)), (q15, .inl (w.2.1 1, 4, .inl (fun _ => 0))), (q16, .inl (w.2.1 1, 160, .inl (fun _ => 0))), (q17, .inl (w.2.1 1, 29, .inl mA17_29)), (q47, .inl (w.2.1 1, 96, .inl mA47_5))]) E rfl (vp_in_nI (n := 4) (by decide) (by decide)) rfl rfl dX12_init_317 ?_
  refine yi_dup E dX12_init_318 rfl ?_
  refine yi_iconst (v := 5) E dX12_init_319 (by decide) ?_
  refine yi_bipush (v := 32) E dX12_init_320 (by decide) ?_
  refine yi_iastc (q := 14) (f' := mA47_6) (ws' := [(h0, .inr (12, [.ref q1, .int 0, .int 0, .ref q2, .ref q3, .ref q4, .ref q5, .ref q6, .int 0, .ref q7, .ref q8, .int 0, .int 0, .int 0, .int 0, .int 0, .ref q9, .ref q10, .ref q15, .ref q16, .ref q17, .int 0, .int 0, .int 0, .int 0, .null, .null, .int 0, .int 0, .int 0, .null, .null, .int 0, .int 0, .null, .null])), (q1, .inl (w.2.1 1, 3, .inl (fun _ => 0))), (q2, .inl (w.2.1 1, 5, .inl (fun _ => 0))), (q3, .inl (w.2.1 1, 5, .inl (fun _ => 0))), (q4, .inl (w.2.1 1, 5, .inl (fun _ => 0))), (q5, .inl (w.2.1 1, 5, .inl (fun _ => 0))), (q6, .inl (w.2.1 1, 160, .inl (fun _ => 0))), (q7, .inl (w.2.1 1, 1200, .inl (fun _ => 0))), (q8, .inl (w.2.1 1, 24, .inl (fun _ => 0))), (q9, .inl (w.2.1 1, 14, .inl (fun _ => 0))), (q10, .inl (w.2.1 1, 4, .inl mA10_4)), (q15, .inl (w.2.1 1, 4, .inl (fun _ => 0))), (q16, .inl (w.2.1 1, 160, .inl (fun _ => 0))), (q17, .inl (w.2.1 1, 29, .inl mA17_29)), (q47, .inl (w.2.1 1, 96, .inl mA47_6))]) E rfl (vp_in_nI (n := 5) (by decide) (by decide)) rfl rfl dX12_init_322 ?_
  refine yi_dup E dX12_init_323 rfl ?_
  refine yi_bipush (v := 6) E dX12_init_324 (by decide) ?_
  refine yi_bipush (v := 32) E dX12_init_326 (by decide) ?_
  refine yi_iastc (q := 14) (f' := mA47_7) (ws' := [(h0, .inr (12, [.ref q1, .int 0, .int 0, .ref q2, .ref q3, .ref q4, .ref q5, .ref q6, .int 0, .ref q7, .ref q8, .int 0, .int 0, .int 0, .int 0, .int 0, .ref q9, .ref q10, .ref q15, .ref q16, .ref q17, .int 0, .int 0, .int 0, .int 0, .null, .null, .int 0, .int 0, .int 0, .null, .null, .int 0, .int 0, .null, .null])), (q1, .inl (w.2.1 1, 3, .inl (fun _ => 0))), (q2, .inl (w.2.1 1, 5, .inl (fun _ => 0))), (q3, .inl (w.2.1 1, 5, .inl (fun _ => 0))), (q4, .inl (w.2.1 1, 5, .inl (fun _ => 0))), (q5, .inl (w.2.1 1, 5, .inl (fun _ => 0))), (q6, .inl (w.2.1 1, 160, .inl (fun _ => 0))), (q7, .inl (w.2.1 1, 1200, .inl (fun _ => 0))), (q8, .inl (w.2.1 1, 24, .inl (fun _ => 0))), (q9, .inl (w.2.1 1, 14, .inl (fun _ => 0))), (q10, .inl (w.2.1 1, 4, .inl mA10_4)), (q15, .inl (w.2.1 1, 4, .inl (fun _ => 0))), (q16, .inl (w.2.1 1, 160, .inl (fun _ => 0))), (q17, .inl (w.2.1 1, 29, .inl mA17_29)), (q47, .inl (w.2.1 1, 96, .inl mA47_7))]) E rfl (vp_in_nI (n := 6) (by decide) (by decide)) rfl rfl dX12_init_328 ?_
  refine yi_dup E dX12_init_329 rfl ?_
  refine yi_bipush (v := 7) E dX12_init_330 (by decide) ?_
  refine yi_bipush (v := 32) E dX12_init_332 (by decide) ?_
  refine yi_iastc (q := 14) (f' := mA47_8) (ws' := [(h0, .inr (12, [.ref q1, .int 0, .int 0, .ref q2, .ref q3, .ref q4, .ref q5, .ref q6, .int 0, .ref q7, .ref q8, .int 0, .int 0, .int 0, .int 0, .int 0, .ref q9, .ref q10, .ref q15, .ref q16, .ref q17, .int 0, .int 0, .int 0, .int 0, .null, .null, .int 0, .int 0, .int 0, .null, .null, .int 0, .int 0, .null, .null])), (q1, .inl (w.2.1 1, 3, .inl (fun _ => 0))), (q2, .inl (w.2.1 1, 5, .inl (fun _ => 0))), (q3, .inl (w.2.1 1, 5, .inl (fun _ => 0))), (q4, .inl (w.2.1 1, 5, .inl (fun _ => 0))), (q5, .inl (w.2.1 1, 5, .inl (fun _ => 0))), (q6, .inl (w.2.1 1, 160, .inl (fun _ => 0))), (q7, .inl (w.2.1 1, 1200, .inl (fun _ => 0))), (q8, .inl (w.2.1 1, 24, .inl (fun _ => 0))), (q9, .inl (w.2.1 1, 14, .inl (fun _ => 0))), (q10, .inl (w.2.1 1, 4, .inl mA10_4)), (q15, .inl (w.2.1 1, 4, .inl (fun _ => 0))), (q16, .inl (w.2.1 1, 160, .inl (fun _ => 0))), (q17, .inl (w.2.1 1, 29, .inl mA17_29)), (q47, .inl (w.2.1 1, 96, .inl mA47_8))]) E rfl (vp_in_nI (n := 7) (by decide) (by decide)) rfl rfl dX12_init_334 ?_
  refine yi_dup E dX12_init_335 rfl ?_
  refine yi_bipush (v := 8) E dX12_init_336 (by decide) ?_
  refine yi_bipush (v := 119) E dX12_init_338 (by decide) ?_
  refine yi_iastc (q := 14) (f' := mA47_9) (ws' := [(h0, .inr (12, [.ref q1, .int 0, .int 0, .ref q2, .ref q3, .ref q4, .ref q5, .ref q6, .int 0, .ref q7, .ref q8, .int 0, .int 0, .int 0, .int 0, .int 0, .ref q9, .ref q10, .ref q15, .ref q16, .ref q17, .int 0, .int 0, .int 0, .int 0, .null, .null, .int 0, .int 0, .int 0, .null, .null, .int 0, .int 0, .null, .null])), (q1, .inl (w.2.1 1, 3, .inl (fun _ => 0))), (q2, .inl (w.2.1 1, 5, .inl (fun _ => 0))), (q3, .inl (w.2.1 1, 5, .inl (fun _ => 0))), (q4, .inl (w.2.1 1, 5, .inl (fun _ => 0))), (q5, .inl (w.2.1 1, 5, .inl (fun _ => 0))), (q6, .inl (w.2.1 1, 160, .inl (fun _ => 0))), (q7, .inl (w.2.1 1, 1200, .inl (fun _ => 0))), (q8, .inl (w.2.1 1, 24, .inl (fun _ => 0))), (q9, .inl (w.2.1 1, 14, .inl (fun _ => 0))), (q10, .inl (w.2.1 1, 4, .inl mA10_4)), (q15, .inl (w.2.1 1, 4, .inl (fun _ => 0))), (q16, .inl (w.2.1 1, 160, .inl (fun _ => 0))), (q17, .inl (w.2.1 1, 29, .inl mA17_29)), (q47, .inl (w.2.1 1, 96, .inl mA47_9))]) E rfl (vp_in_nI (n := 8) (by decide) (by decide)) rfl rfl dX12_init_340 ?_
  refine yi_dup E dX12_init_341 rfl ?_
  refine yi_bipush (v := 9) E dX12_init_342 (by decide) ?_
  refine yi_bipush (v := 111) E dX12_init_344 (by decide) ?_
  refine yi_iastc (q := 14) (f' := mA47_10) (ws' := [(h0, .inr (12, [.ref q1, .int 0, .int 0, .ref q2, .ref q3, .ref q4, .ref q5, .ref q6, .int 0, .ref q7, .ref q8, .int 0, .int 0, .int 0, .int 0, .int 0, .ref q9, .ref q10, .ref q15, .ref q16, .ref q17, .int 0, .int 0, .int 0, .int 0, .null, .null, .int 0, .int 0, .int 0, .null, .null, .int 0, .int 0, .null, .null])), (q1, .inl (w.2.1 1, 3, .inl (fun _ => 0))), (q2, .inl (w.2.1 1, 5, .inl (fun _ => 0))), (q3, .inl (w.2.1 1, 5, .inl (fun _ => 0))), (q4, .inl (w.2.1 1, 5, .inl (fun _ => 0))), (q5, .inl (w.2.1 1, 5, .inl (fun _ => 0))), (q6, .inl (w.2.1 1, 160, .inl (fun _ => 0))), (q7, .inl (w.2.1 1, 1200, .inl (fun _ => 0))), (q8, .inl (w.2.1 1, 24, .inl (fun _ => 0))), (q9, .inl (w.2.1 1, 14, .inl (fun _ => 0))), (q10, .inl (w.2.1 1, 4, .inl mA10_4)), (q15, .inl (w.2.1 1, 4, .inl (fun _ => 0))), (q16, .inl (w.2.1 1, 160, .inl (fun _ => 0))), (q17, .inl (w.2.1 1, 29, .inl mA17_29)), (q47, .inl (w.2.1 1, 96, .inl mA47_10))]) E rfl (vp_in_nI (n := 9) (by decide) (by decide)) rfl rfl dX12_init_346 ?_
  refine yi_dup E dX12_init_347 rfl ?_
  refine yi_bipush (v := 10) E dX12_init_348 (by decide) ?_
  refine yi_bipush (v := 114) E dX12_init_350 (by decide) ?_
  refine yi_iastc (q := 14) (f' := mA47_11) (ws' := [(h0, .inr (12, [.ref q1, .int 0, .int 0, .ref q2, .ref q3, .ref q4, .ref q5, .ref q6, .int 0, .ref q7, .ref q8, .int 0, .int 0, .int 0, .int 0, .int 0, .ref q9, .ref q10, .ref q15, .ref q16, .ref q17, .int 0, .int 0, .int 0, .int 0, .null, .null, .int 0, .int 0, .int 0, .null, .null, .int 0, .int 0, .null, .null])), (q1, .inl (w.2.1 1, 3, .inl (fun _ => 0))), (q2, .inl (w.2.1 1, 5, .inl (fun _ => 0))), (q3, .inl (w.2.1 1, 5, .inl (fun _ => 0))), (q4, .inl (w.2.1 1, 5, .inl (fun _ => 0))), (q5, .inl (w.2.1 1, 5, .inl (fun _ => 0))), (q6, .inl (w.2.1 1, 160, .inl (fun _ => 0))), (q7, .inl (w.2.1 1, 1200, .inl (fun _ => 0))), (q8, .inl (w.2.1 1, 24, .inl (fun _ => 0))), (q9, .inl (w.2.1 1, 14, .inl (fun _ => 0))), (q10, .inl (w.2.1 1, 4, .inl mA10_4)), (q15, .inl (w.2.1 1, 4, .inl (fun _ => 0))), (q16, .inl (w.2.1 1, 160, .inl (fun _ => 0))), (q17, .inl (w.2.1 1, 29, .inl mA17_29)), (q47, .inl (w.2.1 1, 96, .inl mA47_11))]) E rfl (vp_in_nI (n := 10) (by decide) (by decide)) rfl rfl dX12_init_352 ?_
  refine yi_dup E dX12_init_353 rfl ?_
  refine yi_bipush (v := 11) E dX12_init_354 (by decide) ?_
  refine yi_bipush (v := 116) E dX12_init_356 (by decide) ?_
  refine yi_iastc (q := 14) (f' := mA47_12) (ws' := [(h0, .inr (12, [.ref q1, .int 0, .int 0, .ref q2, .ref q3, .ref q4, .ref q5, .ref q6, .int 0, .ref q7, .ref q8, .int 0, .int 0, .int 0, .int 0, .int 0, .ref q9, .ref q10, .ref q15, .ref q16, .ref q17, .int 0, .int 0, .int 0, .int 0, .null, .null, .int 0, .int 0, .int 0, .null, .null, .int 0, .int 0, .null, .null])), (q1, .inl (w.2.1 1, 3, .inl (fun _ => 0))), (q2, .inl (w.2.1 1, 5, .inl (fun _ => 0))), (q3, .inl (w.2.1 1, 5, .inl (fun _ => 0))), (q4, .inl (w.2.1 1, 5, .inl (fun _ => 0))), (q5, .inl (w.2.1 1, 5, .inl (fun _ => 0))), (q6, .inl (w.2.1 1, 160, .inl (fun _ => 0))), (q7, .inl (w.2.1 1, 1200, .inl (fun _ => 0))), (q8, .inl (w.2.1 1, 24, .inl (fun _ => 0))), (q9, .inl (w.2.1 1, 14, .inl (fun _ => 0))), (q10, .inl (w.2.1 1, 4, .inl mA10_4)), (q15, .inl (w.2.1 1, 4, .inl (fun _ => 0))), (q16, .inl (w.2.1 1, 160, .inl (fun _ => 0))), (q17, .inl (w.2.1 1, 29, .inl mA17_29)), (q47, .inl (w.2.1 1, 96, .inl mA47_12))]) E rfl (vp_in_nI (n := 11) (by decide) (by decide)) rfl rfl dX12_init_358 ?_
  refine yi_dup E dX12_init_359 rfl ?_
  refine yi_bipush (v := 12) E dX12_init_360 (by decide) ?_
  refine yi_bipush (v := 104) E dX12_init_362 (by decide) ?_
  refine yi_iastc (q := 14) (f' := mA47_13) (ws' := [(h0, .inr (12, [.ref q1, .int 0, .int 0, .ref q2, .ref q3, .ref q4, .ref q5, .ref q6, .int 0, .ref q7, .ref q8, .int 0, .int 0, .int 0, .int 0, .int 0, .ref q9, .ref q10, .ref q15, .ref q16, .ref q17, .int 0, .int 0, .int 0, .int 0, .null, .null, .int 0, .int 0, .int 0, .null, .null, .int 0, .int 0, .null, .null])), (q1, .inl (w.2.1 1, 3, .inl (fun _ => 0))), (q2, .inl (w.2.1 1, 5, .inl (fun _ => 0))), (q3, .inl (w.2.1 1, 5, .inl (fun _ => 0))), (q4, .inl (w.2.1 1, 5, .inl (fun _ => 0))), (q5, .inl (w.2.1 1, 5, .inl (fun _ => 0))), (q6, .inl (w.2.1 1, 160, .inl (fun _ => 0))), (q7, .inl (w.2.1 1, 1200, .inl (fun _ => 0))), (q8, .inl (w.2.1 1, 24, .inl (fun _ => 0))), (q9, .inl (w.2.1 1, 14, .inl (fun _ => 0))), (q10, .inl (w.2.1 1, 4, .inl mA10_4)), (q15, .inl (w.2.1 1, 4, .inl (fun _ => 0))), (q16, .inl (w.2.1 1, 160, .inl (fun _ => 0))), (q17, .inl (w.2.1 1, 29, .inl mA17_29)), (q47, .inl (w.2.1 1, 96, .inl mA47_13))]) E rfl (vp_in_nI (n := 12) (by decide) (by decide)) rfl rfl dX12_init_364 ?_
  refine yi_dup E dX12_init_365 rfl ?_
  refine yi_bipush (v := 13) E dX12_init_366 (by decide) ?_
  refine yi_bipush (v := 32) E dX12_init_368 (by decide) ?_
  refine yi_iastc (q := 14) (f' := mA47_14) (ws' := [(h0, .inr (12, [.ref q1, .int 0, .int 0, .ref q2, .ref q3, .ref q4, .ref q5, .ref q6, .int 0, .ref q7, .ref q8, .int 0, .int 0, .int 0, .int 0, .int 0, .ref q9, .ref q10, .ref q15, .ref q16, .ref q17, .int 0, .int 0, .int 0, .int 0, .null, .null, .int 0, .int 0, .int 0, .null, .null, .int 0, .int 0, .null, .null])), (q1, .inl (w.2.1 1, 3, .inl (fun _ => 0))), (q2, .inl (w.2.1 1, 5, .inl (fun _ => 0))), (q3, .inl (w.2.1 1, 5, .inl (fun _ => 0))), (q4, .inl (w.2.1 1, 5, .inl (fun _ => 0))), (q5, .inl (w.2.1 1, 5, .inl (fun _ => 0))), (q6, .inl (w.2.1 1, 160, .inl (fun _ => 0))), (q7, .inl (w.2.1 1, 1200, .inl (fun _ => 0))), (q8, .inl (w.2.1 1, 24, .inl (fun _ => 0))), (q9, .inl (w.2.1 1, 14, .inl (fun _ => 0))), (q10, .inl (w.2.1 1, 4, .inl mA10_4)), (q15, .inl (w.2.1 1, 4, .inl (fun _ => 0))), (q16, .inl (w.2.1 1, 160, .inl (fun _ => 0))), (q17, .inl (w.2.1 1, 29, .inl mA17_29)), (q47, .inl (w.2.1 1, 96, .inl mA47_14))]) E rfl (vp_in_nI (n := 13) (by decide) (by decide)) rfl rfl dX12_init_370 ?_
  refine yi_dup E dX12_init_371 rfl ?_
  refine yi_bipush (v := 14) E dX12_init_372 (by decide) ?_
  refine yi_bipush (v := 32) E dX12_init_374 (by decide) ?_
  refine yi_iastc (q := 14) (f' := mA47_15) (ws' := [(h0, .inr (12, [.ref q1, .int 0, .int 0, .ref q2, .ref q3, .ref q4, .ref q5, .ref q6, .int 0, .ref q7, .ref q8, .int 0, .int 0, .int 0, .int 0, .int 0, .ref q9, .ref q10, .ref q15, .ref q16, .ref q17, .int 0, .int 0, .int 0, .int 0, .null, .null, .int 0, .int 0, .int 0, .null, .null, .int 0, .int 0, .null, .null])), (q1, .inl (w.2.1 1, 3, .inl (fun _ => 0))), (q2, .inl (w.2.1 1, 5, .inl (fun _ => 0))), (q3, .inl (w.2.1 1, 5, .inl (fun _ => 0))), (q4, .inl (w.2.1 1, 5, .inl (fun _ => 0))), (q5, .inl (w.2.1 1, 5, .inl (fun _ => 0))), (q6, .inl (w.2.1 1, 160, .inl (fun _ => 0))), (q7, .inl (w.2.1 1, 1200, .inl (fun _ => 0))), (q8, .inl (w.2.1 1, 24, .inl (fun _ => 0))), (q9, .inl (w.2.1 1, 14, .inl (fun _ => 0))), (q10, .inl (w.2.1 1, 4, .inl mA10_4)), (q15, .inl (w.2.1 1, 4, .inl (fun _ => 0))), (q16, .inl (w.2.1 1, 160, .inl (fun _ => 0))), (q17, .inl (w.2.1 1, 29, .inl mA17_29)), (q47, .inl (w.2.1 1, 96, .inl mA47_15))]) E rfl (vp_in_nI (n := 14) (by decide) (by decide)) rfl rfl dX12_init_376 ?_
  refine yi_dup E dX12_init_377 rfl ?_
  refine yi_bipush (v := 15) E dX12_init_378 (by decide) ?_
  refine yi_bipush (v := 32) E dX12_init_380 (by decide) ?_
  refine yi_iastc (q := 14) (f' := mA47_16) (ws' := [(h0, .inr (12, [.ref q1, .int 0, .int 0, .ref q2, .ref q3, .ref q4, .ref q5, .ref q6, .int 0, .ref q7, .ref q8, .int 0, .int 0, .int 0, .int 0, .int 0, .ref q9, .ref q10, .ref q15, .ref q16, .ref q17, .int 0, .int 0, .int 0, .int 0, .null, .null, .int 0, .int 0, .int 0, .null, .null, .int 0, .int 0, .null, .null])), (q1, .inl (w.2.1 1, 3, .inl (fun _ => 0))), (q2, .inl (w.2.1 1, 5, .inl (fun _ => 0))), (q3, .inl (w.2.1 1, 5, .inl (fun _ => 0))), (q4, .inl (w.2.1 1, 5, .inl (fun _ => 0))), (q5, .inl (w.2.1 1, 5, .inl (fun _ => 0))), (q6, .inl (w.2.1 1, 160, .inl (fun _ => 0))), (q7, .inl (w.2.1 1, 1200, .inl (fun _ => 0))), (q8, .inl (w.2.1 1, 24, .inl (fun _ => 0))), (q9, .inl (w.2.1 1, 14, .inl (fun _ => 0))), (q10, .inl (w.2.1 1, 4, .inl mA10_4)), (q15, .inl (w.2.1 1, 4, .inl (fun _ => 0))), (q16, .inl (w.2.1 1, 160, .inl (fun _ => 0))), (q17, .inl (w.2.1 1, 29, .inl mA17_29)), (q47, .inl (w.2.1 1, 96, .inl mA47_16))]) E rfl (vp_in_nI (n := 15) (by decide) (by decide)) rfl rfl dX12_init_382 ?_
  refine yi_dup E dX12_init_383 rfl ?_
  refine yi_bipush (v := 16) E dX12_init_384 (by decide) ?_
  refine yi_bipush (v := 104) E dX12_init_386 (by decide) ?_
  refine yi_iastc (q := 14) (f' := mA47_17) (ws' := [(h0, .inr (12, [.ref q1, .int 0, .int 0, .ref q2, .ref q3, .ref q4, .ref q5, .ref q6, .int 0, .ref q7, .ref q8, .int 0, .int 0, .int 0, .int 0, .int 0, .ref q9, .ref q10, .ref q15, .ref q16, .ref q17, .int 0, .int 0, .int 0, .int 0, .null, .null, .int 0, .int 0, .int 0, .null, .null, .int 0, .int 0, .null, .null])), (q1, .inl (w.2.1 1, 3, .inl (fun _ => 0))), (q2, .inl (w.2.1 1, 5, .inl (fun _ => 0))), (q3, .inl (w.2.1 1, 5, .inl (fun _ => 0))), (q4, .inl (w.2.1 1, 5, .inl (fun _ => 0))), (q5, .inl (w.2.1 1, 5, .inl (fun _ => 0))), (q6, .inl (w.2.1 1, 160, .inl (fun _ => 0))), (q7, .inl (w.2.1 1, 1200, .inl (fun _ => 0))), (q8, .inl (w.2.1 1, 24, .inl (fun _ => 0))), (q9, .inl (w.2.1 1, 14, .inl (fun _ => 0))), (q10, .inl (w.2.1 1, 4, .inl mA10_4)), (q15, .inl (w.2.1 1, 4, .inl (fun _ => 0))), (q16, .inl (w.2.1 1, 160, .inl (fun _ => 0))), (q17, .inl (w.2.1 1, 29, .inl mA17_29)), (q47, .inl (w.2.1 1, 96, .inl mA47_17))]) E rfl (vp_in_nI (n := 16) (by decide) (by decide)) rfl rfl dX12_init_388 ?_
  refine yi_dup E dX12_init_389 rfl ?_
  refine yi_bipush (v := 17) E dX12_init_390 (by decide) ?_
  refine yi_bipush (v := 97) E dX12_init_392 (by decide) ?_
  refine yi_iastc (q := 14) (f' := mA47_18) (ws' := [(h0, .inr (12, [.ref q1, .int 0, .int 0, .ref q2, .ref q3, .ref q4, .ref q5, .ref q6, .int 0, .ref q7, .ref q8, .int 0, .int 0, .int 0, .int 0, .int 0, .ref q9, .ref q10, .ref q15, .ref q16, .ref q17, .int 0, .int 0, .int 0, .int 0, .null, .null, .int 0, .int 0, .int 0, .null, .null, .int 0, .int 0, .null, .null])), (q1, .inl (w.2.1 1, 3, .inl (fun _ => 0))), (q2, .inl (w.2.1 1, 5, .inl (fun _ => 0))), (q3, .inl (w.2.1 1, 5, .inl (fun _ => 0))), (q4, .inl (w.2.1 1, 5, .inl (fun _ => 0))), (q5, .inl (w.2.1 1, 5, .inl (fun _ => 0))), (q6, .inl (w.2.1 1, 160, .inl (fun _ => 0))), (q7, .inl (w.2.1 1, 1200, .inl (fun _ => 0))), (q8, .inl (w.2.1 1, 24, .inl (fun _ => 0))), (q9, .inl (w.2.1 1, 14, .inl (fun _ => 0))), (q10, .inl (w.2.1 1, 4, .inl mA10_4)), (q15, .inl (w.2.1 1, 4, .inl (fun _ => 0))), (q16, .inl (w.2.1 1, 160, .inl (fun _ => 0))), (q17, .inl (w.2.1 1, 29, .inl mA17_29)), (q47, .inl (w.2.1 1, 96, .inl mA47_18))]) E rfl (vp_in_nI (n := 17) (by decide) (by decide)) rfl rfl dX12_init_394 ?_
  refine yi_dup E dX12_init_395 rfl ?_
  refine yi_bipush (v := 18) E dX12_init_396 (by decide) ?_
  refine yi_bipush (v := 110) E dX12_init_398 (by decide) ?_
  refine yi_iastc (q := 14) (f' := mA47_19) (ws' := [(h0, .inr (12, [.ref q1, .int 0, .int 0, .ref q2, .ref q3, .ref q4, .ref q5, .ref q6, .int 0, .ref q7, .ref q8, .int 0, .int 0, .int 0, .int 0, .int 0, .ref q9, .ref q10, .ref q15, .ref q16, .ref q17, .int 0, .int 0, .int 0, .int 0, .null, .null, .int 0, .int 0, .int 0, .null, .null, .int 0, .int 0, .null, .null])), (q1, .inl (w.2.1 1, 3, .inl (fun _ => 0))), (q2, .inl (w.2.1 1, 5, .inl (fun _ => 0))), (q3, .inl (w.2.1 1, 5, .inl (fun _ => 0))), (q4, .inl (w.2.1 1, 5, .inl (fun _ => 0))), (q5, .inl (w.2.1 1, 5, .inl (fun _ => 0))), (q6, .inl (w.2.1 1, 160, .inl (fun _ => 0))), (q7, .inl (w.2.1 1, 1200, .inl (fun _ => 0))), (q8, .inl (w.2.1 1, 24, .inl (fun _ => 0))), (q9, .inl (w.2.1 1, 14, .inl (fun _ => 0))), (q10, .inl (w.2.1 1, 4, .inl mA10_4)), (q15, .inl (w.2.1 1, 4, .inl (fun _ => 0))), (q16, .inl (w.2.1 1, 160, .inl (fun _ => 0))), (q17, .inl (w.2.1 1, 29, .inl mA17_29)), (q47, .inl (w.2.1 1, 96, .inl mA47_19))]) E rfl (vp_in_nI (n := 18) (by decide) (by decide)) rfl rfl dX12_init_400 ?_
  refine yi_dup E dX12_init_401 rfl ?_
  refine yi_bipush (v := 19) E dX12_init_402 (by decide) ?_
  refine yi_bipush (v := 100) E dX12_init_404 (by decide) ?_
  refine yi_iastc (q := 14) (f' := mA47_20) (ws' := [(h0, .inr (12, [.ref q1, .int 0, .int 0, .ref q2, .ref q3, .ref q4, .ref q5, .ref q6, .int 0, .ref q7, .ref q8, .int 0, .int 0, .int 0, .int 0, .int 0, .ref q9, .ref q10, .ref q15, .ref q16, .ref q17, .int 0, .int 0, .int 0, .int 0, .null, .null, .int 0, .int 0, .int 0, .null, .null, .int 0, .int 0, .null, .null])), (q1, .inl (w.2.1 1, 3, .inl (fun _ => 0))), (q2, .inl (w.2.1 1, 5, .inl (fun _ => 0))), (q3, .inl (w.2.1 1, 5, .inl (fun _ => 0))), (q4, .inl (w.2.1 1, 5, .inl (fun _ => 0))), (q5, .inl (w.2.1 1, 5, .inl (fun _ => 0))), (q6, .inl (w.2.1 1, 160, .inl (fun _ => 0))), (q7, .inl (w.2.1 1, 1200, .inl (fun _ => 0))), (q8, .inl (w.2.1 1, 24, .inl (fun _ => 0))), (q9, .inl (w.2.1 1, 14, .inl (fun _ => 0))), (q10, .inl (w.2.1 1, 4, .inl mA10_4)), (q15, .inl (w.2.1 1, 4, .inl (fun _ => 0))), (q16, .inl (w.2.1 1, 160, .inl (fun _ => 0))), (q17, .inl (w.2.1 1, 29, .inl mA17_29)), (q47, .inl (w.2.1 1, 96, .inl mA47_20))]) E rfl (vp_in_nI (n := 19) (by decide) (by decide)) rfl rfl dX12_init_406 ?_
  refine yi_dup E dX12_init_407 rfl ?_
  refine yi_bipush (v := 20) E dX12_init_408 (by decide) ?_
  refine yi_bipush (v := 115) E dX12_init_410 (by decide) ?_
  refine yi_iastc (q := 14) (f' := mA47_21) (ws' := [(h0, .inr (12, [.ref q1, .int 0, .int 0, .ref q2, .ref q3, .ref q4, .ref q5, .ref q6, .int 0, .ref q7, .ref q8, .int 0, .int 0, .int 0, .int 0, .int 0, .ref q9, .ref q10, .ref q15, .ref q16, .ref q17, .int 0, .int 0, .int 0, .int 0, .null, .null, .int 0, .int 0, .int 0, .null, .null, .int 0, .int 0, .null, .null])), (q1, .inl (w.2.1 1, 3, .inl (fun _ => 0))), (q2, .inl (w.2.1 1, 5, .inl (fun _ => 0))), (q3, .inl (w.2.1 1, 5, .inl (fun _ => 0))), (q4, .inl (w.2.1 1, 5, .inl (fun _ => 0))), (q5, .inl (w.2.1 1, 5, .inl (fun _ => 0))), (q6, .inl (w.2.1 1, 160, .inl (fun _ => 0))), (q7, .inl (w.2.1 1, 1200, .inl (fun _ => 0))), (q8, .inl (w.2.1 1, 24, .inl (fun _ => 0))), (q9, .inl (w.2.1 1, 14, .inl (fun _ => 0))), (q10, .inl (w.2.1 1, 4, .inl mA10_4)), (q15, .inl (w.2.1 1, 4, .inl (fun _ => 0))), (q16, .inl (w.2.1 1, 160, .inl (fun _ => 0))), (q17, .inl (w.2.1 1, 29, .inl mA17_29)), (q47, .inl (w.2.1 1, 96, .inl mA47_21))]) E rfl (vp_in_nI (n := 20) (by decide) (by decide)) rfl rfl dX12_init_412 ?_
  refine yi_dup E dX12_init_413 rfl ?_
  refine yi_bipush (v := 21) E dX12_init_414 (by decide) ?_
  refine yi_bipush (v := 32) E dX12_init_416 (by decide) ?_
  refine yi_iastc (q := 14) (f' := mA47_22) (ws' := [(h0, .inr (12, [.ref q1, .int 0, .int 0, .ref q2, .ref q3, .ref q4, .ref q5, .ref q6, .int 0, .ref q7, .ref q8, .int 0, .int 0, .int 0, .int 0, .int 0, .ref q9, .ref q10, .ref q15, .ref q16, .ref q17, .int 0, .int 0, .int 0, .int 0, .null, .null, .int 0, .int 0, .int 0, .null, .null, .int 0, .int 0, .null, .null])), (q1, .inl (w.2.1 1, 3, .inl (fun _ => 0))), (q2, .inl (w.2.1 1, 5, .inl (fun _ => 0))), (q3, .inl (w.2.1 1, 5, .inl (fun _ => 0))), (q4, .inl (w.2.1 1, 5, .inl (fun _ => 0))), (q5, .inl (w.2.1 1, 5, .inl (fun _ => 0))), (q6, .inl (w.2.1 1, 160, .inl (fun _ => 0))), (q7, .inl (w.2.1 1, 1200, .inl (fun _ => 0))), (q8, .inl (w.2.1 1, 24, .inl (fun _ => 0))), (q9, .inl (w.2.1 1, 14, .inl (fun _ => 0))), (q10, .inl (w.2.1 1, 4, .inl mA10_4)), (q15, .inl (w.2.1 1, 4, .inl (fun _ => 0))), (q16, .inl (w.2.1 1, 160, .inl (fun _ => 0))), (q17, .inl (w.2.1 1, 29, .inl mA17_29)), (q47, .inl (w.2.1 1, 96, .inl mA47_22))]) E rfl (vp_in_nI (n := 21) (by decide) (by decide)) rfl rfl dX12_init_418 ?_
  refine yi_dup E dX12_init_419 rfl ?_
  refine yi_bipush (v := 22) E dX12_init_420 (by decide) ?_
  refine yi_bipush (v := 32) E dX12_init_422 (by decide) ?_
  refine yi_iastc (q := 14) (f' := mA47_23) (ws' := [(h0, .inr (12, [.ref q1, .int 0, .int 0, .ref q2, .ref q3, .ref q4, .ref q5, .ref q6, .int 0, .ref q7, .ref q8, .int 0, .int 0, .int 0, .int 0, .int 0, .ref q9, .ref q10, .ref q15, .ref q16, .ref q17, .int 0, .int 0, .int 0, .int 0, .null, .null, .int 0, .int 0, .int 0, .null, .null, .int 0, .int 0, .null, .null])), (q1, .inl (w.2.1 1, 3, .inl (fun _ => 0))), (q2, .inl (w.2.1 1, 5, .inl (fun _ => 0))), (q3, .inl (w.2.1 1, 5, .inl (fun _ => 0))), (q4, .inl (w.2.1 1, 5, .inl (fun _ => 0))), (q5, .inl (w.2.1 1, 5, .inl (fun _ => 0))), (q6, .inl (w.2.1 1, 160, .inl (fun _ => 0))), (q7, .inl (w.2.1 1, 1200, .inl (fun _ => 0))), (q8, .inl (w.2.1 1, 24, .inl (fun _ => 0))), (q9, .inl (w.2.1 1, 14, .inl (fun _ => 0))), (q10, .inl (w.2.1 1, 4, .inl mA10_4)), (q15, .inl (w.2.1 1, 4, .inl (fun _ => 0))), (q16, .inl (w.2.1 1, 160, .inl (fun _ => 0))), (q17, .inl (w.2.1 1, 29, .inl mA17_29)), (q47, .inl (w.2.1 1, 96, .inl mA47_23))]) E rfl (vp_in_nI (n := 22) (by decide) (by decide)) rfl rfl dX12_init_424 ?_
  refine yi_dup E dX12_init_425 rfl ?_
  refine yi_bipush (v := 23) E dX12_init_426 (by decide) ?_
  refine yi_bipush (v := 32) E dX12_init_428 (by decide) ?_
  refine yi_iastc (q := 14) (f' := mA47_24) (ws' := [(h0, .inr (12, [.ref q1, .int 0, .int 0, .ref q2, .ref q3, .ref q4, .ref q5, .ref q6, .int 0, .ref q7, .ref q8, .int 0, .int 0, .int 0, .int 0, .int 0, .ref q9, .ref q10, .ref q15, .ref q16, .ref q17, .int 0, .int 0, .int 0, .int 0, .null, .null, .int 0, .int 0, .int 0, .null, .null, .int 0, .int 0, .null, .null])), (q1, .inl (w.2.1 1, 3, .inl (fun _ => 0))), (q2, .inl (w.2.1 1, 5, .inl (fun _ => 0))), (q3, .inl (w.2.1 1, 5, .inl (fun _ => 0))), (q4, .inl (w.2.1 1, 5, .inl (fun _ => 0))), (q5, .inl (w.2.1 1, 5, .inl (fun _ => 0))), (q6, .inl (w.2.1 1, 160, .inl (fun _ => 0))), (q7, .inl (w.2.1 1, 1200, .inl (fun _ => 0))), (q8, .inl (w.2.1 1, 24, .inl (fun _ => 0))), (q9, .inl (w.2.1 1, 14, .inl (fun _ => 0))), (q10, .inl (w.2.1 1, 4, .inl mA10_4)), (q15, .inl (w.2.1 1, 4, .inl (fun _ => 0))), (q16, .inl (w.2.1 1, 160, .inl (fun _ => 0))), (q17, .inl (w.2.1 1, 29, .inl mA17_29)), (q47, .inl (w.2.1 1, 96, .inl mA47_24))]) E rfl (vp_in_nI (n := 23) (by decide) (by decide)) rfl rfl dX12_init_430 ?_
  refine yi_dup E dX12_init_431 rfl ?_
  refine yi_bipush (v := 24) E dX12_init_432 (by decide) ?_
  refine yi_bipush (v := 99) E dX12_init_434 (by decide) ?_
  refine yi_iastc (q := 14) (f' := mA47_25) (ws' := [(h0, .inr (12, [.ref q1, .int 0, .int 0, .ref q2, .ref q3, .ref q4, .ref q5, .ref q6, .int 0, .ref q7, .ref q8, .int 0, .int 0, .int 0, .int 0, .int 0, .ref q9, .ref q10, .ref q15, .ref q16, .ref q17, .int 0, .int 0, .int 0, .int 0, .null, .null, .int 0, .int 0, .int 0, .null, .null, .int 0, .int 0, .null, .null])), (q1, .inl (w.2.1 1, 3, .inl (fun _ => 0))), (q2, .inl (w.2.1 1, 5, .inl (fun _ => 0))), (q3, .inl (w.2.1 1, 5, .inl (fun _ => 0))), (q4, .inl (w.2.1 1, 5, .inl (fun _ => 0))), (q5, .inl (w.2.1 1, 5, .inl (fun _ => 0))), (q6, .inl (w.2.1 1, 160, .inl (fun _ => 0))), (q7, .inl (w.2.1 1, 1200, .inl (fun _ => 0))), (q8, .inl (w.2.1 1, 24, .inl (fun _ => 0))), (q9, .inl (w.2.1 1, 14, .inl (fun _ => 0))), (q10, .inl (w.2.1 1, 4, .inl mA10_4)), (q15, .inl (w.2.1 1, 4, .inl (fun _ => 0))), (q16, .inl (w.2.1 1, 160, .inl (fun _ => 0))), (q17, .inl (w.2.1 1, 29, .inl mA17_29)), (q47, .inl (w.2.1 1, 96, .inl mA47_25))]) E rfl (vp_in_nI (n := 24) (by decide) (by decide)) rfl rfl dX12_init_436 ?_
  refine yi_dup E dX12_init_437 rfl ?_
  refine yi_bipush (v := 25) E dX12_init_438 (by decide) ?_
  refine yi_bipush (v := 101) E dX12_init_440 (by decide) ?_
  refine yi_iastc (q := 14) (f' := mA47_26) (ws' := [(h0, .inr (12, [.ref q1, .int 0, .int 0, .ref q2, .ref q3, .ref q4, .ref q5, .ref q6, .int 0, .ref q7, .ref q8, .int 0, .int 0, .int 0, .int 0, .int 0, .ref q9, .ref q10, .ref q15, .ref q16, .ref q17, .int 0, .int 0, .int 0, .int 0, .null, .null, .int 0, .int 0, .int 0, .null, .null, .int 0, .int 0, .null, .null])), (q1, .inl (w.2.1 1, 3, .inl (fun _ => 0))), (q2, .inl (w.2.1 1, 5, .inl (fun _ => 0))), (q3, .inl (w.2.1 1, 5, .inl (fun _ => 0))), (q4, .inl (w.2.1 1, 5, .inl (fun _ => 0))), (q5, .inl (w.2.1 1, 5, .inl (fun _ => 0))), (q6, .inl (w.2.1 1, 160, .inl (fun _ => 0))), (q7, .inl (w.2.1 1, 1200, .inl (fun _ => 0))), (q8, .inl (w.2.1 1, 24, .inl (fun _ => 0))), (q9, .inl (w.2.1 1, 14, .inl (fun _ => 0))), (q10, .inl (w.2.1 1, 4, .inl mA10_4)), (q15, .inl (w.2.1 1, 4, .inl (fun _ => 0))), (q16, .inl (w.2.1 1, 160, .inl (fun _ => 0))), (q17, .inl (w.2.1 1, 29, .inl mA17_29)), (q47, .inl (w.2.1 1, 96, .inl mA47_26))]) E rfl (vp_in_nI (n := 25) (by decide) (by decide)) rfl rfl dX12_init_442 ?_
  refine yi_dup E dX12_init_443 rfl ?_
  refine yi_bipush (v := 26) E dX12_init_444 (by decide) ?_
  refine yi_bipush (v := 108) E dX12_init_446 (by decide) ?_
  refine yi_iastc (q := 14) (f' := mA47_27) (ws' := [(h0, .inr (12, [.ref q1, .int 0, .int 0, .ref q2, .ref q3, .ref q4, .ref q5, .ref q6, .int 0, .ref q7, .ref q8, .int 0, .int 0, .int 0, .int 0, .int 0, .ref q9, .ref q10, .ref q15, .ref q16, .ref q17, .int 0, .int 0, .int 0, .int 0, .null, .null, .int 0, .int 0, .int 0, .null, .null, .int 0, .int 0, .null, .null])), (q1, .inl (w.2.1 1, 3, .inl (fun _ => 0))), (q2, .inl (w.2.1 1, 5, .inl (fun _ => 0))), (q3, .inl (w.2.1 1, 5, .inl (fun _ => 0))), (q4, .inl (w.2.1 1, 5, .inl (fun _ => 0))), (q5, .inl (w.2.1 1, 5, .inl (fun _ => 0))), (q6, .inl (w.2.1 1, 160, .inl (fun _ => 0))), (q7, .inl (w.2.1 1, 1200, .inl (fun _ => 0))), (q8, .inl (w.2.1 1, 24, .inl (fun _ => 0))), (q9, .inl (w.2.1 1, 14, .inl (fun _ => 0))), (q10, .inl (w.2.1 1, 4, .inl mA10_4)), (q15, .inl (w.2.1 1, 4, .inl (fun _ => 0))), (q16, .inl (w.2.1 1, 160, .inl (fun _ => 0))), (q17, .inl (w.2.1 1, 29, .inl mA17_29)), (q47, .inl (w.2.1 1, 96, .inl mA47_27))]) E rfl (vp_in_nI (n := 26) (by decide) (by decide)) rfl rfl dX12_init_448 ?_
  refine yi_dup E dX12_init_449 rfl ?_
  refine yi_bipush (v := 27) E dX12_init_450 (by decide) ?_
  refine yi_bipush (v := 108) E dX12_init_452 (by decide) ?_
  refine yi_iastc (q := 14) (f' := mA47_28) (ws' := [(h0, .inr (12, [.ref q1, .int 0, .int 0, .ref q2, .ref q3, .ref q4, .ref q5, .ref q6, .int 0, .ref q7, .ref q8, .int 0, .int 0, .int 0, .int 0, .int 0, .ref q9, .ref q10, .ref q15, .ref q16, .ref q17, .int 0, .int 0, .int 0, .int 0, .null, .null, .int 0, .int 0, .int 0, .null, .null, .int 0, .int 0, .null, .null])), (q1, .inl (w.2.1 1, 3, .inl (fun _ => 0))), (q2, .inl (w.2.1 1, 5, .inl (fun _ => 0))), (q3, .inl (w.2.1 1, 5, .inl (fun _ => 0))), (q4, .inl (w.2.1 1, 5, .inl (fun _ => 0))), (q5, .inl (w.2.1 1, 5, .inl (fun _ => 0))), (q6, .inl (w.2.1 1, 160, .inl (fun _ => 0))), (q7, .inl (w.2.1 1, 1200, .inl (fun _ => 0))), (q8, .inl (w.2.1 1, 24, .inl (fun _ => 0))), (q9, .inl (w.2.1 1, 14, .inl (fun _ => 0))), (q10, .inl (w.2.1 1, 4, .inl mA10_4)), (q15, .inl (w.2.1 1, 4, .inl (fun _ => 0))), (q16, .inl (w.2.1 1, 160, .inl (fun _ => 0))), (q17, .inl (w.2.1 1, 29, .inl mA17_29)), (q47, .inl (w.2.1 1, 96, .inl mA47_28))]) E rfl (vp_in_nI (n := 27) (by decide) (by decide)) rfl rfl dX12_init_454 ?_
  refine yi_dup E dX12_init_455 rfl ?_
  refine yi_bipush (v := 28) E dX12_init_456 (by decide) ?_
  refine yi_bipush (v := 32) E dX12_init_458 (by decide) ?_
  refine yi_iastc (q := 14) (f' := mA47_29) (ws' := [(h0, .inr (12, [.ref q1, .int 0, .int 0, .ref q2, .ref q3, .ref q4, .ref q5, .ref q6, .int 0, .ref q7, .ref q8, .int 0, .int 0, .int 0, .int 0, .int 0, .ref q9, .ref q10, .ref q15, .ref q16, .ref q17, .int 0, .int 0, .int 0, .int 0, .null, .null, .int 0, .int 0, .int 0, .null, .null, .int 0, .int 0, .null, .null])), (q1, .inl (w.2.1 1, 3, .inl (fun _ => 0))), (q2, .inl (w.2.1 1, 5, .inl (fun _ => 0))), (q3, .inl (w.2.1 1, 5, .inl (fun _ => 0))), (q4, .inl (w.2.1 1, 5, .inl (fun _ => 0))), (q5, .inl (w.2.1 1, 5, .inl (fun _ => 0))), (q6, .inl (w.2.1 1, 160, .inl (fun _ => 0))), (q7, .inl (w.2.1 1, 1200, .inl (fun _ => 0))), (q8, .inl (w.2.1 1, 24, .inl (fun _ => 0))), (q9, .inl (w.2.1 1, 14, .inl (fun _ => 0))), (q10, .inl (w.2.1 1, 4, .inl mA10_4)), (q15, .inl (w.2.1 1, 4, .inl (fun _ => 0))), (q16, .inl (w.2.1 1, 160, .inl (fun _ => 0))), (q17, .inl (w.2.1 1, 29, .inl mA17_29)), (q47, .inl (w.2.1 1, 96, .inl mA47_29))]) E rfl (vp_in_nI (n := 28) (by decide) (by decide)) rfl rfl dX12_init_460 ?_
  refine yi_dup E dX12_init_461 rfl ?_
  refine yi_bipush (v := 29) E dX12_init_462 (by decide) ?_
  refine yi_bipush (v := 32) E dX12_init_464 (by decide) ?_
  refine yi_iastc (q := 14) (f' := mA47_30) (ws' := [(h0, .inr (12, [.ref q1, .int 0, .int 0, .ref q2, .ref q3, .ref q4, .ref q5, .ref q6, .int 0, .ref q7, .ref q8, .int 0, .int 0, .int 0, .int 0, .int 0, .ref q9, .ref q10, .ref q15, .ref q16, .ref q17, .int 0, .int 0, .int 0, .int 0, .null, .null, .int 0, .int 0, .int 0, .null, .null, .int 0, .int 0, .null, .null])), (q1, .inl (w.2.1 1, 3, .inl (fun _ => 0))), (q2, .inl (w.2.1 1, 5, .inl (fun _ => 0))), (q3, .inl (w.2.1 1, 5, .inl (fun _ => 0))), (q4, .inl (w.2.1 1, 5, .inl (fun _ => 0))), (q5, .inl (w.2.1 1, 5, .inl (fun _ => 0))), (q6, .inl (w.2.1 1, 160, .inl (fun _ => 0))), (q7, .inl (w.2.1 1, 1200, .inl (fun _ => 0))), (q8, .inl (w.2.1 1, 24, .inl (fun _ => 0))), (q9, .inl (w.2.1 1, 14, .inl (fun _ => 0))), (q10, .inl (w.2.1 1, 4, .inl mA10_4)), (q15, .inl (w.2.1 1, 4, .inl (fun _ => 0))), (q16, .inl (w.2.1 1, 160, .inl (fun _ => 0))), (q17, .inl (w.2.1 1, 29, .inl mA17_29)), (q47, .inl (w.2.1 1, 96, .inl mA47_30))]) E rfl (vp_in_nI (n := 29) (by decide) (by decide)) rfl rfl dX12_init_466 ?_
  refine yi_dup E dX12_init_467 rfl ?_
  refine yi_bipush (v := 30) E dX12_init_468 (by decide) ?_
  refine yi_bipush (v := 32) E dX12_init_470 (by decide) ?_
  refine yi_iastc (q := 14) (f' := mA47_31) (ws' := [(h0, .inr (12, [.ref q1, .int 0, .int 0, .ref q2, .ref q3, .ref q4, .ref q5, .ref q6, .int 0, .ref q7, .ref q8, .int 0, .int 0, .int 0, .int 0, .int 0, .ref q9, .ref q10, .ref q15, .ref q16, .ref q17, .int 0, .int 0, .int 0, .int 0, .null, .null, .int 0, .int 0, .int 0, .null, .null, .int 0, .int 0, .null, .null])), (q1, .inl (w.2.1 1, 3, .inl (fun _ => 0))), (q2, .inl (w.2.1 1, 5, .inl (fun _ => 0))), (q3, .inl (w.2.1 1, 5, .inl (fun _ => 0))), (q4, .inl (w.2.1 1, 5, .inl (fun _ => 0))), (q5, .inl (w.2.1 1, 5, .inl (fun _ => 0))), (q6, .inl (w.2.1 1, 160, .inl (fun _ => 0))), (q7, .inl (w.2.1 1, 1200, .inl (fun _ => 0))), (q8, .inl (w.2.1 1, 24, .inl (fun _ => 0))), (q9, .inl (w.2.1 1, 14, .inl (fun _ => 0))), (q10, .inl (w.2.1 1, 4, .inl mA10_4)), (q15, .inl (w.2.1 1, 4, .inl (fun _ => 0))), (q16, .inl (w.2.1 1, 160, .inl (fun _ => 0))), (q17, .inl (w.2.1 1, 29, .inl mA17_29)), (q47, .inl (w.2.1 1, 96, .inl mA47_31))]) E rfl (vp_in_nI (n := 30) (by decide) (by decide)) rfl rfl dX12_init_472 ?_
  refine yi_dup E dX12_init_473 rfl ?_
  refine yi_bipush (v := 31) E dX12_init_474 (by decide) ?_
  refine yi_bipush (v := 32) E dX12_init_476 (by decide) ?_
  refine yi_iastc (q := 14) (f' := mA47_32) (ws' := [(h0, .inr (12, [.ref q1, .int 0, .int 0, .ref q2, .ref q3, .ref q4, .ref q5, .ref q6, .int 0, .ref q7, .ref q8, .int 0, .int 0, .int 0, .int 0, .int 0, .ref q9, .ref q10, .ref q15, .ref q16, .ref q17, .int 0, .int 0, .int 0, .int 0, .null, .null, .int 0, .int 0, .int 0, .null, .null, .int 0, .int 0, .null, .null])), (q1, .inl (w.2.1 1, 3, .inl (fun _ => 0))), (q2, .inl (w.2.1 1, 5, .inl (fun _ => 0))), (q3, .inl (w.2.1 1, 5, .inl (fun _ => 0))), (q4, .inl (w.2.1 1, 5, .inl (fun _ => 0))), (q5, .inl (w.2.1 1, 5, .inl (fun _ => 0))), (q6, .inl (w.2.1 1, 160, .inl (fun _ => 0))), (q7, .inl (w.2.1 1, 1200, .inl (fun _ => 0))), (q8, .inl (w.2.1 1, 24, .inl (fun _ => 0))), (q9, .inl (w.2.1 1, 14, .inl (fun _ => 0))), (q10, .inl (w.2.1 1, 4, .inl mA10_4)), (q15, .inl (w.2.1 1, 4, .inl (fun _ => 0))), (q16, .inl (w.2.1 1, 160, .inl (fun _ => 0))), (q17, .inl (w.2.1 1, 29, .inl mA17_29)), (q47, .inl (w.2.1 1, 96, .inl mA47_32))]) E rfl (vp_in_nI (n := 31) (by decide) (by decide)) rfl rfl dX12_init_478 ?_
  refine yi_dup E dX12_init_479 rfl ?_
  refine yi_bipush (v := 32) E dX12_init_480 (by decide) ?_
  refine yi_bipush (v := 120) E dX12_init_482 (by decide) ?_
  refine yi_iastc (q := 14) (f' := mA47_33) (ws' := [(h0, .inr (12, [.ref q1, .int 0, .int 0, .ref q2, .ref q3, .ref q4, .ref q5, .ref q6, .int 0, .ref q7, .ref q8, .int 0, .int 0, .int 0, .int 0, .int 0, .ref q9, .ref q10, .ref q15, .ref q16, .ref q17, .int 0, .int 0, .int 0, .int 0, .null, .null, .int 0, .int 0, .int 0, .null, .null, .int 0, .int 0, .null, .null])), (q1, .inl (w.2.1 1, 3, .inl (fun _ => 0))), (q2, .inl (w.2.1 1, 5, .inl (fun _ => 0))), (q3, .inl (w.2.1 1, 5, .inl (fun _ => 0))), (q4, .inl (w.2.1 1, 5, .inl (fun _ => 0))), (q5, .inl (w.2.1 1, 5, .inl (fun _ => 0))), (q6, .inl (w.2.1 1, 160, .inl (fun _ => 0))), (q7, .inl (w.2.1 1, 1200, .inl (fun _ => 0))), (q8, .inl (w.2.1 1, 24, .inl (fun _ => 0))), (q9, .inl (w.2.1 1, 14, .inl (fun _ => 0))), (q10, .inl (w.2.1 1, 4, .inl mA10_4)), (q15, .inl (w.2.1 1, 4, .inl (fun _ => 0))), (q16, .inl (w.2.1 1, 160, .inl (fun _ => 0))), (q17, .inl (w.2.1 1, 29, .inl mA17_29)), (q47, .inl (w.2.1 1, 96, .inl mA47_33))]) E rfl (vp_in_nI (n := 32) (by decide) (by decide)) rfl rfl dX12_init_484 ?_
  refine yi_dup E dX12_init_485 rfl ?_
  refine yi_bipush (v := 33) E dX12_init_486 (by decide) ?_
  refine yi_bipush (v := 32) E dX12_init_488 (by decide) ?_
  refine yi_iastc (q := 14) (f' := mA47_34) (ws' := [(h0, .inr (12, [.ref q1, .int 0, .int 0, .ref q2, .ref q3, .ref q4, .ref q5, .ref q6, .int 0, .ref q7, .ref q8, .int 0, .int 0, .int 0, .int 0, .int 0, .ref q9, .ref q10, .ref q15, .ref q16, .ref q17, .int 0, .int 0, .int 0, .int 0, .null, .null, .int 0, .int 0, .int 0, .null, .null, .int 0, .int 0, .null, .null])), (q1, .inl (w.2.1 1, 3, .inl (fun _ => 0))), (q2, .inl (w.2.1 1, 5, .inl (fun _ => 0))), (q3, .inl (w.2.1 1, 5, .inl (fun _ => 0))), (q4, .inl (w.2.1 1, 5, .inl (fun _ => 0))), (q5, .inl (w.2.1 1, 5, .inl (fun _ => 0))), (q6, .inl (w.2.1 1, 160, .inl (fun _ => 0))), (q7, .inl (w.2.1 1, 1200, .inl (fun _ => 0))), (q8, .inl (w.2.1 1, 24, .inl (fun _ => 0))), (q9, .inl (w.2.1 1, 14, .inl (fun _ => 0))), (q10, .inl (w.2.1 1, 4, .inl mA10_4)), (q15, .inl (w.2.1 1, 4, .inl (fun _ => 0))), (q16, .inl (w.2.1 1, 160, .inl (fun _ => 0))), (q17, .inl (w.2.1 1, 29, .inl mA17_29)), (q47, .inl (w.2.1 1, 96, .inl mA47_34))]) E rfl (vp_in_nI (n := 33) (by decide) (by decide)) rfl rfl dX12_init_490 ?_
  refine yi_dup E dX12_init_491 rfl ?_
  refine yi_bipush (v := 34) E dX12_init_492 (by decide) ?_
  refine yi_bipush (v := 32) E dX12_init_494 (by decide) ?_
  refine yi_iastc (q := 14) (f' := mA47_35) (ws' := [(h0, .inr (12, [.ref q1, .int 0, .int 0, .ref q2, .ref q3, .ref q4, .ref q5, .ref q6, .int 0, .ref q7, .ref q8, .int 0, .int 0, .int 0, .int 0, .int 0, .ref q9, .ref q10, .ref q15, .ref q16, .ref q17, .int 0, .int 0, .int 0, .int 0, .null, .null, .int 0, .int 0, .int 0, .null, .null, .int 0, .int 0, .null, .null])), (q1, .inl (w.2.1 1, 3, .inl (fun _ => 0))), (q2, .inl (w.2.1 1, 5, .inl (fun _ => 0))), (q3, .inl (w.2.1 1, 5, .inl (fun _ => 0))), (q4, .inl (w.2.1 1, 5, .inl (fun _ => 0))), (q5, .inl (w.2.1 1, 5, .inl (fun _ => 0))), (q6, .inl (w.2.1 1, 160, .inl (fun _ => 0))), (q7, .inl (w.2.1 1, 1200, .inl (fun _ => 0))), (q8, .inl (w.2.1 1, 24, .inl (fun _ => 0))), (q9, .inl (w.2.1 1, 14, .inl (fun _ => 0))), (q10, .inl (w.2.1 1, 4, .inl mA10_4)), (q15, .inl (w.2.1 1, 4, .inl (fun _ => 0))), (q16, .inl (w.2.1 1, 160, .inl (fun _ => 0))), (q17, .inl (w.2.1 1, 29, .inl mA17_29)), (q47, .inl (w.2.1 1, 96, .inl mA47_35))]) E rfl (vp_in_nI (n := 34) (by decide) (by decide)) rfl rfl dX12_init_496 ?_
  refine yi_dup E dX12_init_497 rfl ?_
  refine yi_bipush (v := 35) E dX12_init_498 (by decide) ?_
  refine yi_bipush (v := 32) E dX12_init_500 (by decide) ?_
  refine yi_iastc (q := 14) (f' := mA47_36) (ws' := [(h0, .inr (12, [.ref q1, .int 0, .int 0, .ref q2, .ref q3, .ref q4, .ref q5, .ref q6, .int 0, .ref q7, .ref q8, .int 0, .int 0, .int 0, .int 0, .int 0, .ref q9, .ref q10, .ref q15, .ref q16, .ref q17, .int 0, .int 0, .int 0, .int 0, .null, .null, .int 0, .int 0, .int 0, .null, .null, .int 0, .int 0, .null, .null])), (q1, .inl (w.2.1 1, 3, .inl (fun _ => 0))), (q2, .inl (w.2.1 1, 5, .inl (fun _ => 0))), (q3, .inl (w.2.1 1, 5, .inl (fun _ => 0))), (q4, .inl (w.2.1 1, 5, .inl (fun _ => 0))), (q5, .inl (w.2.1 1, 5, .inl (fun _ => 0))), (q6, .inl (w.2.1 1, 160, .inl (fun _ => 0))), (q7, .inl (w.2.1 1, 1200, .inl (fun _ => 0))), (q8, .inl (w.2.1 1, 24, .inl (fun _ => 0))), (q9, .inl (w.2.1 1, 14, .inl (fun _ => 0))), (q10, .inl (w.2.1 1, 4, .inl mA10_4)), (q15, .inl (w.2.1 1, 4, .inl (fun _ => 0))), (q16, .inl (w.2.1 1, 160, .inl (fun _ => 0))), (q17, .inl (w.2.1 1, 29, .inl mA17_29)), (q47, .inl (w.2.1 1, 96, .inl mA47_36))]) E rfl (vp_in_nI (n := 35) (by decide) (by decide)) rfl rfl dX12_init_502 ?_
  refine yi_dup E dX12_init_503 rfl ?_
  refine yi_bipush (v := 36) E dX12_init_504 (by decide) ?_
  refine yi_bipush (v := 32) E dX12_init_506 (by decide) ?_
  refine yi_iastc (q := 14) (f' := mA47_37) (ws' := [(h0, .inr (12, [.ref q1, .int 0, .int 0, .ref q2, .ref q3, .ref q4, .ref q5, .ref q6, .int 0, .ref q7, .ref q8, .int 0, .int 0, .int 0, .int 0, .int 0, .ref q9, .ref q10, .ref q15, .ref q16, .ref q17, .int 0, .int 0, .int 0, .int 0, .null, .null, .int 0, .int 0, .int 0, .null, .null, .int 0, .int 0, .null, .null])), (q1, .inl (w.2.1 1, 3, .inl (fun _ => 0))), (q2, .inl (w.2.1 1, 5, .inl (fun _ => 0))), (q3, .inl (w.2.1 1, 5, .inl (fun _ => 0))), (q4, .inl (w.2.1 1, 5, .inl (fun _ => 0))), (q5, .inl (w.2.1 1, 5, .inl (fun _ => 0))), (q6, .inl (w.2.1 1, 160, .inl (fun _ => 0))), (q7, .inl (w.2.1 1, 1200, .inl (fun _ => 0))), (q8, .inl (w.2.1 1, 24, .inl (fun _ => 0))), (q9, .inl (w.2.1 1, 14, .inl (fun _ => 0))), (q10, .inl (w.2.1 1, 4, .inl mA10_4)), (q15, .inl (w.2.1 1, 4, .inl (fun _ => 0))), (q16, .inl (w.2.1 1, 160, .inl (fun _ => 0))), (q17, .inl (w.2.1 1, 29, .inl mA17_29)), (q47, .inl (w.2.1 1, 96, .inl mA47_37))]) E rfl (vp_in_nI (n := 36) (by decide) (by decide)) rfl rfl dX12_init_508 ?_
  refine yi_dup E dX12_init_509 rfl ?_
  refine yi_bipush (v := 37) E dX12_init_510 (by decide) ?_
  refine yi_bipush (v := 32) E dX12_init_512 (by decide) ?_
  refine yi_iastc (q := 14) (f' := mA47_38) (ws' := [(h0, .inr (12, [.ref q1, .int 0, .int 0, .ref q2, .ref q3, .ref q4, .ref q5, .ref q6, .int 0, .ref q7, .ref q8, .int 0, .int 0, .int 0, .int 0, .int 0, .ref q9, .ref q10, .ref q15, .ref q16, .ref q17, .int 0, .int 0, .int 0, .int 0, .null, .null, .int 0, .int 0, .int 0, .null, .null, .int 0, .int 0, .null, .null])), (q1, .inl (w.2.1 1, 3, .inl (fun _ => 0))), (q2, .inl (w.2.1 1, 5, .inl (fun _ => 0))), (q3, .inl (w.2.1 1, 5, .inl (fun _ => 0))), (q4, .inl (w.2.1 1, 5, .inl (fun _ => 0))), (q5, .inl (w.2.1 1, 5, .inl (fun _ => 0))), (q6, .inl (w.2.1 1, 160, .inl (fun _ => 0))), (q7, .inl (w.2.1 1, 1200, .inl (fun _ => 0))), (q8, .inl (w.2.1 1, 24, .inl (fun _ => 0))), (q9, .inl (w.2.1 1, 14, .inl (fun _ => 0))), (q10, .inl (w.2.1 1, 4, .inl mA10_4)), (q15, .inl (w.2.1 1, 4, .inl (fun _ => 0))), (q16, .inl (w.2.1 1, 160, .inl (fun _ => 0))), (q17, .inl (w.2.1 1, 29, .inl mA17_29)), (q47, .inl (w.2.1 1, 96, .inl mA47_38))]) E rfl (vp_in_nI (n := 37) (by decide) (by decide)) rfl rfl dX12_init_514 ?_
  refine yi_dup E dX12_init_515 rfl ?_
  refine yi_bipush (v := 38) E dX12_init_516 (by decide) ?_
  refine yi_bipush (v := 32) E dX12_init_518 (by decide) ?_
  refine yi_iastc (q := 14) (f' := mA47_39) (ws' := [(h0, .inr (12, [.ref q1, .int 0, .int 0, .ref q2, .ref q3, .ref q4, .ref q5, .ref q6, .int 0, .ref q7, .ref q8, .int 0, .int 0, .int 0, .int 0, .int 0, .ref q9, .ref q10, .ref q15, .ref q16, .ref q17, .int 0, .int 0, .int 0, .int 0, .null, .null, .int 0, .int 0, .int 0, .null, .null, .int 0, .int 0, .null, .null])), (q1, .inl (w.2.1 1, 3, .inl (fun _ => 0))), (q2, .inl (w.2.1 1, 5, .inl (fun _ => 0))), (q3, .inl (w.2.1 1, 5, .inl (fun _ => 0))), (q4, .inl (w.2.1 1, 5, .inl (fun _ => 0))), (q5, .inl (w.2.1 1, 5, .inl (fun _ => 0))), (q6, .inl (w.2.1 1, 160, .inl (fun _ => 0))), (q7, .inl (w.2.1 1, 1200, .inl (fun _ => 0))), (q8, .inl (w.2.1 1, 24, .inl (fun _ => 0))), (q9, .inl (w.2.1 1, 14, .inl (fun _ => 0))), (q10, .inl (w.2.1 1, 4, .inl mA10_4)), (q15, .inl (w.2.1 1, 4, .inl (fun _ => 0))), (q16, .inl (w.2.1 1, 160, .inl (fun _ => 0))), (q17, .inl (w.2.1 1, 29, .inl mA17_29)), (q47, .inl (w.2.1 1, 96, .inl mA47_39))]) E rfl (vp_in_nI (n := 38) (by decide) (by decide)) rfl rfl dX12_init_520 ?_
  refine yi_dup E dX12_init_521 rfl ?_
  refine yi_bipush (v := 39) E dX12_init_522 (by decide) ?_
  refine yi_bipush (v := 32) E dX12_init_524 (by decide) ?_
  refine yi_iastc (q := 14) (f' := mA47_40) (ws' := [(h0, .inr (12, [.ref q1, .int 0, .int 0, .ref q2, .ref q3, .ref q4, .ref q5, .ref q6, .int 0, .ref q7, .ref q8, .int 0, .int 0, .int 0, .int 0, .int 0, .ref q9, .ref q10, .ref q15, .ref q16, .ref q17, .int 0, .int 0, .int 0, .int 0, .null, .null, .int 0, .int 0, .int 0, .null, .null, .int 0, .int 0, .null, .null])), (q1, .inl (w.2.1 1, 3, .inl (fun _ => 0))), (q2, .inl (w.2.1 1, 5, .inl (fun _ => 0))), (q3, .inl (w.2.1 1, 5, .inl (fun _ => 0))), (q4, .inl (w.2.1 1, 5, .inl (fun _ => 0))), (q5, .inl (w.2.1 1, 5, .inl (fun _ => 0))), (q6, .inl (w.2.1 1, 160, .inl (fun _ => 0))), (q7, .inl (w.2.1 1, 1200, .inl (fun _ => 0))), (q8, .inl (w.2.1 1, 24, .inl (fun _ => 0))), (q9, .inl (w.2.1 1, 14, .inl (fun _ => 0))), (q10, .inl (w.2.1 1, 4, .inl mA10_4)), (q15, .inl (w.2.1 1, 4, .inl (fun _ => 0))), (q16, .inl (w.2.1 1, 160, .inl (fun _ => 0))), (q17, .inl (w.2.1 1, 29, .inl mA17_29)), (q47, .inl (w.2.1 1, 96, .inl mA47_40))]) E rfl (vp_in_nI (n := 39) (by decide) (by decide)) rfl rfl dX12_init_526 ?_
  refine yi_dup E dX12_init_527 rfl ?_
  refine yi_bipush (v := 40) E dX12_init_528 (by decide) ?_
  refine yi_bipush (v := 121) E dX12_init_530 (by decide) ?_
  refine yi_iastc (q := 14) (f' := mA47_41) (ws' := [(h0, .inr (12, [.ref q1, .int 0, .int 0, .ref q2, .ref q3, .ref q4, .ref q5, .ref q6, .int 0, .ref q7, .ref q8, .int 0, .int 0, .int 0, .int 0, .int 0, .ref q9, .ref q10, .ref q15, .ref q16, .ref q17, .int 0, .int 0, .int 0, .int 0, .null, .null, .int 0, .int 0, .int 0, .null, .null, .int 0, .int 0, .null, .null])), (q1, .inl (w.2.1 1, 3, .inl (fun _ => 0))), (q2, .inl (w.2.1 1, 5, .inl (fun _ => 0))), (q3, .inl (w.2.1 1, 5, .inl (fun _ => 0))), (q4, .inl (w.2.1 1, 5, .inl (fun _ => 0))), (q5, .inl (w.2.1 1, 5, .inl (fun _ => 0))), (q6, .inl (w.2.1 1, 160, .inl (fun _ => 0))), (q7, .inl (w.2.1 1, 1200, .inl (fun _ => 0))), (q8, .inl (w.2.1 1, 24, .inl (fun _ => 0))), (q9, .inl (w.2.1 1, 14, .inl (fun _ => 0))), (q10, .inl (w.2.1 1, 4, .inl mA10_4)), (q15, .inl (w.2.1 1, 4, .inl (fun _ => 0))), (q16, .inl (w.2.1 1, 160, .inl (fun _ => 0))), (q17, .inl (w.2.1 1, 29, .inl mA17_29)), (q47, .inl (w.2.1 1, 96, .inl mA47_41))]) E rfl (vp_in_nI (n := 40) (by decide) (by decide)) rfl rfl dX12_init_532 ?_
  refine yi_dup E dX12_init_533 rfl ?_
  refine yi_bipush (v := 41) E dX12_init_534 (by decide) ?_
  refine yi_bipush (v := 32) E dX12_init_536 (by decide) ?_
  refine yi_iastc (q := 14) (f' := mA47_42) (ws' := [(h0, .inr (12, [.ref q1, .int 0, .int 0, .ref q2, .ref q3, .ref q4, .ref q5, .ref q6, .int 0, .ref q7, .ref q8, .int 0, .int 0, .int 0, .int 0, .int 0, .ref q9, .ref q10, .ref q15, .ref q16, .ref q17, .int 0, .int 0, .int 0, .int 0, .null, .null, .int 0, .int 0, .int 0, .null, .null, .int 0, .int 0, .null, .null])), (q1, .inl (w.2.1 1, 3, .inl (fun _ => 0))), (q2, .inl (w.2.1 1, 5, .inl (fun _ => 0))), (q3, .inl (w.2.1 1, 5, .inl (fun _ => 0))), (q4, .inl (w.2.1 1, 5, .inl (fun _ => 0))), (q5, .inl (w.2.1 1, 5, .inl (fun _ => 0))), (q6, .inl (w.2.1 1, 160, .inl (fun _ => 0))), (q7, .inl (w.2.1 1, 1200, .inl (fun _ => 0))), (q8, .inl (w.2.1 1, 24, .inl (fun _ => 0))), (q9, .inl (w.2.1 1, 14, .inl (fun _ => 0))), (q10, .inl (w.2.1 1, 4, .inl mA10_4)), (q15, .inl (w.2.1 1, 4, .inl (fun _ => 0))), (q16, .inl (w.2.1 1, 160, .inl (fun _ => 0))), (q17, .inl (w.2.1 1, 29, .inl mA17_29)), (q47, .inl (w.2.1 1, 96, .inl mA47_42))]) E rfl (vp_in_nI (n := 41) (by decide) (by decide)) rfl rfl dX12_init_538 ?_
  refine yi_dup E dX12_init_539 rfl ?_
  refine yi_bipush (v := 42) E dX12_init_540 (by decide) ?_
  refine yi_bipush (v := 32) E dX12_init_542 (by decide) ?_
  refine yi_iastc (q := 14) (f' := mA47_43) (ws' := [(h0, .inr (12, [.ref q1, .int 0, .int 0, .ref q2, .ref q3, .ref q4, .ref q5, .ref q6, .int 0, .ref q7, .ref q8, .int 0, .int 0, .int 0, .int 0, .int 0, .ref q9, .ref q10, .ref q15, .ref q16, .ref q17, .int 0, .int 0, .int 0, .int 0, .null, .null, .int 0, .int 0, .int 0, .null, .null, .int 0, .int 0, .null, .null])), (q1, .inl (w.2.1 1, 3, .inl (fun _ => 0))), (q2, .inl (w.2.1 1, 5, .inl (fun _ => 0))), (q3, .inl (w.2.1 1, 5, .inl (fun _ => 0))), (q4, .inl (w.2.1 1, 5, .inl (fun _ => 0))), (q5, .inl (w.2.1 1, 5, .inl (fun _ => 0))), (q6, .inl (w.2.1 1, 160, .inl (fun _ => 0))), (q7, .inl (w.2.1 1, 1200, .inl (fun _ => 0))), (q8, .inl (w.2.1 1, 24, .inl (fun _ => 0))), (q9, .inl (w.2.1 1, 14, .inl (fun _ => 0))), (q10, .inl (w.2.1 1, 4, .inl mA10_4)), (q15, .inl (w.2.1 1, 4, .inl (fun _ => 0))), (q16, .inl (w.2.1 1, 160, .inl (fun _ => 0))), (q17, .inl (w.2.1 1, 29, .inl mA17_29)), (q47, .inl (w.2.1 1, 96, .inl mA47_43))]) E rfl (vp_in_nI (n := 42) (by decide) (by decide)) rfl rfl dX12_init_544 ?_
  refine yi_dup E dX12_init_545 rfl ?_
  refine yi_bipush (v := 43) E dX12_init_546 (by decide) ?_
  refine yi_bipush (v := 32) E dX12_init_548 (by decide) ?_
  refine yi_iastc (q := 14) (f' := mA47_44) (ws' := [(h0, .inr (12, [.ref q1, .int 0, .int 0, .ref q2, .ref q3, .ref q4, .ref q5, .ref q6, .int 0, .ref q7, .ref q8, .int 0, .int 0, .int 0, .int 0, .int 0, .ref q9, .ref q10, .ref q15, .ref q16, .ref q17, .int 0, .int 0, .int 0, .int 0, .null, .null, .int 0, .int 0, .int 0, .null, .null, .int 0, .int 0, .null, .null])), (q1, .inl (w.2.1 1, 3, .inl (fun _ => 0))), (q2, .inl (w.2.1 1, 5, .inl (fun _ => 0))), (q3, .inl (w.2.1 1, 5, .inl (fun _ => 0))), (q4, .inl (w.2.1 1, 5, .inl (fun _ => 0))), (q5, .inl (w.2.1 1, 5, .inl (fun _ => 0))), (q6, .inl (w.2.1 1, 160, .inl (fun _ => 0))), (q7, .inl (w.2.1 1, 1200, .inl (fun _ => 0))), (q8, .inl (w.2.1 1, 24, .inl (fun _ => 0))), (q9, .inl (w.2.1 1, 14, .inl (fun _ => 0))), (q10, .inl (w.2.1 1, 4, .inl mA10_4)), (q15, .inl (w.2.1 1, 4, .inl (fun _ => 0))), (q16, .inl (w.2.1 1, 160, .inl (fun _ => 0))), (q17, .inl (w.2.1 1, 29, .inl mA17_29)), (q47, .inl (w.2.1 1, 96, .inl mA47_44))]) E rfl (vp_in_nI (n := 43) (by decide) (by decide)) rfl rfl dX12_init_550 ?_
  refine yi_dup E dX12_init_551 rfl ?_
  refine yi_bipush (v := 44) E dX12_init_552 (by decide) ?_
  refine yi_bipush (v := 32) E dX12_init_554 (by decide) ?_
  refine yi_iastc (q := 14) (f' := mA47_45) (ws' := [(h0, .inr (12, [.ref q1, .int 0, .int 0, .ref q2, .ref q3, .ref q4, .ref q5, .ref q6, .int 0, .ref q7, .ref q8, .int 0, .int 0, .int 0, .int 0, .int 0, .ref q9, .ref q10, .ref q15, .ref q16, .ref q17, .int 0, .int 0, .int 0, .int 0, .null, .null, .int 0, .int 0, .int 0, .null, .null, .int 0, .int 0, .null, .null])), (q1, .inl (w.2.1 1, 3, .inl (fun _ => 0))), (q2, .inl (w.2.1 1, 5, .inl (fun _ => 0))), (q3, .inl (w.2.1 1, 5, .inl (fun _ => 0))), (q4, .inl (w.2.1 1, 5, .inl (fun _ => 0))), (q5, .inl (w.2.1 1, 5, .inl (fun _ => 0))), (q6, .inl (w.2.1 1, 160, .inl (fun _ => 0))), (q7, .inl (w.2.1 1, 1200, .inl (fun _ => 0))), (q8, .inl (w.2.1 1, 24, .inl (fun _ => 0))), (q9, .inl (w.2.1 1, 14, .inl (fun _ => 0))), (q10, .inl (w.2.1 1, 4, .inl mA10_4)), (q15, .inl (w.2.1 1, 4, .inl (fun _ => 0))), (q16, .inl (w.2.1 1, 160, .inl (fun _ => 0))), (q17, .inl (w.2.1 1, 29, .inl mA17_29)), (q47, .inl (w.2.1 1, 96, .inl mA47_45))]) E rfl (vp_in_nI (n := 44) (by decide) (by decide)) rfl rfl dX12_init_556 ?_
  refine yi_dup E dX12_init_557 rfl ?_
  refine yi_bipush (v := 45) E dX12_init_558 (by decide) ?_
  refine yi_bipush (v := 32) E dX12_init_560 (by decide) ?_
  refine yi_iastc (q := 14) (f' := mA47_46) (ws' := [(h0, .inr (12, [.ref q1, .int 0, .int 0, .ref q2, .ref q3, .ref q4, .ref q5, .ref q6, .int 0, .ref q7, .ref q8, .int 0, .int 0, .int 0, .int 0, .int 0, .ref q9, .ref q10, .ref q15, .ref q16, .ref q17, .int 0, .int 0, .int 0, .int 0, .null, .null, .int 0, .int 0, .int 0, .null, .null, .int 0, .int 0, .null, .null])), (q1, .inl (w.2.1 1, 3, .inl (fun _ => 0))), (q2, .inl (w.2.1 1, 5, .inl (fun _ => 0))), (q3, .inl (w.2.1 1, 5, .inl (fun _ => 0))), (q4, .inl (w.2.1 1, 5, .inl (fun _ => 0))), (q5, .inl (w.2.1 1, 5, .inl (fun _ => 0))), (q6, .inl (w.2.1 1, 160, .inl (fun _ => 0))), (q7, .inl (w.2.1 1, 1200, .inl (fun _ => 0))), (q8, .inl (w.2.1 1, 24, .inl (fun _ => 0))), (q9, .inl (w.2.1 1, 14, .inl (fun _ => 0))), (q10, .inl (w.2.1 1, 4, .inl mA10_4)), (q15, .inl (w.2.1 1, 4, .inl (fun _ => 0))), (q16, .inl (w.2.1 1, 160, .inl (fun _ => 0))), (q17, .inl (w.2.1 1, 29, .inl mA17_29)), (q47, .inl (w.2.1 1, 96, .inl mA47_46))]) E rfl (vp_in_nI (n := 45) (by decide) (by decide)) rfl rfl dX12_init_562 ?_
  refine yi_dup E dX12_init_563 rfl ?_
  refine yi_bipush (v := 46) E dX12_init_564 (by decide) ?_
  refine yi_bipush (v := 32) E dX12_init_566 (by decide) ?_
  refine yi_iastc (q := 14) (f' := mA47_47) (ws' := [(h0, .inr (12, [.ref q1, .int 0, .int 0, .ref q2, .ref q3, .ref q4, .ref q5, .ref q6, .int 0, .ref q7, .ref q8, .int 0, .int 0, .int 0, .int 0, .int 0, .ref q9, .ref q10, .ref q15, .ref q16, .ref q17, .int 0, .int 0, .int 0, .int 0, .null, .null, .int 0, .int 0, .int 0, .null, .null, .int 0, .int 0, .null, .null])), (q1, .inl (w.2.1 1, 3, .inl (fun _ => 0))), (q2, .inl (w.2.1 1, 5, .inl (fun _ => 0))), (q3, .inl (w.2.1 1, 5, .inl (fun _ => 0))), (q4, .inl (w.2.1 1, 5, .inl (fun _ => 0))), (q5, .inl (w.2.1 1, 5, .inl (fun _ => 0))), (q6, .inl (w.2.1 1, 160, .inl (fun _ => 0))), (q7, .inl (w.2.1 1, 1200, .inl (fun _ => 0))), (q8, .inl (w.2.1 1, 24, .inl (fun _ => 0))), (q9, .inl (w.2.1 1, 14, .inl (fun _ => 0))), (q10, .inl (w.2.1 1, 4, .inl mA10_4)), (q15, .inl (w.2.1 1, 4, .inl (fun _ => 0))), (q16, .inl (w.2.1 1, 160, .inl (fun _ => 0))), (q17, .inl (w.2.1 1, 29, .inl mA17_29)), (q47, .inl (w.2.1 1, 96, .inl mA47_47))]) E rfl (vp_in_nI (n := 46) (by decide) (by decide)) rfl rfl dX12_init_568 ?_
  refine yi_dup E dX12_init_569 rfl ?_
  refine yi_bipush (v := 47) E dX12_init_570 (by decide) ?_
  refine yi_bipush (v := 32) E dX12_init_572 (by decide) ?_
  refine yi_iastc (q := 14) (f' := mA47_48) (ws' := [(h0, .inr (12, [.ref q1, .int 0, .int 0, .ref q2, .ref q3, .ref q4, .ref q5, .ref q6, .int 0, .ref q7, .ref q8, .int 0, .int 0, .int 0, .int 0, .int 0, .ref q9, .ref q10, .ref q15, .ref q16, .ref q17, .int 0, .int 0, .int 0, .int 0, .null, .null, .int 0, .int 0, .int 0, .null, .null, .int 0, .int 0, .null, .null])), (q1, .inl (w.2.1 1, 3, .inl (fun _ => 0))), (q2, .inl (w.2.1 1, 5, .inl (fun _ => 0))), (q3, .inl (w.2.1 1, 5, .inl (fun _ => 0))), (q4, .inl (w.2.1 1, 5, .inl (fun _ => 0))), (q5, .inl (w.2.1 1, 5, .inl (fun _ => 0))), (q6, .inl (w.2.1 1, 160, .inl (fun _ => 0))), (q7, .inl (w.2.1 1, 1200, .inl (fun _ => 0))), (q8, .inl (w.2.1 1, 24, .inl (fun _ => 0))), (q9, .inl (w.2.1 1, 14, .inl (fun _ => 0))), (q10, .inl (w.2.1 1, 4, .inl mA10_4)), (q15, .inl (w.2.1 1, 4, .inl (fun _ => 0))), (q16, .inl (w.2.1 1, 160, .inl (fun _ => 0))), (q17, .inl (w.2.1 1, 29, .inl mA17_29)), (q47, .inl (w.2.1 1, 96, .inl mA47_48))]) E rfl (vp_in_nI (n := 47) (by decide) (by decide)) rfl rfl dX12_init_574 ?_
  refine yi_dup E dX12_init_575 rfl ?_
  refine yi_bipush (v := 48) E dX12_init_576 (by decide) ?_
  refine yi_bipush (v := 115) E dX12_init_578 (by decide) ?_
  refine yi_iastc (q := 14) (f' := mA47_49) (ws' := [(h0, .inr (12, [.ref q1, .int 0, .int 0, .ref q2, .ref q3, .ref q4, .ref q5, .ref q6, .int 0, .ref q7, .ref q8, .int 0, .int 0, .int 0, .int 0, .int 0, .ref q9, .ref q10, .ref q15, .ref q16, .ref q17, .int 0, .int 0, .int 0, .int 0, .null, .null, .int 0, .int 0, .int 0, .null, .null, .int 0, .int 0, .null, .null])), (q1, .inl (w.2.1 1, 3, .inl (fun _ => 0))), (q2, .inl (w.2.1 1, 5, .inl (fun _ => 0))), (q3, .inl (w.2.1 1, 5, .inl (fun _ => 0))), (q4, .inl (w.2.1 1, 5, .inl (fun _ => 0))), (q5, .inl (w.2.1 1, 5, .inl (fun _ => 0))), (q6, .inl (w.2.1 1, 160, .inl (fun _ => 0))), (q7, .inl (w.2.1 1, 1200, .inl (fun _ => 0))), (q8, .inl (w.2.1 1, 24, .inl (fun _ => 0))), (q9, .inl (w.2.1 1, 14, .inl (fun _ => 0))), (q10, .inl (w.2.1 1, 4, .inl mA10_4)), (q15, .inl (w.2.1 1, 4, .inl (fun _ => 0))), (q16, .inl (w.2.1 1, 160, .inl (fun _ => 0))), (q17, .inl (w.2.1 1, 29, .inl mA17_29)), (q47, .inl (w.2.1 1, 96, .inl mA47_49))]) E rfl (vp_in_nI (n := 48) (by decide) (by decide)) rfl rfl dX12_init_580 ?_
  refine yi_dup E dX12_init_581 rfl ?_
  refine yi_bipush (v := 49) E dX12_init_582 (by decide) ?_
  refine yi_bipush (v := 116) E dX12_init_584 (by decide) ?_
  refine yi_iastc (q := 14) (f' := mA47_50) (ws' := [(h0, .inr (12, [.ref q1, .int 0, .int 0, .ref q2, .ref q3, .ref q4, .ref q5, .ref q6, .int 0, .ref q7, .ref q8, .int 0, .int 0, .int 0, .int 0, .int 0, .ref q9, .ref q10, .ref q15, .ref q16, .ref q17, .int 0, .int 0, .int 0, .int 0, .null, .null, .int 0, .int 0, .int 0, .null, .null, .int 0, .int 0, .null, .null])), (q1, .inl (w.2.1 1, 3, .inl (fun _ => 0))), (q2, .inl (w.2.1 1, 5, .inl (fun _ => 0))), (q3, .inl (w.2.1 1, 5, .inl (fun _ => 0))), (q4, .inl (w.2.1 1, 5, .inl (fun _ => 0))), (q5, .inl (w.2.1 1, 5, .inl (fun _ => 0))), (q6, .inl (w.2.1 1, 160, .inl (fun _ => 0))), (q7, .inl (w.2.1 1, 1200, .inl (fun _ => 0))), (q8, .inl (w.2.1 1, 24, .inl (fun _ => 0))), (q9, .inl (w.2.1 1, 14, .inl (fun _ => 0))), (q10, .inl (w.2.1 1, 4, .inl mA10_4)), (q15, .inl (w.2.1 1, 4, .inl (fun _ => 0))), (q16, .inl (w.2.1 1, 160, .inl (fun _ => 0))), (q17, .inl (w.2.1 1, 29, .inl mA17_29)), (q47, .inl (w.2.1 1, 96, .inl mA47_50))]) E rfl (vp_in_nI (n := 49) (by decide) (by decide)) rfl rfl dX12_init_586 ?_
  refine yi_dup E dX12_init_587 rfl ?_
  refine yi_bipush (v := 50) E dX12_init_588 (by decide) ?_
  refine yi_bipush (v := 101) E dX12_init_590 (by decide) ?_
  refine yi_iastc (q := 14) (f' := mA47_51) (ws' := [(h0, .inr (12, [.ref q1, .int 0, .int 0, .ref q2, .ref q3, .ref q4, .ref q5, .ref q6, .int 0, .ref q7, .ref q8, .int 0, .int 0, .int 0, .int 0, .int 0, .ref q9, .ref q10, .ref q15, .ref q16, .ref q17, .int 0, .int 0, .int 0, .int 0, .null, .null, .int 0, .int 0, .int 0, .null, .null, .int 0, .int 0, .null, .null])), (q1, .inl (w.2.1 1, 3, .inl (fun _ => 0))), (q2, .inl (w.2.1 1, 5, .inl (fun _ => 0))), (q3, .inl (w.2.1 1, 5, .inl (fun _ => 0))), (q4, .inl (w.2.1 1, 5, .inl (fun _ => 0))), (q5, .inl (w.2.1 1, 5, .inl (fun _ => 0))), (q6, .inl (w.2.1 1, 160, .inl (fun _ => 0))), (q7, .inl (w.2.1 1, 1200, .inl (fun _ => 0))), (q8, .inl (w.2.1 1, 24, .inl (fun _ => 0))), (q9, .inl (w.2.1 1, 14, .inl (fun _ => 0))), (q10, .inl (w.2.1 1, 4, .inl mA10_4)), (q15, .inl (w.2.1 1, 4, .inl (fun _ => 0))), (q16, .inl (w.2.1 1, 160, .inl (fun _ => 0))), (q17, .inl (w.2.1 1, 29, .inl mA17_29)), (q47, .inl (w.2.1 1, 96, .inl mA47_51))]) E rfl (vp_in_nI (n := 50) (by decide) (by decide)) rfl rfl dX12_init_592 ?_
  refine yi_dup E dX12_init_593 rfl ?_
  refine yi_bipush (v := 51) E dX12_init_594 (by decide) ?_
  refine yi_bipush (v := 112) E dX12_init_596 (by decide) ?_
  refine yi_iastc (q := 14) (f' := mA47_52) (ws' := [(h0, .inr (12, [.ref q1, .int 0, .int 0, .ref q2, .ref q3, .ref q4, .ref q5, .ref q6, .int 0, .ref q7, .ref q8, .int 0, .int 0, .int 0, .int 0, .int 0, .ref q9, .ref q10, .ref q15, .ref q16, .ref q17, .int 0, .int 0, .int 0, .int 0, .null, .null, .int 0, .int 0, .int 0, .null, .null, .int 0, .int 0, .null, .null])), (q1, .inl (w.2.1 1, 3, .inl (fun _ => 0))), (q2, .inl (w.2.1 1, 5, .inl (fun _ => 0))), (q3, .inl (w.2.1 1, 5, .inl (fun _ => 0))), (q4, .inl (w.2.1 1, 5, .inl (fun _ => 0))), (q5, .inl (w.2.1 1, 5, .inl (fun _ => 0))), (q6, .inl (w.2.1 1, 160, .inl (fun _ => 0))), (q7, .inl (w.2.1 1, 1200, .inl (fun _ => 0))), (q8, .inl (w.2.1 1, 24, .inl (fun _ => 0))), (q9, .inl (w.2.1 1, 14, .inl (fun _ => 0))), (q10, .inl (w.2.1 1, 4, .inl mA10_4)), (q15, .inl (w.2.1 1, 4, .inl (fun _ => 0))), (q16, .inl (w.2.1 1, 160, .inl (fun _ => 0))), (q17, .inl (w.2.1 1, 29, .inl mA17_29)), (q47, .inl (w.2.1 1, 96, .inl mA47_52))]) E rfl (vp_in_nI (n := 51) (by decide) (by decide)) rfl rfl dX12_init_598 ?_
  refine yi_dup E dX12_init_599 rfl ?_
  refine yi_bipush (v := 52) E dX12_init_600 (by decide) ?_
  refine yi_bipush (v := 32) E dX12_init_602 (by decide) ?_
  refine yi_iastc (q := 14) (f' := mA47_53) (ws' := [(h0, .inr (12, [.ref q1, .int 0, .int 0, .ref q2, .ref q3, .ref q4, .ref q5, .ref q6, .int 0, .ref q7, .ref q8, .int 0, .int 0, .int 0, .int 0, .int 0, .ref q9, .ref q10, .ref q15, .ref q16, .ref q17, .int 0, .int 0, .int 0, .int 0, .null, .null, .int 0, .int 0, .int 0, .null, .null, .int 0, .int 0, .null, .null])), (q1, .inl (w.2.1 1, 3, .inl (fun _ => 0))), (q2, .inl (w.2.1 1, 5, .inl (fun _ => 0))), (q3, .inl (w.2.1 1, 5, .inl (fun _ => 0))), (q4, .inl (w.2.1 1, 5, .inl (fun _ => 0))), (q5, .inl (w.2.1 1, 5, .inl (fun _ => 0))), (q6, .inl (w.2.1 1, 160, .inl (fun _ => 0))), (q7, .inl (w.2.1 1, 1200, .inl (fun _ => 0))), (q8, .inl (w.2.1 1, 24, .inl (fun _ => 0))), (q9, .inl (w.2.1 1, 14, .inl (fun _ => 0))), (q10, .inl (w.2.1 1, 4, .inl mA10_4)), (q15, .inl (w.2.1 1, 4, .inl (fun _ => 0))), (q16, .inl (w.2.1 1, 160, .inl (fun _ => 0))), (q17, .inl (w.2.1 1, 29, .inl mA17_29)), (q47, .inl (w.2.1 1, 96, .inl mA47_53))]) E rfl (vp_in_nI (n := 52) (by decide) (by decide)) rfl rfl dX12_init_604 ?_
  refine yi_dup E dX12_init_605 rfl ?_
  refine yi_bipush (v := 53) E dX12_init_606 (by decide) ?_
  refine yi_bipush (v := 32) E dX12_init_608 (by decide) ?_
  refine yi_iastc (q := 14) (f' := mA47_54) (ws' := [(h0, .inr (12, [.ref q1, .int 0, .int 0, .ref q2, .ref q3, .ref q4, .ref q5, .ref q6, .int 0, .ref q7, .ref q8, .int 0, .int 0, .int 0, .int 0, .int 0, .ref q9, .ref q10, .ref q15, .ref q16, .ref q17, .int 0, .int 0, .int 0, .int 0, .null, .null, .int 0, .int 0, .int 0, .null, .null, .int 0, .int 0, .null, .null])), (q1, .inl (w.2.1 1, 3, .inl (fun _ => 0))), (q2, .inl (w.2.1 1, 5, .inl (fun _ => 0))), (q3, .inl (w.2.1 1, 5, .inl (fun _ => 0))), (q4, .inl (w.2.1 1, 5, .inl (fun _ => 0))), (q5, .inl (w.2.1 1, 5, .inl (fun _ => 0))), (q6, .inl (w.2.1 1, 160, .inl (fun _ => 0))), (q7, .inl (w.2.1 1, 1200, .inl (fun _ => 0))), (q8, .inl (w.2.1 1, 24, .inl (fun _ => 0))), (q9, .inl (w.2.1 1, 14, .inl (fun _ => 0))), (q10, .inl (w.2.1 1, 4, .inl mA10_4)), (q15, .inl (w.2.1 1, 4, .inl (fun _ => 0))), (q16, .inl (w.2.1 1, 160, .inl (fun _ => 0))), (q17, .inl (w.2.1 1, 29, .inl mA17_29)), (q47, .inl (w.2.1 1, 96, .inl mA47_54))]) E rfl (vp_in_nI (n := 53) (by decide) (by decide)) rfl rfl dX12_init_610 ?_
  refine yi_dup E dX12_init_611 rfl ?_
  refine yi_bipush (v := 54) E dX12_init_612 (by decide) ?_
  refine yi_bipush (v := 32) E dX12_init_614 (by decide) ?_
  refine yi_iastc (q := 14) (f' := mA47_55) (ws' := [(h0, .inr (12, [.ref q1, .int 0, .int 0, .ref q2, .ref q3, .ref q4, .ref q5, .ref q6, .int 0, .ref q7, .ref q8, .int 0, .int 0, .int 0, .int 0, .int 0, .ref q9, .ref q10, .ref q15, .ref q16, .ref q17, .int 0, .int 0, .int 0, .int 0, .null, .null, .int 0, .int 0, .int 0, .null, .null, .int 0, .int 0, .null, .null])), (q1, .inl (w.2.1 1, 3, .inl (fun _ => 0))), (q2, .inl (w.2.1 1, 5, .inl (fun _ => 0))), (q3, .inl (w.2.1 1, 5, .inl (fun _ => 0))), (q4, .inl (w.2.1 1, 5, .inl (fun _ => 0))), (q5, .inl (w.2.1 1, 5, .inl (fun _ => 0))), (q6, .inl (w.2.1 1, 160, .inl (fun _ => 0))), (q7, .inl (w.2.1 1, 1200, .inl (fun _ => 0))), (q8, .inl (w.2.1 1, 24, .inl (fun _ => 0))), (q9, .inl (w.2.1 1, 14, .inl (fun _ => 0))), (q10, .inl (w.2.1 1, 4, .inl mA10_4)), (q15, .inl (w.2.1 1, 4, .inl (fun _ => 0))), (q16, .inl (w.2.1 1, 160, .inl (fun _ => 0))), (q17, .inl (w.2.1 1, 29, .inl mA17_29)), (q47, .inl (w.2.1 1, 96, .inl mA47_55))]) E rfl (vp_in_nI (n := 54) (by decide) (by decide)) rfl rfl dX12_init_616 ?_
  refine yi_dup E dX12_init_617 rfl ?_
  refine yi_bipush (v := 55) E dX12_init_618 (by decide) ?_
  refine yi_bipush (v := 32) E dX12_init_620 (by decide) ?_
  refine yi_iastc (q := 14) (f' := mA47_56) (ws' := [(h0, .inr (12, [.ref q1, .int 0, .int 0, .ref q2, .ref q3, .ref q4, .ref q5, .ref q6, .int 0, .ref q7, .ref q8, .int 0, .int 0, .int 0, .int 0, .int 0, .ref q9, .ref q10, .ref q15, .ref q16, .ref q17, .int 0, .int 0, .int 0, .int 0, .null, .null, .int 0, .int 0, .int 0, .null, .null, .int 0, .int 0, .null, .null])), (q1, .inl (w.2.1 1, 3, .inl (fun _ => 0))), (q2, .inl (w.2.1 1, 5, .inl (fun _ => 0))), (q3, .inl (w.2.1 1, 5, .inl (fun _ => 0))), (q4, .inl (w.2.1 1, 5, .inl (fun _ => 0))), (q5, .inl (w.2.1 1, 5, .inl (fun _ => 0))), (q6, .inl (w.2.1 1, 160, .inl (fun _ => 0))), (q7, .inl (w.2.1 1, 1200, .inl (fun _ => 0))), (q8, .inl (w.2.1 1, 24, .inl (fun _ => 0))), (q9, .inl (w.2.1 1, 14, .inl (fun _ => 0))), (q10, .inl (w.2.1 1, 4, .inl mA10_4)), (q15, .inl (w.2.1 1, 4, .inl (fun _ => 0))), (q16, .inl (w.2.1 1, 160, .inl (fun _ => 0))), (q17, .inl (w.2.1 1, 29, .inl mA17_29)), (q47, .inl (w.2.1 1, 96, .inl mA47_56))]) E rfl (vp_in_nI (n := 55) (by decide) (by decide)) rfl rfl dX12_init_622 ?_
  refine yi_dup E dX12_init_623 rfl ?_
  refine yi_bipush (v := 56) E dX12_init_624 (by decide) ?_
  refine yi_bipush (v := 116) E dX12_init_626 (by decide) ?_
  refine yi_iastc (q := 14) (f' := mA47_57) (ws' := [(h0, .inr (12, [.ref q1, .int 0, .int 0, .ref q2, .ref q3, .ref q4, .ref q5, .ref q6, .int 0, .ref q7, .ref q8, .int 0, .int 0, .int 0, .int 0, .int 0, .ref q9, .ref q10, .ref q15, .ref q16, .ref q17, .int 0, .int 0, .int 0, .int 0, .null, .null, .int 0, .int 0, .int 0, .null, .null, .int 0, .int 0, .null, .null])), (q1, .inl (w.2.1 1, 3, .inl (fun _ => 0))), (q2, .inl (w.2.1 1, 5, .inl (fun _ => 0))), (q3, .inl (w.2.1 1, 5, .inl (fun _ => 0))), (q4, .inl (w.2.1 1, 5, .inl (fun _ => 0))), (q5, .inl (w.2.1 1, 5, .inl (fun _ => 0))), (q6, .inl (w.2.1 1, 160, .inl (fun _ => 0))), (q7, .inl (w.2.1 1, 1200, .inl (fun _ => 0))), (q8, .inl (w.2.1 1, 24, .inl (fun _ => 0))), (q9, .inl (w.2.1 1, 14, .inl (fun _ => 0))), (q10, .inl (w.2.1 1, 4, .inl mA10_4)), (q15, .inl (w.2.1 1, 4, .inl (fun _ => 0))), (q16, .inl (w.2.1 1, 160, .inl (fun _ => 0))), (q17, .inl (w.2.1 1, 29, .inl mA17_29)), (q47, .inl (w.2.1 1, 96, .inl mA47_57))]) E rfl (vp_in_nI (n := 56) (by decide) (by decide)) rfl rfl dX12_init_628 ?_
  refine yi_dup E dX12_init_629 rfl ?_
  refine yi_bipush (v := 57) E dX12_init_630 (by decide) ?_
  refine yi_bipush (v := 104) E dX12_init_632 (by decide) ?_
  refine yi_iastc (q := 14) (f' := mA47_58) (ws' := [(h0, .inr (12, [.ref q1, .int 0, .int 0, .ref q2, .ref q3, .ref q4, .ref q5, .ref q6, .int 0, .ref q7, .ref q8, .int 0, .int 0, .int 0, .int 0, .int 0, .ref q9, .ref q10, .ref q15, .ref q16, .ref q17, .int 0, .int 0, .int 0, .int 0, .null, .null, .int 0, .int 0, .int 0, .null, .null, .int 0, .int 0, .null, .null])), (q1, .inl (w.2.1 1, 3, .inl (fun _ => 0))), (q2, .inl (w.2.1 1, 5, .inl (fun _ => 0))), (q3, .inl (w.2.1 1, 5, .inl (fun _ => 0))), (q4, .inl (w.2.1 1, 5, .inl (fun _ => 0))), (q5, .inl (w.2.1 1, 5, .inl (fun _ => 0))), (q6, .inl (w.2.1 1, 160, .inl (fun _ => 0))), (q7, .inl (w.2.1 1, 1200, .inl (fun _ => 0))), (q8, .inl (w.2.1 1, 24, .inl (fun _ => 0))), (q9, .inl (w.2.1 1, 14, .inl (fun _ => 0))), (q10, .inl (w.2.1 1, 4, .inl mA10_4)), (q15, .inl (w.2.1 1, 4, .inl (fun _ => 0))), (q16, .inl (w.2.1 1, 160, .inl (fun _ => 0))), (q17, .inl (w.2.1 1, 29, .inl mA17_29)), (q47, .inl (w.2.1 1, 96, .inl mA47_58))]) E rfl (vp_in_nI (n := 57) (by decide) (by decide)) rfl rfl dX12_init_634 ?_
  refine yi_dup E dX12_init_635 rfl ?_
  refine yi_bipush (v := 58) E dX12_init_636 (by decide) ?_
  refine yi_bipush (v := 105) E dX12_init_638 (by decide) ?_
  refine yi_iastc (q := 14) (f' := mA47_59) (ws' := [(h0, .inr (12, [.ref q1, .int 0, .int 0, .ref q2, .ref q3, .ref q4, .ref q5, .ref q6, .int 0, .ref q7, .ref q8, .int 0, .int 0, .int 0, .int 0, .int 0, .ref q9, .ref q10, .ref q15, .ref q16, .ref q17, .int 0, .int 0, .int 0, .int 0, .null, .null, .int 0, .int 0, .int 0, .null, .null, .int 0, .int 0, .null, .null])), (q1, .inl (w.2.1 1, 3, .inl (fun _ => 0))), (q2, .inl (w.2.1 1, 5, .inl (fun _ => 0))), (q3, .inl (w.2.1 1, 5, .inl (fun _ => 0))), (q4, .inl (w.2.1 1, 5, .inl (fun _ => 0))), (q5, .inl (w.2.1 1, 5, .inl (fun _ => 0))), (q6, .inl (w.2.1 1, 160, .inl (fun _ => 0))), (q7, .inl (w.2.1 1, 1200, .inl (fun _ => 0))), (q8, .inl (w.2.1 1, 24, .inl (fun _ => 0))), (q9, .inl (w.2.1 1, 14, .inl (fun _ => 0))), (q10, .inl (w.2.1 1, 4, .inl mA10_4)), (q15, .inl (w.2.1 1, 4, .inl (fun _ => 0))), (q16, .inl (w.2.1 1, 160, .inl (fun _ => 0))), (q17, .inl (w.2.1 1, 29, .inl mA17_29)), (q47, .inl (w.2.1 1, 96, .inl mA47_59))]) E rfl (vp_in_nI (n := 58) (by decide) (by decide)) rfl rfl dX12_init_640 ?_
  refine yi_dup E dX12_init_641 rfl ?_
  refine yi_bipush (v := 59) E dX12_init_642 (by decide) ?_
  refine yi_bipush (v := 110) E dX12_init_644 (by decide) ?_
  refine yi_iastc (q := 14) (f' := mA47_60) (ws' := [(h0, .inr (12, [.ref q1, .int 0, .int 0, .ref q2, .ref q3, .ref q4, .ref q5, .ref q6, .int 0, .ref q7, .ref q8, .int 0, .int 0, .int 0, .int 0, .int 0, .ref q9, .ref q10, .ref q15, .ref q16, .ref q17, .int 0, .int 0, .int 0, .int 0, .null, .null, .int 0, .int 0, .int 0, .null, .null, .int 0, .int 0, .null, .null])), (q1, .inl (w.2.1 1, 3, .inl (fun _ => 0))), (q2, .inl (w.2.1 1, 5, .inl (fun _ => 0))), (q3, .inl (w.2.1 1, 5, .inl (fun _ => 0))), (q4, .inl (w.2.1 1, 5, .inl (fun _ => 0))), (q5, .inl (w.2.1 1, 5, .inl (fun _ => 0))), (q6, .inl (w.2.1 1, 160, .inl (fun _ => 0))), (q7, .inl (w.2.1 1, 1200, .inl (fun _ => 0))), (q8, .inl (w.2.1 1, 24, .inl (fun _ => 0))), (q9, .inl (w.2.1 1, 14, .inl (fun _ => 0))), (q10, .inl (w.2.1 1, 4, .inl mA10_4)), (q15, .inl (w.2.1 1, 4, .inl (fun _ => 0))), (q16, .inl (w.2.1 1, 160, .inl (fun _ => 0))), (q17, .inl (w.2.1 1, 29, .inl mA17_29)), (q47, .inl (w.2.1 1, 96, .inl mA47_60))]) E rfl (vp_in_nI (n := 59) (by decide) (by decide)) rfl rfl dX12_init_646 ?_
  refine yi_dup E dX12_init_647 rfl ?_
  refine yi_bipush (v := 60) E dX12_init_648 (by decide) ?_
  refine yi_bipush (v := 103) E dX12_init_650 (by decide) ?_
  refine yi_iastc (q := 14) (f' := mA47_61) (ws' := [(h0, .inr (12, [.ref q1, .int 0, .int 0, .ref q2, .ref q3, .ref q4, .ref q5, .ref q6, .int 0, .ref q7, .ref q8, .int 0, .int 0, .int 0, .int 0, .int 0, .ref q9, .ref q10, .ref q15, .ref q16, .ref q17, .int 0, .int 0, .int 0, .int 0, .null, .null, .int 0, .int 0, .int 0, .null, .null, .int 0, .int 0, .null, .null])), (q1, .inl (w.2.1 1, 3, .inl (fun _ => 0))), (q2, .inl (w.2.1 1, 5, .inl (fun _ => 0))), (q3, .inl (w.2.1 1, 5, .inl (fun _ => 0))), (q4, .inl (w.2.1 1, 5, .inl (fun _ => 0))), (q5, .inl (w.2.1 1, 5, .inl (fun _ => 0))), (q6, .inl (w.2.1 1, 160, .inl (fun _ => 0))), (q7, .inl (w.2.1 1, 1200, .inl (fun _ => 0))), (q8, .inl (w.2.1 1, 24, .inl (fun _ => 0))), (q9, .inl (w.2.1 1, 14, .inl (fun _ => 0))), (q10, .inl (w.2.1 1, 4, .inl mA10_4)), (q15, .inl (w.2.1 1, 4, .inl (fun _ => 0))), (q16, .inl (w.2.1 1, 160, .inl (fun _ => 0))), (q17, .inl (w.2.1 1, 29, .inl mA17_29)), (q47, .inl (w.2.1 1, 96, .inl mA47_61))]) E rfl (vp_in_nI (n := 60) (by decide) (by decide)) rfl rfl dX12_init_652 ?_
  refine yi_dup E dX12_init_653 rfl ?_
  refine yi_bipush (v := 61) E dX12_init_654 (by decide) ?_
  refine yi_bipush (v := 32) E dX12_init_656 (by decide) ?_
  refine yi_iastc (q := 14) (f' := mA47_62) (ws' := [(h0, .inr (12, [.ref q1, .int 0, .int 0, .ref q2, .ref q3, .ref q4, .ref q5, .ref q6, .int 0, .ref q7, .ref q8, .int 0, .int 0, .int 0, .int 0, .int 0, .ref q9, .ref q10, .ref q15, .ref q16, .ref q17, .int 0, .int 0, .int 0, .int 0, .null, .null, .int 0, .int 0, .int 0, .null, .null, .int 0, .int 0, .null, .null])), (q1, .inl (w.2.1 1, 3, .inl (fun _ => 0))), (q2, .inl (w.2.1 1, 5, .inl (fun _ => 0))), (q3, .inl (w.2.1 1, 5, .inl (fun _ => 0))), (q4, .inl (w.2.1 1, 5, .inl (fun _ => 0))), (q5, .inl (w.2.1 1, 5, .inl (fun _ => 0))), (q6, .inl (w.2.1 1, 160, .inl (fun _ => 0))), (q7, .inl (w.2.1 1, 1200, .inl (fun _ => 0))), (q8, .inl (w.2.1 1, 24, .inl (fun _ => 0))), (q9, .inl (w.2.1 1, 14, .inl (fun _ => 0))), (q10, .inl (w.2.1 1, 4, .inl mA10_4)), (q15, .inl (w.2.1 1, 4, .inl (fun _ => 0))), (q16, .inl (w.2.1 1, 160, .inl (fun _ => 0))), (q17, .inl (w.2.1 1, 29, .inl mA17_29)), (q47, .inl (w.2.1 1, 96, .inl mA47_62))]) E rfl (vp_in_nI (n := 61) (by decide) (by decide)) rfl rfl dX12_init_658 ?_
  refine yi_dup E dX12_init_659 rfl ?_
  refine yi_bipush (v := 62) E dX12_init_660 (by decide) ?_
  refine yi_bipush (v := 32) E dX12_init_662 (by decide) ?_
  refine yi_iastc (q := 14) (f' := mA47_63) (ws' := [(h0, .inr (12, [.ref q1, .int 0, .int 0, .ref q2, .ref q3, .ref q4, .ref q5, .ref q6, .int 0, .ref q7, .ref q8, .int 0, .int 0, .int 0, .int 0, .int 0, .ref q9, .ref q10, .ref q15, .ref q16, .ref q17, .int 0, .int 0, .int 0, .int 0, .null, .null, .int 0, .int 0, .int 0, .null, .null, .int 0, .int 0, .null, .null])), (q1, .inl (w.2.1 1, 3, .inl (fun _ => 0))), (q2, .inl (w.2.1 1, 5, .inl (fun _ => 0))), (q3, .inl (w.2.1 1, 5, .inl (fun _ => 0))), (q4, .inl (w.2.1 1, 5, .inl (fun _ => 0))), (q5, .inl (w.2.1 1, 5, .inl (fun _ => 0))), (q6, .inl (w.2.1 1, 160, .inl (fun _ => 0))), (q7, .inl (w.2.1 1, 1200, .inl (fun _ => 0))), (q8, .inl (w.2.1 1, 24, .inl (fun _ => 0))), (q9, .inl (w.2.1 1, 14, .inl (fun _ => 0))), (q10, .inl (w.2.1 1, 4, .inl mA10_4)), (q15, .inl (w.2.1 1, 4, .inl (fun _ => 0))), (q16, .inl (w.2.1 1, 160, .inl (fun _ => 0))), (q17, .inl (w.2.1 1, 29, .inl mA17_29)), (q47, .inl (w.2.1 1, 96, .inl mA47_63))]) E rfl (vp_in_nI (n := 62) (by decide) (by decide)) rfl rfl dX12_init_664 ?_
  refine yi_dup E dX12_init_665 rfl ?_
  refine yi_bipush (v := 63) E dX12_init_666 (by decide) ?_
  refine yi_bipush (v := 32) E dX12_init_668 (by decide) ?_
  refine yi_iastc (q := 14) (f' := mA47_64) (ws' := [(h0, .inr (12, [.ref q1, .int 0, .int 0, .ref q2, .ref q3, .ref q4, .ref q5, .ref q6, .int 0, .ref q7, .ref q8, .int 0, .int 0, .int 0, .int 0, .int 0, .ref q9, .ref q10, .ref q15, .ref q16, .ref q17, .int 0, .int 0, .int 0, .int 0, .null, .null, .int 0, .int 0, .int 0, .null, .null, .int 0, .int 0, .null, .null])), (q1, .inl (w.2.1 1, 3, .inl (fun _ => 0))), (q2, .inl (w.2.1 1, 5, .inl (fun _ => 0))), (q3, .inl (w.2.1 1, 5, .inl (fun _ => 0))), (q4, .inl (w.2.1 1, 5, .inl (fun _ => 0))), (q5, .inl (w.2.1 1, 5, .inl (fun _ => 0))), (q6, .inl (w.2.1 1, 160, .inl (fun _ => 0))), (q7, .inl (w.2.1 1, 1200, .inl (fun _ => 0))), (q8, .inl (w.2.1 1, 24, .inl (fun _ => 0))), (q9, .inl (w.2.1 1, 14, .inl (fun _ => 0))), (q10, .inl (w.2.1 1, 4, .inl mA10_4)), (q15, .inl (w.2.1 1, 4, .inl (fun _ => 0))), (q16, .inl (w.2.1 1, 160, .inl (fun _ => 0))), (q17, .inl (w.2.1 1, 29, .inl mA17_29)), (q47, .inl (w.2.1 1, 96, .inl mA47_64))]) E rfl (vp_in_nI (n := 63) (by decide) (by decide)) rfl rfl dX12_init_670 ?_
  refine yi_dup E dX12_init_671 rfl ?_
  refine yi_bipush (v := 64) E dX12_init_672 (by decide) ?_
  refine yi_bipush (v := 109) E dX12_init_674 (by decide) ?_
  refine yi_iastc (q := 14) (f' := mA47_65) (ws' := [(h0, .inr (12, [.ref q1, .int 0, .int 0, .ref q2, .ref q3, .ref q4, .ref q5, .ref q6, .int 0, .ref q7, .ref q8, .int 0, .int 0, .int 0, .int 0, .int 0, .ref q9, .ref q10, .ref q15, .ref q16, .ref q17, .int 0, .int 0, .int 0, .int 0, .null, .null, .int 0, .int 0, .int 0, .null, .null, .int 0, .int 0, .null, .null])), (q1, .inl (w.2.1 1, 3, .inl (fun _ => 0))), (q2, .inl (w.2.1 1, 5, .inl (fun _ => 0))), (q3, .inl (w.2.1 1, 5, .inl (fun _ => 0))), (q4, .inl (w.2.1 1, 5, .inl (fun _ => 0))), (q5, .inl (w.2.1 1, 5, .inl (fun _ => 0))), (q6, .inl (w.2.1 1, 160, .inl (fun _ => 0))), (q7, .inl (w.2.1 1, 1200, .inl (fun _ => 0))), (q8, .inl (w.2.1 1, 24, .inl (fun _ => 0))), (q9, .inl (w.2.1 1, 14, .inl (fun _ => 0))), (q10, .inl (w.2.1 1, 4, .inl mA10_4)), (q15, .inl (w.2.1 1, 4, .inl (fun _ => 0))), (q16, .inl (w.2.1 1, 160, .inl (fun _ => 0))), (q17, .inl (w.2.1 1, 29, .inl mA17_29)), (q47, .inl (w.2.1 1, 96, .inl mA47_65))]) E rfl (vp_in_nI (n := 64) (by decide) (by decide)) rfl rfl dX12_init_676 ?_
  refine yi_dup E dX12_init_677 rfl ?_
  refine yi_bipush (v := 65) E dX12_init_678 (by decide) ?_
  refine yi_bipush (v := 111) E dX12_init_680 (by decide) ?_
  refine yi_iastc (q := 14) (f' := mA47_66) (ws' := [(h0, .inr (12, [.ref q1, .int 0, .int 0, .ref q2, .ref q3, .ref q4, .ref q5, .ref q6, .int 0, .ref q7, .ref q8, .int 0, .int 0, .int 0, .int 0, .int 0, .ref q9, .ref q10, .ref q15, .ref q16, .ref q17, .int 0, .int 0, .int 0, .int 0, .null, .null, .int 0, .int 0, .int 0, .null, .null, .int 0, .int 0, .null, .null])), (q1, .inl (w.2.1 1, 3, .inl (fun _ => 0))), (q2, .inl (w.2.1 1, 5, .inl (fun _ => 0))), (q3, .inl (w.2.1 1, 5, .inl (fun _ => 0))), (q4, .inl (w.2.1 1, 5, .inl (fun _ => 0))), (q5, .inl (w.2.1 1, 5, .inl (fun _ => 0))), (q6, .inl (w.2.1 1, 160, .inl (fun _ => 0))), (q7, .inl (w.2.1 1, 1200, .inl (fun _ => 0))), (q8, .inl (w.2.1 1, 24, .inl (fun _ => 0))), (q9, .inl (w.2.1 1, 14, .inl (fun _ => 0))), (q10, .inl (w.2.1 1, 4, .inl mA10_4)), (q15, .inl (w.2.1 1, 4, .inl (fun _ => 0))), (q16, .inl (w.2.1 1, 160, .inl (fun _ => 0))), (q17, .inl (w.2.1 1, 29, .inl mA17_29)), (q47, .inl (w.2.1 1, 96, .inl mA47_66))]) E rfl (vp_in_nI (n := 65) (by decide) (by decide)) rfl rfl dX12_init_682 ?_
  refine yi_dup E dX12_init_683 rfl ?_
  refine yi_bipush (v := 66) E dX12_init_684 (by decide) ?_
  refine yi_bipush (v := 114) E dX12_init_686 (by decide) ?_
  refine yi_iastc (q := 14) (f' := mA47_67) (ws' := [(h0, .inr (12, [.ref q1, .int 0, .int 0, .ref q2, .ref q3, .ref q4, .ref q5, .ref q6, .int 0, .ref q7, .ref q8, .int 0, .int 0, .int 0, .int 0, .int 0, .ref q9, .ref q10, .ref q15, .ref q16, .ref q17, .int 0, .int 0, .int 0, .int 0, .null, .null, .int 0, .int 0, .int 0, .null, .null, .int 0, .int 0, .null, .null])), (q1, .inl (w.2.1 1, 3, .inl (fun _ => 0))), (q2, .inl (w.2.1 1, 5, .inl (fun _ => 0))), (q3, .inl (w.2.1 1, 5, .inl (fun _ => 0))), (q4, .inl (w.2.1 1, 5, .inl (fun _ => 0))), (q5, .inl (w.2.1 1, 5, .inl (fun _ => 0))), (q6, .inl (w.2.1 1, 160, .inl (fun _ => 0))), (q7, .inl (w.2.1 1, 1200, .inl (fun _ => 0))), (q8, .inl (w.2.1 1, 24, .inl (fun _ => 0))), (q9, .inl (w.2.1 1, 14, .inl (fun _ => 0))), (q10, .inl (w.2.1 1, 4, .inl mA10_4)), (q15, .inl (w.2.1 1, 4, .inl (fun _ => 0))), (q16, .inl (w.2.1 1, 160, .inl (fun _ => 0))), (q17, .inl (w.2.1 1, 29, .inl mA17_29)), (q47, .inl (w.2.1 1, 96, .inl mA47_67))]) E rfl (vp_in_nI (n := 66) (by decide) (by decide)) rfl rfl dX12_init_688 ?_
  refine yi_dup E dX12_init_689 rfl ?_
  refine yi_bipush (v := 67) E dX12_init_690 (by decide) ?_
  refine yi_bipush (v := 101) E dX12_init_692 (by decide) ?_
  refine yi_iastc (q := 14) (f' := mA47_68) (ws' := [(h0, .inr (12, [.ref q1, .int 0, .int 0, .ref q2, .ref q3, .ref q4, .ref q5, .ref q6, .int 0, .ref q7, .ref q8, .int 0, .int 0, .int 0, .int 0, .int 0, .ref q9, .ref q10, .ref q15, .ref q16, .ref q17, .int 0, .int 0, .int 0, .int 0, .null, .null, .int 0, .int 0, .int 0, .null, .null, .int 0, .int 0, .null, .null])), (q1, .inl (w.2.1 1, 3, .inl (fun _ => 0))), (q2, .inl (w.2.1 1, 5, .inl (fun _ => 0))), (q3, .inl (w.2.1 1, 5, .inl (fun _ => 0))), (q4, .inl (w.2.1 1, 5, .inl (fun _ => 0))), (q5, .inl (w.2.1 1, 5, .inl (fun _ => 0))), (q6, .inl (w.2.1 1, 160, .inl (fun _ => 0))), (q7, .inl (w.2.1 1, 1200, .inl (fun _ => 0))), (q8, .inl (w.2.1 1, 24, .inl (fun _ => 0))), (q9, .inl (w.2.1 1, 14, .inl (fun _ => 0))), (q10, .inl (w.2.1 1, 4, .inl mA10_4)), (q15, .inl (w.2.1 1, 4, .inl (fun _ => 0))), (q16, .inl (w.2.1 1, 160, .inl (fun _ => 0))), (q17, .inl (w.2.1 1, 29, .inl mA17_29)), (q47, .inl (w.2.1 1, 96, .inl mA47_68))]) E rfl (vp_in_nI (n := 67) (by decide) (by decide)) rfl rfl dX12_init_694 ?_
  refine yi_dup E dX12_init_695 rfl ?_
  refine yi_bipush (v := 68) E dX12_init_696 (by decide) ?_
  refine yi_bipush (v := 32) E dX12_init_698 (by decide) ?_
  refine yi_iastc (q := 14) (f' := mA47_69) (ws' := [(h0, .inr (12, [.ref q1, .int 0, .int 0, .ref q2, .ref q3, .ref q4, .ref q5, .ref q6, .int 0, .ref q7, .ref q8, .int 0, .int 0, .int 0, .int 0, .int 0, .ref q9, .ref q10, .ref q15, .ref q16, .ref q17, .int 0, .int 0, .int 0, .int 0, .null, .null, .int 0, .int 0, .int 0, .null, .null, .int 0, .int 0, .null, .null])), (q1, .inl (w.2.1 1, 3, .inl (fun _ => 0))), (q2, .inl (w.2.1 1, 5, .inl (fun _ => 0))), (q3, .inl (w.2.1 1, 5, .inl (fun _ => 0))), (q4, .inl (w.2.1 1, 5, .inl (fun _ => 0))), (q5, .inl (w.2.1 1, 5, .inl (fun _ => 0))), (q6, .inl (w.2.1 1, 160, .inl (fun _ => 0))), (q7, .inl (w.2.1 1, 1200, .inl (fun _ => 0))), (q8, .inl (w.2.1 1, 24, .inl (fun _ => 0))), (q9, .inl (w.2.1 1, 14, .inl (fun _ => 0))), (q10, .inl (w.2.1 1, 4, .inl mA10_4)), (q15, .inl (w.2.1 1, 4, .inl (fun _ => 0))), (q16, .inl (w.2.1 1, 160, .inl (fun _ => 0))), (q17, .inl (w.2.1 1, 29, .inl mA17_29)), (q47, .inl (w.2.1 1, 96, .inl mA47_69))]) E rfl (vp_in_nI (n := 68) (by decide) (by decide)) rfl rfl dX12_init_700 ?_
  refine yi_dup E dX12_init_701 rfl ?_
  refine yi_bipush (v := 69) E dX12_init_702 (by decide) ?_
  refine yi_bipush (v := 32) E dX12_init_704 (by decide) ?_
  refine yi_iastc (q := 14) (f' := mA47_70) (ws' := [(h0, .inr (12, [.ref q1, .int 0, .int 0, .ref q2, .ref q3, .ref q4, .ref q5, .ref q6, .int 0, .ref q7, .ref q8, .int 0, .int 0, .int 0, .int 0, .int 0, .ref q9, .ref q10, .ref q15, .ref q16, .ref q17, .int 0, .int 0, .int 0, .int 0, .null, .null, .int 0, .int 0, .int 0, .null, .null, .int 0, .int 0, .null, .null])), (q1, .inl (w.2.1 1, 3, .inl (fun _ => 0))), (q2, .inl (w.2.1 1, 5, .inl (fun _ => 0))), (q3, .inl (w.2.1 1, 5, .inl (fun _ => 0))), (q4, .inl (w.2.1 1, 5, .inl (fun _ => 0))), (q5, .inl (w.2.1 1, 5, .inl (fun _ => 0))), (q6, .inl (w.2.1 1, 160, .inl (fun _ => 0))), (q7, .inl (w.2.1 1, 1200, .inl (fun _ => 0))), (q8, .inl (w.2.1 1, 24, .inl (fun _ => 0))), (q9, .inl (w.2.1 1, 14, .inl (fun _ => 0))), (q10, .inl (w.2.1 1, 4, .inl mA10_4)), (q15, .inl (w.2.1 1, 4, .inl (fun _ => 0))), (q16, .inl (w.2.1 1, 160, .inl (fun _ => 0))), (q17, .inl (w.2.1 1, 29, .inl mA17_29)), (q47, .inl (w.2.1 1, 96, .inl mA47_70))]) E rfl (vp_in_nI (n := 69) (by decide) (by decide)) rfl rfl dX12_init_706 ?_
  refine yi_dup E dX12_init_707 rfl ?_
  refine yi_bipush (v := 70) E dX12_init_708 (by decide) ?_
  refine yi_bipush (v := 32) E dX12_init_710 (by decide) ?_
  refine yi_iastc (q := 14) (f' := mA47_71) (ws' := [(h0, .inr (12, [.ref q1, .int 0, .int 0, .ref q2, .ref q3, .ref q4, .ref q5, .ref q6, .int 0, .ref q7, .ref q8, .int 0, .int 0, .int 0, .int 0, .int 0, .ref q9, .ref q10, .ref q15, .ref q16, .ref q17, .int 0, .int 0, .int 0, .int 0, .null, .null, .int 0, .int 0, .int 0, .null, .null, .int 0, .int 0, .null, .null])), (q1, .inl (w.2.1 1, 3, .inl (fun _ => 0))), (q2, .inl (w.2.1 1, 5, .inl (fun _ => 0))), (q3, .inl (w.2.1 1, 5, .inl (fun _ => 0))), (q4, .inl (w.2.1 1, 5, .inl (fun _ => 0))), (q5, .inl (w.2.1 1, 5, .inl (fun _ => 0))), (q6, .inl (w.2.1 1, 160, .inl (fun _ => 0))), (q7, .inl (w.2.1 1, 1200, .inl (fun _ => 0))), (q8, .inl (w.2.1 1, 24, .inl (fun _ => 0))), (q9, .inl (w.2.1 1, 14, .inl (fun _ => 0))), (q10, .inl (w.2.1 1, 4, .inl mA10_4)), (q15, .inl (w.2.1 1, 4, .inl (fun _ => 0))), (q16, .inl (w.2.1 1, 160, .inl (fun _ => 0))), (q17, .inl (w.2.1 1, 29, .inl mA17_29)), (q47, .inl (w.2.1 1, 96, .inl mA47_71))]) E rfl (vp_in_nI (n := 70) (by decide) (by decide)) rfl rfl dX12_init_712 ?_
  refine yi_dup E dX12_init_713 rfl ?_
  refine yi_bipush (v := 71) E dX12_init_714 (by decide) ?_
  refine yi_bipush (v := 32) E dX12_init_716 (by decide) ?_
  refine yi_iastc (q := 14) (f' := mA47_72) (ws' := [(h0, .inr (12, [.ref q1, .int 0, .int 0, .ref q2, .ref q3, .ref q4, .ref q5, .ref q6, .int 0, .ref q7, .ref q8, .int 0, .int 0, .int 0, .int 0, .int 0, .ref q9, .ref q10, .ref q15, .ref q16, .ref q17, .int 0, .int 0, .int 0, .int 0, .null, .null, .int 0, .int 0, .int 0, .null, .null, .int 0, .int 0, .null, .null])), (q1, .inl (w.2.1 1, 3, .inl (fun _ => 0))), (q2, .inl (w.2.1 1, 5, .inl (fun _ => 0))), (q3, .inl (w.2.1 1, 5, .inl (fun _ => 0))), (q4, .inl (w.2.1 1, 5, .inl (fun _ => 0))), (q5, .inl (w.2.1 1, 5, .inl (fun _ => 0))), (q6, .inl (w.2.1 1, 160, .inl (fun _ => 0))), (q7, .inl (w.2.1 1, 1200, .inl (fun _ => 0))), (q8, .inl (w.2.1 1, 24, .inl (fun _ => 0))), (q9, .inl (w.2.1 1, 14, .inl (fun _ => 0))), (q10, .inl (w.2.1 1, 4, .inl mA10_4)), (q15, .inl (w.2.1 1, 4, .inl (fun _ => 0))), (q16, .inl (w.2.1 1, 160, .inl (fun _ => 0))), (q17, .inl (w.2.1 1, 29, .inl mA17_29)), (q47, .inl (w.2.1 1, 96, .inl mA47_72))]) E rfl (vp_in_nI (n := 71) (by decide) (by decide)) rfl rfl dX12_init_718 ?_
  refine yi_dup E dX12_init_719 rfl ?_
  refine yi_bipush (v := 72) E dX12_init_720 (by decide) ?_
  refine yi_bipush (v := 111) E dX12_init_722 (by decide) ?_
  refine yi_iastc (q := 14) (f' := mA47_73) (ws' := [(h0, .inr (12, [.ref q1, .int 0, .int 0, .ref q2, .ref q3, .ref q4, .ref q5, .ref q6, .int 0, .ref q7, .ref q8, .int 0, .int 0, .int 0, .int 0, .int 0, .ref q9, .ref q10, .ref q15, .ref q16, .ref q17, .int 0, .int 0, .int 0, .int 0, .null, .null, .int 0, .int 0, .int 0, .null, .null, .int 0, .int 0, .null, .null])), (q1, .inl (w.2.1 1, 3, .inl (fun _ => 0))), (q2, .inl (w.2.1 1, 5, .inl (fun _ => 0))), (q3, .inl (w.2.1 1, 5, .inl (fun _ => 0))), (q4, .inl (w.2.1 1, 5, .inl (fun _ => 0))), (q5, .inl (w.2.1 1, 5, .inl (fun _ => 0))), (q6, .inl (w.2.1 1, 160, .inl (fun _ => 0))), (q7, .inl (w.2.1 1, 1200, .inl (fun _ => 0))), (q8, .inl (w.2.1 1, 24, .inl (fun _ => 0))), (q9, .inl (w.2.1 1, 14, .inl (fun _ => 0))), (q10, .inl (w.2.1 1, 4, .inl mA10_4)), (q15, .inl (w.2.1 1, 4, .inl (fun _ => 0))), (q16, .inl (w.2.1 1, 160, .inl (fun _ => 0))), (q17, .inl (w.2.1 1, 29, .inl mA17_29)), (q47, .inl (w.2.1 1, 96, .inl mA47_73))]) E rfl (vp_in_nI (n := 72) (by decide) (by decide)) rfl rfl dX12_init_724 ?_
  refine yi_dup E dX12_init_725 rfl ?_
  refine yi_bipush (v := 73) E dX12_init_726 (by decide) ?_
  refine yi_bipush (v := 114) E dX12_init_728 (by decide) ?_
  refine yi_iastc (q := 14) (f' := mA47_74) (ws' := [(h0, .inr (12, [.ref q1, .int 0, .int 0, .ref q2, .ref q3, .ref q4, .ref q5, .ref q6, .int 0, .ref q7, .ref q8, .int 0, .int 0, .int 0, .int 0, .int 0, .ref q9, .ref q10, .ref q15, .ref q16, .ref q17, .int 0, .int 0, .int 0, .int 0, .null, .null, .int 0, .int 0, .int 0, .null, .null, .int 0, .int 0, .null, .null])), (q1, .inl (w.2.1 1, 3, .inl (fun _ => 0))), (q2, .inl (w.2.1 1, 5, .inl (fun _ => 0))), (q3, .inl (w.2.1 1, 5, .inl (fun _ => 0))), (q4, .inl (w.2.1 1, 5, .inl (fun _ => 0))), (q5, .inl (w.2.1 1, 5, .inl (fun _ => 0))), (q6, .inl (w.2.1 1, 160, .inl (fun _ => 0))), (q7, .inl (w.2.1 1, 1200, .inl (fun _ => 0))), (q8, .inl (w.2.1 1, 24, .inl (fun _ => 0))), (q9, .inl (w.2.1 1, 14, .inl (fun _ => 0))), (q10, .inl (w.2.1 1, 4, .inl mA10_4)), (q15, .inl (w.2.1 1, 4, .inl (fun _ => 0))), (q16, .inl (w.2.1 1, 160, .inl (fun _ => 0))), (q17, .inl (w.2.1 1, 29, .inl mA17_29)), (q47, .inl (w.2.1 1, 96, .inl mA47_74))]) E rfl (vp_in_nI (n := 73) (by decide) (by decide)) rfl rfl dX12_init_730 ?_
  refine yi_dup E dX12_init_731 rfl ?_
  refine yi_bipush (v := 74) E dX12_init_732 (by decide) ?_
  refine yi_bipush (v := 32) E dX12_init_734 (by decide) ?_
  refine yi_iastc (q := 14) (f' := mA47_75) (ws' := [(h0, .inr (12, [.ref q1, .int 0, .int 0, .ref q2, .ref q3, .ref q4, .ref q5, .ref q6, .int 0, .ref q7, .ref q8, .int 0, .int 0, .int 0, .int 0, .int 0, .ref q9, .ref q10, .ref q15, .ref q16, .ref q17, .int 0, .int 0, .int 0, .int 0, .null, .null, .int 0, .int 0, .int 0, .null, .null, .int 0, .int 0, .null, .null])), (q1, .inl (w.2.1 1, 3, .inl (fun _ => 0))), (q2, .inl (w.2.1 1, 5, .inl (fun _ => 0))), (q3, .inl (w.2.1 1, 5, .inl (fun _ => 0))), (q4, .inl (w.2.1 1, 5, .inl (fun _ => 0))), (q5, .inl (w.2.1 1, 5, .inl (fun _ => 0))), (q6, .inl (w.2.1 1, 160, .inl (fun _ => 0))), (q7, .inl (w.2.1 1, 1200, .inl (fun _ => 0))), (q8, .inl (w.2.1 1, 24, .inl (fun _ => 0))), (q9, .inl (w.2.1 1, 14, .inl (fun _ => 0))), (q10, .inl (w.2.1 1, 4, .inl mA10_4)), (q15, .inl (w.2.1 1, 4, .inl (fun _ => 0))), (q16, .inl (w.2.1 1, 160, .inl (fun _ => 0))), (q17, .inl (w.2.1 1, 29, .inl mA17_29)), (q47, .inl (w.2.1 1, 96, .inl mA47_75))]) E rfl (vp_in_nI (n := 74) (by decide) (by decide)) rfl rfl dX12_init_736 ?_
  refine yi_dup E dX12_init_737 rfl ?_
  refine yi_bipush (v := 75) E dX12_init_738 (by decide) ?_
  refine yi_bipush (v := 32) E dX12_init_740 (by decide) ?_
  refine yi_iastc (q := 14) (f' := mA47_76) (ws' := [(h0, .inr (12, [.ref q1, .int 0, .int 0, .ref q2, .ref q3, .ref q4, .ref q5, .ref q6, .int 0, .ref q7, .ref q8, .int 0, .int 0, .int 0, .int 0, .int 0, .ref q9, .ref q10, .ref q15, .ref q16, .ref q17, .int 0, .int 0, .int 0, .int 0, .null, .null, .int 0, .int 0, .int 0, .null, .null, .int 0, .int 0, .null, .null])), (q1, .inl (w.2.1 1, 3, .inl (fun _ => 0))), (q2, .inl (w.2.1 1, 5, .inl (fun _ => 0))), (q3, .inl (w.2.1 1, 5, .inl (fun _ => 0))), (q4, .inl (w.2.1 1, 5, .inl (fun _ => 0))), (q5, .inl (w.2.1 1, 5, .inl (fun _ => 0))), (q6, .inl (w.2.1 1, 160, .inl (fun _ => 0))), (q7, .inl (w.2.1 1, 1200, .inl (fun _ => 0))), (q8, .inl (w.2.1 1, 24, .inl (fun _ => 0))), (q9, .inl (w.2.1 1, 14, .inl (fun _ => 0))), (q10, .inl (w.2.1 1, 4, .inl mA10_4)), (q15, .inl (w.2.1 1, 4, .inl (fun _ => 0))), (q16, .inl (w.2.1 1, 160, .inl (fun _ => 0))), (q17, .inl (w.2.1 1, 29, .inl mA17_29)), (q47, .inl (w.2.1 1, 96, .inl mA47_76))]) E rfl (vp_in_nI (n := 75) (by decide) (by decide)) rfl rfl dX12_init_742 ?_
  refine yi_dup E dX12_init_743 rfl ?_
  refine yi_bipush (v := 76) E dX12_init_744 (by decide) ?_
  refine yi_bipush (v := 32) E dX12_init_746 (by decide) ?_
  refine yi_iastc (q := 14) (f' := mA47_77) (ws' := [(h0, .inr (12, [.ref q1, .int 0, .int 0, .ref q2, .ref q3, .ref q4, .ref q5, .ref q6, .int 0, .ref q7, .ref q8, .int 0, .int 0, .int 0, .int 0, .int 0, .ref q9, .ref q10, .ref q15, .ref q16, .ref q17, .int 0, .int 0, .int 0, .int 0, .null, .null, .int 0, .int 0, .int 0, .null, .null, .int 0, .int 0, .null, .null])), (q1, .inl (w.2.1 1, 3, .inl (fun _ => 0))), (q2, .inl (w.2.1 1, 5, .inl (fun _ => 0))), (q3, .inl (w.2.1 1, 5, .inl (fun _ => 0))), (q4, .inl (w.2.1 1, 5, .inl (fun _ => 0))), (q5, .inl (w.2.1 1, 5, .inl (fun _ => 0))), (q6, .inl (w.2.1 1, 160, .inl (fun _ => 0))), (q7, .inl (w.2.1 1, 1200, .inl (fun _ => 0))), (q8, .inl (w.2.1 1, 24, .inl (fun _ => 0))), (q9, .inl (w.2.1 1, 14, .inl (fun _ => 0))), (q10, .inl (w.2.1 1, 4, .inl mA10_4)), (q15, .inl (w.2.1 1, 4, .inl (fun _ => 0))), (q16, .inl (w.2.1 1, 160, .inl (fun _ => 0))), (q17, .inl (w.2.1 1, 29, .inl mA17_29)), (q47, .inl (w.2.1 1, 96, .inl mA47_77))]) E rfl (vp_in_nI (n := 76) (by decide) (by decide)) rfl rfl dX12_init_748 ?_
  refine yi_dup E dX12_init_749 rfl ?_
  refine yi_bipush (v := 77) E dX12_init_750 (by decide) ?_
  refine yi_bipush (v := 32) E dX12_init_752 (by decide) ?_
  refine yi_iastc (q := 14) (f' := mA47_78) (ws' := [(h0, .inr (12, [.ref q1, .int 0, .int 0, .ref q2, .ref q3, .ref q4, .ref q5, .ref q6, .int 0, .ref q7, .ref q8, .int 0, .int 0, .int 0, .int 0, .int 0, .ref q9, .ref q10, .ref q15, .ref q16, .ref q17, .int 0, .int 0, .int 0, .int 0, .null, .null, .int 0, .int 0, .int 0, .null, .null, .int 0, .int 0, .null, .null])), (q1, .inl (w.2.1 1, 3, .inl (fun _ => 0))), (q2, .inl (w.2.1 1, 5, .inl (fun _ => 0))), (q3, .inl (w.2.1 1, 5, .inl (fun _ => 0))), (q4, .inl (w.2.1 1, 5, .inl (fun _ => 0))), (q5, .inl (w.2.1 1, 5, .inl (fun _ => 0))), (q6, .inl (w.2.1 1, 160, .inl (fun _ => 0))), (q7, .inl (w.2.1 1, 1200, .inl (fun _ => 0))), (q8, .inl (w.2.1 1, 24, .inl (fun _ => 0))), (q9, .inl (w.2.1 1, 14, .inl (fun _ => 0))), (q10, .inl (w.2.1 1, 4, .inl mA10_4)), (q15, .inl (w.2.1 1, 4, .inl (fun _ => 0))), (q16, .inl (w.2.1 1, 160, .inl (fun _ => 0))), (q17, .inl (w.2.1 1, 29, .inl mA17_29)), (q47, .inl (w.2.1 1, 96, .inl mA47_78))]) E rfl (vp_in_nI (n := 77) (by decide) (by decide)) rfl rfl dX12_init_754 ?_
  refine yi_dup E dX12_init_755 rfl ?_
  refine yi_bipush (v := 78) E dX12_init_756 (by decide) ?_
  refine yi_bipush (v := 32) E dX12_init_758 (by decide) ?_
  refine yi_iastc (q := 14) (f' := mA47_79) (ws' := [(h0, .inr (12, [.ref q1, .int 0, .int 0, .ref q2, .ref q3, .ref q4, .ref q5, .ref q6, .int 0, .ref q7, .ref q8, .int 0, .int 0, .int 0, .int 0, .int 0, .ref q9, .ref q10, .ref q15, .ref q16, .ref q17, .int 0, .int 0, .int 0, .int 0, .null, .null, .int 0, .int 0, .int 0, .null, .null, .int 0, .int 0, .null, .null])), (q1, .inl (w.2.1 1, 3, .inl (fun _ => 0))), (q2, .inl (w.2.1 1, 5, .inl (fun _ => 0))), (q3, .inl (w.2.1 1, 5, .inl (fun _ => 0))), (q4, .inl (w.2.1 1, 5, .inl (fun _ => 0))), (q5, .inl (w.2.1 1, 5, .inl (fun _ => 0))), (q6, .inl (w.2.1 1, 160, .inl (fun _ => 0))), (q7, .inl (w.2.1 1, 1200, .inl (fun _ => 0))), (q8, .inl (w.2.1 1, 24, .inl (fun _ => 0))), (q9, .inl (w.2.1 1, 14, .inl (fun _ => 0))), (q10, .inl (w.2.1 1, 4, .inl mA10_4)), (q15, .inl (w.2.1 1, 4, .inl (fun _ => 0))), (q16, .inl (w.2.1 1, 160, .inl (fun _ => 0))), (q17, .inl (w.2.1 1, 29, .inl mA17_29)), (q47, .inl (w.2.1 1, 96, .inl mA47_79))]) E rfl (vp_in_nI (n := 78) (by decide) (by decide)) rfl rfl dX12_init_760 ?_
  refine yi_dup E dX12_init_761 rfl ?_
  refine yi_bipush (v := 79) E dX12_init_762 (by decide) ?_
  refine yi_bipush (v := 32) E dX12_init_764 (by decide) ?_
  refine yi_iastc (q := 14) (f' := mA47_80) (ws' := [(h0, .inr (12, [.ref q1, .int 0, .int 0, .ref q2, .ref q3, .ref q4, .ref q5, .ref q6, .int 0, .ref q7, .ref q8, .int 0, .int 0, .int 0, .int 0, .int 0, .ref q9, .ref q10, .ref q15, .ref q16, .ref q17, .int 0, .int 0, .int 0, .int 0, .null, .null, .int 0, .int 0, .int 0, .null, .null, .int 0, .int 0, .null, .null])), (q1, .inl (w.2.1 1, 3, .inl (fun _ => 0))), (q2, .inl (w.2.1 1, 5, .inl (fun _ => 0))), (q3, .inl (w.2.1 1, 5, .inl (fun _ => 0))), (q4, .inl (w.2.1 1, 5, .inl (fun _ => 0))), (q5, .inl (w.2.1 1, 5, .inl (fun _ => 0))), (q6, .inl (w.2.1 1, 160, .inl (fun _ => 0))), (q7, .inl (w.2.1 1, 1200, .inl (fun _ => 0))), (q8, .inl (w.2.1 1, 24, .inl (fun _ => 0))), (q9, .inl (w.2.1 1, 14, .inl (fun _ => 0))), (q10, .inl (w.2.1 1, 4, .inl mA10_4)), (q15, .inl (w.2.1 1, 4, .inl (fun _ => 0))), (q16, .inl (w.2.1 1, 160, .inl (fun _ => 0))), (q17, .inl (w.2.1 1, 29, .inl mA17_29)), (q47, .inl (w.2.1 1, 96, .inl mA47_80))]) E rfl (vp_in_nI (n := 79) (by decide) (by decide)) rfl rfl dX12_init_766 ?_
  refine yi_dup E dX12_init_767 rfl ?_
  refine yi_bipush (v := 80) E dX12_init_768 (by decide) ?_
  refine yi_bipush (v := 97) E dX12_init_770 (by decide) ?_
  refine yi_iastc (q := 14) (f' := mA47_81) (ws' := [(h0, .inr (12, [.ref q1, .int 0, .int 0, .ref q2, .ref q3, .ref q4, .ref q5, .ref q6, .int 0, .ref q7, .ref q8, .int 0, .int 0, .int 0, .int 0, .int 0, .ref q9, .ref q10, .ref q15, .ref q16, .ref q17, .int 0, .int 0, .int 0, .int 0, .null, .null, .int 0, .int 0, .int 0, .null, .null, .int 0, .int 0, .null, .null])), (q1, .inl (w.2.1 1, 3, .inl (fun _ => 0))), (q2, .inl (w.2.1 1, 5, .inl (fun _ => 0))), (q3, .inl (w.2.1 1, 5, .inl (fun _ => 0))), (q4, .inl (w.2.1 1, 5, .inl (fun _ => 0))), (q5, .inl (w.2.1 1, 5, .inl (fun _ => 0))), (q6, .inl (w.2.1 1, 160, .inl (fun _ => 0))), (q7, .inl (w.2.1 1, 1200, .inl (fun _ => 0))), (q8, .inl (w.2.1 1, 24, .inl (fun _ => 0))), (q9, .inl (w.2.1 1, 14, .inl (fun _ => 0))), (q10, .inl (w.2.1 1, 4, .inl mA10_4)), (q15, .inl (w.2.1 1, 4, .inl (fun _ => 0))), (q16, .inl (w.2.1 1, 160, .inl (fun _ => 0))), (q17, .inl (w.2.1 1, 29, .inl mA17_29)), (q47, .inl (w.2.1 1, 96, .inl mA47_81))]) E rfl (vp_in_nI (n := 80) (by decide) (by decide)) rfl rfl dX12_init_772 ?_
  refine yi_dup E dX12_init_773 rfl ?_
  refine yi_bipush (v := 81) E dX12_init_774 (by decide) ?_
  refine yi_bipush (v := 110) E dX12_init_776 (by decide) ?_
  refine yi_iastc (q := 14) (f' := mA47_82) (ws' := [(h0, .inr (12, [.ref q1, .int 0, .int 0, .ref q2, .ref q3, .ref q4, .ref q5, .ref q6, .int 0, .ref q7, .ref q8, .int 0, .int 0, .int 0, .int 0, .int 0, .ref q9, .ref q10, .ref q15, .ref q16, .ref q17, .int 0, .int 0, .int 0, .int 0, .null, .null, .int 0, .int 0, .int 0, .null, .null, .int 0, .int 0, .null, .null])), (q1, .inl (w.2.1 1, 3, .inl (fun _ => 0))), (q2, .inl (w.2.1 1, 5, .inl (fun _ => 0))), (q3, .inl (w.2.1 1, 5, .inl (fun _ => 0))), (q4, .inl (w.2.1 1, 5, .inl (fun _ => 0))), (q5, .inl (w.2.1 1, 5, .inl (fun _ => 0))), (q6, .inl (w.2.1 1, 160, .inl (fun _ => 0))), (q7, .inl (w.2.1 1, 1200, .inl (fun _ => 0))), (q8, .inl (w.2.1 1, 24, .inl (fun _ => 0))), (q9, .inl (w.2.1 1, 14, .inl (fun _ => 0))), (q10, .inl (w.2.1 1, 4, .inl mA10_4)), (q15, .inl (w.2.1 1, 4, .inl (fun _ => 0))), (q16, .inl (w.2.1 1, 160, .inl (fun _ => 0))), (q17, .inl (w.2.1 1, 29, .inl mA17_29)), (q47, .inl (w.2.1 1, 96, .inl mA47_82))]) E rfl (vp_in_nI (n := 81) (by decide) (by decide)) rfl rfl dX12_init_778 ?_
  refine yi_dup E dX12_init_779 rfl ?_
  refine yi_bipush (v := 82) E dX12_init_780 (by decide) ?_
  refine yi_bipush (v := 100) E dX12_init_782 (by decide) ?_
  refine yi_iastc (q := 14) (f' := mA47_83) (ws' := [(h0, .inr (12, [.ref q1, .int 0, .int 0, .ref q2, .ref q3, .ref q4, .ref q5, .ref q6, .int 0, .ref q7, .ref q8, .int 0, .int 0, .int 0, .int 0, .int 0, .ref q9, .ref q10, .ref q15, .ref q16, .ref q17, .int 0, .int 0, .int 0, .int 0, .null, .null, .int 0, .int 0, .int 0, .null, .null, .int 0, .int 0, .null, .null])), (q1, .inl (w.2.1 1, 3, .inl (fun _ => 0))), (q2, .inl (w.2.1 1, 5, .inl (fun _ => 0))), (q3, .inl (w.2.1 1, 5, .inl (fun _ => 0))), (q4, .inl (w.2.1 1, 5, .inl (fun _ => 0))), (q5, .inl (w.2.1 1, 5, .inl (fun _ => 0))), (q6, .inl (w.2.1 1, 160, .inl (fun _ => 0))), (q7, .inl (w.2.1 1, 1200, .inl (fun _ => 0))), (q8, .inl (w.2.1 1, 24, .inl (fun _ => 0))), (q9, .inl (w.2.1 1, 14, .inl (fun _ => 0))), (q10, .inl (w.2.1 1, 4, .inl mA10_4)), (q15, .inl (w.2.1 1, 4, .inl (fun _ => 0))), (q16, .inl (w.2.1 1, 160, .inl (fun _ => 0))), (q17, .inl (w.2.1 1, 29, .inl mA17_29)), (q47, .inl (w.2.1 1, 96, .inl mA47_83))]) E rfl (vp_in_nI (n := 82) (by decide) (by decide)) rfl rfl dX12_init_784 ?_
  refine yi_dup E dX12_init_785 rfl ?_
  refine yi_bipush (v := 83) E dX12_init_786 (by decide) ?_
  refine yi_bipush (v := 32) E dX12_init_788 (by decide) ?_
  refine yi_iastc (q := 14) (f' := mA47_84) (ws' := [(h0, .inr (12, [.ref q1, .int 0, .int 0, .ref q2, .ref q3, .ref q4, .ref q5, .ref q6, .int 0, .ref q7, .ref q8, .int 0, .int 0, .int 0, .int 0, .int 0, .ref q9, .ref q10, .ref q15, .ref q16, .ref q17, .int 0, .int 0, .int 0, .int 0, .null, .null, .int 0, .int 0, .int 0, .null, .null, .int 0, .int 0, .null, .null])), (q1, .inl (w.2.1 1, 3, .inl (fun _ => 0))), (q2, .inl (w.2.1 1, 5, .inl (fun _ => 0))), (q3, .inl (w.2.1 1, 5, .inl (fun _ => 0))), (q4, .inl (w.2.1 1, 5, .inl (fun _ => 0))), (q5, .inl (w.2.1 1, 5, .inl (fun _ => 0))), (q6, .inl (w.2.1 1, 160, .inl (fun _ => 0))), (q7, .inl (w.2.1 1, 1200, .inl (fun _ => 0))), (q8, .inl (w.2.1 1, 24, .inl (fun _ => 0))), (q9, .inl (w.2.1 1, 14, .inl (fun _ => 0))), (q10, .inl (w.2.1 1, 4, .inl mA10_4)), (q15, .inl (w.2.1 1, 4, .inl (fun _ => 0))), (q16, .inl (w.2.1 1, 160, .inl (fun _ => 0))), (q17, .inl (w.2.1 1, 29, .inl mA17_29)), (q47, .inl (w.2.1 1, 96, .inl mA47_84))]) E rfl (vp_in_nI (n := 83) (by decide) (by decide)) rfl rfl dX12_init_790 ?_
  refine yi_dup E dX12_init_791 rfl ?_
  refine yi_bipush (v := 84) E dX12_init_792 (by decide) ?_
  refine yi_bipush (v := 32) E dX12_init_794 (by decide) ?_
  refine yi_iastc (q := 14) (f' := mA47_85) (ws' := [(h0, .inr (12, [.ref q1, .int 0, .int 0, .ref q2, .ref q3, .ref q4, .ref q5, .ref q6, .int 0, .ref q7, .ref q8, .int 0, .int 0, .int 0, .int 0, .int 0, .ref q9, .ref q10, .ref q15, .ref q16, .ref q17, .int 0, .int 0, .int 0, .int 0, .null, .null, .int 0, .int 0, .int 0, .null, .null, .int 0, .int 0, .null, .null])), (q1, .inl (w.2.1 1, 3, .inl (fun _ => 0))), (q2, .inl (w.2.1 1, 5, .inl (fun _ => 0))), (q3, .inl (w.2.1 1, 5, .inl (fun _ => 0))), (q4, .inl (w.2.1 1, 5, .inl (fun _ => 0))), (q5, .inl (w.2.1 1, 5, .inl (fun _ => 0))), (q6, .inl (w.2.1 1, 160, .inl (fun _ => 0))), (q7, .inl (w.2.1 1, 1200, .inl (fun _ => 0))), (q8, .inl (w.2.1 1, 24, .inl (fun _ => 0))), (q9, .inl (w.2.1 1, 14, .inl (fun _ => 0))), (q10, .inl (w.2.1 1, 4, .inl mA10_4)), (q15, .inl (w.2.1 1, 4, .inl (fun _ => 0))), (q16, .inl (w.2.1 1, 160, .inl (fun _ => 0))), (q17, .inl (w.2.1 1, 29, .inl mA17_29)), (q47, .inl (w.2.1 1, 96, .inl mA47_85))]) E rfl (vp_in_nI (n := 84) (by decide) (by decide)) rfl rfl dX12_init_796 ?_
  refine yi_dup E dX12_init_797 rfl ?_
  refine yi_bipush (v := 85) E dX12_init_798 (by decide) ?_
  refine yi_bipush (v := 32) E dX12_init_800 (by decide) ?_
  refine yi_iastc (q := 14) (f' := mA47_86) (ws' := [(h0, .inr (12, [.ref q1, .int 0, .int 0, .ref q2, .ref q3, .ref q4, .ref q5, .ref q6, .int 0, .ref q7, .ref q8, .int 0, .int 0, .int 0, .int 0, .int 0, .ref q9, .ref q10, .ref q15, .ref q16, .ref q17, .int 0, .int 0, .int 0, .int 0, .null, .null, .int 0, .int 0, .int 0, .null, .null, .int 0, .int 0, .null, .null])), (q1, .inl (w.2.1 1, 3, .inl (fun _ => 0))), (q2, .inl (w.2.1 1, 5, .inl (fun _ => 0))), (q3, .inl (w.2.1 1, 5, .inl (fun _ => 0))), (q4, .inl (w.2.1 1, 5, .inl (fun _ => 0))), (q5, .inl (w.2.1 1, 5, .inl (fun _ => 0))), (q6, .inl (w.2.1 1, 160, .inl (fun _ => 0))), (q7, .inl (w.2.1 1, 1200, .inl (fun _ => 0))), (q8, .inl (w.2.1 1, 24, .inl (fun _ => 0))), (q9, .inl (w.2.1 1, 14, .inl (fun _ => 0))), (q10, .inl (w.2.1 1, 4, .inl mA10_4)), (q15, .inl (w.2.1 1, 4, .inl (fun _ => 0))), (q16, .inl (w.2.1 1, 160, .inl (fun _ => 0))), (q17, .inl (w.2.1 1, 29, .inl mA17_29)), (q47, .inl (w.2.1 1, 96, .inl mA47_86))]) E rfl (vp_in_nI (n := 85) (by decide) (by decide)) rfl rfl dX12_init_802 ?_
  refine yi_dup E dX12_init_803 rfl ?_
  refine yi_bipush (v := 86) E dX12_init_804 (by decide) ?_
  refine yi_bipush (v := 32) E dX12_init_806 (by decide) ?_
  refine yi_iastc (q := 14) (f' := mA47_87) (ws' := [(h0, .inr (12, [.ref q1, .int 0, .int 0, .ref q2, .ref q3, .ref q4, .ref q5, .ref q6, .int 0, .ref q7, .ref q8, .int 0, .int 0, .int 0, .int 0, .int 0, .ref q9, .ref q10, .ref q15, .ref q16, .ref q17, .int 0, .int 0, .int 0, .int 0, .null, .null, .int 0, .int 0, .int 0, .null, .null, .int 0, .int 0, .null, .null])), (q1, .inl (w.2.1 1, 3, .inl (fun _ => 0))), (q2, .inl (w.2.1 1, 5, .inl (fun _ => 0))), (q3, .inl (w.2.1 1, 5, .inl (fun _ => 0))), (q4, .inl (w.2.1 1, 5, .inl (fun _ => 0))), (q5, .inl (w.2.1 1, 5, .inl (fun _ => 0))), (q6, .inl (w.2.1 1, 160, .inl (fun _ => 0))), (q7, .inl (w.2.1 1, 1200, .inl (fun _ => 0))), (q8, .inl (w.2.1 1, 24, .inl (fun _ => 0))), (q9, .inl (w.2.1 1, 14, .inl (fun _ => 0))), (q10, .inl (w.2.1 1, 4, .inl mA10_4)), (q15, .inl (w.2.1 1, 4, .inl (fun _ => 0))), (q16, .inl (w.2.1 1, 160, .inl (fun _ => 0))), (q17, .inl (w.2.1 1, 29, .inl mA17_29)), (q47, .inl (w.2.1 1, 96, .inl mA47_87))]) E rfl (vp_in_nI (n := 86) (by decide) (by decide)) rfl rfl dX12_init_808 ?_
  refine yi_dup E dX12_init_809 rfl ?_
  refine yi_bipush (v := 87) E dX12_init_810 (by decide) ?_
  refine yi_bipush (v := 32) E dX12_init_812 (by decide) ?_
  refine yi_iastc (q := 14) (f' := mA47_88) (ws' := [(h0, .inr (12, [.ref q1, .int 0, .int 0, .ref q2, .ref q3, .ref q4, .ref q5, .ref q6, .int 0, .ref q7, .ref q8, .int 0, .int 0, .int 0, .int 0, .int 0, .ref q9, .ref q10, .ref q15, .ref q16, .ref q17, .int 0, .int 0, .int 0, .int 0, .null, .null, .int 0, .int 0, .int 0, .null, .null, .int 0, .int 0, .null, .null])), (q1, .inl (w.2.1 1, 3, .inl (fun _ => 0))), (q2, .inl (w.2.1 1, 5, .inl (fun _ => 0))), (q3, .inl (w.2.1 1, 5, .inl (fun _ => 0))), (q4, .inl (w.2.1 1, 5, .inl (fun _ => 0))), (q5, .inl (w.2.1 1, 5, .inl (fun _ => 0))), (q6, .inl (w.2.1 1, 160, .inl (fun _ => 0))), (q7, .inl (w.2.1 1, 1200, .inl (fun _ => 0))), (q8, .inl (w.2.1 1, 24, .inl (fun _ => 0))), (q9, .inl (w.2.1 1, 14, .inl (fun _ => 0))), (q10, .inl (w.2.1 1, 4, .inl mA10_4)), (q15, .inl (w.2.1 1, 4, .inl (fun _ => 0))), (q16, .inl (w.2.1 1, 160, .inl (fun _ => 0))), (q17, .inl (w.2.1 1, 29, .inl mA17_29)), (q47, .inl (w.2.1 1, 96, .inl mA47_88))]) E rfl (vp_in_nI (n := 87) (by decide) (by decide)) rfl rfl dX12_init_814 ?_
  refine yi_dup E dX12_init_815 rfl ?_
  refine yi_bipush (v := 88) E dX12_init_816 (by decide) ?_
  refine yi_bipush (v := 110) E dX12_init_818 (by decide) ?_
  refine yi_iastc (q := 14) (f' := mA47_89) (ws' := [(h0, .inr (12, [.ref q1, .int 0, .int 0, .ref q2, .ref q3, .ref q4, .ref q5, .ref q6, .int 0, .ref q7, .ref q8, .int 0, .int 0, .int 0, .int 0, .int 0, .ref q9, .ref q10, .ref q15, .ref q16, .ref q17, .int 0, .int 0, .int 0, .int 0, .null, .null, .int 0, .int 0, .int 0, .null, .null, .int 0, .int 0, .null, .null])), (q1, .inl (w.2.1 1, 3, .inl (fun _ => 0))), (q2, .inl (w.2.1 1, 5, .inl (fun _ => 0))), (q3, .inl (w.2.1 1, 5, .inl (fun _ => 0))), (q4, .inl (w.2.1 1, 5, .inl (fun _ => 0))), (q5, .inl (w.2.1 1, 5, .inl (fun _ => 0))), (q6, .inl (w.2.1 1, 160, .inl (fun _ => 0))), (q7, .inl (w.2.1 1, 1200, .inl (fun _ => 0))), (q8, .inl (w.2.1 1, 24, .inl (fun _ => 0))), (q9, .inl (w.2.1 1, 14, .inl (fun _ => 0))), (q10, .inl (w.2.1 1, 4, .inl mA10_4)), (q15, .inl (w.2.1 1, 4, .inl (fun _ => 0))), (q16, .inl (w.2.1 1, 160, .inl (fun _ => 0))), (q17, .inl (w.2.1 1, 29, .inl mA17_29)), (q47, .inl (w.2.1 1, 96, .inl mA47_89))]) E rfl (vp_in_nI (n := 88) (by decide) (by decide)) rfl rfl dX12_init_820 ?_
  refine yi_dup E dX12_init_821 rfl ?_
  refine yi_bipush (v := 89) E dX12_init_822 (by decide) ?_
  refine yi_bipush (v := 111) E dX12_init_824 (by decide) ?_
  refine yi_iastc (q := 14) (f' := mA47_90) (ws' := [(h0, .inr (12, [.ref q1, .int 0, .int 0, .ref q2, .ref q3, .ref q4, .ref q5, .ref q6, .int 0, .ref q7, .ref q8, .int 0, .int 0, .int 0, .int 0, .int 0, .ref q9, .ref q10, .ref q15, .ref q16, .ref q17, .int 0, .int 0, .int 0, .int 0, .null, .null, .int 0, .int 0, .int 0, .null, .null, .int 0, .int 0, .null, .null])), (q1, .inl (w.2.1 1, 3, .inl (fun _ => 0))), (q2, .inl (w.2.1 1, 5, .inl (fun _ => 0))), (q3, .inl (w.2.1 1, 5, .inl (fun _ => 0))), (q4, .inl (w.2.1 1, 5, .inl (fun _ => 0))), (q5, .inl (w.2.1 1, 5, .inl (fun _ => 0))), (q6, .inl (w.2.1 1, 160, .inl (fun _ => 0))), (q7, .inl (w.2.1 1, 1200, .inl (fun _ => 0))), (q8, .inl (w.2.1 1, 24, .inl (fun _ => 0))), (q9, .inl (w.2.1 1, 14, .inl (fun _ => 0))), (q10, .inl (w.2.1 1, 4, .inl mA10_4)), (q15, .inl (w.2.1 1, 4, .inl (fun _ => 0))), (q16, .inl (w.2.1 1, 160, .inl (fun _ => 0))), (q17, .inl (w.2.1 1, 29, .inl mA17_29)), (q47, .inl (w.2.1 1, 96, .inl mA47_90))]) E rfl (vp_in_nI (n := 89) (by decide) (by decide)) rfl rfl dX12_init_826 ?_
  refine yi_dup E dX12_init_827 rfl ?_
  refine yi_bipush (v := 90) E dX12_init_828 (by decide) ?_
  refine yi_bipush (v := 116) E dX12_init_830 (by decide) ?_
  refine yi_iastc (q := 14) (f' := mA47_91) (ws' := [(h0, .inr (12, [.ref q1, .int 0, .int 0, .ref q2, .ref q3, .ref q4, .ref q5, .ref q6, .int 0, .ref q7, .ref q8, .int 0, .int 0, .int 0, .int 0, .int 0, .ref q9, .ref q10, .ref q15, .ref q16, .ref q17, .int 0, .int 0, .int 0, .int 0, .null, .null, .int 0, .int 0, .int 0, .null, .null, .int 0, .int 0, .null, .null])), (q1, .inl (w.2.1 1, 3, .inl (fun _ => 0))), (q2, .inl (w.2.1 1, 5, .inl (fun _ => 0))), (q3, .inl (w.2.1 1, 5, .inl (fun _ => 0))), (q4, .inl (w.2.1 1, 5, .inl (fun _ => 0))), (q5, .inl (w.2.1 1, 5, .inl (fun _ => 0))), (q6, .inl (w.2.1 1, 160, .inl (fun _ => 0))), (q7, .inl (w.2.1 1, 1200, .inl (fun _ => 0))), (q8, .inl (w.2.1 1, 24, .inl (fun _ => 0))), (q9, .inl (w.2.1 1, 14, .inl (fun _ => 0))), (q10, .inl (w.2.1 1, 4, .inl mA10_4)), (q15, .inl (w.2.1 1, 4, .inl (fun _ => 0))), (q16, .inl (w.2.1 1, 160, .inl (fun _ => 0))), (q17, .inl (w.2.1 1, 29, .inl mA17_29)), (q47, .inl (w.2.1 1, 96, .inl mA47_91))]) E rfl (vp_in_nI (n := 90) (by decide) (by decide)) rfl rfl dX12_init_832 ?_
  refine yi_dup E dX12_init_833 rfl ?_
  refine yi_bipush (v := 91) E dX12_init_834 (by decide) ?_
  refine yi_bipush (v := 32) E dX12_init_836 (by decide) ?_
  refine yi_iastc (q := 14) (f' := mA47_92) (ws' := [(h0, .inr (12, [.ref q1, .int 0, .int 0, .ref q2, .ref q3, .ref q4, .ref q5, .ref q6, .int 0, .ref q7, .ref q8, .int 0, .int 0, .int 0, .int 0, .int 0, .ref q9, .ref q10, .ref q15, .ref q16, .ref q17, .int 0, .int 0, .int 0, .int 0, .null, .null, .int 0, .int 0, .int 0, .null, .null, .int 0, .int 0, .null, .null])), (q1, .inl (w.2.1 1, 3, .inl (fun _ => 0))), (q2, .inl (w.2.1 1, 5, .inl (fun _ => 0))), (q3, .inl (w.2.1 1, 5, .inl (fun _ => 0))), (q4, .inl (w.2.1 1, 5, .inl (fun _ => 0))), (q5, .inl (w.2.1 1, 5, .inl (fun _ => 0))), (q6, .inl (w.2.1 1, 160, .inl (fun _ => 0))), (q7, .inl (w.2.1 1, 1200, .inl (fun _ => 0))), (q8, .inl (w.2.1 1, 24, .inl (fun _ => 0))), (q9, .inl (w.2.1 1, 14, .inl (fun _ => 0))), (q10, .inl (w.2.1 1, 4, .inl mA10_4)), (q15, .inl (w.2.1 1, 4, .inl (fun _ => 0))), (q16, .inl (w.2.1 1, 160, .inl (fun _ => 0))), (q17, .inl (w.2.1 1, 29, .inl mA17_29)), (q47, .inl (w.2.1 1, 96, .inl mA47_92))]) E rfl (vp_in_nI (n := 91) (by decide) (by decide)) rfl rfl dX12_init_838 ?_
  refine yi_dup E dX12_init_839 rfl ?_
  refine yi_bipush (v := 92) E dX12_init_840 (by decide) ?_
  refine yi_bipush (v := 32) E dX12_init_842 (by decide) ?_
  refine yi_iastc (q := 14) (f' := mA47_93) (ws' := [(h0, .inr (12, [.ref q1, .int 0, .int 0, .ref q2, .ref q3, .ref q4, .ref q5, .ref q6, .int 0, .ref q7, .ref q8, .int 0, .int 0, .int 0, .int 0, .int 0, .ref q9, .ref q10, .ref q15, .ref q16, .ref q17, .int 0, .int 0, .int 0, .int 0, .null, .null, .int 0, .int 0, .int 0, .null, .null, .int 0, .int 0, .null, .null])), (q1, .inl (w.2.1 1, 3, .inl (fun _ => 0))), (q2, .inl (w.2.1 1, 5, .inl (fun _ => 0))), (q3, .inl (w.2.1 1, 5, .inl (fun _ => 0))), (q4, .inl (w.2.1 1, 5, .inl (fun _ => 0))), (q5, .inl (w.2.1 1, 5, .inl (fun _ => 0))), (q6, .inl (w.2.1 1, 160, .inl (fun _ => 0))), (q7, .inl (w.2.1 1, 1200, .inl (fun _ => 0))), (q8, .inl (w.2.1 1, 24, .inl (fun _ => 0))), (q9, .inl (w.2.1 1, 14, .inl (fun _ => 0))), (q10, .inl (w.2.1 1, 4, .inl mA10_4)), (q15, .inl (w.2.1 1, 4, .inl (fun _ => 0))), (q16, .inl (w.2.1 1, 160, .inl (fun _ => 0))), (q17, .inl (w.2.1 1, 29, .inl mA17_29)), (q47, .inl (w.2.1 1, 96, .inl mA47_93))]) E rfl (vp_in_nI (n := 92) (by decide) (by decide)) rfl rfl dX12_init_844 ?_
  refine yi_dup E dX12_init_845 rfl ?_
  refine yi_bipush (v := 93) E dX12_init_846 (by decide) ?_
  refine yi_bipush (v := 32) E dX12_init_848 (by decide) ?_
  refine yi_iastc (q := 14) (f' := mA47_94) (ws' := [(h0, .inr (12, [.ref q1, .int 0, .int 0, .ref q2, .ref q3, .ref q4, .ref q5, .ref q6, .int 0, .ref q7, .ref q8, .int 0, .int 0, .int 0, .int 0, .int 0, .ref q9, .ref q10, .ref q15, .ref q16, .ref q17, .int 0, .int 0, .int 0, .int 0, .null, .null, .int 0, .int 0, .int 0, .null, .null, .int 0, .int 0, .null, .null])), (q1, .inl (w.2.1 1, 3, .inl (fun _ => 0))), (q2, .inl (w.2.1 1, 5, .inl (fun _ => 0))), (q3, .inl (w.2.1 1, 5, .inl (fun _ => 0))), (q4, .inl (w.2.1 1, 5, .inl (fun _ => 0))), (q5, .inl (w.2.1 1, 5, .inl (fun _ => 0))), (q6, .inl (w.2.1 1, 160, .inl (fun _ => 0))), (q7, .inl (w.2.1 1, 1200, .inl (fun _ => 0))), (q8, .inl (w.2.1 1, 24, .inl (fun _ => 0))), (q9, .inl (w.2.1 1, 14, .inl (fun _ => 0))), (q10, .inl (w.2.1 1, 4, .inl mA10_4)), (q15, .inl (w.2.1 1, 4, .inl (fun _ => 0))), (q16, .inl (w.2.1 1, 160, .inl (fun _ => 0))), (q17, .inl (w.2.1 1, 29, .inl mA17_29)), (q47, .inl (w.2.1 1, 96, .inl mA47_94))]) E rfl (vp_in_nI (n := 93) (by decide) (by decide)) rfl rfl dX12_init_850 ?_
  refine yi_dup E dX12_init_851 rfl ?_
  refine yi_bipush (v := 94) E dX12_init_852 (by decide) ?_
  refine yi_bipush (v := 32) E dX12_init_854 (by decide) ?_
  refine yi_iastc (q := 14) (f' := mA47_95) (ws' := [(h0, .inr (12, [.ref q1, .int 0, .int 0, .ref q2, .ref q3, .ref q4, .ref q5, .ref q6, .int 0, .ref q7, .ref q8, .int 0, .int 0, .int 0, .int 0, .int 0, .ref q9, .ref q10, .ref q15, .ref q16, .ref q17, .int 0, .int 0, .int 0, .int 0, .null, .null, .int 0, .int 0, .int 0, .null, .null, .int 0, .int 0, .null, .null])), (q1, .inl (w.2.1 1, 3, .inl (fun _ => 0))), (q2, .inl (w.2.1 1, 5, .inl (fun _ => 0))), (q3, .inl (w.2.1 1, 5, .inl (fun _ => 0))), (q4, .inl (w.2.1 1, 5, .inl (fun _ => 0))), (q5, .inl (w.2.1 1, 5, .inl (fun _ => 0))), (q6, .inl (w.2.1 1, 160, .inl (fun _ => 0))), (q7, .inl (w.2.1 1, 1200, .inl (fun _ => 0))), (q8, .inl (w.2.1 1, 24, .inl (fun _ => 0))), (q9, .inl (w.2.1 1, 14, .inl (fun _ => 0))), (q10, .inl (w.2.1 1, 4, .inl mA10_4)), (q15, .inl (w.2.1 1, 4, .inl (fun _ => 0))), (q16, .inl (w.2.1 1, 160, .inl (fun _ => 0))), (q17, .inl (w.2.1 1, 29, .inl mA17_29)), (q47, .inl (w.2.1 1, 96, .inl mA47_95))]) E rfl (vp_in_nI (n := 94) (by decide) (by decide)) rfl rfl dX12_init_856 ?_
  refine yi_dup E dX12_init_857 rfl ?_
  refine yi_bipush (v := 95) E dX12_init_858 (by decide) ?_
  refine yi_bipush (v := 32) E dX12_init_860 (by decide) ?_
  refine yi_iastc (q := 14) (f' := mA47_96) (ws' := [(h0, .inr (12, [.ref q1, .int 0, .int 0, .ref q2, .ref q3, .ref q4, .ref q5, .ref q6, .int 0, .ref q7, .ref q8, .int 0, .int 0, .int 0, .int 0, .int 0, .ref q9, .ref q10, .ref q15, .ref q16, .ref q17, .int 0, .int 0, .int 0, .int 0, .null, .null, .int 0, .int 0, .int 0, .null, .null, .int 0, .int 0, .null, .null])), (q1, .inl (w.2.1 1, 3, .inl (fun _ => 0))), (q2, .inl (w.2.1 1, 5, .inl (fun _ => 0))), (q3, .inl (w.2.1 1, 5, .inl (fun _ => 0))), (q4, .inl (w.2.1 1, 5, .inl (fun _ => 0))), (q5, .inl (w.2.1 1, 5, .inl (fun _ => 0))), (q6, .inl (w.2.1 1, 160, .inl (fun _ => 0))), (q7, .inl (w.2.1 1, 1200, .inl (fun _ => 0))), (q8, .inl (w.2.1 1, 24, .inl (fun _ => 0))), (q9, .inl (w.2.1 1, 14, .inl (fun _ => 0))), (q10, .inl (w.2.1 1, 4, .inl mA10_4)), (q15, .inl (w.2.1 1, 4, .inl (fun _ => 0))), (q16, .inl (w.2.1 1, 160, .inl (fun _ => 0))), (q17, .inl (w.2.1 1, 29, .inl mA17_29)), (q47, .inl (w.2.1 1, 96, .inl mA47_96))]) E rfl (vp_in_nI (n := 95) (by decide) (by decide)) rfl rfl dX12_init_862 ?_
  refine yi_putF (q := 0) (ci := 12) (k := 25) (N := 36) (C := RX12) (T := TX12) (v := .ref q47) (ty := (.array .int)) (ws' := [(h0, .inr (12, [.ref q1, .int 0, .int 0, .ref q2, .ref q3, .ref q4, .ref q5, .ref q6, .int 0, .ref q7, .ref q8, .int 0, .int 0, .int 0, .int 0, .int 0, .ref q9, .ref q10, .ref q15, .ref q16, .ref q17, .int 0, .int 0, .int 0, .int 0, .ref q47, .null, .int 0, .int 0, .int 0, .null, .null, .int 0, .int 0, .null, .null])), (q1, .inl (w.2.1 1, 3, .inl (fun _ => 0))), (q2, .inl (w.2.1 1, 5, .inl (fun _ => 0))), (q3, .inl (w.2.1 1, 5, .inl (fun _ => 0))), (q4, .inl (w.2.1 1, 5, .inl (fun _ => 0))), (q5, .inl (w.2.1 1, 5, .inl (fun _ => 0))), (q6, .inl (w.2.1 1, 160, .inl (fun _ => 0))), (q7, .inl (w.2.1 1, 1200, .inl (fun _ => 0))), (q8, .inl (w.2.1 1, 24, .inl (fun _ => 0))), (q9, .inl (w.2.1 1, 14, .inl (fun _ => 0))), (q10, .inl (w.2.1 1, 4, .inl mA10_4)), (q15, .inl (w.2.1 1, 4, .inl (fun _ => 0))), (q16, .inl (w.2.1 1, 160, .inl (fun _ => 0))), (q17, .inl (w.2.1 1, 29, .inl mA17_29)), (q47, .inl (w.2.1 1, 96, .inl mA47_96))]) E rfl rfl wu_X12 tyX12 tyX12_ok nmX12 (by decide) wm_503 rfl hin rfl (by decide +kernel) rfl rfl (Nat.le_of_ble_eq_true rfl) rfl dX12_init_863 ?_
  refine yi_aload_n E dX12_init_866 0 rfl ?_
  refine yi_sipush (v := 200) E dX12_init_867 (by decide) ?_
  refine yi_newaI (N' := 200) E wm_698 (by decide) (by decide) (Nat.le_of_ble_eq_true rfl) ⟨Nat.le_of_ble_eq_true rfl, Nat.le_of_ble_eq_true rfl⟩ dX12_init_870 (fun q144 => ?_)
  refine yi_eq (ws' := [(h0, .inr (12, [.ref q1, .int 0, .int 0, .ref q2, .ref q3, .ref q4, .ref q5, .ref q6, .int 0, .ref q7, .ref q8, .int 0, .int 0, .int 0, .int 0, .int 0, .ref q9, .ref q10, .ref q15, .ref q16, .ref q17, .int 0, .int 0, .int 0, .int 0, .ref q47, .null, .int 0, .int 0, .int 0, .null, .null, .int 0, .int 0, .null, .null])), (q1, .inl (w.2.1 1, 3, .inl (fun _ => 0))), (q2, .inl (w.2.1 1, 5, .inl (fun _ => 0))), (q3, .inl (w.2.1 1, 5, .inl (fun _ => 0))), (q4, .inl (w.2.1 1, 5, .inl (fun _ => 0))), (q5, .inl (w.2.1 1, 5, .inl (fun _ => 0))), (q6, .inl (w.2.1 1, 160, .inl (fun _ => 0))), (q7, .inl (w.2.1 1, 1200, .inl (fun _ => 0))), (q8, .inl (w.2.1 1, 24, .inl (fun _ => 0))), (q9, .inl (w.2.1 1, 14, .inl (fun _ => 0))), (q10, .inl (w.2.1 1, 4, .inl mA10_4)), (q15, .inl (w.2.1 1, 4, .inl (fun _ => 0))), (q16, .inl (w.2.1 1, 160, .inl (fun _ => 0))), (q17, .inl (w.2.1 1, 29, .inl mA17_29)), (q47, .inl (w.2.1 1, 96, .inl mA47_96)), (q144, .inl (w.2.1 1, 200, .inl (fun _ => 0)))]) rfl ?_
  refine yi_putF (q := 0) (ci := 12) (k := 26) (N := 36) (C := RX12) (T := TX12) (v := .ref q144) (ty := (.array .int)) (ws' := [(h0, .inr (12, [.ref q1, .int 0, .int 0, .ref q2, .ref q3, .ref q4, .ref q5, .ref q6, .int 0, .ref q7, .ref q8, .int 0, .int 0, .int 0, .int 0, .int 0, .ref q9, .ref q10, .ref q15, .ref q16, .ref q17, .int 0, .int 0, .int 0, .int 0, .ref q47, .ref q144, .int 0, .int 0, .int 0, .null, .null, .int 0, .int 0, .null, .null])), (q1, .inl (w.2.1 1, 3, .inl (fun _ => 0))), (q2, .inl (w.2.1 1, 5, .inl (fun _ => 0))), (q3, .inl (w.2.1 1, 5, .inl (fun _ => 0))), (q4, .inl (w.2.1 1, 5, .inl (fun _ => 0))), (q5, .inl (w.2.1 1, 5, .inl (fun _ => 0))), (q6, .inl (w.2.1 1, 160, .inl (fun _ => 0))), (q7, .inl (w.2.1 1, 1200, .inl (fun _ => 0))), (q8, .inl (w.2.1 1, 24, .inl (fun _ => 0))), (q9, .inl (w.2.1 1, 14, .inl (fun _ => 0))), (q10, .inl (w.2.1 1, 4, .inl mA10_4)), (q15, .inl (w.2.1 1, 4, .inl (fun _ => 0))), (q16, .inl (w.2.1 1, 160, .inl (fun _ => 0))), (q17, .inl (w.2.1 1, 29, .inl mA17_29)), (q47, .inl (w.2.1 1, 96, .inl mA47_96)), (q144, .inl (w.2.1 1, 200, .inl (fun _ => 0)))]) E rfl rfl wu_X12 tyX12 tyX12_ok nmX12 (by decide) wm_515 rfl hin rfl (by decide +kernel) rfl rfl (Nat.le_of_ble_eq_true rfl) rfl dX12_init_872 ?_
  refine yi_aload_n E dX12_init_875 0 rfl ?_
  refine yi_sipush (v := 200) E dX12_init_876 (by decide) ?_
  refine yi_newaI (N' := 200) E wm_698 (by decide) (by decide) (Nat.le_of_ble_eq_true rfl) ⟨Nat.le_of_ble_eq_true rfl, Nat.le_of_ble_eq_true rfl⟩ dX12_init_879 (fun q145 => ?_)
  refine yi_eq (ws' := [(h0, .inr (12, [.ref q1, .int 0, .int 0, .ref q2, .ref q3, .ref q4, .ref q5, .ref q6, .int 0, .ref q7, .ref q8, .int 0, .int 0, .int 0, .int 0, .int 0, .ref q9, .ref q10, .ref q15, .ref q16, .ref q17, .int 0, .int 0, .int 0, .int 0, .ref q47, .ref q144, .int 0, .int 0, .int 0, .null, .null, .int 0, .int 0, .null, .null])), (q1, .inl (w.2.1 1, 3, .inl (fun _ => 0))), (q2, .inl (w.2.1 1, 5, .inl (fun _ => 0))), (q3, .inl (w.2.1 1, 5, .inl (fun _ => 0))), (q4, .inl (w.2.1 1, 5, .inl (fun _ => 0))), (q5, .inl (w.2.1 1, 5, .inl (fun _ => 0))), (q6, .inl (w.2.1 1, 160, .inl (fun _ => 0))), (q7, .inl (w.2.1 1, 1200, .inl (fun _ => 0))), (q8, .inl (w.2.1 1, 24, .inl (fun _ => 0))), (q9, .inl (w.2.1 1, 14, .inl (fun _ => 0))), (q10, .inl (w.2.1 1, 4, .inl mA10_4)), (q15, .inl (w.2.1 1, 4, .inl (fun _ => 0))), (q16, .inl (w.2.1 1, 160, .inl (fun _ => 0))), (q17, .inl (w.2.1 1, 29, .inl mA17_29)), (q47, .inl (w.2.1 1, 96, .inl mA47_96)), (q144, .inl (w.2.1 1, 200, .inl (fun _ => 0))), (q145, .inl (w.2.1 1, 200, .inl (fun _ => 0)))]) rfl ?_
  refine yi_putF (q := 0) (ci := 12) (k := 30) (N := 36) (C := RX12) (T := TX12) (v := .ref q145) (ty := (.array .int)) (ws' := [(h0, .inr (12, [.ref q1, .int 0, .int 0, .ref q2, .ref q3, .ref q4, .ref q5, .ref q6, .int 0, .ref q7, .ref q8, .int 0, .int 0, .int 0, .int 0, .int 0, .ref q9, .ref q10, .ref q15, .ref q16, .ref q17, .int 0, .int 0, .int 0, .int 0, .ref q47, .ref q144, .int 0, .int 0, .int 0, .ref q145, .null, .int 0, .int 0, .null, .null])), (q1, .inl (w.2.1 1, 3, .inl (fun _ => 0))), (q2, .inl (w.2.1 1, 5, .inl (fun _ => 0))), (q3, .inl (w.2.1 1, 5, .inl (fun _ => 0))), (q4, .inl (w.2.1 1, 5, .inl (fun _ => 0))), (q5, .inl (w.2.1 1, 5, .inl (fun _ => 0))), (q6, .inl (w.2.1 1, 160, .inl (fun _ => 0))), (q7, .inl (w.2.1 1, 1200, .inl (fun _ => 0))), (q8, .inl (w.2.1 1, 24, .inl (fun _ => 0))), (q9, .inl (w.2.1 1, 14, .inl (fun _ => 0))), (q10, .inl (w.2.1 1, 4, .inl mA10_4)), (q15, .inl (w.2.1 1, 4, .inl (fun _ => 0))), (q16, .inl (w.2.1 1, 160, .inl (fun _ => 0))), (q17, .inl (w.2.1 1, 29, .inl mA17_29)), (q47, .inl (w.2.1 1, 96, .inl mA47_96)), (q144, .inl (w.2.1 1, 200, .inl (fun _ => 0))), (q145, .inl (w.2.1 1, 200, .inl (fun _ => 0)))]) E rfl rfl wu_X12 tyX12 tyX12_ok nmX12 (by decide) wm_554 rfl hin rfl (by decide +kernel) rfl rfl (Nat.le_of_ble_eq_true rfl) rfl dX12_init_881 ?_
  refine yi_aload_n E dX12_init_884 0 rfl ?_
  refine yi_bipush (v := 6) E dX12_init_885 (by decide) ?_
  refine yi_newaI (N' := 6) E wm_698 (by decide) (by decide) (Nat.le_of_ble_eq_true rfl) ⟨Nat.le_of_ble_eq_true rfl, Nat.le_of_ble_eq_true rfl⟩ dX12_init_887 (fun q146 => ?_)
  refine yi_eq (ws' := [(h0, .inr (12, [.ref q1, .int 0, .int 0, .ref q2, .ref q3, .ref q4, .ref q5, .ref q6, .int 0, .ref q7, .ref q8, .int 0, .int 0, .int 0, .int 0, .int 0, .ref q9, .ref q10, .ref q15, .ref q16, .ref q17, .int 0, .int 0, .int 0, .int 0, .ref q47, .ref q144, .int 0, .int 0, .int 0, .ref q145, .null, .int 0, .int 0, .null, .null])), (q1, .inl (w.2.1 1, 3, .inl (fun _ => 0))), (q2, .inl (w.2.1 1, 5, .inl (fun _ => 0))), (q3, .inl (w.2.1 1, 5, .inl (fun _ => 0))), (q4, .inl (w.2.1 1, 5, .inl (fun _ => 0))), (q5, .inl (w.2.1 1, 5, .inl (fun _ => 0))), (q6, .inl (w.2.1 1, 160, .inl (fun _ => 0))), (q7, .inl (w.2.1 1, 1200, .inl (fun _ => 0))), (q8, .inl (w.2.1 1, 24, .inl (fun _ => 0))), (q9, .inl (w.2.1 1, 14, .inl (fun _ => 0))), (q10, .inl (w.2.1 1, 4, .inl mA10_4)), (q15, .inl (w.2.1 1, 4, .inl (fun _ => 0))), (q16, .inl (w.2.1 1, 160, .inl (fun _ => 0))), (q17, .inl (w.2.1 1, 29, .inl mA17_29)), (q47, .inl (w.2.1 1, 96, .inl mA47_96)), (q144, .inl (w.2.1 1, 200, .inl (fun _ => 0))), (q145, .inl (w.2.1 1, 200, .inl (fun _ => 0))), (q146, .inl (w.2.1 1, 6, .inl (fun _ => 0)))]) rfl ?_
  refine yi_putF (q := 0) (ci := 12) (k := 31) (N := 36) (C := RX12) (T := TX12) (v := .ref q146) (ty := (.array .int)) (ws' := [(h0, .inr (12, [.ref q1, .int 0, .int 0, .ref q2, .ref q3, .ref q4, .ref q5, .ref q6, .int 0, .ref q7, .ref q8, .int 0, .int 0, .int 0, .int 0, .int 0, .ref q9, .ref q10, .ref q15, .ref q16, .ref q17, .int 0, .int 0, .int 0, .int 0, .ref q47, .ref q144, .int 0, .int 0, .int 0, .ref q145, .ref q146, .int 0, .int 0, .null, .null])), (q1, .inl (w.2.1 1, 3, .inl (fun _ => 0))), (q2, .inl (w.2.1 1, 5, .inl (fun _ => 0))), (q3, .inl (w.2.1 1, 5, .inl (fun _ => 0))), (q4, .inl (w.2.1 1, 5, .inl (fun _ => 0))), (q5, .inl (w.2.1 1, 5, .inl (fun _ => 0))), (q6, .inl (w.2.1 1, 160, .inl (fun _ => 0))), (q7, .inl (w.2.1 1, 1200, .inl (fun _ => 0))), (q8, .inl (w.2.1 1, 24, .inl (fun _ => 0))), (q9, .inl (w.2.1 1, 14, .inl (fun _ => 0))), (q10, .inl (w.2.1 1, 4, .inl mA10_4)), (q15, .inl (w.2.1 1, 4, .inl (fun _ => 0))), (q16, .inl (w.2.1 1, 160, .inl (fun _ => 0))), (q17, .inl (w.2.1 1, 29, .inl mA17_29)), (q47, .inl (w.2.1 1, 96, .inl mA47_96)), (q144, .inl (w.2.1 1, 200, .inl (fun _ => 0))), (q145, .inl (w.2.1 1, 200, .inl (fun _ => 0))), (q146, .inl (w.2.1 1, 6, .inl (fun _ => 0)))]) E rfl rfl wu_X12 tyX12 tyX12_ok nmX12 (by decide) wm_558 rfl hin rfl (by decide +kernel) rfl rfl (Nat.le_of_ble_eq_true rfl) rfl dX12_init_889 ?_
  refine yi_aload_n E dX12_init_892 0 rfl ?_
  refine yi_bipush (v := 30) E dX12_init_893 (by decide) ?_
  refine yi_newaI (N' := 30) E wm_698 (by decide) (by decide) (Nat.le_of_ble_eq_true rfl) ⟨Nat.le_of_ble_eq_true rfl, Nat.le_of_ble_eq_true rfl⟩ dX12_init_895 (fun q147 => ?_)
  refine yi_eq (ws' := [(h0, .inr (12, [.ref q1, .int 0, .int 0, .ref q2, .ref q3, .ref q4, .ref q5, .ref q6, .int 0, .ref q7, .ref q8, .int 0, .int 0, .int 0, .int 0, .int 0, .ref q9, .ref q10, .ref q15, .ref q16, .ref q17, .int 0, .int 0, .int 0, .int 0, .ref q47, .ref q144, .int 0, .int 0, .int 0, .ref q145, .ref q146, .int 0, .int 0, .null, .null])), (q1, .inl (w.2.1 1, 3, .inl (fun _ => 0))), (q2, .inl (w.2.1 1, 5, .inl (fun _ => 0))), (q3, .inl (w.2.1 1, 5, .inl (fun _ => 0))), (q4, .inl (w.2.1 1, 5, .inl (fun _ => 0))), (q5, .inl (w.2.1 1, 5, .inl (fun _ => 0))), (q6, .inl (w.2.1 1, 160, .inl (fun _ => 0))), (q7, .inl (w.2.1 1, 1200, .inl (fun _ => 0))), (q8, .inl (w.2.1 1, 24, .inl (fun _ => 0))), (q9, .inl (w.2.1 1, 14, .inl (fun _ => 0))), (q10, .inl (w.2.1 1, 4, .inl mA10_4)), (q15, .inl (w.2.1 1, 4, .inl (fun _ => 0))), (q16, .inl (w.2.1 1, 160, .inl (fun _ => 0))), (q17, .inl (w.2.1 1, 29, .inl mA17_29)), (q47, .inl (w.2.1 1, 96, .inl mA47_96)), (q144, .inl (w.2.1 1, 200, .inl (fun _ => 0))), (q145, .inl (w.2.1 1, 200, .inl (fun _ => 0))), (q146, .inl (w.2.1 1, 6, .inl (fun _ => 0))), (q147, .inl (w.2.1 1, 30, .inl (fun _ => 0)))]) rfl ?_
  refine yi_putF (q := 0) (ci := 12) (k := 34) (N := 36) (C := RX12) (T := TX12) (v := .ref q147) (ty := (.array .int)) (ws' := [(h0, .inr (12, [.ref q1, .int 0, .int 0, .ref q2, .ref q3, .ref q4, .ref q5, .ref q6, .int 0, .ref q7, .ref q8, .int 0, .int 0, .int 0, .int 0, .int 0, .ref q9, .ref q10, .ref q15, .ref q16, .ref q17, .int 0, .int 0, .int 0, .int 0, .ref q47, .ref q144, .int 0, .int 0, .int 0, .ref q145, .ref q146, .int 0, .int 0, .ref q147, .null])), (q1, .inl (w.2.1 1, 3, .inl (fun _ => 0))), (q2, .inl (w.2.1 1, 5, .inl (fun _ => 0))), (q3, .inl (w.2.1 1, 5, .inl (fun _ => 0))), (q4, .inl (w.2.1 1, 5, .inl (fun _ => 0))), (q5, .inl (w.2.1 1, 5, .inl (fun _ => 0))), (q6, .inl (w.2.1 1, 160, .inl (fun _ => 0))), (q7, .inl (w.2.1 1, 1200, .inl (fun _ => 0))), (q8, .inl (w.2.1 1, 24, .inl (fun _ => 0))), (q9, .inl (w.2.1 1, 14, .inl (fun _ => 0))), (q10, .inl (w.2.1 1, 4, .inl mA10_4)), (q15, .inl (w.2.1 1, 4, .inl (fun _ => 0))), (q16, .inl (w.2.1 1, 160, .inl (fun _ => 0))), (q17, .inl (w.2.1 1, 29, .inl mA17_29)), (q47, .inl (w.2.1 1, 96, .inl mA47_96)), (q144, .inl (w.2.1 1, 200, .inl (fun _ => 0))), (q145, .inl (w.2.1 1, 200, .inl (fun _ => 0))), (q146, .inl (w.2.1 1, 6, .inl (fun _ => 0))), (q147, .inl (w.2.1 1, 30, .inl (fun _ => 0)))]) E rfl rfl wu_X12 tyX12 tyX12_ok nmX12 (by decide) wm_617 rfl hin rfl (by decide +kernel) rfl rfl (Nat.le_of_ble_eq_true rfl) rfl dX12_init_897 ?_
  refine yi_aload_n E dX12_init_900 0 rfl ?_
  refine yi_iconst (v := 5) E dX12_init_901 (by decide) ?_
  refine yi_newaI (N' := 5) E wm_698 (by decide) (by decide) (Nat.le_of_ble_eq_true rfl) ⟨Nat.le_of_ble_eq_true rfl, Nat.le_of_ble_eq_true rfl⟩ dX12_init_902 (fun q148 => ?_)
  refine yi_eq (ws' := [(h0, .inr (12, [.ref q1, .int 0, .int 0, .ref q2, .ref q3, .ref q4, .ref q5, .ref q6, .int 0, .ref q7, .ref q8, .int 0, .int 0, .int 0, .int 0, .int 0, .ref q9, .ref q10, .ref q15, .ref q16, .ref q17, .int 0, .int 0, .int 0, .int 0, .ref q47, .ref q144, .int 0, .int 0, .int 0, .ref q145, .ref q146, .int 0, .int 0, .ref q147, .null])), (q1, .inl (w.2.1 1, 3, .inl (fun _ => 0))), (q2, .inl (w.2.1 1, 5, .inl (fun _ => 0))), (q3, .inl (w.2.1 1, 5, .inl (fun _ => 0))), (q4, .inl (w.2.1 1, 5, .inl (fun _ => 0))), (q5, .inl (w.2.1 1, 5, .inl (fun _ => 0))), (q6, .inl (w.2.1 1, 160, .inl (fun _ => 0))), (q7, .inl (w.2.1 1, 1200, .inl (fun _ => 0))), (q8, .inl (w.2.1 1, 24, .inl (fun _ => 0))), (q9, .inl (w.2.1 1, 14, .inl (fun _ => 0))), (q10, .inl (w.2.1 1, 4, .inl mA10_4)), (q15, .inl (w.2.1 1, 4, .inl (fun _ => 0))), (q16, .inl (w.2.1 1, 160, .inl (fun _ => 0))), (q17, .inl (w.2.1 1, 29, .inl mA17_29)), (q47, .inl (w.2.1 1, 96, .inl mA47_96)), (q144, .inl (w.2.1 1, 200, .inl (fun _ => 0))), (q145, .inl (w.2.1 1, 200, .inl (fun _ => 0))), (q146, .inl (w.2.1 1, 6, .inl (fun _ => 0))), (q147, .inl (w.2.1 1, 30, .inl (fun _ => 0))), (q148, .inl (w.2.1 1, 5, .inl (fun _ => 0)))]) rfl ?_
  refine yi_putF (q := 0) (ci := 12) (k := 35) (N := 36) (C := RX12) (T := TX12) (v := .ref q148) (ty := (.array .int)) (ws' := [(h0, .inr (12, [.ref q1, .int 0, .int 0, .ref q2, .ref q3, .ref q4, .ref q5, .ref q6, .int 0, .ref q7, .ref q8, .int 0, .int 0, .int 0, .int 0, .int 0, .ref q9, .ref q10, .ref q15, .ref q16, .ref q17, .int 0, .int 0, .int 0, .int 0, .ref q47, .ref q144, .int 0, .int 0, .int 0, .ref q145, .ref q146, .int 0, .int 0, .ref q147, .ref q148])), (q1, .inl (w.2.1 1, 3, .inl (fun _ => 0))), (q2, .inl (w.2.1 1, 5, .inl (fun _ => 0))), (q3, .inl (w.2.1 1, 5, .inl (fun _ => 0))), (q4, .inl (w.2.1 1, 5, .inl (fun _ => 0))), (q5, .inl (w.2.1 1, 5, .inl (fun _ => 0))), (q6, .inl (w.2.1 1, 160, .inl (fun _ => 0))), (q7, .inl (w.2.1 1, 1200, .inl (fun _ => 0))), (q8, .inl (w.2.1 1, 24, .inl (fun _ => 0))), (q9, .inl (w.2.1 1, 14, .inl (fun _ => 0))), (q10, .inl (w.2.1 1, 4, .inl mA10_4)), (q15, .inl (w.2.1 1, 4, .inl (fun _ => 0))), (q16, .inl (w.2.1 1, 160, .inl (fun _ => 0))), (q17, .inl (w.2.1 1, 29, .inl mA17_29)), (q47, .inl (w.2.1 1, 96, .inl mA47_96)), (q144, .inl (w.2.1 1, 200, .inl (fun _ => 0))), (q145, .inl (w.2.1 1, 200, .inl (fun _ => 0))), (q146, .inl (w.2.1 1, 6, .inl (fun _ => 0))), (q147, .inl (w.2.1 1, 30, .inl (fun _ => 0))), (q148, .inl (w.2.1 1, 5, .inl (fun _ => 0)))]) E rfl rfl wu_X12 tyX12 tyX12_ok nmX12 (by decide) wm_634 rfl hin rfl (by decide +kernel) rfl rfl (Nat.le_of_ble_eq_true rfl) rfl dX12_init_904 ?_
  refine yi_iconst (v := 0) E dX12_init_907 (by decide) ?_
  refine yi_istore_n (lv' := [(1, .int 0), (0, .ref h0)]) E dX12_init_908 (by decide) rfl ?_
  refine yi_iload_n E dX12_init_909 0 rfl ?_
  refine yi_bipush (v := 29) E dX12_init_910 (by decide) ?_
  refine yi_icmp_ge (tgt := 933) E dX12_init_912 (by decide) (fun h => absurd h (by decide)) (fun _ => ?_)
  refine yi_aload_n E dX12_init_915 1 rfl ?_
  refine yi_get (q := 0) (ci := 12) (k := 7) (N := 36) (C := RX12) (T := TX12) (v := .ref q6) E rfl rfl wu_X12 (by decide) wm_502 rfl dX12_init_916 ?_
  refine yi_iload_n E dX12_init_919 0 rfl ?_
  refine yi_aload_n E dX12_init_920 1 rfl ?_
  refine yi_get (q := 0) (ci := 12) (k := 20) (N := 36) (C := RX12) (T := TX12) (v := .ref q17) E rfl rfl wu_X12 (by decide) wm_753 rfl dX12_init_921 ?_
  refine yi_iload_n E dX12_init_924 0 rfl ?_
  refine yi_iald (q := 13) (v := mA17_29 0) E rfl (vp_in_nI (n := 0) (by decide) (by decide)) rfl dX12_init_925 ?_
  refine yi_iastc (q := 6) (f' := mA6_1) (ws' := [(h0, .inr (12, [.ref q1, .int 0, .int 0, .ref q2, .ref q3, .ref q4, .ref q5, .ref q6, .int 0, .ref q7, .ref q8, .int 0, .int 0, .int 0, .int 0, .int 0, .ref q9, .ref q10, .ref q15, .ref q16, .ref q17, .int 0, .int 0, .int 0, .int 0, .ref q47, .ref q144, .int 0, .int 0, .int 0, .ref q145, .ref q146, .int 0, .int 0, .ref q147, .ref q148])), (q1, .inl (w.2.1 1, 3, .inl (fun _ => 0))), (q2, .inl (w.2.1 1, 5, .inl (fun _ => 0))), (q3, .inl (w.2.1 1, 5, .inl (fun _ => 0))), (q4, .inl (w.2.1 1, 5, .inl (fun _ => 0))), (q5, .inl (w.2.1 1, 5, .inl (fun _ => 0))), (q6, .inl (w.2.1 1, 160, .inl mA6_1)), (q7, .inl (w.2.1 1, 1200, .inl (fun _ => 0))), (q8, .inl (w.2.1 1, 24, .inl (fun _ => 0))), (q9, .inl (w.2.1 1, 14, .inl (fun _ => 0))), (q10, .inl (w.2.1 1, 4, .inl mA10_4)), (q15, .inl (w.2.1 1, 4, .inl (fun _ => 0))), (q16, .inl (w.2.1 1, 160, .inl (fun _ => 0))), (q17, .inl (w.2.1 1, 29, .inl mA17_29)), (q47, .inl (w.2.1 1, 96, .inl mA47_96)), (q144, .inl (w.2.1 1, 200, .inl (fun _ => 0))), (q145, .inl (w.2.1 1, 200, .inl (fun _ => 0))), (q146, .inl (w.2.1 1, 6, .inl (fun _ => 0))), (q147, .inl (w.2.1 1, 30, .inl (fun _ => 0))), (q148, .inl (w.2.1 1, 5, .inl (fun _ => 0)))]) E rfl (vp_in_nI (n := 0) (by decide) (by decide)) rfl rfl dX12_init_926 ?_
  refine yi_iinc (v := 1) (lv' := [(1, .int 1), (0, .ref h0)]) E dX12_init_927 0 rfl (by decide) (by decide) rfl ?_
  refine yi_goto (tgt := 909) E dX12_init_930 (by decide) ?_
  refine yi_iload_n E dX12_init_909 0 rfl ?_
  refine yi_bipush (v := 29) E dX12_init_910 (by decide) ?_
  refine yi_icmp_ge (tgt := 933) E dX12_init_912 (by decide) (fun h => absurd h (by decide)) (fun _ => ?_)
  refine yi_aload_n E dX12_init_915 1 rfl ?_
  refine yi_get (q := 0) (ci := 12) (k := 7) (N := 36) (C := RX12) (T := TX12) (v := .ref q6) E rfl rfl wu_X12 (by decide) wm_502 rfl dX12_init_916 ?_
  refine yi_iload_n E dX12_init_919 0 rfl ?_
  refine yi_aload_n E dX12_init_920 1 rfl ?_
  refine yi_get (q := 0) (ci := 12) (k := 20) (N := 36) (C := RX12) (T := TX12) (v := .ref q17) E rfl rfl wu_X12 (by decide) wm_753 rfl dX12_init_921 ?_
  refine yi_iload_n E dX12_init_924 0 rfl ?_
  refine yi_iald (q := 13) (v := mA17_29 1) E rfl (vp_in_nI (n := 1) (by decide) (by decide)) rfl dX12_init_925 ?_
  refine yi_iastc (q := 6) (f' := mA6_2) (ws' := [(h0, .inr (12, [.ref q1, .int 0, .int 0, .ref q2, .ref q3, .ref q4, .ref q5, .ref q6, .int 0, .ref q7, .ref q8, .int 0, .int 0, .int 0, .int 0, .int 0, .ref q9, .ref q10, .ref q15, .ref q16, .ref q17, .int 0, .int 0, .int 0, .int 0, .ref q47, .ref q144, .int 0, .int 0, .int 0, .ref q145, .ref q146, .int 0, .int 0, .ref q147, .ref q148])), (q1, .inl (w.2.1 1, 3, .inl (fun _ => 0))), (q2, .inl (w.2.1 1, 5, .inl (fun _ => 0))), (q3, .inl (w.2.1 1, 5, .inl (fun _ => 0))), (q4, .inl (w.2.1 1, 5, .inl (fun _ => 0))), (q5, .inl (w.2.1 1, 5, .inl (fun _ => 0))), (q6, .inl (w.2.1 1, 160, .inl mA6_2)), (q7, .inl (w.2.1 1, 1200, .inl (fun _ => 0))), (q8, .inl (w.2.1 1, 24, .inl (fun _ => 0))), (q9, .inl (w.2.1 1, 14, .inl (fun _ => 0))), (q10, .inl (w.2.1 1, 4, .inl mA10_4)), (q15, .inl (w.2.1 1, 4, .inl (fun _ => 0))), (q16, .inl (w.2.1 1, 160, .inl (fun _ => 0))), (q17, .inl (w.2.1 1, 29, .inl mA17_29)), (q47, .inl (w.2.1 1, 96, .inl mA47_96)), (q144, .inl (w.2.1 1, 200, .inl (fun _ => 0))), (q145, .inl (w.2.1 1, 200, .inl (fun _ => 0))), (q146, .inl (w.2.1 1, 6, .inl (fun _ => 0))), (q147, .inl (w.2.1 1, 30, .inl (fun _ => 0))), (q148, .inl (w.2.1 1, 5, .inl (fun _ => 0)))]) E rfl (vp_in_nI (n := 1) (by decide) (by decide)) rfl rfl dX12_init_926 ?_
  refine yi_iinc (v := 2) (lv' := [(1, .int 2), (0, .ref h0)]) E dX12_init_927 0 rfl (by decide) (by decide) rfl ?_
  refine yi_goto (tgt := 909) E dX12_init_930 (by decide) ?_
  refine yi_iload_n E dX12_init_909 0 rfl ?_
  refine yi_bipush (v := 29) E dX12_init_910 (by decide) ?_
  refine yi_icmp_ge (tgt := 933) E dX12_init_912 (by decide) (fun h => absurd h (by decide)) (fun _ => ?_)
  refine yi_aload_n E dX12_init_915 1 rfl ?_
  refine yi_get (q := 0) (ci := 12) (k := 7) (N := 36) (C := RX12) (T := TX12) (v := .ref q6) E rfl rfl wu_X12 (by decide) wm_502 rfl dX12_init_916 ?_
  refine yi_iload_n E dX12_init_919 0 rfl ?_
  refine yi_aload_n E dX12_init_920 1 rfl ?_
  refine yi_get (q := 0) (ci := 12) (k := 20) (N := 36) (C := RX12) (T := TX12) (v := .ref q17) E rfl rfl wu_X12 (by decide) wm_753 rfl dX12_init_921 ?_
  refine yi_iload_n E dX12_init_924 0 rfl ?_
  refine yi_iald (q := 13) (v := mA17_29 2) E rfl (vp_in_nI (n := 2) (by decide) (by decide)) rfl dX12_init_925 ?_
  refine yi_iastc (q := 6) (f' := mA6_3) (ws' := [(h0, .inr (12, [.ref q1, .int 0, .int 0, .ref q2, .ref q3, .ref q4, .ref q5, .ref q6, .int 0, .ref q7, .ref q8, .int 0, .int 0, .int 0, .int 0, .int 0, .ref q9, .ref q10, .ref q15, .ref q16, .ref q17, .int 0, .int 0, .int 0, .int 0, .ref q47, .ref q144, .int 0, .int 0, .int 0, .ref q145, .ref q146, .int 0, .int 0, .ref q147, .ref q148])), (q1, .inl (w.2.1 1, 3, .inl (fun _ => 0))), (q2, .inl (w.2.1 1, 5, .inl (fun _ => 0))), (q3, .inl (w.2.1 1, 5, .inl (fun _ => 0))), (q4, .inl (w.2.1 1, 5, .inl (fun _ => 0))), (q5, .inl (w.2.1 1, 5, .inl (fun _ => 0))), (q6, .inl (w.2.1 1, 160, .inl mA6_3)), (q7, .inl (w.2.1 1, 1200, .inl (fun _ => 0))), (q8, .inl (w.2.1 1, 24, .inl (fun _ => 0))), (q9, .inl (w.2.1 1, 14, .inl (fun _ => 0))), (q10, .inl (w.2.1 1, 4, .inl mA10_4)), (q15, .inl (w.2.1 1, 4, .inl (fun _ => 0))), (q16, .inl (w.2.1 1, 160, .inl (fun _ => 0))), (q17, .inl (w.2.1 1, 29, .inl mA17_29)), (q47, .inl (w.2.1 1, 96, .inl mA47_96)), (q144, .inl (w.2.1 1, 200, .inl (fun _ => 0))), (q145, .inl (w.2.1 1, 200, .inl (fun _ => 0))), (q146, .inl (w.2.1 1, 6, .inl (fun _ => 0))), (q147, .inl (w.2.1 1, 30, .inl (fun _ => 0))), (q148, .inl (w.2.1 1, 5, .inl (fun _ => 0)))]) E rfl (vp_in_nI (n := 2) (by decide) (by decide)) rfl rfl dX12_init_926 ?_
  refine yi_iinc (v := 3) (lv' := [(1, .int 3), (0, .ref h0)]) E dX12_init_927 0 rfl (by decide) (by decide) rfl ?_
  refine yi_goto (tgt := 909) E dX12_init_930 (by decide) ?_
  refine yi_iload_n E dX12_init_909 0 rfl ?_
  refine yi_bipush (v := 29) E dX12_init_910 (by decide) ?_
  refine yi_icmp_ge (tgt := 933) E dX12_init_912 (by decide) (fun h => absurd h (by decide)) (fun _ => ?_)
  refine yi_aload_n E dX12_init_915 1 rfl ?_
  refine yi_get (q := 0) (ci := 12) (k := 7) (N := 36) (C := RX12) (T := TX12) (v := .ref q6) E rfl rfl wu_X12 (by decide) wm_502 rfl dX12_init_916 ?_
  refine yi_iload_n E dX12_init_919 0 rfl ?_
  refine yi_aload_n E dX12_init_920 1 rfl ?_
  refine yi_get (q := 0) (ci := 12) (k := 20) (N := 36) (C := RX12) (T := TX12) (v := .ref q17) E rfl rfl wu_X12 (by decide) wm_753 rfl dX12_init_921 ?_
  refine yi_iload_n E dX12_init_924 0 rfl ?_
  refine yi_iald (q := 13) (v := mA17_29 3) E rfl (vp_in_nI (n := 3) (by decide) (by decide)) rfl dX12_init_925 ?_
  refine yi_iastc (q := 6) (f' := mA6_4) (ws' := [(h0, .inr (12, [.ref q1, .int 0, .int 0, .ref q2, .ref q3, .ref q4, .ref q5, .ref q6, .int 0, .ref q7, .ref q8, .int 0, .int 0, .int 0, .int 0, .int 0, .ref q9, .ref q10, .ref q15, .ref q16, .ref q17, .int 0, .int 0, .int 0, .int 0, .ref q47, .ref q144, .int 0, .int 0, .int 0, .ref q145, .ref q146, .int 0, .int 0, .ref q147, .ref q148])), (q1, .inl (w.2.1 1, 3, .inl (fun _ => 0))), (q2, .inl (w.2.1 1, 5, .inl (fun _ => 0))), (q3, .inl (w.2.1 1, 5, .inl (fun _ => 0))), (q4, .inl (w.2.1 1, 5, .inl (fun _ => 0))), (q5, .inl (w.2.1 1, 5, .inl (fun _ => 0))), (q6, .inl (w.2.1 1, 160, .inl mA6_4)), (q7, .inl (w.2.1 1, 1200, .inl (fun _ => 0))), (q8, .inl (w.2.1 1, 24, .inl (fun _ => 0))), (q9, .inl (w.2.1 1, 14, .inl (fun _ => 0))), (q10, .inl (w.2.1 1, 4, .inl mA10_4)), (q15, .inl (w.2.1 1, 4, .inl (fun _ => 0))), (q16, .inl (w.2.1 1, 160, .inl (fun _ => 0))), (q17, .inl (w.2.1 1, 29, .inl mA17_29)), (q47, .inl (w.2.1 1, 96, .inl mA47_96)), (q144, .inl (w.2.1 1, 200, .inl (fun _ => 0))), (q145, .inl (w.2.1 1, 200, .inl (fun _ => 0))), (q146, .inl (w.2.1 1, 6, .inl (fun _ => 0))), (q147, .inl (w.2.1 1, 30, .inl (fun _ => 0))), (q148, .inl (w.2.1 1, 5, .inl (fun _ => 0)))]) E rfl (vp_in_nI (n := 3) (by decide) (by decide)) rfl rfl dX12_init_926 ?_
  refine yi_iinc (v := 4) (lv' := [(1, .int 4), (0, .ref h0)]) E dX12_init_927 0 rfl (by decide) (by decide) rfl ?_
  refine yi_goto (tgt := 909) E dX12_init_930 (by decide) ?_
  refine yi_iload_n E dX12_init_909 0 rfl ?_
  refine yi_bipush (v := 29) E dX12_init_910 (by decide) ?_
  refine yi_icmp_ge (tgt := 933) E dX12_init_912 (by decide) (fun h => absurd h (by decide)) (fun _ => ?_)
  refine yi_aload_n E dX12_init_915 1 rfl ?_
  refine yi_get (q := 0) (ci := 12) (k := 7) (N := 36) (C := RX12) (T := TX12) (v := .ref q6) E rfl rfl wu_X12 (by decide) wm_502 rfl dX12_init_916 ?_
  refine yi_iload_n E dX12_init_919 0 rfl ?_
  refine yi_aload_n E dX12_init_920 1 rfl ?_
  refine yi_get (q := 0) (ci := 12) (k := 20) (N := 36) (C := RX12) (T := TX12) (v := .ref q17) E rfl rfl wu_X12 (by decide) wm_753 rfl dX12_init_921 ?_
  refine yi_iload_n E dX12_init_924 0 rfl ?_
  refine yi_iald (q := 13) (v := mA17_29 4) E rfl (vp_in_nI (n := 4) (by decide) (by decide)) rfl dX12_init_925 ?_
  refine yi_iastc (q := 6) (f' := mA6_5) (ws' := [(h0, .inr (12, [.ref q1, .int 0, .int 0, .ref q2, .ref q3, .ref q4, .ref q5, .ref q6, .int 0, .ref q7, .ref q8, .int 0, .int 0, .int 0, .int 0, .int 0, .ref q9, .ref q10, .ref q15, .ref q16, .ref q17, .int 0, .int 0, .int 0, .int 0, .ref q47, .ref q144, .int 0, .int 0, .int 0, .ref q145, .ref q146, .int 0, .int 0, .ref q147, .ref q148])), (q1, .inl (w.2.1 1, 3, .inl (fun _ => 0))), (q2, .inl (w.2.1 1, 5, .inl (fun _ => 0))), (q3, .inl (w.2.1 1, 5, .inl (fun _ => 0))), (q4, .inl (w.2.1 1, 5, .inl (fun _ => 0))), (q5, .inl (w.2.1 1, 5, .inl (fun _ => 0))), (q6, .inl (w.2.1 1, 160, .inl mA6_5)), (q7, .inl (w.2.1 1, 1200, .inl (fun _ => 0))), (q8, .inl (w.2.1 1, 24, .inl (fun _ => 0))), (q9, .inl (w.2.1 1, 14, .inl (fun _ => 0))), (q10, .inl (w.2.1 1, 4, .inl mA10_4)), (q15, .inl (w.2.1 1, 4, .inl (fun _ => 0))), (q16, .inl (w.2.1 1, 160, .inl (fun _ => 0))), (q17, .inl (w.2.1 1, 29, .inl mA17_29)), (q47, .inl (w.2.1 1, 96, .inl mA47_96)), (q144, .inl (w.2.1 1, 200, .inl (fun _ => 0))), (q145, .inl (w.2.1 1, 200, .inl (fun _ => 0))), (q146, .inl (w.2.1 1, 6, .inl (fun _ => 0))), (q147, .inl (w.2.1 1, 30, .inl (fun _ => 0))), (q148, .inl (w.2.1 1, 5, .inl (fun _ => 0)))]) E rfl (vp_in_nI (n := 4) (by decide) (by decide)) rfl rfl dX12_init_926 ?_
  refine yi_iinc (v := 5) (lv' := [(1, .int 5), (0, .ref h0)]) E dX12_init_927 0 rfl (by decide) (by decide) rfl ?_
  refine yi_goto (tgt := 909) E dX12_init_930 (by decide) ?_
  refine yi_iload_n E dX12_init_909 0 rfl ?_
  refine yi_bipush (v := 29) E dX12_init_910 (by decide) ?_
  refine yi_icmp_ge (tgt := 933) E dX12_init_912 (by decide) (fun h => absurd h (by decide)) (fun _ => ?_)
  refine yi_aload_n E dX12_init_915 1 rfl ?_
  refine yi_get (q := 0) (ci := 12) (k := 7) (N := 36) (C := RX12) (T := TX12) (v := .ref q6) E rfl rfl wu_X12 (by decide) wm_502 rfl dX12_init_916 ?_
  refine yi_iload_n E dX12_init_919 0 rfl ?_
  refine yi_aload_n E dX12_init_920 1 rfl ?_
  refine yi_get (q := 0) (ci := 12) (k := 20) (N := 36) (C := RX12) (T := TX12) (v := .ref q17) E rfl rfl wu_X12 (by decide) wm_753 rfl dX12_init_921 ?_
  refine yi_iload_n E dX12_init_924 0 rfl ?_
  refine yi_iald (q := 13) (v := mA17_29 5) E rfl (vp_in_nI (n := 5) (by decide) (by decide)) rfl dX12_init_925 ?_
  refine yi_iastc (q := 6) (f' := mA6_6) (ws' := [(h0, .inr (12, [.ref q1, .int 0, .int 0, .ref q2, .ref q3, .ref q4, .ref q5, .ref q6, .int 0, .ref q7, .ref q8, .int 0, .int 0, .int 0, .int 0, .int 0, .ref q9, .ref q10, .ref q15, .ref q16, .ref q17, .int 0, .int 0, .int 0, .int 0, .ref q47, .ref q144, .int 0, .int 0, .int 0, .ref q145, .ref q146, .int 0, .int 0, .ref q147, .ref q148])), (q1, .inl (w.2.1 1, 3, .inl (fun _ => 0))), (q2, .inl (w.2.1 1, 5, .inl (fun _ => 0))), (q3, .inl (w.2.1 1, 5, .inl (fun _ => 0))), (q4, .inl (w.2.1 1, 5, .inl (fun _ => 0))), (q5, .inl (w.2.1 1, 5, .inl (fun _ => 0))), (q6, .inl (w.2.1 1, 160, .inl mA6_6)), (q7, .inl (w.2.1 1, 1200, .inl (fun _ => 0))), (q8, .inl (w.2.1 1, 24, .inl (fun _ => 0))), (q9, .inl (w.2.1 1, 14, .inl (fun _ => 0))), (q10, .inl (w.2.1 1, 4, .inl mA10_4)), (q15, .inl (w.2.1 1, 4, .inl (fun _ => 0))), (q16, .inl (w.2.1 1, 160, .inl (fun _ => 0))), (q17, .inl (w.2.1 1, 29, .inl mA17_29)), (q47, .inl (w.2.1 1, 96, .inl mA47_96)), (q144, .inl (w.2.1 1, 200, .inl (fun _ => 0))), (q145, .inl (w.2.1 1, 200, .inl (fun _ => 0))), (q146, .inl (w.2.1 1, 6, .inl (fun _ => 0))), (q147, .inl (w.2.1 1, 30, .inl (fun _ => 0))), (q148, .inl (w.2.1 1, 5, .inl (fun _ => 0)))]) E rfl (vp_in_nI (n := 5) (by decide) (by decide)) rfl rfl dX12_init_926 ?_
  refine yi_iinc (v := 6) (lv' := [(1, .int 6), (0, .ref h0)]) E dX12_init_927 0 rfl (by decide) (by decide) rfl ?_
  refine yi_goto (tgt := 909) E dX12_init_930 (by decide) ?_
  refine yi_iload_n E dX12_init_909 0 rfl ?_
  refine yi_bipush (v := 29) E dX12_init_910 (by decide) ?_
  refine yi_icmp_ge (tgt := 933) E dX12_init_912 (by decide) (fun h => absurd h (by decide)) (fun _ => ?_)
  refine yi_aload_n E dX12_init_915 1 rfl ?_
  refine yi_get (q := 0) (ci := 12) (k := 7) (N := 36) (C := RX12) (T := TX12) (v := .ref q6) E rfl rfl wu_X12 (by decide) wm_502 rfl dX12_init_916 ?_
  refine yi_iload_n E dX12_init_919 0 rfl ?_
  refine yi_aload_n E dX12_init_920 1 rfl ?_
  refine yi_get (q := 0) (ci := 12) (k := 20) (N := 36) (C := RX12) (T := TX12) (v := .ref q17) E rfl rfl wu_X12 (by decide) wm_753 rfl dX12_init_921 ?_
  refine yi_iload_n E dX12_init_924 0 rfl ?_
  refine yi_iald (q := 13) (v := mA17_29 6) E rfl (vp_in_nI (n := 6) (by decide) (by decide)) rfl dX12_init_925 ?_
  refine yi_iastc (q := 6) (f' := mA6_7) (ws' := [(h0, .inr (12, [.ref q1, .int 0, .int 0, .ref q2, .ref q3, .ref q4, .ref q5, .ref q6, .int 0, .ref q7, .ref q8, .int 0, .int 0, .int 0, .int 0, .int 0, .ref q9, .ref q10, .ref q15, .ref q16, .ref q17, .int 0, .int 0, .int 0, .int 0, .ref q47, .ref q144, .int 0, .int 0, .int 0, .ref q145, .ref q146, .int 0, .int 0, .ref q147, .ref q148])), (q1, .inl (w.2.1 1, 3, .inl (fun _ => 0))), (q2, .inl (w.2.1 1, 5, .inl (fun _ => 0))), (q3, .inl (w.2.1 1, 5, .inl (fun _ => 0))), (q4, .inl (w.2.1 1, 5, .inl (fun _ => 0))), (q5, .inl (w.2.1 1, 5, .inl (fun _ => 0))), (q6, .inl (w.2.1 1, 160, .inl mA6_7)), (q7, .inl (w.2.1 1, 1200, .inl (fun _ => 0))), (q8, .inl (w.2.1 1, 24, .inl (fun _ => 0))), (q9, .inl (w.2.1 1, 14, .inl (fun _ => 0))), (q10, .inl (w.2.1 1, 4, .inl mA10_4)), (q15, .inl (w.2.1 1, 4, .inl (fun _ => 0))), (q16, .inl (w.2.1 1, 160, .inl (fun _ => 0))), (q17, .inl (w.2.1 1, 29, .inl mA17_29)), (q47, .inl (w.2.1 1, 96, .inl mA47_96)), (q144, .inl (w.2.1 1, 200, .inl (fun _ => 0))), (q145, .inl (w.2.1 1, 200, .inl (fun _ => 0))), (q146, .inl (w.2.1 1, 6, .inl (fun _ => 0))), (q147, .inl (w.2.1 1, 30, .inl (fun _ => 0))), (q148, .inl (w.2.1 1, 5, .inl (fun _ => 0)))]) E rfl (vp_in_nI (n := 6) (by decide) (by decide)) rfl rfl dX12_init_926 ?_
  refine yi_iinc (v := 7) (lv' := [(1, .int 7), (0, .ref h0)]) E dX12_init_927 0 rfl (by decide) (by decide) rfl ?_
  refine yi_goto (tgt := 909) E dX12_init_930 (by decide) ?_
  refine yi_iload_n E dX12_init_909 0 rfl ?_
  refine yi_bipush (v := 29) E dX12_init_910 (by decide) ?_
  refine yi_icmp_ge (tgt := 933) E dX12_init_912 (by decide) (fun h => absurd h (by decide)) (fun _ => ?_)
  refine yi_aload_n E dX12_init_915 1 rfl ?_
  refine yi_get (q := 0) (ci := 12) (k := 7) (N := 36) (C := RX12) (T := TX12) (v := .ref q6) E rfl rfl wu_X12 (by decide) wm_502 rfl dX12_init_916 ?_
  refine yi_iload_n E dX12_init_919 0 rfl ?_
  refine yi_aload_n E dX12_init_920 1 rfl ?_
  refine yi_get (q := 0) (ci := 12) (k := 20) (N := 36) (C := RX12) (T := TX12) (v := .ref q17) E rfl rfl wu_X12 (by decide) wm_753 rfl dX12_init_921 ?_
  refine yi_iload_n E dX12_init_924 0 rfl ?_
  refine yi_iald (q := 13) (v := mA17_29 7) E rfl (vp_in_nI (n := 7) (by decide) (by decide)) rfl dX12_init_925 ?_
  refine yi_iastc (q := 6) (f' := mA6_8) (ws' := [(h0, .inr (12, [.ref q1, .int 0, .int 0, .ref q2, .ref q3, .ref q4, .ref q5, .ref q6, .int 0, .ref q7, .ref q8, .int 0, .int 0, .int 0, .int 0, .int 0, .ref q9, .ref q10, .ref q15, .ref q16, .ref q17, .int 0, .int 0, .int 0, .int 0, .ref q47, .ref q144, .int 0, .int 0, .int 0, .ref q145, .ref q146, .int 0, .int 0, .ref q147, .ref q148])), (q1, .inl (w.2.1 1, 3, .inl (fun _ => 0))), (q2, .inl (w.2.1 1, 5, .inl (fun _ => 0))), (q3, .inl (w.2.1 1, 5, .inl (fun _ => 0))), (q4, .inl (w.2.1 1, 5, .inl (fun _ => 0))), (q5, .inl (w.2.1 1, 5, .inl (fun _ => 0))), (q6, .inl (w.2.1 1, 160, .inl mA6_8)), (q7, .inl (w.2.1 1, 1200, .inl (fun _ => 0))), (q8, .inl (w.2.1 1, 24, .inl (fun _ => 0))), (q9, .inl (w.2.1 1, 14, .inl (fun _ => 0))), (q10, .inl (w.2.1 1, 4, .inl mA10_4)), (q15, .inl (w.2.1 1, 4, .inl (fun _ => 0))), (q16, .inl (w.2.1 1, 160, .inl (fun _ => 0))), (q17, .inl (w.2.1 1, 29, .inl mA17_29)), (q47, .inl (w.2.1 1, 96, .inl mA47_96)), (q144, .inl (w.2.1 1, 200, .inl (fun _ => 0))), (q145, .inl (w.2.1 1, 200, .inl (fun _ => 0))), (q146, .inl (w.2.1 1, 6, .inl (fun _ => 0))), (q147, .inl (w.2.1 1, 30, .inl (fun _ => 0))), (q148, .inl (w.2.1 1, 5, .inl (fun _ => 0)))]) E rfl (vp_in_nI (n := 7) (by decide) (by decide)) rfl rfl dX12_init_926 ?_
  refine yi_iinc (v := 8) (lv' := [(1, .int 8), (0, .ref h0)]) E dX12_init_927 0 rfl (by decide) (by decide) rfl ?_
  refine yi_goto (tgt := 909) E dX12_init_930 (by decide) ?_
  refine yi_iload_n E dX12_init_909 0 rfl ?_
  refine yi_bipush (v := 29) E dX12_init_910 (by decide) ?_
  refine yi_icmp_ge (tgt := 933) E dX12_init_912 (by decide) (fun h => absurd h (by decide)) (fun _ => ?_)
  refine yi_aload_n E dX12_init_915 1 rfl ?_
  refine yi_get (q := 0) (ci := 12) (k := 7) (N := 36) (C := RX12) (T := TX12) (v := .ref q6) E rfl rfl wu_X12 (by decide) wm_502 rfl dX12_init_916 ?_
  refine yi_iload_n E dX12_init_919 0 rfl ?_
  refine yi_aload_n E dX12_init_920 1 rfl ?_
  refine yi_get (q := 0) (ci := 12) (k := 20) (N := 36) (C := RX12) (T := TX12) (v := .ref q17) E rfl rfl wu_X12 (by decide) wm_753 rfl dX12_init_921 ?_
  refine yi_iload_n E dX12_init_924 0 rfl ?_
  refine yi_iald (q := 13) (v := mA17_29 8) E rfl (vp_in_nI (n := 8) (by decide) (by decide)) rfl dX12_init_925 ?_
  refine yi_iastc (q := 6) (f' := mA6_9) (ws' := [(h0, .inr (12, [.ref q1, .int 0, .int 0, .ref q2, .ref q3, .ref q4, .ref q5, .ref q6, .int 0, .ref q7, .ref q8, .int 0, .int 0, .int 0, .int 0, .int 0, .ref q9, .ref q10, .ref q15, .ref q16, .ref q17, .int 0, .int 0, .int 0, .int 0, .ref q47, .ref q144, .int 0, .int 0, .int 0, .ref q145, .ref q146, .int 0, .int 0, .ref q147, .ref q148])), (q1, .inl (w.2.1 1, 3, .inl (fun _ => 0))), (q2, .inl (w.2.1 1, 5, .inl (fun _ => 0))), (q3, .inl (w.2.1 1, 5, .inl (fun _ => 0))), (q4, .inl (w.2.1 1, 5, .inl (fun _ => 0))), (q5, .inl (w.2.1 1, 5, .inl (fun _ => 0))), (q6, .inl (w.2.1 1, 160, .inl mA6_9)), (q7, .inl (w.2.1 1, 1200, .inl (fun _ => 0))), (q8, .inl (w.2.1 1, 24, .inl (fun _ => 0))), (q9, .inl (w.2.1 1, 14, .inl (fun _ => 0))), (q10, .inl (w.2.1 1, 4, .inl mA10_4)), (q15, .inl (w.2.1 1, 4, .inl (fun _ => 0))), (q16, .inl (w.2.1 1, 160, .inl (fun _ => 0))), (q17, .inl (w.2.1 1, 29, .inl mA17_29)), (q47, .inl (w.2.1 1, 96, .inl mA47_96)), (q144, .inl (w.2.1 1, 200, .inl (fun _ => 0))), (q145, .inl (w.2.1 1, 200, .inl (fun _ => 0))), (q146, .inl (w.2.1 1, 6, .inl (fun _ => 0))), (q147, .inl (w.2.1 1, 30, .inl (fun _ => 0))), (q148, .inl (w.2.1 1, 5, .inl (fun _ => 0)))]) E rfl (vp_in_nI (n := 8) (by decide) (by decide)) rfl rfl dX12_init_926 ?_
  refine yi_iinc (v := 9) (lv' := [(1, .int 9), (0, .ref h0)]) E dX12_init_927 0 rfl (by decide) (by decide) rfl ?_
  refine yi_goto (tgt := 909) E dX12_init_930 (by decide) ?_
  refine yi_iload_n E dX12_init_909 0 rfl ?_
  refine yi_bipush (v := 29) E dX12_init_910 (by decide) ?_
  refine yi_icmp_ge (tgt := 933) E dX12_init_912 (by decide) (fun h => absurd h (by decide)) (fun _ => ?_)
  refine yi_aload_n E dX12_init_915 1 rfl ?_
  refine yi_get (q := 0) (ci := 12) (k := 7) (N := 36) (C := RX12) (T := TX12) (v := .ref q6) E rfl rfl wu_X12 (by decide) wm_502 rfl dX12_init_916 ?_
  refine yi_iload_n E dX12_init_919 0 rfl ?_
  refine yi_aload_n E dX12_init_920 1 rfl ?_
  refine yi_get (q := 0) (ci := 12) (k := 20) (N := 36) (C := RX12) (T := TX12) (v := .ref q17) E rfl rfl wu_X12 (by decide) wm_753 rfl dX12_init_921 ?_
  refine yi_iload_n E dX12_init_924 0 rfl ?_
  refine yi_iald (q := 13) (v := mA17_29 9) E rfl (vp_in_nI (n := 9) (by decide) (by decide)) rfl dX12_init_925 ?_
  refine yi_iastc (q := 6) (f' := mA6_10) (ws' := [(h0, .inr (12, [.ref q1, .int 0, .int 0, .ref q2, .ref q3, .ref q4, .ref q5, .ref q6, .int 0, .ref q7, .ref q8, .int 0, .int 0, .int 0, .int 0, .int 0, .ref q9, .ref q10, .ref q15, .ref q16, .ref q17, .int 0, .int 0, .int 0, .int 0, .ref q47, .ref q144, .int 0, .int 0, .int 0, .ref q145, .ref q146, .int 0, .int 0, .ref q147, .ref q148])), (q1, .inl (w.2.1 1, 3, .inl (fun _ => 0))), (q2, .inl (w.2.1 1, 5, .inl (fun _ => 0))), (q3, .inl (w.2.1 1, 5, .inl (fun _ => 0))), (q4, .inl (w.2.1 1, 5, .inl (fun _ => 0))), (q5, .inl (w.2.1 1, 5, .inl (fun _ => 0))), (q6, .inl (w.2.1 1, 160, .inl mA6_10)), (q7, .inl (w.2.1 1, 1200, .inl (fun _ => 0))), (q8, .inl (w.2.1 1, 24, .inl (fun _ => 0))), (q9, .inl (w.2.1 1, 14, .inl (fun _ => 0))), (q10, .inl (w.2.1 1, 4, .inl mA10_4)), (q15, .inl (w.2.1 1, 4, .inl (fun _ => 0))), (q16, .inl (w.2.1 1, 160, .inl (fun _ => 0))), (q17, .inl (w.2.1 1, 29, .inl mA17_29)), (q47, .inl (w.2.1 1, 96, .inl mA47_96)), (q144, .inl (w.2.1 1, 200, .inl (fun _ => 0))), (q145, .inl (w.2.1 1, 200, .inl (fun _ => 0))), (q146, .inl (w.2.1 1, 6, .inl (fun _ => 0))), (q147, .inl (w.2.1 1, 30, .inl (fun _ => 0))), (q148, .inl (w.2.1 1, 5, .inl (fun _ => 0)))]) E rfl (vp_in_nI (n := 9) (by decide) (by decide)) rfl rfl dX12_init_926 ?_
  refine yi_iinc (v := 10) (lv' := [(1, .int 10), (0, .ref h0)]) E dX12_init_927 0 rfl (by decide) (by decide) rfl ?_
  refine yi_goto (tgt := 909) E dX12_init_930 (by decide) ?_
  refine yi_iload_n E dX12_init_909 0 rfl ?_
  refine yi_bipush (v := 29) E dX12_init_910 (by decide) ?_
  refine yi_icmp_ge (tgt := 933) E dX12_init_912 (by decide) (fun h => absurd h (by decide)) (fun _ => ?_)
  refine yi_aload_n E dX12_init_915 1 rfl ?_
  refine yi_get (q := 0) (ci := 12) (k := 7) (N := 36) (C := RX12) (T := TX12) (v := .ref q6) E rfl rfl wu_X12 (by decide) wm_502 rfl dX12_init_916 ?_
  refine yi_iload_n E dX12_init_919 0 rfl ?_
  refine yi_aload_n E dX12_init_920 1 rfl ?_
  refine yi_get (q := 0) (ci := 12) (k := 20) (N := 36) (C := RX12) (T := TX12) (v := .ref q17) E rfl rfl wu_X12 (by decide) wm_753 rfl dX12_init_921 ?_
  refine yi_iload_n E dX12_init_924 0 rfl ?_
  refine yi_iald (q := 13) (v := mA17_29 10) E rfl (vp_in_nI (n := 10) (by decide) (by decide)) rfl dX12_init_925 ?_
  refine yi_iastc (q := 6) (f' := mA6_11) (ws' := [(h0, .inr (12, [.ref q1, .int 0, .int 0, .ref q2, .ref q3, .ref q4, .ref q5, .ref q6, .int 0, .ref q7, .ref q8, .int 0, .int 0, .int 0, .int 0, .int 0, .ref q9, .ref q10, .ref q15, .ref q16, .ref q17, .int 0, .int 0, .int 0, .int 0, .ref q47, .ref q144, .int 0, .int 0, .int 0, .ref q145, .ref q146, .int 0, .int 0, .ref q147, .ref q148])), (q1, .inl (w.2.1 1, 3, .inl (fun _ => 0))), (q2, .inl (w.2.1 1, 5, .inl (fun _ => 0))), (q3, .inl (w.2.1 1, 5, .inl (fun _ => 0))), (q4, .inl (w.2.1 1, 5, .inl (fun _ => 0))), (q5, .inl (w.2.1 1, 5, .inl (fun _ => 0))), (q6, .inl (w.2.1 1, 160, .inl mA6_11)), (q7, .inl (w.2.1 1, 1200, .inl (fun _ => 0))), (q8, .inl (w.2.1 1, 24, .inl (fun _ => 0))), (q9, .inl (w.2.1 1, 14, .inl (fun _ => 0))), (q10, .inl (w.2.1 1, 4, .inl mA10_4)), (q15, .inl (w.2.1 1, 4, .inl (fun _ => 0))), (q16, .inl (w.2.1 1, 160, .inl (fun _ => 0))), (q17, .inl (w.2.1 1, 29, .inl mA17_29)), (q47, .inl (w.2.1 1, 96, .inl mA47_96)), (q144, .inl (w.2.1 1, 200, .inl (fun _ => 0))), (q145, .inl (w.2.1 1, 200, .inl (fun _ => 0))), (q146, .inl (w.2.1 1, 6, .inl (fun _ => 0))), (q147, .inl (w.2.1 1, 30, .inl (fun _ => 0))), (q148, .inl (w.2.1 1, 5, .inl (fun _ => 0)))]) E rfl (vp_in_nI (n := 10) (by decide) (by decide)) rfl rfl dX12_init_926 ?_
  refine yi_iinc (v := 11) (lv' := [(1, .int 11), (0, .ref h0)]) E dX12_init_927 0 rfl (by decide) (by decide) rfl ?_
  refine yi_goto (tgt := 909) E dX12_init_930 (by decide) ?_
  refine yi_iload_n E dX12_init_909 0 rfl ?_
  refine yi_bipush (v := 29) E dX12_init_910 (by decide) ?_
  refine yi_icmp_ge (tgt := 933) E dX12_init_912 (by decide) (fun h => absurd h (by decide)) (fun _ => ?_)
  refine yi_aload_n E dX12_init_915 1 rfl ?_
  refine yi_get (q := 0) (ci := 12) (k := 7) (N := 36) (C := RX12) (T := TX12) (v := .ref q6) E rfl rfl wu_X12 (by decide) wm_502 rfl dX12_init_916 ?_
  refine yi_iload_n E dX12_init_919 0 rfl ?_
  refine yi_aload_n E dX12_init_920 1 rfl ?_
  refine yi_get (q := 0) (ci := 12) (k := 20) (N := 36) (C := RX12) (T := TX12) (v := .ref q17) E rfl rfl wu_X12 (by decide) wm_753 rfl dX12_init_921 ?_
  refine yi_iload_n E dX12_init_924 0 rfl ?_
  refine yi_iald (q := 13) (v := mA17_29 11) E rfl (vp_in_nI (n := 11) (by decide) (by decide)) rfl dX12_init_925 ?_
  refine yi_iastc (q := 6) (f' := mA6_12) (ws' := [(h0, .inr (12, [.ref q1, .int 0, .int 0, .ref q2, .ref q3, .ref q4, .ref q5, .ref q6, .int 0, .ref q7, .ref q8, .int 0, .int 0, .int 0, .int 0, .int 0, .ref q9, .ref q10, .ref q15, .ref q16, .ref q17, .int 0, .int 0, .int 0, .int 0, .ref q47, .ref q144, .int 0, .int 0, .int 0, .ref q145, .ref q146, .int 0, .int 0, .ref q147, .ref q148])), (q1, .inl (w.2.1 1, 3, .inl (fun _ => 0))), (q2, .inl (w.2.1 1, 5, .inl (fun _ => 0))), (q3, .inl (w.2.1 1, 5, .inl (fun _ => 0))), (q4, .inl (w.2.1 1, 5, .inl (fun _ => 0))), (q5, .inl (w.2.1 1, 5, .inl (fun _ => 0))), (q6, .inl (w.2.1 1, 160, .inl mA6_12)), (q7, .inl (w.2.1 1, 1200, .inl (fun _ => 0))), (q8, .inl (w.2.1 1, 24, .inl (fun _ => 0))), (q9, .inl (w.2.1 1, 14, .inl (fun _ => 0))), (q10, .inl (w.2.1 1, 4, .inl mA10_4)), (q15, .inl (w.2.1 1, 4, .inl (fun _ => 0))), (q16, .inl (w.2.1 1, 160, .inl (fun _ => 0))), (q17, .inl (w.2.1 1, 29, .inl mA17_29)), (q47, .inl (w.2.1 1, 96, .inl mA47_96)), (q144, .inl (w.2.1 1, 200, .inl (fun _ => 0))), (q145, .inl (w.2.1 1, 200, .inl (fun _ => 0))), (q146, .inl (w.2.1 1, 6, .inl (fun _ => 0))), (q147, .inl (w.2.1 1, 30, .inl (fun _ => 0))), (q148, .inl (w.2.1 1, 5, .inl (fun _ => 0)))]) E rfl (vp_in_nI (n := 11) (by decide) (by decide)) rfl rfl dX12_init_926 ?_
  refine yi_iinc (v := 12) (lv' := [(1, .int 12), (0, .ref h0)]) E dX12_init_927 0 rfl (by decide) (by decide) rfl ?_
  refine yi_goto (tgt := 909) E dX12_init_930 (by decide) ?_
  refine yi_iload_n E dX12_init_909 0 rfl ?_
  refine yi_bipush (v := 29) E dX12_init_910 (by decide) ?_
  refine yi_icmp_ge (tgt := 933) E dX12_init_912 (by decide) (fun h => absurd h (by decide)) (fun _ => ?_)
  refine yi_aload_n E dX12_init_915 1 rfl ?_
  refine yi_get (q := 0) (ci := 12) (k := 7) (N := 36) (C := RX12) (T := TX12) (v := .ref q6) E rfl rfl wu_X12 (by decide) wm_502 rfl dX12_init_916 ?_
  refine yi_iload_n E dX12_init_919 0 rfl ?_
  refine yi_aload_n E dX12_init_920 1 rfl ?_
  refine yi_get (q := 0) (ci := 12) (k := 20) (N := 36) (C := RX12) (T := TX12) (v := .ref q17) E rfl rfl wu_X12 (by decide) wm_753 rfl dX12_init_921 ?_
  refine yi_iload_n E dX12_init_924 0 rfl ?_
  refine yi_iald (q := 13) (v := mA17_29 12) E rfl (vp_in_nI (n := 12) (by decide) (by decide)) rfl dX12_init_925 ?_
  refine yi_iastc (q := 6) (f' := mA6_13) (ws' := [(h0, .inr (12, [.ref q1, .int 0, .int 0, .ref q2, .ref q3, .ref q4, .ref q5, .ref q6, .int 0, .ref q7, .ref q8, .int 0, .int 0, .int 0, .int 0, .int 0, .ref q9, .ref q10, .ref q15, .ref q16, .ref q17, .int 0, .int 0, .int 0, .int 0, .ref q47, .ref q144, .int 0, .int 0, .int 0, .ref q145, .ref q146, .int 0, .int 0, .ref q147, .ref q148])), (q1, .inl (w.2.1 1, 3, .inl (fun _ => 0))), (q2, .inl (w.2.1 1, 5, .inl (fun _ => 0))), (q3, .inl (w.2.1 1, 5, .inl (fun _ => 0))), (q4, .inl (w.2.1 1, 5, .inl (fun _ => 0))), (q5, .inl (w.2.1 1, 5, .inl (fun _ => 0))), (q6, .inl (w.2.1 1, 160, .inl mA6_13)), (q7, .inl (w.2.1 1, 1200, .inl (fun _ => 0))), (q8, .inl (w.2.1 1, 24, .inl (fun _ => 0))), (q9, .inl (w.2.1 1, 14, .inl (fun _ => 0))), (q10, .inl (w.2.1 1, 4, .inl mA10_4)), (q15, .inl (w.2.1 1, 4, .inl (fun _ => 0))), (q16, .inl (w.2.1 1, 160, .inl (fun _ => 0))), (q17, .inl (w.2.1 1, 29, .inl mA17_29)), (q47, .inl (w.2.1 1, 96, .inl mA47_96)), (q144, .inl (w.2.1 1, 200, .inl (fun _ => 0))), (q145, .inl (w.2.1 1, 200, .inl (fun _ => 0))), (q146, .inl (w.2.1 1, 6, .inl (fun _ => 0))), (q147, .inl (w.2.1 1, 30, .inl (fun _ => 0))), (q148, .inl (w.2.1 1, 5, .inl (fun _ => 0)))]) E rfl (vp_in_nI (n := 12) (by decide) (by decide)) rfl rfl dX12_init_926 ?_
  refine yi_iinc (v := 13) (lv' := [(1, .int 13), (0, .ref h0)]) E dX12_init_927 0 rfl (by decide) (by decide) rfl ?_
  refine yi_goto (tgt := 909) E dX12_init_930 (by decide) ?_
  refine yi_iload_n E dX12_init_909 0 rfl ?_
  refine yi_bipush (v := 29) E dX12_init_910 (by decide) ?_
  refine yi_icmp_ge (tgt := 933) E dX12_init_912 (by decide) (fun h => absurd h (by decide)) (fun _ => ?_)
  refine yi_aload_n E dX12_init_915 1 rfl ?_
  refine yi_get (q := 0) (ci := 12) (k := 7) (N := 36) (C := RX12) (T := TX12) (v := .ref q6) E rfl rfl wu_X12 (by decide) wm_502 rfl dX12_init_916 ?_
  refine yi_iload_n E dX12_init_919 0 rfl ?_
  refine yi_aload_n E dX12_init_920 1 rfl ?_
  refine yi_get (q := 0) (ci := 12) (k := 20) (N := 36) (C := RX12) (T := TX12) (v := .ref q17) E rfl rfl wu_X12 (by decide) wm_753 rfl dX12_init_921 ?_
  refine yi_iload_n E dX12_init_924 0 rfl ?_
  refine yi_iald (q := 13) (v := mA17_29 13) E rfl (vp_in_nI (n := 13) (by decide) (by decide)) rfl dX12_init_925 ?_
  refine yi_iastc (q := 6) (f' := mA6_14) (ws' := [(h0, .inr (12, [.ref q1, .int 0, .int 0, .ref q2, .ref q3, .ref q4, .ref q5, .ref q6, .int 0, .ref q7, .ref q8, .int 0, .int 0, .int 0, .int 0, .int 0, .ref q9, .ref q10, .ref q15, .ref q16, .ref q17, .int 0, .int 0, .int 0, .int 0, .ref q47, .ref q144, .int 0, .int 0, .int 0, .ref q145, .ref q146, .int 0, .int 0, .ref q147, .ref q148])), (q1, .inl (w.2.1 1, 3, .inl (fun _ => 0))), (q2, .inl (w.2.1 1, 5, .inl (fun _ => 0))), (q3, .inl (w.2.1 1, 5, .inl (fun _ => 0))), (q4, .inl (w.2.1 1, 5, .inl (fun _ => 0))), (q5, .inl (w.2.1 1, 5, .inl (fun _ => 0))), (q6, .inl (w.2.1 1, 160, .inl mA6_14)), (q7, .inl (w.2.1 1, 1200, .inl (fun _ => 0))), (q8, .inl (w.2.1 1, 24, .inl (fun _ => 0))), (q9, .inl (w.2.1 1, 14, .inl (fun _ => 0))), (q10, .inl (w.2.1 1, 4, .inl mA10_4)), (q15, .inl (w.2.1 1, 4, .inl (fun _ => 0))), (q16, .inl (w.2.1 1, 160, .inl (fun _ => 0))), (q17, .inl (w.2.1 1, 29, .inl mA17_29)), (q47, .inl (w.2.1 1, 96, .inl mA47_96)), (q144, .inl (w.2.1 1, 200, .inl (fun _ => 0))), (q145, .inl (w.2.1 1, 200, .inl (fun _ => 0))), (q146, .inl (w.2.1 1, 6, .inl (fun _ => 0))), (q147, .inl (w.2.1 1, 30, .inl (fun _ => 0))), (q148, .inl (w.2.1 1, 5, .inl (fun _ => 0)))]) E rfl (vp_in_nI (n := 13) (by decide) (by decide)) rfl rfl dX12_init_926 ?_
  refine yi_iinc (v := 14) (lv' := [(1, .int 14), (0, .ref h0)]) E dX12_init_927 0 rfl (by decide) (by decide) rfl ?_
  refine yi_goto (tgt := 909) E dX12_init_930 (by decide) ?_
  refine yi_iload_n E dX12_init_909 0 rfl ?_
  refine yi_bipush (v := 29) E dX12_init_910 (by decide) ?_
  refine yi_icmp_ge (tgt := 933) E dX12_init_912 (by decide) (fun h => absurd h (by decide)) (fun _ => ?_)
  refine yi_aload_n E dX12_init_915 1 rfl ?_
  refine yi_get (q := 0) (ci := 12) (k := 7) (N := 36) (C := RX12) (T := TX12) (v := .ref q6) E rfl rfl wu_X12 (by decide) wm_502 rfl dX12_init_916 ?_
  refine yi_iload_n E dX12_init_919 0 rfl ?_
  refine yi_aload_n E dX12_init_920 1 rfl ?_
  refine yi_get (q := 0) (ci := 12) (k := 20) (N := 36) (C := RX12) (T := TX12) (v := .ref q17) E rfl rfl wu_X12 (by decide) wm_753 rfl dX12_init_921 ?_
  refine yi_iload_n E dX12_init_924 0 rfl ?_
  refine yi_iald (q := 13) (v := mA17_29 14) E rfl (vp_in_nI (n := 14) (by decide) (by decide)) rfl dX12_init_925 ?_
  refine yi_iastc (q := 6) (f' := mA6_15) (ws' := [(h0, .inr (12, [.ref q1, .int 0, .int 0, .ref q2, .ref q3, .ref q4, .ref q5, .ref q6, .int 0, .ref q7, .ref q8, .int 0, .int 0, .int 0, .int 0, .int 0, .ref q9, .ref q10, .ref q15, .ref q16, .ref q17, .int 0, .int 0, .int 0, .int 0, .ref q47, .ref q144, .int 0, .int 0, .int 0, .ref q145, .ref q146, .int 0, .int 0, .ref q147, .ref q148])), (q1, .inl (w.2.1 1, 3, .inl (fun _ => 0))), (q2, .inl (w.2.1 1, 5, .inl (fun _ => 0))), (q3, .inl (w.2.1 1, 5, .inl (fun _ => 0))), (q4, .inl (w.2.1 1, 5, .inl (fun _ => 0))), (q5, .inl (w.2.1 1, 5, .inl (fun _ => 0))), (q6, .inl (w.2.1 1, 160, .inl mA6_15)), (q7, .inl (w.2.1 1, 1200, .inl (fun _ => 0))), (q8, .inl (w.2.1 1, 24, .inl (fun _ => 0))), (q9, .inl (w.2.1 1, 14, .inl (fun _ => 0))), (q10, .inl (w.2.1 1, 4, .inl mA10_4)), (q15, .inl (w.2.1 1, 4, .inl (fun _ => 0))), (q16, .inl (w.2.1 1, 160, .inl (fun _ => 0))), (q17, .inl (w.2.1 1, 29, .inl mA17_29)), (q47, .inl (w.2.1 1, 96, .inl mA47_96)), (q144, .inl (w.2.1 1, 200, .inl (fun _ => 0))), (q145, .inl (w.2.1 1, 200, .inl (fun _ => 0))), (q146, .inl (w.2.1 1, 6, .inl (fun _ => 0))), (q147, .inl (w.2.1 1, 30, .inl (fun _ => 0))), (q148, .inl (w.2.1 1, 5, .inl (fun _ => 0)))]) E rfl (vp_in_nI (n := 14) (by decide) (by decide)) rfl rfl dX12_init_926 ?_
  refine yi_iinc (v := 15) (lv' := [(1, .int 15), (0, .ref h0)]) E dX12_init_927 0 rfl (by decide) (by decide) rfl ?_
  refine yi_goto (tgt := 909) E dX12_init_930 (by decide) ?_
  refine yi_iload_n E dX12_init_909 0 rfl ?_
  refine yi_bipush (v := 29) E dX12_init_910 (by decide) ?_
  refine yi_icmp_ge (tgt := 933) E dX12_init_912 (by decide) (fun h => absurd h (by decide)) (fun _ => ?_)
  refine yi_aload_n E dX12_init_915 1 rfl ?_
  refine yi_get (q := 0) (ci := 12) (k := 7) (N := 36) (C := RX12) (T := TX12) (v := .ref q6) E rfl rfl wu_X12 (by decide) wm_502 rfl dX12_init_916 ?_
  refine yi_iload_n E dX12_init_919 0 rfl ?_
  refine yi_aload_n E dX12_init_920 1 rfl ?_
  refine yi_get (q := 0) (ci := 12) (k := 20) (N := 36) (C := RX12) (T := TX12) (v := .ref q17) E rfl rfl wu_X12 (by decide) wm_753 rfl dX12_init_921 ?_
  refine yi_iload_n E dX12_init_924 0 rfl ?_
  refine yi_iald (q := 13) (v := mA17_29 15) E rfl (vp_in_nI (n := 15) (by decide) (by decide)) rfl dX12_init_925 ?_
  refine yi_iastc (q := 6) (f' := mA6_16) (ws' := [(h0, .inr (12, [.ref q1, .int 0, .int 0, .ref q2, .ref q3, .ref q4, .ref q5, .ref q6, .int 0, .ref q7, .ref q8, .int 0, .int 0, .int 0, .int 0, .int 0, .ref q9, .ref q10, .ref q15, .ref q16, .ref q17, .int 0, .int 0, .int 0, .int 0, .ref q47, .ref q144, .int 0, .int 0, .int 0, .ref q145, .ref q146, .int 0, .int 0, .ref q147, .ref q148])), (q1, .inl (w.2.1 1, 3, .inl (fun _ => 0))), (q2, .inl (w.2.1 1, 5, .inl (fun _ => 0))), (q3, .inl (w.2.1 1, 5, .inl (fun _ => 0))), (q4, .inl (w.2.1 1, 5, .inl (fun _ => 0))), (q5, .inl (w.2.1 1, 5, .inl (fun _ => 0))), (q6, .inl (w.2.1 1, 160, .inl mA6_16)), (q7, .inl (w.2.1 1, 1200, .inl (fun _ => 0))), (q8, .inl (w.2.1 1, 24, .inl (fun _ => 0))), (q9, .inl (w.2.1 1, 14, .inl (fun _ => 0))), (q10, .inl (w.2.1 1, 4, .inl mA10_4)), (q15, .inl (w.2.1 1, 4, .inl (fun _ => 0))), (q16, .inl (w.2.1 1, 160, .inl (fun _ => 0))), (q17, .inl (w.2.1 1, 29, .inl mA17_29)), (q47, .inl (w.2.1 1, 96, .inl mA47_96)), (q144, .inl (w.2.1 1, 200, .inl (fun _ => 0))), (q145, .inl (w.2.1 1, 200, .inl (fun _ => 0))), (q146, .inl (w.2.1 1, 6, .inl (fun _ => 0))), (q147, .inl (w.2.1 1, 30, .inl (fun _ => 0))), (q148, .inl (w.2.1 1, 5, .inl (fun _ => 0)))]) E rfl (vp_in_nI (n := 15) (by decide) (by decide)) rfl rfl dX12_init_926 ?_
  refine yi_iinc (v := 16) (lv' := [(1, .int 16), (0, .ref h0)]) E dX12_init_927 0 rfl (by decide) (by decide) rfl ?_
  refine yi_goto (tgt := 909) E dX12_init_930 (by decide) ?_
  refine yi_iload_n E dX12_init_909 0 rfl ?_
  refine yi_bipush (v := 29) E dX12_init_910 (by decide) ?_
  refine yi_icmp_ge (tgt := 933) E dX12_init_912 (by decide) (fun h => absurd h (by decide)) (fun _ => ?_)
  refine yi_aload_n E dX12_init_915 1 rfl ?_
  refine yi_get (q := 0) (ci := 12) (k := 7) (N := 36) (C := RX12) (T := TX12) (v := .ref q6) E rfl rfl wu_X12 (by decide) wm_502 rfl dX12_init_916 ?_
  refine yi_iload_n E dX12_init_919 0 rfl ?_
  refine yi_aload_n E dX12_init_920 1 rfl ?_
  refine yi_get (q := 0) (ci := 12) (k := 20) (N := 36) (C := RX12) (T := TX12) (v := .ref q17) E rfl rfl wu_X12 (by decide) wm_753 rfl dX12_init_921 ?_
  refine yi_iload_n E dX12_init_924 0 rfl ?_
  refine yi_iald (q := 13) (v := mA17_29 16) E rfl (vp_in_nI (n := 16) (by decide) (by decide)) rfl dX12_init_925 ?_
  refine yi_iastc (q := 6) (f' := mA6_17) (ws' := [(h0, .inr (12, [.ref q1, .int 0, .int 0, .ref q2, .ref q3, .ref q4, .ref q5, .ref q6, .int 0, .ref q7, .ref q8, .int 0, .int 0, .int 0, .int 0, .int 0, .ref q9, .ref q10, .ref q15, .ref q16, .ref q17, .int 0, .int 0, .int 0, .int 0, .ref q47, .ref q144, .int 0, .int 0, .int 0, .ref q145, .ref q146, .int 0, .int 0, .ref q147, .ref q148])), (q1, .inl (w.2.1 1, 3, .inl (fun _ => 0))), (q2, .inl (w.2.1 1, 5, .inl (fun _ => 0))), (q3, .inl (w.2.1 1, 5, .inl (fun _ => 0))), (q4, .inl (w.2.1 1, 5, .inl (fun _ => 0))), (q5, .inl (w.2.1 1, 5, .inl (fun _ => 0))), (q6, .inl (w.2.1 1, 160, .inl mA6_17)), (q7, .inl (w.2.1 1, 1200, .inl (fun _ => 0))), (q8, .inl (w.2.1 1, 24, .inl (fun _ => 0))), (q9, .inl (w.2.1 1, 14, .inl (fun _ => 0))), (q10, .inl (w.2.1 1, 4, .inl mA10_4)), (q15, .inl (w.2.1 1, 4, .inl (fun _ => 0))), (q16, .inl (w.2.1 1, 160, .inl (fun _ => 0))), (q17, .inl (w.2.1 1, 29, .inl mA17_29)), (q47, .inl (w.2.1 1, 96, .inl mA47_96)), (q144, .inl (w.2.1 1, 200, .inl (fun _ => 0))), (q145, .inl (w.2.1 1, 200, .inl (fun _ => 0))), (q146, .inl (w.2.1 1, 6, .inl (fun _ => 0))), (q147, .inl (w.2.1 1, 30, .inl (fun _ => 0))), (q148, .inl (w.2.1 1, 5, .inl (fun _ => 0)))]) E rfl (vp_in_nI (n := 16) (by decide) (by decide)) rfl rfl dX12_init_926 ?_
  refine yi_iinc (v := 17) (lv' := [(1, .int 17), (0, .ref h0)]) E dX12_init_927 0 rfl (by decide) (by decide) rfl ?_
  refine yi_goto (tgt := 909) E dX12_init_930 (by decide) ?_
  refine yi_iload_n E dX12_init_909 0 rfl ?_
  refine yi_bipush (v := 29) E dX12_init_910 (by decide) ?_
  refine yi_icmp_ge (tgt := 933) E dX12_init_912 (by decide) (fun h => absurd h (by decide)) (fun _ => ?_)
  refine yi_aload_n E dX12_init_915 1 rfl ?_
  refine yi_get (q := 0) (ci := 12) (k := 7) (N := 36) (C := RX12) (T := TX12) (v := .ref q6) E rfl rfl wu_X12 (by decide) wm_502 rfl dX12_init_916 ?_
  refine yi_iload_n E dX12_init_919 0 rfl ?_
  refine yi_aload_n E dX12_init_920 1 rfl ?_
  refine yi_get (q := 0) (ci := 12) (k := 20) (N := 36) (C := RX12) (T := TX12) (v := .ref q17) E rfl rfl wu_X12 (by decide) wm_753 rfl dX12_init_921 ?_
  refine yi_iload_n E dX12_init_924 0 rfl ?_
  refine yi_iald (q := 13) (v := mA17_29 17) E rfl (vp_in_nI (n := 17) (by decide) (by decide)) rfl dX12_init_925 ?_
  refine yi_iastc (q := 6) (f' := mA6_18) (ws' := [(h0, .inr (12, [.ref q1, .int 0, .int 0, .ref q2, .ref q3, .ref q4, .ref q5, .ref q6, .int 0, .ref q7, .ref q8, .int 0, .int 0, .int 0, .int 0, .int 0, .ref q9, .ref q10, .ref q15, .ref q16, .ref q17, .int 0, .int 0, .int 0, .int 0, .ref q47, .ref q144, .int 0, .int 0, .int 0, .ref q145, .ref q146, .int 0, .int 0, .ref q147, .ref q148])), (q1, .inl (w.2.1 1, 3, .inl (fun _ => 0))), (q2, .inl (w.2.1 1, 5, .inl (fun _ => 0))), (q3, .inl (w.2.1 1, 5, .inl (fun _ => 0))), (q4, .inl (w.2.1 1, 5, .inl (fun _ => 0))), (q5, .inl (w.2.1 1, 5, .inl (fun _ => 0))), (q6, .inl (w.2.1 1, 160, .inl mA6_18)), (q7, .inl (w.2.1 1, 1200, .inl (fun _ => 0))), (q8, .inl (w.2.1 1, 24, .inl (fun _ => 0))), (q9, .inl (w.2.1 1, 14, .inl (fun _ => 0))), (q10, .inl (w.2.1 1, 4, .inl mA10_4)), (q15, .inl (w.2.1 1, 4, .inl (fun _ => 0))), (q16, .inl (w.2.1 1, 160, .inl (fun _ => 0))), (q17, .inl (w.2.1 1, 29, .inl mA17_29)), (q47, .inl (w.2.1 1, 96, .inl mA47_96)), (q144, .inl (w.2.1 1, 200, .inl (fun _ => 0))), (q145, .inl (w.2.1 1, 200, .inl (fun _ => 0))), (q146, .inl (w.2.1 1, 6, .inl (fun _ => 0))), (q147, .inl (w.2.1 1, 30, .inl (fun _ => 0))), (q148, .inl (w.2.1 1, 5, .inl (fun _ => 0)))]) E rfl (vp_in_nI (n := 17) (by decide) (by decide)) rfl rfl dX12_init_926 ?_
  refine yi_iinc (v := 18) (lv' := [(1, .int 18), (0, .ref h0)]) E dX12_init_927 0 rfl (by decide) (by decide) rfl ?_
  refine yi_goto (tgt := 909) E dX12_init_930 (by decide) ?_
  refine yi_iload_n E dX12_init_909 0 rfl ?_
  refine yi_bipush (v := 29) E dX12_init_910 (by decide) ?_
  refine yi_icmp_ge (tgt := 933) E dX12_init_912 (by decide) (fun h => absurd h (by decide)) (fun _ => ?_)
  refine yi_aload_n E dX12_init_915 1 rfl ?_
  refine yi_get (q := 0) (ci := 12) (k := 7) (N := 36) (C := RX12) (T := TX12) (v := .ref q6) E rfl rfl wu_X12 (by decide) wm_502 rfl dX12_init_916 ?_
  refine yi_iload_n E dX12_init_919 0 rfl ?_
  refine yi_aload_n E dX12_init_920 1 rfl ?_
  refine yi_get (q := 0) (ci := 12) (k := 20) (N := 36) (C := RX12) (T := TX12) (v := .ref q17) E rfl rfl wu_X12 (by decide) wm_753 rfl dX12_init_921 ?_
  refine yi_iload_n E dX12_init_924 0 rfl ?_
  refine yi_iald (q := 13) (v := mA17_29 18) E rfl (vp_in_nI (n := 18) (by decide) (by decide)) rfl dX12_init_925 ?_
  refine yi_iastc (q := 6) (f' := mA6_19) (ws' := [(h0, .inr (12, [.ref q1, .int 0, .int 0, .ref q2, .ref q3, .ref q4, .ref q5, .ref q6, .int 0, .ref q7, .ref q8, .int 0, .int 0, .int 0, .int 0, .int 0, .ref q9, .ref q10, .ref q15, .ref q16, .ref q17, .int 0, .int 0, .int 0, .int 0, .ref q47, .ref q144, .int 0, .int 0, .int 0, .ref q145, .ref q146, .int 0, .int 0, .ref q147, .ref q148])), (q1, .inl (w.2.1 1, 3, .inl (fun _ => 0))), (q2, .inl (w.2.1 1, 5, .inl (fun _ => 0))), (q3, .inl (w.2.1 1, 5, .inl (fun _ => 0))), (q4, .inl (w.2.1 1, 5, .inl (fun _ => 0))), (q5, .inl (w.2.1 1, 5, .inl (fun _ => 0))), (q6, .inl (w.2.1 1, 160, .inl mA6_19)), (q7, .inl (w.2.1 1, 1200, .inl (fun _ => 0))), (q8, .inl (w.2.1 1, 24, .inl (fun _ => 0))), (q9, .inl (w.2.1 1, 14, .inl (fun _ => 0))), (q10, .inl (w.2.1 1, 4, .inl mA10_4)), (q15, .inl (w.2.1 1, 4, .inl (fun _ => 0))), (q16, .inl (w.2.1 1, 160, .inl (fun _ => 0))), (q17, .inl (w.2.1 1, 29, .inl mA17_29)), (q47, .inl (w.2.1 1, 96, .inl mA47_96)), (q144, .inl (w.2.1 1, 200, .inl (fun _ => 0))), (q145, .inl (w.2.1 1, 200, .inl (fun _ => 0))), (q146, .inl (w.2.1 1, 6, .inl (fun _ => 0))), (q147, .inl (w.2.1 1, 30, .inl (fun _ => 0))), (q148, .inl (w.2.1 1, 5, .inl (fun _ => 0)))]) E rfl (vp_in_nI (n := 18) (by decide) (by decide)) rfl rfl dX12_init_926 ?_
  refine yi_iinc (v := 19) (lv' := [(1, .int 19), (0, .ref h0)]) E dX12_init_927 0 rfl (by decide) (by decide) rfl ?_
  refine yi_goto (tgt := 909) E dX12_init_930 (by decide) ?_
  refine yi_iload_n E dX12_init_909 0 rfl ?_
  refine yi_bipush (v := 29) E dX12_init_910 (by decide) ?_
  refine yi_icmp_ge (tgt := 933) E dX12_init_912 (by decide) (fun h => absurd h (by decide)) (fun _ => ?_)
  refine yi_aload_n E dX12_init_915 1 rfl ?_
  refine yi_get (q := 0) (ci := 12) (k := 7) (N := 36) (C := RX12) (T := TX12) (v := .ref q6) E rfl rfl wu_X12 (by decide) wm_502 rfl dX12_init_916 ?_
  refine yi_iload_n E dX12_init_919 0 rfl ?_
  refine yi_aload_n E dX12_init_920 1 rfl ?_
  refine yi_get (q := 0) (ci := 12) (k := 20) (N := 36) (C := RX12) (T := TX12) (v := .ref q17) E rfl rfl wu_X12 (by decide) wm_753 rfl dX12_init_921 ?_
  refine yi_iload_n E dX12_init_924 0 rfl ?_
  refine yi_iald (q := 13) (v := mA17_29 19) E rfl (vp_in_nI (n := 19) (by decide) (by decide)) rfl dX12_init_925 ?_
  refine yi_iastc (q := 6) (f' := mA6_20) (ws' := [(h0, .inr (12, [.ref q1, .int 0, .int 0, .ref q2, .ref q3, .ref q4, .ref q5, .ref q6, .int 0, .ref q7, .ref q8, .int 0, .int 0, .int 0, .int 0, .int 0, .ref q9, .ref q10, .ref q15, .ref q16, .ref q17, .int 0, .int 0, .int 0, .int 0, .ref q47, .ref q144, .int 0, .int 0, .int 0, .ref q145, .ref q146, .int 0, .int 0, .ref q147, .ref q148])), (q1, .inl (w.2.1 1, 3, .inl (fun _ => 0))), (q2, .inl (w.2.1 1, 5, .inl (fun _ => 0))), (q3, .inl (w.2.1 1, 5, .inl (fun _ => 0))), (q4, .inl (w.2.1 1, 5, .inl (fun _ => 0))), (q5, .inl (w.2.1 1, 5, .inl (fun _ => 0))), (q6, .inl (w.2.1 1, 160, .inl mA6_20)), (q7, .inl (w.2.1 1, 1200, .inl (fun _ => 0))), (q8, .inl (w.2.1 1, 24, .inl (fun _ => 0))), (q9, .inl (w.2.1 1, 14, .inl (fun _ => 0))), (q10, .inl (w.2.1 1, 4, .inl mA10_4)), (q15, .inl (w.2.1 1, 4, .inl (fun _ => 0))), (q16, .inl (w.2.1 1, 160, .inl (fun _ => 0))), (q17, .inl (w.2.1 1, 29, .inl mA17_29)), (q47, .inl (w.2.1 1, 96, .inl mA47_96)), (q144, .inl (w.2.1 1, 200, .inl (fun _ => 0))), (q145, .inl (w.2.1 1, 200, .inl (fun _ => 0))), (q146, .inl (w.2.1 1, 6, .inl (fun _ => 0))), (q147, .inl (w.2.1 1, 30, .inl (fun _ => 0))), (q148, .inl (w.2.1 1, 5, .inl (fun _ => 0)))]) E rfl (vp_in_nI (n := 19) (by decide) (by decide)) rfl rfl dX12_init_926 ?_
  refine yi_iinc (v := 20) (lv' := [(1, .int 20), (0, .ref h0)]) E dX12_init_927 0 rfl (by decide) (by decide) rfl ?_
  refine yi_goto (tgt := 909) E dX12_init_930 (by decide) ?_
  refine yi_iload_n E dX12_init_909 0 rfl ?_
  refine yi_bipush (v := 29) E dX12_init_910 (by decide) ?_
  refine yi_icmp_ge (tgt := 933) E dX12_init_912 (by decide) (fun h => absurd h (by decide)) (fun _ => ?_)
  refine yi_aload_n E dX12_init_915 1 rfl ?_
  refine yi_get (q := 0) (ci := 12) (k := 7) (N := 36) (C := RX12) (T := TX12) (v := .ref q6) E rfl rfl wu_X12 (by decide) wm_502 rfl dX12_init_916 ?_
  refine yi_iload_n E dX12_init_919 0 rfl ?_
  refine yi_aload_n E dX12_init_920 1 rfl ?_
  refine yi_get (q := 0) (ci := 12) (k := 20) (N := 36) (C := RX12) (T := TX12) (v := .ref q17) E rfl rfl wu_X12 (by decide) wm_753 rfl dX12_init_921 ?_
  refine yi_iload_n E dX12_init_924 0 rfl ?_
  refine yi_iald (q := 13) (v := mA17_29 20) E rfl (vp_in_nI (n := 20) (by decide) (by decide)) rfl dX12_init_925 ?_
  refine yi_iastc (q := 6) (f' := mA6_21) (ws' := [(h0, .inr (12, [.ref q1, .int 0, .int 0, .ref q2, .ref q3, .ref q4, .ref q5, .ref q6, .int 0, .ref q7, .ref q8, .int 0, .int 0, .int 0, .int 0, .int 0, .ref q9, .ref q10, .ref q15, .ref q16, .ref q17, .int 0, .int 0, .int 0, .int 0, .ref q47, .ref q144, .int 0, .int 0, .int 0, .ref q145, .ref q146, .int 0, .int 0, .ref q147, .ref q148])), (q1, .inl (w.2.1 1, 3, .inl (fun _ => 0))), (q2, .inl (w.2.1 1, 5, .inl (fun _ => 0))), (q3, .inl (w.2.1 1, 5, .inl (fun _ => 0))), (q4, .inl (w.2.1 1, 5, .inl (fun _ => 0))), (q5, .inl (w.2.1 1, 5, .inl (fun _ => 0))), (q6, .inl (w.2.1 1, 160, .inl mA6_21)), (q7, .inl (w.2.1 1, 1200, .inl (fun _ => 0))), (q8, .inl (w.2.1 1, 24, .inl (fun _ => 0))), (q9, .inl (w.2.1 1, 14, .inl (fun _ => 0))), (q10, .inl (w.2.1 1, 4, .inl mA10_4)), (q15, .inl (w.2.1 1, 4, .inl (fun _ => 0))), (q16, .inl (w.2.1 1, 160, .inl (fun _ => 0))), (q17, .inl (w.2.1 1, 29, .inl mA17_29)), (q47, .inl (w.2.1 1, 96, .inl mA47_96)), (q144, .inl (w.2.1 1, 200, .inl (fun _ => 0))), (q145, .inl (w.2.1 1, 200, .inl (fun _ => 0))), (q146, .inl (w.2.1 1, 6, .inl (fun _ => 0))), (q147, .inl (w.2.1 1, 30, .inl (fun _ => 0))), (q148, .inl (w.2.1 1, 5, .inl (fun _ => 0)))]) E rfl (vp_in_nI (n := 20) (by decide) (by decide)) rfl rfl dX12_init_926 ?_
  refine yi_iinc (v := 21) (lv' := [(1, .int 21), (0, .ref h0)]) E dX12_init_927 0 rfl (by decide) (by decide) rfl ?_
  refine yi_goto (tgt := 909) E dX12_init_930 (by decide) ?_
  refine yi_iload_n E dX12_init_909 0 rfl ?_
  refine yi_bipush (v := 29) E dX12_init_910 (by decide) ?_
  refine yi_icmp_ge (tgt := 933) E dX12_init_912 (by decide) (fun h => absurd h (by decide)) (fun _ => ?_)
  refine yi_aload_n E dX12_init_915 1 rfl ?_
  refine yi_get (q := 0) (ci := 12) (k := 7) (N := 36) (C := RX12) (T := TX12) (v := .ref q6) E rfl rfl wu_X12 (by decide) wm_502 rfl dX12_init_916 ?_
  refine yi_iload_n E dX12_init_919 0 rfl ?_
  refine yi_aload_n E dX12_init_920 1 rfl ?_
  refine yi_get (q := 0) (ci := 12) (k := 20) (N := 36) (C := RX12) (T := TX12) (v := .ref q17) E rfl rfl wu_X12 (by decide) wm_753 rfl dX12_init_921 ?_
  refine yi_iload_n E dX12_init_924 0 rfl ?_
  refine yi_iald (q := 13) (v := mA17_29 21) E rfl (vp_in_nI (n := 21) (by decide) (by decide)) rfl dX12_init_925 ?_
  refine yi_iastc (q := 6) (f' := mA6_22) (ws' := [(h0, .inr (12, [.ref q1, .int 0, .int 0, .ref q2, .ref q3, .ref q4, .ref q5, .ref q6, .int 0, .ref q7, .ref q8, .int 0, .int 0, .int 0, .int 0, .int 0, .ref q9, .ref q10, .ref q15, .ref q16, .ref q17, .int 0, .int 0, .int 0, .int 0, .ref q47, .ref q144, .int 0, .int 0, .int 0, .ref q145, .ref q146, .int 0, .int 0, .ref q147, .ref q148])), (q1, .inl (w.2.1 1, 3, .inl (fun _ => 0))), (q2, .inl (w.2.1 1, 5, .inl (fun _ => 0))), (q3, .inl (w.2.1 1, 5, .inl (fun _ => 0))), (q4, .inl (w.2.1 1, 5, .inl (fun _ => 0))), (q5, .inl (w.2.1 1, 5, .inl (fun _ => 0))), (q6, .inl (w.2.1 1, 160, .inl mA6_22)), (q7, .inl (w.2.1 1, 1200, .inl (fun _ => 0))), (q8, .inl (w.2.1 1, 24, .inl (fun _ => 0))), (q9, .inl (w.2.1 1, 14, .inl (fun _ => 0))), (q10, .inl (w.2.1 1, 4, .inl mA10_4)), (q15, .inl (w.2.1 1, 4, .inl (fun _ => 0))), (q16, .inl (w.2.1 1, 160, .inl (fun _ => 0))), (q17, .inl (w.2.1 1, 29, .inl mA17_29)), (q47, .inl (w.2.1 1, 96, .inl mA47_96)), (q144, .inl (w.2.1 1, 200, .inl (fun _ => 0))), (q145, .inl (w.2.1 1, 200, .inl (fun _ => 0))), (q146, .inl (w.2.1 1, 6, .inl (fun _ => 0))), (q147, .inl (w.2.1 1, 30, .inl (fun _ => 0))), (q148, .inl (w.2.1 1, 5, .inl (fun _ => 0)))]) E rfl (vp_in_nI (n := 21) (by decide) (by decide)) rfl rfl dX12_init_926 ?_
  refine yi_iinc (v := 22) (lv' := [(1, .int 22), (0, .ref h0)]) E dX12_init_927 0 rfl (by decide) (by decide) rfl ?_
  refine yi_goto (tgt := 909) E dX12_init_930 (by decide) ?_
  refine yi_iload_n E dX12_init_909 0 rfl ?_
  refine yi_bipush (v := 29) E dX12_init_910 (by decide) ?_
  refine yi_icmp_ge (tgt := 933) E dX12_init_912 (by decide) (fun h => absurd h (by decide)) (fun _ => ?_)
  refine yi_aload_n E dX12_init_915 1 rfl ?_
  refine yi_get (q := 0) (ci := 12) (k := 7) (N := 36) (C := RX12) (T := TX12) (v := .ref q6) E rfl rfl wu_X12 (by decide) wm_502 rfl dX12_init_916 ?_
  refine yi_iload_n E dX12_init_919 0 rfl ?_
  refine yi_aload_n E dX12_init_920 1 rfl ?_
  refine yi_get (q := 0) (ci := 12) (k := 20) (N := 36) (C := RX12) (T := TX12) (v := .ref q17) E rfl rfl wu_X12 (by decide) wm_753 rfl dX12_init_921 ?_
  refine yi_iload_n E dX12_init_924 0 rfl ?_
  refine yi_iald (q := 13) (v := mA17_29 22) E rfl (vp_in_nI (n := 22) (by decide) (by decide)) rfl dX12_init_925 ?_
  refine yi_iastc (q := 6) (f' := mA6_23) (ws' := [(h0, .inr (12, [.ref q1, .int 0, .int 0, .ref q2, .ref q3, .ref q4, .ref q5, .ref q6, .int 0, .ref q7, .ref q8, .int 0, .int 0, .int 0, .int 0, .int 0, .ref q9, .ref q10, .ref q15, .ref q16, .ref q17, .int 0, .int 0, .int 0, .int 0, .ref q47, .ref q144, .int 0, .int 0, .int 0, .ref q145, .ref q146, .int 0, .int 0, .ref q147, .ref q148])), (q1, .inl (w.2.1 1, 3, .inl (fun _ => 0))), (q2, .inl (w.2.1 1, 5, .inl (fun _ => 0))), (q3, .inl (w.2.1 1, 5, .inl (fun _ => 0))), (q4, .inl (w.2.1 1, 5, .inl (fun _ => 0))), (q5, .inl (w.2.1 1, 5, .inl (fun _ => 0))), (q6, .inl (w.2.1 1, 160, .inl mA6_23)), (q7, .inl (w.2.1 1, 1200, .inl (fun _ => 0))), (q8, .inl (w.2.1 1, 24, .inl (fun _ => 0))), (q9, .inl (w.2.1 1, 14, .inl (fun _ => 0))), (q10, .inl (w.2.1 1, 4, .inl mA10_4)), (q15, .inl (w.2.1 1, 4, .inl (fun _ => 0))), (q16, .inl (w.2.1 1, 160, .inl (fun _ => 0))), (q17, .inl (w.2.1 1, 29, .inl mA17_29)), (q47, .inl (w.2.1 1, 96, .inl mA47_96)), (q144, .inl (w.2.1 1, 200, .inl (fun _ => 0))), (q145, .inl (w.2.1 1, 200, .inl (fun _ => 0))), (q146, .inl (w.2.1 1, 6, .inl (fun _ => 0))), (q147, .inl (w.2.1 1, 30, .inl (fun _ => 0))), (q148, .inl (w.2.1 1, 5, .inl (fun _ => 0)))]) E rfl (vp_in_nI (n := 22) (by decide) (by decide)) rfl rfl dX12_init_926 ?_
  refine yi_iinc (v := 23) (lv' := [(1, .int 23), (0, .ref h0)]) E dX12_init_927 0 rfl (by decide) (by decide) rfl ?_
  refine yi_goto (tgt := 909) E dX12_init_930 (by decide) ?_
  refine yi_iload_n E dX12_init_909 0 rfl ?_
  refine yi_bipush (v := 29) E dX12_init_910 (by decide) ?_
  refine yi_icmp_ge (tgt := 933) E dX12_init_912 (by decide) (fun h => absurd h (by decide)) (fun _ => ?_)
  refine yi_aload_n E dX12_init_915 1 rfl ?_
  refine yi_get (q := 0) (ci := 12) (k := 7) (N := 36) (C := RX12) (T := TX12) (v := .ref q6) E rfl rfl wu_X12 (by decide) wm_502 rfl dX12_init_916 ?_
  refine yi_iload_n E dX12_init_919 0 rfl ?_
  refine yi_aload_n E dX12_init_920 1 rfl ?_
  refine yi_get (q := 0) (ci := 12) (k := 20) (N := 36) (C := RX12) (T := TX12) (v := .ref q17) E rfl rfl wu_X12 (by decide) wm_753 rfl dX12_init_921 ?_
  refine yi_iload_n E dX12_init_924 0 rfl ?_
  refine yi_iald (q := 13) (v := mA17_29 23) E rfl (vp_in_nI (n := 23) (by decide) (by decide)) rfl dX12_init_925 ?_
  refine yi_iastc (q := 6) (f' := mA6_24) (ws' := [(h0, .inr (12, [.ref q1, .int 0, .int 0, .ref q2, .ref q3, .ref q4, .ref q5, .ref q6, .int 0, .ref q7, .ref q8, .int 0, .int 0, .int 0, .int 0, .int 0, .ref q9, .ref q10, .ref q15, .ref q16, .ref q17, .int 0, .int 0, .int 0, .int 0, .ref q47, .ref q144, .int 0, .int 0, .int 0, .ref q145, .ref q146, .int 0, .int 0, .ref q147, .ref q148])), (q1, .inl (w.2.1 1, 3, .inl (fun _ => 0))), (q2, .inl (w.2.1 1, 5, .inl (fun _ => 0))), (q3, .inl (w.2.1 1, 5, .inl (fun _ => 0))), (q4, .inl (w.2.1 1, 5, .inl (fun _ => 0))), (q5, .inl (w.2.1 1, 5, .inl (fun _ => 0))), (q6, .inl (w.2.1 1, 160, .inl mA6_24)), (q7, .inl (w.2.1 1, 1200, .inl (fun _ => 0))), (q8, .inl (w.2.1 1, 24, .inl (fun _ => 0))), (q9, .inl (w.2.1 1, 14, .inl (fun _ => 0))), (q10, .inl (w.2.1 1, 4, .inl mA10_4)), (q15, .inl (w.2.1 1, 4, .inl (fun _ => 0))), (q16, .inl (w.2.1 1, 160, .inl (fun _ => 0))), (q17, .inl (w.2.1 1, 29, .inl mA17_29)), (q47, .inl (w.2.1 1, 96, .inl mA47_96)), (q144, .inl (w.2.1 1, 200, .inl (fun _ => 0))), (q145, .inl (w.2.1 1, 200, .inl (fun _ => 0))), (q146, .inl (w.2.1 1, 6, .inl (fun _ => 0))), (q147, .inl (w.2.1 1, 30, .inl (fun _ => 0))), (q148, .inl (w.2.1 1, 5, .inl (fun _ => 0)))]) E rfl (vp_in_nI (n := 23) (by decide) (by decide)) rfl rfl dX12_init_926 ?_
  refine yi_iinc (v := 24) (lv' := [(1, .int 24), (0, .ref h0)]) E dX12_init_927 0 rfl (by decide) (by decide) rfl ?_
  refine yi_goto (tgt := 909) E dX12_init_930 (by decide) ?_
  refine yi_iload_n E dX12_init_909 0 rfl ?_
  refine yi_bipush (v := 29) E dX12_init_910 (by decide) ?_
  refine yi_icmp_ge (tgt := 933) E dX12_init_912 (by decide) (fun h => absurd h (by decide)) (fun _ => ?_)
  refine yi_aload_n E dX12_init_915 1 rfl ?_
  refine yi_get (q := 0) (ci := 12) (k := 7) (N := 36) (C := RX12) (T := TX12) (v := .ref q6) E rfl rfl wu_X12 (by decide) wm_502 rfl dX12_init_916 ?_
  refine yi_iload_n E dX12_init_919 0 rfl ?_
  refine yi_aload_n E dX12_init_920 1 rfl ?_
  refine yi_get (q := 0) (ci := 12) (k := 20) (N := 36) (C := RX12) (T := TX12) (v := .ref q17) E rfl rfl wu_X12 (by decide) wm_753 rfl dX12_init_921 ?_
  refine yi_iload_n E dX12_init_924 0 rfl ?_
  refine yi_iald (q := 13) (v := mA17_29 24) E rfl (vp_in_nI (n := 24) (by decide) (by decide)) rfl dX12_init_925 ?_
  refine yi_iastc (q := 6) (f' := mA6_25) (ws' := [(h0, .inr (12, [.ref q1, .int 0, .int 0, .ref q2, .ref q3, .ref q4, .ref q5, .ref q6, .int 0, .ref q7, .ref q8, .int 0, .int 0, .int 0, .int 0, .int 0, .ref q9, .ref q10, .ref q15, .ref q16, .ref q17, .int 0, .int 0, .int 0, .int 0, .ref q47, .ref q144, .int 0, .int 0, .int 0, .ref q145, .ref q146, .int 0, .int 0, .ref q147, .ref q148])), (q1, .inl (w.2.1 1, 3, .inl (fun _ => 0))), (q2, .inl (w.2.1 1, 5, .inl (fun _ => 0))), (q3, .inl (w.2.1 1, 5, .inl (fun _ => 0))), (q4, .inl (w.2.1 1, 5, .inl (fun _ => 0))), (q5, .inl (w.2.1 1, 5, .inl (fun _ => 0))), (q6, .inl (w.2.1 1, 160, .inl mA6_25)), (q7, .inl (w.2.1 1, 1200, .inl (fun _ => 0))), (q8, .inl (w.2.1 1, 24, .inl (fun _ => 0))), (q9, .inl (w.2.1 1, 14, .inl (fun _ => 0))), (q10, .inl (w.2.1 1, 4, .inl mA10_4)), (q15, .inl (w.2.1 1, 4, .inl (fun _ => 0))), (q16, .inl (w.2.1 1, 160, .inl (fun _ => 0))), (q17, .inl (w.2.1 1, 29, .inl mA17_29)), (q47, .inl (w.2.1 1, 96, .inl mA47_96)), (q144, .inl (w.2.1 1, 200, .inl (fun _ => 0))), (q145, .inl (w.2.1 1, 200, .inl (fun _ => 0))), (q146, .inl (w.2.1 1, 6, .inl (fun _ => 0))), (q147, .inl (w.2.1 1, 30, .inl (fun _ => 0))), (q148, .inl (w.2.1 1, 5, .inl (fun _ => 0)))]) E rfl (vp_in_nI (n := 24) (by decide) (by decide)) rfl rfl dX12_init_926 ?_
  refine yi_iinc (v := 25) (lv' := [(1, .int 25), (0, .ref h0)]) E dX12_init_927 0 rfl (by decide) (by decide) rfl ?_
  refine yi_goto (tgt := 909) E dX12_init_930 (by decide) ?_
  refine yi_iload_n E dX12_init_909 0 rfl ?_
  refine yi_bipush (v := 29) E dX12_init_910 (by decide) ?_
  refine yi_icmp_ge (tgt := 933) E dX12_init_912 (by decide) (fun h => absurd h (by decide)) (fun _ => ?_)
  refine yi_aload_n E dX12_init_915 1 rfl ?_
  refine yi_get (q := 0) (ci := 12) (k := 7) (N := 36) (C := RX12) (T := TX12) (v := .ref q6) E rfl rfl wu_X12 (by decide) wm_502 rfl dX12_init_916 ?_
  refine yi_iload_n E dX12_init_919 0 rfl ?_
  refine yi_aload_n E dX12_init_920 1 rfl ?_
  refine yi_get (q := 0) (ci := 12) (k := 20) (N := 36) (C := RX12) (T := TX12) (v := .ref q17) E rfl rfl wu_X12 (by decide) wm_753 rfl dX12_init_921 ?_
  refine yi_iload_n E dX12_init_924 0 rfl ?_
  refine yi_iald (q := 13) (v := mA17_29 25) E rfl (vp_in_nI (n := 25) (by decide) (by decide)) rfl dX12_init_925 ?_
  refine yi_iastc (q := 6) (f' := mA6_26) (ws' := [(h0, .inr (12, [.ref q1, .int 0, .int 0, .ref q2, .ref q3, .ref q4, .ref q5, .ref q6, .int 0, .ref q7, .ref q8, .int 0, .int 0, .int 0, .int 0, .int 0, .ref q9, .ref q10, .ref q15, .ref q16, .ref q17, .int 0, .int 0, .int 0, .int 0, .ref q47, .ref q144, .int 0, .int 0, .int 0, .ref q145, .ref q146, .int 0, .int 0, .ref q147, .ref q148])), (q1, .inl (w.2.1 1, 3, .inl (fun _ => 0))), (q2, .inl (w.2.1 1, 5, .inl (fun _ => 0))), (q3, .inl (w.2.1 1, 5, .inl (fun _ => 0))), (q4, .inl (w.2.1 1, 5, .inl (fun _ => 0))), (q5, .inl (w.2.1 1, 5, .inl (fun _ => 0))), (q6, .inl (w.2.1 1, 160, .inl mA6_26)), (q7, .inl (w.2.1 1, 1200, .inl (fun _ => 0))), (q8, .inl (w.2.1 1, 24, .inl (fun _ => 0))), (q9, .inl (w.2.1 1, 14, .inl (fun _ => 0))), (q10, .inl (w.2.1 1, 4, .inl mA10_4)), (q15, .inl (w.2.1 1, 4, .inl (fun _ => 0))), (q16, .inl (w.2.1 1, 160, .inl (fun _ => 0))), (q17, .inl (w.2.1 1, 29, .inl mA17_29)), (q47, .inl (w.2.1 1, 96, .inl mA47_96)), (q144, .inl (w.2.1 1, 200, .inl (fun _ => 0))), (q145, .inl (w.2.1 1, 200, .inl (fun _ => 0))), (q146, .inl (w.2.1 1, 6, .inl (fun _ => 0))), (q147, .inl (w.2.1 1, 30, .inl (fun _ => 0))), (q148, .inl (w.2.1 1, 5, .inl (fun _ => 0)))]) E rfl (vp_in_nI (n := 25) (by decide) (by decide)) rfl rfl dX12_init_926 ?_
  refine yi_iinc (v := 26) (lv' := [(1, .int 26), (0, .ref h0)]) E dX12_init_927 0 rfl (by decide) (by decide) rfl ?_
  refine yi_goto (tgt := 909) E dX12_init_930 (by decide) ?_
  refine yi_iload_n E dX12_init_909 0 rfl ?_
  refine yi_bipush (v := 29) E dX12_init_910 (by decide) ?_
  refine yi_icmp_ge (tgt := 933) E dX12_init_912 (by decide) (fun h => absurd h (by decide)) (fun _ => ?_)
  refine yi_aload_n E dX12_init_915 1 rfl ?_
  refine yi_get (q := 0) (ci := 12) (k := 7) (N := 36) (C := RX12) (T := TX12) (v := .ref q6) E rfl rfl wu_X12 (by decide) wm_502 rfl dX12_init_916 ?_
  refine yi_iload_n E dX12_init_919 0 rfl ?_
  refine yi_aload_n E dX12_init_920 1 rfl ?_
  refine yi_get (q := 0) (ci := 12) (k := 20) (N := 36) (C := RX12) (T := TX12) (v := .ref q17) E rfl rfl wu_X12 (by decide) wm_753 rfl dX12_init_921 ?_
  refine yi_iload_n E dX12_init_924 0 rfl ?_
  refine yi_iald (q := 13) (v := mA17_29 26) E rfl (vp_in_nI (n := 26) (by decide) (by decide)) rfl dX12_init_925 ?_
  refine yi_iastc (q := 6) (f' := mA6_27) (ws' := [(h0, .inr (12, [.ref q1, .int 0, .int 0, .ref q2, .ref q3, .ref q4, .ref q5, .ref q6, .int 0, .ref q7, .ref q8, .int 0, .int 0, .int 0, .int 0, .int 0, .ref q9, .ref q10, .ref q15, .ref q16, .ref q17, .int 0, .int 0, .int 0, .int 0, .ref q47, .ref q144, .int 0, .int 0, .int 0, .ref q145, .ref q146, .int 0, .int 0, .ref q147, .ref q148])), (q1, .inl (w.2.1 1, 3, .inl (fun _ => 0))), (q2, .inl (w.2.1 1, 5, .inl (fun _ => 0))), (q3, .inl (w.2.1 1, 5, .inl (fun _ => 0))), (q4, .inl (w.2.1 1, 5, .inl (fun _ => 0))), (q5, .inl (w.2.1 1, 5, .inl (fun _ => 0))), (q6, .inl (w.2.1 1, 160, .inl mA6_27)), (q7, .inl (w.2.1 1, 1200, .inl (fun _ => 0))), (q8, .inl (w.2.1 1, 24, .inl (fun _ => 0))), (q9, .inl (w.2.1 1, 14, .inl (fun _ => 0))), (q10, .inl (w.2.1 1, 4, .inl mA10_4)), (q15, .inl (w.2.1 1, 4, .inl (fun _ => 0))), (q16, .inl (w.2.1 1, 160, .inl (fun _ => 0))), (q17, .inl (w.2.1 1, 29, .inl mA17_29)), (q47, .inl (w.2.1 1, 96, .inl mA47_96)), (q144, .inl (w.2.1 1, 200, .inl (fun _ => 0))), (q145, .inl (w.2.1 1, 200, .inl (fun _ => 0))), (q146, .inl (w.2.1 1, 6, .inl (fun _ => 0))), (q147, .inl (w.2.1 1, 30, .inl (fun _ => 0))), (q148, .inl (w.2.1 1, 5, .inl (fun _ => 0)))]) E rfl (vp_in_nI (n := 26) (by decide) (by decide)) rfl rfl dX12_init_926 ?_
  refine yi_iinc (v := 27) (lv' := [(1, .int 27), (0, .ref h0)]) E dX12_init_927 0 rfl (by decide) (by decide) rfl ?_
  refine yi_goto (tgt := 909) E dX12_init_930 (by decide) ?_
  refine yi_iload_n E dX12_init_909 0 rfl ?_
  refine yi_bipush (v := 29) E dX12_init_910 (by decide) ?_
  refine yi_icmp_ge (tgt := 933) E dX12_init_912 (by decide) (fun h => absurd h (by decide)) (fun _ => ?_)
  refine yi_aload_n E dX12_init_915 1 rfl ?_
  refine yi_get (q := 0) (ci := 12) (k := 7) (N := 36) (C := RX12) (T := TX12) (v := .ref q6) E rfl rfl wu_X12 (by decide) wm_502 rfl dX12_init_916 ?_
  refine yi_iload_n E dX12_init_919 0 rfl ?_
  refine yi_aload_n E dX12_init_920 1 rfl ?_
  refine yi_get (q := 0) (ci := 12) (k := 20) (N := 36) (C := RX12) (T := TX12) (v := .ref q17) E rfl rfl wu_X12 (by decide) wm_753 rfl dX12_init_921 ?_
  refine yi_iload_n E dX12_init_924 0 rfl ?_
  refine yi_iald (q := 13) (v := mA17_29 27) E rfl (vp_in_nI (n := 27) (by decide) (by decide)) rfl dX12_init_925 ?_
  refine yi_iastc (q := 6) (f' := mA6_28) (ws' := [(h0, .inr (12, [.ref q1, .int 0, .int 0, .ref q2, .ref q3, .ref q4, .ref q5, .ref q6, .int 0, .ref q7, .ref q8, .int 0, .int 0, .int 0, .int 0, .int 0, .ref q9, .ref q10, .ref q15, .ref q16, .ref q17, .int 0, .int 0, .int 0, .int 0, .ref q47, .ref q144, .int 0, .int 0, .int 0, .ref q145, .ref q146, .int 0, .int 0, .ref q147, .ref q148])), (q1, .inl (w.2.1 1, 3, .inl (fun _ => 0))), (q2, .inl (w.2.1 1, 5, .inl (fun _ => 0))), (q3, .inl (w.2.1 1, 5, .inl (fun _ => 0))), (q4, .inl (w.2.1 1, 5, .inl (fun _ => 0))), (q5, .inl (w.2.1 1, 5, .inl (fun _ => 0))), (q6, .inl (w.2.1 1, 160, .inl mA6_28)), (q7, .inl (w.2.1 1, 1200, .inl (fun _ => 0))), (q8, .inl (w.2.1 1, 24, .inl (fun _ => 0))), (q9, .inl (w.2.1 1, 14, .inl (fun _ => 0))), (q10, .inl (w.2.1 1, 4, .inl mA10_4)), (q15, .inl (w.2.1 1, 4, .inl (fun _ => 0))), (q16, .inl (w.2.1 1, 160, .inl (fun _ => 0))), (q17, .inl (w.2.1 1, 29, .inl mA17_29)), (q47, .inl (w.2.1 1, 96, .inl mA47_96)), (q144, .inl (w.2.1 1, 200, .inl (fun _ => 0))), (q145, .inl (w.2.1 1, 200, .inl (fun _ => 0))), (q146, .inl (w.2.1 1, 6, .inl (fun _ => 0))), (q147, .inl (w.2.1 1, 30, .inl (fun _ => 0))), (q148, .inl (w.2.1 1, 5, .inl (fun _ => 0)))]) E rfl (vp_in_nI (n := 27) (by decide) (by decide)) rfl rfl dX12_init_926 ?_
  refine yi_iinc (v := 28) (lv' := [(1, .int 28), (0, .ref h0)]) E dX12_init_927 0 rfl (by decide) (by decide) rfl ?_
  refine yi_goto (tgt := 909) E dX12_init_930 (by decide) ?_
  refine yi_iload_n E dX12_init_909 0 rfl ?_
  refine yi_bipush (v := 29) E dX12_init_910 (by decide) ?_
  refine yi_icmp_ge (tgt := 933) E dX12_init_912 (by decide) (fun h => absurd h (by decide)) (fun _ => ?_)
  refine yi_aload_n E dX12_init_915 1 rfl ?_
  refine yi_get (q := 0) (ci := 12) (k := 7) (N := 36) (C := RX12) (T := TX12) (v := .ref q6) E rfl rfl wu_X12 (by decide) wm_502 rfl dX12_init_916 ?_
  refine yi_iload_n E dX12_init_919 0 rfl ?_
  refine yi_aload_n E dX12_init_920 1 rfl ?_
  refine yi_get (q := 0) (ci := 12) (k := 20) (N := 36) (C := RX12) (T := TX12) (v := .ref q17) E rfl rfl wu_X12 (by decide) wm_753 rfl dX12_init_921 ?_
  refine yi_iload_n E dX12_init_924 0 rfl ?_
  refine yi_iald (q := 13) (v := mA17_29 28) E rfl (vp_in_nI (n := 28) (by decide) (by decide)) rfl dX12_init_925 ?_
  refine yi_iastc (q := 6) (f' := mA6_29) (ws' := [(h0, .inr (12, [.ref q1, .int 0, .int 0, .ref q2, .ref q3, .ref q4, .ref q5, .ref q6, .int 0, .ref q7, .ref q8, .int 0, .int 0, .int 0, .int 0, .int 0, .ref q9, .ref q10, .ref q15, .ref q16, .ref q17, .int 0, .int 0, .int 0, .int 0, .ref q47, .ref q144, .int 0, .int 0, .int 0, .ref q145, .ref q146, .int 0, .int 0, .ref q147, .ref q148])), (q1, .inl (w.2.1 1, 3, .inl (fun _ => 0))), (q2, .inl (w.2.1 1, 5, .inl (fun _ => 0))), (q3, .inl (w.2.1 1, 5, .inl (fun _ => 0))), (q4, .inl (w.2.1 1, 5, .inl (fun _ => 0))), (q5, .inl (w.2.1 1, 5, .inl (fun _ => 0))), (q6, .inl (w.2.1 1, 160, .inl mA6_29)), (q7, .inl (w.2.1 1, 1200, .inl (fun _ => 0))), (q8, .inl (w.2.1 1, 24, .inl (fun _ => 0))), (q9, .inl (w.2.1 1, 14, .inl (fun _ => 0))), (q10, .inl (w.2.1 1, 4, .inl mA10_4)), (q15, .inl (w.2.1 1, 4, .inl (fun _ => 0))), (q16, .inl (w.2.1 1, 160, .inl (fun _ => 0))), (q17, .inl (w.2.1 1, 29, .inl mA17_29)), (q47, .inl (w.2.1 1, 96, .inl mA47_96)), (q144, .inl (w.2.1 1, 200, .inl (fun _ => 0))), (q145, .inl (w.2.1 1, 200, .inl (fun _ => 0))), (q146, .inl (w.2.1 1, 6, .inl (fun _ => 0))), (q147, .inl (w.2.1 1, 30, .inl (fun _ => 0))), (q148, .inl (w.2.1 1, 5, .inl (fun _ => 0)))]) E rfl (vp_in_nI (n := 28) (by decide) (by decide)) rfl rfl dX12_init_926 ?_
  refine yi_iinc (v := 29) (lv' := [(1, .int 29), (0, .ref h0)]) E dX12_init_927 0 rfl (by decide) (by decide) rfl ?_
  refine yi_goto (tgt := 909) E dX12_init_930 (by decide) ?_
  refine yi_iload_n E dX12_init_909 0 rfl ?_
  refine yi_bipush (v := 29) E dX12_init_910 (by decide) ?_
  refine yi_icmp_ge (tgt := 933) E dX12_init_912 (by decide) (fun _ => ?_) (fun h => absurd (by decide) h)
  refine yi_aload_n E dX12_init_933 1 rfl ?_
  refine yi_bipush (v := 29) E dX12_init_934 (by decide) ?_
  refine yi_put (q := 0) (ci := 12) (k := 8) (N := 36) (C := RX12) (T := TX12) (v := .int 29) (ty := .int) (ws' := [(h0, .inr (12, [.ref q1, .int 0, .int 0, .ref q2, .ref q3, .ref q4, .ref q5, .ref q6, .int 29, .ref q7, .ref q8, .int 0, .int 0, .int 0, .int 0, .int 0, .ref q9, .ref q10, .ref q15, .ref q16, .ref q17, .int 0, .int 0, .int 0, .int 0, .ref q47, .ref q144, .int 0, .int 0, .int 0, .ref q145, .ref q146, .int 0, .int 0, .ref q147, .ref q148])), (q1, .inl (w.2.1 1, 3, .inl (fun _ => 0))), (q2, .inl (w.2.1 1, 5, .inl (fun _ => 0))), (q3, .inl (w.2.1 1, 5, .inl (fun _ => 0))), (q4, .inl (w.2.1 1, 5, .inl (fun _ => 0))), (q5, .inl (w.2.1 1, 5, .inl (fun _ => 0))), (q6, .inl (w.2.1 1, 160, .inl mA6_29)), (q7, .inl (w.2.1 1, 1200, .inl (fun _ => 0))), (q8, .inl (w.2.1 1, 24, .inl (fun _ => 0))), (q9, .inl (w.2.1 1, 14, .inl (fun _ => 0))), (q10, .inl (w.2.1 1, 4, .inl mA10_4)), (q15, .inl (w.2.1 1, 4, .inl (fun _ => 0))), (q16, .inl (w.2.1 1, 160, .inl (fun _ => 0))), (q17, .inl (w.2.1 1, 29, .inl mA17_29)), (q47, .inl (w.2.1 1, 96, .inl mA47_96)), (q144, .inl (w.2.1 1, 200, .inl (fun _ => 0))), (q145, .inl (w.2.1 1, 200, .inl (fun _ => 0))), (q146, .inl (w.2.1 1, 6, .inl (fun _ => 0))), (q147, .inl (w.2.1 1, 30, .inl (fun _ => 0))), (q148, .inl (w.2.1 1, 5, .inl (fun _ => 0)))]) E rfl rfl wu_X12 tyX12 tyX12_ok nmX12 (by decide) wm_498 rfl (by decide +kernel) rfl rfl (Nat.le_of_ble_eq_true rfl) rfl dX12_init_936 ?_
  refine yi_aload_n E dX12_init_939 1 rfl ?_
  refine yi_callYi (cf := mcf) (n := 20) (σ := m1) (w' := ((fun k => ([h0, q1, q2, q3, q4, q5, q6, q7, q8, q9, q10, q15, q16, q17, q47, q144, q145, q146, q147, q148] : List Nat).getD k 0), w.2)) (KK := fun _ u => KM u) (wsR := []) E [0, 1, 2, 3, 4, 5, 6, 7, 8, 9, 10, 11, 12, 13, 14, 15, 16, 17, 18, 19] [] rfl rfl rfl rfl rfl rfl (fun _ h => absurd h List.not_mem_nil) (yi_callY (rest := []) (As := []) (o := 0) (ci := 12) E [0, 1, 2, 3, 4, 5, 6, 7, 8, 9, 10, 11, 12, 13, 14, 15, 16, 17, 18, 19] (fun hok => kX12_text l ((fun k => ([h0, q1, q2, q3, q4, q5, q6, q7, q8, q9, q10, q15, q16, q17, q47, q144, q145, q146, q147, q148] : List Nat).getD k 0), w.2) hok m1 (fun _ u => KM u) hm1) rfl (y_cwV 0 E.1.2.2.2.2 wm_754 wm_755 wm_756 wm_479 wm_757 (by decide +kernel) ⟨Nat.le_of_ble_eq_true rfl, Nat.le_of_ble_eq_true rfl⟩) rfl rfl rfl rfl rfl rfl rfl (Nat.le_of_ble_eq_true rfl) dX12_init_940 ⟨Nat.le_of_ble_eq_true rfl, Nat.le_of_ble_eq_true rfl⟩) (fun v u hu => ?_)
  refine yi_pop E dX12_init_943 rfl ?_
  exact yi_vret E dX12_init_944 ((fun k => ([h0, q1, q2, q3, q4, q5, q6, q7, q8, q9, q10, q15, q16, q17, q47, q144, q145, q146, q147, q148] : List Nat).getD k 0), u) ⟨rfl, hu⟩ rfl
