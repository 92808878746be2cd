theorem dX12_init_0 : decode cX12_init 0 = .ok (.aload_n 0, 1) := by decide +kernel
theorem dX12_init_1 : decode cX12_init 1 = .ok (.invokespecial 1, 3) := by decide +kernel
theorem dX12_init_4 : decode cX12_init 4 = .ok (.aload_n 0, 1) := by decide +kernel
theorem dX12_init_5 : decode cX12_init 5 = .ok (.bipush 40, 2) := by decide +kernel
theorem dX12_init_7 : decode cX12_init 7 = .ok (.newarray .long, 2) := by decide +kernel
theorem dX12_init_9 : decode cX12_init 9 = .ok (.putfield 7, 3) := by decide +kernel
theorem dX12_init_12 : decode cX12_init 12 = .ok (.aload_n 0, 1) := by decide +kernel
theorem dX12_init_13 : decode cX12_init 13 = .ok (.bipush 40, 2) := by decide +kernel
theorem dX12_init_15 : decode cX12_init 15 = .ok (.newarray .int, 2) := by decide +kernel
theorem dX12_init_17 : decode cX12_init 17 = .ok (.putfield 13, 3) := by decide +kernel
theorem dX12_init_20 : decode cX12_init 20 = .ok (.aload_n 0, 1) := by decide +kernel
theorem dX12_init_21 : decode cX12_init 21 = .ok (.bipush 40, 2) := by decide +kernel
theorem dX12_init_23 : decode cX12_init 23 = .ok (.newarray .boolean, 2) := by decide +kernel
theorem dX12_init_25 : decode cX12_init 25 = .ok (.putfield 17, 3) := by decide +kernel
theorem dX12_init_28 : decode cX12_init 28 = .ok (.aload_n 0, 1) := by decide +kernel
theorem dX12_init_29 : decode cX12_init 29 = .ok (.bipush 40, 2) := by decide +kernel
theorem dX12_init_31 : decode cX12_init 31 = .ok (.newarray .int, 2) := by decide +kernel
theorem dX12_init_33 : decode cX12_init 33 = .ok (.putfield 21, 3) := by decide +kernel
theorem dX12_init_36 : decode cX12_init 36 = .ok (.aload_n 0, 1) := by decide +kernel
theorem dX12_init_37 : decode cX12_init 37 = .ok (.bipush 31, 2) := by decide +kernel
theorem dX12_init_39 : decode cX12_init 39 = .ok (.newarray .long, 2) := by decide +kernel
theorem dX12_init_41 : decode cX12_init 41 = .ok (.dup, 1) := by decide +kernel
theorem dX12_init_42 : decode cX12_init 42 = .ok (.iconst 0, 1) := by decide +kernel
theorem dX12_init_43 : decode cX12_init 43 = .ok (.ldc2_w 24, 3) := by decide +kernel
theorem dX12_init_46 : decode cX12_init 46 = .ok (.lastore, 1) := by decide +kernel
theorem dX12_init_47 : decode cX12_init 47 = .ok (.dup, 1) := by decide +kernel
theorem dX12_init_48 : decode cX12_init 48 = .ok (.iconst 1, 1) := by decide +kernel
theorem dX12_init_49 : decode cX12_init 49 = .ok (.ldc2_w 26, 3) := by decide +kernel
theorem dX12_init_52 : decode cX12_init 52 = .ok (.lastore, 1) := by decide +kernel
theorem dX12_init_53 : decode cX12_init 53 = .ok (.dup, 1) := by decide +kernel
theorem dX12_init_54 : decode cX12_init 54 = .ok (.iconst 2, 1) := by decide +kernel
theorem dX12_init_55 : decode cX12_init 55 = .ok (.ldc2_w 28, 3) := by decide +kernel
theorem dX12_init_58 : decode cX12_init 58 = .ok (.lastore, 1) := by decide +kernel
theorem dX12_init_59 : decode cX12_init 59 = .ok (.dup, 1) := by decide +kernel
theorem dX12_init_60 : decode cX12_init 60 = .ok (.iconst 3, 1) := by decide +kernel
theorem dX12_init_61 : decode cX12_init 61 = .ok (.ldc2_w 30, 3) := by decide +kernel
theorem dX12_init_64 : decode cX12_init 64 = .ok (.lastore, 1) := by decide +kernel
theorem dX12_init_65 : decode cX12_init 65 = .ok (.dup, 1) := by decide +kernel
theorem dX12_init_66 : decode cX12_init 66 = .ok (.iconst 4, 1) := by decide +kernel
theorem dX12_init_67 : decode cX12_init 67 = .ok (.ldc2_w 32, 3) := by decide +kernel
theorem dX12_init_70 : decode cX12_init 70 = .ok (.lastore, 1) := by decide +kernel
theorem dX12_init_71 : decode cX12_init 71 = .ok (.dup, 1) := by decide +kernel
theorem dX12_init_72 : decode cX12_init 72 = .ok (.iconst 5, 1) := by decide +kernel
theorem dX12_init_73 : decode cX12_init 73 = .ok (.ldc2_w 34, 3) := by decide +kernel
theorem dX12_init_76 : decode cX12_init 76 = .ok (.lastore, 1) := by decide +kernel
theorem dX12_init_77 : decode cX12_init 77 = .ok (.dup, 1) := by decide +kernel
theorem dX12_init_78 : decode cX12_init 78 = .ok (.bipush 6, 2) := by decide +kernel
theorem dX12_init_80 : decode cX12_init 80 = .ok (.ldc2_w 36, 3) := by decide +kernel
theorem dX12_init_83 : decode cX12_init 83 = .ok (.lastore, 1) := by decide +kernel
theorem dX12_init_84 : decode cX12_init 84 = .ok (.dup, 1) := by decide +kernel
theorem dX12_init_85 : decode cX12_init 85 = .ok (.bipush 7, 2) := by decide +kernel
theorem dX12_init_87 : decode cX12_init 87 = .ok (.ldc2_w 38, 3) := by decide +kernel
theorem dX12_init_90 : decode cX12_init 90 = .ok (.lastore, 1) := by decide +kernel
theorem dX12_init_91 : decode cX12_init 91 = .ok (.dup, 1) := by decide +kernel
theorem dX12_init_92 : decode cX12_init 92 = .ok (.bipush 8, 2) := by decide +kernel
theorem dX12_init_94 : decode cX12_init 94 = .ok (.ldc2_w 40, 3) := by decide +kernel
theorem dX12_init_97 : decode cX12_init 97 = .ok (.lastore, 1) := by decide +kernel
theorem dX12_init_98 : decode cX12_init 98 = .ok (.dup, 1) := by decide +kernel
theorem dX12_init_99 : decode cX12_init 99 = .ok (.bipush 9, 2) := by decide +kernel
theorem dX12_init_101 : decode cX12_init 101 = .ok (.ldc2_w 42, 3) := by decide +kernel
theorem dX12_init_104 : decode cX12_init 104 = .ok (.lastore, 1) := by decide +kernel
theorem dX12_init_105 : decode cX12_init 105 = .ok (.dup, 1) := by decide +kernel
theorem dX12_init_106 : decode cX12_init 106 = .ok (.bipush 10, 2) := by decide +kernel
theorem dX12_init_108 : decode cX12_init 108 = .ok (.ldc2_w 44, 3) := by decide +kernel
theorem dX12_init_111 : decode cX12_init 111 = .ok (.lastore, 1) := by decide +kernel
theorem dX12_init_112 : decode cX12_init 112 = .ok (.dup, 1) := by decide +kernel
theorem dX12_init_113 : decode cX12_init 113 = .ok (.bipush 11, 2) := by decide +kernel
theorem dX12_init_115 : decode cX12_init 115 = .ok (.ldc2_w 46, 3) := by decide +kernel
theorem dX12_init_118 : decode cX12_init 118 = .ok (.lastore, 1) := by decide +kernel
theorem dX12_init_119 : decode cX12_init 119 = .ok (.dup, 1) := by decide +kernel
theorem dX12_init_120 : decode cX12_init 120 = .ok (.bipush 12, 2) := by decide +kernel
theorem dX12_init_122 : decode cX12_init 122 = .ok (.ldc2_w 48, 3) := by decide +kernel
theorem dX12_init_125 : decode cX12_init 125 = .ok (.lastore, 1) := by decide +kernel
theorem dX12_init_126 : decode cX12_init 126 = .ok (.dup, 1) := by decide +kernel
theorem dX12_init_127 : decode cX12_init 127 = .ok (.bipush 13, 2) := by decide +kernel
theorem dX12_init_129 : decode cX12_init 129 = .ok (.ldc2_w 50, 3) := by decide +kernel
theorem dX12_init_132 : decode cX12_init 132 = .ok (.lastore, 1) := by decide +kernel
theorem dX12_init_133 : decode cX12_init 133 = .ok (.dup, 1) := by decide +kernel
theorem dX12_init_134 : decode cX12_init 134 = .ok (.bipush 14, 2) := by decide +kernel
theorem dX12_init_136 : decode cX12_init 136 = .ok (.ldc2_w 52, 3) := by decide +kernel
theorem dX12_init_139 : decode cX12_init 139 = .ok (.lastore, 1) := by decide +kernel
theorem dX12_init_140 : decode cX12_init 140 = .ok (.dup, 1) := by decide +kernel
theorem dX12_init_141 : decode cX12_init 141 = .ok (.bipush 15, 2) := by decide +kernel
theorem dX12_init_143 : decode cX12_init 143 = .ok (.ldc2_w 54, 3) := by decide +kernel
theorem dX12_init_146 : decode cX12_init 146 = .ok (.lastore, 1) := by decide +kernel
theorem dX12_init_147 : decode cX12_init 147 = .ok (.dup, 1) := by decide +kernel
theorem dX12_init_148 : decode cX12_init 148 = .ok (.bipush 16, 2) := by decide +kernel
theorem dX12_init_150 : decode cX12_init 150 = .ok (.ldc2_w 56, 3) := by decide +kernel
theorem dX12_init_153 : decode cX12_init 153 = .ok (.lastore, 1) := by decide +kernel
theorem dX12_init_154 : decode cX12_init 154 = .ok (.dup, 1) := by decide +kernel
theorem dX12_init_155 : decode cX12_init 155 = .ok (.bipush 17, 2) := by decide +kernel
theorem dX12_init_157 : decode cX12_init 157 = .ok (.ldc2_w 58, 3) := by decide +kernel
theorem dX12_init_160 : decode cX12_init 160 = .ok (.lastore, 1) := by decide +kernel
theorem dX12_init_161 : decode cX12_init 161 = .ok (.dup, 1) := by decide +kernel
theorem dX12_init_162 : decode cX12_init 162 = .ok (.bipush 18, 2) := by decide +kernel
theorem dX12_init_164 : decode cX12_init 164 = .ok (.ldc2_w 60, 3) := by decide +kernel
theorem dX12_init_167 : decode cX12_init 167 = .ok (.lastore, 1) := by decide +kernel
theorem dX12_init_168 : decode cX12_init 168 = .ok (.dup, 1) := by decide +kernel
theorem dX12_init_169 : decode cX12_init 169 = .ok (.bipush 19, 2) := by decide +kernel
theorem dX12_init_171 : decode cX12_init 171 = .ok (.ldc2_w 62, 3) := by decide +kernel
theorem dX12_init_174 : decode cX12_init 174 = .ok (.lastore, 1) := by decide +kernel
theorem dX12_init_175 : decode cX12_init 175 = .ok (.dup, 1) := by decide +kernel
theorem dX12_init_176 : decode cX12_init 176 = .ok (.bipush 20, 2) := by decide +kernel
theorem dX12_init_178 : decode cX12_init 178 = .ok (.ldc2_w 64, 3) := by decide +kernel
theorem dX12_init_181 : decode cX12_init 181 = .ok (.lastore, 1) := by decide +kernel
theorem dX12_init_182 : decode cX12_init 182 = .ok (.dup, 1) := by decide +kernel
theorem dX12_init_183 : decode cX12_init 183 = .ok (.bipush 21, 2) := by decide +kernel
theorem dX12_init_185 : decode cX12_init 185 = .ok (.ldc2_w 66, 3) := by decide +kernel
theorem dX12_init_188 : decode cX12_init 188 = .ok (.lastore, 1) := by decide +kernel
theorem dX12_init_189 : decode cX12_init 189 = .ok (.dup, 1) := by decide +kernel
theorem dX12_init_190 : decode cX12_init 190 = .ok (.bipush 22, 2) := by decide +kernel
theorem dX12_init_192 : decode cX12_init 192 = .ok (.ldc2_w 68, 3) := by decide +kernel
theorem dX12_init_195 : decode cX12_init 195 = .ok (.lastore, 1) := by decide +kernel
theorem dX12_init_196 : decode cX12_init 196 = .ok (.dup, 1) := by decide +kernel
theorem dX12_init_197 : decode cX12_init 197 = .ok (.bipush 23, 2) := by decide +kernel
theorem dX12_init_199 : decode cX12_init 199 = .ok (.ldc2_w 70, 3) := by decide +kernel
theorem dX12_init_202 : decode cX12_init 202 = .ok (.lastore, 1) := by decide +kernel
theorem dX12_init_203 : decode cX12_init 203 = .ok (.dup, 1) := by decide +kernel
theorem dX12_init_204 : decode cX12_init 204 = .ok (.bipush 24, 2) := by decide +kernel
theorem dX12_init_206 : decode cX12_init 206 = .ok (.ldc2_w 72, 3) := by decide +kernel
theorem dX12_init_209 : decode cX12_init 209 = .ok (.lastore, 1) := by decide +kernel
theorem dX12_init_210 : decode cX12_init 210 = .ok (.dup, 1) := by decide +kernel
theorem dX12_init_211 : decode cX12_init 211 = .ok (.bipush 25, 2) := by decide +kernel
theorem dX12_init_213 : decode cX12_init 213 = .ok (.ldc2_w 74, 3) := by decide +kernel
theorem dX12_init_216 : decode cX12_init 216 = .ok (.lastore, 1) := by decide +kernel
theorem dX12_init_217 : decode cX12_init 217 = .ok (.dup, 1) := by decide +kernel
theorem dX12_init_218 : decode cX12_init 218 = .ok (.bipush 26, 2) := by decide +kernel
theorem dX12_init_220 : decode cX12_init 220 = .ok (.ldc2_w 76, 3) := by decide +kernel
theorem dX12_init_223 : decode cX12_init 223 = .ok (.lastore, 1) := by decide +kernel
theorem dX12_init_224 : decode cX12_init 224 = .ok (.dup, 1) := by decide +kernel
theorem dX12_init_225 : decode cX12_init 225 = .ok (.bipush 27, 2) := by decide +kernel
theorem dX12_init_227 : decode cX12_init 227 = .ok (.ldc2_w 78, 3) := by decide +kernel
theorem dX12_init_230 : decode cX12_init 230 = .ok (.lastore, 1) := by decide +kernel
theorem dX12_init_231 : decode cX12_init 231 = .ok (.dup, 1) := by decide +kernel
theorem dX12_init_232 : decode cX12_init 232 = .ok (.bipush 28, 2) := by decide +kernel
theorem dX12_init_234 : decode cX12_init 234 = .ok (.ldc2_w 80, 3) := by decide +kernel
theorem dX12_init_237 : decode cX12_init 237 = .ok (.lastore, 1) := by decide +kernel
theorem dX12_init_238 : decode cX12_init 238 = .ok (.dup, 1) := by decide +kernel
theorem dX12_init_239 : decode cX12_init 239 = .ok (.bipush 29, 2) := by decide +kernel
theorem dX12_init_241 : decode cX12_init 241 = .ok (.ldc2_w 82, 3) := by decide +kernel
theorem dX12_init_244 : decode cX12_init 244 = .ok (.lastore, 1) := by decide +kernel
theorem dX12_init_245 : decode cX12_init 245 = .ok (.dup, 1) := by decide +kernel
theorem dX12_init_246 : decode cX12_init 246 = .ok (.bipush 30, 2) := by decide +kernel
theorem dX12_init_248 : decode cX12_init 248 = .ok (.ldc2_w 84, 3) := by decide +kernel
theorem dX12_init_251 : decode cX12_init 251 = .ok (.lastore, 1) := by decide +kernel
theorem dX12_init_252 : decode cX12_init 252 = .ok (.putfield 86, 3) := by decide +kernel
theorem dX12_init_255 : decode cX12_init 255 = .ok (.aload_n 0, 1) := by decide +kernel
theorem dX12_init_256 : decode cX12_init 256 = .ok (.bipush 31, 2) := by decide +kernel
theorem dX12_init_258 : decode cX12_init 258 = .ok (.newarray .int, 2) := by decide +kernel
theorem dX12_init_260 : decode cX12_init 260 = .ok (.dup, 1) := by decide +kernel
theorem dX12_init_261 : decode cX12_init 261 = .ok (.iconst 0, 1) := by decide +kernel
theorem dX12_init_262 : decode cX12_init 262 = .ok (.iconst 1, 1) := by decide +kernel
theorem dX12_init_263 : decode cX12_init 263 = .ok (.iastore, 1) := by decide +kernel
theorem dX12_init_264 : decode cX12_init 264 = .ok (.dup, 1) := by decide +kernel
theorem dX12_init_265 : decode cX12_init 265 = .ok (.iconst 1, 1) := by decide +kernel
theorem dX12_init_266 : decode cX12_init 266 = .ok (.iconst 2, 1) := by decide +kernel
theorem dX12_init_267 : decode cX12_init 267 = .ok (.iastore, 1) := by decide +kernel
theorem dX12_init_268 : decode cX12_init 268 = .ok (.dup, 1) := by decide +kernel
theorem dX12_init_269 : decode cX12_init 269 = .ok (.iconst 2, 1) := by decide +kernel
theorem dX12_init_270 : decode cX12_init 270 = .ok (.iconst 0, 1) := by decide +kernel
theorem dX12_init_271 : decode cX12_init 271 = .ok (.iastore, 1) := by decide +kernel
theorem dX12_init_272 : decode cX12_init 272 = .ok (.dup, 1) := by decide +kernel
theorem dX12_init_273 : decode cX12_init 273 = .ok (.iconst 3, 1) := by decide +kernel
theorem dX12_init_274 : decode cX12_init 274 = .ok (.iconst 2, 1) := by decide +kernel
theorem dX12_init_275 : decode cX12_init 275 = .ok (.iastore, 1) := by decide +kernel
theorem dX12_init_276 : decode cX12_init 276 = .ok (.dup, 1) := by decide +kernel
theorem dX12_init_277 : decode cX12_init 277 = .ok (.iconst 4, 1) := by decide +kernel
theorem dX12_init_278 : decode cX12_init 278 = .ok (.iconst 1, 1) := by decide +kernel
theorem dX12_init_279 : decode cX12_init 279 = .ok (.iastore, 1) := by decide +kernel
theorem dX12_init_280 : decode cX12_init 280 = .ok (.dup, 1) := by decide +kernel
theorem dX12_init_281 : decode cX12_init 281 = .ok (.iconst 5, 1) := by decide +kernel
theorem dX12_init_282 : decode cX12_init 282 = .ok (.iconst 1, 1) := by decide +kernel
theorem dX12_init_283 : decode cX12_init 283 = .ok (.iastore, 1) := by decide +kernel
theorem dX12_init_284 : decode cX12_init 284 = .ok (.dup, 1) := by decide +kernel
theorem dX12_init_285 : decode cX12_init 285 = .ok (.bipush 6, 2) := by decide +kernel
theorem dX12_init_287 : decode cX12_init 287 = .ok (.iconst 1, 1) := by decide +kernel
theorem dX12_init_288 : decode cX12_init 288 = .ok (.iastore, 1) := by decide +kernel
theorem dX12_init_289 : decode cX12_init 289 = .ok (.dup, 1) := by decide +kernel
theorem dX12_init_290 : decode cX12_init 290 = .ok (.bipush 7, 2) := by decide +kernel
theorem dX12_init_292 : decode cX12_init 292 = .ok (.iconst 2, 1) := by decide +kernel
theorem dX12_init_293 : decode cX12_init 293 = .ok (.iastore, 1) := by decide +kernel
theorem dX12_init_294 : decode cX12_init 294 = .ok (.dup, 1) := by decide +kernel
theorem dX12_init_295 : decode cX12_init 295 = .ok (.bipush 8, 2) := by decide +kernel
theorem dX12_init_297 : decode cX12_init 297 = .ok (.iconst 1, 1) := by decide +kernel
theorem dX12_init_298 : decode cX12_init 298 = .ok (.iastore, 1) := by decide +kernel
theorem dX12_init_299 : decode cX12_init 299 = .ok (.dup, 1) := by decide +kernel
theorem dX12_init_300 : decode cX12_init 300 = .ok (.bipush 9, 2) := by decide +kernel
theorem dX12_init_302 : decode cX12_init 302 = .ok (.iconst 1, 1) := by decide +kernel
theorem dX12_init_303 : decode cX12_init 303 = .ok (.iastore, 1) := by decide +kernel
theorem dX12_init_304 : decode cX12_init 304 = .ok (.dup, 1) := by decide +kernel
theorem dX12_init_305 : decode cX12_init 305 = .ok (.bipush 10, 2) := by decide +kernel
theorem dX12_init_307 : decode cX12_init 307 = .ok (.iconst 2, 1) := by decide +kernel
theorem dX12_init_308 : decode cX12_init 308 = .ok (.iastore, 1) := by decide +kernel
theorem dX12_init_309 : decode cX12_init 309 = .ok (.dup, 1) := by decide +kernel
theorem dX12_init_310 : decode cX12_init 310 = .ok (.bipush 11, 2) := by decide +kernel
theorem dX12_init_312 : decode cX12_init 312 = .ok (.iconst 2, 1) := by decide +kernel
theorem dX12_init_313 : decode cX12_init 313 = .ok (.iastore, 1) := by decide +kernel
theorem dX12_init_314 : decode cX12_init 314 = .ok (.dup, 1) := by decide +kernel
theorem dX12_init_315 : decode cX12_init 315 = .ok (.bipush 12, 2) := by decide +kernel
theorem dX12_init_317 : decode cX12_init 317 = .ok (.iconst 2, 1) := by decide +kernel
theorem dX12_init_318 : decode cX12_init 318 = .ok (.iastore, 1) := by decide +kernel
theorem dX12_init_319 : decode cX12_init 319 = .ok (.dup, 1) := by decide +kernel
theorem dX12_init_320 : decode cX12_init 320 = .ok (.bipush 13, 2) := by decide +kernel
theorem dX12_init_322 : decode cX12_init 322 = .ok (.iconst 0, 1) := by decide +kernel
theorem dX12_init_323 : decode cX12_init 323 = .ok (.iastore, 1) := by decide +kernel
theorem dX12_init_324 : decode cX12_init 324 = .ok (.dup, 1) := by decide +kernel
theorem dX12_init_325 : decode cX12_init 325 = .ok (.bipush 14, 2) := by decide +kernel
theorem dX12_init_327 : decode cX12_init 327 = .ok (.iconst 1, 1) := by decide +kernel
theorem dX12_init_328 : decode cX12_init 328 = .ok (.iastore, 1) := by decide +kernel
theorem dX12_init_329 : decode cX12_init 329 = .ok (.dup, 1) := by decide +kernel
theorem dX12_init_330 : decode cX12_init 330 = .ok (.bipush 15, 2) := by decide +kernel
theorem dX12_init_332 : decode cX12_init 332 = .ok (.iconst 2, 1) := by decide +kernel
theorem dX12_init_333 : decode cX12_init 333 = .ok (.iastore, 1) := by decide +kernel
theorem dX12_init_334 : decode cX12_init 334 = .ok (.dup, 1) := by decide +kernel
theorem dX12_init_335 : decode cX12_init 335 = .ok (.bipush 16, 2) := by decide +kernel
theorem dX12_init_337 : decode cX12_init 337 = .ok (.iconst 2, 1) := by decide +kernel
theorem dX12_init_338 : decode cX12_init 338 = .ok (.iastore, 1) := by decide +kernel
theorem dX12_init_339 : decode cX12_init 339 = .ok (.dup, 1) := by decide +kernel
theorem dX12_init_340 : decode cX12_init 340 = .ok (.bipush 17, 2) := by decide +kernel
theorem dX12_init_342 : decode cX12_init 342 = .ok (.iconst 2, 1) := by decide +kernel
theorem dX12_init_343 : decode cX12_init 343 = .ok (.iastore, 1) := by decide +kernel
theorem dX12_init_344 : decode cX12_init 344 = .ok (.dup, 1) := by decide +kernel
theorem dX12_init_345 : decode cX12_init 345 = .ok (.bipush 18, 2) := by decide +kernel
theorem dX12_init_347 : decode cX12_init 347 = .ok (.iconst 2, 1) := by decide +kernel
theorem dX12_init_348 : decode cX12_init 348 = .ok (.iastore, 1) := by decide +kernel
theorem dX12_init_349 : decode cX12_init 349 = .ok (.dup, 1) := by decide +kernel
theorem dX12_init_350 : decode cX12_init 350 = .ok (.bipush 19, 2) := by decide +kernel
theorem dX12_init_352 : decode cX12_init 352 = .ok (.iconst 2, 1) := by decide +kernel
theorem dX12_init_353 : decode cX12_init 353 = .ok (.iastore, 1) := by decide +kernel
theorem dX12_init_354 : decode cX12_init 354 = .ok (.dup, 1) := by decide +kernel
theorem dX12_init_355 : decode cX12_init 355 = .ok (.bipush 20, 2) := by decide +kernel
theorem dX12_init_357 : decode cX12_init 357 = .ok (.iconst 2, 1) := by decide +kernel
theorem dX12_init_358 : decode cX12_init 358 = .ok (.iastore, 1) := by decide +kernel
theorem dX12_init_359 : decode cX12_init 359 = .ok (.dup, 1) := by decide +kernel
theorem dX12_init_360 : decode cX12_init 360 = .ok (.bipush 21, 2) := by decide +kernel
theorem dX12_init_362 : decode cX12_init 362 = .ok (.iconst 2, 1) := by decide +kernel
theorem dX12_init_363 : decode cX12_init 363 = .ok (.iastore, 1) := by decide +kernel
theorem dX12_init_364 : decode cX12_init 364 = .ok (.dup, 1) := by decide +kernel
theorem dX12_init_365 : decode cX12_init 365 = .ok (.bipush 22, 2) := by decide +kernel
theorem dX12_init_367 : decode cX12_init 367 = .ok (.iconst 2, 1) := by decide +kernel
theorem dX12_init_368 : decode cX12_init 368 = .ok (.iastore, 1) := by decide +kernel
theorem dX12_init_369 : decode cX12_init 369 = .ok (.dup, 1) := by decide +kernel
theorem dX12_init_370 : decode cX12_init 370 = .ok (.bipush 23, 2) := by decide +kernel
theorem dX12_init_372 : decode cX12_init 372 = .ok (.iconst 2, 1) := by decide +kernel
theorem dX12_init_373 : decode cX12_init 373 = .ok (.iastore, 1) := by decide +kernel
theorem dX12_init_374 : decode cX12_init 374 = .ok (.dup, 1) := by decide +kernel
theorem dX12_init_375 : decode cX12_init 375 = .ok (.bipush 24, 2) := by decide +kernel
theorem dX12_init_377 : decode cX12_init 377 = .ok (.iconst 2, 1) := by decide +kernel
theorem dX12_init_378 : decode cX12_init 378 = .ok (.iastore, 1) := by decide +kernel
theorem dX12_init_379 : decode cX12_init 379 = .ok (.dup, 1) := by decide +kernel
theorem dX12_init_380 : decode cX12_init 380 = .ok (.bipush 25, 2) := by decide +kernel
theorem dX12_init_382 : decode cX12_init 382 = .ok (.iconst 2, 1) := by decide +kernel
theorem dX12_init_383 : decode cX12_init 383 = .ok (.iastore, 1) := by decide +kernel
theorem dX12_init_384 : decode cX12_init 384 = .ok (.dup, 1) := by decide +kernel
theorem dX12_init_385 : decode cX12_init 385 = .ok (.bipush 26, 2) := by decide +kernel
theorem dX12_init_387 : decode cX12_init 387 = .ok (.iconst 2, 1) := by decide +kernel
theorem dX12_init_388 : decode cX12_init 388 = .ok (.iastore, 1) := by decide +kernel
theorem dX12_init_389 : decode cX12_init 389 = .ok (.dup, 1) := by decide +kernel
theorem dX12_init_390 : decode cX12_init 390 = .ok (.bipush 27, 2) := by decide +kernel
theorem dX12_init_392 : decode cX12_init 392 = .ok (.iconst 3, 1) := by decide +kernel
theorem dX12_init_393 : decode cX12_init 393 = .ok (.iastore, 1) := by decide +kernel
theorem dX12_init_394 : decode cX12_init 394 = .ok (.dup, 1) := by decide +kernel
theorem dX12_init_395 : decode cX12_init 395 = .ok (.bipush 28, 2) := by decide +kernel
theorem dX12_init_397 : decode cX12_init 397 = .ok (.iconst 1, 1) := by decide +kernel
theorem dX12_init_398 : decode cX12_init 398 = .ok (.iastore, 1) := by decide +kernel
theorem dX12_init_399 : decode cX12_init 399 = .ok (.dup, 1) := by decide +kernel
theorem dX12_init_400 : decode cX12_init 400 = .ok (.bipush 29, 2) := by decide +kernel
theorem dX12_init_402 : decode cX12_init 402 = .ok (.iconst 1, 1) := by decide +kernel
theorem dX12_init_403 : decode cX12_init 403 = .ok (.iastore, 1) := by decide +kernel
theorem dX12_init_404 : decode cX12_init 404 = .ok (.dup, 1) := by decide +kernel
theorem dX12_init_405 : decode cX12_init 405 = .ok (.bipush 30, 2) := by decide +kernel
theorem dX12_init_407 : decode cX12_init 407 = .ok (.iconst 0, 1) := by decide +kernel
theorem dX12_init_408 : decode cX12_init 408 = .ok (.iastore, 1) := by decide +kernel
theorem dX12_init_409 : decode cX12_init 409 = .ok (.putfield 89, 3) := by decide +kernel
theorem dX12_init_412 : decode cX12_init 412 = .ok (.aload_n 0, 1) := by decide +kernel
theorem dX12_init_413 : decode cX12_init 413 = .ok (.bipush 31, 2) := by decide +kernel
theorem dX12_init_415 : decode cX12_init 415 = .ok (.newarray .int, 2) := by decide +kernel
theorem dX12_init_417 : decode cX12_init 417 = .ok (.dup, 1) := by decide +kernel
theorem dX12_init_418 : decode cX12_init 418 = .ok (.iconst 0, 1) := by decide +kernel
theorem dX12_init_419 : decode cX12_init 419 = .ok (.iconst 1, 1) := by decide +kernel
theorem dX12_init_420 : decode cX12_init 420 = .ok (.iastore, 1) := by decide +kernel
theorem dX12_init_421 : decode cX12_init 421 = .ok (.dup, 1) := by decide +kernel
theorem dX12_init_422 : decode cX12_init 422 = .ok (.iconst 1, 1) := by decide +kernel
theorem dX12_init_423 : decode cX12_init 423 = .ok (.iconst 3, 1) := by decide +kernel
theorem dX12_init_424 : decode cX12_init 424 = .ok (.iastore, 1) := by decide +kernel
theorem dX12_init_425 : decode cX12_init 425 = .ok (.dup, 1) := by decide +kernel
theorem dX12_init_426 : decode cX12_init 426 = .ok (.iconst 2, 1) := by decide +kernel
theorem dX12_init_427 : decode cX12_init 427 = .ok (.sipush 9999, 3) := by decide +kernel
theorem dX12_init_430 : decode cX12_init 430 = .ok (.iastore, 1) := by decide +kernel
theorem dX12_init_431 : decode cX12_init 431 = .ok (.dup, 1) := by decide +kernel
theorem dX12_init_432 : decode cX12_init 432 = .ok (.iconst 3, 1) := by decide +kernel
theorem dX12_init_433 : decode cX12_init 433 = .ok (.iconst 2, 1) := by decide +kernel
theorem dX12_init_434 : decode cX12_init 434 = .ok (.iastore, 1) := by decide +kernel
theorem dX12_init_435 : decode cX12_init 435 = .ok (.dup, 1) := by decide +kernel
theorem dX12_init_436 : decode cX12_init 436 = .ok (.iconst 4, 1) := by decide +kernel
theorem dX12_init_437 : decode cX12_init 437 = .ok (.sipush 9999, 3) := by decide +kernel
theorem dX12_init_440 : decode cX12_init 440 = .ok (.iastore, 1) := by decide +kernel
theorem dX12_init_441 : decode cX12_init 441 = .ok (.dup, 1) := by decide +kernel
theorem dX12_init_442 : decode cX12_init 442 = .ok (.iconst 5, 1) := by decide +kernel
theorem dX12_init_443 : decode cX12_init 443 = .ok (.sipush 9999, 3) := by decide +kernel
theorem dX12_init_446 : decode cX12_init 446 = .ok (.iastore, 1) := by decide +kernel
theorem dX12_init_447 : decode cX12_init 447 = .ok (.dup, 1) := by decide +kernel
theorem dX12_init_448 : decode cX12_init 448 = .ok (.bipush 6, 2) := by decide +kernel
theorem dX12_init_450 : decode cX12_init 450 = .ok (.sipush 9999, 3) := by decide +kernel
theorem dX12_init_453 : decode cX12_init 453 = .ok (.iastore, 1) := by decide +kernel
theorem dX12_init_454 : decode cX12_init 454 = .ok (.dup, 1) := by decide +kernel
theorem dX12_init_455 : decode cX12_init 455 = .ok (.bipush 7, 2) := by decide +kernel
theorem dX12_init_457 : decode cX12_init 457 = .ok (.iconst 2, 1) := by decide +kernel
theorem dX12_init_458 : decode cX12_init 458 = .ok (.iastore, 1) := by decide +kernel
theorem dX12_init_459 : decode cX12_init 459 = .ok (.dup, 1) := by decide +kernel
theorem dX12_init_460 : decode cX12_init 460 = .ok (.bipush 8, 2) := by decide +kernel
theorem dX12_init_462 : decode cX12_init 462 = .ok (.iconst 1, 1) := by decide +kernel
theorem dX12_init_463 : decode cX12_init 463 = .ok (.iastore, 1) := by decide +kernel
theorem dX12_init_464 : decode cX12_init 464 = .ok (.dup, 1) := by decide +kernel
theorem dX12_init_465 : decode cX12_init 465 = .ok (.bipush 9, 2) := by decide +kernel
theorem dX12_init_467 : decode cX12_init 467 = .ok (.iconst 1, 1) := by decide +kernel
theorem dX12_init_468 : decode cX12_init 468 = .ok (.iastore, 1) := by decide +kernel
theorem dX12_init_469 : decode cX12_init 469 = .ok (.dup, 1) := by decide +kernel
theorem dX12_init_470 : decode cX12_init 470 = .ok (.bipush 10, 2) := by decide +kernel
theorem dX12_init_472 : decode cX12_init 472 = .ok (.iconst 2, 1) := by decide +kernel
theorem dX12_init_473 : decode cX12_init 473 = .ok (.iastore, 1) := by decide +kernel
theorem dX12_init_474 : decode cX12_init 474 = .ok (.dup, 1) := by decide +kernel
theorem dX12_init_475 : decode cX12_init 475 = .ok (.bipush 11, 2) := by decide +kernel
theorem dX12_init_477 : decode cX12_init 477 = .ok (.iconst 2, 1) := by decide +kernel
theorem dX12_init_478 : decode cX12_init 478 = .ok (.iastore, 1) := by decide +kernel
theorem dX12_init_479 : decode cX12_init 479 = .ok (.dup, 1) := by decide +kernel
theorem dX12_init_480 : decode cX12_init 480 = .ok (.bipush 12, 2) := by decide +kernel
theorem dX12_init_482 : decode cX12_init 482 = .ok (.iconst 2, 1) := by decide +kernel
theorem dX12_init_483 : decode cX12_init 483 = .ok (.iastore, 1) := by decide +kernel
theorem dX12_init_484 : decode cX12_init 484 = .ok (.dup, 1) := by decide +kernel
theorem dX12_init_485 : decode cX12_init 485 = .ok (.bipush 13, 2) := by decide +kernel
theorem dX12_init_487 : decode cX12_init 487 = .ok (.iconst 4, 1) := by decide +kernel
theorem dX12_init_488 : decode cX12_init 488 = .ok (.iastore, 1) := by decide +kernel
theorem dX12_init_489 : decode cX12_init 489 = .ok (.dup, 1) := by decide +kernel
theorem dX12_init_490 : decode cX12_init 490 = .ok (.bipush 14, 2) := by decide +kernel
theorem dX12_init_492 : decode cX12_init 492 = .ok (.iconst 1, 1) := by decide +kernel
theorem dX12_init_493 : decode cX12_init 493 = .ok (.iastore, 1) := by decide +kernel
theorem dX12_init_494 : decode cX12_init 494 = .ok (.dup, 1) := by decide +kernel
theorem dX12_init_495 : decode cX12_init 495 = .ok (.bipush 15, 2) := by decide +kernel
theorem dX12_init_497 : decode cX12_init 497 = .ok (.iconst 2, 1) := by decide +kernel
theorem dX12_init_498 : decode cX12_init 498 = .ok (.iastore, 1) := by decide +kernel
theorem dX12_init_499 : decode cX12_init 499 = .ok (.dup, 1) := by decide +kernel
theorem dX12_init_500 : decode cX12_init 500 = .ok (.bipush 16, 2) := by decide +kernel
theorem dX12_init_502 : decode cX12_init 502 = .ok (.iconst 2, 1) := by decide +kernel
theorem dX12_init_503 : decode cX12_init 503 = .ok (.iastore, 1) := by decide +kernel
theorem dX12_init_504 : decode cX12_init 504 = .ok (.dup, 1) := by decide +kernel
theorem dX12_init_505 : decode cX12_init 505 = .ok (.bipush 17, 2) := by decide +kernel
theorem dX12_init_507 : decode cX12_init 507 = .ok (.iconst 2, 1) := by decide +kernel
theorem dX12_init_508 : decode cX12_init 508 = .ok (.iastore, 1) := by decide +kernel
theorem dX12_init_509 : decode cX12_init 509 = .ok (.dup, 1) := by decide +kernel
theorem dX12_init_510 : decode cX12_init 510 = .ok (.bipush 18, 2) := by decide +kernel
theorem dX12_init_512 : decode cX12_init 512 = .ok (.iconst 2, 1) := by decide +kernel
theorem dX12_init_513 : decode cX12_init 513 = .ok (.iastore, 1) := by decide +kernel
theorem dX12_init_514 : decode cX12_init 514 = .ok (.dup, 1) := by decide +kernel
theorem dX12_init_515 : decode cX12_init 515 = .ok (.bipush 19, 2) := by decide +kernel
theorem dX12_init_517 : decode cX12_init 517 = .ok (.iconst 2, 1) := by decide +kernel
theorem dX12_init_518 : decode cX12_init 518 = .ok (.iastore, 1) := by decide +kernel
theorem dX12_init_519 : decode cX12_init 519 = .ok (.dup, 1) := by decide +kernel
theorem dX12_init_520 : decode cX12_init 520 = .ok (.bipush 20, 2) := by decide +kernel
theorem dX12_init_522 : decode cX12_init 522 = .ok (.iconst 2, 1) := by decide +kernel
theorem dX12_init_523 : decode cX12_init 523 = .ok (.iastore, 1) := by decide +kernel
theorem dX12_init_524 : decode cX12_init 524 = .ok (.dup, 1) := by decide +kernel
theorem dX12_init_525 : decode cX12_init 525 = .ok (.bipush 21, 2) := by decide +kernel
theorem dX12_init_527 : decode cX12_init 527 = .ok (.iconst 2, 1) := by decide +kernel
theorem dX12_init_528 : decode cX12_init 528 = .ok (.iastore, 1) := by decide +kernel
theorem dX12_init_529 : decode cX12_init 529 = .ok (.dup, 1) := by decide +kernel
theorem dX12_init_530 : decode cX12_init 530 = .ok (.bipush 22, 2) := by decide +kernel
theorem dX12_init_532 : decode cX12_init 532 = .ok (.iconst 2, 1) := by decide +kernel
theorem dX12_init_533 : decode cX12_init 533 = .ok (.iastore, 1) := by decide +kernel
theorem dX12_init_534 : decode cX12_init 534 = .ok (.dup, 1) := by decide +kernel
theorem dX12_init_535 : decode cX12_init 535 = .ok (.bipush 23, 2) := by decide +kernel
theorem dX12_init_537 : decode cX12_init 537 = .ok (.iconst 2, 1) := by decide +kernel
theorem dX12_init_538 : decode cX12_init 538 = .ok (.iastore, 1) := by decide +kernel
theorem dX12_init_539 : decode cX12_init 539 = .ok (.dup, 1) := by decide +kernel
theorem dX12_init_540 : decode cX12_init 540 = .ok (.bipush 24, 2) := by decide +kernel
theorem dX12_init_542 : decode cX12_init 542 = .ok (.iconst 2, 1) := by decide +kernel
theorem dX12_init_543 : decode cX12_init 543 = .ok (.iastore, 1) := by decide +kernel
theorem dX12_init_544 : decode cX12_init 544 = .ok (.dup, 1) := by decide +kernel
theorem dX12_init_545 : decode cX12_init 545 = .ok (.bipush 25, 2) := by decide +kernel
theorem dX12_init_547 : decode cX12_init 547 = .ok (.iconst 2, 1) := by decide +kernel
theorem dX12_init_548 : decode cX12_init 548 = .ok (.iastore, 1) := by decide +kernel
theorem dX12_init_549 : decode cX12_init 549 = .ok (.dup, 1) := by decide +kernel
theorem dX12_init_550 : decode cX12_init 550 = .ok (.bipush 26, 2) := by decide +kernel
theorem dX12_init_552 : decode cX12_init 552 = .ok (.iconst 2, 1) := by decide +kernel
theorem dX12_init_553 : decode cX12_init 553 = .ok (.iastore, 1) := by decide +kernel
theorem dX12_init_554 : decode cX12_init 554 = .ok (.dup, 1) := by decide +kernel
theorem dX12_init_555 : decode cX12_init 555 = .ok (.bipush 27, 2) := by decide +kernel
theorem dX12_init_557 : decode cX12_init 557 = .ok (.iconst 3, 1) := by decide +kernel
theorem dX12_init_558 : decode cX12_init 558 = .ok (.iastore, 1) := by decide +kernel
theorem dX12_init_559 : decode cX12_init 559 = .ok (.dup, 1) := by decide +kernel
theorem dX12_init_560 : decode cX12_init 560 = .ok (.bipush 28, 2) := by decide +kernel
theorem dX12_init_562 : decode cX12_init 562 = .ok (.iconst 1, 1) := by decide +kernel
theorem dX12_init_563 : decode cX12_init 563 = .ok (.iastore, 1) := by decide +kernel
theorem dX12_init_564 : decode cX12_init 564 = .ok (.dup, 1) := by decide +kernel
theorem dX12_init_565 : decode cX12_init 565 = .ok (.bipush 29, 2) := by decide +kernel
theorem dX12_init_567 : decode cX12_init 567 = .ok (.iconst 1, 1) := by decide +kernel
theorem dX12_init_568 : decode cX12_init 568 = .ok (.iastore, 1) := by decide +kernel
theorem dX12_init_569 : decode cX12_init 569 = .ok (.dup, 1) := by decide +kernel
theorem dX12_init_570 : decode cX12_init 570 = .ok (.bipush 30, 2) := by decide +kernel
theorem dX12_init_572 : decode cX12_init 572 = .ok (.iconst 0, 1) := by decide +kernel
theorem dX12_init_573 : decode cX12_init 573 = .ok (.iastore, 1) := by decide +kernel
theorem dX12_init_574 : decode cX12_init 574 = .ok (.putfield 92, 3) := by decide +kernel
theorem dX12_init_577 : decode cX12_init 577 = .ok (.aload_n 0, 1) := by decide +kernel
theorem dX12_init_578 : decode cX12_init 578 = .ok (.sipush 1100, 3) := by decide +kernel
theorem dX12_init_581 : decode cX12_init 581 = .ok (.newarray .int, 2) := by decide +kernel
theorem dX12_init_583 : decode cX12_init 583 = .ok (.putfield 95, 3) := by decide +kernel
theorem dX12_init_586 : decode cX12_init 586 = .ok (.aload_n 0, 1) := by decide +kernel
theorem dX12_init_587 : decode cX12_init 587 = .ok (.sipush 1100, 3) := by decide +kernel
theorem dX12_init_590 : decode cX12_init 590 = .ok (.newarray .int, 2) := by decide +kernel
theorem dX12_init_592 : decode cX12_init 592 = .ok (.putfield 98, 3) := by decide +kernel
theorem dX12_init_595 : decode cX12_init 595 = .ok (.aload_n 0, 1) := by decide +kernel
theorem dX12_init_596 : decode cX12_init 596 = .ok (.sipush 168, 3) := by decide +kernel
theorem dX12_init_599 : decode cX12_init 599 = .ok (.newarray .int, 2) := by decide +kernel
theorem dX12_init_601 : decode cX12_init 601 = .ok (.putfield 101, 3) := by decide +kernel
theorem dX12_init_604 : decode cX12_init 604 = .ok (.aload_n 0, 1) := by decide +kernel
theorem dX12_init_605 : decode cX12_init 605 = .ok (.sipush 168, 3) := by decide +kernel
theorem dX12_init_608 : decode cX12_init 608 = .ok (.newarray .int, 2) := by decide +kernel
theorem dX12_init_610 : decode cX12_init 610 = .ok (.putfield 104, 3) := by decide +kernel
theorem dX12_init_613 : decode cX12_init 613 = .ok (.aload_n 0, 1) := by decide +kernel
theorem dX12_init_614 : decode cX12_init 614 = .ok (.sipush 1344, 3) := by decide +kernel
theorem dX12_init_617 : decode cX12_init 617 = .ok (.newarray .int, 2) := by decide +kernel
theorem dX12_init_619 : decode cX12_init 619 = .ok (.putfield 107, 3) := by decide +kernel
theorem dX12_init_622 : decode cX12_init 622 = .ok (.aload_n 0, 1) := by decide +kernel
theorem dX12_init_623 : decode cX12_init 623 = .ok (.sipush 168, 3) := by decide +kernel
theorem dX12_init_626 : decode cX12_init 626 = .ok (.newarray .boolean, 2) := by decide +kernel
theorem dX12_init_628 : decode cX12_init 628 = .ok (.putfield 110, 3) := by decide +kernel
theorem dX12_init_631 : decode cX12_init 631 = .ok (.aload_n 0, 1) := by decide +kernel
theorem dX12_init_632 : decode cX12_init 632 = .ok (.bipush 13, 2) := by decide +kernel
theorem dX12_init_634 : decode cX12_init 634 = .ok (.newarray .boolean, 2) := by decide +kernel
theorem dX12_init_636 : decode cX12_init 636 = .ok (.putfield 113, 3) := by decide +kernel
theorem dX12_init_639 : decode cX12_init 639 = .ok (.aload_n 0, 1) := by decide +kernel
theorem dX12_init_640 : decode cX12_init 640 = .ok (.bipush 13, 2) := by decide +kernel
theorem dX12_init_642 : decode cX12_init 642 = .ok (.newarray .int, 2) := by decide +kernel
theorem dX12_init_644 : decode cX12_init 644 = .ok (.putfield 116, 3) := by decide +kernel
theorem dX12_init_647 : decode cX12_init 647 = .ok (.aload_n 0, 1) := by decide +kernel
theorem dX12_init_648 : decode cX12_init 648 = .ok (.bipush 13, 2) := by decide +kernel
theorem dX12_init_650 : decode cX12_init 650 = .ok (.newarray .int, 2) := by decide +kernel
theorem dX12_init_652 : decode cX12_init 652 = .ok (.putfield 119, 3) := by decide +kernel
theorem dX12_init_655 : decode cX12_init 655 = .ok (.aload_n 0, 1) := by decide +kernel
theorem dX12_init_656 : decode cX12_init 656 = .ok (.sipush 1002, 3) := by decide +kernel
theorem dX12_init_659 : decode cX12_init 659 = .ok (.newarray .int, 2) := by decide +kernel
theorem dX12_init_661 : decode cX12_init 661 = .ok (.putfield 122, 3) := by decide +kernel
theorem dX12_init_664 : decode cX12_init 664 = .ok (.aload_n 0, 1) := by decide +kernel
theorem dX12_init_665 : decode cX12_init 665 = .ok (.sipush 1002, 3) := by decide +kernel
theorem dX12_init_668 : decode cX12_init 668 = .ok (.newarray .int, 2) := by decide +kernel
theorem dX12_init_670 : decode cX12_init 670 = .ok (.putfield 125, 3) := by decide +kernel
theorem dX12_init_673 : decode cX12_init 673 = .ok (.aload_n 0, 1) := by decide +kernel
theorem dX12_init_674 : decode cX12_init 674 = .ok (.sipush 1002, 3) := by decide +kernel
theorem dX12_init_677 : decode cX12_init 677 = .ok (.newarray .int, 2) := by decide +kernel
theorem dX12_init_679 : decode cX12_init 679 = .ok (.putfield 128, 3) := by decide +kernel
theorem dX12_init_682 : decode cX12_init 682 = .ok (.aload_n 0, 1) := by decide +kernel
theorem dX12_init_683 : decode cX12_init 683 = .ok (.sipush 1002, 3) := by decide +kernel
theorem dX12_init_686 : decode cX12_init 686 = .ok (.newarray .int, 2) := by decide +kernel
theorem dX12_init_688 : decode cX12_init 688 = .ok (.putfield 131, 3) := by decide +kernel
theorem dX12_init_691 : decode cX12_init 691 = .ok (.aload_n 0, 1) := by decide +kernel
theorem dX12_init_692 : decode cX12_init 692 = .ok (.sipush 1002, 3) := by decide +kernel
theorem dX12_init_695 : decode cX12_init 695 = .ok (.newarray .int, 2) := by decide +kernel
theorem dX12_init_697 : decode cX12_init 697 = .ok (.putfield 134, 3) := by decide +kernel
theorem dX12_init_700 : decode cX12_init 700 = .ok (.aload_n 0, 1) := by decide +kernel
theorem dX12_init_701 : decode cX12_init 701 = .ok (.sipush 1002, 3) := by decide +kernel
theorem dX12_init_704 : decode cX12_init 704 = .ok (.newarray .int, 2) := by decide +kernel
theorem dX12_init_706 : decode cX12_init 706 = .ok (.putfield 137, 3) := by decide +kernel
theorem dX12_init_709 : decode cX12_init 709 = .ok (.aload_n 0, 1) := by decide +kernel
theorem dX12_init_710 : decode cX12_init 710 = .ok (.sipush 1100, 3) := by decide +kernel
theorem dX12_init_713 : decode cX12_init 713 = .ok (.newarray .int, 2) := by decide +kernel
theorem dX12_init_715 : decode cX12_init 715 = .ok (.putfield 140, 3) := by decide +kernel
theorem dX12_init_718 : decode cX12_init 718 = .ok (.aload_n 0, 1) := by decide +kernel
theorem dX12_init_719 : decode cX12_init 719 = .ok (.sipush 1100, 3) := by decide +kernel
theorem dX12_init_722 : decode cX12_init 722 = .ok (.newarray .int, 2) := by decide +kernel
theorem dX12_init_724 : decode cX12_init 724 = .ok (.putfield 143, 3) := by decide +kernel
theorem dX12_init_727 : decode cX12_init 727 = .ok (.aload_n 0, 1) := by decide +kernel
theorem dX12_init_728 : decode cX12_init 728 = .ok (.sipush 200, 3) := by decide +kernel
theorem dX12_init_731 : decode cX12_init 731 = .ok (.newarray .char, 2) := by decide +kernel
theorem dX12_init_733 : decode cX12_init 733 = .ok (.putfield 146, 3) := by decide +kernel
theorem dX12_init_736 : decode cX12_init 736 = .ok (.aload_n 0, 1) := by decide +kernel
theorem dX12_init_737 : decode cX12_init 737 = .ok (.bipush 8, 2) := by decide +kernel
theorem dX12_init_739 : decode cX12_init 739 = .ok (.newarray .int, 2) := by decide +kernel
theorem dX12_init_741 : decode cX12_init 741 = .ok (.putfield 150, 3) := by decide +kernel
theorem dX12_init_744 : decode cX12_init 744 = .ok (.aload_n 0, 1) := by decide +kernel
theorem dX12_init_745 : decode cX12_init 745 = .ok (.bipush 10, 2) := by decide +kernel
theorem dX12_init_747 : decode cX12_init 747 = .ok (.newarray .int, 2) := by decide +kernel
theorem dX12_init_749 : decode cX12_init 749 = .ok (.putfield 153, 3) := by decide +kernel
theorem dX12_init_752 : decode cX12_init 752 = .ok (.aload_n 0, 1) := by decide +kernel
theorem dX12_init_753 : decode cX12_init 753 = .ok (.bipush 10, 2) := by decide +kernel
theorem dX12_init_755 : decode cX12_init 755 = .ok (.newarray .int, 2) := by decide +kernel
theorem dX12_init_757 : decode cX12_init 757 = .ok (.putfield 156, 3) := by decide +kernel
theorem dX12_init_760 : decode cX12_init 760 = .ok (.aload_n 0, 1) := by decide +kernel
theorem dX12_init_761 : decode cX12_init 761 = .ok (.bipush 40, 2) := by decide +kernel
theorem dX12_init_763 : decode cX12_init 763 = .ok (.iload_n 1, 1) := by decide +kernel
theorem dX12_init_764 : decode cX12_init 764 = .ok (.bipush 127, 2) := by decide +kernel
theorem dX12_init_766 : decode cX12_init 766 = .ok (.iand, 1) := by decide +kernel
theorem dX12_init_767 : decode cX12_init 767 = .ok (.iadd, 1) := by decide +kernel
theorem dX12_init_768 : decode cX12_init 768 = .ok (.putfield 159, 3) := by decide +kernel
theorem dX12_init_771 : decode cX12_init 771 = .ok (.aload_n 0, 1) := by decide +kernel
theorem dX12_init_772 : decode cX12_init 772 = .ok (.ldc2_w 163, 3) := by decide +kernel
theorem dX12_init_775 : decode cX12_init 775 = .ok (.invokevirtual 165, 3) := by decide +kernel
theorem dX12_init_778 : decode cX12_init 778 = .ok (.pop, 1) := by decide +kernel
theorem dX12_init_779 : decode cX12_init 779 = .ok (.aload_n 0, 1) := by decide +kernel
theorem dX12_init_780 : decode cX12_init 780 = .ok (.ldc2_w 169, 3) := by decide +kernel
theorem dX12_init_783 : decode cX12_init 783 = .ok (.invokevirtual 165, 3) := by decide +kernel
theorem dX12_init_786 : decode cX12_init 786 = .ok (.pop, 1) := by decide +kernel
theorem dX12_init_787 : decode cX12_init 787 = .ok (.aload_n 0, 1) := by decide +kernel
theorem dX12_init_788 : decode cX12_init 788 = .ok (.aload_n 0, 1) := by decide +kernel
theorem dX12_init_789 : decode cX12_init 789 = .ok (.getfield 86, 3) := by decide +kernel
theorem dX12_init_792 : decode cX12_init 792 = .ok (.iconst 0, 1) := by decide +kernel
theorem dX12_init_793 : decode cX12_init 793 = .ok (.laload, 1) := by decide +kernel
theorem dX12_init_794 : decode cX12_init 794 = .ok (.invokevirtual 165, 3) := by decide +kernel
theorem dX12_init_797 : decode cX12_init 797 = .ok (.pop, 1) := by decide +kernel
theorem dX12_init_798 : decode cX12_init 798 = .ok (.aload_n 0, 1) := by decide +kernel
theorem dX12_init_799 : decode cX12_init 799 = .ok (.getfield 17, 3) := by decide +kernel
theorem dX12_init_802 : decode cX12_init 802 = .ok (.iconst 0, 1) := by decide +kernel
theorem dX12_init_803 : decode cX12_init 803 = .ok (.iconst 1, 1) := by decide +kernel
theorem dX12_init_804 : decode cX12_init 804 = .ok (.bastore, 1) := by decide +kernel
theorem dX12_init_805 : decode cX12_init 805 = .ok (.aload_n 0, 1) := by decide +kernel
theorem dX12_init_806 : decode cX12_init 806 = .ok (.getfield 21, 3) := by decide +kernel
theorem dX12_init_809 : decode cX12_init 809 = .ok (.iconst 0, 1) := by decide +kernel
theorem dX12_init_810 : decode cX12_init 810 = .ok (.iconst 3, 1) := by decide +kernel
theorem dX12_init_811 : decode cX12_init 811 = .ok (.iconst 0, 1) := by decide +kernel
theorem dX12_init_812 : decode cX12_init 812 = .ok (.invokestatic 171, 3) := by decide +kernel
theorem dX12_init_815 : decode cX12_init 815 = .ok (.iastore, 1) := by decide +kernel
theorem dX12_init_816 : decode cX12_init 816 = .ok (.return_, 1) := by decide +kernel
theorem dX12_thrown_0 : decode cX12_thrown 0 = .ok (.aload_n 0, 1) := by decide +kernel
theorem dX12_thrown_1 : decode cX12_thrown 1 = .ok (.getfield 175, 3) := by decide +kernel
theorem dX12_thrown_4 : decode cX12_thrown 4 = .ok (.ireturn, 1) := by decide +kernel
theorem dX12_raise_0 : decode cX12_raise 0 = .ok (.aload_n 0, 1) := by decide +kernel
theorem dX12_raise_1 : decode cX12_raise 1 = .ok (.iload_n 1, 1) := by decide +kernel
theorem dX12_raise_2 : decode cX12_raise 2 = .ok (.putfield 175, 3) := by decide +kernel
theorem dX12_raise_5 : decode cX12_raise 5 = .ok (.iconst 0, 1) := by decide +kernel
theorem dX12_raise_6 : decode cX12_raise 6 = .ok (.ireturn, 1) := by decide +kernel
theorem dX12_code_0 : decode cX12_code 0 = .ok (.iload_n 0, 1) := by decide +kernel
theorem dX12_code_1 : decode cX12_code 1 = .ok (.bipush 20, 2) := by decide +kernel
theorem dX12_code_3 : decode cX12_code 3 = .ok (.ishl, 1) := by decide +kernel
theorem dX12_code_4 : decode cX12_code 4 = .ok (.iload_n 1, 1) := by decide +kernel
theorem dX12_code_5 : decode cX12_code 5 = .ok (.ior, 1) := by decide +kernel
theorem dX12_code_6 : decode cX12_code 6 = .ok (.ireturn, 1) := by decide +kernel
theorem dX12_sortOf_0 : decode cX12_sortOf 0 = .ok (.iload_n 0, 1) := by decide +kernel
theorem dX12_sortOf_1 : decode cX12_sortOf 1 = .ok (.bipush 20, 2) := by decide +kernel
theorem dX12_sortOf_3 : decode cX12_sortOf 3 = .ok (.ishr, 1) := by decide +kernel
theorem dX12_sortOf_4 : decode cX12_sortOf 4 = .ok (.ireturn, 1) := by decide +kernel
theorem dX12_load_0 : decode cX12_load 0 = .ok (.iload_n 0, 1) := by decide +kernel
theorem dX12_load_1 : decode cX12_load 1 = .ok (.ldc 178, 2) := by decide +kernel
theorem dX12_load_3 : decode cX12_load 3 = .ok (.iand, 1) := by decide +kernel
theorem dX12_load_4 : decode cX12_load 4 = .ok (.ireturn, 1) := by decide +kernel
theorem dX12_numeral_0 : decode cX12_numeral 0 = .ok (.iconst 2, 1) := by decide +kernel
theorem dX12_numeral_1 : decode cX12_numeral 1 = .ok (.iload_n 0, 1) := by decide +kernel
theorem dX12_numeral_2 : decode cX12_numeral 2 = .ok (.ldc 179, 2) := by decide +kernel
theorem dX12_numeral_4 : decode cX12_numeral 4 = .ok (.iadd, 1) := by decide +kernel
theorem dX12_numeral_5 : decode cX12_numeral 5 = .ok (.invokestatic 171, 3) := by decide +kernel
theorem dX12_numeral_8 : decode cX12_numeral 8 = .ok (.ireturn, 1) := by decide +kernel
theorem dX12_amount_0 : decode cX12_amount 0 = .ok (.iload_n 0, 1) := by decide +kernel
theorem dX12_amount_1 : decode cX12_amount 1 = .ok (.invokestatic 180, 3) := by decide +kernel
theorem dX12_amount_4 : decode cX12_amount 4 = .ok (.ldc 179, 2) := by decide +kernel
theorem dX12_amount_6 : decode cX12_amount 6 = .ok (.isub, 1) := by decide +kernel
theorem dX12_amount_7 : decode cX12_amount 7 = .ok (.ireturn, 1) := by decide +kernel
theorem dX12_truth_0 : decode cX12_truth 0 = .ok (.iload_n 1, 1) := by decide +kernel
theorem dX12_truth_1 : decode cX12_truth 1 = .ok (.ifCond .eq 11, 3) := by decide +kernel
theorem dX12_truth_4 : decode cX12_truth 4 = .ok (.iconst 3, 1) := by decide +kernel
theorem dX12_truth_5 : decode cX12_truth 5 = .ok (.iconst 0, 1) := by decide +kernel
theorem dX12_truth_6 : decode cX12_truth 6 = .ok (.invokestatic 171, 3) := by decide +kernel
theorem dX12_truth_9 : decode cX12_truth 9 = .ok (.goto 5, 3) := by decide +kernel
theorem dX12_truth_12 : decode cX12_truth 12 = .ok (.ldc 184, 2) := by decide +kernel
theorem dX12_truth_14 : decode cX12_truth 14 = .ok (.ireturn, 1) := by decide +kernel
theorem dX12_car_0 : decode cX12_car 0 = .ok (.iload_n 1, 1) := by decide +kernel
theorem dX12_car_1 : decode cX12_car 1 = .ok (.invokestatic 180, 3) := by decide +kernel
theorem dX12_car_4 : decode cX12_car 4 = .ok (.sipush 2000, 3) := by decide +kernel
theorem dX12_car_7 : decode cX12_car 7 = .ok (.if_icmp .ge 15, 3) := by decide +kernel
theorem dX12_car_10 : decode cX12_car 10 = .ok (.aload_n 0, 1) := by decide +kernel
theorem dX12_car_11 : decode cX12_car 11 = .ok (.getfield 95, 3) := by decide +kernel
theorem dX12_car_14 : decode cX12_car 14 = .ok (.iload_n 1, 1) := by decide +kernel
theorem dX12_car_15 : decode cX12_car 15 = .ok (.invokestatic 180, 3) := by decide +kernel
theorem dX12_car_18 : decode cX12_car 18 = .ok (.iaload, 1) := by decide +kernel
theorem dX12_car_19 : decode cX12_car 19 = .ok (.goto 19, 3) := by decide +kernel
theorem dX12_car_22 : decode cX12_car 22 = .ok (.aload_n 0, 1) := by decide +kernel
theorem dX12_car_23 : decode cX12_car 23 = .ok (.getfield 107, 3) := by decide +kernel
theorem dX12_car_26 : decode cX12_car 26 = .ok (.bipush 8, 2) := by decide +kernel
theorem dX12_car_28 : decode cX12_car 28 = .ok (.iload_n 1, 1) := by decide +kernel
theorem dX12_car_29 : decode cX12_car 29 = .ok (.invokestatic 180, 3) := by decide +kernel
theorem dX12_car_32 : decode cX12_car 32 = .ok (.sipush 2000, 3) := by decide +kernel
theorem dX12_car_35 : decode cX12_car 35 = .ok (.isub, 1) := by decide +kernel
theorem dX12_car_36 : decode cX12_car 36 = .ok (.imul, 1) := by decide +kernel
theorem dX12_car_37 : decode cX12_car 37 = .ok (.iaload, 1) := by decide +kernel
theorem dX12_car_38 : decode cX12_car 38 = .ok (.ireturn, 1) := by decide +kernel
theorem dX12_cdr_0 : decode cX12_cdr 0 = .ok (.iload_n 1, 1) := by decide +kernel
theorem dX12_cdr_1 : decode cX12_cdr 1 = .ok (.invokestatic 180, 3) := by decide +kernel
theorem dX12_cdr_4 : decode cX12_cdr 4 = .ok (.sipush 2000, 3) := by decide +kernel
theorem dX12_cdr_7 : decode cX12_cdr 7 = .ok (.if_icmp .ge 15, 3) := by decide +kernel
theorem dX12_cdr_10 : decode cX12_cdr 10 = .ok (.aload_n 0, 1) := by decide +kernel
theorem dX12_cdr_11 : decode cX12_cdr 11 = .ok (.getfield 98, 3) := by decide +kernel
theorem dX12_cdr_14 : decode cX12_cdr 14 = .ok (.iload_n 1, 1) := by decide +kernel
theorem dX12_cdr_15 : decode cX12_cdr 15 = .ok (.invokestatic 180, 3) := by decide +kernel
theorem dX12_cdr_18 : decode cX12_cdr 18 = .ok (.iaload, 1) := by decide +kernel
theorem dX12_cdr_19 : decode cX12_cdr 19 = .ok (.goto 21, 3) := by decide +kernel
theorem dX12_cdr_22 : decode cX12_cdr 22 = .ok (.aload_n 0, 1) := by decide +kernel
theorem dX12_cdr_23 : decode cX12_cdr 23 = .ok (.getfield 107, 3) := by decide +kernel
theorem dX12_cdr_26 : decode cX12_cdr 26 = .ok (.bipush 8, 2) := by decide +kernel
theorem dX12_cdr_28 : decode cX12_cdr 28 = .ok (.iload_n 1, 1) := by decide +kernel
theorem dX12_cdr_29 : decode cX12_cdr 29 = .ok (.invokestatic 180, 3) := by decide +kernel
theorem dX12_cdr_32 : decode cX12_cdr 32 = .ok (.sipush 2000, 3) := by decide +kernel
theorem dX12_cdr_35 : decode cX12_cdr 35 = .ok (.isub, 1) := by decide +kernel
theorem dX12_cdr_36 : decode cX12_cdr 36 = .ok (.imul, 1) := by decide +kernel
theorem dX12_cdr_37 : decode cX12_cdr 37 = .ok (.iconst 1, 1) := by decide +kernel
theorem dX12_cdr_38 : decode cX12_cdr 38 = .ok (.iadd, 1) := by decide +kernel
theorem dX12_cdr_39 : decode cX12_cdr 39 = .ok (.iaload, 1) := by decide +kernel
theorem dX12_cdr_40 : decode cX12_cdr 40 = .ok (.ireturn, 1) := by decide +kernel
theorem dX12_setCar_0 : decode cX12_setCar 0 = .ok (.iload_n 1, 1) := by decide +kernel
theorem dX12_setCar_1 : decode cX12_setCar 1 = .ok (.invokestatic 180, 3) := by decide +kernel
theorem dX12_setCar_4 : decode cX12_setCar 4 = .ok (.sipush 2000, 3) := by decide +kernel
theorem dX12_setCar_7 : decode cX12_setCar 7 = .ok (.if_icmp .ge 16, 3) := by decide +kernel
theorem dX12_setCar_10 : decode cX12_setCar 10 = .ok (.aload_n 0, 1) := by decide +kernel
theorem dX12_setCar_11 : decode cX12_setCar 11 = .ok (.getfield 95, 3) := by decide +kernel
theorem dX12_setCar_14 : decode cX12_setCar 14 = .ok (.iload_n 1, 1) := by decide +kernel
theorem dX12_setCar_15 : decode cX12_setCar 15 = .ok (.invokestatic 180, 3) := by decide +kernel
theorem dX12_setCar_18 : decode cX12_setCar 18 = .ok (.iload_n 2, 1) := by decide +kernel
theorem dX12_setCar_19 : decode cX12_setCar 19 = .ok (.iastore, 1) := by decide +kernel
theorem dX12_setCar_20 : decode cX12_setCar 20 = .ok (.goto 20, 3) := by decide +kernel
theorem dX12_setCar_23 : decode cX12_setCar 23 = .ok (.aload_n 0, 1) := by decide +kernel
theorem dX12_setCar_24 : decode cX12_setCar 24 = .ok (.getfield 107, 3) := by decide +kernel
theorem dX12_setCar_27 : decode cX12_setCar 27 = .ok (.bipush 8, 2) := by decide +kernel
theorem dX12_setCar_29 : decode cX12_setCar 29 = .ok (.iload_n 1, 1) := by decide +kernel
theorem dX12_setCar_30 : decode cX12_setCar 30 = .ok (.invokestatic 180, 3) := by decide +kernel
theorem dX12_setCar_33 : decode cX12_setCar 33 = .ok (.sipush 2000, 3) := by decide +kernel
theorem dX12_setCar_36 : decode cX12_setCar 36 = .ok (.isub, 1) := by decide +kernel
theorem dX12_setCar_37 : decode cX12_setCar 37 = .ok (.imul, 1) := by decide +kernel
theorem dX12_setCar_38 : decode cX12_setCar 38 = .ok (.iload_n 2, 1) := by decide +kernel
theorem dX12_setCar_39 : decode cX12_setCar 39 = .ok (.iastore, 1) := by decide +kernel
theorem dX12_setCar_40 : decode cX12_setCar 40 = .ok (.return_, 1) := by decide +kernel
theorem dX12_setCdr_0 : decode cX12_setCdr 0 = .ok (.iload_n 1, 1) := by decide +kernel
theorem dX12_setCdr_1 : decode cX12_setCdr 1 = .ok (.invokestatic 180, 3) := by decide +kernel
theorem dX12_setCdr_4 : decode cX12_setCdr 4 = .ok (.sipush 2000, 3) := by decide +kernel
theorem dX12_setCdr_7 : decode cX12_setCdr 7 = .ok (.if_icmp .ge 16, 3) := by decide +kernel
theorem dX12_setCdr_10 : decode cX12_setCdr 10 = .ok (.aload_n 0, 1) := by decide +kernel
theorem dX12_setCdr_11 : decode cX12_setCdr 11 = .ok (.getfield 98, 3) := by decide +kernel
theorem dX12_setCdr_14 : decode cX12_setCdr 14 = .ok (.iload_n 1, 1) := by decide +kernel
theorem dX12_setCdr_15 : decode cX12_setCdr 15 = .ok (.invokestatic 180, 3) := by decide +kernel
theorem dX12_setCdr_18 : decode cX12_setCdr 18 = .ok (.iload_n 2, 1) := by decide +kernel
theorem dX12_setCdr_19 : decode cX12_setCdr 19 = .ok (.iastore, 1) := by decide +kernel
theorem dX12_setCdr_20 : decode cX12_setCdr 20 = .ok (.goto 22, 3) := by decide +kernel
theorem dX12_setCdr_23 : decode cX12_setCdr 23 = .ok (.aload_n 0, 1) := by decide +kernel
theorem dX12_setCdr_24 : decode cX12_setCdr 24 = .ok (.getfield 107, 3) := by decide +kernel
theorem dX12_setCdr_27 : decode cX12_setCdr 27 = .ok (.bipush 8, 2) := by decide +kernel
theorem dX12_setCdr_29 : decode cX12_setCdr 29 = .ok (.iload_n 1, 1) := by decide +kernel
theorem dX12_setCdr_30 : decode cX12_setCdr 30 = .ok (.invokestatic 180, 3) := by decide +kernel
theorem dX12_setCdr_33 : decode cX12_setCdr 33 = .ok (.sipush 2000, 3) := by decide +kernel
theorem dX12_setCdr_36 : decode cX12_setCdr 36 = .ok (.isub, 1) := by decide +kernel
theorem dX12_setCdr_37 : decode cX12_setCdr 37 = .ok (.imul, 1) := by decide +kernel
theorem dX12_setCdr_38 : decode cX12_setCdr 38 = .ok (.iconst 1, 1) := by decide +kernel
theorem dX12_setCdr_39 : decode cX12_setCdr 39 = .ok (.iadd, 1) := by decide +kernel
theorem dX12_setCdr_40 : decode cX12_setCdr 40 = .ok (.iload_n 2, 1) := by decide +kernel
theorem dX12_setCdr_41 : decode cX12_setCdr 41 = .ok (.iastore, 1) := by decide +kernel
theorem dX12_setCdr_42 : decode cX12_setCdr 42 = .ok (.return_, 1) := by decide +kernel
theorem dX12_symbolOf_0 : decode cX12_symbolOf 0 = .ok (.iconst 0, 1) := by decide +kernel
theorem dX12_symbolOf_1 : decode cX12_symbolOf 1 = .ok (.istore_n 3, 1) := by decide +kernel
theorem dX12_symbolOf_2 : decode cX12_symbolOf 2 = .ok (.iload_n 3, 1) := by decide +kernel
theorem dX12_symbolOf_3 : decode cX12_symbolOf 3 = .ok (.aload_n 0, 1) := by decide +kernel
theorem dX12_symbolOf_4 : decode cX12_symbolOf 4 = .ok (.getfield 185, 3) := by decide +kernel
theorem dX12_symbolOf_7 : decode cX12_symbolOf 7 = .ok (.if_icmp .ge 22, 3) := by decide +kernel
theorem dX12_symbolOf_10 : decode cX12_symbolOf 10 = .ok (.aload_n 0, 1) := by decide +kernel
theorem dX12_symbolOf_11 : decode cX12_symbolOf 11 = .ok (.getfield 7, 3) := by decide +kernel
theorem dX12_symbolOf_14 : decode cX12_symbolOf 14 = .ok (.iload_n 3, 1) := by decide +kernel
theorem dX12_symbolOf_15 : decode cX12_symbolOf 15 = .ok (.laload, 1) := by decide +kernel
theorem dX12_symbolOf_16 : decode cX12_symbolOf 16 = .ok (.lload_n 1, 1) := by decide +kernel
theorem dX12_symbolOf_17 : decode cX12_symbolOf 17 = .ok (.lcmp, 1) := by decide +kernel
theorem dX12_symbolOf_18 : decode cX12_symbolOf 18 = .ok (.ifCond .ne 5, 3) := by decide +kernel
theorem dX12_symbolOf_21 : decode cX12_symbolOf 21 = .ok (.iload_n 3, 1) := by decide +kernel
theorem dX12_symbolOf_22 : decode cX12_symbolOf 22 = .ok (.ireturn, 1) := by decide +kernel
theorem dX12_symbolOf_23 : decode cX12_symbolOf 23 = .ok (.iinc 3 1, 3) := by decide +kernel
theorem dX12_symbolOf_26 : decode cX12_symbolOf 26 = .ok (.goto (-24), 3) := by decide +kernel
theorem dX12_symbolOf_29 : decode cX12_symbolOf 29 = .ok (.aload_n 0, 1) := by decide +kernel
theorem dX12_symbolOf_30 : decode cX12_symbolOf 30 = .ok (.getfield 185, 3) := by decide +kernel
theorem dX12_symbolOf_33 : decode cX12_symbolOf 33 = .ok (.bipush 40, 2) := by decide +kernel
theorem dX12_symbolOf_35 : decode cX12_symbolOf 35 = .ok (.if_icmp .ne 5, 3) := by decide +kernel
theorem dX12_symbolOf_38 : decode cX12_symbolOf 38 = .ok (.iconst (-1), 1) := by decide +kernel
theorem dX12_symbolOf_39 : decode cX12_symbolOf 39 = .ok (.ireturn, 1) := by decide +kernel
theorem dX12_symbolOf_40 : decode cX12_symbolOf 40 = .ok (.aload_n 0, 1) := by decide +kernel
theorem dX12_symbolOf_41 : decode cX12_symbolOf 41 = .ok (.getfield 7, 3) := by decide +kernel
theorem dX12_symbolOf_44 : decode cX12_symbolOf 44 = .ok (.aload_n 0, 1) := by decide +kernel
theorem dX12_symbolOf_45 : decode cX12_symbolOf 45 = .ok (.getfield 185, 3) := by decide +kernel
theorem dX12_symbolOf_48 : decode cX12_symbolOf 48 = .ok (.lload_n 1, 1) := by decide +kernel
theorem dX12_symbolOf_49 : decode cX12_symbolOf 49 = .ok (.lastore, 1) := by decide +kernel
theorem dX12_symbolOf_50 : decode cX12_symbolOf 50 = .ok (.aload_n 0, 1) := by decide +kernel
theorem dX12_symbolOf_51 : decode cX12_symbolOf 51 = .ok (.getfield 13, 3) := by decide +kernel
theorem dX12_symbolOf_54 : decode cX12_symbolOf 54 = .ok (.aload_n 0, 1) := by decide +kernel
theorem dX12_symbolOf_55 : decode cX12_symbolOf 55 = .ok (.getfield 185, 3) := by decide +kernel
theorem dX12_symbolOf_58 : decode cX12_symbolOf 58 = .ok (.bipush 31, 2) := by decide +kernel
theorem dX12_symbolOf_60 : decode cX12_symbolOf 60 = .ok (.iastore, 1) := by decide +kernel
theorem dX12_symbolOf_61 : decode cX12_symbolOf 61 = .ok (.iconst 0, 1) := by decide +kernel
theorem dX12_symbolOf_62 : decode cX12_symbolOf 62 = .ok (.istore_n 3, 1) := by decide +kernel
theorem dX12_symbolOf_63 : decode cX12_symbolOf 63 = .ok (.iload_n 3, 1) := by decide +kernel
theorem dX12_symbolOf_64 : decode cX12_symbolOf 64 = .ok (.bipush 31, 2) := by decide +kernel
theorem dX12_symbolOf_66 : decode cX12_symbolOf 66 = .ok (.if_icmp .ge 30, 3) := by decide +kernel
theorem dX12_symbolOf_69 : decode cX12_symbolOf 69 = .ok (.aload_n 0, 1) := by decide +kernel
theorem dX12_symbolOf_70 : decode cX12_symbolOf 70 = .ok (.getfield 86, 3) := by decide +kernel
theorem dX12_symbolOf_73 : decode cX12_symbolOf 73 = .ok (.iload_n 3, 1) := by decide +kernel
theorem dX12_symbolOf_74 : decode cX12_symbolOf 74 = .ok (.laload, 1) := by decide +kernel
theorem dX12_symbolOf_75 : decode cX12_symbolOf 75 = .ok (.lload_n 1, 1) := by decide +kernel
theorem dX12_symbolOf_76 : decode cX12_symbolOf 76 = .ok (.lcmp, 1) := by decide +kernel
theorem dX12_symbolOf_77 : decode cX12_symbolOf 77 = .ok (.ifCond .ne 13, 3) := by decide +kernel
theorem dX12_symbolOf_80 : decode cX12_symbolOf 80 = .ok (.aload_n 0, 1) := by decide +kernel
theorem dX12_symbolOf_81 : decode cX12_symbolOf 81 = .ok (.getfield 13, 3) := by decide +kernel
theorem dX12_symbolOf_84 : decode cX12_symbolOf 84 = .ok (.aload_n 0, 1) := by decide +kernel
theorem dX12_symbolOf_85 : decode cX12_symbolOf 85 = .ok (.getfield 185, 3) := by decide +kernel
theorem dX12_symbolOf_88 : decode cX12_symbolOf 88 = .ok (.iload_n 3, 1) := by decide +kernel
theorem dX12_symbolOf_89 : decode cX12_symbolOf 89 = .ok (.iastore, 1) := by decide +kernel
theorem dX12_symbolOf_90 : decode cX12_symbolOf 90 = .ok (.iinc 3 1, 3) := by decide +kernel
theorem dX12_symbolOf_93 : decode cX12_symbolOf 93 = .ok (.goto (-30), 3) := by decide +kernel
theorem dX12_symbolOf_96 : decode cX12_symbolOf 96 = .ok (.aload_n 0, 1) := by decide +kernel
theorem dX12_symbolOf_97 : decode cX12_symbolOf 97 = .ok (.dup, 1) := by decide +kernel
theorem dX12_symbolOf_98 : decode cX12_symbolOf 98 = .ok (.getfield 185, 3) := by decide +kernel
theorem dX12_symbolOf_101 : decode cX12_symbolOf 101 = .ok (.iconst 1, 1) := by decide +kernel
theorem dX12_symbolOf_102 : decode cX12_symbolOf 102 = .ok (.iadd, 1) := by decide +kernel
theorem dX12_symbolOf_103 : decode cX12_symbolOf 103 = .ok (.putfield 185, 3) := by decide +kernel
theorem dX12_symbolOf_106 : decode cX12_symbolOf 106 = .ok (.aload_n 0, 1) := by decide +kernel
theorem dX12_symbolOf_107 : decode cX12_symbolOf 107 = .ok (.getfield 185, 3) := by decide +kernel
theorem dX12_symbolOf_110 : decode cX12_symbolOf 110 = .ok (.iconst 1, 1) := by decide +kernel
theorem dX12_symbolOf_111 : decode cX12_symbolOf 111 = .ok (.isub, 1) := by decide +kernel
theorem dX12_symbolOf_112 : decode cX12_symbolOf 112 = .ok (.ireturn, 1) := by decide +kernel
theorem dX12_cell_0 : decode cX12_cell 0 = .ok (.aload_n 0, 1) := by decide +kernel
theorem dX12_cell_1 : decode cX12_cell 1 = .ok (.getfield 95, 3) := by decide +kernel
theorem dX12_cell_4 : decode cX12_cell 4 = .ok (.aload_n 0, 1) := by decide +kernel
theorem dX12_cell_5 : decode cX12_cell 5 = .ok (.getfield 188, 3) := by decide +kernel
theorem dX12_cell_8 : decode cX12_cell 8 = .ok (.iload_n 1, 1) := by decide +kernel
theorem dX12_cell_9 : decode cX12_cell 9 = .ok (.iastore, 1) := by decide +kernel
theorem dX12_cell_10 : decode cX12_cell 10 = .ok (.aload_n 0, 1) := by decide +kernel
theorem dX12_cell_11 : decode cX12_cell 11 = .ok (.getfield 98, 3) := by decide +kernel
theorem dX12_cell_14 : decode cX12_cell 14 = .ok (.aload_n 0, 1) := by decide +kernel
theorem dX12_cell_15 : decode cX12_cell 15 = .ok (.getfield 188, 3) := by decide +kernel
theorem dX12_cell_18 : decode cX12_cell 18 = .ok (.iload_n 2, 1) := by decide +kernel
theorem dX12_cell_19 : decode cX12_cell 19 = .ok (.iastore, 1) := by decide +kernel
theorem dX12_cell_20 : decode cX12_cell 20 = .ok (.aload_n 0, 1) := by decide +kernel
theorem dX12_cell_21 : decode cX12_cell 21 = .ok (.dup, 1) := by decide +kernel
theorem dX12_cell_22 : decode cX12_cell 22 = .ok (.getfield 188, 3) := by decide +kernel
theorem dX12_cell_25 : decode cX12_cell 25 = .ok (.iconst 1, 1) := by decide +kernel
theorem dX12_cell_26 : decode cX12_cell 26 = .ok (.iadd, 1) := by decide +kernel
theorem dX12_cell_27 : decode cX12_cell 27 = .ok (.putfield 188, 3) := by decide +kernel
theorem dX12_cell_30 : decode cX12_cell 30 = .ok (.iconst 4, 1) := by decide +kernel
theorem dX12_cell_31 : decode cX12_cell 31 = .ok (.aload_n 0, 1) := by decide +kernel
theorem dX12_cell_32 : decode cX12_cell 32 = .ok (.getfield 188, 3) := by decide +kernel
theorem dX12_cell_35 : decode cX12_cell 35 = .ok (.iconst 1, 1) := by decide +kernel
theorem dX12_cell_36 : decode cX12_cell 36 = .ok (.isub, 1) := by decide +kernel
theorem dX12_cell_37 : decode cX12_cell 37 = .ok (.invokestatic 171, 3) := by decide +kernel
theorem dX12_cell_40 : decode cX12_cell 40 = .ok (.ireturn, 1) := by decide +kernel
theorem dX12_add_0 : decode cX12_add 0 = .ok (.iload_n 1, 1) := by decide +kernel
theorem dX12_add_1 : decode cX12_add 1 = .ok (.istore_n 2, 1) := by decide +kernel
theorem dX12_add_2 : decode cX12_add 2 = .ok (.aload_n 0, 1) := by decide +kernel
theorem dX12_add_3 : decode cX12_add 3 = .ok (.getfield 191, 3) := by decide +kernel
theorem dX12_add_6 : decode cX12_add 6 = .ok (.ifCond .le 49, 3) := by decide +kernel
theorem dX12_add_9 : decode cX12_add 9 = .ok (.aload_n 0, 1) := by decide +kernel
theorem dX12_add_10 : decode cX12_add 10 = .ok (.getfield 113, 3) := by decide +kernel
theorem dX12_add_13 : decode cX12_add 13 = .ok (.aload_n 0, 1) := by decide +kernel
theorem dX12_add_14 : decode cX12_add 14 = .ok (.getfield 191, 3) := by decide +kernel
theorem dX12_add_17 : decode cX12_add 17 = .ok (.iconst 1, 1) := by decide +kernel
theorem dX12_add_18 : decode cX12_add 18 = .ok (.isub, 1) := by decide +kernel
theorem dX12_add_19 : decode cX12_add 19 = .ok (.baload, 1) := by decide +kernel
theorem dX12_add_20 : decode cX12_add 20 = .ok (.ifCond .eq 35, 3) := by decide +kernel
theorem dX12_add_23 : decode cX12_add 23 = .ok (.aload_n 0, 1) := by decide +kernel
theorem dX12_add_24 : decode cX12_add 24 = .ok (.iload_n 2, 1) := by decide +kernel
theorem dX12_add_25 : decode cX12_add 25 = .ok (.ldc 184, 2) := by decide +kernel
theorem dX12_add_27 : decode cX12_add 27 = .ok (.invokevirtual 194, 3) := by decide +kernel
theorem dX12_add_30 : decode cX12_add 30 = .ok (.istore_n 3, 1) := by decide +kernel
theorem dX12_add_31 : decode cX12_add 31 = .ok (.aload_n 0, 1) := by decide +kernel
theorem dX12_add_32 : decode cX12_add 32 = .ok (.iconst 3, 1) := by decide +kernel
theorem dX12_add_33 : decode cX12_add 33 = .ok (.iconst 2, 1) := by decide +kernel
theorem dX12_add_34 : decode cX12_add 34 = .ok (.invokestatic 171, 3) := by decide +kernel
theorem dX12_add_37 : decode cX12_add 37 = .ok (.iload_n 3, 1) := by decide +kernel
theorem dX12_add_38 : decode cX12_add 38 = .ok (.invokevirtual 194, 3) := by decide +kernel
theorem dX12_add_41 : decode cX12_add 41 = .ok (.istore_n 2, 1) := by decide +kernel
theorem dX12_add_42 : decode cX12_add 42 = .ok (.aload_n 0, 1) := by decide +kernel
theorem dX12_add_43 : decode cX12_add 43 = .ok (.dup, 1) := by decide +kernel
theorem dX12_add_44 : decode cX12_add 44 = .ok (.getfield 191, 3) := by decide +kernel
theorem dX12_add_47 : decode cX12_add 47 = .ok (.iconst 1, 1) := by decide +kernel
theorem dX12_add_48 : decode cX12_add 48 = .ok (.isub, 1) := by decide +kernel
theorem dX12_add_49 : decode cX12_add 49 = .ok (.putfield 191, 3) := by decide +kernel
theorem dX12_add_52 : decode cX12_add 52 = .ok (.goto (-50), 3) := by decide +kernel
theorem dX12_add_55 : decode cX12_add 55 = .ok (.aload_n 0, 1) := by decide +kernel
theorem dX12_add_56 : decode cX12_add 56 = .ok (.iload_n 2, 1) := by decide +kernel
theorem dX12_add_57 : decode cX12_add 57 = .ok (.ldc 184, 2) := by decide +kernel
theorem dX12_add_59 : decode cX12_add 59 = .ok (.invokevirtual 194, 3) := by decide +kernel
theorem dX12_add_62 : decode cX12_add 62 = .ok (.istore_n 3, 1) := by decide +kernel
theorem dX12_add_63 : decode cX12_add 63 = .ok (.aload_n 0, 1) := by decide +kernel
theorem dX12_add_64 : decode cX12_add 64 = .ok (.getfield 116, 3) := by decide +kernel
theorem dX12_add_67 : decode cX12_add 67 = .ok (.aload_n 0, 1) := by decide +kernel
theorem dX12_add_68 : decode cX12_add 68 = .ok (.getfield 191, 3) := by decide +kernel
theorem dX12_add_71 : decode cX12_add 71 = .ok (.iconst 1, 1) := by decide +kernel
theorem dX12_add_72 : decode cX12_add 72 = .ok (.isub, 1) := by decide +kernel
theorem dX12_add_73 : decode cX12_add 73 = .ok (.iaload, 1) := by decide +kernel
theorem dX12_add_74 : decode cX12_add 74 = .ok (.ldc 184, 2) := by decide +kernel
theorem dX12_add_76 : decode cX12_add 76 = .ok (.if_icmp .ne 18, 3) := by decide +kernel
theorem dX12_add_79 : decode cX12_add 79 = .ok (.aload_n 0, 1) := by decide +kernel
theorem dX12_add_80 : decode cX12_add 80 = .ok (.getfield 116, 3) := by decide +kernel
theorem dX12_add_83 : decode cX12_add 83 = .ok (.aload_n 0, 1) := by decide +kernel
theorem dX12_add_84 : decode cX12_add 84 = .ok (.getfield 191, 3) := by decide +kernel
theorem dX12_add_87 : decode cX12_add 87 = .ok (.iconst 1, 1) := by decide +kernel
theorem dX12_add_88 : decode cX12_add 88 = .ok (.isub, 1) := by decide +kernel
theorem dX12_add_89 : decode cX12_add 89 = .ok (.iload_n 3, 1) := by decide +kernel
theorem dX12_add_90 : decode cX12_add 90 = .ok (.iastore, 1) := by decide +kernel
theorem dX12_add_91 : decode cX12_add 91 = .ok (.goto 19, 3) := by decide +kernel
theorem dX12_add_94 : decode cX12_add 94 = .ok (.aload_n 0, 1) := by decide +kernel
theorem dX12_add_95 : decode cX12_add 95 = .ok (.aload_n 0, 1) := by decide +kernel
theorem dX12_add_96 : decode cX12_add 96 = .ok (.getfield 119, 3) := by decide +kernel
theorem dX12_add_99 : decode cX12_add 99 = .ok (.aload_n 0, 1) := by decide +kernel
theorem dX12_add_100 : decode cX12_add 100 = .ok (.getfield 191, 3) := by decide +kernel
theorem dX12_add_103 : decode cX12_add 103 = .ok (.iconst 1, 1) := by decide +kernel
theorem dX12_add_104 : decode cX12_add 104 = .ok (.isub, 1) := by decide +kernel
theorem dX12_add_105 : decode cX12_add 105 = .ok (.iaload, 1) := by decide +kernel
theorem dX12_add_106 : decode cX12_add 106 = .ok (.iload_n 3, 1) := by decide +kernel
theorem dX12_add_107 : decode cX12_add 107 = .ok (.invokevirtual 197, 3) := by decide +kernel
theorem dX12_add_110 : decode cX12_add 110 = .ok (.aload_n 0, 1) := by decide +kernel
theorem dX12_add_111 : decode cX12_add 111 = .ok (.getfield 119, 3) := by decide +kernel
theorem dX12_add_114 : decode cX12_add 114 = .ok (.aload_n 0, 1) := by decide +kernel
theorem dX12_add_115 : decode cX12_add 115 = .ok (.getfield 191, 3) := by decide +kernel
theorem dX12_add_118 : decode cX12_add 118 = .ok (.iconst 1, 1) := by decide +kernel
theorem dX12_add_119 : decode cX12_add 119 = .ok (.isub, 1) := by decide +kernel
theorem dX12_add_120 : decode cX12_add 120 = .ok (.iload_n 3, 1) := by decide +kernel
theorem dX12_add_121 : decode cX12_add 121 = .ok (.iastore, 1) := by decide +kernel
theorem dX12_add_122 : decode cX12_add 122 = .ok (.return_, 1) := by decide +kernel
theorem dX12_endAtom_0 : decode cX12_endAtom 0 = .ok (.aload_n 0, 1) := by decide +kernel
theorem dX12_endAtom_1 : decode cX12_endAtom 1 = .ok (.getfield 201, 3) := by decide +kernel
theorem dX12_endAtom_4 : decode cX12_endAtom 4 = .ok (.ifCond .ne 5, 3) := by decide +kernel
theorem dX12_endAtom_7 : decode cX12_endAtom 7 = .ok (.iconst 1, 1) := by decide +kernel
theorem dX12_endAtom_8 : decode cX12_endAtom 8 = .ok (.ireturn, 1) := by decide +kernel
theorem dX12_endAtom_9 : decode cX12_endAtom 9 = .ok (.aload_n 0, 1) := by decide +kernel
theorem dX12_endAtom_10 : decode cX12_endAtom 10 = .ok (.getfield 201, 3) := by decide +kernel
theorem dX12_endAtom_13 : decode cX12_endAtom 13 = .ok (.istore_n 1, 1) := by decide +kernel
theorem dX12_endAtom_14 : decode cX12_endAtom 14 = .ok (.aload_n 0, 1) := by decide +kernel
theorem dX12_endAtom_15 : decode cX12_endAtom 15 = .ok (.iconst 0, 1) := by decide +kernel
theorem dX12_endAtom_16 : decode cX12_endAtom 16 = .ok (.putfield 201, 3) := by decide +kernel
theorem dX12_endAtom_19 : decode cX12_endAtom 19 = .ok (.aload_n 0, 1) := by decide +kernel
theorem dX12_endAtom_20 : decode cX12_endAtom 20 = .ok (.getfield 204, 3) := by decide +kernel
theorem dX12_endAtom_23 : decode cX12_endAtom 23 = .ok (.ifCond .eq 65, 3) := by decide +kernel
theorem dX12_endAtom_26 : decode cX12_endAtom 26 = .ok (.iload_n 1, 1) := by decide +kernel
theorem dX12_endAtom_27 : decode cX12_endAtom 27 = .ok (.aload_n 0, 1) := by decide +kernel
theorem dX12_endAtom_28 : decode cX12_endAtom 28 = .ok (.getfield 208, 3) := by decide +kernel
theorem dX12_endAtom_31 : decode cX12_endAtom 31 = .ok (.ifCond .eq 7, 3) := by decide +kernel
theorem dX12_endAtom_34 : decode cX12_endAtom 34 = .ok (.iconst 1, 1) := by decide +kernel
theorem dX12_endAtom_35 : decode cX12_endAtom 35 = .ok (.goto 4, 3) := by decide +kernel
theorem dX12_endAtom_38 : decode cX12_endAtom 38 = .ok (.iconst 0, 1) := by decide +kernel
theorem dX12_endAtom_39 : decode cX12_endAtom 39 = .ok (.if_icmp .le 49, 3) := by decide +kernel
theorem dX12_endAtom_42 : decode cX12_endAtom 42 = .ok (.aload_n 0, 1) := by decide +kernel
theorem dX12_endAtom_43 : decode cX12_endAtom 43 = .ok (.getfield 208, 3) := by decide +kernel
theorem dX12_endAtom_46 : decode cX12_endAtom 46 = .ok (.ifCond .eq 11, 3) := by decide +kernel
theorem dX12_endAtom_49 : decode cX12_endAtom 49 = .ok (.aload_n 0, 1) := by decide +kernel
theorem dX12_endAtom_50 : decode cX12_endAtom 50 = .ok (.getfield 211, 3) := by decide +kernel
theorem dX12_endAtom_53 : decode cX12_endAtom 53 = .ok (.ineg, 1) := by decide +kernel
theorem dX12_endAtom_54 : decode cX12_endAtom 54 = .ok (.goto 7, 3) := by decide +kernel
theorem dX12_endAtom_57 : decode cX12_endAtom 57 = .ok (.aload_n 0, 1) := by decide +kernel
theorem dX12_endAtom_58 : decode cX12_endAtom 58 = .ok (.getfield 211, 3) := by decide +kernel
theorem dX12_endAtom_61 : decode cX12_endAtom 61 = .ok (.istore_n 2, 1) := by decide +kernel
theorem dX12_endAtom_62 : decode cX12_endAtom 62 = .ok (.iload_n 2, 1) := by decide +kernel
theorem dX12_endAtom_63 : decode cX12_endAtom 63 = .ok (.sipush (-32768), 3) := by decide +kernel
theorem dX12_endAtom_66 : decode cX12_endAtom 66 = .ok (.if_icmp .lt 10, 3) := by decide +kernel
theorem dX12_endAtom_69 : decode cX12_endAtom 69 = .ok (.iload_n 2, 1) := by decide +kernel
theorem dX12_endAtom_70 : decode cX12_endAtom 70 = .ok (.sipush 32767, 3) := by decide +kernel
theorem dX12_endAtom_73 : decode cX12_endAtom 73 = .ok (.if_icmp .le 5, 3) := by decide +kernel
theorem dX12_endAtom_76 : decode cX12_endAtom 76 = .ok (.iconst 0, 1) := by decide +kernel
theorem dX12_endAtom_77 : decode cX12_endAtom 77 = .ok (.ireturn, 1) := by decide +kernel
theorem dX12_endAtom_78 : decode cX12_endAtom 78 = .ok (.aload_n 0, 1) := by decide +kernel
theorem dX12_endAtom_79 : decode cX12_endAtom 79 = .ok (.iload_n 2, 1) := by decide +kernel
theorem dX12_endAtom_80 : decode cX12_endAtom 80 = .ok (.invokestatic 214, 3) := by decide +kernel
theorem dX12_endAtom_83 : decode cX12_endAtom 83 = .ok (.invokevirtual 217, 3) := by decide +kernel
theorem dX12_endAtom_86 : decode cX12_endAtom 86 = .ok (.iconst 1, 1) := by decide +kernel
theorem dX12_endAtom_87 : decode cX12_endAtom 87 = .ok (.ireturn, 1) := by decide +kernel
theorem dX12_endAtom_88 : decode cX12_endAtom 88 = .ok (.iload_n 1, 1) := by decide +kernel
theorem dX12_endAtom_89 : decode cX12_endAtom 89 = .ok (.iconst 5, 1) := by decide +kernel
theorem dX12_endAtom_90 : decode cX12_endAtom 90 = .ok (.if_icmp .le 5, 3) := by decide +kernel
theorem dX12_endAtom_93 : decode cX12_endAtom 93 = .ok (.iconst 0, 1) := by decide +kernel
theorem dX12_endAtom_94 : decode cX12_endAtom 94 = .ok (.ireturn, 1) := by decide +kernel
theorem dX12_endAtom_95 : decode cX12_endAtom 95 = .ok (.aload_n 0, 1) := by decide +kernel
theorem dX12_endAtom_96 : decode cX12_endAtom 96 = .ok (.getfield 221, 3) := by decide +kernel
theorem dX12_endAtom_99 : decode cX12_endAtom 99 = .ok (.ldc2_w 225, 3) := by decide +kernel
theorem dX12_endAtom_102 : decode cX12_endAtom 102 = .ok (.lcmp, 1) := by decide +kernel
theorem dX12_endAtom_103 : decode cX12_endAtom 103 = .ok (.ifCond .ne 11, 3) := by decide +kernel
theorem dX12_endAtom_106 : decode cX12_endAtom 106 = .ok (.aload_n 0, 1) := by decide +kernel
theorem dX12_endAtom_107 : decode cX12_endAtom 107 = .ok (.ldc 184, 2) := by decide +kernel
theorem dX12_endAtom_109 : decode cX12_endAtom 109 = .ok (.invokevirtual 217, 3) := by decide +kernel
theorem dX12_endAtom_112 : decode cX12_endAtom 112 = .ok (.iconst 1, 1) := by decide +kernel
theorem dX12_endAtom_113 : decode cX12_endAtom 113 = .ok (.ireturn, 1) := by decide +kernel
theorem dX12_endAtom_114 : decode cX12_endAtom 114 = .ok (.aload_n 0, 1) := by decide +kernel
theorem dX12_endAtom_115 : decode cX12_endAtom 115 = .ok (.aload_n 0, 1) := by decide +kernel
theorem dX12_endAtom_116 : decode cX12_endAtom 116 = .ok (.getfield 221, 3) := by decide +kernel
theorem dX12_endAtom_119 : decode cX12_endAtom 119 = .ok (.invokevirtual 165, 3) := by decide +kernel
theorem dX12_endAtom_122 : decode cX12_endAtom 122 = .ok (.istore_n 2, 1) := by decide +kernel
theorem dX12_endAtom_123 : decode cX12_endAtom 123 = .ok (.iload_n 2, 1) := by decide +kernel
theorem dX12_endAtom_124 : decode cX12_endAtom 124 = .ok (.ifCond .ge 5, 3) := by decide +kernel
theorem dX12_endAtom_127 : decode cX12_endAtom 127 = .ok (.iconst 0, 1) := by decide +kernel
theorem dX12_endAtom_128 : decode cX12_endAtom 128 = .ok (.ireturn, 1) := by decide +kernel
theorem dX12_endAtom_129 : decode cX12_endAtom 129 = .ok (.aload_n 0, 1) := by decide +kernel
theorem dX12_endAtom_130 : decode cX12_endAtom 130 = .ok (.iconst 3, 1) := by decide +kernel
theorem dX12_endAtom_131 : decode cX12_endAtom 131 = .ok (.iload_n 2, 1) := by decide +kernel
theorem dX12_endAtom_132 : decode cX12_endAtom 132 = .ok (.invokestatic 171, 3) := by decide +kernel
theorem dX12_endAtom_135 : decode cX12_endAtom 135 = .ok (.invokevirtual 217, 3) := by decide +kernel
theorem dX12_endAtom_138 : decode cX12_endAtom 138 = .ok (.iconst 1, 1) := by decide +kernel
theorem dX12_endAtom_139 : decode cX12_endAtom 139 = .ok (.ireturn, 1) := by decide +kernel
theorem dX12_letter_0 : decode cX12_letter 0 = .ok (.aload_n 0, 1) := by decide +kernel
theorem dX12_letter_1 : decode cX12_letter 1 = .ok (.getfield 201, 3) := by decide +kernel
theorem dX12_letter_4 : decode cX12_letter 4 = .ok (.ifCond .ne 33, 3) := by decide +kernel
theorem dX12_letter_7 : decode cX12_letter 7 = .ok (.aload_n 0, 1) := by decide +kernel
theorem dX12_letter_8 : decode cX12_letter 8 = .ok (.lconst 0, 1) := by decide +kernel
theorem dX12_letter_9 : decode cX12_letter 9 = .ok (.putfield 221, 3) := by decide +kernel
theorem dX12_letter_12 : decode cX12_letter 12 = .ok (.aload_n 0, 1) := by decide +kernel
theorem dX12_letter_13 : decode cX12_letter 13 = .ok (.iconst 0, 1) := by decide +kernel
theorem dX12_letter_14 : decode cX12_letter 14 = .ok (.putfield 211, 3) := by decide +kernel
theorem dX12_letter_17 : decode cX12_letter 17 = .ok (.aload_n 0, 1) := by decide +kernel
theorem dX12_letter_18 : decode cX12_letter 18 = .ok (.iconst 1, 1) := by decide +kernel
theorem dX12_letter_19 : decode cX12_letter 19 = .ok (.putfield 204, 3) := by decide +kernel
theorem dX12_letter_22 : decode cX12_letter 22 = .ok (.aload_n 0, 1) := by decide +kernel
theorem dX12_letter_23 : decode cX12_letter 23 = .ok (.iload_n 1, 1) := by decide +kernel
theorem dX12_letter_24 : decode cX12_letter 24 = .ok (.bipush 45, 2) := by decide +kernel
theorem dX12_letter_26 : decode cX12_letter 26 = .ok (.if_icmp .ne 7, 3) := by decide +kernel
theorem dX12_letter_29 : decode cX12_letter 29 = .ok (.iconst 1, 1) := by decide +kernel
theorem dX12_letter_30 : decode cX12_letter 30 = .ok (.goto 4, 3) := by decide +kernel
theorem dX12_letter_33 : decode cX12_letter 33 = .ok (.iconst 0, 1) := by decide +kernel
theorem dX12_letter_34 : decode cX12_letter 34 = .ok (.putfield 208, 3) := by decide +kernel
theorem dX12_letter_37 : decode cX12_letter 37 = .ok (.iload_n 1, 1) := by decide +kernel
theorem dX12_letter_38 : decode cX12_letter 38 = .ok (.bipush 48, 2) := by decide +kernel
theorem dX12_letter_40 : decode cX12_letter 40 = .ok (.if_icmp .lt 13, 3) := by decide +kernel
theorem dX12_letter_43 : decode cX12_letter 43 = .ok (.iload_n 1, 1) := by decide +kernel
theorem dX12_letter_44 : decode cX12_letter 44 = .ok (.bipush 57, 2) := by decide +kernel
theorem dX12_letter_46 : decode cX12_letter 46 = .ok (.if_icmp .gt 7, 3) := by decide +kernel
theorem dX12_letter_49 : decode cX12_letter 49 = .ok (.iconst 1, 1) := by decide +kernel
theorem dX12_letter_50 : decode cX12_letter 50 = .ok (.goto 4, 3) := by decide +kernel
theorem dX12_letter_53 : decode cX12_letter 53 = .ok (.iconst 0, 1) := by decide +kernel
theorem dX12_letter_54 : decode cX12_letter 54 = .ok (.istore_n 2, 1) := by decide +kernel
theorem dX12_letter_55 : decode cX12_letter 55 = .ok (.iload_n 2, 1) := by decide +kernel
theorem dX12_letter_56 : decode cX12_letter 56 = .ok (.ifCond .ne 21, 3) := by decide +kernel
theorem dX12_letter_59 : decode cX12_letter 59 = .ok (.iload_n 1, 1) := by decide +kernel
theorem dX12_letter_60 : decode cX12_letter 60 = .ok (.bipush 45, 2) := by decide +kernel
theorem dX12_letter_62 : decode cX12_letter 62 = .ok (.if_icmp .ne 10, 3) := by decide +kernel
theorem dX12_letter_65 : decode cX12_letter 65 = .ok (.aload_n 0, 1) := by decide +kernel
theorem dX12_letter_66 : decode cX12_letter 66 = .ok (.getfield 201, 3) := by decide +kernel
theorem dX12_letter_69 : decode cX12_letter 69 = .ok (.ifCond .le 8, 3) := by decide +kernel
theorem dX12_letter_72 : decode cX12_letter 72 = .ok (.aload_n 0, 1) := by decide +kernel
theorem dX12_letter_73 : decode cX12_letter 73 = .ok (.iconst 0, 1) := by decide +kernel
theorem dX12_letter_74 : decode cX12_letter 74 = .ok (.putfield 204, 3) := by decide +kernel
theorem dX12_letter_77 : decode cX12_letter 77 = .ok (.iload_n 2, 1) := by decide +kernel
theorem dX12_letter_78 : decode cX12_letter 78 = .ok (.ifCond .eq 28, 3) := by decide +kernel
theorem dX12_letter_81 : decode cX12_letter 81 = .ok (.aload_n 0, 1) := by decide +kernel
theorem dX12_letter_82 : decode cX12_letter 82 = .ok (.getfield 211, 3) := by decide +kernel
theorem dX12_letter_85 : decode cX12_letter 85 = .ok (.ldc 227, 2) := by decide +kernel
theorem dX12_letter_87 : decode cX12_letter 87 = .ok (.if_icmp .ge 19, 3) := by decide +kernel
theorem dX12_letter_90 : decode cX12_letter 90 = .ok (.aload_n 0, 1) := by decide +kernel
theorem dX12_letter_91 : decode cX12_letter 91 = .ok (.bipush 10, 2) := by decide +kernel
theorem dX12_letter_93 : decode cX12_letter 93 = .ok (.aload_n 0, 1) := by decide +kernel
theorem dX12_letter_94 : decode cX12_letter 94 = .ok (.getfield 211, 3) := by decide +kernel
theorem dX12_letter_97 : decode cX12_letter 97 = .ok (.imul, 1) := by decide +kernel
theorem dX12_letter_98 : decode cX12_letter 98 = .ok (.iload_n 1, 1) := by decide +kernel
theorem dX12_letter_99 : decode cX12_letter 99 = .ok (.iadd, 1) := by decide +kernel
theorem dX12_letter_100 : decode cX12_letter 100 = .ok (.bipush 48, 2) := by decide +kernel
theorem dX12_letter_102 : decode cX12_letter 102 = .ok (.isub, 1) := by decide +kernel
theorem dX12_letter_103 : decode cX12_letter 103 = .ok (.putfield 211, 3) := by decide +kernel
theorem dX12_letter_106 : decode cX12_letter 106 = .ok (.aload_n 0, 1) := by decide +kernel
theorem dX12_letter_107 : decode cX12_letter 107 = .ok (.getfield 201, 3) := by decide +kernel
theorem dX12_letter_110 : decode cX12_letter 110 = .ok (.bipush 6, 2) := by decide +kernel
theorem dX12_letter_112 : decode cX12_letter 112 = .ok (.if_icmp .ge 28, 3) := by decide +kernel
theorem dX12_letter_115 : decode cX12_letter 115 = .ok (.aload_n 0, 1) := by decide +kernel
theorem dX12_letter_116 : decode cX12_letter 116 = .ok (.aload_n 0, 1) := by decide +kernel
theorem dX12_letter_117 : decode cX12_letter 117 = .ok (.getfield 221, 3) := by decide +kernel
theorem dX12_letter_120 : decode cX12_letter 120 = .ok (.ldc2_w 228, 3) := by decide +kernel
theorem dX12_letter_123 : decode cX12_letter 123 = .ok (.lmul, 1) := by decide +kernel
theorem dX12_letter_124 : decode cX12_letter 124 = .ok (.iload_n 1, 1) := by decide +kernel
theorem dX12_letter_125 : decode cX12_letter 125 = .ok (.i2l, 1) := by decide +kernel
theorem dX12_letter_126 : decode cX12_letter 126 = .ok (.ladd, 1) := by decide +kernel
theorem dX12_letter_127 : decode cX12_letter 127 = .ok (.putfield 221, 3) := by decide +kernel
theorem dX12_letter_130 : decode cX12_letter 130 = .ok (.aload_n 0, 1) := by decide +kernel
theorem dX12_letter_131 : decode cX12_letter 131 = .ok (.dup, 1) := by decide +kernel
theorem dX12_letter_132 : decode cX12_letter 132 = .ok (.getfield 201, 3) := by decide +kernel
theorem dX12_letter_135 : decode cX12_letter 135 = .ok (.iconst 1, 1) := by decide +kernel
theorem dX12_letter_136 : decode cX12_letter 136 = .ok (.iadd, 1) := by decide +kernel
theorem dX12_letter_137 : decode cX12_letter 137 = .ok (.putfield 201, 3) := by decide +kernel
theorem dX12_letter_140 : decode cX12_letter 140 = .ok (.return_, 1) := by decide +kernel
theorem dX12_drop_0 : decode cX12_drop 0 = .ok (.aload_n 0, 1) := by decide +kernel
theorem dX12_drop_1 : decode cX12_drop 1 = .ok (.iconst 0, 1) := by decide +kernel
theorem dX12_drop_2 : decode cX12_drop 2 = .ok (.putfield 191, 3) := by decide +kernel
theorem dX12_drop_5 : decode cX12_drop 5 = .ok (.aload_n 0, 1) := by decide +kernel
theorem dX12_drop_6 : decode cX12_drop 6 = .ok (.iconst 0, 1) := by decide +kernel
theorem dX12_drop_7 : decode cX12_drop 7 = .ok (.putfield 201, 3) := by decide +kernel
theorem dX12_drop_10 : decode cX12_drop 10 = .ok (.aload_n 0, 1) := by decide +kernel
theorem dX12_drop_11 : decode cX12_drop 11 = .ok (.iconst 1, 1) := by decide +kernel
theorem dX12_drop_12 : decode cX12_drop 12 = .ok (.invokevirtual 230, 3) := by decide +kernel
theorem dX12_drop_15 : decode cX12_drop 15 = .ok (.ireturn, 1) := by decide +kernel
theorem dX12_atomic_0 : decode cX12_atomic 0 = .ok (.iload_n 0, 1) := by decide +kernel
theorem dX12_atomic_1 : decode cX12_atomic 1 = .ok (.bipush 97, 2) := by decide +kernel
theorem dX12_atomic_3 : decode cX12_atomic 3 = .ok (.if_icmp .lt 9, 3) := by decide +kernel
theorem dX12_atomic_6 : decode cX12_atomic 6 = .ok (.iload_n 0, 1) := by decide +kernel
theorem dX12_atomic_7 : decode cX12_atomic 7 = .ok (.bipush 122, 2) := by decide +kernel
theorem dX12_atomic_9 : decode cX12_atomic 9 = .ok (.if_icmp .le 45, 3) := by decide +kernel
theorem dX12_atomic_12 : decode cX12_atomic 12 = .ok (.iload_n 0, 1) := by decide +kernel
theorem dX12_atomic_13 : decode cX12_atomic 13 = .ok (.bipush 48, 2) := by decide +kernel
theorem dX12_atomic_15 : decode cX12_atomic 15 = .ok (.if_icmp .lt 9, 3) := by decide +kernel
theorem dX12_atomic_18 : decode cX12_atomic 18 = .ok (.iload_n 0, 1) := by decide +kernel
theorem dX12_atomic_19 : decode cX12_atomic 19 = .ok (.bipush 57, 2) := by decide +kernel
theorem dX12_atomic_21 : decode cX12_atomic 21 = .ok (.if_icmp .le 33, 3) := by decide +kernel
theorem dX12_atomic_24 : decode cX12_atomic 24 = .ok (.iload_n 0, 1) := by decide +kernel
theorem dX12_atomic_25 : decode cX12_atomic 25 = .ok (.bipush 43, 2) := by decide +kernel
theorem dX12_atomic_27 : decode cX12_atomic 27 = .ok (.if_icmp .eq 27, 3) := by decide +kernel
theorem dX12_atomic_30 : decode cX12_atomic 30 = .ok (.iload_n 0, 1) := by decide +kernel
theorem dX12_atomic_31 : decode cX12_atomic 31 = .ok (.bipush 45, 2) := by decide +kernel
theorem dX12_atomic_33 : decode cX12_atomic 33 = .ok (.if_icmp .eq 21, 3) := by decide +kernel
theorem dX12_atomic_36 : decode cX12_atomic 36 = .ok (.iload_n 0, 1) := by decide +kernel
theorem dX12_atomic_37 : decode cX12_atomic 37 = .ok (.bipush 42, 2) := by decide +kernel
theorem dX12_atomic_39 : decode cX12_atomic 39 = .ok (.if_icmp .eq 15, 3) := by decide +kernel
theorem dX12_atomic_42 : decode cX12_atomic 42 = .ok (.iload_n 0, 1) := by decide +kernel
theorem dX12_atomic_43 : decode cX12_atomic 43 = .ok (.bipush 47, 2) := by decide +kernel
theorem dX12_atomic_45 : decode cX12_atomic 45 = .ok (.if_icmp .eq 9, 3) := by decide +kernel
theorem dX12_atomic_48 : decode cX12_atomic 48 = .ok (.iload_n 0, 1) := by decide +kernel
theorem dX12_atomic_49 : decode cX12_atomic 49 = .ok (.bipush 60, 2) := by decide +kernel
theorem dX12_atomic_51 : decode cX12_atomic 51 = .ok (.if_icmp .ne 7, 3) := by decide +kernel
theorem dX12_atomic_54 : decode cX12_atomic 54 = .ok (.iconst 1, 1) := by decide +kernel
theorem dX12_atomic_55 : decode cX12_atomic 55 = .ok (.goto 4, 3) := by decide +kernel
theorem dX12_atomic_58 : decode cX12_atomic 58 = .ok (.iconst 0, 1) := by decide +kernel
theorem dX12_atomic_59 : decode cX12_atomic 59 = .ok (.ireturn, 1) := by decide +kernel
theorem dX12_type_0 : decode cX12_type 0 = .ok (.aload_n 0, 1) := by decide +kernel
theorem dX12_type_1 : decode cX12_type 1 = .ok (.iconst 0, 1) := by decide +kernel
theorem dX12_type_2 : decode cX12_type 2 = .ok (.putfield 175, 3) := by decide +kernel
theorem dX12_type_5 : decode cX12_type 5 = .ok (.iload_n 1, 1) := by decide +kernel
theorem dX12_type_6 : decode cX12_type 6 = .ok (.invokestatic 233, 3) := by decide +kernel
theorem dX12_type_9 : decode cX12_type 9 = .ok (.ifCond .eq 17, 3) := by decide +kernel
theorem dX12_type_12 : decode cX12_type 12 = .ok (.aload_n 0, 1) := by decide +kernel
theorem dX12_type_13 : decode cX12_type 13 = .ok (.getfield 191, 3) := by decide +kernel
theorem dX12_type_16 : decode cX12_type 16 = .ok (.ifCond .le 8, 3) := by decide +kernel
theorem dX12_type_19 : decode cX12_type 19 = .ok (.aload_n 0, 1) := by decide +kernel
theorem dX12_type_20 : decode cX12_type 20 = .ok (.iload_n 1, 1) := by decide +kernel
theorem dX12_type_21 : decode cX12_type 21 = .ok (.invokevirtual 237, 3) := by decide +kernel
theorem dX12_type_24 : decode cX12_type 24 = .ok (.iconst 0, 1) := by decide +kernel
theorem dX12_type_25 : decode cX12_type 25 = .ok (.ireturn, 1) := by decide +kernel
theorem dX12_type_26 : decode cX12_type 26 = .ok (.iload_n 1, 1) := by decide +kernel
theorem dX12_type_27 : decode cX12_type 27 = .ok (.bipush 40, 2) := by decide +kernel
theorem dX12_type_29 : decode cX12_type 29 = .ok (.if_icmp .eq 33, 3) := by decide +kernel
theorem dX12_type_32 : decode cX12_type 32 = .ok (.iload_n 1, 1) := by decide +kernel
theorem dX12_type_33 : decode cX12_type 33 = .ok (.bipush 41, 2) := by decide +kernel
theorem dX12_type_35 : decode cX12_type 35 = .ok (.if_icmp .eq 27, 3) := by decide +kernel
theorem dX12_type_38 : decode cX12_type 38 = .ok (.iload_n 1, 1) := by decide +kernel
theorem dX12_type_39 : decode cX12_type 39 = .ok (.bipush 39, 2) := by decide +kernel
theorem dX12_type_41 : decode cX12_type 41 = .ok (.if_icmp .eq 21, 3) := by decide +kernel
theorem dX12_type_44 : decode cX12_type 44 = .ok (.iload_n 1, 1) := by decide +kernel
theorem dX12_type_45 : decode cX12_type 45 = .ok (.bipush 32, 2) := by decide +kernel
theorem dX12_type_47 : decode cX12_type 47 = .ok (.if_icmp .eq 15, 3) := by decide +kernel
theorem dX12_type_50 : decode cX12_type 50 = .ok (.iload_n 1, 1) := by decide +kernel
theorem dX12_type_51 : decode cX12_type 51 = .ok (.bipush 10, 2) := by decide +kernel
theorem dX12_type_53 : decode cX12_type 53 = .ok (.if_icmp .eq 9, 3) := by decide +kernel
theorem dX12_type_56 : decode cX12_type 56 = .ok (.aload_n 0, 1) := by decide +kernel
theorem dX12_type_57 : decode cX12_type 57 = .ok (.iconst 1, 1) := by decide +kernel
theorem dX12_type_58 : decode cX12_type 58 = .ok (.invokevirtual 230, 3) := by decide +kernel
theorem dX12_type_61 : decode cX12_type 61 = .ok (.ireturn, 1) := by decide +kernel
theorem dX12_type_62 : decode cX12_type 62 = .ok (.aload_n 0, 1) := by decide +kernel
theorem dX12_type_63 : decode cX12_type 63 = .ok (.invokevirtual 240, 3) := by decide +kernel
theorem dX12_type_66 : decode cX12_type 66 = .ok (.ifCond .ne 8, 3) := by decide +kernel
theorem dX12_type_69 : decode cX12_type 69 = .ok (.aload_n 0, 1) := by decide +kernel
theorem dX12_type_70 : decode cX12_type 70 = .ok (.invokevirtual 244, 3) := by decide +kernel
theorem dX12_type_73 : decode cX12_type 73 = .ok (.ireturn, 1) := by decide +kernel
theorem dX12_type_74 : decode cX12_type 74 = .ok (.iload_n 1, 1) := by decide +kernel
theorem dX12_type_75 : decode cX12_type 75 = .ok (.bipush 40, 2) := by decide +kernel
theorem dX12_type_77 : decode cX12_type 77 = .ok (.if_icmp .eq 16, 3) := by decide +kernel
theorem dX12_type_80 : decode cX12_type 80 = .ok (.iload_n 1, 1) := by decide +kernel
theorem dX12_type_81 : decode cX12_type 81 = .ok (.bipush 39, 2) := by decide +kernel
theorem dX12_type_83 : decode cX12_type 83 = .ok (.if_icmp .ne 65, 3) := by decide +kernel
theorem dX12_type_86 : decode cX12_type 86 = .ok (.aload_n 0, 1) := by decide +kernel
theorem dX12_type_87 : decode cX12_type 87 = .ok (.getfield 191, 3) := by decide +kernel
theorem dX12_type_90 : decode cX12_type 90 = .ok (.ifCond .le 58, 3) := by decide +kernel
theorem dX12_type_93 : decode cX12_type 93 = .ok (.aload_n 0, 1) := by decide +kernel
theorem dX12_type_94 : decode cX12_type 94 = .ok (.getfield 191, 3) := by decide +kernel
theorem dX12_type_97 : decode cX12_type 97 = .ok (.bipush 12, 2) := by decide +kernel
theorem dX12_type_99 : decode cX12_type 99 = .ok (.if_icmp .ne 8, 3) := by decide +kernel
theorem dX12_type_102 : decode cX12_type 102 = .ok (.aload_n 0, 1) := by decide +kernel
theorem dX12_type_103 : decode cX12_type 103 = .ok (.invokevirtual 244, 3) := by decide +kernel
theorem dX12_type_106 : decode cX12_type 106 = .ok (.ireturn, 1) := by decide +kernel
theorem dX12_type_107 : decode cX12_type 107 = .ok (.aload_n 0, 1) := by decide +kernel
theorem dX12_type_108 : decode cX12_type 108 = .ok (.getfield 113, 3) := by decide +kernel
theorem dX12_type_111 : decode cX12_type 111 = .ok (.aload_n 0, 1) := by decide +kernel
theorem dX12_type_112 : decode cX12_type 112 = .ok (.getfield 191, 3) := by decide +kernel
theorem dX12_type_115 : decode cX12_type 115 = .ok (.iload_n 1, 1) := by decide +kernel
theorem dX12_type_116 : decode cX12_type 116 = .ok (.bipush 39, 2) := by decide +kernel
theorem dX12_type_118 : decode cX12_type 118 = .ok (.if_icmp .ne 7, 3) := by decide +kernel
theorem dX12_type_121 : decode cX12_type 121 = .ok (.iconst 1, 1) := by decide +kernel
theorem dX12_type_122 : decode cX12_type 122 = .ok (.goto 4, 3) := by decide +kernel
theorem dX12_type_125 : decode cX12_type 125 = .ok (.iconst 0, 1) := by decide +kernel
theorem dX12_type_126 : decode cX12_type 126 = .ok (.bastore, 1) := by decide +kernel
theorem dX12_type_127 : decode cX12_type 127 = .ok (.aload_n 0, 1) := by decide +kernel
theorem dX12_type_128 : decode cX12_type 128 = .ok (.getfield 116, 3) := by decide +kernel
theorem dX12_type_131 : decode cX12_type 131 = .ok (.aload_n 0, 1) := by decide +kernel
theorem dX12_type_132 : decode cX12_type 132 = .ok (.getfield 191, 3) := by decide +kernel
theorem dX12_type_135 : decode cX12_type 135 = .ok (.ldc 184, 2) := by decide +kernel
theorem dX12_type_137 : decode cX12_type 137 = .ok (.iastore, 1) := by decide +kernel
theorem dX12_type_138 : decode cX12_type 138 = .ok (.aload_n 0, 1) := by decide +kernel
theorem dX12_type_139 : decode cX12_type 139 = .ok (.dup, 1) := by decide +kernel
theorem dX12_type_140 : decode cX12_type 140 = .ok (.getfield 191, 3) := by decide +kernel
theorem dX12_type_143 : decode cX12_type 143 = .ok (.iconst 1, 1) := by decide +kernel
theorem dX12_type_144 : decode cX12_type 144 = .ok (.iadd, 1) := by decide +kernel
theorem dX12_type_145 : decode cX12_type 145 = .ok (.putfield 191, 3) := by decide +kernel
theorem dX12_type_148 : decode cX12_type 148 = .ok (.iload_n 1, 1) := by decide +kernel
theorem dX12_type_149 : decode cX12_type 149 = .ok (.bipush 41, 2) := by decide +kernel
theorem dX12_type_151 : decode cX12_type 151 = .ok (.if_icmp .eq 5, 3) := by decide +kernel
theorem dX12_type_154 : decode cX12_type 154 = .ok (.iconst 0, 1) := by decide +kernel
theorem dX12_type_155 : decode cX12_type 155 = .ok (.ireturn, 1) := by decide +kernel
theorem dX12_type_156 : decode cX12_type 156 = .ok (.aload_n 0, 1) := by decide +kernel
theorem dX12_type_157 : decode cX12_type 157 = .ok (.getfield 191, 3) := by decide +kernel
theorem dX12_type_160 : decode cX12_type 160 = .ok (.ifCond .eq 17, 3) := by decide +kernel
theorem dX12_type_163 : decode cX12_type 163 = .ok (.aload_n 0, 1) := by decide +kernel
theorem dX12_type_164 : decode cX12_type 164 = .ok (.getfield 113, 3) := by decide +kernel
theorem dX12_type_167 : decode cX12_type 167 = .ok (.aload_n 0, 1) := by decide +kernel
theorem dX12_type_168 : decode cX12_type 168 = .ok (.getfield 191, 3) := by decide +kernel
theorem dX12_type_171 : decode cX12_type 171 = .ok (.iconst 1, 1) := by decide +kernel
theorem dX12_type_172 : decode cX12_type 172 = .ok (.isub, 1) := by decide +kernel
theorem dX12_type_173 : decode cX12_type 173 = .ok (.baload, 1) := by decide +kernel
theorem dX12_type_174 : decode cX12_type 174 = .ok (.ifCond .eq 8, 3) := by decide +kernel
theorem dX12_type_177 : decode cX12_type 177 = .ok (.aload_n 0, 1) := by decide +kernel
theorem dX12_type_178 : decode cX12_type 178 = .ok (.invokevirtual 244, 3) := by decide +kernel
theorem dX12_type_181 : decode cX12_type 181 = .ok (.ireturn, 1) := by decide +kernel
theorem dX12_type_182 : decode cX12_type 182 = .ok (.aload_n 0, 1) := by decide +kernel
theorem dX12_type_183 : decode cX12_type 183 = .ok (.dup, 1) := by decide +kernel
theorem dX12_type_184 : decode cX12_type 184 = .ok (.getfield 191, 3) := by decide +kernel
theorem dX12_type_187 : decode cX12_type 187 = .ok (.iconst 1, 1) := by decide +kernel
theorem dX12_type_188 : decode cX12_type 188 = .ok (.isub, 1) := by decide +kernel
theorem dX12_type_189 : decode cX12_type 189 = .ok (.putfield 191, 3) := by decide +kernel
theorem dX12_type_192 : decode cX12_type 192 = .ok (.aload_n 0, 1) := by decide +kernel
theorem dX12_type_193 : decode cX12_type 193 = .ok (.getfield 191, 3) := by decide +kernel
theorem dX12_type_196 : decode cX12_type 196 = .ok (.ifCond .ne 14, 3) := by decide +kernel
theorem dX12_type_199 : decode cX12_type 199 = .ok (.aload_n 0, 1) := by decide +kernel
theorem dX12_type_200 : decode cX12_type 200 = .ok (.aload_n 0, 1) := by decide +kernel
theorem dX12_type_201 : decode cX12_type 201 = .ok (.getfield 116, 3) := by decide +kernel
theorem dX12_type_204 : decode cX12_type 204 = .ok (.iconst 0, 1) := by decide +kernel
theorem dX12_type_205 : decode cX12_type 205 = .ok (.iaload, 1) := by decide +kernel
theorem dX12_type_206 : decode cX12_type 206 = .ok (.invokevirtual 248, 3) := by decide +kernel
theorem dX12_type_209 : decode cX12_type 209 = .ok (.ireturn, 1) := by decide +kernel
theorem dX12_type_210 : decode cX12_type 210 = .ok (.aload_n 0, 1) := by decide +kernel
theorem dX12_type_211 : decode cX12_type 211 = .ok (.aload_n 0, 1) := by decide +kernel
theorem dX12_type_212 : decode cX12_type 212 = .ok (.getfield 116, 3) := by decide +kernel
theorem dX12_type_215 : decode cX12_type 215 = .ok (.aload_n 0, 1) := by decide +kernel
theorem dX12_type_216 : decode cX12_type 216 = .ok (.getfield 191, 3) := by decide +kernel
theorem dX12_type_219 : decode cX12_type 219 = .ok (.iaload, 1) := by decide +kernel
theorem dX12_type_220 : decode cX12_type 220 = .ok (.invokevirtual 217, 3) := by decide +kernel
theorem dX12_type_223 : decode cX12_type 223 = .ok (.iconst 0, 1) := by decide +kernel
theorem dX12_type_224 : decode cX12_type 224 = .ok (.ireturn, 1) := by decide +kernel
theorem dX12_cancel_0 : decode cX12_cancel 0 = .ok (.aload_n 0, 1) := by decide +kernel
theorem dX12_cancel_1 : decode cX12_cancel 1 = .ok (.iconst 0, 1) := by decide +kernel
theorem dX12_cancel_2 : decode cX12_cancel 2 = .ok (.putfield 175, 3) := by decide +kernel
theorem dX12_cancel_5 : decode cX12_cancel 5 = .ok (.aload_n 0, 1) := by decide +kernel
theorem dX12_cancel_6 : decode cX12_cancel 6 = .ok (.getfield 191, 3) := by decide +kernel
theorem dX12_cancel_9 : decode cX12_cancel 9 = .ok (.istore_n 1, 1) := by decide +kernel
theorem dX12_cancel_10 : decode cX12_cancel 10 = .ok (.aload_n 0, 1) := by decide +kernel
theorem dX12_cancel_11 : decode cX12_cancel 11 = .ok (.iconst 0, 1) := by decide +kernel
theorem dX12_cancel_12 : decode cX12_cancel 12 = .ok (.putfield 191, 3) := by decide +kernel
theorem dX12_cancel_15 : decode cX12_cancel 15 = .ok (.aload_n 0, 1) := by decide +kernel
theorem dX12_cancel_16 : decode cX12_cancel 16 = .ok (.iconst 0, 1) := by decide +kernel
theorem dX12_cancel_17 : decode cX12_cancel 17 = .ok (.putfield 201, 3) := by decide +kernel
theorem dX12_cancel_20 : decode cX12_cancel 20 = .ok (.iload_n 1, 1) := by decide +kernel
theorem dX12_cancel_21 : decode cX12_cancel 21 = .ok (.ireturn, 1) := by decide +kernel
theorem dX12_parts_0 : decode cX12_parts 0 = .ok (.iconst 0, 1) := by decide +kernel
theorem dX12_parts_1 : decode cX12_parts 1 = .ok (.istore_n 2, 1) := by decide +kernel
theorem dX12_parts_2 : decode cX12_parts 2 = .ok (.iload_n 1, 1) := by decide +kernel
theorem dX12_parts_3 : decode cX12_parts 3 = .ok (.istore_n 3, 1) := by decide +kernel
theorem dX12_parts_4 : decode cX12_parts 4 = .ok (.iload_n 3, 1) := by decide +kernel
theorem dX12_parts_5 : decode cX12_parts 5 = .ok (.ldc 184, 2) := by decide +kernel
theorem dX12_parts_7 : decode cX12_parts 7 = .ok (.if_icmp .eq 15, 3) := by decide +kernel
theorem dX12_parts_10 : decode cX12_parts 10 = .ok (.iinc 2 1, 3) := by decide +kernel
theorem dX12_parts_13 : decode cX12_parts 13 = .ok (.aload_n 0, 1) := by decide +kernel
theorem dX12_parts_14 : decode cX12_parts 14 = .ok (.iload_n 3, 1) := by decide +kernel
theorem dX12_parts_15 : decode cX12_parts 15 = .ok (.invokevirtual 251, 3) := by decide +kernel
theorem dX12_parts_18 : decode cX12_parts 18 = .ok (.istore_n 3, 1) := by decide +kernel
theorem dX12_parts_19 : decode cX12_parts 19 = .ok (.goto (-15), 3) := by decide +kernel
theorem dX12_parts_22 : decode cX12_parts 22 = .ok (.iload_n 2, 1) := by decide +kernel
theorem dX12_parts_23 : decode cX12_parts 23 = .ok (.ireturn, 1) := by decide +kernel
theorem dX12_parameters_0 : decode cX12_parameters 0 = .ok (.iload_n 1, 1) := by decide +kernel
theorem dX12_parameters_1 : decode cX12_parameters 1 = .ok (.ldc 184, 2) := by decide +kernel
theorem dX12_parameters_3 : decode cX12_parameters 3 = .ok (.if_icmp .eq 11, 3) := by decide +kernel
theorem dX12_parameters_6 : decode cX12_parameters 6 = .ok (.iload_n 1, 1) := by decide +kernel
theorem dX12_parameters_7 : decode cX12_parameters 7 = .ok (.invokestatic 254, 3) := by decide +kernel
theorem dX12_parameters_10 : decode cX12_parameters 10 = .ok (.iconst 4, 1) := by decide +kernel
theorem dX12_parameters_11 : decode cX12_parameters 11 = .ok (.if_icmp .ne 20, 3) := by decide +kernel
theorem dX12_parameters_14 : decode cX12_parameters 14 = .ok (.iload_n 1, 1) := by decide +kernel
theorem dX12_parameters_15 : decode cX12_parameters 15 = .ok (.invokestatic 254, 3) := by decide +kernel
theorem dX12_parameters_18 : decode cX12_parameters 18 = .ok (.iconst 4, 1) := by decide +kernel
theorem dX12_parameters_19 : decode cX12_parameters 19 = .ok (.if_icmp .ne 14, 3) := by decide +kernel
theorem dX12_parameters_22 : decode cX12_parameters 22 = .ok (.aload_n 0, 1) := by decide +kernel
theorem dX12_parameters_23 : decode cX12_parameters 23 = .ok (.iload_n 1, 1) := by decide +kernel
theorem dX12_parameters_24 : decode cX12_parameters 24 = .ok (.invokevirtual 257, 3) := by decide +kernel
theorem dX12_parameters_27 : decode cX12_parameters 27 = .ok (.iconst 4, 1) := by decide +kernel
theorem dX12_parameters_28 : decode cX12_parameters 28 = .ok (.if_icmp .le 5, 3) := by decide +kernel
theorem dX12_parameters_31 : decode cX12_parameters 31 = .ok (.iconst 0, 1) := by decide +kernel
theorem dX12_parameters_32 : decode cX12_parameters 32 = .ok (.ireturn, 1) := by decide +kernel
theorem dX12_parameters_33 : decode cX12_parameters 33 = .ok (.iload_n 1, 1) := by decide +kernel
theorem dX12_parameters_34 : decode cX12_parameters 34 = .ok (.istore_n 2, 1) := by decide +kernel
theorem dX12_parameters_35 : decode cX12_parameters 35 = .ok (.iload_n 2, 1) := by decide +kernel
theorem dX12_parameters_36 : decode cX12_parameters 36 = .ok (.ldc 184, 2) := by decide +kernel
theorem dX12_parameters_38 : decode cX12_parameters 38 = .ok (.if_icmp .eq 62, 3) := by decide +kernel
theorem dX12_parameters_41 : decode cX12_parameters 41 = .ok (.aload_n 0, 1) := by decide +kernel
theorem dX12_parameters_42 : decode cX12_parameters 42 = .ok (.iload_n 2, 1) := by decide +kernel
theorem dX12_parameters_43 : decode cX12_parameters 43 = .ok (.invokevirtual 260, 3) := by decide +kernel
theorem dX12_parameters_46 : decode cX12_parameters 46 = .ok (.invokestatic 254, 3) := by decide +kernel
theorem dX12_parameters_49 : decode cX12_parameters 49 = .ok (.iconst 3, 1) := by decide +kernel
theorem dX12_parameters_50 : decode cX12_parameters 50 = .ok (.if_icmp .eq 5, 3) := by decide +kernel
theorem dX12_parameters_53 : decode cX12_parameters 53 = .ok (.iconst 0, 1) := by decide +kernel
theorem dX12_parameters_54 : decode cX12_parameters 54 = .ok (.ireturn, 1) := by decide +kernel
theorem dX12_parameters_55 : decode cX12_parameters 55 = .ok (.aload_n 0, 1) := by decide +kernel
theorem dX12_parameters_56 : decode cX12_parameters 56 = .ok (.iload_n 2, 1) := by decide +kernel
theorem dX12_parameters_57 : decode cX12_parameters 57 = .ok (.invokevirtual 251, 3) := by decide +kernel
theorem dX12_parameters_60 : decode cX12_parameters 60 = .ok (.istore_n 3, 1) := by decide +kernel
theorem dX12_parameters_61 : decode cX12_parameters 61 = .ok (.iload_n 3, 1) := by decide +kernel
theorem dX12_parameters_62 : decode cX12_parameters 62 = .ok (.ldc 184, 2) := by decide +kernel
theorem dX12_parameters_64 : decode cX12_parameters 64 = .ok (.if_icmp .eq 27, 3) := by decide +kernel
theorem dX12_parameters_67 : decode cX12_parameters 67 = .ok (.aload_n 0, 1) := by decide +kernel
theorem dX12_parameters_68 : decode cX12_parameters 68 = .ok (.iload_n 3, 1) := by decide +kernel
theorem dX12_parameters_69 : decode cX12_parameters 69 = .ok (.invokevirtual 260, 3) := by decide +kernel
theorem dX12_parameters_72 : decode cX12_parameters 72 = .ok (.aload_n 0, 1) := by decide +kernel
theorem dX12_parameters_73 : decode cX12_parameters 73 = .ok (.iload_n 2, 1) := by decide +kernel
theorem dX12_parameters_74 : decode cX12_parameters 74 = .ok (.invokevirtual 260, 3) := by decide +kernel
theorem dX12_parameters_77 : decode cX12_parameters 77 = .ok (.if_icmp .ne 5, 3) := by decide +kernel
theorem dX12_parameters_80 : decode cX12_parameters 80 = .ok (.iconst 0, 1) := by decide +kernel
theorem dX12_parameters_81 : decode cX12_parameters 81 = .ok (.ireturn, 1) := by decide +kernel
theorem dX12_parameters_82 : decode cX12_parameters 82 = .ok (.aload_n 0, 1) := by decide +kernel
theorem dX12_parameters_83 : decode cX12_parameters 83 = .ok (.iload_n 3, 1) := by decide +kernel
theorem dX12_parameters_84 : decode cX12_parameters 84 = .ok (.invokevirtual 251, 3) := by decide +kernel
theorem dX12_parameters_87 : decode cX12_parameters 87 = .ok (.istore_n 3, 1) := by decide +kernel
theorem dX12_parameters_88 : decode cX12_parameters 88 = .ok (.goto (-27), 3) := by decide +kernel
theorem dX12_parameters_91 : decode cX12_parameters 91 = .ok (.aload_n 0, 1) := by decide +kernel
theorem dX12_parameters_92 : decode cX12_parameters 92 = .ok (.iload_n 2, 1) := by decide +kernel
theorem dX12_parameters_93 : decode cX12_parameters 93 = .ok (.invokevirtual 251, 3) := by decide +kernel
theorem dX12_parameters_96 : decode cX12_parameters 96 = .ok (.istore_n 2, 1) := by decide +kernel
theorem dX12_parameters_97 : decode cX12_parameters 97 = .ok (.goto (-62), 3) := by decide +kernel
theorem dX12_parameters_100 : decode cX12_parameters 100 = .ok (.iconst 1, 1) := by decide +kernel
theorem dX12_parameters_101 : decode cX12_parameters 101 = .ok (.ireturn, 1) := by decide +kernel
theorem dX12_opOf_0 : decode cX12_opOf 0 = .ok (.aload_n 0, 1) := by decide +kernel
theorem dX12_opOf_1 : decode cX12_opOf 1 = .ok (.iload_n 1, 1) := by decide +kernel
theorem dX12_opOf_2 : decode cX12_opOf 2 = .ok (.invokevirtual 260, 3) := by decide +kernel
theorem dX12_opOf_5 : decode cX12_opOf 5 = .ok (.invokestatic 254, 3) := by decide +kernel
theorem dX12_opOf_8 : decode cX12_opOf 8 = .ok (.iconst 3, 1) := by decide +kernel
theorem dX12_opOf_9 : decode cX12_opOf 9 = .ok (.if_icmp .ne 19, 3) := by decide +kernel
theorem dX12_opOf_12 : decode cX12_opOf 12 = .ok (.aload_n 0, 1) := by decide +kernel
theorem dX12_opOf_13 : decode cX12_opOf 13 = .ok (.getfield 13, 3) := by decide +kernel
theorem dX12_opOf_16 : decode cX12_opOf 16 = .ok (.aload_n 0, 1) := by decide +kernel
theorem dX12_opOf_17 : decode cX12_opOf 17 = .ok (.iload_n 1, 1) := by decide +kernel
theorem dX12_opOf_18 : decode cX12_opOf 18 = .ok (.invokevirtual 260, 3) := by decide +kernel
theorem dX12_opOf_21 : decode cX12_opOf 21 = .ok (.invokestatic 180, 3) := by decide +kernel
theorem dX12_opOf_24 : decode cX12_opOf 24 = .ok (.iaload, 1) := by decide +kernel
theorem dX12_opOf_25 : decode cX12_opOf 25 = .ok (.goto 5, 3) := by decide +kernel
theorem dX12_opOf_28 : decode cX12_opOf 28 = .ok (.bipush 31, 2) := by decide +kernel
theorem dX12_opOf_30 : decode cX12_opOf 30 = .ok (.ireturn, 1) := by decide +kernel
theorem dX12_wellFormed_0 : decode cX12_wellFormed 0 = .ok (.iconst 1, 1) := by decide +kernel
theorem dX12_wellFormed_1 : decode cX12_wellFormed 1 = .ok (.istore_n 2, 1) := by decide +kernel
theorem dX12_wellFormed_2 : decode cX12_wellFormed 2 = .ok (.aload_n 0, 1) := by decide +kernel
theorem dX12_wellFormed_3 : decode cX12_wellFormed 3 = .ok (.getfield 143, 3) := by decide +kernel
theorem dX12_wellFormed_6 : decode cX12_wellFormed 6 = .ok (.iconst 0, 1) := by decide +kernel
theorem dX12_wellFormed_7 : decode cX12_wellFormed 7 = .ok (.iload_n 1, 1) := by decide +kernel
theorem dX12_wellFormed_8 : decode cX12_wellFormed 8 = .ok (.iastore, 1) := by decide +kernel
theorem dX12_wellFormed_9 : decode cX12_wellFormed 9 = .ok (.iload_n 2, 1) := by decide +kernel
theorem dX12_wellFormed_10 : decode cX12_wellFormed 10 = .ok (.ifCond .le 222, 3) := by decide +kernel
theorem dX12_wellFormed_13 : decode cX12_wellFormed 13 = .ok (.iinc 2 (-1), 3) := by decide +kernel
theorem dX12_wellFormed_16 : decode cX12_wellFormed 16 = .ok (.aload_n 0, 1) := by decide +kernel
theorem dX12_wellFormed_17 : decode cX12_wellFormed 17 = .ok (.getfield 143, 3) := by decide +kernel
theorem dX12_wellFormed_20 : decode cX12_wellFormed 20 = .ok (.iload_n 2, 1) := by decide +kernel
theorem dX12_wellFormed_21 : decode cX12_wellFormed 21 = .ok (.iaload, 1) := by decide +kernel
theorem dX12_wellFormed_22 : decode cX12_wellFormed 22 = .ok (.istore_n 3, 1) := by decide +kernel
theorem dX12_wellFormed_23 : decode cX12_wellFormed 23 = .ok (.iload_n 3, 1) := by decide +kernel
theorem dX12_wellFormed_24 : decode cX12_wellFormed 24 = .ok (.invokestatic 254, 3) := by decide +kernel
theorem dX12_wellFormed_27 : decode cX12_wellFormed 27 = .ok (.iconst 4, 1) := by decide +kernel
theorem dX12_wellFormed_28 : decode cX12_wellFormed 28 = .ok (.if_icmp .eq 6, 3) := by decide +kernel
theorem dX12_wellFormed_31 : decode cX12_wellFormed 31 = .ok (.goto (-22), 3) := by decide +kernel
theorem dX12_wellFormed_34 : decode cX12_wellFormed 34 = .ok (.aload_n 0, 1) := by decide +kernel
theorem dX12_wellFormed_35 : decode cX12_wellFormed 35 = .ok (.iload_n 3, 1) := by decide +kernel
theorem dX12_wellFormed_36 : decode cX12_wellFormed 36 = .ok (.invokevirtual 263, 3) := by decide +kernel
theorem dX12_wellFormed_39 : decode cX12_wellFormed 39 = .ok (.istore 4, 2) := by decide +kernel
theorem dX12_wellFormed_41 : decode cX12_wellFormed 41 = .ok (.aload_n 0, 1) := by decide +kernel
theorem dX12_wellFormed_42 : decode cX12_wellFormed 42 = .ok (.aload_n 0, 1) := by decide +kernel
theorem dX12_wellFormed_43 : decode cX12_wellFormed 43 = .ok (.iload_n 3, 1) := by decide +kernel
theorem dX12_wellFormed_44 : decode cX12_wellFormed 44 = .ok (.invokevirtual 251, 3) := by decide +kernel
theorem dX12_wellFormed_47 : decode cX12_wellFormed 47 = .ok (.invokevirtual 257, 3) := by decide +kernel
theorem dX12_wellFormed_50 : decode cX12_wellFormed 50 = .ok (.istore 5, 2) := by decide +kernel
theorem dX12_wellFormed_52 : decode cX12_wellFormed 52 = .ok (.iload 4, 2) := by decide +kernel
theorem dX12_wellFormed_54 : decode cX12_wellFormed 54 = .ok (.bipush 31, 2) := by decide +kernel
theorem dX12_wellFormed_56 : decode cX12_wellFormed 56 = .ok (.if_icmp .ne 12, 3) := by decide +kernel
theorem dX12_wellFormed_59 : decode cX12_wellFormed 59 = .ok (.iload 5, 2) := by decide +kernel
theorem dX12_wellFormed_61 : decode cX12_wellFormed 61 = .ok (.iconst 4, 1) := by decide +kernel
theorem dX12_wellFormed_62 : decode cX12_wellFormed 62 = .ok (.if_icmp .le 32, 3) := by decide +kernel
theorem dX12_wellFormed_65 : decode cX12_wellFormed 65 = .ok (.goto 27, 3) := by decide +kernel
theorem dX12_wellFormed_68 : decode cX12_wellFormed 68 = .ok (.iload 5, 2) := by decide +kernel
theorem dX12_wellFormed_70 : decode cX12_wellFormed 70 = .ok (.aload_n 0, 1) := by decide +kernel
theorem dX12_wellFormed_71 : decode cX12_wellFormed 71 = .ok (.getfield 89, 3) := by decide +kernel
theorem dX12_wellFormed_74 : decode cX12_wellFormed 74 = .ok (.iload 4, 2) := by decide +kernel
theorem dX12_wellFormed_76 : decode cX12_wellFormed 76 = .ok (.iaload, 1) := by decide +kernel
theorem dX12_wellFormed_77 : decode cX12_wellFormed 77 = .ok (.if_icmp .lt 15, 3) := by decide +kernel
theorem dX12_wellFormed_80 : decode cX12_wellFormed 80 = .ok (.iload 5, 2) := by decide +kernel
theorem dX12_wellFormed_82 : decode cX12_wellFormed 82 = .ok (.aload_n 0, 1) := by decide +kernel
theorem dX12_wellFormed_83 : decode cX12_wellFormed 83 = .ok (.getfield 92, 3) := by decide +kernel
theorem dX12_wellFormed_86 : decode cX12_wellFormed 86 = .ok (.iload 4, 2) := by decide +kernel
theorem dX12_wellFormed_88 : decode cX12_wellFormed 88 = .ok (.iaload, 1) := by decide +kernel
theorem dX12_wellFormed_89 : decode cX12_wellFormed 89 = .ok (.if_icmp .le 5, 3) := by decide +kernel
theorem dX12_wellFormed_92 : decode cX12_wellFormed 92 = .ok (.iconst 0, 1) := by decide +kernel
theorem dX12_wellFormed_93 : decode cX12_wellFormed 93 = .ok (.ireturn, 1) := by decide +kernel
theorem dX12_wellFormed_94 : decode cX12_wellFormed 94 = .ok (.iload 4, 2) := by decide +kernel
theorem dX12_wellFormed_96 : decode cX12_wellFormed 96 = .ok (.iconst 3, 1) := by decide +kernel
theorem dX12_wellFormed_97 : decode cX12_wellFormed 97 = .ok (.if_icmp .ne 19, 3) := by decide +kernel
theorem dX12_wellFormed_100 : decode cX12_wellFormed 100 = .ok (.aload_n 0, 1) := by decide +kernel
theorem dX12_wellFormed_101 : decode cX12_wellFormed 101 = .ok (.aload_n 0, 1) := by decide +kernel
theorem dX12_wellFormed_102 : decode cX12_wellFormed 102 = .ok (.iload_n 3, 1) := by decide +kernel
theorem dX12_wellFormed_103 : decode cX12_wellFormed 103 = .ok (.invokevirtual 251, 3) := by decide +kernel
theorem dX12_wellFormed_106 : decode cX12_wellFormed 106 = .ok (.invokevirtual 260, 3) := by decide +kernel
theorem dX12_wellFormed_109 : decode cX12_wellFormed 109 = .ok (.invokestatic 254, 3) := by decide +kernel
theorem dX12_wellFormed_112 : decode cX12_wellFormed 112 = .ok (.iconst 3, 1) := by decide +kernel
theorem dX12_wellFormed_113 : decode cX12_wellFormed 113 = .ok (.if_icmp .ne 25, 3) := by decide +kernel
theorem dX12_wellFormed_116 : decode cX12_wellFormed 116 = .ok (.iload 4, 2) := by decide +kernel
theorem dX12_wellFormed_118 : decode cX12_wellFormed 118 = .ok (.iconst 5, 1) := by decide +kernel
theorem dX12_wellFormed_119 : decode cX12_wellFormed 119 = .ok (.if_icmp .ne 21, 3) := by decide +kernel
theorem dX12_wellFormed_122 : decode cX12_wellFormed 122 = .ok (.aload_n 0, 1) := by decide +kernel
theorem dX12_wellFormed_123 : decode cX12_wellFormed 123 = .ok (.aload_n 0, 1) := by decide +kernel
theorem dX12_wellFormed_124 : decode cX12_wellFormed 124 = .ok (.aload_n 0, 1) := by decide +kernel
theorem dX12_wellFormed_125 : decode cX12_wellFormed 125 = .ok (.iload_n 3, 1) := by decide +kernel
theorem dX12_wellFormed_126 : decode cX12_wellFormed 126 = .ok (.invokevirtual 251, 3) := by decide +kernel
theorem dX12_wellFormed_129 : decode cX12_wellFormed 129 = .ok (.invokevirtual 260, 3) := by decide +kernel
theorem dX12_wellFormed_132 : decode cX12_wellFormed 132 = .ok (.invokevirtual 266, 3) := by decide +kernel
theorem dX12_wellFormed_135 : decode cX12_wellFormed 135 = .ok (.ifCond .ne 5, 3) := by decide +kernel
theorem dX12_wellFormed_138 : decode cX12_wellFormed 138 = .ok (.iconst 0, 1) := by decide +kernel
theorem dX12_wellFormed_139 : decode cX12_wellFormed 139 = .ok (.ireturn, 1) := by decide +kernel
theorem dX12_wellFormed_140 : decode cX12_wellFormed 140 = .ok (.iload 4, 2) := by decide +kernel
theorem dX12_wellFormed_142 : decode cX12_wellFormed 142 = .ok (.bipush 31, 2) := by decide +kernel
theorem dX12_wellFormed_144 : decode cX12_wellFormed 144 = .ok (.if_icmp .ne 7, 3) := by decide +kernel
theorem dX12_wellFormed_147 : decode cX12_wellFormed 147 = .ok (.iload_n 3, 1) := by decide +kernel
theorem dX12_wellFormed_148 : decode cX12_wellFormed 148 = .ok (.goto 42, 3) := by decide +kernel
theorem dX12_wellFormed_151 : decode cX12_wellFormed 151 = .ok (.iload 4, 2) := by decide +kernel
theorem dX12_wellFormed_153 : decode cX12_wellFormed 153 = .ok (.ifCond .ne 8, 3) := by decide +kernel
theorem dX12_wellFormed_156 : decode cX12_wellFormed 156 = .ok (.ldc 184, 2) := by decide +kernel
theorem dX12_wellFormed_158 : decode cX12_wellFormed 158 = .ok (.goto 32, 3) := by decide +kernel
theorem dX12_wellFormed_161 : decode cX12_wellFormed 161 = .ok (.iload 4, 2) := by decide +kernel
theorem dX12_wellFormed_163 : decode cX12_wellFormed 163 = .ok (.iconst 3, 1) := by decide +kernel
theorem dX12_wellFormed_164 : decode cX12_wellFormed 164 = .ok (.if_icmp .eq 9, 3) := by decide +kernel
theorem dX12_wellFormed_167 : decode cX12_wellFormed 167 = .ok (.iload 4, 2) := by decide +kernel
theorem dX12_wellFormed_169 : decode cX12_wellFormed 169 = .ok (.iconst 5, 1) := by decide +kernel
theorem dX12_wellFormed_170 : decode cX12_wellFormed 170 = .ok (.if_icmp .ne 15, 3) := by decide +kernel
theorem dX12_wellFormed_173 : decode cX12_wellFormed 173 = .ok (.aload_n 0, 1) := by decide +kernel
theorem dX12_wellFormed_174 : decode cX12_wellFormed 174 = .ok (.aload_n 0, 1) := by decide +kernel
theorem dX12_wellFormed_175 : decode cX12_wellFormed 175 = .ok (.iload_n 3, 1) := by decide +kernel
theorem dX12_wellFormed_176 : decode cX12_wellFormed 176 = .ok (.invokevirtual 251, 3) := by decide +kernel
theorem dX12_wellFormed_179 : decode cX12_wellFormed 179 = .ok (.invokevirtual 251, 3) := by decide +kernel
theorem dX12_wellFormed_182 : decode cX12_wellFormed 182 = .ok (.goto 8, 3) := by decide +kernel
theorem dX12_wellFormed_185 : decode cX12_wellFormed 185 = .ok (.aload_n 0, 1) := by decide +kernel
theorem dX12_wellFormed_186 : decode cX12_wellFormed 186 = .ok (.iload_n 3, 1) := by decide +kernel
theorem dX12_wellFormed_187 : decode cX12_wellFormed 187 = .ok (.invokevirtual 251, 3) := by decide +kernel
theorem dX12_wellFormed_190 : decode cX12_wellFormed 190 = .ok (.istore 6, 2) := by decide +kernel
theorem dX12_wellFormed_192 : decode cX12_wellFormed 192 = .ok (.iload 6, 2) := by decide +kernel
theorem dX12_wellFormed_194 : decode cX12_wellFormed 194 = .ok (.istore 7, 2) := by decide +kernel
theorem dX12_wellFormed_196 : decode cX12_wellFormed 196 = .ok (.iload 7, 2) := by decide +kernel
theorem dX12_wellFormed_198 : decode cX12_wellFormed 198 = .ok (.ldc 184, 2) := by decide +kernel
theorem dX12_wellFormed_200 : decode cX12_wellFormed 200 = .ok (.if_icmp .eq 29, 3) := by decide +kernel
theorem dX12_wellFormed_203 : decode cX12_wellFormed 203 = .ok (.aload_n 0, 1) := by decide +kernel
theorem dX12_wellFormed_204 : decode cX12_wellFormed 204 = .ok (.getfield 143, 3) := by decide +kernel
theorem dX12_wellFormed_207 : decode cX12_wellFormed 207 = .ok (.iload_n 2, 1) := by decide +kernel
theorem dX12_wellFormed_208 : decode cX12_wellFormed 208 = .ok (.aload_n 0, 1) := by decide +kernel
theorem dX12_wellFormed_209 : decode cX12_wellFormed 209 = .ok (.iload 7, 2) := by decide +kernel
theorem dX12_wellFormed_211 : decode cX12_wellFormed 211 = .ok (.invokevirtual 260, 3) := by decide +kernel
theorem dX12_wellFormed_214 : decode cX12_wellFormed 214 = .ok (.iastore, 1) := by decide +kernel
theorem dX12_wellFormed_215 : decode cX12_wellFormed 215 = .ok (.iinc 2 1, 3) := by decide +kernel
theorem dX12_wellFormed_218 : decode cX12_wellFormed 218 = .ok (.aload_n 0, 1) := by decide +kernel
theorem dX12_wellFormed_219 : decode cX12_wellFormed 219 = .ok (.iload 7, 2) := by decide +kernel
theorem dX12_wellFormed_221 : decode cX12_wellFormed 221 = .ok (.invokevirtual 251, 3) := by decide +kernel
theorem dX12_wellFormed_224 : decode cX12_wellFormed 224 = .ok (.istore 7, 2) := by decide +kernel
theorem dX12_wellFormed_226 : decode cX12_wellFormed 226 = .ok (.goto (-30), 3) := by decide +kernel
theorem dX12_wellFormed_229 : decode cX12_wellFormed 229 = .ok (.goto (-220), 3) := by decide +kernel
theorem dX12_wellFormed_232 : decode cX12_wellFormed 232 = .ok (.iconst 1, 1) := by decide +kernel
theorem dX12_wellFormed_233 : decode cX12_wellFormed 233 = .ok (.ireturn, 1) := by decide +kernel
theorem dX12_mark_0 : decode cX12_mark 0 = .ok (.iload_n 1, 1) := by decide +kernel
theorem dX12_mark_1 : decode cX12_mark 1 = .ok (.invokestatic 254, 3) := by decide +kernel
theorem dX12_mark_4 : decode cX12_mark 4 = .ok (.istore_n 2, 1) := by decide +kernel
theorem dX12_mark_5 : decode cX12_mark 5 = .ok (.iload_n 2, 1) := by decide +kernel
theorem dX12_mark_6 : decode cX12_mark 6 = .ok (.iconst 4, 1) := by decide +kernel
theorem dX12_mark_7 : decode cX12_mark 7 = .ok (.if_icmp .ne 27, 3) := by decide +kernel
theorem dX12_mark_10 : decode cX12_mark 10 = .ok (.iload_n 1, 1) := by decide +kernel
theorem dX12_mark_11 : decode cX12_mark 11 = .ok (.invokestatic 180, 3) := by decide +kernel
theorem dX12_mark_14 : decode cX12_mark 14 = .ok (.sipush 2000, 3) := by decide +kernel
theorem dX12_mark_17 : decode cX12_mark 17 = .ok (.if_icmp .lt 17, 3) := by decide +kernel
theorem dX12_mark_20 : decode cX12_mark 20 = .ok (.aload_n 0, 1) := by decide +kernel
theorem dX12_mark_21 : decode cX12_mark 21 = .ok (.getfield 110, 3) := by decide +kernel
theorem dX12_mark_24 : decode cX12_mark 24 = .ok (.iload_n 1, 1) := by decide +kernel
theorem dX12_mark_25 : decode cX12_mark 25 = .ok (.invokestatic 180, 3) := by decide +kernel
theorem dX12_mark_28 : decode cX12_mark 28 = .ok (.sipush 2000, 3) := by decide +kernel
theorem dX12_mark_31 : decode cX12_mark 31 = .ok (.isub, 1) := by decide +kernel
theorem dX12_mark_32 : decode cX12_mark 32 = .ok (.iconst 1, 1) := by decide +kernel
theorem dX12_mark_33 : decode cX12_mark 33 = .ok (.bastore, 1) := by decide +kernel
theorem dX12_mark_34 : decode cX12_mark 34 = .ok (.iload_n 2, 1) := by decide +kernel
theorem dX12_mark_35 : decode cX12_mark 35 = .ok (.iconst 5, 1) := by decide +kernel
theorem dX12_mark_36 : decode cX12_mark 36 = .ok (.if_icmp .eq 9, 3) := by decide +kernel
theorem dX12_mark_39 : decode cX12_mark 39 = .ok (.iload_n 2, 1) := by decide +kernel
theorem dX12_mark_40 : decode cX12_mark 40 = .ok (.bipush 6, 2) := by decide +kernel
theorem dX12_mark_42 : decode cX12_mark 42 = .ok (.if_icmp .ne 13, 3) := by decide +kernel
theorem dX12_mark_45 : decode cX12_mark 45 = .ok (.aload_n 0, 1) := by decide +kernel
theorem dX12_mark_46 : decode cX12_mark 46 = .ok (.getfield 110, 3) := by decide +kernel
theorem dX12_mark_49 : decode cX12_mark 49 = .ok (.iload_n 1, 1) := by decide +kernel
theorem dX12_mark_50 : decode cX12_mark 50 = .ok (.invokestatic 180, 3) := by decide +kernel
theorem dX12_mark_53 : decode cX12_mark 53 = .ok (.iconst 1, 1) := by decide +kernel
theorem dX12_mark_54 : decode cX12_mark 54 = .ok (.bastore, 1) := by decide +kernel
theorem dX12_mark_55 : decode cX12_mark 55 = .ok (.return_, 1) := by decide +kernel
theorem dX12_markFrame_0 : decode cX12_markFrame 0 = .ok (.iload_n 1, 1) := by decide +kernel
theorem dX12_markFrame_1 : decode cX12_markFrame 1 = .ok (.ifCond .le 12, 3) := by decide +kernel
theorem dX12_markFrame_4 : decode cX12_markFrame 4 = .ok (.aload_n 0, 1) := by decide +kernel
theorem dX12_markFrame_5 : decode cX12_markFrame 5 = .ok (.getfield 110, 3) := by decide +kernel
theorem dX12_markFrame_8 : decode cX12_markFrame 8 = .ok (.iload_n 1, 1) := by decide +kernel
theorem dX12_markFrame_9 : decode cX12_markFrame 9 = .ok (.iconst 1, 1) := by decide +kernel
theorem dX12_markFrame_10 : decode cX12_markFrame 10 = .ok (.isub, 1) := by decide +kernel
theorem dX12_markFrame_11 : decode cX12_markFrame 11 = .ok (.iconst 1, 1) := by decide +kernel
theorem dX12_markFrame_12 : decode cX12_markFrame 12 = .ok (.bastore, 1) := by decide +kernel
theorem dX12_markFrame_13 : decode cX12_markFrame 13 = .ok (.return_, 1) := by decide +kernel
theorem dX12_markWithin_0 : decode cX12_markWithin 0 = .ok (.aload_n 0, 1) := by decide +kernel
theorem dX12_markWithin_1 : decode cX12_markWithin 1 = .ok (.getfield 101, 3) := by decide +kernel
theorem dX12_markWithin_4 : decode cX12_markWithin 4 = .ok (.iload_n 1, 1) := by decide +kernel
theorem dX12_markWithin_5 : decode cX12_markWithin 5 = .ok (.iaload, 1) := by decide +kernel
theorem dX12_markWithin_6 : decode cX12_markWithin 6 = .ok (.iconst 4, 1) := by decide +kernel
theorem dX12_markWithin_7 : decode cX12_markWithin 7 = .ok (.if_icmp .ne 7, 3) := by decide +kernel
theorem dX12_markWithin_10 : decode cX12_markWithin 10 = .ok (.iconst 2, 1) := by decide +kernel
theorem dX12_markWithin_11 : decode cX12_markWithin 11 = .ok (.goto 4, 3) := by decide +kernel
theorem dX12_markWithin_14 : decode cX12_markWithin 14 = .ok (.iconst 0, 1) := by decide +kernel
theorem dX12_markWithin_15 : decode cX12_markWithin 15 = .ok (.istore_n 2, 1) := by decide +kernel
theorem dX12_markWithin_16 : decode cX12_markWithin 16 = .ok (.aload_n 0, 1) := by decide +kernel
theorem dX12_markWithin_17 : decode cX12_markWithin 17 = .ok (.getfield 101, 3) := by decide +kernel
theorem dX12_markWithin_20 : decode cX12_markWithin 20 = .ok (.iload_n 1, 1) := by decide +kernel
theorem dX12_markWithin_21 : decode cX12_markWithin 21 = .ok (.iaload, 1) := by decide +kernel
theorem dX12_markWithin_22 : decode cX12_markWithin 22 = .ok (.iconst 1, 1) := by decide +kernel
theorem dX12_markWithin_23 : decode cX12_markWithin 23 = .ok (.if_icmp .ne 7, 3) := by decide +kernel
theorem dX12_markWithin_26 : decode cX12_markWithin 26 = .ok (.iconst 2, 1) := by decide +kernel
theorem dX12_markWithin_27 : decode cX12_markWithin 27 = .ok (.goto 44, 3) := by decide +kernel
theorem dX12_markWithin_30 : decode cX12_markWithin 30 = .ok (.aload_n 0, 1) := by decide +kernel
theorem dX12_markWithin_31 : decode cX12_markWithin 31 = .ok (.getfield 101, 3) := by decide +kernel
theorem dX12_markWithin_34 : decode cX12_markWithin 34 = .ok (.iload_n 1, 1) := by decide +kernel
theorem dX12_markWithin_35 : decode cX12_markWithin 35 = .ok (.iaload, 1) := by decide +kernel
theorem dX12_markWithin_36 : decode cX12_markWithin 36 = .ok (.iconst 2, 1) := by decide +kernel
theorem dX12_markWithin_37 : decode cX12_markWithin 37 = .ok (.if_icmp .ne 14, 3) := by decide +kernel
theorem dX12_markWithin_40 : decode cX12_markWithin 40 = .ok (.aload_n 0, 1) := by decide +kernel
theorem dX12_markWithin_41 : decode cX12_markWithin 41 = .ok (.getfield 104, 3) := by decide +kernel
theorem dX12_markWithin_44 : decode cX12_markWithin 44 = .ok (.iload_n 1, 1) := by decide +kernel
theorem dX12_markWithin_45 : decode cX12_markWithin 45 = .ok (.iaload, 1) := by decide +kernel
theorem dX12_markWithin_46 : decode cX12_markWithin 46 = .ok (.iconst 1, 1) := by decide +kernel
theorem dX12_markWithin_47 : decode cX12_markWithin 47 = .ok (.isub, 1) := by decide +kernel
theorem dX12_markWithin_48 : decode cX12_markWithin 48 = .ok (.goto 23, 3) := by decide +kernel
theorem dX12_markWithin_51 : decode cX12_markWithin 51 = .ok (.aload_n 0, 1) := by decide +kernel
theorem dX12_markWithin_52 : decode cX12_markWithin 52 = .ok (.getfield 101, 3) := by decide +kernel
theorem dX12_markWithin_55 : decode cX12_markWithin 55 = .ok (.iload_n 1, 1) := by decide +kernel
theorem dX12_markWithin_56 : decode cX12_markWithin 56 = .ok (.iaload, 1) := by decide +kernel
theorem dX12_markWithin_57 : decode cX12_markWithin 57 = .ok (.iconst 4, 1) := by decide +kernel
theorem dX12_markWithin_58 : decode cX12_markWithin 58 = .ok (.if_icmp .ne 12, 3) := by decide +kernel
theorem dX12_markWithin_61 : decode cX12_markWithin 61 = .ok (.aload_n 0, 1) := by decide +kernel
theorem dX12_markWithin_62 : decode cX12_markWithin 62 = .ok (.getfield 104, 3) := by decide +kernel
theorem dX12_markWithin_65 : decode cX12_markWithin 65 = .ok (.iload_n 1, 1) := by decide +kernel
theorem dX12_markWithin_66 : decode cX12_markWithin 66 = .ok (.iaload, 1) := by decide +kernel
theorem dX12_markWithin_67 : decode cX12_markWithin 67 = .ok (.goto 4, 3) := by decide +kernel
theorem dX12_markWithin_70 : decode cX12_markWithin 70 = .ok (.iconst 0, 1) := by decide +kernel
theorem dX12_markWithin_71 : decode cX12_markWithin 71 = .ok (.istore_n 3, 1) := by decide +kernel
theorem dX12_markWithin_72 : decode cX12_markWithin 72 = .ok (.iload_n 2, 1) := by decide +kernel
theorem dX12_markWithin_73 : decode cX12_markWithin 73 = .ok (.istore 4, 2) := by decide +kernel
theorem dX12_markWithin_75 : decode cX12_markWithin 75 = .ok (.iload 4, 2) := by decide +kernel
theorem dX12_markWithin_77 : decode cX12_markWithin 77 = .ok (.iload_n 3, 1) := by decide +kernel
theorem dX12_markWithin_78 : decode cX12_markWithin 78 = .ok (.if_icmp .ge 25, 3) := by decide +kernel
theorem dX12_markWithin_81 : decode cX12_markWithin 81 = .ok (.aload_n 0, 1) := by decide +kernel
theorem dX12_markWithin_82 : decode cX12_markWithin 82 = .ok (.aload_n 0, 1) := by decide +kernel
theorem dX12_markWithin_83 : decode cX12_markWithin 83 = .ok (.getfield 107, 3) := by decide +kernel
theorem dX12_markWithin_86 : decode cX12_markWithin 86 = .ok (.bipush 8, 2) := by decide +kernel
theorem dX12_markWithin_88 : decode cX12_markWithin 88 = .ok (.iload_n 1, 1) := by decide +kernel
theorem dX12_markWithin_89 : decode cX12_markWithin 89 = .ok (.imul, 1) := by decide +kernel
theorem dX12_markWithin_90 : decode cX12_markWithin 90 = .ok (.iload 4, 2) := by decide +kernel
theorem dX12_markWithin_92 : decode cX12_markWithin 92 = .ok (.iadd, 1) := by decide +kernel
theorem dX12_markWithin_93 : decode cX12_markWithin 93 = .ok (.iaload, 1) := by decide +kernel
theorem dX12_markWithin_94 : decode cX12_markWithin 94 = .ok (.invokevirtual 269, 3) := by decide +kernel
theorem dX12_markWithin_97 : decode cX12_markWithin 97 = .ok (.iinc 4 1, 3) := by decide +kernel
theorem dX12_markWithin_100 : decode cX12_markWithin 100 = .ok (.goto (-25), 3) := by decide +kernel
theorem dX12_markWithin_103 : decode cX12_markWithin 103 = .ok (.aload_n 0, 1) := by decide +kernel
theorem dX12_markWithin_104 : decode cX12_markWithin 104 = .ok (.getfield 101, 3) := by decide +kernel
theorem dX12_markWithin_107 : decode cX12_markWithin 107 = .ok (.iload_n 1, 1) := by decide +kernel
theorem dX12_markWithin_108 : decode cX12_markWithin 108 = .ok (.iaload, 1) := by decide +kernel
theorem dX12_markWithin_109 : decode cX12_markWithin 109 = .ok (.iconst 3, 1) := by decide +kernel
theorem dX12_markWithin_110 : decode cX12_markWithin 110 = .ok (.if_icmp .ne 18, 3) := by decide +kernel
theorem dX12_markWithin_113 : decode cX12_markWithin 113 = .ok (.aload_n 0, 1) := by decide +kernel
theorem dX12_markWithin_114 : decode cX12_markWithin 114 = .ok (.aload_n 0, 1) := by decide +kernel
theorem dX12_markWithin_115 : decode cX12_markWithin 115 = .ok (.getfield 107, 3) := by decide +kernel
theorem dX12_markWithin_118 : decode cX12_markWithin 118 = .ok (.bipush 8, 2) := by decide +kernel
theorem dX12_markWithin_120 : decode cX12_markWithin 120 = .ok (.iload_n 1, 1) := by decide +kernel
theorem dX12_markWithin_121 : decode cX12_markWithin 121 = .ok (.imul, 1) := by decide +kernel
theorem dX12_markWithin_122 : decode cX12_markWithin 122 = .ok (.iconst 1, 1) := by decide +kernel
theorem dX12_markWithin_123 : decode cX12_markWithin 123 = .ok (.iadd, 1) := by decide +kernel
theorem dX12_markWithin_124 : decode cX12_markWithin 124 = .ok (.iaload, 1) := by decide +kernel
theorem dX12_markWithin_125 : decode cX12_markWithin 125 = .ok (.invokevirtual 272, 3) := by decide +kernel
theorem dX12_markWithin_128 : decode cX12_markWithin 128 = .ok (.aload_n 0, 1) := by decide +kernel
theorem dX12_markWithin_129 : decode cX12_markWithin 129 = .ok (.getfield 101, 3) := by decide +kernel
theorem dX12_markWithin_132 : decode cX12_markWithin 132 = .ok (.iload_n 1, 1) := by decide +kernel
theorem dX12_markWithin_133 : decode cX12_markWithin 133 = .ok (.iaload, 1) := by decide +kernel
theorem dX12_markWithin_134 : decode cX12_markWithin 134 = .ok (.iconst 4, 1) := by decide +kernel
theorem dX12_markWithin_135 : decode cX12_markWithin 135 = .ok (.if_icmp .ne 16, 3) := by decide +kernel
theorem dX12_markWithin_138 : decode cX12_markWithin 138 = .ok (.aload_n 0, 1) := by decide +kernel
theorem dX12_markWithin_139 : decode cX12_markWithin 139 = .ok (.aload_n 0, 1) := by decide +kernel
theorem dX12_markWithin_140 : decode cX12_markWithin 140 = .ok (.getfield 107, 3) := by decide +kernel
theorem dX12_markWithin_143 : decode cX12_markWithin 143 = .ok (.bipush 8, 2) := by decide +kernel
theorem dX12_markWithin_145 : decode cX12_markWithin 145 = .ok (.iload_n 1, 1) := by decide +kernel
theorem dX12_markWithin_146 : decode cX12_markWithin 146 = .ok (.imul, 1) := by decide +kernel
theorem dX12_markWithin_147 : decode cX12_markWithin 147 = .ok (.iaload, 1) := by decide +kernel
theorem dX12_markWithin_148 : decode cX12_markWithin 148 = .ok (.invokevirtual 272, 3) := by decide +kernel
theorem dX12_markWithin_151 : decode cX12_markWithin 151 = .ok (.return_, 1) := by decide +kernel
theorem dX12_marks_0 : decode cX12_marks 0 = .ok (.iconst 0, 1) := by decide +kernel
theorem dX12_marks_1 : decode cX12_marks 1 = .ok (.istore_n 1, 1) := by decide +kernel
theorem dX12_marks_2 : decode cX12_marks 2 = .ok (.iconst 0, 1) := by decide +kernel
theorem dX12_marks_3 : decode cX12_marks 3 = .ok (.istore_n 2, 1) := by decide +kernel
theorem dX12_marks_4 : decode cX12_marks 4 = .ok (.iload_n 2, 1) := by decide +kernel
theorem dX12_marks_5 : decode cX12_marks 5 = .ok (.sipush 168, 3) := by decide +kernel
theorem dX12_marks_8 : decode cX12_marks 8 = .ok (.if_icmp .ge 26, 3) := by decide +kernel
theorem dX12_marks_11 : decode cX12_marks 11 = .ok (.iload_n 1, 1) := by decide +kernel
theorem dX12_marks_12 : decode cX12_marks 12 = .ok (.aload_n 0, 1) := by decide +kernel
theorem dX12_marks_13 : decode cX12_marks 13 = .ok (.getfield 110, 3) := by decide +kernel
theorem dX12_marks_16 : decode cX12_marks 16 = .ok (.iload_n 2, 1) := by decide +kernel
theorem dX12_marks_17 : decode cX12_marks 17 = .ok (.baload, 1) := by decide +kernel
theorem dX12_marks_18 : decode cX12_marks 18 = .ok (.ifCond .eq 7, 3) := by decide +kernel
theorem dX12_marks_21 : decode cX12_marks 21 = .ok (.iconst 1, 1) := by decide +kernel
theorem dX12_marks_22 : decode cX12_marks 22 = .ok (.goto 4, 3) := by decide +kernel
theorem dX12_marks_25 : decode cX12_marks 25 = .ok (.iconst 0, 1) := by decide +kernel
theorem dX12_marks_26 : decode cX12_marks 26 = .ok (.iadd, 1) := by decide +kernel
theorem dX12_marks_27 : decode cX12_marks 27 = .ok (.istore_n 1, 1) := by decide +kernel
theorem dX12_marks_28 : decode cX12_marks 28 = .ok (.iinc 2 1, 3) := by decide +kernel
theorem dX12_marks_31 : decode cX12_marks 31 = .ok (.goto (-27), 3) := by decide +kernel
theorem dX12_marks_34 : decode cX12_marks 34 = .ok (.iload_n 1, 1) := by decide +kernel
theorem dX12_marks_35 : decode cX12_marks 35 = .ok (.ireturn, 1) := by decide +kernel
theorem dX12_gather_0 : decode cX12_gather 0 = .ok (.iconst 0, 1) := by decide +kernel
theorem dX12_gather_1 : decode cX12_gather 1 = .ok (.istore_n 1, 1) := by decide +kernel
theorem dX12_gather_2 : decode cX12_gather 2 = .ok (.iload_n 1, 1) := by decide +kernel
theorem dX12_gather_3 : decode cX12_gather 3 = .ok (.sipush 168, 3) := by decide +kernel
theorem dX12_gather_6 : decode cX12_gather 6 = .ok (.if_icmp .ge 16, 3) := by decide +kernel
theorem dX12_gather_9 : decode cX12_gather 9 = .ok (.aload_n 0, 1) := by decide +kernel
theorem dX12_gather_10 : decode cX12_gather 10 = .ok (.getfield 110, 3) := by decide +kernel
theorem dX12_gather_13 : decode cX12_gather 13 = .ok (.iload_n 1, 1) := by decide +kernel
theorem dX12_gather_14 : decode cX12_gather 14 = .ok (.iconst 0, 1) := by decide +kernel
theorem dX12_gather_15 : decode cX12_gather 15 = .ok (.bastore, 1) := by decide +kernel
theorem dX12_gather_16 : decode cX12_gather 16 = .ok (.iinc 1 1, 3) := by decide +kernel
theorem dX12_gather_19 : decode cX12_gather 19 = .ok (.goto (-17), 3) := by decide +kernel
theorem dX12_gather_22 : decode cX12_gather 22 = .ok (.iconst 0, 1) := by decide +kernel
theorem dX12_gather_23 : decode cX12_gather 23 = .ok (.istore_n 1, 1) := by decide +kernel
theorem dX12_gather_24 : decode cX12_gather 24 = .ok (.iload_n 1, 1) := by decide +kernel
theorem dX12_gather_25 : decode cX12_gather 25 = .ok (.aload_n 0, 1) := by decide +kernel
theorem dX12_gather_26 : decode cX12_gather 26 = .ok (.getfield 185, 3) := by decide +kernel
theorem dX12_gather_29 : decode cX12_gather 29 = .ok (.if_icmp .ge 28, 3) := by decide +kernel
theorem dX12_gather_32 : decode cX12_gather 32 = .ok (.aload_n 0, 1) := by decide +kernel
theorem dX12_gather_33 : decode cX12_gather 33 = .ok (.getfield 17, 3) := by decide +kernel
theorem dX12_gather_36 : decode cX12_gather 36 = .ok (.iload_n 1, 1) := by decide +kernel
theorem dX12_gather_37 : decode cX12_gather 37 = .ok (.baload, 1) := by decide +kernel
theorem dX12_gather_38 : decode cX12_gather 38 = .ok (.ifCond .eq 13, 3) := by decide +kernel
theorem dX12_gather_41 : decode cX12_gather 41 = .ok (.aload_n 0, 1) := by decide +kernel
theorem dX12_gather_42 : decode cX12_gather 42 = .ok (.aload_n 0, 1) := by decide +kernel
theorem dX12_gather_43 : decode cX12_gather 43 = .ok (.getfield 21, 3) := by decide +kernel
theorem dX12_gather_46 : decode cX12_gather 46 = .ok (.iload_n 1, 1) := by decide +kernel
theorem dX12_gather_47 : decode cX12_gather 47 = .ok (.iaload, 1) := by decide +kernel
theorem dX12_gather_48 : decode cX12_gather 48 = .ok (.invokevirtual 269, 3) := by decide +kernel
theorem dX12_gather_51 : decode cX12_gather 51 = .ok (.iinc 1 1, 3) := by decide +kernel
theorem dX12_gather_54 : decode cX12_gather 54 = .ok (.goto (-30), 3) := by decide +kernel
theorem dX12_gather_57 : decode cX12_gather 57 = .ok (.iconst 0, 1) := by decide +kernel
theorem dX12_gather_58 : decode cX12_gather 58 = .ok (.istore_n 1, 1) := by decide +kernel
theorem dX12_gather_59 : decode cX12_gather 59 = .ok (.iload_n 1, 1) := by decide +kernel
theorem dX12_gather_60 : decode cX12_gather 60 = .ok (.aload_n 0, 1) := by decide +kernel
theorem dX12_gather_61 : decode cX12_gather 61 = .ok (.getfield 188, 3) := by decide +kernel
theorem dX12_gather_64 : decode cX12_gather 64 = .ok (.if_icmp .ge 29, 3) := by decide +kernel
theorem dX12_gather_67 : decode cX12_gather 67 = .ok (.aload_n 0, 1) := by decide +kernel
theorem dX12_gather_68 : decode cX12_gather 68 = .ok (.aload_n 0, 1) := by decide +kernel
theorem dX12_gather_69 : decode cX12_gather 69 = .ok (.getfield 95, 3) := by decide +kernel
theorem dX12_gather_72 : decode cX12_gather 72 = .ok (.iload_n 1, 1) := by decide +kernel
theorem dX12_gather_73 : decode cX12_gather 73 = .ok (.iaload, 1) := by decide +kernel
theorem dX12_gather_74 : decode cX12_gather 74 = .ok (.invokevirtual 269, 3) := by decide +kernel
theorem dX12_gather_77 : decode cX12_gather 77 = .ok (.aload_n 0, 1) := by decide +kernel
theorem dX12_gather_78 : decode cX12_gather 78 = .ok (.aload_n 0, 1) := by decide +kernel
theorem dX12_gather_79 : decode cX12_gather 79 = .ok (.getfield 98, 3) := by decide +kernel
theorem dX12_gather_82 : decode cX12_gather 82 = .ok (.iload_n 1, 1) := by decide +kernel
theorem dX12_gather_83 : decode cX12_gather 83 = .ok (.iaload, 1) := by decide +kernel
theorem dX12_gather_84 : decode cX12_gather 84 = .ok (.invokevirtual 269, 3) := by decide +kernel
theorem dX12_gather_87 : decode cX12_gather 87 = .ok (.iinc 1 1, 3) := by decide +kernel
theorem dX12_gather_90 : decode cX12_gather 90 = .ok (.goto (-31), 3) := by decide +kernel
theorem dX12_gather_93 : decode cX12_gather 93 = .ok (.iconst 0, 1) := by decide +kernel
theorem dX12_gather_94 : decode cX12_gather 94 = .ok (.istore_n 1, 1) := by decide +kernel
theorem dX12_gather_95 : decode cX12_gather 95 = .ok (.iload_n 1, 1) := by decide +kernel
theorem dX12_gather_96 : decode cX12_gather 96 = .ok (.aload_n 0, 1) := by decide +kernel
theorem dX12_gather_97 : decode cX12_gather 97 = .ok (.getfield 275, 3) := by decide +kernel
theorem dX12_gather_100 : decode cX12_gather 100 = .ok (.if_icmp .ge 19, 3) := by decide +kernel
theorem dX12_gather_103 : decode cX12_gather 103 = .ok (.aload_n 0, 1) := by decide +kernel
theorem dX12_gather_104 : decode cX12_gather 104 = .ok (.aload_n 0, 1) := by decide +kernel
theorem dX12_gather_105 : decode cX12_gather 105 = .ok (.getfield 140, 3) := by decide +kernel
theorem dX12_gather_108 : decode cX12_gather 108 = .ok (.iload_n 1, 1) := by decide +kernel
theorem dX12_gather_109 : decode cX12_gather 109 = .ok (.iaload, 1) := by decide +kernel
theorem dX12_gather_110 : decode cX12_gather 110 = .ok (.invokevirtual 269, 3) := by decide +kernel
theorem dX12_gather_113 : decode cX12_gather 113 = .ok (.iinc 1 1, 3) := by decide +kernel
theorem dX12_gather_116 : decode cX12_gather 116 = .ok (.goto (-21), 3) := by decide +kernel
theorem dX12_gather_119 : decode cX12_gather 119 = .ok (.iconst 0, 1) := by decide +kernel
theorem dX12_gather_120 : decode cX12_gather 120 = .ok (.istore_n 1, 1) := by decide +kernel
theorem dX12_gather_121 : decode cX12_gather 121 = .ok (.iload_n 1, 1) := by decide +kernel
theorem dX12_gather_122 : decode cX12_gather 122 = .ok (.aload_n 0, 1) := by decide +kernel
theorem dX12_gather_123 : decode cX12_gather 123 = .ok (.getfield 278, 3) := by decide +kernel
theorem dX12_gather_126 : decode cX12_gather 126 = .ok (.if_icmp .ge 30, 3) := by decide +kernel
theorem dX12_gather_129 : decode cX12_gather 129 = .ok (.aload_n 0, 1) := by decide +kernel
theorem dX12_gather_130 : decode cX12_gather 130 = .ok (.getfield 122, 3) := by decide +kernel
theorem dX12_gather_133 : decode cX12_gather 133 = .ok (.iload_n 1, 1) := by decide +kernel
theorem dX12_gather_134 : decode cX12_gather 134 = .ok (.iaload, 1) := by decide +kernel
theorem dX12_gather_135 : decode cX12_gather 135 = .ok (.bipush 32, 2) := by decide +kernel
theorem dX12_gather_137 : decode cX12_gather 137 = .ok (.if_icmp .ne 13, 3) := by decide +kernel
theorem dX12_gather_140 : decode cX12_gather 140 = .ok (.aload_n 0, 1) := by decide +kernel
theorem dX12_gather_141 : decode cX12_gather 141 = .ok (.aload_n 0, 1) := by decide +kernel
theorem dX12_gather_142 : decode cX12_gather 142 = .ok (.getfield 134, 3) := by decide +kernel
theorem dX12_gather_145 : decode cX12_gather 145 = .ok (.iload_n 1, 1) := by decide +kernel
theorem dX12_gather_146 : decode cX12_gather 146 = .ok (.iaload, 1) := by decide +kernel
theorem dX12_gather_147 : decode cX12_gather 147 = .ok (.invokevirtual 272, 3) := by decide +kernel
theorem dX12_gather_150 : decode cX12_gather 150 = .ok (.iinc 1 1, 3) := by decide +kernel
theorem dX12_gather_153 : decode cX12_gather 153 = .ok (.goto (-32), 3) := by decide +kernel
theorem dX12_gather_156 : decode cX12_gather 156 = .ok (.iconst (-1), 1) := by decide +kernel
theorem dX12_gather_157 : decode cX12_gather 157 = .ok (.istore_n 1, 1) := by decide +kernel
theorem dX12_gather_158 : decode cX12_gather 158 = .ok (.iload_n 1, 1) := by decide +kernel
theorem dX12_gather_159 : decode cX12_gather 159 = .ok (.aload_n 0, 1) := by decide +kernel
theorem dX12_gather_160 : decode cX12_gather 160 = .ok (.invokevirtual 281, 3) := by decide +kernel
theorem dX12_gather_163 : decode cX12_gather 163 = .ok (.if_icmp .eq 40, 3) := by decide +kernel
theorem dX12_gather_166 : decode cX12_gather 166 = .ok (.aload_n 0, 1) := by decide +kernel
theorem dX12_gather_167 : decode cX12_gather 167 = .ok (.invokevirtual 281, 3) := by decide +kernel
theorem dX12_gather_170 : decode cX12_gather 170 = .ok (.istore_n 1, 1) := by decide +kernel
theorem dX12_gather_171 : decode cX12_gather 171 = .ok (.iconst 0, 1) := by decide +kernel
theorem dX12_gather_172 : decode cX12_gather 172 = .ok (.istore_n 2, 1) := by decide +kernel
theorem dX12_gather_173 : decode cX12_gather 173 = .ok (.iload_n 2, 1) := by decide +kernel
theorem dX12_gather_174 : decode cX12_gather 174 = .ok (.sipush 168, 3) := by decide +kernel
theorem dX12_gather_177 : decode cX12_gather 177 = .ok (.if_icmp .ge 23, 3) := by decide +kernel
theorem dX12_gather_180 : decode cX12_gather 180 = .ok (.aload_n 0, 1) := by decide +kernel
theorem dX12_gather_181 : decode cX12_gather 181 = .ok (.getfield 110, 3) := by decide +kernel
theorem dX12_gather_184 : decode cX12_gather 184 = .ok (.iload_n 2, 1) := by decide +kernel
theorem dX12_gather_185 : decode cX12_gather 185 = .ok (.baload, 1) := by decide +kernel
theorem dX12_gather_186 : decode cX12_gather 186 = .ok (.ifCond .eq 8, 3) := by decide +kernel
theorem dX12_gather_189 : decode cX12_gather 189 = .ok (.aload_n 0, 1) := by decide +kernel
theorem dX12_gather_190 : decode cX12_gather 190 = .ok (.iload_n 2, 1) := by decide +kernel
theorem dX12_gather_191 : decode cX12_gather 191 = .ok (.invokevirtual 284, 3) := by decide +kernel
theorem dX12_gather_194 : decode cX12_gather 194 = .ok (.iinc 2 1, 3) := by decide +kernel
theorem dX12_gather_197 : decode cX12_gather 197 = .ok (.goto (-24), 3) := by decide +kernel
theorem dX12_gather_200 : decode cX12_gather 200 = .ok (.goto (-42), 3) := by decide +kernel
theorem dX12_gather_203 : decode cX12_gather 203 = .ok (.aload_n 0, 1) := by decide +kernel
theorem dX12_gather_204 : decode cX12_gather 204 = .ok (.iconst 0, 1) := by decide +kernel
theorem dX12_gather_205 : decode cX12_gather 205 = .ok (.putfield 287, 3) := by decide +kernel
theorem dX12_gather_208 : decode cX12_gather 208 = .ok (.iconst 0, 1) := by decide +kernel
theorem dX12_gather_209 : decode cX12_gather 209 = .ok (.istore_n 2, 1) := by decide +kernel
theorem dX12_gather_210 : decode cX12_gather 210 = .ok (.iload_n 2, 1) := by decide +kernel
theorem dX12_gather_211 : decode cX12_gather 211 = .ok (.sipush 168, 3) := by decide +kernel
theorem dX12_gather_214 : decode cX12_gather 214 = .ok (.if_icmp .ge 43, 3) := by decide +kernel
theorem dX12_gather_217 : decode cX12_gather 217 = .ok (.aload_n 0, 1) := by decide +kernel
theorem dX12_gather_218 : decode cX12_gather 218 = .ok (.getfield 110, 3) := by decide +kernel
theorem dX12_gather_221 : decode cX12_gather 221 = .ok (.iload_n 2, 1) := by decide +kernel
theorem dX12_gather_222 : decode cX12_gather 222 = .ok (.baload, 1) := by decide +kernel
theorem dX12_gather_223 : decode cX12_gather 223 = .ok (.ifCond .ne 13, 3) := by decide +kernel
theorem dX12_gather_226 : decode cX12_gather 226 = .ok (.aload_n 0, 1) := by decide +kernel
theorem dX12_gather_227 : decode cX12_gather 227 = .ok (.getfield 101, 3) := by decide +kernel
theorem dX12_gather_230 : decode cX12_gather 230 = .ok (.iload_n 2, 1) := by decide +kernel
theorem dX12_gather_231 : decode cX12_gather 231 = .ok (.iconst 0, 1) := by decide +kernel
theorem dX12_gather_232 : decode cX12_gather 232 = .ok (.iastore, 1) := by decide +kernel
theorem dX12_gather_233 : decode cX12_gather 233 = .ok (.goto 18, 3) := by decide +kernel
theorem dX12_gather_236 : decode cX12_gather 236 = .ok (.aload_n 0, 1) := by decide +kernel
theorem dX12_gather_237 : decode cX12_gather 237 = .ok (.dup, 1) := by decide +kernel
theorem dX12_gather_238 : decode cX12_gather 238 = .ok (.getfield 287, 3) := by decide +kernel
theorem dX12_gather_241 : decode cX12_gather 241 = .ok (.aload_n 0, 1) := by decide +kernel
theorem dX12_gather_242 : decode cX12_gather 242 = .ok (.getfield 104, 3) := by decide +kernel
theorem dX12_gather_245 : decode cX12_gather 245 = .ok (.iload_n 2, 1) := by decide +kernel
theorem dX12_gather_246 : decode cX12_gather 246 = .ok (.iaload, 1) := by decide +kernel
theorem dX12_gather_247 : decode cX12_gather 247 = .ok (.iadd, 1) := by decide +kernel
theorem dX12_gather_248 : decode cX12_gather 248 = .ok (.putfield 287, 3) := by decide +kernel
theorem dX12_gather_251 : decode cX12_gather 251 = .ok (.iinc 2 1, 3) := by decide +kernel
theorem dX12_gather_254 : decode cX12_gather 254 = .ok (.goto (-44), 3) := by decide +kernel
theorem dX12_gather_257 : decode cX12_gather 257 = .ok (.aload_n 0, 1) := by decide +kernel
theorem dX12_gather_258 : decode cX12_gather 258 = .ok (.dup, 1) := by decide +kernel
theorem dX12_gather_259 : decode cX12_gather 259 = .ok (.getfield 290, 3) := by decide +kernel
theorem dX12_gather_262 : decode cX12_gather 262 = .ok (.iconst 1, 1) := by decide +kernel
theorem dX12_gather_263 : decode cX12_gather 263 = .ok (.iadd, 1) := by decide +kernel
theorem dX12_gather_264 : decode cX12_gather 264 = .ok (.putfield 290, 3) := by decide +kernel
theorem dX12_gather_267 : decode cX12_gather 267 = .ok (.aload_n 0, 1) := by decide +kernel
theorem dX12_gather_268 : decode cX12_gather 268 = .ok (.aload_n 0, 1) := by decide +kernel
theorem dX12_gather_269 : decode cX12_gather 269 = .ok (.getfield 287, 3) := by decide +kernel
theorem dX12_gather_272 : decode cX12_gather 272 = .ok (.putfield 293, 3) := by decide +kernel
theorem dX12_gather_275 : decode cX12_gather 275 = .ok (.return_, 1) := by decide +kernel
theorem dX12_room_0 : decode cX12_room 0 = .ok (.aload_n 0, 1) := by decide +kernel
theorem dX12_room_1 : decode cX12_room 1 = .ok (.getfield 287, 3) := by decide +kernel
theorem dX12_room_4 : decode cX12_room 4 = .ok (.iload_n 1, 1) := by decide +kernel
theorem dX12_room_5 : decode cX12_room 5 = .ok (.iadd, 1) := by decide +kernel
theorem dX12_room_6 : decode cX12_room 6 = .ok (.aload_n 0, 1) := by decide +kernel
theorem dX12_room_7 : decode cX12_room 7 = .ok (.getfield 159, 3) := by decide +kernel
theorem dX12_room_10 : decode cX12_room 10 = .ok (.if_icmp .le 7, 3) := by decide +kernel
theorem dX12_room_13 : decode cX12_room 13 = .ok (.aload_n 0, 1) := by decide +kernel
theorem dX12_room_14 : decode cX12_room 14 = .ok (.invokevirtual 296, 3) := by decide +kernel
theorem dX12_room_17 : decode cX12_room 17 = .ok (.aload_n 0, 1) := by decide +kernel
theorem dX12_room_18 : decode cX12_room 18 = .ok (.getfield 287, 3) := by decide +kernel
theorem dX12_room_21 : decode cX12_room 21 = .ok (.iload_n 1, 1) := by decide +kernel
theorem dX12_room_22 : decode cX12_room 22 = .ok (.iadd, 1) := by decide +kernel
theorem dX12_room_23 : decode cX12_room 23 = .ok (.aload_n 0, 1) := by decide +kernel
theorem dX12_room_24 : decode cX12_room 24 = .ok (.getfield 159, 3) := by decide +kernel
theorem dX12_room_27 : decode cX12_room 27 = .ok (.if_icmp .gt 5, 3) := by decide +kernel
theorem dX12_room_30 : decode cX12_room 30 = .ok (.iconst 1, 1) := by decide +kernel
theorem dX12_room_31 : decode cX12_room 31 = .ok (.ireturn, 1) := by decide +kernel
theorem dX12_room_32 : decode cX12_room 32 = .ok (.aload_n 0, 1) := by decide +kernel
theorem dX12_room_33 : decode cX12_room 33 = .ok (.iconst 2, 1) := by decide +kernel
theorem dX12_room_34 : decode cX12_room 34 = .ok (.putfield 299, 3) := by decide +kernel
theorem dX12_room_37 : decode cX12_room 37 = .ok (.iconst 0, 1) := by decide +kernel
theorem dX12_room_38 : decode cX12_room 38 = .ok (.ireturn, 1) := by decide +kernel
theorem dX12_make_0 : decode cX12_make 0 = .ok (.iconst 0, 1) := by decide +kernel
theorem dX12_make_1 : decode cX12_make 1 = .ok (.istore_n 3, 1) := by decide +kernel
theorem dX12_make_2 : decode cX12_make 2 = .ok (.aload_n 0, 1) := by decide +kernel
theorem dX12_make_3 : decode cX12_make 3 = .ok (.getfield 101, 3) := by decide +kernel
theorem dX12_make_6 : decode cX12_make 6 = .ok (.iload_n 3, 1) := by decide +kernel
theorem dX12_make_7 : decode cX12_make 7 = .ok (.iaload, 1) := by decide +kernel
theorem dX12_make_8 : decode cX12_make 8 = .ok (.ifCond .eq 9, 3) := by decide +kernel
theorem dX12_make_11 : decode cX12_make 11 = .ok (.iinc 3 1, 3) := by decide +kernel
theorem dX12_make_14 : decode cX12_make 14 = .ok (.goto (-12), 3) := by decide +kernel
theorem dX12_make_17 : decode cX12_make 17 = .ok (.aload_n 0, 1) := by decide +kernel
theorem dX12_make_18 : decode cX12_make 18 = .ok (.getfield 101, 3) := by decide +kernel
theorem dX12_make_21 : decode cX12_make 21 = .ok (.iload_n 3, 1) := by decide +kernel
theorem dX12_make_22 : decode cX12_make 22 = .ok (.iload_n 1, 1) := by decide +kernel
theorem dX12_make_23 : decode cX12_make 23 = .ok (.iastore, 1) := by decide +kernel
theorem dX12_make_24 : decode cX12_make 24 = .ok (.aload_n 0, 1) := by decide +kernel
theorem dX12_make_25 : decode cX12_make 25 = .ok (.getfield 104, 3) := by decide +kernel
theorem dX12_make_28 : decode cX12_make 28 = .ok (.iload_n 3, 1) := by decide +kernel
theorem dX12_make_29 : decode cX12_make 29 = .ok (.iload_n 2, 1) := by decide +kernel
theorem dX12_make_30 : decode cX12_make 30 = .ok (.iastore, 1) := by decide +kernel
theorem dX12_make_31 : decode cX12_make 31 = .ok (.aload_n 0, 1) := by decide +kernel
theorem dX12_make_32 : decode cX12_make 32 = .ok (.dup, 1) := by decide +kernel
theorem dX12_make_33 : decode cX12_make 33 = .ok (.getfield 287, 3) := by decide +kernel
theorem dX12_make_36 : decode cX12_make 36 = .ok (.iload_n 2, 1) := by decide +kernel
theorem dX12_make_37 : decode cX12_make 37 = .ok (.iadd, 1) := by decide +kernel
theorem dX12_make_38 : decode cX12_make 38 = .ok (.putfield 287, 3) := by decide +kernel
theorem dX12_make_41 : decode cX12_make 41 = .ok (.iload_n 3, 1) := by decide +kernel
theorem dX12_make_42 : decode cX12_make 42 = .ok (.ireturn, 1) := by decide +kernel
theorem dX12_push_0 : decode cX12_push 0 = .ok (.aload_n 0, 1) := by decide +kernel
theorem dX12_push_1 : decode cX12_push 1 = .ok (.getfield 122, 3) := by decide +kernel
theorem dX12_push_4 : decode cX12_push 4 = .ok (.aload_n 0, 1) := by decide +kernel
theorem dX12_push_5 : decode cX12_push 5 = .ok (.getfield 278, 3) := by decide +kernel
theorem dX12_push_8 : decode cX12_push 8 = .ok (.iload_n 1, 1) := by decide +kernel
theorem dX12_push_9 : decode cX12_push 9 = .ok (.iastore, 1) := by decide +kernel
theorem dX12_push_10 : decode cX12_push 10 = .ok (.aload_n 0, 1) := by decide +kernel
theorem dX12_push_11 : decode cX12_push 11 = .ok (.getfield 125, 3) := by decide +kernel
theorem dX12_push_14 : decode cX12_push 14 = .ok (.aload_n 0, 1) := by decide +kernel
theorem dX12_push_15 : decode cX12_push 15 = .ok (.getfield 278, 3) := by decide +kernel
theorem dX12_push_18 : decode cX12_push 18 = .ok (.aload_n 0, 1) := by decide +kernel
theorem dX12_push_19 : decode cX12_push 19 = .ok (.getfield 302, 3) := by decide +kernel
theorem dX12_push_22 : decode cX12_push 22 = .ok (.iastore, 1) := by decide +kernel
theorem dX12_push_23 : decode cX12_push 23 = .ok (.aload_n 0, 1) := by decide +kernel
theorem dX12_push_24 : decode cX12_push 24 = .ok (.getfield 128, 3) := by decide +kernel
theorem dX12_push_27 : decode cX12_push 27 = .ok (.aload_n 0, 1) := by decide +kernel
theorem dX12_push_28 : decode cX12_push 28 = .ok (.getfield 278, 3) := by decide +kernel
theorem dX12_push_31 : decode cX12_push 31 = .ok (.iload_n 2, 1) := by decide +kernel
theorem dX12_push_32 : decode cX12_push 32 = .ok (.iastore, 1) := by decide +kernel
theorem dX12_push_33 : decode cX12_push 33 = .ok (.aload_n 0, 1) := by decide +kernel
theorem dX12_push_34 : decode cX12_push 34 = .ok (.getfield 131, 3) := by decide +kernel
theorem dX12_push_37 : decode cX12_push 37 = .ok (.aload_n 0, 1) := by decide +kernel
theorem dX12_push_38 : decode cX12_push 38 = .ok (.getfield 278, 3) := by decide +kernel
theorem dX12_push_41 : decode cX12_push 41 = .ok (.iconst 0, 1) := by decide +kernel
theorem dX12_push_42 : decode cX12_push 42 = .ok (.iastore, 1) := by decide +kernel
theorem dX12_push_43 : decode cX12_push 43 = .ok (.aload_n 0, 1) := by decide +kernel
theorem dX12_push_44 : decode cX12_push 44 = .ok (.getfield 134, 3) := by decide +kernel
theorem dX12_push_47 : decode cX12_push 47 = .ok (.aload_n 0, 1) := by decide +kernel
theorem dX12_push_48 : decode cX12_push 48 = .ok (.getfield 278, 3) := by decide +kernel
theorem dX12_push_51 : decode cX12_push 51 = .ok (.aload_n 0, 1) := by decide +kernel
theorem dX12_push_52 : decode cX12_push 52 = .ok (.getfield 305, 3) := by decide +kernel
theorem dX12_push_55 : decode cX12_push 55 = .ok (.iastore, 1) := by decide +kernel
theorem dX12_push_56 : decode cX12_push 56 = .ok (.aload_n 0, 1) := by decide +kernel
theorem dX12_push_57 : decode cX12_push 57 = .ok (.getfield 137, 3) := by decide +kernel
theorem dX12_push_60 : decode cX12_push 60 = .ok (.aload_n 0, 1) := by decide +kernel
theorem dX12_push_61 : decode cX12_push 61 = .ok (.getfield 278, 3) := by decide +kernel
theorem dX12_push_64 : decode cX12_push 64 = .ok (.aload_n 0, 1) := by decide +kernel
theorem dX12_push_65 : decode cX12_push 65 = .ok (.getfield 275, 3) := by decide +kernel
theorem dX12_push_68 : decode cX12_push 68 = .ok (.iastore, 1) := by decide +kernel
theorem dX12_push_69 : decode cX12_push 69 = .ok (.aload_n 0, 1) := by decide +kernel
theorem dX12_push_70 : decode cX12_push 70 = .ok (.dup, 1) := by decide +kernel
theorem dX12_push_71 : decode cX12_push 71 = .ok (.getfield 278, 3) := by decide +kernel
theorem dX12_push_74 : decode cX12_push 74 = .ok (.iconst 1, 1) := by decide +kernel
theorem dX12_push_75 : decode cX12_push 75 = .ok (.iadd, 1) := by decide +kernel
theorem dX12_push_76 : decode cX12_push 76 = .ok (.putfield 278, 3) := by decide +kernel
theorem dX12_push_79 : decode cX12_push 79 = .ok (.return_, 1) := by decide +kernel
theorem dX12_pop_0 : decode cX12_pop 0 = .ok (.aload_n 0, 1) := by decide +kernel
theorem dX12_pop_1 : decode cX12_pop 1 = .ok (.dup, 1) := by decide +kernel
theorem dX12_pop_2 : decode cX12_pop 2 = .ok (.getfield 278, 3) := by decide +kernel
theorem dX12_pop_5 : decode cX12_pop 5 = .ok (.iconst 1, 1) := by decide +kernel
theorem dX12_pop_6 : decode cX12_pop 6 = .ok (.isub, 1) := by decide +kernel
theorem dX12_pop_7 : decode cX12_pop 7 = .ok (.putfield 278, 3) := by decide +kernel
theorem dX12_pop_10 : decode cX12_pop 10 = .ok (.aload_n 0, 1) := by decide +kernel
theorem dX12_pop_11 : decode cX12_pop 11 = .ok (.getfield 122, 3) := by decide +kernel
theorem dX12_pop_14 : decode cX12_pop 14 = .ok (.aload_n 0, 1) := by decide +kernel
theorem dX12_pop_15 : decode cX12_pop 15 = .ok (.getfield 278, 3) := by decide +kernel
theorem dX12_pop_18 : decode cX12_pop 18 = .ok (.iaload, 1) := by decide +kernel
theorem dX12_pop_19 : decode cX12_pop 19 = .ok (.bipush 32, 2) := by decide +kernel
theorem dX12_pop_21 : decode cX12_pop 21 = .ok (.if_icmp .ne 13, 3) := by decide +kernel
theorem dX12_pop_24 : decode cX12_pop 24 = .ok (.aload_n 0, 1) := by decide +kernel
theorem dX12_pop_25 : decode cX12_pop 25 = .ok (.dup, 1) := by decide +kernel
theorem dX12_pop_26 : decode cX12_pop 26 = .ok (.getfield 308, 3) := by decide +kernel
theorem dX12_pop_29 : decode cX12_pop 29 = .ok (.iconst 1, 1) := by decide +kernel
theorem dX12_pop_30 : decode cX12_pop 30 = .ok (.isub, 1) := by decide +kernel
theorem dX12_pop_31 : decode cX12_pop 31 = .ok (.putfield 308, 3) := by decide +kernel
theorem dX12_pop_34 : decode cX12_pop 34 = .ok (.aload_n 0, 1) := by decide +kernel
theorem dX12_pop_35 : decode cX12_pop 35 = .ok (.aload_n 0, 1) := by decide +kernel
theorem dX12_pop_36 : decode cX12_pop 36 = .ok (.getfield 137, 3) := by decide +kernel
theorem dX12_pop_39 : decode cX12_pop 39 = .ok (.aload_n 0, 1) := by decide +kernel
theorem dX12_pop_40 : decode cX12_pop 40 = .ok (.getfield 278, 3) := by decide +kernel
theorem dX12_pop_43 : decode cX12_pop 43 = .ok (.iaload, 1) := by decide +kernel
theorem dX12_pop_44 : decode cX12_pop 44 = .ok (.putfield 275, 3) := by decide +kernel
theorem dX12_pop_47 : decode cX12_pop 47 = .ok (.aload_n 0, 1) := by decide +kernel
theorem dX12_pop_48 : decode cX12_pop 48 = .ok (.iload_n 1, 1) := by decide +kernel
theorem dX12_pop_49 : decode cX12_pop 49 = .ok (.putfield 311, 3) := by decide +kernel
theorem dX12_pop_52 : decode cX12_pop 52 = .ok (.aload_n 0, 1) := by decide +kernel
theorem dX12_pop_53 : decode cX12_pop 53 = .ok (.iconst 1, 1) := by decide +kernel
theorem dX12_pop_54 : decode cX12_pop 54 = .ok (.putfield 314, 3) := by decide +kernel
theorem dX12_pop_57 : decode cX12_pop 57 = .ok (.return_, 1) := by decide +kernel
theorem dX12_ask_0 : decode cX12_ask 0 = .ok (.aload_n 0, 1) := by decide +kernel
theorem dX12_ask_1 : decode cX12_ask 1 = .ok (.iload_n 1, 1) := by decide +kernel
theorem dX12_ask_2 : decode cX12_ask 2 = .ok (.putfield 302, 3) := by decide +kernel
theorem dX12_ask_5 : decode cX12_ask 5 = .ok (.aload_n 0, 1) := by decide +kernel
theorem dX12_ask_6 : decode cX12_ask 6 = .ok (.aload_n 0, 1) := by decide +kernel
theorem dX12_ask_7 : decode cX12_ask 7 = .ok (.getfield 134, 3) := by decide +kernel
theorem dX12_ask_10 : decode cX12_ask 10 = .ok (.aload_n 0, 1) := by decide +kernel
theorem dX12_ask_11 : decode cX12_ask 11 = .ok (.getfield 278, 3) := by decide +kernel
theorem dX12_ask_14 : decode cX12_ask 14 = .ok (.iconst 1, 1) := by decide +kernel
theorem dX12_ask_15 : decode cX12_ask 15 = .ok (.isub, 1) := by decide +kernel
theorem dX12_ask_16 : decode cX12_ask 16 = .ok (.iaload, 1) := by decide +kernel
theorem dX12_ask_17 : decode cX12_ask 17 = .ok (.putfield 305, 3) := by decide +kernel
theorem dX12_ask_20 : decode cX12_ask 20 = .ok (.aload_n 0, 1) := by decide +kernel
theorem dX12_ask_21 : decode cX12_ask 21 = .ok (.iconst 0, 1) := by decide +kernel
theorem dX12_ask_22 : decode cX12_ask 22 = .ok (.putfield 314, 3) := by decide +kernel
theorem dX12_ask_25 : decode cX12_ask 25 = .ok (.return_, 1) := by decide +kernel
theorem dX12_next_0 : decode cX12_next 0 = .ok (.aload_n 0, 1) := by decide +kernel
theorem dX12_next_1 : decode cX12_next 1 = .ok (.aload_n 0, 1) := by decide +kernel
theorem dX12_next_2 : decode cX12_next 2 = .ok (.getfield 128, 3) := by decide +kernel
theorem dX12_next_5 : decode cX12_next 5 = .ok (.aload_n 0, 1) := by decide +kernel
theorem dX12_next_6 : decode cX12_next 6 = .ok (.getfield 278, 3) := by decide +kernel
theorem dX12_next_9 : decode cX12_next 9 = .ok (.iconst 1, 1) := by decide +kernel
theorem dX12_next_10 : decode cX12_next 10 = .ok (.isub, 1) := by decide +kernel
theorem dX12_next_11 : decode cX12_next 11 = .ok (.iaload, 1) := by decide +kernel
theorem dX12_next_12 : decode cX12_next 12 = .ok (.invokevirtual 260, 3) := by decide +kernel
theorem dX12_next_15 : decode cX12_next 15 = .ok (.istore_n 1, 1) := by decide +kernel
theorem dX12_next_16 : decode cX12_next 16 = .ok (.aload_n 0, 1) := by decide +kernel
theorem dX12_next_17 : decode cX12_next 17 = .ok (.getfield 128, 3) := by decide +kernel
theorem dX12_next_20 : decode cX12_next 20 = .ok (.aload_n 0, 1) := by decide +kernel
theorem dX12_next_21 : decode cX12_next 21 = .ok (.getfield 278, 3) := by decide +kernel
theorem dX12_next_24 : decode cX12_next 24 = .ok (.iconst 1, 1) := by decide +kernel
theorem dX12_next_25 : decode cX12_next 25 = .ok (.isub, 1) := by decide +kernel
theorem dX12_next_26 : decode cX12_next 26 = .ok (.aload_n 0, 1) := by decide +kernel
theorem dX12_next_27 : decode cX12_next 27 = .ok (.aload_n 0, 1) := by decide +kernel
theorem dX12_next_28 : decode cX12_next 28 = .ok (.getfield 128, 3) := by decide +kernel
theorem dX12_next_31 : decode cX12_next 31 = .ok (.aload_n 0, 1) := by decide +kernel
theorem dX12_next_32 : decode cX12_next 32 = .ok (.getfield 278, 3) := by decide +kernel
theorem dX12_next_35 : decode cX12_next 35 = .ok (.iconst 1, 1) := by decide +kernel
theorem dX12_next_36 : decode cX12_next 36 = .ok (.isub, 1) := by decide +kernel
theorem dX12_next_37 : decode cX12_next 37 = .ok (.iaload, 1) := by decide +kernel
theorem dX12_next_38 : decode cX12_next 38 = .ok (.invokevirtual 251, 3) := by decide +kernel
theorem dX12_next_41 : decode cX12_next 41 = .ok (.iastore, 1) := by decide +kernel
theorem dX12_next_42 : decode cX12_next 42 = .ok (.aload_n 0, 1) := by decide +kernel
theorem dX12_next_43 : decode cX12_next 43 = .ok (.iload_n 1, 1) := by decide +kernel
theorem dX12_next_44 : decode cX12_next 44 = .ok (.invokevirtual 317, 3) := by decide +kernel
theorem dX12_next_47 : decode cX12_next 47 = .ok (.return_, 1) := by decide +kernel
theorem dX12_place_0 : decode cX12_place 0 = .ok (.iload_n 2, 1) := by decide +kernel
theorem dX12_place_1 : decode cX12_place 1 = .ok (.istore_n 3, 1) := by decide +kernel
theorem dX12_place_2 : decode cX12_place 2 = .ok (.iload_n 3, 1) := by decide +kernel
theorem dX12_place_3 : decode cX12_place 3 = .ok (.ifCond .le 77, 3) := by decide +kernel
theorem dX12_place_6 : decode cX12_place 6 = .ok (.bipush 8, 2) := by decide +kernel
theorem dX12_place_8 : decode cX12_place 8 = .ok (.iload_n 3, 1) := by decide +kernel
theorem dX12_place_9 : decode cX12_place 9 = .ok (.iconst 1, 1) := by decide +kernel
theorem dX12_place_10 : decode cX12_place 10 = .ok (.isub, 1) := by decide +kernel
theorem dX12_place_11 : decode cX12_place 11 = .ok (.imul, 1) := by decide +kernel
theorem dX12_place_12 : decode cX12_place 12 = .ok (.iconst 2, 1) := by decide +kernel
theorem dX12_place_13 : decode cX12_place 13 = .ok (.iadd, 1) := by decide +kernel
theorem dX12_place_14 : decode cX12_place 14 = .ok (.istore 4, 2) := by decide +kernel
theorem dX12_place_16 : decode cX12_place 16 = .ok (.aload_n 0, 1) := by decide +kernel
theorem dX12_place_17 : decode cX12_place 17 = .ok (.getfield 107, 3) := by decide +kernel
theorem dX12_place_20 : decode cX12_place 20 = .ok (.bipush 8, 2) := by decide +kernel
theorem dX12_place_22 : decode cX12_place 22 = .ok (.iload_n 3, 1) := by decide +kernel
theorem dX12_place_23 : decode cX12_place 23 = .ok (.iconst 1, 1) := by decide +kernel
theorem dX12_place_24 : decode cX12_place 24 = .ok (.isub, 1) := by decide +kernel
theorem dX12_place_25 : decode cX12_place 25 = .ok (.imul, 1) := by decide +kernel
theorem dX12_place_26 : decode cX12_place 26 = .ok (.iconst 1, 1) := by decide +kernel
theorem dX12_place_27 : decode cX12_place 27 = .ok (.iadd, 1) := by decide +kernel
theorem dX12_place_28 : decode cX12_place 28 = .ok (.iaload, 1) := by decide +kernel
theorem dX12_place_29 : decode cX12_place 29 = .ok (.istore 5, 2) := by decide +kernel
theorem dX12_place_31 : decode cX12_place 31 = .ok (.iload 5, 2) := by decide +kernel
theorem dX12_place_33 : decode cX12_place 33 = .ok (.ldc 184, 2) := by decide +kernel
theorem dX12_place_35 : decode cX12_place 35 = .ok (.if_icmp .eq 30, 3) := by decide +kernel
theorem dX12_place_38 : decode cX12_place 38 = .ok (.aload_n 0, 1) := by decide +kernel
theorem dX12_place_39 : decode cX12_place 39 = .ok (.iload 5, 2) := by decide +kernel
theorem dX12_place_41 : decode cX12_place 41 = .ok (.invokevirtual 260, 3) := by decide +kernel
theorem dX12_place_44 : decode cX12_place 44 = .ok (.iload_n 1, 1) := by decide +kernel
theorem dX12_place_45 : decode cX12_place 45 = .ok (.if_icmp .ne 6, 3) := by decide +kernel
theorem dX12_place_48 : decode cX12_place 48 = .ok (.iload 4, 2) := by decide +kernel
theorem dX12_place_50 : decode cX12_place 50 = .ok (.ireturn, 1) := by decide +kernel
theorem dX12_place_51 : decode cX12_place 51 = .ok (.iinc 4 1, 3) := by decide +kernel
theorem dX12_place_54 : decode cX12_place 54 = .ok (.aload_n 0, 1) := by decide +kernel
theorem dX12_place_55 : decode cX12_place 55 = .ok (.iload 5, 2) := by decide +kernel
theorem dX12_place_57 : decode cX12_place 57 = .ok (.invokevirtual 251, 3) := by decide +kernel
theorem dX12_place_60 : decode cX12_place 60 = .ok (.istore 5, 2) := by decide +kernel
theorem dX12_place_62 : decode cX12_place 62 = .ok (.goto (-31), 3) := by decide +kernel
theorem dX12_place_65 : decode cX12_place 65 = .ok (.aload_n 0, 1) := by decide +kernel
theorem dX12_place_66 : decode cX12_place 66 = .ok (.getfield 107, 3) := by decide +kernel
theorem dX12_place_69 : decode cX12_place 69 = .ok (.bipush 8, 2) := by decide +kernel
theorem dX12_place_71 : decode cX12_place 71 = .ok (.iload_n 3, 1) := by decide +kernel
theorem dX12_place_72 : decode cX12_place 72 = .ok (.iconst 1, 1) := by decide +kernel
theorem dX12_place_73 : decode cX12_place 73 = .ok (.isub, 1) := by decide +kernel
theorem dX12_place_74 : decode cX12_place 74 = .ok (.imul, 1) := by decide +kernel
theorem dX12_place_75 : decode cX12_place 75 = .ok (.iaload, 1) := by decide +kernel
theorem dX12_place_76 : decode cX12_place 76 = .ok (.istore_n 3, 1) := by decide +kernel
theorem dX12_place_77 : decode cX12_place 77 = .ok (.goto (-75), 3) := by decide +kernel
theorem dX12_place_80 : decode cX12_place 80 = .ok (.iconst (-1), 1) := by decide +kernel
theorem dX12_place_81 : decode cX12_place 81 = .ok (.ireturn, 1) := by decide +kernel
theorem dX12_evaluate_0 : decode cX12_evaluate 0 = .ok (.aload_n 0, 1) := by decide +kernel
theorem dX12_evaluate_1 : decode cX12_evaluate 1 = .ok (.getfield 320, 3) := by decide +kernel
theorem dX12_evaluate_4 : decode cX12_evaluate 4 = .ok (.sipush 1000, 3) := by decide +kernel
theorem dX12_evaluate_7 : decode cX12_evaluate 7 = .ok (.if_icmp .ne 9, 3) := by decide +kernel
theorem dX12_evaluate_10 : decode cX12_evaluate 10 = .ok (.aload_n 0, 1) := by decide +kernel
theorem dX12_evaluate_11 : decode cX12_evaluate 11 = .ok (.iconst 2, 1) := by decide +kernel
theorem dX12_evaluate_12 : decode cX12_evaluate 12 = .ok (.putfield 299, 3) := by decide +kernel
theorem dX12_evaluate_15 : decode cX12_evaluate 15 = .ok (.return_, 1) := by decide +kernel
theorem dX12_evaluate_16 : decode cX12_evaluate 16 = .ok (.aload_n 0, 1) := by decide +kernel
theorem dX12_evaluate_17 : decode cX12_evaluate 17 = .ok (.dup, 1) := by decide +kernel
theorem dX12_evaluate_18 : decode cX12_evaluate 18 = .ok (.getfield 320, 3) := by decide +kernel
theorem dX12_evaluate_21 : decode cX12_evaluate 21 = .ok (.iconst 1, 1) := by decide +kernel
theorem dX12_evaluate_22 : decode cX12_evaluate 22 = .ok (.iadd, 1) := by decide +kernel
theorem dX12_evaluate_23 : decode cX12_evaluate 23 = .ok (.putfield 320, 3) := by decide +kernel
theorem dX12_evaluate_26 : decode cX12_evaluate 26 = .ok (.aload_n 0, 1) := by decide +kernel
theorem dX12_evaluate_27 : decode cX12_evaluate 27 = .ok (.getfield 302, 3) := by decide +kernel
theorem dX12_evaluate_30 : decode cX12_evaluate 30 = .ok (.invokestatic 254, 3) := by decide +kernel
theorem dX12_evaluate_33 : decode cX12_evaluate 33 = .ok (.istore_n 1, 1) := by decide +kernel
theorem dX12_evaluate_34 : decode cX12_evaluate 34 = .ok (.aload_n 0, 1) := by decide +kernel
theorem dX12_evaluate_35 : decode cX12_evaluate 35 = .ok (.iconst 1, 1) := by decide +kernel
theorem dX12_evaluate_36 : decode cX12_evaluate 36 = .ok (.putfield 314, 3) := by decide +kernel
theorem dX12_evaluate_39 : decode cX12_evaluate 39 = .ok (.aload_n 0, 1) := by decide +kernel
theorem dX12_evaluate_40 : decode cX12_evaluate 40 = .ok (.aload_n 0, 1) := by decide +kernel
theorem dX12_evaluate_41 : decode cX12_evaluate 41 = .ok (.getfield 302, 3) := by decide +kernel
theorem dX12_evaluate_44 : decode cX12_evaluate 44 = .ok (.putfield 311, 3) := by decide +kernel
theorem dX12_evaluate_47 : decode cX12_evaluate 47 = .ok (.iload_n 1, 1) := by decide +kernel
theorem dX12_evaluate_48 : decode cX12_evaluate 48 = .ok (.iconst 3, 1) := by decide +kernel
theorem dX12_evaluate_49 : decode cX12_evaluate 49 = .ok (.if_icmp .ne 69, 3) := by decide +kernel
theorem dX12_evaluate_52 : decode cX12_evaluate 52 = .ok (.aload_n 0, 1) := by decide +kernel
theorem dX12_evaluate_53 : decode cX12_evaluate 53 = .ok (.aload_n 0, 1) := by decide +kernel
theorem dX12_evaluate_54 : decode cX12_evaluate 54 = .ok (.getfield 302, 3) := by decide +kernel
theorem dX12_evaluate_57 : decode cX12_evaluate 57 = .ok (.aload_n 0, 1) := by decide +kernel
theorem dX12_evaluate_58 : decode cX12_evaluate 58 = .ok (.getfield 305, 3) := by decide +kernel
theorem dX12_evaluate_61 : decode cX12_evaluate 61 = .ok (.invokevirtual 323, 3) := by decide +kernel
theorem dX12_evaluate_64 : decode cX12_evaluate 64 = .ok (.istore_n 2, 1) := by decide +kernel
theorem dX12_evaluate_65 : decode cX12_evaluate 65 = .ok (.iload_n 2, 1) := by decide +kernel
theorem dX12_evaluate_66 : decode cX12_evaluate 66 = .ok (.ifCond .ge 23, 3) := by decide +kernel
theorem dX12_evaluate_69 : decode cX12_evaluate 69 = .ok (.aload_n 0, 1) := by decide +kernel
theorem dX12_evaluate_70 : decode cX12_evaluate 70 = .ok (.getfield 17, 3) := by decide +kernel
theorem dX12_evaluate_73 : decode cX12_evaluate 73 = .ok (.aload_n 0, 1) := by decide +kernel
theorem dX12_evaluate_74 : decode cX12_evaluate 74 = .ok (.getfield 302, 3) := by decide +kernel
theorem dX12_evaluate_77 : decode cX12_evaluate 77 = .ok (.invokestatic 180, 3) := by decide +kernel
theorem dX12_evaluate_80 : decode cX12_evaluate 80 = .ok (.baload, 1) := by decide +kernel
theorem dX12_evaluate_81 : decode cX12_evaluate 81 = .ok (.ifCond .ne 8, 3) := by decide +kernel
theorem dX12_evaluate_84 : decode cX12_evaluate 84 = .ok (.aload_n 0, 1) := by decide +kernel
theorem dX12_evaluate_85 : decode cX12_evaluate 85 = .ok (.iconst 3, 1) := by decide +kernel
theorem dX12_evaluate_86 : decode cX12_evaluate 86 = .ok (.putfield 299, 3) := by decide +kernel
theorem dX12_evaluate_89 : decode cX12_evaluate 89 = .ok (.aload_n 0, 1) := by decide +kernel
theorem dX12_evaluate_90 : decode cX12_evaluate 90 = .ok (.iload_n 2, 1) := by decide +kernel
theorem dX12_evaluate_91 : decode cX12_evaluate 91 = .ok (.ifCond .ge 18, 3) := by decide +kernel
theorem dX12_evaluate_94 : decode cX12_evaluate 94 = .ok (.aload_n 0, 1) := by decide +kernel
theorem dX12_evaluate_95 : decode cX12_evaluate 95 = .ok (.getfield 21, 3) := by decide +kernel
theorem dX12_evaluate_98 : decode cX12_evaluate 98 = .ok (.aload_n 0, 1) := by decide +kernel
theorem dX12_evaluate_99 : decode cX12_evaluate 99 = .ok (.getfield 302, 3) := by decide +kernel
theorem dX12_evaluate_102 : decode cX12_evaluate 102 = .ok (.invokestatic 180, 3) := by decide +kernel
theorem dX12_evaluate_105 : decode cX12_evaluate 105 = .ok (.iaload, 1) := by decide +kernel
theorem dX12_evaluate_106 : decode cX12_evaluate 106 = .ok (.goto 9, 3) := by decide +kernel
theorem dX12_evaluate_109 : decode cX12_evaluate 109 = .ok (.aload_n 0, 1) := by decide +kernel
theorem dX12_evaluate_110 : decode cX12_evaluate 110 = .ok (.getfield 107, 3) := by decide +kernel
theorem dX12_evaluate_113 : decode cX12_evaluate 113 = .ok (.iload_n 2, 1) := by decide +kernel
theorem dX12_evaluate_114 : decode cX12_evaluate 114 = .ok (.iaload, 1) := by decide +kernel
theorem dX12_evaluate_115 : decode cX12_evaluate 115 = .ok (.putfield 311, 3) := by decide +kernel
theorem dX12_evaluate_118 : decode cX12_evaluate 118 = .ok (.iload_n 1, 1) := by decide +kernel
theorem dX12_evaluate_119 : decode cX12_evaluate 119 = .ok (.iconst 4, 1) := by decide +kernel
theorem dX12_evaluate_120 : decode cX12_evaluate 120 = .ok (.if_icmp .ne 15, 3) := by decide +kernel
theorem dX12_evaluate_123 : decode cX12_evaluate 123 = .ok (.aload_n 0, 1) := by decide +kernel
theorem dX12_evaluate_124 : decode cX12_evaluate 124 = .ok (.aload_n 0, 1) := by decide +kernel
theorem dX12_evaluate_125 : decode cX12_evaluate 125 = .ok (.aload_n 0, 1) := by decide +kernel
theorem dX12_evaluate_126 : decode cX12_evaluate 126 = .ok (.getfield 302, 3) := by decide +kernel
theorem dX12_evaluate_129 : decode cX12_evaluate 129 = .ok (.invokevirtual 263, 3) := by decide +kernel
theorem dX12_evaluate_132 : decode cX12_evaluate 132 = .ok (.invokevirtual 326, 3) := by decide +kernel
theorem dX12_evaluate_135 : decode cX12_evaluate 135 = .ok (.return_, 1) := by decide +kernel
theorem dX12_begin_0 : decode cX12_begin 0 = .ok (.iload_n 1, 1) := by decide +kernel
theorem dX12_begin_1 : decode cX12_begin 1 = .ok (.bipush 31, 2) := by decide +kernel
theorem dX12_begin_3 : decode cX12_begin 3 = .ok (.if_icmp .ne 10, 3) := by decide +kernel
theorem dX12_begin_6 : decode cX12_begin 6 = .ok (.aload_n 0, 1) := by decide +kernel
theorem dX12_begin_7 : decode cX12_begin 7 = .ok (.getfield 302, 3) := by decide +kernel
theorem dX12_begin_10 : decode cX12_begin 10 = .ok (.goto 11, 3) := by decide +kernel
theorem dX12_begin_13 : decode cX12_begin 13 = .ok (.aload_n 0, 1) := by decide +kernel
theorem dX12_begin_14 : decode cX12_begin 14 = .ok (.aload_n 0, 1) := by decide +kernel
theorem dX12_begin_15 : decode cX12_begin 15 = .ok (.getfield 302, 3) := by decide +kernel
theorem dX12_begin_18 : decode cX12_begin 18 = .ok (.invokevirtual 251, 3) := by decide +kernel
theorem dX12_begin_21 : decode cX12_begin 21 = .ok (.istore_n 2, 1) := by decide +kernel
theorem dX12_begin_22 : decode cX12_begin 22 = .ok (.iload_n 1, 1) := by decide +kernel
theorem dX12_begin_23 : decode cX12_begin 23 = .ok (.ifCond .ne 15, 3) := by decide +kernel
theorem dX12_begin_26 : decode cX12_begin 26 = .ok (.aload_n 0, 1) := by decide +kernel
theorem dX12_begin_27 : decode cX12_begin 27 = .ok (.aload_n 0, 1) := by decide +kernel
theorem dX12_begin_28 : decode cX12_begin 28 = .ok (.iload_n 2, 1) := by decide +kernel
theorem dX12_begin_29 : decode cX12_begin 29 = .ok (.invokevirtual 260, 3) := by decide +kernel
theorem dX12_begin_32 : decode cX12_begin 32 = .ok (.putfield 311, 3) := by decide +kernel
theorem dX12_begin_35 : decode cX12_begin 35 = .ok (.goto 99, 3) := by decide +kernel
theorem dX12_begin_38 : decode cX12_begin 38 = .ok (.iload_n 1, 1) := by decide +kernel
theorem dX12_begin_39 : decode cX12_begin 39 = .ok (.iconst 5, 1) := by decide +kernel
theorem dX12_begin_40 : decode cX12_begin 40 = .ok (.if_icmp .ne 57, 3) := by decide +kernel
theorem dX12_begin_43 : decode cX12_begin 43 = .ok (.aload_n 0, 1) := by decide +kernel
theorem dX12_begin_44 : decode cX12_begin 44 = .ok (.iconst 2, 1) := by decide +kernel
theorem dX12_begin_45 : decode cX12_begin 45 = .ok (.invokevirtual 329, 3) := by decide +kernel
theorem dX12_begin_48 : decode cX12_begin 48 = .ok (.ifCond .ne 4, 3) := by decide +kernel
theorem dX12_begin_51 : decode cX12_begin 51 = .ok (.return_, 1) := by decide +kernel
theorem dX12_begin_52 : decode cX12_begin 52 = .ok (.aload_n 0, 1) := by decide +kernel
theorem dX12_begin_53 : decode cX12_begin 53 = .ok (.iconst 3, 1) := by decide +kernel
theorem dX12_begin_54 : decode cX12_begin 54 = .ok (.iconst 2, 1) := by decide +kernel
theorem dX12_begin_55 : decode cX12_begin 55 = .ok (.invokevirtual 332, 3) := by decide +kernel
theorem dX12_begin_58 : decode cX12_begin 58 = .ok (.istore_n 3, 1) := by decide +kernel
theorem dX12_begin_59 : decode cX12_begin 59 = .ok (.aload_n 0, 1) := by decide +kernel
theorem dX12_begin_60 : decode cX12_begin 60 = .ok (.getfield 107, 3) := by decide +kernel
theorem dX12_begin_63 : decode cX12_begin 63 = .ok (.bipush 8, 2) := by decide +kernel
theorem dX12_begin_65 : decode cX12_begin 65 = .ok (.iload_n 3, 1) := by decide +kernel
theorem dX12_begin_66 : decode cX12_begin 66 = .ok (.imul, 1) := by decide +kernel
theorem dX12_begin_67 : decode cX12_begin 67 = .ok (.iload_n 2, 1) := by decide +kernel
theorem dX12_begin_68 : decode cX12_begin 68 = .ok (.iastore, 1) := by decide +kernel
