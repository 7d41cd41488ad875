theorem dX10_init_0 : decode cX10_init 0 = .ok (.aload_n 0, 1) := by decide +kernel
theorem dX10_init_1 : decode cX10_init 1 = .ok (.invokespecial 1, 3) := by decide +kernel
theorem dX10_init_4 : decode cX10_init 4 = .ok (.aload_n 0, 1) := by decide +kernel
theorem dX10_init_5 : decode cX10_init 5 = .ok (.bipush 13, 2) := by decide +kernel
theorem dX10_init_7 : decode cX10_init 7 = .ok (.newarray .int, 2) := by decide +kernel
theorem dX10_init_9 : decode cX10_init 9 = .ok (.putfield 7, 3) := by decide +kernel
theorem dX10_init_12 : decode cX10_init 12 = .ok (.aload_n 0, 1) := by decide +kernel
theorem dX10_init_13 : decode cX10_init 13 = .ok (.bipush 104, 2) := by decide +kernel
theorem dX10_init_15 : decode cX10_init 15 = .ok (.newarray .int, 2) := by decide +kernel
theorem dX10_init_17 : decode cX10_init 17 = .ok (.putfield 13, 3) := by decide +kernel
theorem dX10_init_20 : decode cX10_init 20 = .ok (.aload_n 0, 1) := by decide +kernel
theorem dX10_init_21 : decode cX10_init 21 = .ok (.bipush 10, 2) := by decide +kernel
theorem dX10_init_23 : decode cX10_init 23 = .ok (.newarray .int, 2) := by decide +kernel
theorem dX10_init_25 : decode cX10_init 25 = .ok (.putfield 16, 3) := by decide +kernel
theorem dX10_init_28 : decode cX10_init 28 = .ok (.aload_n 0, 1) := by decide +kernel
theorem dX10_init_29 : decode cX10_init 29 = .ok (.sipush 500, 3) := by decide +kernel
theorem dX10_init_32 : decode cX10_init 32 = .ok (.newarray .int, 2) := by decide +kernel
theorem dX10_init_34 : decode cX10_init 34 = .ok (.putfield 19, 3) := by decide +kernel
theorem dX10_init_37 : decode cX10_init 37 = .ok (.aload_n 0, 1) := by decide +kernel
theorem dX10_init_38 : decode cX10_init 38 = .ok (.sipush 400, 3) := by decide +kernel
theorem dX10_init_41 : decode cX10_init 41 = .ok (.newarray .int, 2) := by decide +kernel
theorem dX10_init_43 : decode cX10_init 43 = .ok (.putfield 22, 3) := by decide +kernel
theorem dX10_init_46 : decode cX10_init 46 = .ok (.aload_n 0, 1) := by decide +kernel
theorem dX10_init_47 : decode cX10_init 47 = .ok (.bipush 71, 2) := by decide +kernel
theorem dX10_init_49 : decode cX10_init 49 = .ok (.newarray .int, 2) := by decide +kernel
theorem dX10_init_51 : decode cX10_init 51 = .ok (.dup, 1) := by decide +kernel
theorem dX10_init_52 : decode cX10_init 52 = .ok (.iconst 0, 1) := by decide +kernel
theorem dX10_init_53 : decode cX10_init 53 = .ok (.bipush 32, 2) := by decide +kernel
theorem dX10_init_55 : decode cX10_init 55 = .ok (.iastore, 1) := by decide +kernel
theorem dX10_init_56 : decode cX10_init 56 = .ok (.dup, 1) := by decide +kernel
theorem dX10_init_57 : decode cX10_init 57 = .ok (.iconst 1, 1) := by decide +kernel
theorem dX10_init_58 : decode cX10_init 58 = .ok (.bipush 104, 2) := by decide +kernel
theorem dX10_init_60 : decode cX10_init 60 = .ok (.iastore, 1) := by decide +kernel
theorem dX10_init_61 : decode cX10_init 61 = .ok (.dup, 1) := by decide +kernel
theorem dX10_init_62 : decode cX10_init 62 = .ok (.iconst 2, 1) := by decide +kernel
theorem dX10_init_63 : decode cX10_init 63 = .ok (.bipush 101, 2) := by decide +kernel
theorem dX10_init_65 : decode cX10_init 65 = .ok (.iastore, 1) := by decide +kernel
theorem dX10_init_66 : decode cX10_init 66 = .ok (.dup, 1) := by decide +kernel
theorem dX10_init_67 : decode cX10_init 67 = .ok (.iconst 3, 1) := by decide +kernel
theorem dX10_init_68 : decode cX10_init 68 = .ok (.bipush 97, 2) := by decide +kernel
theorem dX10_init_70 : decode cX10_init 70 = .ok (.iastore, 1) := by decide +kernel
theorem dX10_init_71 : decode cX10_init 71 = .ok (.dup, 1) := by decide +kernel
theorem dX10_init_72 : decode cX10_init 72 = .ok (.iconst 4, 1) := by decide +kernel
theorem dX10_init_73 : decode cX10_init 73 = .ok (.bipush 114, 2) := by decide +kernel
theorem dX10_init_75 : decode cX10_init 75 = .ok (.iastore, 1) := by decide +kernel
theorem dX10_init_76 : decode cX10_init 76 = .ok (.dup, 1) := by decide +kernel
theorem dX10_init_77 : decode cX10_init 77 = .ok (.iconst 5, 1) := by decide +kernel
theorem dX10_init_78 : decode cX10_init 78 = .ok (.bipush 32, 2) := by decide +kernel
theorem dX10_init_80 : decode cX10_init 80 = .ok (.iastore, 1) := by decide +kernel
theorem dX10_init_81 : decode cX10_init 81 = .ok (.dup, 1) := by decide +kernel
theorem dX10_init_82 : decode cX10_init 82 = .ok (.bipush 6, 2) := by decide +kernel
theorem dX10_init_84 : decode cX10_init 84 = .ok (.bipush 109, 2) := by decide +kernel
theorem dX10_init_86 : decode cX10_init 86 = .ok (.iastore, 1) := by decide +kernel
theorem dX10_init_87 : decode cX10_init 87 = .ok (.dup, 1) := by decide +kernel
theorem dX10_init_88 : decode cX10_init 88 = .ok (.bipush 7, 2) := by decide +kernel
theorem dX10_init_90 : decode cX10_init 90 = .ok (.bipush 105, 2) := by decide +kernel
theorem dX10_init_92 : decode cX10_init 92 = .ok (.iastore, 1) := by decide +kernel
theorem dX10_init_93 : decode cX10_init 93 = .ok (.dup, 1) := by decide +kernel
theorem dX10_init_94 : decode cX10_init 94 = .ok (.bipush 8, 2) := by decide +kernel
theorem dX10_init_96 : decode cX10_init 96 = .ok (.bipush 115, 2) := by decide +kernel
theorem dX10_init_98 : decode cX10_init 98 = .ok (.iastore, 1) := by decide +kernel
theorem dX10_init_99 : decode cX10_init 99 = .ok (.dup, 1) := by decide +kernel
theorem dX10_init_100 : decode cX10_init 100 = .ok (.bipush 9, 2) := by decide +kernel
theorem dX10_init_102 : decode cX10_init 102 = .ok (.bipush 115, 2) := by decide +kernel
theorem dX10_init_104 : decode cX10_init 104 = .ok (.iastore, 1) := by decide +kernel
theorem dX10_init_105 : decode cX10_init 105 = .ok (.dup, 1) := by decide +kernel
theorem dX10_init_106 : decode cX10_init 106 = .ok (.bipush 10, 2) := by decide +kernel
theorem dX10_init_108 : decode cX10_init 108 = .ok (.bipush 32, 2) := by decide +kernel
theorem dX10_init_110 : decode cX10_init 110 = .ok (.iastore, 1) := by decide +kernel
theorem dX10_init_111 : decode cX10_init 111 = .ok (.dup, 1) := by decide +kernel
theorem dX10_init_112 : decode cX10_init 112 = .ok (.bipush 11, 2) := by decide +kernel
theorem dX10_init_114 : decode cX10_init 114 = .ok (.bipush 119, 2) := by decide +kernel
theorem dX10_init_116 : decode cX10_init 116 = .ok (.iastore, 1) := by decide +kernel
theorem dX10_init_117 : decode cX10_init 117 = .ok (.dup, 1) := by decide +kernel
theorem dX10_init_118 : decode cX10_init 118 = .ok (.bipush 12, 2) := by decide +kernel
theorem dX10_init_120 : decode cX10_init 120 = .ok (.bipush 104, 2) := by decide +kernel
theorem dX10_init_122 : decode cX10_init 122 = .ok (.iastore, 1) := by decide +kernel
theorem dX10_init_123 : decode cX10_init 123 = .ok (.dup, 1) := by decide +kernel
theorem dX10_init_124 : decode cX10_init 124 = .ok (.bipush 13, 2) := by decide +kernel
theorem dX10_init_126 : decode cX10_init 126 = .ok (.bipush 101, 2) := by decide +kernel
theorem dX10_init_128 : decode cX10_init 128 = .ok (.iastore, 1) := by decide +kernel
theorem dX10_init_129 : decode cX10_init 129 = .ok (.dup, 1) := by decide +kernel
theorem dX10_init_130 : decode cX10_init 130 = .ok (.bipush 14, 2) := by decide +kernel
theorem dX10_init_132 : decode cX10_init 132 = .ok (.bipush 110, 2) := by decide +kernel
theorem dX10_init_134 : decode cX10_init 134 = .ok (.iastore, 1) := by decide +kernel
theorem dX10_init_135 : decode cX10_init 135 = .ok (.dup, 1) := by decide +kernel
theorem dX10_init_136 : decode cX10_init 136 = .ok (.bipush 15, 2) := by decide +kernel
theorem dX10_init_138 : decode cX10_init 138 = .ok (.bipush 32, 2) := by decide +kernel
theorem dX10_init_140 : decode cX10_init 140 = .ok (.iastore, 1) := by decide +kernel
theorem dX10_init_141 : decode cX10_init 141 = .ok (.dup, 1) := by decide +kernel
theorem dX10_init_142 : decode cX10_init 142 = .ok (.bipush 16, 2) := by decide +kernel
theorem dX10_init_144 : decode cX10_init 144 = .ok (.bipush 111, 2) := by decide +kernel
theorem dX10_init_146 : decode cX10_init 146 = .ok (.iastore, 1) := by decide +kernel
theorem dX10_init_147 : decode cX10_init 147 = .ok (.dup, 1) := by decide +kernel
theorem dX10_init_148 : decode cX10_init 148 = .ok (.bipush 17, 2) := by decide +kernel
theorem dX10_init_150 : decode cX10_init 150 = .ok (.bipush 114, 2) := by decide +kernel
theorem dX10_init_152 : decode cX10_init 152 = .ok (.iastore, 1) := by decide +kernel
theorem dX10_init_153 : decode cX10_init 153 = .ok (.dup, 1) := by decide +kernel
theorem dX10_init_154 : decode cX10_init 154 = .ok (.bipush 18, 2) := by decide +kernel
theorem dX10_init_156 : decode cX10_init 156 = .ok (.bipush 32, 2) := by decide +kernel
theorem dX10_init_158 : decode cX10_init 158 = .ok (.iastore, 1) := by decide +kernel
theorem dX10_init_159 : decode cX10_init 159 = .ok (.dup, 1) := by decide +kernel
theorem dX10_init_160 : decode cX10_init 160 = .ok (.bipush 19, 2) := by decide +kernel
theorem dX10_init_162 : decode cX10_init 162 = .ok (.bipush 97, 2) := by decide +kernel
theorem dX10_init_164 : decode cX10_init 164 = .ok (.iastore, 1) := by decide +kernel
theorem dX10_init_165 : decode cX10_init 165 = .ok (.dup, 1) := by decide +kernel
theorem dX10_init_166 : decode cX10_init 166 = .ok (.bipush 20, 2) := by decide +kernel
theorem dX10_init_168 : decode cX10_init 168 = .ok (.bipush 110, 2) := by decide +kernel
theorem dX10_init_170 : decode cX10_init 170 = .ok (.iastore, 1) := by decide +kernel
theorem dX10_init_171 : decode cX10_init 171 = .ok (.dup, 1) := by decide +kernel
theorem dX10_init_172 : decode cX10_init 172 = .ok (.bipush 21, 2) := by decide +kernel
theorem dX10_init_174 : decode cX10_init 174 = .ok (.bipush 100, 2) := by decide +kernel
theorem dX10_init_176 : decode cX10_init 176 = .ok (.iastore, 1) := by decide +kernel
theorem dX10_init_177 : decode cX10_init 177 = .ok (.dup, 1) := by decide +kernel
theorem dX10_init_178 : decode cX10_init 178 = .ok (.bipush 22, 2) := by decide +kernel
theorem dX10_init_180 : decode cX10_init 180 = .ok (.bipush 32, 2) := by decide +kernel
theorem dX10_init_182 : decode cX10_init 182 = .ok (.iastore, 1) := by decide +kernel
theorem dX10_init_183 : decode cX10_init 183 = .ok (.dup, 1) := by decide +kernel
theorem dX10_init_184 : decode cX10_init 184 = .ok (.bipush 23, 2) := by decide +kernel
theorem dX10_init_186 : decode cX10_init 186 = .ok (.bipush 110, 2) := by decide +kernel
theorem dX10_init_188 : decode cX10_init 188 = .ok (.iastore, 1) := by decide +kernel
theorem dX10_init_189 : decode cX10_init 189 = .ok (.dup, 1) := by decide +kernel
theorem dX10_init_190 : decode cX10_init 190 = .ok (.bipush 24, 2) := by decide +kernel
theorem dX10_init_192 : decode cX10_init 192 = .ok (.bipush 111, 2) := by decide +kernel
theorem dX10_init_194 : decode cX10_init 194 = .ok (.iastore, 1) := by decide +kernel
theorem dX10_init_195 : decode cX10_init 195 = .ok (.dup, 1) := by decide +kernel
theorem dX10_init_196 : decode cX10_init 196 = .ok (.bipush 25, 2) := by decide +kernel
theorem dX10_init_198 : decode cX10_init 198 = .ok (.bipush 116, 2) := by decide +kernel
theorem dX10_init_200 : decode cX10_init 200 = .ok (.iastore, 1) := by decide +kernel
theorem dX10_init_201 : decode cX10_init 201 = .ok (.dup, 1) := by decide +kernel
theorem dX10_init_202 : decode cX10_init 202 = .ok (.bipush 26, 2) := by decide +kernel
theorem dX10_init_204 : decode cX10_init 204 = .ok (.bipush 32, 2) := by decide +kernel
theorem dX10_init_206 : decode cX10_init 206 = .ok (.iastore, 1) := by decide +kernel
theorem dX10_init_207 : decode cX10_init 207 = .ok (.dup, 1) := by decide +kernel
theorem dX10_init_208 : decode cX10_init 208 = .ok (.bipush 27, 2) := by decide +kernel
theorem dX10_init_210 : decode cX10_init 210 = .ok (.bipush 108, 2) := by decide +kernel
theorem dX10_init_212 : decode cX10_init 212 = .ok (.iastore, 1) := by decide +kernel
theorem dX10_init_213 : decode cX10_init 213 = .ok (.dup, 1) := by decide +kernel
theorem dX10_init_214 : decode cX10_init 214 = .ok (.bipush 28, 2) := by decide +kernel
theorem dX10_init_216 : decode cX10_init 216 = .ok (.bipush 111, 2) := by decide +kernel
theorem dX10_init_218 : decode cX10_init 218 = .ok (.iastore, 1) := by decide +kernel
theorem dX10_init_219 : decode cX10_init 219 = .ok (.dup, 1) := by decide +kernel
theorem dX10_init_220 : decode cX10_init 220 = .ok (.bipush 29, 2) := by decide +kernel
theorem dX10_init_222 : decode cX10_init 222 = .ok (.bipush 119, 2) := by decide +kernel
theorem dX10_init_224 : decode cX10_init 224 = .ok (.iastore, 1) := by decide +kernel
theorem dX10_init_225 : decode cX10_init 225 = .ok (.dup, 1) := by decide +kernel
theorem dX10_init_226 : decode cX10_init 226 = .ok (.bipush 30, 2) := by decide +kernel
theorem dX10_init_228 : decode cX10_init 228 = .ok (.bipush 32, 2) := by decide +kernel
theorem dX10_init_230 : decode cX10_init 230 = .ok (.iastore, 1) := by decide +kernel
theorem dX10_init_231 : decode cX10_init 231 = .ok (.dup, 1) := by decide +kernel
theorem dX10_init_232 : decode cX10_init 232 = .ok (.bipush 31, 2) := by decide +kernel
theorem dX10_init_234 : decode cX10_init 234 = .ok (.bipush 104, 2) := by decide +kernel
theorem dX10_init_236 : decode cX10_init 236 = .ok (.iastore, 1) := by decide +kernel
theorem dX10_init_237 : decode cX10_init 237 = .ok (.dup, 1) := by decide +kernel
theorem dX10_init_238 : decode cX10_init 238 = .ok (.bipush 32, 2) := by decide +kernel
theorem dX10_init_240 : decode cX10_init 240 = .ok (.bipush 105, 2) := by decide +kernel
theorem dX10_init_242 : decode cX10_init 242 = .ok (.iastore, 1) := by decide +kernel
theorem dX10_init_243 : decode cX10_init 243 = .ok (.dup, 1) := by decide +kernel
theorem dX10_init_244 : decode cX10_init 244 = .ok (.bipush 33, 2) := by decide +kernel
theorem dX10_init_246 : decode cX10_init 246 = .ok (.bipush 103, 2) := by decide +kernel
theorem dX10_init_248 : decode cX10_init 248 = .ok (.iastore, 1) := by decide +kernel
theorem dX10_init_249 : decode cX10_init 249 = .ok (.dup, 1) := by decide +kernel
theorem dX10_init_250 : decode cX10_init 250 = .ok (.bipush 34, 2) := by decide +kernel
theorem dX10_init_252 : decode cX10_init 252 = .ok (.bipush 104, 2) := by decide +kernel
theorem dX10_init_254 : decode cX10_init 254 = .ok (.iastore, 1) := by decide +kernel
theorem dX10_init_255 : decode cX10_init 255 = .ok (.dup, 1) := by decide +kernel
theorem dX10_init_256 : decode cX10_init 256 = .ok (.bipush 35, 2) := by decide +kernel
theorem dX10_init_258 : decode cX10_init 258 = .ok (.bipush 32, 2) := by decide +kernel
theorem dX10_init_260 : decode cX10_init 260 = .ok (.iastore, 1) := by decide +kernel
theorem dX10_init_261 : decode cX10_init 261 = .ok (.dup, 1) := by decide +kernel
theorem dX10_init_262 : decode cX10_init 262 = .ok (.bipush 36, 2) := by decide +kernel
theorem dX10_init_264 : decode cX10_init 264 = .ok (.bipush 97, 2) := by decide +kernel
theorem dX10_init_266 : decode cX10_init 266 = .ok (.iastore, 1) := by decide +kernel
theorem dX10_init_267 : decode cX10_init 267 = .ok (.dup, 1) := by decide +kernel
theorem dX10_init_268 : decode cX10_init 268 = .ok (.bipush 37, 2) := by decide +kernel
theorem dX10_init_270 : decode cX10_init 270 = .ok (.bipush 112, 2) := by decide +kernel
theorem dX10_init_272 : decode cX10_init 272 = .ok (.iastore, 1) := by decide +kernel
theorem dX10_init_273 : decode cX10_init 273 = .ok (.dup, 1) := by decide +kernel
theorem dX10_init_274 : decode cX10_init 274 = .ok (.bipush 38, 2) := by decide +kernel
theorem dX10_init_276 : decode cX10_init 276 = .ok (.bipush 97, 2) := by decide +kernel
theorem dX10_init_278 : decode cX10_init 278 = .ok (.iastore, 1) := by decide +kernel
theorem dX10_init_279 : decode cX10_init 279 = .ok (.dup, 1) := by decide +kernel
theorem dX10_init_280 : decode cX10_init 280 = .ok (.bipush 39, 2) := by decide +kernel
theorem dX10_init_282 : decode cX10_init 282 = .ok (.bipush 114, 2) := by decide +kernel
theorem dX10_init_284 : decode cX10_init 284 = .ok (.iastore, 1) := by decide +kernel
theorem dX10_init_285 : decode cX10_init 285 = .ok (.dup, 1) := by decide +kernel
theorem dX10_init_286 : decode cX10_init 286 = .ok (.bipush 40, 2) := by decide +kernel
theorem dX10_init_288 : decode cX10_init 288 = .ok (.bipush 116, 2) := by decide +kernel
theorem dX10_init_290 : decode cX10_init 290 = .ok (.iastore, 1) := by decide +kernel
theorem dX10_init_291 : decode cX10_init 291 = .ok (.dup, 1) := by decide +kernel
theorem dX10_init_292 : decode cX10_init 292 = .ok (.bipush 41, 2) := by decide +kernel
theorem dX10_init_294 : decode cX10_init 294 = .ok (.bipush 32, 2) := by decide +kernel
theorem dX10_init_296 : decode cX10_init 296 = .ok (.iastore, 1) := by decide +kernel
theorem dX10_init_297 : decode cX10_init 297 = .ok (.dup, 1) := by decide +kernel
theorem dX10_init_298 : decode cX10_init 298 = .ok (.bipush 42, 2) := by decide +kernel
theorem dX10_init_300 : decode cX10_init 300 = .ok (.bipush 104, 2) := by decide +kernel
theorem dX10_init_302 : decode cX10_init 302 = .ok (.iastore, 1) := by decide +kernel
theorem dX10_init_303 : decode cX10_init 303 = .ok (.dup, 1) := by decide +kernel
theorem dX10_init_304 : decode cX10_init 304 = .ok (.bipush 43, 2) := by decide +kernel
theorem dX10_init_306 : decode cX10_init 306 = .ok (.bipush 117, 2) := by decide +kernel
theorem dX10_init_308 : decode cX10_init 308 = .ok (.iastore, 1) := by decide +kernel
theorem dX10_init_309 : decode cX10_init 309 = .ok (.dup, 1) := by decide +kernel
theorem dX10_init_310 : decode cX10_init 310 = .ok (.bipush 44, 2) := by decide +kernel
theorem dX10_init_312 : decode cX10_init 312 = .ok (.bipush 109, 2) := by decide +kernel
theorem dX10_init_314 : decode cX10_init 314 = .ok (.iastore, 1) := by decide +kernel
theorem dX10_init_315 : decode cX10_init 315 = .ok (.dup, 1) := by decide +kernel
theorem dX10_init_316 : decode cX10_init 316 = .ok (.bipush 45, 2) := by decide +kernel
theorem dX10_init_318 : decode cX10_init 318 = .ok (.bipush 32, 2) := by decide +kernel
theorem dX10_init_320 : decode cX10_init 320 = .ok (.iastore, 1) := by decide +kernel
theorem dX10_init_321 : decode cX10_init 321 = .ok (.dup, 1) := by decide +kernel
theorem dX10_init_322 : decode cX10_init 322 = .ok (.bipush 46, 2) := by decide +kernel
theorem dX10_init_324 : decode cX10_init 324 = .ok (.bipush 110, 2) := by decide +kernel
theorem dX10_init_326 : decode cX10_init 326 = .ok (.iastore, 1) := by decide +kernel
theorem dX10_init_327 : decode cX10_init 327 = .ok (.dup, 1) := by decide +kernel
theorem dX10_init_328 : decode cX10_init 328 = .ok (.bipush 47, 2) := by decide +kernel
theorem dX10_init_330 : decode cX10_init 330 = .ok (.bipush 101, 2) := by decide +kernel
theorem dX10_init_332 : decode cX10_init 332 = .ok (.iastore, 1) := by decide +kernel
theorem dX10_init_333 : decode cX10_init 333 = .ok (.dup, 1) := by decide +kernel
theorem dX10_init_334 : decode cX10_init 334 = .ok (.bipush 48, 2) := by decide +kernel
theorem dX10_init_336 : decode cX10_init 336 = .ok (.bipush 97, 2) := by decide +kernel
theorem dX10_init_338 : decode cX10_init 338 = .ok (.iastore, 1) := by decide +kernel
theorem dX10_init_339 : decode cX10_init 339 = .ok (.dup, 1) := by decide +kernel
theorem dX10_init_340 : decode cX10_init 340 = .ok (.bipush 49, 2) := by decide +kernel
theorem dX10_init_342 : decode cX10_init 342 = .ok (.bipush 114, 2) := by decide +kernel
theorem dX10_init_344 : decode cX10_init 344 = .ok (.iastore, 1) := by decide +kernel
theorem dX10_init_345 : decode cX10_init 345 = .ok (.dup, 1) := by decide +kernel
theorem dX10_init_346 : decode cX10_init 346 = .ok (.bipush 50, 2) := by decide +kernel
theorem dX10_init_348 : decode cX10_init 348 = .ok (.bipush 32, 2) := by decide +kernel
theorem dX10_init_350 : decode cX10_init 350 = .ok (.iastore, 1) := by decide +kernel
theorem dX10_init_351 : decode cX10_init 351 = .ok (.dup, 1) := by decide +kernel
theorem dX10_init_352 : decode cX10_init 352 = .ok (.bipush 51, 2) := by decide +kernel
theorem dX10_init_354 : decode cX10_init 354 = .ok (.bipush 108, 2) := by decide +kernel
theorem dX10_init_356 : decode cX10_init 356 = .ok (.iastore, 1) := by decide +kernel
theorem dX10_init_357 : decode cX10_init 357 = .ok (.dup, 1) := by decide +kernel
theorem dX10_init_358 : decode cX10_init 358 = .ok (.bipush 52, 2) := by decide +kernel
theorem dX10_init_360 : decode cX10_init 360 = .ok (.bipush 111, 2) := by decide +kernel
theorem dX10_init_362 : decode cX10_init 362 = .ok (.iastore, 1) := by decide +kernel
theorem dX10_init_363 : decode cX10_init 363 = .ok (.dup, 1) := by decide +kernel
theorem dX10_init_364 : decode cX10_init 364 = .ok (.bipush 53, 2) := by decide +kernel
theorem dX10_init_366 : decode cX10_init 366 = .ok (.bipush 117, 2) := by decide +kernel
theorem dX10_init_368 : decode cX10_init 368 = .ok (.iastore, 1) := by decide +kernel
theorem dX10_init_369 : decode cX10_init 369 = .ok (.dup, 1) := by decide +kernel
theorem dX10_init_370 : decode cX10_init 370 = .ok (.bipush 54, 2) := by decide +kernel
theorem dX10_init_372 : decode cX10_init 372 = .ok (.bipush 100, 2) := by decide +kernel
theorem dX10_init_374 : decode cX10_init 374 = .ok (.iastore, 1) := by decide +kernel
theorem dX10_init_375 : decode cX10_init 375 = .ok (.dup, 1) := by decide +kernel
theorem dX10_init_376 : decode cX10_init 376 = .ok (.bipush 55, 2) := by decide +kernel
theorem dX10_init_378 : decode cX10_init 378 = .ok (.bipush 32, 2) := by decide +kernel
theorem dX10_init_380 : decode cX10_init 380 = .ok (.iastore, 1) := by decide +kernel
theorem dX10_init_381 : decode cX10_init 381 = .ok (.dup, 1) := by decide +kernel
theorem dX10_init_382 : decode cX10_init 382 = .ok (.bipush 56, 2) := by decide +kernel
theorem dX10_init_384 : decode cX10_init 384 = .ok (.bipush 99, 2) := by decide +kernel
theorem dX10_init_386 : decode cX10_init 386 = .ok (.iastore, 1) := by decide +kernel
theorem dX10_init_387 : decode cX10_init 387 = .ok (.dup, 1) := by decide +kernel
theorem dX10_init_388 : decode cX10_init 388 = .ok (.bipush 57, 2) := by decide +kernel
theorem dX10_init_390 : decode cX10_init 390 = .ok (.bipush 114, 2) := by decide +kernel
theorem dX10_init_392 : decode cX10_init 392 = .ok (.iastore, 1) := by decide +kernel
theorem dX10_init_393 : decode cX10_init 393 = .ok (.dup, 1) := by decide +kernel
theorem dX10_init_394 : decode cX10_init 394 = .ok (.bipush 58, 2) := by decide +kernel
theorem dX10_init_396 : decode cX10_init 396 = .ok (.bipush 111, 2) := by decide +kernel
theorem dX10_init_398 : decode cX10_init 398 = .ok (.iastore, 1) := by decide +kernel
theorem dX10_init_399 : decode cX10_init 399 = .ok (.dup, 1) := by decide +kernel
theorem dX10_init_400 : decode cX10_init 400 = .ok (.bipush 59, 2) := by decide +kernel
theorem dX10_init_402 : decode cX10_init 402 = .ok (.bipush 119, 2) := by decide +kernel
theorem dX10_init_404 : decode cX10_init 404 = .ok (.iastore, 1) := by decide +kernel
theorem dX10_init_405 : decode cX10_init 405 = .ok (.dup, 1) := by decide +kernel
theorem dX10_init_406 : decode cX10_init 406 = .ok (.bipush 60, 2) := by decide +kernel
theorem dX10_init_408 : decode cX10_init 408 = .ok (.bipush 100, 2) := by decide +kernel
theorem dX10_init_410 : decode cX10_init 410 = .ok (.iastore, 1) := by decide +kernel
theorem dX10_init_411 : decode cX10_init 411 = .ok (.dup, 1) := by decide +kernel
theorem dX10_init_412 : decode cX10_init 412 = .ok (.bipush 61, 2) := by decide +kernel
theorem dX10_init_414 : decode cX10_init 414 = .ok (.bipush 32, 2) := by decide +kernel
theorem dX10_init_416 : decode cX10_init 416 = .ok (.iastore, 1) := by decide +kernel
theorem dX10_init_417 : decode cX10_init 417 = .ok (.dup, 1) := by decide +kernel
theorem dX10_init_418 : decode cX10_init 418 = .ok (.bipush 62, 2) := by decide +kernel
theorem dX10_init_420 : decode cX10_init 420 = .ok (.bipush 104, 2) := by decide +kernel
theorem dX10_init_422 : decode cX10_init 422 = .ok (.iastore, 1) := by decide +kernel
theorem dX10_init_423 : decode cX10_init 423 = .ok (.dup, 1) := by decide +kernel
theorem dX10_init_424 : decode cX10_init 424 = .ok (.bipush 63, 2) := by decide +kernel
theorem dX10_init_426 : decode cX10_init 426 = .ok (.bipush 111, 2) := by decide +kernel
theorem dX10_init_428 : decode cX10_init 428 = .ok (.iastore, 1) := by decide +kernel
theorem dX10_init_429 : decode cX10_init 429 = .ok (.dup, 1) := by decide +kernel
theorem dX10_init_430 : decode cX10_init 430 = .ok (.bipush 64, 2) := by decide +kernel
theorem dX10_init_432 : decode cX10_init 432 = .ok (.bipush 117, 2) := by decide +kernel
theorem dX10_init_434 : decode cX10_init 434 = .ok (.iastore, 1) := by decide +kernel
theorem dX10_init_435 : decode cX10_init 435 = .ok (.dup, 1) := by decide +kernel
theorem dX10_init_436 : decode cX10_init 436 = .ok (.bipush 65, 2) := by decide +kernel
theorem dX10_init_438 : decode cX10_init 438 = .ok (.bipush 114, 2) := by decide +kernel
theorem dX10_init_440 : decode cX10_init 440 = .ok (.iastore, 1) := by decide +kernel
theorem dX10_init_441 : decode cX10_init 441 = .ok (.dup, 1) := by decide +kernel
theorem dX10_init_442 : decode cX10_init 442 = .ok (.bipush 66, 2) := by decide +kernel
theorem dX10_init_444 : decode cX10_init 444 = .ok (.bipush 32, 2) := by decide +kernel
theorem dX10_init_446 : decode cX10_init 446 = .ok (.iastore, 1) := by decide +kernel
theorem dX10_init_447 : decode cX10_init 447 = .ok (.dup, 1) := by decide +kernel
theorem dX10_init_448 : decode cX10_init 448 = .ok (.bipush 67, 2) := by decide +kernel
theorem dX10_init_450 : decode cX10_init 450 = .ok (.bipush 119, 2) := by decide +kernel
theorem dX10_init_452 : decode cX10_init 452 = .ok (.iastore, 1) := by decide +kernel
theorem dX10_init_453 : decode cX10_init 453 = .ok (.dup, 1) := by decide +kernel
theorem dX10_init_454 : decode cX10_init 454 = .ok (.bipush 68, 2) := by decide +kernel
theorem dX10_init_456 : decode cX10_init 456 = .ok (.bipush 104, 2) := by decide +kernel
theorem dX10_init_458 : decode cX10_init 458 = .ok (.iastore, 1) := by decide +kernel
theorem dX10_init_459 : decode cX10_init 459 = .ok (.dup, 1) := by decide +kernel
theorem dX10_init_460 : decode cX10_init 460 = .ok (.bipush 69, 2) := by decide +kernel
theorem dX10_init_462 : decode cX10_init 462 = .ok (.bipush 111, 2) := by decide +kernel
theorem dX10_init_464 : decode cX10_init 464 = .ok (.iastore, 1) := by decide +kernel
theorem dX10_init_465 : decode cX10_init 465 = .ok (.dup, 1) := by decide +kernel
theorem dX10_init_466 : decode cX10_init 466 = .ok (.bipush 70, 2) := by decide +kernel
theorem dX10_init_468 : decode cX10_init 468 = .ok (.bipush 32, 2) := by decide +kernel
theorem dX10_init_470 : decode cX10_init 470 = .ok (.iastore, 1) := by decide +kernel
theorem dX10_init_471 : decode cX10_init 471 = .ok (.putfield 25, 3) := by decide +kernel
theorem dX10_init_474 : decode cX10_init 474 = .ok (.aload_n 0, 1) := by decide +kernel
theorem dX10_init_475 : decode cX10_init 475 = .ok (.bipush 32, 2) := by decide +kernel
theorem dX10_init_477 : decode cX10_init 477 = .ok (.newarray .int, 2) := by decide +kernel
theorem dX10_init_479 : decode cX10_init 479 = .ok (.putfield 28, 3) := by decide +kernel
theorem dX10_init_482 : decode cX10_init 482 = .ok (.aload_n 0, 1) := by decide +kernel
theorem dX10_init_483 : decode cX10_init 483 = .ok (.bipush 32, 2) := by decide +kernel
theorem dX10_init_485 : decode cX10_init 485 = .ok (.newarray .int, 2) := by decide +kernel
theorem dX10_init_487 : decode cX10_init 487 = .ok (.putfield 31, 3) := by decide +kernel
theorem dX10_init_490 : decode cX10_init 490 = .ok (.aload_n 0, 1) := by decide +kernel
theorem dX10_init_491 : decode cX10_init 491 = .ok (.bipush 32, 2) := by decide +kernel
theorem dX10_init_493 : decode cX10_init 493 = .ok (.newarray .int, 2) := by decide +kernel
theorem dX10_init_495 : decode cX10_init 495 = .ok (.putfield 34, 3) := by decide +kernel
theorem dX10_init_498 : decode cX10_init 498 = .ok (.aload_n 0, 1) := by decide +kernel
theorem dX10_init_499 : decode cX10_init 499 = .ok (.sipush 800, 3) := by decide +kernel
theorem dX10_init_502 : decode cX10_init 502 = .ok (.newarray .int, 2) := by decide +kernel
theorem dX10_init_504 : decode cX10_init 504 = .ok (.putfield 37, 3) := by decide +kernel
theorem dX10_init_507 : decode cX10_init 507 = .ok (.aload_n 0, 1) := by decide +kernel
theorem dX10_init_508 : decode cX10_init 508 = .ok (.sipush 800, 3) := by decide +kernel
theorem dX10_init_511 : decode cX10_init 511 = .ok (.newarray .int, 2) := by decide +kernel
theorem dX10_init_513 : decode cX10_init 513 = .ok (.putfield 40, 3) := by decide +kernel
theorem dX10_init_516 : decode cX10_init 516 = .ok (.aload_n 0, 1) := by decide +kernel
theorem dX10_init_517 : decode cX10_init 517 = .ok (.bipush 40, 2) := by decide +kernel
theorem dX10_init_519 : decode cX10_init 519 = .ok (.newarray .int, 2) := by decide +kernel
theorem dX10_init_521 : decode cX10_init 521 = .ok (.putfield 43, 3) := by decide +kernel
theorem dX10_init_524 : decode cX10_init 524 = .ok (.aload_n 0, 1) := by decide +kernel
theorem dX10_init_525 : decode cX10_init 525 = .ok (.iconst (-1), 1) := by decide +kernel
theorem dX10_init_526 : decode cX10_init 526 = .ok (.putfield 46, 3) := by decide +kernel
theorem dX10_init_529 : decode cX10_init 529 = .ok (.aload_n 0, 1) := by decide +kernel
theorem dX10_init_530 : decode cX10_init 530 = .ok (.bipush 9, 2) := by decide +kernel
theorem dX10_init_532 : decode cX10_init 532 = .ok (.newarray .int, 2) := by decide +kernel
theorem dX10_init_534 : decode cX10_init 534 = .ok (.putfield 50, 3) := by decide +kernel
theorem dX10_init_537 : decode cX10_init 537 = .ok (.aload_n 0, 1) := by decide +kernel
theorem dX10_init_538 : decode cX10_init 538 = .ok (.sipush 420, 3) := by decide +kernel
theorem dX10_init_541 : decode cX10_init 541 = .ok (.newarray .int, 2) := by decide +kernel
theorem dX10_init_543 : decode cX10_init 543 = .ok (.putfield 53, 3) := by decide +kernel
theorem dX10_init_546 : decode cX10_init 546 = .ok (.aload_n 0, 1) := by decide +kernel
theorem dX10_init_547 : decode cX10_init 547 = .ok (.bipush 61, 2) := by decide +kernel
theorem dX10_init_549 : decode cX10_init 549 = .ok (.newarray .boolean, 2) := by decide +kernel
theorem dX10_init_551 : decode cX10_init 551 = .ok (.putfield 56, 3) := by decide +kernel
theorem dX10_init_554 : decode cX10_init 554 = .ok (.aload_n 0, 1) := by decide +kernel
theorem dX10_init_555 : decode cX10_init 555 = .ok (.iconst 4, 1) := by decide +kernel
theorem dX10_init_556 : decode cX10_init 556 = .ok (.newarray .int, 2) := by decide +kernel
theorem dX10_init_558 : decode cX10_init 558 = .ok (.putfield 60, 3) := by decide +kernel
theorem dX10_init_561 : decode cX10_init 561 = .ok (.aload_n 0, 1) := by decide +kernel
theorem dX10_init_562 : decode cX10_init 562 = .ok (.bipush 48, 2) := by decide +kernel
theorem dX10_init_564 : decode cX10_init 564 = .ok (.newarray .int, 2) := by decide +kernel
theorem dX10_init_566 : decode cX10_init 566 = .ok (.putfield 63, 3) := by decide +kernel
theorem dX10_init_569 : decode cX10_init 569 = .ok (.aload_n 0, 1) := by decide +kernel
theorem dX10_init_570 : decode cX10_init 570 = .ok (.bipush 8, 2) := by decide +kernel
theorem dX10_init_572 : decode cX10_init 572 = .ok (.newarray .int, 2) := by decide +kernel
theorem dX10_init_574 : decode cX10_init 574 = .ok (.putfield 66, 3) := by decide +kernel
theorem dX10_init_577 : decode cX10_init 577 = .ok (.aload_n 0, 1) := by decide +kernel
theorem dX10_init_578 : decode cX10_init 578 = .ok (.bipush 8, 2) := by decide +kernel
theorem dX10_init_580 : decode cX10_init 580 = .ok (.newarray .int, 2) := by decide +kernel
theorem dX10_init_582 : decode cX10_init 582 = .ok (.putfield 69, 3) := by decide +kernel
theorem dX10_init_585 : decode cX10_init 585 = .ok (.aload_n 0, 1) := by decide +kernel
theorem dX10_init_586 : decode cX10_init 586 = .ok (.bipush 8, 2) := by decide +kernel
theorem dX10_init_588 : decode cX10_init 588 = .ok (.newarray .int, 2) := by decide +kernel
theorem dX10_init_590 : decode cX10_init 590 = .ok (.putfield 72, 3) := by decide +kernel
theorem dX10_init_593 : decode cX10_init 593 = .ok (.aload_n 0, 1) := by decide +kernel
theorem dX10_init_594 : decode cX10_init 594 = .ok (.bipush 15, 2) := by decide +kernel
theorem dX10_init_596 : decode cX10_init 596 = .ok (.newarray .int, 2) := by decide +kernel
theorem dX10_init_598 : decode cX10_init 598 = .ok (.putfield 75, 3) := by decide +kernel
theorem dX10_init_601 : decode cX10_init 601 = .ok (.aload_n 0, 1) := by decide +kernel
theorem dX10_init_602 : decode cX10_init 602 = .ok (.bipush 6, 2) := by decide +kernel
theorem dX10_init_604 : decode cX10_init 604 = .ok (.newarray .int, 2) := by decide +kernel
theorem dX10_init_606 : decode cX10_init 606 = .ok (.putfield 78, 3) := by decide +kernel
theorem dX10_init_609 : decode cX10_init 609 = .ok (.aload_n 0, 1) := by decide +kernel
theorem dX10_init_610 : decode cX10_init 610 = .ok (.bipush 61, 2) := by decide +kernel
theorem dX10_init_612 : decode cX10_init 612 = .ok (.newarray .int, 2) := by decide +kernel
theorem dX10_init_614 : decode cX10_init 614 = .ok (.putfield 81, 3) := by decide +kernel
theorem dX10_init_617 : decode cX10_init 617 = .ok (.aload_n 0, 1) := by decide +kernel
theorem dX10_init_618 : decode cX10_init 618 = .ok (.bipush 6, 2) := by decide +kernel
theorem dX10_init_620 : decode cX10_init 620 = .ok (.newarray .int, 2) := by decide +kernel
theorem dX10_init_622 : decode cX10_init 622 = .ok (.putfield 84, 3) := by decide +kernel
theorem dX10_init_625 : decode cX10_init 625 = .ok (.aload_n 0, 1) := by decide +kernel
theorem dX10_init_626 : decode cX10_init 626 = .ok (.sipush 1600, 3) := by decide +kernel
theorem dX10_init_629 : decode cX10_init 629 = .ok (.newarray .int, 2) := by decide +kernel
theorem dX10_init_631 : decode cX10_init 631 = .ok (.putfield 87, 3) := by decide +kernel
theorem dX10_init_634 : decode cX10_init 634 = .ok (.return_, 1) := by decide +kernel
theorem dX10_isIn_0 : decode cX10_isIn 0 = .ok (.iload_n 1, 1) := by decide +kernel
theorem dX10_isIn_1 : decode cX10_isIn 1 = .ok (.iload_n 2, 1) := by decide +kernel
theorem dX10_isIn_2 : decode cX10_isIn 2 = .ok (.if_icmp .lt 12, 3) := by decide +kernel
theorem dX10_isIn_5 : decode cX10_isIn 5 = .ok (.iload_n 1, 1) := by decide +kernel
theorem dX10_isIn_6 : decode cX10_isIn 6 = .ok (.iload_n 3, 1) := by decide +kernel
theorem dX10_isIn_7 : decode cX10_isIn 7 = .ok (.if_icmp .gt 7, 3) := by decide +kernel
theorem dX10_isIn_10 : decode cX10_isIn 10 = .ok (.iconst 1, 1) := by decide +kernel
theorem dX10_isIn_11 : decode cX10_isIn 11 = .ok (.goto 4, 3) := by decide +kernel
theorem dX10_isIn_14 : decode cX10_isIn 14 = .ok (.iconst 0, 1) := by decide +kernel
theorem dX10_isIn_15 : decode cX10_isIn 15 = .ok (.ireturn, 1) := by decide +kernel
theorem dX10_ones_0 : decode cX10_ones 0 = .ok (.iconst 0, 1) := by decide +kernel
theorem dX10_ones_1 : decode cX10_ones 1 = .ok (.istore_n 2, 1) := by decide +kernel
theorem dX10_ones_2 : decode cX10_ones 2 = .ok (.iload_n 1, 1) := by decide +kernel
theorem dX10_ones_3 : decode cX10_ones 3 = .ok (.istore_n 3, 1) := by decide +kernel
theorem dX10_ones_4 : decode cX10_ones 4 = .ok (.iload_n 3, 1) := by decide +kernel
theorem dX10_ones_5 : decode cX10_ones 5 = .ok (.ifCond .eq 16, 3) := by decide +kernel
theorem dX10_ones_8 : decode cX10_ones 8 = .ok (.iload_n 2, 1) := by decide +kernel
theorem dX10_ones_9 : decode cX10_ones 9 = .ok (.iconst 1, 1) := by decide +kernel
theorem dX10_ones_10 : decode cX10_ones 10 = .ok (.iadd, 1) := by decide +kernel
theorem dX10_ones_11 : decode cX10_ones 11 = .ok (.istore_n 2, 1) := by decide +kernel
theorem dX10_ones_12 : decode cX10_ones 12 = .ok (.iload_n 3, 1) := by decide +kernel
theorem dX10_ones_13 : decode cX10_ones 13 = .ok (.iload_n 3, 1) := by decide +kernel
theorem dX10_ones_14 : decode cX10_ones 14 = .ok (.iconst 1, 1) := by decide +kernel
theorem dX10_ones_15 : decode cX10_ones 15 = .ok (.isub, 1) := by decide +kernel
theorem dX10_ones_16 : decode cX10_ones 16 = .ok (.iand, 1) := by decide +kernel
theorem dX10_ones_17 : decode cX10_ones 17 = .ok (.istore_n 3, 1) := by decide +kernel
theorem dX10_ones_18 : decode cX10_ones 18 = .ok (.goto (-14), 3) := by decide +kernel
theorem dX10_ones_21 : decode cX10_ones 21 = .ok (.iload_n 2, 1) := by decide +kernel
theorem dX10_ones_22 : decode cX10_ones 22 = .ok (.ireturn, 1) := by decide +kernel
theorem dX10_without_0 : decode cX10_without 0 = .ok (.iload_n 1, 1) := by decide +kernel
theorem dX10_without_1 : decode cX10_without 1 = .ok (.ifCond .ge 8, 3) := by decide +kernel
theorem dX10_without_4 : decode cX10_without 4 = .ok (.iload_n 1, 1) := by decide +kernel
theorem dX10_without_5 : decode cX10_without 5 = .ok (.ineg, 1) := by decide +kernel
theorem dX10_without_6 : decode cX10_without 6 = .ok (.goto 4, 3) := by decide +kernel
theorem dX10_without_9 : decode cX10_without 9 = .ok (.iload_n 1, 1) := by decide +kernel
theorem dX10_without_10 : decode cX10_without 10 = .ok (.ireturn, 1) := by decide +kernel
theorem dX10_keepsAhead_0 : decode cX10_keepsAhead 0 = .ok (.aload_n 0, 1) := by decide +kernel
theorem dX10_keepsAhead_1 : decode cX10_keepsAhead 1 = .ok (.getfield 93, 3) := by decide +kernel
theorem dX10_keepsAhead_4 : decode cX10_keepsAhead 4 = .ok (.bipush 8, 2) := by decide +kernel
theorem dX10_keepsAhead_6 : decode cX10_keepsAhead 6 = .ok (.if_icmp .ne 47, 3) := by decide +kernel
theorem dX10_keepsAhead_9 : decode cX10_keepsAhead 9 = .ok (.aload_n 0, 1) := by decide +kernel
theorem dX10_keepsAhead_10 : decode cX10_keepsAhead 10 = .ok (.aload_n 0, 1) := by decide +kernel
theorem dX10_keepsAhead_11 : decode cX10_keepsAhead 11 = .ok (.getfield 93, 3) := by decide +kernel
theorem dX10_keepsAhead_14 : decode cX10_keepsAhead 14 = .ok (.iconst 1, 1) := by decide +kernel
theorem dX10_keepsAhead_15 : decode cX10_keepsAhead 15 = .ok (.isub, 1) := by decide +kernel
theorem dX10_keepsAhead_16 : decode cX10_keepsAhead 16 = .ok (.putfield 93, 3) := by decide +kernel
theorem dX10_keepsAhead_19 : decode cX10_keepsAhead 19 = .ok (.iconst 0, 1) := by decide +kernel
theorem dX10_keepsAhead_20 : decode cX10_keepsAhead 20 = .ok (.istore_n 1, 1) := by decide +kernel
theorem dX10_keepsAhead_21 : decode cX10_keepsAhead 21 = .ok (.iload_n 1, 1) := by decide +kernel
theorem dX10_keepsAhead_22 : decode cX10_keepsAhead 22 = .ok (.bipush 13, 2) := by decide +kernel
theorem dX10_keepsAhead_24 : decode cX10_keepsAhead 24 = .ok (.aload_n 0, 1) := by decide +kernel
theorem dX10_keepsAhead_25 : decode cX10_keepsAhead 25 = .ok (.getfield 93, 3) := by decide +kernel
theorem dX10_keepsAhead_28 : decode cX10_keepsAhead 28 = .ok (.imul, 1) := by decide +kernel
theorem dX10_keepsAhead_29 : decode cX10_keepsAhead 29 = .ok (.if_icmp .ge 24, 3) := by decide +kernel
theorem dX10_keepsAhead_32 : decode cX10_keepsAhead 32 = .ok (.aload_n 0, 1) := by decide +kernel
theorem dX10_keepsAhead_33 : decode cX10_keepsAhead 33 = .ok (.getfield 13, 3) := by decide +kernel
theorem dX10_keepsAhead_36 : decode cX10_keepsAhead 36 = .ok (.iload_n 1, 1) := by decide +kernel
theorem dX10_keepsAhead_37 : decode cX10_keepsAhead 37 = .ok (.aload_n 0, 1) := by decide +kernel
theorem dX10_keepsAhead_38 : decode cX10_keepsAhead 38 = .ok (.getfield 13, 3) := by decide +kernel
theorem dX10_keepsAhead_41 : decode cX10_keepsAhead 41 = .ok (.iload_n 1, 1) := by decide +kernel
theorem dX10_keepsAhead_42 : decode cX10_keepsAhead 42 = .ok (.bipush 13, 2) := by decide +kernel
theorem dX10_keepsAhead_44 : decode cX10_keepsAhead 44 = .ok (.iadd, 1) := by decide +kernel
theorem dX10_keepsAhead_45 : decode cX10_keepsAhead 45 = .ok (.iaload, 1) := by decide +kernel
theorem dX10_keepsAhead_46 : decode cX10_keepsAhead 46 = .ok (.iastore, 1) := by decide +kernel
theorem dX10_keepsAhead_47 : decode cX10_keepsAhead 47 = .ok (.iinc 1 1, 3) := by decide +kernel
theorem dX10_keepsAhead_50 : decode cX10_keepsAhead 50 = .ok (.goto (-29), 3) := by decide +kernel
theorem dX10_keepsAhead_53 : decode cX10_keepsAhead 53 = .ok (.iconst 0, 1) := by decide +kernel
theorem dX10_keepsAhead_54 : decode cX10_keepsAhead 54 = .ok (.istore_n 1, 1) := by decide +kernel
theorem dX10_keepsAhead_55 : decode cX10_keepsAhead 55 = .ok (.iload_n 1, 1) := by decide +kernel
theorem dX10_keepsAhead_56 : decode cX10_keepsAhead 56 = .ok (.bipush 13, 2) := by decide +kernel
theorem dX10_keepsAhead_58 : decode cX10_keepsAhead 58 = .ok (.if_icmp .ge 29, 3) := by decide +kernel
theorem dX10_keepsAhead_61 : decode cX10_keepsAhead 61 = .ok (.aload_n 0, 1) := by decide +kernel
theorem dX10_keepsAhead_62 : decode cX10_keepsAhead 62 = .ok (.getfield 13, 3) := by decide +kernel
theorem dX10_keepsAhead_65 : decode cX10_keepsAhead 65 = .ok (.bipush 13, 2) := by decide +kernel
theorem dX10_keepsAhead_67 : decode cX10_keepsAhead 67 = .ok (.aload_n 0, 1) := by decide +kernel
theorem dX10_keepsAhead_68 : decode cX10_keepsAhead 68 = .ok (.getfield 93, 3) := by decide +kernel
theorem dX10_keepsAhead_71 : decode cX10_keepsAhead 71 = .ok (.imul, 1) := by decide +kernel
theorem dX10_keepsAhead_72 : decode cX10_keepsAhead 72 = .ok (.iload_n 1, 1) := by decide +kernel
theorem dX10_keepsAhead_73 : decode cX10_keepsAhead 73 = .ok (.iadd, 1) := by decide +kernel
theorem dX10_keepsAhead_74 : decode cX10_keepsAhead 74 = .ok (.aload_n 0, 1) := by decide +kernel
theorem dX10_keepsAhead_75 : decode cX10_keepsAhead 75 = .ok (.getfield 7, 3) := by decide +kernel
theorem dX10_keepsAhead_78 : decode cX10_keepsAhead 78 = .ok (.iload_n 1, 1) := by decide +kernel
theorem dX10_keepsAhead_79 : decode cX10_keepsAhead 79 = .ok (.iaload, 1) := by decide +kernel
theorem dX10_keepsAhead_80 : decode cX10_keepsAhead 80 = .ok (.iastore, 1) := by decide +kernel
theorem dX10_keepsAhead_81 : decode cX10_keepsAhead 81 = .ok (.iinc 1 1, 3) := by decide +kernel
theorem dX10_keepsAhead_84 : decode cX10_keepsAhead 84 = .ok (.goto (-29), 3) := by decide +kernel
theorem dX10_keepsAhead_87 : decode cX10_keepsAhead 87 = .ok (.aload_n 0, 1) := by decide +kernel
theorem dX10_keepsAhead_88 : decode cX10_keepsAhead 88 = .ok (.aload_n 0, 1) := by decide +kernel
theorem dX10_keepsAhead_89 : decode cX10_keepsAhead 89 = .ok (.getfield 93, 3) := by decide +kernel
theorem dX10_keepsAhead_92 : decode cX10_keepsAhead 92 = .ok (.iconst 1, 1) := by decide +kernel
theorem dX10_keepsAhead_93 : decode cX10_keepsAhead 93 = .ok (.iadd, 1) := by decide +kernel
theorem dX10_keepsAhead_94 : decode cX10_keepsAhead 94 = .ok (.putfield 93, 3) := by decide +kernel
theorem dX10_keepsAhead_97 : decode cX10_keepsAhead 97 = .ok (.return_, 1) := by decide +kernel
theorem dX10_undo_0 : decode cX10_undo 0 = .ok (.aload_n 0, 1) := by decide +kernel
theorem dX10_undo_1 : decode cX10_undo 1 = .ok (.iconst 0, 1) := by decide +kernel
theorem dX10_undo_2 : decode cX10_undo 2 = .ok (.putfield 90, 3) := by decide +kernel
theorem dX10_undo_5 : decode cX10_undo 5 = .ok (.aload_n 0, 1) := by decide +kernel
theorem dX10_undo_6 : decode cX10_undo 6 = .ok (.getfield 93, 3) := by decide +kernel
theorem dX10_undo_9 : decode cX10_undo 9 = .ok (.ifCond .ne 5, 3) := by decide +kernel
theorem dX10_undo_12 : decode cX10_undo 12 = .ok (.iconst 0, 1) := by decide +kernel
theorem dX10_undo_13 : decode cX10_undo 13 = .ok (.ireturn, 1) := by decide +kernel
theorem dX10_undo_14 : decode cX10_undo 14 = .ok (.aload_n 0, 1) := by decide +kernel
theorem dX10_undo_15 : decode cX10_undo 15 = .ok (.aload_n 0, 1) := by decide +kernel
theorem dX10_undo_16 : decode cX10_undo 16 = .ok (.getfield 93, 3) := by decide +kernel
theorem dX10_undo_19 : decode cX10_undo 19 = .ok (.iconst 1, 1) := by decide +kernel
theorem dX10_undo_20 : decode cX10_undo 20 = .ok (.isub, 1) := by decide +kernel
theorem dX10_undo_21 : decode cX10_undo 21 = .ok (.putfield 93, 3) := by decide +kernel
theorem dX10_undo_24 : decode cX10_undo 24 = .ok (.iconst 0, 1) := by decide +kernel
theorem dX10_undo_25 : decode cX10_undo 25 = .ok (.istore_n 1, 1) := by decide +kernel
theorem dX10_undo_26 : decode cX10_undo 26 = .ok (.iload_n 1, 1) := by decide +kernel
theorem dX10_undo_27 : decode cX10_undo 27 = .ok (.bipush 13, 2) := by decide +kernel
theorem dX10_undo_29 : decode cX10_undo 29 = .ok (.if_icmp .ge 29, 3) := by decide +kernel
theorem dX10_undo_32 : decode cX10_undo 32 = .ok (.aload_n 0, 1) := by decide +kernel
theorem dX10_undo_33 : decode cX10_undo 33 = .ok (.getfield 7, 3) := by decide +kernel
theorem dX10_undo_36 : decode cX10_undo 36 = .ok (.iload_n 1, 1) := by decide +kernel
theorem dX10_undo_37 : decode cX10_undo 37 = .ok (.aload_n 0, 1) := by decide +kernel
theorem dX10_undo_38 : decode cX10_undo 38 = .ok (.getfield 13, 3) := by decide +kernel
theorem dX10_undo_41 : decode cX10_undo 41 = .ok (.bipush 13, 2) := by decide +kernel
theorem dX10_undo_43 : decode cX10_undo 43 = .ok (.aload_n 0, 1) := by decide +kernel
theorem dX10_undo_44 : decode cX10_undo 44 = .ok (.getfield 93, 3) := by decide +kernel
theorem dX10_undo_47 : decode cX10_undo 47 = .ok (.imul, 1) := by decide +kernel
theorem dX10_undo_48 : decode cX10_undo 48 = .ok (.iload_n 1, 1) := by decide +kernel
theorem dX10_undo_49 : decode cX10_undo 49 = .ok (.iadd, 1) := by decide +kernel
theorem dX10_undo_50 : decode cX10_undo 50 = .ok (.iaload, 1) := by decide +kernel
theorem dX10_undo_51 : decode cX10_undo 51 = .ok (.iastore, 1) := by decide +kernel
theorem dX10_undo_52 : decode cX10_undo 52 = .ok (.iinc 1 1, 3) := by decide +kernel
theorem dX10_undo_55 : decode cX10_undo 55 = .ok (.goto (-29), 3) := by decide +kernel
theorem dX10_undo_58 : decode cX10_undo 58 = .ok (.iconst 1, 1) := by decide +kernel
theorem dX10_undo_59 : decode cX10_undo 59 = .ok (.ireturn, 1) := by decide +kernel
theorem dX10_state_0 : decode cX10_state 0 = .ok (.aload_n 0, 1) := by decide +kernel
theorem dX10_state_1 : decode cX10_state 1 = .ok (.iconst 0, 1) := by decide +kernel
theorem dX10_state_2 : decode cX10_state 2 = .ok (.putfield 90, 3) := by decide +kernel
theorem dX10_state_5 : decode cX10_state 5 = .ok (.aload_n 0, 1) := by decide +kernel
theorem dX10_state_6 : decode cX10_state 6 = .ok (.getfield 7, 3) := by decide +kernel
theorem dX10_state_9 : decode cX10_state 9 = .ok (.bipush 12, 2) := by decide +kernel
theorem dX10_state_11 : decode cX10_state 11 = .ok (.iaload, 1) := by decide +kernel
theorem dX10_state_12 : decode cX10_state 12 = .ok (.istore_n 2, 1) := by decide +kernel
theorem dX10_state_13 : decode cX10_state 13 = .ok (.aload_n 0, 1) := by decide +kernel
theorem dX10_state_14 : decode cX10_state 14 = .ok (.getfield 7, 3) := by decide +kernel
theorem dX10_state_17 : decode cX10_state 17 = .ok (.bipush 12, 2) := by decide +kernel
theorem dX10_state_19 : decode cX10_state 19 = .ok (.iload_n 1, 1) := by decide +kernel
theorem dX10_state_20 : decode cX10_state 20 = .ok (.iastore, 1) := by decide +kernel
theorem dX10_state_21 : decode cX10_state 21 = .ok (.aload_n 0, 1) := by decide +kernel
theorem dX10_state_22 : decode cX10_state 22 = .ok (.iconst 0, 1) := by decide +kernel
theorem dX10_state_23 : decode cX10_state 23 = .ok (.putfield 93, 3) := by decide +kernel
theorem dX10_state_26 : decode cX10_state 26 = .ok (.iload_n 2, 1) := by decide +kernel
theorem dX10_state_27 : decode cX10_state 27 = .ok (.ireturn, 1) := by decide +kernel
theorem dX10_draw_0 : decode cX10_draw 0 = .ok (.aload_n 0, 1) := by decide +kernel
theorem dX10_draw_1 : decode cX10_draw 1 = .ok (.getfield 7, 3) := by decide +kernel
theorem dX10_draw_4 : decode cX10_draw 4 = .ok (.bipush 12, 2) := by decide +kernel
theorem dX10_draw_6 : decode cX10_draw 6 = .ok (.ldc 96, 2) := by decide +kernel
theorem dX10_draw_8 : decode cX10_draw 8 = .ok (.aload_n 0, 1) := by decide +kernel
theorem dX10_draw_9 : decode cX10_draw 9 = .ok (.getfield 7, 3) := by decide +kernel
theorem dX10_draw_12 : decode cX10_draw 12 = .ok (.bipush 12, 2) := by decide +kernel
theorem dX10_draw_14 : decode cX10_draw 14 = .ok (.iaload, 1) := by decide +kernel
theorem dX10_draw_15 : decode cX10_draw 15 = .ok (.imul, 1) := by decide +kernel
theorem dX10_draw_16 : decode cX10_draw 16 = .ok (.ldc 97, 2) := by decide +kernel
theorem dX10_draw_18 : decode cX10_draw 18 = .ok (.iadd, 1) := by decide +kernel
theorem dX10_draw_19 : decode cX10_draw 19 = .ok (.iastore, 1) := by decide +kernel
theorem dX10_draw_20 : decode cX10_draw 20 = .ok (.aload_n 0, 1) := by decide +kernel
theorem dX10_draw_21 : decode cX10_draw 21 = .ok (.getfield 7, 3) := by decide +kernel
theorem dX10_draw_24 : decode cX10_draw 24 = .ok (.bipush 12, 2) := by decide +kernel
theorem dX10_draw_26 : decode cX10_draw 26 = .ok (.iaload, 1) := by decide +kernel
theorem dX10_draw_27 : decode cX10_draw 27 = .ok (.bipush 8, 2) := by decide +kernel
theorem dX10_draw_29 : decode cX10_draw 29 = .ok (.iushr, 1) := by decide +kernel
theorem dX10_draw_30 : decode cX10_draw 30 = .ok (.iload_n 1, 1) := by decide +kernel
theorem dX10_draw_31 : decode cX10_draw 31 = .ok (.irem, 1) := by decide +kernel
theorem dX10_draw_32 : decode cX10_draw 32 = .ok (.ireturn, 1) := by decide +kernel
theorem dX10_isPerson_0 : decode cX10_isPerson 0 = .ok (.iload_n 1, 1) := by decide +kernel
theorem dX10_isPerson_1 : decode cX10_isPerson 1 = .ok (.ifCond .lt 15, 3) := by decide +kernel
theorem dX10_isPerson_4 : decode cX10_isPerson 4 = .ok (.iload_n 1, 1) := by decide +kernel
theorem dX10_isPerson_5 : decode cX10_isPerson 5 = .ok (.aload_n 0, 1) := by decide +kernel
theorem dX10_isPerson_6 : decode cX10_isPerson 6 = .ok (.getfield 98, 3) := by decide +kernel
theorem dX10_isPerson_9 : decode cX10_isPerson 9 = .ok (.if_icmp .ge 7, 3) := by decide +kernel
theorem dX10_isPerson_12 : decode cX10_isPerson 12 = .ok (.iconst 1, 1) := by decide +kernel
theorem dX10_isPerson_13 : decode cX10_isPerson 13 = .ok (.goto 4, 3) := by decide +kernel
theorem dX10_isPerson_16 : decode cX10_isPerson 16 = .ok (.iconst 0, 1) := by decide +kernel
theorem dX10_isPerson_17 : decode cX10_isPerson 17 = .ok (.ireturn, 1) := by decide +kernel
theorem dX10_humOf_0 : decode cX10_humOf 0 = .ok (.aload_n 0, 1) := by decide +kernel
theorem dX10_humOf_1 : decode cX10_humOf 1 = .ok (.getfield 7, 3) := by decide +kernel
theorem dX10_humOf_4 : decode cX10_humOf 4 = .ok (.iconst 0, 1) := by decide +kernel
theorem dX10_humOf_5 : decode cX10_humOf 5 = .ok (.iload_n 1, 1) := by decide +kernel
theorem dX10_humOf_6 : decode cX10_humOf 6 = .ok (.iadd, 1) := by decide +kernel
theorem dX10_humOf_7 : decode cX10_humOf 7 = .ok (.iaload, 1) := by decide +kernel
theorem dX10_humOf_8 : decode cX10_humOf 8 = .ok (.iconst 1, 1) := by decide +kernel
theorem dX10_humOf_9 : decode cX10_humOf 9 = .ok (.isub, 1) := by decide +kernel
theorem dX10_humOf_10 : decode cX10_humOf 10 = .ok (.ireturn, 1) := by decide +kernel
theorem dX10_person_0 : decode cX10_person 0 = .ok (.aload_n 0, 1) := by decide +kernel
theorem dX10_person_1 : decode cX10_person 1 = .ok (.iconst 0, 1) := by decide +kernel
theorem dX10_person_2 : decode cX10_person 2 = .ok (.putfield 90, 3) := by decide +kernel
theorem dX10_person_5 : decode cX10_person 5 = .ok (.aload_n 0, 1) := by decide +kernel
theorem dX10_person_6 : decode cX10_person 6 = .ok (.iload_n 1, 1) := by decide +kernel
theorem dX10_person_7 : decode cX10_person 7 = .ok (.iconst (-1), 1) := by decide +kernel
theorem dX10_person_8 : decode cX10_person 8 = .ok (.bipush 60, 2) := by decide +kernel
theorem dX10_person_10 : decode cX10_person 10 = .ok (.invokevirtual 101, 3) := by decide +kernel
theorem dX10_person_13 : decode cX10_person 13 = .ok (.ifCond .eq 12, 3) := by decide +kernel
theorem dX10_person_16 : decode cX10_person 16 = .ok (.aload_n 0, 1) := by decide +kernel
theorem dX10_person_17 : decode cX10_person 17 = .ok (.getfield 98, 3) := by decide +kernel
theorem dX10_person_20 : decode cX10_person 20 = .ok (.bipush 10, 2) := by decide +kernel
theorem dX10_person_22 : decode cX10_person 22 = .ok (.if_icmp .ne 5, 3) := by decide +kernel
theorem dX10_person_25 : decode cX10_person 25 = .ok (.iconst (-1), 1) := by decide +kernel
theorem dX10_person_26 : decode cX10_person 26 = .ok (.ireturn, 1) := by decide +kernel
theorem dX10_person_27 : decode cX10_person 27 = .ok (.aload_n 0, 1) := by decide +kernel
theorem dX10_person_28 : decode cX10_person 28 = .ok (.getfield 7, 3) := by decide +kernel
theorem dX10_person_31 : decode cX10_person 31 = .ok (.iconst 0, 1) := by decide +kernel
theorem dX10_person_32 : decode cX10_person 32 = .ok (.aload_n 0, 1) := by decide +kernel
theorem dX10_person_33 : decode cX10_person 33 = .ok (.getfield 98, 3) := by decide +kernel
theorem dX10_person_36 : decode cX10_person 36 = .ok (.iadd, 1) := by decide +kernel
theorem dX10_person_37 : decode cX10_person 37 = .ok (.iload_n 1, 1) := by decide +kernel
theorem dX10_person_38 : decode cX10_person 38 = .ok (.iconst 1, 1) := by decide +kernel
theorem dX10_person_39 : decode cX10_person 39 = .ok (.iadd, 1) := by decide +kernel
theorem dX10_person_40 : decode cX10_person 40 = .ok (.iastore, 1) := by decide +kernel
theorem dX10_person_41 : decode cX10_person 41 = .ok (.aload_n 0, 1) := by decide +kernel
theorem dX10_person_42 : decode cX10_person 42 = .ok (.getfield 16, 3) := by decide +kernel
theorem dX10_person_45 : decode cX10_person 45 = .ok (.aload_n 0, 1) := by decide +kernel
theorem dX10_person_46 : decode cX10_person 46 = .ok (.getfield 98, 3) := by decide +kernel
theorem dX10_person_49 : decode cX10_person 49 = .ok (.iconst 0, 1) := by decide +kernel
theorem dX10_person_50 : decode cX10_person 50 = .ok (.iastore, 1) := by decide +kernel
theorem dX10_person_51 : decode cX10_person 51 = .ok (.aload_n 0, 1) := by decide +kernel
theorem dX10_person_52 : decode cX10_person 52 = .ok (.aload_n 0, 1) := by decide +kernel
theorem dX10_person_53 : decode cX10_person 53 = .ok (.getfield 98, 3) := by decide +kernel
theorem dX10_person_56 : decode cX10_person 56 = .ok (.iconst 1, 1) := by decide +kernel
theorem dX10_person_57 : decode cX10_person 57 = .ok (.iadd, 1) := by decide +kernel
theorem dX10_person_58 : decode cX10_person 58 = .ok (.putfield 98, 3) := by decide +kernel
theorem dX10_person_61 : decode cX10_person 61 = .ok (.aload_n 0, 1) := by decide +kernel
theorem dX10_person_62 : decode cX10_person 62 = .ok (.iconst 0, 1) := by decide +kernel
theorem dX10_person_63 : decode cX10_person 63 = .ok (.putfield 93, 3) := by decide +kernel
theorem dX10_person_66 : decode cX10_person 66 = .ok (.aload_n 0, 1) := by decide +kernel
theorem dX10_person_67 : decode cX10_person 67 = .ok (.getfield 98, 3) := by decide +kernel
theorem dX10_person_70 : decode cX10_person 70 = .ok (.iconst 1, 1) := by decide +kernel
theorem dX10_person_71 : decode cX10_person 71 = .ok (.isub, 1) := by decide +kernel
theorem dX10_person_72 : decode cX10_person 72 = .ok (.ireturn, 1) := by decide +kernel
theorem dX10_canSet_0 : decode cX10_canSet 0 = .ok (.iload_n 1, 1) := by decide +kernel
theorem dX10_canSet_1 : decode cX10_canSet 1 = .ok (.iconst 3, 1) := by decide +kernel
theorem dX10_canSet_2 : decode cX10_canSet 2 = .ok (.if_icmp .ne 13, 3) := by decide +kernel
theorem dX10_canSet_5 : decode cX10_canSet 5 = .ok (.aload_n 0, 1) := by decide +kernel
theorem dX10_canSet_6 : decode cX10_canSet 6 = .ok (.iload_n 3, 1) := by decide +kernel
theorem dX10_canSet_7 : decode cX10_canSet 7 = .ok (.iconst 0, 1) := by decide +kernel
theorem dX10_canSet_8 : decode cX10_canSet 8 = .ok (.sipush 1000, 3) := by decide +kernel
theorem dX10_canSet_11 : decode cX10_canSet 11 = .ok (.invokevirtual 101, 3) := by decide +kernel
theorem dX10_canSet_14 : decode cX10_canSet 14 = .ok (.ireturn, 1) := by decide +kernel
theorem dX10_canSet_15 : decode cX10_canSet 15 = .ok (.aload_n 0, 1) := by decide +kernel
theorem dX10_canSet_16 : decode cX10_canSet 16 = .ok (.iload_n 2, 1) := by decide +kernel
theorem dX10_canSet_17 : decode cX10_canSet 17 = .ok (.invokevirtual 105, 3) := by decide +kernel
theorem dX10_canSet_20 : decode cX10_canSet 20 = .ok (.ifCond .ne 5, 3) := by decide +kernel
theorem dX10_canSet_23 : decode cX10_canSet 23 = .ok (.iconst 0, 1) := by decide +kernel
theorem dX10_canSet_24 : decode cX10_canSet 24 = .ok (.ireturn, 1) := by decide +kernel
theorem dX10_canSet_25 : decode cX10_canSet 25 = .ok (.iload_n 1, 1) := by decide +kernel
theorem dX10_canSet_26 : decode cX10_canSet 26 = .ok (.ifCond .ne 12, 3) := by decide +kernel
theorem dX10_canSet_29 : decode cX10_canSet 29 = .ok (.aload_n 0, 1) := by decide +kernel
theorem dX10_canSet_30 : decode cX10_canSet 30 = .ok (.iload_n 3, 1) := by decide +kernel
theorem dX10_canSet_31 : decode cX10_canSet 31 = .ok (.iconst (-1), 1) := by decide +kernel
theorem dX10_canSet_32 : decode cX10_canSet 32 = .ok (.bipush 60, 2) := by decide +kernel
theorem dX10_canSet_34 : decode cX10_canSet 34 = .ok (.invokevirtual 101, 3) := by decide +kernel
theorem dX10_canSet_37 : decode cX10_canSet 37 = .ok (.ireturn, 1) := by decide +kernel
theorem dX10_canSet_38 : decode cX10_canSet 38 = .ok (.iload_n 1, 1) := by decide +kernel
theorem dX10_canSet_39 : decode cX10_canSet 39 = .ok (.iconst 1, 1) := by decide +kernel
theorem dX10_canSet_40 : decode cX10_canSet 40 = .ok (.if_icmp .ne 34, 3) := by decide +kernel
theorem dX10_canSet_43 : decode cX10_canSet 43 = .ok (.aload_n 0, 1) := by decide +kernel
theorem dX10_canSet_44 : decode cX10_canSet 44 = .ok (.iload_n 3, 1) := by decide +kernel
theorem dX10_canSet_45 : decode cX10_canSet 45 = .ok (.iconst 0, 1) := by decide +kernel
theorem dX10_canSet_46 : decode cX10_canSet 46 = .ok (.iconst 1, 1) := by decide +kernel
theorem dX10_canSet_47 : decode cX10_canSet 47 = .ok (.invokevirtual 101, 3) := by decide +kernel
theorem dX10_canSet_50 : decode cX10_canSet 50 = .ok (.ifCond .eq 20, 3) := by decide +kernel
theorem dX10_canSet_53 : decode cX10_canSet 53 = .ok (.iload_n 3, 1) := by decide +kernel
theorem dX10_canSet_54 : decode cX10_canSet 54 = .ok (.ifCond .eq 12, 3) := by decide +kernel
theorem dX10_canSet_57 : decode cX10_canSet 57 = .ok (.aload_n 0, 1) := by decide +kernel
theorem dX10_canSet_58 : decode cX10_canSet 58 = .ok (.iload_n 2, 1) := by decide +kernel
theorem dX10_canSet_59 : decode cX10_canSet 59 = .ok (.invokevirtual 109, 3) := by decide +kernel
theorem dX10_canSet_62 : decode cX10_canSet 62 = .ok (.iconst (-1), 1) := by decide +kernel
theorem dX10_canSet_63 : decode cX10_canSet 63 = .ok (.if_icmp .eq 7, 3) := by decide +kernel
theorem dX10_canSet_66 : decode cX10_canSet 66 = .ok (.iconst 1, 1) := by decide +kernel
theorem dX10_canSet_67 : decode cX10_canSet 67 = .ok (.goto 28, 3) := by decide +kernel
theorem dX10_canSet_70 : decode cX10_canSet 70 = .ok (.iconst 0, 1) := by decide +kernel
theorem dX10_canSet_71 : decode cX10_canSet 71 = .ok (.goto 24, 3) := by decide +kernel
theorem dX10_canSet_74 : decode cX10_canSet 74 = .ok (.iload_n 1, 1) := by decide +kernel
theorem dX10_canSet_75 : decode cX10_canSet 75 = .ok (.iconst 2, 1) := by decide +kernel
theorem dX10_canSet_76 : decode cX10_canSet 76 = .ok (.if_icmp .ne 18, 3) := by decide +kernel
theorem dX10_canSet_79 : decode cX10_canSet 79 = .ok (.aload_n 0, 1) := by decide +kernel
theorem dX10_canSet_80 : decode cX10_canSet 80 = .ok (.iload_n 3, 1) := by decide +kernel
theorem dX10_canSet_81 : decode cX10_canSet 81 = .ok (.iconst 0, 1) := by decide +kernel
theorem dX10_canSet_82 : decode cX10_canSet 82 = .ok (.bipush 9, 2) := by decide +kernel
theorem dX10_canSet_84 : decode cX10_canSet 84 = .ok (.invokevirtual 101, 3) := by decide +kernel
theorem dX10_canSet_87 : decode cX10_canSet 87 = .ok (.ifCond .eq 7, 3) := by decide +kernel
theorem dX10_canSet_90 : decode cX10_canSet 90 = .ok (.iconst 1, 1) := by decide +kernel
theorem dX10_canSet_91 : decode cX10_canSet 91 = .ok (.goto 4, 3) := by decide +kernel
theorem dX10_canSet_94 : decode cX10_canSet 94 = .ok (.iconst 0, 1) := by decide +kernel
theorem dX10_canSet_95 : decode cX10_canSet 95 = .ok (.ireturn, 1) := by decide +kernel
theorem dX10_set_0 : decode cX10_set 0 = .ok (.aload_n 0, 1) := by decide +kernel
theorem dX10_set_1 : decode cX10_set 1 = .ok (.iconst 0, 1) := by decide +kernel
theorem dX10_set_2 : decode cX10_set 2 = .ok (.putfield 90, 3) := by decide +kernel
theorem dX10_set_5 : decode cX10_set 5 = .ok (.aload_n 0, 1) := by decide +kernel
theorem dX10_set_6 : decode cX10_set 6 = .ok (.iload_n 1, 1) := by decide +kernel
theorem dX10_set_7 : decode cX10_set 7 = .ok (.iload_n 2, 1) := by decide +kernel
theorem dX10_set_8 : decode cX10_set 8 = .ok (.iload_n 3, 1) := by decide +kernel
theorem dX10_set_9 : decode cX10_set 9 = .ok (.invokevirtual 113, 3) := by decide +kernel
theorem dX10_set_12 : decode cX10_set 12 = .ok (.ifCond .ne 5, 3) := by decide +kernel
theorem dX10_set_15 : decode cX10_set 15 = .ok (.iconst 0, 1) := by decide +kernel
theorem dX10_set_16 : decode cX10_set 16 = .ok (.ireturn, 1) := by decide +kernel
theorem dX10_set_17 : decode cX10_set 17 = .ok (.iload_n 1, 1) := by decide +kernel
theorem dX10_set_18 : decode cX10_set 18 = .ok (.ifCond .ne 14, 3) := by decide +kernel
theorem dX10_set_21 : decode cX10_set 21 = .ok (.aload_n 0, 1) := by decide +kernel
theorem dX10_set_22 : decode cX10_set 22 = .ok (.getfield 7, 3) := by decide +kernel
theorem dX10_set_25 : decode cX10_set 25 = .ok (.iconst 0, 1) := by decide +kernel
theorem dX10_set_26 : decode cX10_set 26 = .ok (.iload_n 2, 1) := by decide +kernel
theorem dX10_set_27 : decode cX10_set 27 = .ok (.iadd, 1) := by decide +kernel
theorem dX10_set_28 : decode cX10_set 28 = .ok (.iload_n 3, 1) := by decide +kernel
theorem dX10_set_29 : decode cX10_set 29 = .ok (.iconst 1, 1) := by decide +kernel
theorem dX10_set_30 : decode cX10_set 30 = .ok (.iadd, 1) := by decide +kernel
theorem dX10_set_31 : decode cX10_set 31 = .ok (.iastore, 1) := by decide +kernel
theorem dX10_set_32 : decode cX10_set 32 = .ok (.iload_n 1, 1) := by decide +kernel
theorem dX10_set_33 : decode cX10_set 33 = .ok (.iconst 1, 1) := by decide +kernel
theorem dX10_set_34 : decode cX10_set 34 = .ok (.if_icmp .ne 21, 3) := by decide +kernel
theorem dX10_set_37 : decode cX10_set 37 = .ok (.aload_n 0, 1) := by decide +kernel
theorem dX10_set_38 : decode cX10_set 38 = .ok (.aload_n 0, 1) := by decide +kernel
theorem dX10_set_39 : decode cX10_set 39 = .ok (.getfield 116, 3) := by decide +kernel
theorem dX10_set_42 : decode cX10_set 42 = .ok (.iconst 1, 1) := by decide +kernel
theorem dX10_set_43 : decode cX10_set 43 = .ok (.iload_n 2, 1) := by decide +kernel
theorem dX10_set_44 : decode cX10_set 44 = .ok (.ishl, 1) := by decide +kernel
theorem dX10_set_45 : decode cX10_set 45 = .ok (.iconst (-1), 1) := by decide +kernel
theorem dX10_set_46 : decode cX10_set 46 = .ok (.ixor, 1) := by decide +kernel
theorem dX10_set_47 : decode cX10_set 47 = .ok (.iand, 1) := by decide +kernel
theorem dX10_set_48 : decode cX10_set 48 = .ok (.iload_n 3, 1) := by decide +kernel
theorem dX10_set_49 : decode cX10_set 49 = .ok (.iload_n 2, 1) := by decide +kernel
theorem dX10_set_50 : decode cX10_set 50 = .ok (.ishl, 1) := by decide +kernel
theorem dX10_set_51 : decode cX10_set 51 = .ok (.ior, 1) := by decide +kernel
theorem dX10_set_52 : decode cX10_set 52 = .ok (.putfield 116, 3) := by decide +kernel
theorem dX10_set_55 : decode cX10_set 55 = .ok (.iload_n 1, 1) := by decide +kernel
theorem dX10_set_56 : decode cX10_set 56 = .ok (.ifCond .ne 22, 3) := by decide +kernel
theorem dX10_set_59 : decode cX10_set 59 = .ok (.iload_n 3, 1) := by decide +kernel
theorem dX10_set_60 : decode cX10_set 60 = .ok (.iconst (-1), 1) := by decide +kernel
theorem dX10_set_61 : decode cX10_set 61 = .ok (.if_icmp .ne 17, 3) := by decide +kernel
theorem dX10_set_64 : decode cX10_set 64 = .ok (.aload_n 0, 1) := by decide +kernel
theorem dX10_set_65 : decode cX10_set 65 = .ok (.aload_n 0, 1) := by decide +kernel
theorem dX10_set_66 : decode cX10_set 66 = .ok (.getfield 116, 3) := by decide +kernel
theorem dX10_set_69 : decode cX10_set 69 = .ok (.iconst 1, 1) := by decide +kernel
theorem dX10_set_70 : decode cX10_set 70 = .ok (.iload_n 2, 1) := by decide +kernel
theorem dX10_set_71 : decode cX10_set 71 = .ok (.ishl, 1) := by decide +kernel
theorem dX10_set_72 : decode cX10_set 72 = .ok (.iconst (-1), 1) := by decide +kernel
theorem dX10_set_73 : decode cX10_set 73 = .ok (.ixor, 1) := by decide +kernel
theorem dX10_set_74 : decode cX10_set 74 = .ok (.iand, 1) := by decide +kernel
theorem dX10_set_75 : decode cX10_set 75 = .ok (.putfield 116, 3) := by decide +kernel
theorem dX10_set_78 : decode cX10_set 78 = .ok (.iload_n 1, 1) := by decide +kernel
theorem dX10_set_79 : decode cX10_set 79 = .ok (.iconst 2, 1) := by decide +kernel
theorem dX10_set_80 : decode cX10_set 80 = .ok (.if_icmp .ne 12, 3) := by decide +kernel
theorem dX10_set_83 : decode cX10_set 83 = .ok (.aload_n 0, 1) := by decide +kernel
theorem dX10_set_84 : decode cX10_set 84 = .ok (.getfield 16, 3) := by decide +kernel
theorem dX10_set_87 : decode cX10_set 87 = .ok (.iload_n 2, 1) := by decide +kernel
theorem dX10_set_88 : decode cX10_set 88 = .ok (.iload_n 3, 1) := by decide +kernel
theorem dX10_set_89 : decode cX10_set 89 = .ok (.iconst 5, 1) := by decide +kernel
theorem dX10_set_90 : decode cX10_set 90 = .ok (.isub, 1) := by decide +kernel
theorem dX10_set_91 : decode cX10_set 91 = .ok (.iastore, 1) := by decide +kernel
theorem dX10_set_92 : decode cX10_set 92 = .ok (.iload_n 1, 1) := by decide +kernel
theorem dX10_set_93 : decode cX10_set 93 = .ok (.iconst 3, 1) := by decide +kernel
theorem dX10_set_94 : decode cX10_set 94 = .ok (.if_icmp .ne 8, 3) := by decide +kernel
theorem dX10_set_97 : decode cX10_set 97 = .ok (.aload_n 0, 1) := by decide +kernel
theorem dX10_set_98 : decode cX10_set 98 = .ok (.iload_n 3, 1) := by decide +kernel
theorem dX10_set_99 : decode cX10_set 99 = .ok (.putfield 119, 3) := by decide +kernel
theorem dX10_set_102 : decode cX10_set 102 = .ok (.aload_n 0, 1) := by decide +kernel
theorem dX10_set_103 : decode cX10_set 103 = .ok (.iconst 0, 1) := by decide +kernel
theorem dX10_set_104 : decode cX10_set 104 = .ok (.putfield 93, 3) := by decide +kernel
theorem dX10_set_107 : decode cX10_set 107 = .ok (.iconst 1, 1) := by decide +kernel
theorem dX10_set_108 : decode cX10_set 108 = .ok (.ireturn, 1) := by decide +kernel
theorem dX10_types_0 : decode cX10_types 0 = .ok (.bipush 24, 2) := by decide +kernel
theorem dX10_types_2 : decode cX10_types 2 = .ok (.istore_n 2, 1) := by decide +kernel
theorem dX10_types_3 : decode cX10_types 3 = .ok (.iload_n 2, 1) := by decide +kernel
theorem dX10_types_4 : decode cX10_types 4 = .ok (.ifCond .lt 35, 3) := by decide +kernel
theorem dX10_types_7 : decode cX10_types 7 = .ok (.aload_n 0, 1) := by decide +kernel
theorem dX10_types_8 : decode cX10_types 8 = .ok (.getfield 22, 3) := by decide +kernel
theorem dX10_types_11 : decode cX10_types 11 = .ok (.aload_n 0, 1) := by decide +kernel
theorem dX10_types_12 : decode cX10_types 12 = .ok (.getfield 122, 3) := by decide +kernel
theorem dX10_types_15 : decode cX10_types 15 = .ok (.iload_n 1, 1) := by decide +kernel
theorem dX10_types_16 : decode cX10_types 16 = .ok (.iload_n 2, 1) := by decide +kernel
theorem dX10_types_17 : decode cX10_types 17 = .ok (.ishr, 1) := by decide +kernel
theorem dX10_types_18 : decode cX10_types 18 = .ok (.sipush 255, 3) := by decide +kernel
theorem dX10_types_21 : decode cX10_types 21 = .ok (.iand, 1) := by decide +kernel
theorem dX10_types_22 : decode cX10_types 22 = .ok (.iastore, 1) := by decide +kernel
theorem dX10_types_23 : decode cX10_types 23 = .ok (.aload_n 0, 1) := by decide +kernel
theorem dX10_types_24 : decode cX10_types 24 = .ok (.aload_n 0, 1) := by decide +kernel
theorem dX10_types_25 : decode cX10_types 25 = .ok (.getfield 122, 3) := by decide +kernel
theorem dX10_types_28 : decode cX10_types 28 = .ok (.iconst 1, 1) := by decide +kernel
theorem dX10_types_29 : decode cX10_types 29 = .ok (.iadd, 1) := by decide +kernel
theorem dX10_types_30 : decode cX10_types 30 = .ok (.putfield 122, 3) := by decide +kernel
theorem dX10_types_33 : decode cX10_types 33 = .ok (.iinc 2 (-8), 3) := by decide +kernel
theorem dX10_types_36 : decode cX10_types 36 = .ok (.goto (-33), 3) := by decide +kernel
theorem dX10_types_39 : decode cX10_types 39 = .ok (.return_, 1) := by decide +kernel
theorem dX10_feed_0 : decode cX10_feed 0 = .ok (.aload_n 0, 1) := by decide +kernel
theorem dX10_feed_1 : decode cX10_feed 1 = .ok (.iconst 0, 1) := by decide +kernel
theorem dX10_feed_2 : decode cX10_feed 2 = .ok (.putfield 90, 3) := by decide +kernel
theorem dX10_feed_5 : decode cX10_feed 5 = .ok (.aload_n 0, 1) := by decide +kernel
theorem dX10_feed_6 : decode cX10_feed 6 = .ok (.getfield 122, 3) := by decide +kernel
theorem dX10_feed_9 : decode cX10_feed 9 = .ok (.sipush 380, 3) := by decide +kernel
theorem dX10_feed_12 : decode cX10_feed 12 = .ok (.if_icmp .le 5, 3) := by decide +kernel
theorem dX10_feed_15 : decode cX10_feed 15 = .ok (.iconst (-1), 1) := by decide +kernel
theorem dX10_feed_16 : decode cX10_feed 16 = .ok (.ireturn, 1) := by decide +kernel
theorem dX10_feed_17 : decode cX10_feed 17 = .ok (.aload_n 0, 1) := by decide +kernel
theorem dX10_feed_18 : decode cX10_feed 18 = .ok (.iload_n 1, 1) := by decide +kernel
theorem dX10_feed_19 : decode cX10_feed 19 = .ok (.invokevirtual 125, 3) := by decide +kernel
theorem dX10_feed_22 : decode cX10_feed 22 = .ok (.aload_n 0, 1) := by decide +kernel
theorem dX10_feed_23 : decode cX10_feed 23 = .ok (.iload_n 2, 1) := by decide +kernel
theorem dX10_feed_24 : decode cX10_feed 24 = .ok (.invokevirtual 125, 3) := by decide +kernel
theorem dX10_feed_27 : decode cX10_feed 27 = .ok (.aload_n 0, 1) := by decide +kernel
theorem dX10_feed_28 : decode cX10_feed 28 = .ok (.iload_n 3, 1) := by decide +kernel
theorem dX10_feed_29 : decode cX10_feed 29 = .ok (.invokevirtual 125, 3) := by decide +kernel
theorem dX10_feed_32 : decode cX10_feed 32 = .ok (.aload_n 0, 1) := by decide +kernel
theorem dX10_feed_33 : decode cX10_feed 33 = .ok (.iload 4, 2) := by decide +kernel
theorem dX10_feed_35 : decode cX10_feed 35 = .ok (.invokevirtual 125, 3) := by decide +kernel
theorem dX10_feed_38 : decode cX10_feed 38 = .ok (.aload_n 0, 1) := by decide +kernel
theorem dX10_feed_39 : decode cX10_feed 39 = .ok (.iload 5, 2) := by decide +kernel
theorem dX10_feed_41 : decode cX10_feed 41 = .ok (.invokevirtual 125, 3) := by decide +kernel
theorem dX10_feed_44 : decode cX10_feed 44 = .ok (.aload_n 0, 1) := by decide +kernel
theorem dX10_feed_45 : decode cX10_feed 45 = .ok (.getfield 122, 3) := by decide +kernel
theorem dX10_feed_48 : decode cX10_feed 48 = .ok (.ireturn, 1) := by decide +kernel
theorem dX10_end_0 : decode cX10_end 0 = .ok (.aload_n 0, 1) := by decide +kernel
theorem dX10_end_1 : decode cX10_end 1 = .ok (.iconst 0, 1) := by decide +kernel
theorem dX10_end_2 : decode cX10_end 2 = .ok (.putfield 90, 3) := by decide +kernel
theorem dX10_end_5 : decode cX10_end 5 = .ok (.aload_n 0, 1) := by decide +kernel
theorem dX10_end_6 : decode cX10_end 6 = .ok (.iload_n 1, 1) := by decide +kernel
theorem dX10_end_7 : decode cX10_end 7 = .ok (.iconst 0, 1) := by decide +kernel
theorem dX10_end_8 : decode cX10_end 8 = .ok (.aload_n 0, 1) := by decide +kernel
theorem dX10_end_9 : decode cX10_end 9 = .ok (.getfield 122, 3) := by decide +kernel
theorem dX10_end_12 : decode cX10_end 12 = .ok (.invokevirtual 101, 3) := by decide +kernel
theorem dX10_end_15 : decode cX10_end 15 = .ok (.ifCond .ne 5, 3) := by decide +kernel
theorem dX10_end_18 : decode cX10_end 18 = .ok (.iconst 0, 1) := by decide +kernel
theorem dX10_end_19 : decode cX10_end 19 = .ok (.ireturn, 1) := by decide +kernel
theorem dX10_end_20 : decode cX10_end 20 = .ok (.aload_n 0, 1) := by decide +kernel
theorem dX10_end_21 : decode cX10_end 21 = .ok (.iload_n 1, 1) := by decide +kernel
theorem dX10_end_22 : decode cX10_end 22 = .ok (.putfield 122, 3) := by decide +kernel
theorem dX10_end_25 : decode cX10_end 25 = .ok (.iconst 1, 1) := by decide +kernel
theorem dX10_end_26 : decode cX10_end 26 = .ok (.ireturn, 1) := by decide +kernel
theorem dX10_raw_0 : decode cX10_raw 0 = .ok (.iload_n 1, 1) := by decide +kernel
theorem dX10_raw_1 : decode cX10_raw 1 = .ok (.aload_n 0, 1) := by decide +kernel
theorem dX10_raw_2 : decode cX10_raw 2 = .ok (.getfield 122, 3) := by decide +kernel
theorem dX10_raw_5 : decode cX10_raw 5 = .ok (.if_icmp .ge 12, 3) := by decide +kernel
theorem dX10_raw_8 : decode cX10_raw 8 = .ok (.aload_n 0, 1) := by decide +kernel
theorem dX10_raw_9 : decode cX10_raw 9 = .ok (.getfield 22, 3) := by decide +kernel
theorem dX10_raw_12 : decode cX10_raw 12 = .ok (.iload_n 1, 1) := by decide +kernel
theorem dX10_raw_13 : decode cX10_raw 13 = .ok (.iaload, 1) := by decide +kernel
theorem dX10_raw_14 : decode cX10_raw 14 = .ok (.goto 4, 3) := by decide +kernel
theorem dX10_raw_17 : decode cX10_raw 17 = .ok (.iconst (-1), 1) := by decide +kernel
theorem dX10_raw_18 : decode cX10_raw 18 = .ok (.ireturn, 1) := by decide +kernel
theorem dX10_isLetter_0 : decode cX10_isLetter 0 = .ok (.aload_n 0, 1) := by decide +kernel
theorem dX10_isLetter_1 : decode cX10_isLetter 1 = .ok (.iload_n 1, 1) := by decide +kernel
theorem dX10_isLetter_2 : decode cX10_isLetter 2 = .ok (.bipush 97, 2) := by decide +kernel
theorem dX10_isLetter_4 : decode cX10_isLetter 4 = .ok (.bipush 122, 2) := by decide +kernel
theorem dX10_isLetter_6 : decode cX10_isLetter 6 = .ok (.invokevirtual 101, 3) := by decide +kernel
theorem dX10_isLetter_9 : decode cX10_isLetter 9 = .ok (.ifCond .ne 15, 3) := by decide +kernel
theorem dX10_isLetter_12 : decode cX10_isLetter 12 = .ok (.aload_n 0, 1) := by decide +kernel
theorem dX10_isLetter_13 : decode cX10_isLetter 13 = .ok (.iload_n 1, 1) := by decide +kernel
theorem dX10_isLetter_14 : decode cX10_isLetter 14 = .ok (.bipush 65, 2) := by decide +kernel
theorem dX10_isLetter_16 : decode cX10_isLetter 16 = .ok (.bipush 90, 2) := by decide +kernel
theorem dX10_isLetter_18 : decode cX10_isLetter 18 = .ok (.invokevirtual 101, 3) := by decide +kernel
theorem dX10_isLetter_21 : decode cX10_isLetter 21 = .ok (.ifCond .eq 7, 3) := by decide +kernel
theorem dX10_isLetter_24 : decode cX10_isLetter 24 = .ok (.iconst 1, 1) := by decide +kernel
theorem dX10_isLetter_25 : decode cX10_isLetter 25 = .ok (.goto 4, 3) := by decide +kernel
theorem dX10_isLetter_28 : decode cX10_isLetter 28 = .ok (.iconst 0, 1) := by decide +kernel
theorem dX10_isLetter_29 : decode cX10_isLetter 29 = .ok (.ireturn, 1) := by decide +kernel
theorem dX10_isDigit_0 : decode cX10_isDigit 0 = .ok (.aload_n 0, 1) := by decide +kernel
theorem dX10_isDigit_1 : decode cX10_isDigit 1 = .ok (.iload_n 1, 1) := by decide +kernel
theorem dX10_isDigit_2 : decode cX10_isDigit 2 = .ok (.bipush 48, 2) := by decide +kernel
theorem dX10_isDigit_4 : decode cX10_isDigit 4 = .ok (.bipush 57, 2) := by decide +kernel
theorem dX10_isDigit_6 : decode cX10_isDigit 6 = .ok (.invokevirtual 101, 3) := by decide +kernel
theorem dX10_isDigit_9 : decode cX10_isDigit 9 = .ok (.ireturn, 1) := by decide +kernel
theorem dX10_isMarkSign_0 : decode cX10_isMarkSign 0 = .ok (.iload_n 1, 1) := by decide +kernel
theorem dX10_isMarkSign_1 : decode cX10_isMarkSign 1 = .ok (.bipush 59, 2) := by decide +kernel
theorem dX10_isMarkSign_3 : decode cX10_isMarkSign 3 = .ok (.if_icmp .eq 57, 3) := by decide +kernel
theorem dX10_isMarkSign_6 : decode cX10_isMarkSign 6 = .ok (.iload_n 1, 1) := by decide +kernel
theorem dX10_isMarkSign_7 : decode cX10_isMarkSign 7 = .ok (.bipush 43, 2) := by decide +kernel
theorem dX10_isMarkSign_9 : decode cX10_isMarkSign 9 = .ok (.if_icmp .eq 51, 3) := by decide +kernel
theorem dX10_isMarkSign_12 : decode cX10_isMarkSign 12 = .ok (.iload_n 1, 1) := by decide +kernel
theorem dX10_isMarkSign_13 : decode cX10_isMarkSign 13 = .ok (.bipush 45, 2) := by decide +kernel
theorem dX10_isMarkSign_15 : decode cX10_isMarkSign 15 = .ok (.if_icmp .eq 45, 3) := by decide +kernel
theorem dX10_isMarkSign_18 : decode cX10_isMarkSign 18 = .ok (.iload_n 1, 1) := by decide +kernel
theorem dX10_isMarkSign_19 : decode cX10_isMarkSign 19 = .ok (.bipush 42, 2) := by decide +kernel
theorem dX10_isMarkSign_21 : decode cX10_isMarkSign 21 = .ok (.if_icmp .eq 39, 3) := by decide +kernel
theorem dX10_isMarkSign_24 : decode cX10_isMarkSign 24 = .ok (.iload_n 1, 1) := by decide +kernel
theorem dX10_isMarkSign_25 : decode cX10_isMarkSign 25 = .ok (.bipush 47, 2) := by decide +kernel
theorem dX10_isMarkSign_27 : decode cX10_isMarkSign 27 = .ok (.if_icmp .eq 33, 3) := by decide +kernel
theorem dX10_isMarkSign_30 : decode cX10_isMarkSign 30 = .ok (.iload_n 1, 1) := by decide +kernel
theorem dX10_isMarkSign_31 : decode cX10_isMarkSign 31 = .ok (.bipush 40, 2) := by decide +kernel
theorem dX10_isMarkSign_33 : decode cX10_isMarkSign 33 = .ok (.if_icmp .eq 27, 3) := by decide +kernel
theorem dX10_isMarkSign_36 : decode cX10_isMarkSign 36 = .ok (.iload_n 1, 1) := by decide +kernel
theorem dX10_isMarkSign_37 : decode cX10_isMarkSign 37 = .ok (.bipush 41, 2) := by decide +kernel
theorem dX10_isMarkSign_39 : decode cX10_isMarkSign 39 = .ok (.if_icmp .eq 21, 3) := by decide +kernel
theorem dX10_isMarkSign_42 : decode cX10_isMarkSign 42 = .ok (.iload_n 1, 1) := by decide +kernel
theorem dX10_isMarkSign_43 : decode cX10_isMarkSign 43 = .ok (.bipush 60, 2) := by decide +kernel
theorem dX10_isMarkSign_45 : decode cX10_isMarkSign 45 = .ok (.if_icmp .eq 15, 3) := by decide +kernel
theorem dX10_isMarkSign_48 : decode cX10_isMarkSign 48 = .ok (.iload_n 1, 1) := by decide +kernel
theorem dX10_isMarkSign_49 : decode cX10_isMarkSign 49 = .ok (.bipush 61, 2) := by decide +kernel
theorem dX10_isMarkSign_51 : decode cX10_isMarkSign 51 = .ok (.if_icmp .eq 9, 3) := by decide +kernel
theorem dX10_isMarkSign_54 : decode cX10_isMarkSign 54 = .ok (.iload_n 1, 1) := by decide +kernel
theorem dX10_isMarkSign_55 : decode cX10_isMarkSign 55 = .ok (.bipush 62, 2) := by decide +kernel
theorem dX10_isMarkSign_57 : decode cX10_isMarkSign 57 = .ok (.if_icmp .ne 7, 3) := by decide +kernel
theorem dX10_isMarkSign_60 : decode cX10_isMarkSign 60 = .ok (.iconst 1, 1) := by decide +kernel
theorem dX10_isMarkSign_61 : decode cX10_isMarkSign 61 = .ok (.goto 4, 3) := by decide +kernel
theorem dX10_isMarkSign_64 : decode cX10_isMarkSign 64 = .ok (.iconst 0, 1) := by decide +kernel
theorem dX10_isMarkSign_65 : decode cX10_isMarkSign 65 = .ok (.ireturn, 1) := by decide +kernel
theorem dX10_wordAt_0 : decode cX10_wordAt 0 = .ok (.iconst (-1), 1) := by decide +kernel
theorem dX10_wordAt_1 : decode cX10_wordAt 1 = .ok (.istore_n 3, 1) := by decide +kernel
theorem dX10_wordAt_2 : decode cX10_wordAt 2 = .ok (.iconst 0, 1) := by decide +kernel
theorem dX10_wordAt_3 : decode cX10_wordAt 3 = .ok (.istore 4, 2) := by decide +kernel
theorem dX10_wordAt_5 : decode cX10_wordAt 5 = .ok (.iload 4, 2) := by decide +kernel
theorem dX10_wordAt_7 : decode cX10_wordAt 7 = .ok (.bipush 70, 2) := by decide +kernel
theorem dX10_wordAt_9 : decode cX10_wordAt 9 = .ok (.if_icmp .ge 108, 3) := by decide +kernel
theorem dX10_wordAt_12 : decode cX10_wordAt 12 = .ok (.iconst 0, 1) := by decide +kernel
theorem dX10_wordAt_13 : decode cX10_wordAt 13 = .ok (.istore 5, 2) := by decide +kernel
theorem dX10_wordAt_15 : decode cX10_wordAt 15 = .ok (.iload_n 3, 1) := by decide +kernel
theorem dX10_wordAt_16 : decode cX10_wordAt 16 = .ok (.iconst 1, 1) := by decide +kernel
theorem dX10_wordAt_17 : decode cX10_wordAt 17 = .ok (.iadd, 1) := by decide +kernel
theorem dX10_wordAt_18 : decode cX10_wordAt 18 = .ok (.istore_n 3, 1) := by decide +kernel
theorem dX10_wordAt_19 : decode cX10_wordAt 19 = .ok (.iload_n 1, 1) := by decide +kernel
theorem dX10_wordAt_20 : decode cX10_wordAt 20 = .ok (.iload 5, 2) := by decide +kernel
theorem dX10_wordAt_22 : decode cX10_wordAt 22 = .ok (.iadd, 1) := by decide +kernel
theorem dX10_wordAt_23 : decode cX10_wordAt 23 = .ok (.iload_n 2, 1) := by decide +kernel
theorem dX10_wordAt_24 : decode cX10_wordAt 24 = .ok (.if_icmp .ge 36, 3) := by decide +kernel
theorem dX10_wordAt_27 : decode cX10_wordAt 27 = .ok (.aload_n 0, 1) := by decide +kernel
theorem dX10_wordAt_28 : decode cX10_wordAt 28 = .ok (.getfield 25, 3) := by decide +kernel
theorem dX10_wordAt_31 : decode cX10_wordAt 31 = .ok (.iload 4, 2) := by decide +kernel
theorem dX10_wordAt_33 : decode cX10_wordAt 33 = .ok (.iconst 1, 1) := by decide +kernel
theorem dX10_wordAt_34 : decode cX10_wordAt 34 = .ok (.iadd, 1) := by decide +kernel
theorem dX10_wordAt_35 : decode cX10_wordAt 35 = .ok (.iload 5, 2) := by decide +kernel
theorem dX10_wordAt_37 : decode cX10_wordAt 37 = .ok (.iadd, 1) := by decide +kernel
theorem dX10_wordAt_38 : decode cX10_wordAt 38 = .ok (.iaload, 1) := by decide +kernel
theorem dX10_wordAt_39 : decode cX10_wordAt 39 = .ok (.aload_n 0, 1) := by decide +kernel
theorem dX10_wordAt_40 : decode cX10_wordAt 40 = .ok (.getfield 22, 3) := by decide +kernel
theorem dX10_wordAt_43 : decode cX10_wordAt 43 = .ok (.iload_n 1, 1) := by decide +kernel
theorem dX10_wordAt_44 : decode cX10_wordAt 44 = .ok (.iload 5, 2) := by decide +kernel
theorem dX10_wordAt_46 : decode cX10_wordAt 46 = .ok (.iadd, 1) := by decide +kernel
theorem dX10_wordAt_47 : decode cX10_wordAt 47 = .ok (.iaload, 1) := by decide +kernel
theorem dX10_wordAt_48 : decode cX10_wordAt 48 = .ok (.if_icmp .ne 12, 3) := by decide +kernel
theorem dX10_wordAt_51 : decode cX10_wordAt 51 = .ok (.iload 5, 2) := by decide +kernel
theorem dX10_wordAt_53 : decode cX10_wordAt 53 = .ok (.iconst 1, 1) := by decide +kernel
theorem dX10_wordAt_54 : decode cX10_wordAt 54 = .ok (.iadd, 1) := by decide +kernel
theorem dX10_wordAt_55 : decode cX10_wordAt 55 = .ok (.istore 5, 2) := by decide +kernel
theorem dX10_wordAt_57 : decode cX10_wordAt 57 = .ok (.goto (-38), 3) := by decide +kernel
theorem dX10_wordAt_60 : decode cX10_wordAt 60 = .ok (.iload_n 1, 1) := by decide +kernel
theorem dX10_wordAt_61 : decode cX10_wordAt 61 = .ok (.iload 5, 2) := by decide +kernel
theorem dX10_wordAt_63 : decode cX10_wordAt 63 = .ok (.iadd, 1) := by decide +kernel
theorem dX10_wordAt_64 : decode cX10_wordAt 64 = .ok (.iload_n 2, 1) := by decide +kernel
theorem dX10_wordAt_65 : decode cX10_wordAt 65 = .ok (.if_icmp .ne 22, 3) := by decide +kernel
theorem dX10_wordAt_68 : decode cX10_wordAt 68 = .ok (.aload_n 0, 1) := by decide +kernel
theorem dX10_wordAt_69 : decode cX10_wordAt 69 = .ok (.getfield 25, 3) := by decide +kernel
theorem dX10_wordAt_72 : decode cX10_wordAt 72 = .ok (.iload 4, 2) := by decide +kernel
theorem dX10_wordAt_74 : decode cX10_wordAt 74 = .ok (.iconst 1, 1) := by decide +kernel
theorem dX10_wordAt_75 : decode cX10_wordAt 75 = .ok (.iadd, 1) := by decide +kernel
theorem dX10_wordAt_76 : decode cX10_wordAt 76 = .ok (.iload 5, 2) := by decide +kernel
theorem dX10_wordAt_78 : decode cX10_wordAt 78 = .ok (.iadd, 1) := by decide +kernel
theorem dX10_wordAt_79 : decode cX10_wordAt 79 = .ok (.iaload, 1) := by decide +kernel
theorem dX10_wordAt_80 : decode cX10_wordAt 80 = .ok (.bipush 32, 2) := by decide +kernel
theorem dX10_wordAt_82 : decode cX10_wordAt 82 = .ok (.if_icmp .ne 5, 3) := by decide +kernel
theorem dX10_wordAt_85 : decode cX10_wordAt 85 = .ok (.iload_n 3, 1) := by decide +kernel
theorem dX10_wordAt_86 : decode cX10_wordAt 86 = .ok (.ireturn, 1) := by decide +kernel
theorem dX10_wordAt_87 : decode cX10_wordAt 87 = .ok (.iload 4, 2) := by decide +kernel
theorem dX10_wordAt_89 : decode cX10_wordAt 89 = .ok (.iconst 1, 1) := by decide +kernel
theorem dX10_wordAt_90 : decode cX10_wordAt 90 = .ok (.iadd, 1) := by decide +kernel
theorem dX10_wordAt_91 : decode cX10_wordAt 91 = .ok (.istore 4, 2) := by decide +kernel
theorem dX10_wordAt_93 : decode cX10_wordAt 93 = .ok (.aload_n 0, 1) := by decide +kernel
theorem dX10_wordAt_94 : decode cX10_wordAt 94 = .ok (.getfield 25, 3) := by decide +kernel
theorem dX10_wordAt_97 : decode cX10_wordAt 97 = .ok (.iload 4, 2) := by decide +kernel
theorem dX10_wordAt_99 : decode cX10_wordAt 99 = .ok (.iaload, 1) := by decide +kernel
theorem dX10_wordAt_100 : decode cX10_wordAt 100 = .ok (.bipush 32, 2) := by decide +kernel
theorem dX10_wordAt_102 : decode cX10_wordAt 102 = .ok (.if_icmp .eq 12, 3) := by decide +kernel
theorem dX10_wordAt_105 : decode cX10_wordAt 105 = .ok (.iload 4, 2) := by decide +kernel
theorem dX10_wordAt_107 : decode cX10_wordAt 107 = .ok (.iconst 1, 1) := by decide +kernel
theorem dX10_wordAt_108 : decode cX10_wordAt 108 = .ok (.iadd, 1) := by decide +kernel
theorem dX10_wordAt_109 : decode cX10_wordAt 109 = .ok (.istore 4, 2) := by decide +kernel
theorem dX10_wordAt_111 : decode cX10_wordAt 111 = .ok (.goto (-18), 3) := by decide +kernel
theorem dX10_wordAt_114 : decode cX10_wordAt 114 = .ok (.goto (-109), 3) := by decide +kernel
theorem dX10_wordAt_117 : decode cX10_wordAt 117 = .ok (.iconst (-1), 1) := by decide +kernel
theorem dX10_wordAt_118 : decode cX10_wordAt 118 = .ok (.ireturn, 1) := by decide +kernel
theorem dX10_reads_0 : decode cX10_reads 0 = .ok (.aload_n 0, 1) := by decide +kernel
theorem dX10_reads_1 : decode cX10_reads 1 = .ok (.aload_n 0, 1) := by decide +kernel
theorem dX10_reads_2 : decode cX10_reads 2 = .ok (.getfield 129, 3) := by decide +kernel
theorem dX10_reads_5 : decode cX10_reads 5 = .ok (.invokevirtual 132, 3) := by decide +kernel
theorem dX10_reads_8 : decode cX10_reads 8 = .ok (.bipush 32, 2) := by decide +kernel
theorem dX10_reads_10 : decode cX10_reads 10 = .ok (.if_icmp .eq 16, 3) := by decide +kernel
theorem dX10_reads_13 : decode cX10_reads 13 = .ok (.aload_n 0, 1) := by decide +kernel
theorem dX10_reads_14 : decode cX10_reads 14 = .ok (.aload_n 0, 1) := by decide +kernel
theorem dX10_reads_15 : decode cX10_reads 15 = .ok (.getfield 129, 3) := by decide +kernel
theorem dX10_reads_18 : decode cX10_reads 18 = .ok (.invokevirtual 132, 3) := by decide +kernel
theorem dX10_reads_21 : decode cX10_reads 21 = .ok (.bipush 10, 2) := by decide +kernel
theorem dX10_reads_23 : decode cX10_reads 23 = .ok (.if_icmp .ne 16, 3) := by decide +kernel
theorem dX10_reads_26 : decode cX10_reads 26 = .ok (.aload_n 0, 1) := by decide +kernel
theorem dX10_reads_27 : decode cX10_reads 27 = .ok (.aload_n 0, 1) := by decide +kernel
theorem dX10_reads_28 : decode cX10_reads 28 = .ok (.getfield 129, 3) := by decide +kernel
theorem dX10_reads_31 : decode cX10_reads 31 = .ok (.iconst 1, 1) := by decide +kernel
theorem dX10_reads_32 : decode cX10_reads 32 = .ok (.iadd, 1) := by decide +kernel
theorem dX10_reads_33 : decode cX10_reads 33 = .ok (.putfield 129, 3) := by decide +kernel
theorem dX10_reads_36 : decode cX10_reads 36 = .ok (.goto (-36), 3) := by decide +kernel
theorem dX10_reads_39 : decode cX10_reads 39 = .ok (.aload_n 0, 1) := by decide +kernel
theorem dX10_reads_40 : decode cX10_reads 40 = .ok (.aload_n 0, 1) := by decide +kernel
theorem dX10_reads_41 : decode cX10_reads 41 = .ok (.getfield 129, 3) := by decide +kernel
theorem dX10_reads_44 : decode cX10_reads 44 = .ok (.putfield 135, 3) := by decide +kernel
theorem dX10_reads_47 : decode cX10_reads 47 = .ok (.aload_n 0, 1) := by decide +kernel
theorem dX10_reads_48 : decode cX10_reads 48 = .ok (.iconst 1, 1) := by decide +kernel
theorem dX10_reads_49 : decode cX10_reads 49 = .ok (.putfield 138, 3) := by decide +kernel
theorem dX10_reads_52 : decode cX10_reads 52 = .ok (.aload_n 0, 1) := by decide +kernel
theorem dX10_reads_53 : decode cX10_reads 53 = .ok (.aload_n 0, 1) := by decide +kernel
theorem dX10_reads_54 : decode cX10_reads 54 = .ok (.getfield 129, 3) := by decide +kernel
theorem dX10_reads_57 : decode cX10_reads 57 = .ok (.invokevirtual 132, 3) := by decide +kernel
theorem dX10_reads_60 : decode cX10_reads 60 = .ok (.istore_n 1, 1) := by decide +kernel
theorem dX10_reads_61 : decode cX10_reads 61 = .ok (.iload_n 1, 1) := by decide +kernel
theorem dX10_reads_62 : decode cX10_reads 62 = .ok (.iconst (-1), 1) := by decide +kernel
theorem dX10_reads_63 : decode cX10_reads 63 = .ok (.if_icmp .ne 9, 3) := by decide +kernel
theorem dX10_reads_66 : decode cX10_reads 66 = .ok (.aload_n 0, 1) := by decide +kernel
theorem dX10_reads_67 : decode cX10_reads 67 = .ok (.iconst 0, 1) := by decide +kernel
theorem dX10_reads_68 : decode cX10_reads 68 = .ok (.putfield 138, 3) := by decide +kernel
theorem dX10_reads_71 : decode cX10_reads 71 = .ok (.return_, 1) := by decide +kernel
theorem dX10_reads_72 : decode cX10_reads 72 = .ok (.aload_n 0, 1) := by decide +kernel
theorem dX10_reads_73 : decode cX10_reads 73 = .ok (.aload_n 0, 1) := by decide +kernel
theorem dX10_reads_74 : decode cX10_reads 74 = .ok (.getfield 129, 3) := by decide +kernel
theorem dX10_reads_77 : decode cX10_reads 77 = .ok (.iconst 1, 1) := by decide +kernel
theorem dX10_reads_78 : decode cX10_reads 78 = .ok (.iadd, 1) := by decide +kernel
theorem dX10_reads_79 : decode cX10_reads 79 = .ok (.putfield 129, 3) := by decide +kernel
theorem dX10_reads_82 : decode cX10_reads 82 = .ok (.aload_n 0, 1) := by decide +kernel
theorem dX10_reads_83 : decode cX10_reads 83 = .ok (.iload_n 1, 1) := by decide +kernel
theorem dX10_reads_84 : decode cX10_reads 84 = .ok (.putfield 141, 3) := by decide +kernel
theorem dX10_reads_87 : decode cX10_reads 87 = .ok (.aload_n 0, 1) := by decide +kernel
theorem dX10_reads_88 : decode cX10_reads 88 = .ok (.iload_n 1, 1) := by decide +kernel
theorem dX10_reads_89 : decode cX10_reads 89 = .ok (.invokevirtual 144, 3) := by decide +kernel
theorem dX10_reads_92 : decode cX10_reads 92 = .ok (.ifCond .eq 63, 3) := by decide +kernel
theorem dX10_reads_95 : decode cX10_reads 95 = .ok (.aload_n 0, 1) := by decide +kernel
theorem dX10_reads_96 : decode cX10_reads 96 = .ok (.aload_n 0, 1) := by decide +kernel
theorem dX10_reads_97 : decode cX10_reads 97 = .ok (.aload_n 0, 1) := by decide +kernel
theorem dX10_reads_98 : decode cX10_reads 98 = .ok (.getfield 129, 3) := by decide +kernel
theorem dX10_reads_101 : decode cX10_reads 101 = .ok (.invokevirtual 132, 3) := by decide +kernel
theorem dX10_reads_104 : decode cX10_reads 104 = .ok (.invokevirtual 144, 3) := by decide +kernel
theorem dX10_reads_107 : decode cX10_reads 107 = .ok (.ifCond .eq 16, 3) := by decide +kernel
theorem dX10_reads_110 : decode cX10_reads 110 = .ok (.aload_n 0, 1) := by decide +kernel
theorem dX10_reads_111 : decode cX10_reads 111 = .ok (.aload_n 0, 1) := by decide +kernel
theorem dX10_reads_112 : decode cX10_reads 112 = .ok (.getfield 129, 3) := by decide +kernel
theorem dX10_reads_115 : decode cX10_reads 115 = .ok (.iconst 1, 1) := by decide +kernel
theorem dX10_reads_116 : decode cX10_reads 116 = .ok (.iadd, 1) := by decide +kernel
theorem dX10_reads_117 : decode cX10_reads 117 = .ok (.putfield 129, 3) := by decide +kernel
theorem dX10_reads_120 : decode cX10_reads 120 = .ok (.goto (-25), 3) := by decide +kernel
theorem dX10_reads_123 : decode cX10_reads 123 = .ok (.aload_n 0, 1) := by decide +kernel
theorem dX10_reads_124 : decode cX10_reads 124 = .ok (.aload_n 0, 1) := by decide +kernel
theorem dX10_reads_125 : decode cX10_reads 125 = .ok (.aload_n 0, 1) := by decide +kernel
theorem dX10_reads_126 : decode cX10_reads 126 = .ok (.getfield 135, 3) := by decide +kernel
theorem dX10_reads_129 : decode cX10_reads 129 = .ok (.aload_n 0, 1) := by decide +kernel
theorem dX10_reads_130 : decode cX10_reads 130 = .ok (.getfield 129, 3) := by decide +kernel
theorem dX10_reads_133 : decode cX10_reads 133 = .ok (.invokevirtual 147, 3) := by decide +kernel
theorem dX10_reads_136 : decode cX10_reads 136 = .ok (.putfield 141, 3) := by decide +kernel
theorem dX10_reads_139 : decode cX10_reads 139 = .ok (.aload_n 0, 1) := by decide +kernel
theorem dX10_reads_140 : decode cX10_reads 140 = .ok (.getfield 141, 3) := by decide +kernel
theorem dX10_reads_143 : decode cX10_reads 143 = .ok (.iconst (-1), 1) := by decide +kernel
theorem dX10_reads_144 : decode cX10_reads 144 = .ok (.if_icmp .eq 129, 3) := by decide +kernel
theorem dX10_reads_147 : decode cX10_reads 147 = .ok (.aload_n 0, 1) := by decide +kernel
theorem dX10_reads_148 : decode cX10_reads 148 = .ok (.iconst 2, 1) := by decide +kernel
theorem dX10_reads_149 : decode cX10_reads 149 = .ok (.putfield 138, 3) := by decide +kernel
theorem dX10_reads_152 : decode cX10_reads 152 = .ok (.goto 121, 3) := by decide +kernel
theorem dX10_reads_155 : decode cX10_reads 155 = .ok (.aload_n 0, 1) := by decide +kernel
theorem dX10_reads_156 : decode cX10_reads 156 = .ok (.iload_n 1, 1) := by decide +kernel
theorem dX10_reads_157 : decode cX10_reads 157 = .ok (.invokevirtual 151, 3) := by decide +kernel
theorem dX10_reads_160 : decode cX10_reads 160 = .ok (.ifCond .eq 100, 3) := by decide +kernel
theorem dX10_reads_163 : decode cX10_reads 163 = .ok (.aload_n 0, 1) := by decide +kernel
theorem dX10_reads_164 : decode cX10_reads 164 = .ok (.iload_n 1, 1) := by decide +kernel
theorem dX10_reads_165 : decode cX10_reads 165 = .ok (.bipush 48, 2) := by decide +kernel
theorem dX10_reads_167 : decode cX10_reads 167 = .ok (.isub, 1) := by decide +kernel
theorem dX10_reads_168 : decode cX10_reads 168 = .ok (.putfield 141, 3) := by decide +kernel
theorem dX10_reads_171 : decode cX10_reads 171 = .ok (.aload_n 0, 1) := by decide +kernel
theorem dX10_reads_172 : decode cX10_reads 172 = .ok (.aload_n 0, 1) := by decide +kernel
theorem dX10_reads_173 : decode cX10_reads 173 = .ok (.aload_n 0, 1) := by decide +kernel
theorem dX10_reads_174 : decode cX10_reads 174 = .ok (.getfield 129, 3) := by decide +kernel
theorem dX10_reads_177 : decode cX10_reads 177 = .ok (.invokevirtual 132, 3) := by decide +kernel
theorem dX10_reads_180 : decode cX10_reads 180 = .ok (.invokevirtual 151, 3) := by decide +kernel
theorem dX10_reads_183 : decode cX10_reads 183 = .ok (.ifCond .eq 56, 3) := by decide +kernel
theorem dX10_reads_186 : decode cX10_reads 186 = .ok (.aload_n 0, 1) := by decide +kernel
theorem dX10_reads_187 : decode cX10_reads 187 = .ok (.aload_n 0, 1) := by decide +kernel
theorem dX10_reads_188 : decode cX10_reads 188 = .ok (.getfield 141, 3) := by decide +kernel
theorem dX10_reads_191 : decode cX10_reads 191 = .ok (.sipush 10000, 3) := by decide +kernel
theorem dX10_reads_194 : decode cX10_reads 194 = .ok (.if_icmp .ge 25, 3) := by decide +kernel
theorem dX10_reads_197 : decode cX10_reads 197 = .ok (.bipush 10, 2) := by decide +kernel
theorem dX10_reads_199 : decode cX10_reads 199 = .ok (.aload_n 0, 1) := by decide +kernel
theorem dX10_reads_200 : decode cX10_reads 200 = .ok (.getfield 141, 3) := by decide +kernel
theorem dX10_reads_203 : decode cX10_reads 203 = .ok (.imul, 1) := by decide +kernel
theorem dX10_reads_204 : decode cX10_reads 204 = .ok (.aload_n 0, 1) := by decide +kernel
theorem dX10_reads_205 : decode cX10_reads 205 = .ok (.aload_n 0, 1) := by decide +kernel
theorem dX10_reads_206 : decode cX10_reads 206 = .ok (.getfield 129, 3) := by decide +kernel
theorem dX10_reads_209 : decode cX10_reads 209 = .ok (.invokevirtual 132, 3) := by decide +kernel
theorem dX10_reads_212 : decode cX10_reads 212 = .ok (.iadd, 1) := by decide +kernel
theorem dX10_reads_213 : decode cX10_reads 213 = .ok (.bipush 48, 2) := by decide +kernel
theorem dX10_reads_215 : decode cX10_reads 215 = .ok (.isub, 1) := by decide +kernel
theorem dX10_reads_216 : decode cX10_reads 216 = .ok (.goto 7, 3) := by decide +kernel
theorem dX10_reads_219 : decode cX10_reads 219 = .ok (.aload_n 0, 1) := by decide +kernel
theorem dX10_reads_220 : decode cX10_reads 220 = .ok (.getfield 141, 3) := by decide +kernel
theorem dX10_reads_223 : decode cX10_reads 223 = .ok (.putfield 141, 3) := by decide +kernel
theorem dX10_reads_226 : decode cX10_reads 226 = .ok (.aload_n 0, 1) := by decide +kernel
theorem dX10_reads_227 : decode cX10_reads 227 = .ok (.aload_n 0, 1) := by decide +kernel
theorem dX10_reads_228 : decode cX10_reads 228 = .ok (.getfield 129, 3) := by decide +kernel
theorem dX10_reads_231 : decode cX10_reads 231 = .ok (.iconst 1, 1) := by decide +kernel
theorem dX10_reads_232 : decode cX10_reads 232 = .ok (.iadd, 1) := by decide +kernel
theorem dX10_reads_233 : decode cX10_reads 233 = .ok (.putfield 129, 3) := by decide +kernel
theorem dX10_reads_236 : decode cX10_reads 236 = .ok (.goto (-65), 3) := by decide +kernel
theorem dX10_reads_239 : decode cX10_reads 239 = .ok (.aload_n 0, 1) := by decide +kernel
theorem dX10_reads_240 : decode cX10_reads 240 = .ok (.getfield 129, 3) := by decide +kernel
theorem dX10_reads_243 : decode cX10_reads 243 = .ok (.aload_n 0, 1) := by decide +kernel
theorem dX10_reads_244 : decode cX10_reads 244 = .ok (.getfield 135, 3) := by decide +kernel
theorem dX10_reads_247 : decode cX10_reads 247 = .ok (.isub, 1) := by decide +kernel
theorem dX10_reads_248 : decode cX10_reads 248 = .ok (.iconst 5, 1) := by decide +kernel
theorem dX10_reads_249 : decode cX10_reads 249 = .ok (.if_icmp .ge 24, 3) := by decide +kernel
theorem dX10_reads_252 : decode cX10_reads 252 = .ok (.aload_n 0, 1) := by decide +kernel
theorem dX10_reads_253 : decode cX10_reads 253 = .ok (.iconst 3, 1) := by decide +kernel
theorem dX10_reads_254 : decode cX10_reads 254 = .ok (.putfield 138, 3) := by decide +kernel
theorem dX10_reads_257 : decode cX10_reads 257 = .ok (.goto 16, 3) := by decide +kernel
theorem dX10_reads_260 : decode cX10_reads 260 = .ok (.aload_n 0, 1) := by decide +kernel
theorem dX10_reads_261 : decode cX10_reads 261 = .ok (.iload_n 1, 1) := by decide +kernel
theorem dX10_reads_262 : decode cX10_reads 262 = .ok (.invokevirtual 154, 3) := by decide +kernel
theorem dX10_reads_265 : decode cX10_reads 265 = .ok (.ifCond .eq 8, 3) := by decide +kernel
theorem dX10_reads_268 : decode cX10_reads 268 = .ok (.aload_n 0, 1) := by decide +kernel
theorem dX10_reads_269 : decode cX10_reads 269 = .ok (.iconst 4, 1) := by decide +kernel
theorem dX10_reads_270 : decode cX10_reads 270 = .ok (.putfield 138, 3) := by decide +kernel
theorem dX10_reads_273 : decode cX10_reads 273 = .ok (.return_, 1) := by decide +kernel
theorem dX10_errs_0 : decode cX10_errs 0 = .ok (.aload_n 0, 1) := by decide +kernel
theorem dX10_errs_1 : decode cX10_errs 1 = .ok (.iload_n 1, 1) := by decide +kernel
theorem dX10_errs_2 : decode cX10_errs 2 = .ok (.putfield 157, 3) := by decide +kernel
theorem dX10_errs_5 : decode cX10_errs 5 = .ok (.aload_n 0, 1) := by decide +kernel
theorem dX10_errs_6 : decode cX10_errs 6 = .ok (.aload_n 0, 1) := by decide +kernel
theorem dX10_errs_7 : decode cX10_errs 7 = .ok (.getfield 135, 3) := by decide +kernel
theorem dX10_errs_10 : decode cX10_errs 10 = .ok (.putfield 160, 3) := by decide +kernel
theorem dX10_errs_13 : decode cX10_errs 13 = .ok (.iconst (-1), 1) := by decide +kernel
theorem dX10_errs_14 : decode cX10_errs 14 = .ok (.ireturn, 1) := by decide +kernel
theorem dX10_isWord_0 : decode cX10_isWord 0 = .ok (.aload_n 0, 1) := by decide +kernel
theorem dX10_isWord_1 : decode cX10_isWord 1 = .ok (.getfield 138, 3) := by decide +kernel
theorem dX10_isWord_4 : decode cX10_isWord 4 = .ok (.iconst 2, 1) := by decide +kernel
theorem dX10_isWord_5 : decode cX10_isWord 5 = .ok (.if_icmp .ne 15, 3) := by decide +kernel
theorem dX10_isWord_8 : decode cX10_isWord 8 = .ok (.aload_n 0, 1) := by decide +kernel
theorem dX10_isWord_9 : decode cX10_isWord 9 = .ok (.getfield 141, 3) := by decide +kernel
theorem dX10_isWord_12 : decode cX10_isWord 12 = .ok (.iload_n 1, 1) := by decide +kernel
theorem dX10_isWord_13 : decode cX10_isWord 13 = .ok (.if_icmp .ne 7, 3) := by decide +kernel
theorem dX10_isWord_16 : decode cX10_isWord 16 = .ok (.iconst 1, 1) := by decide +kernel
theorem dX10_isWord_17 : decode cX10_isWord 17 = .ok (.goto 4, 3) := by decide +kernel
theorem dX10_isWord_20 : decode cX10_isWord 20 = .ok (.iconst 0, 1) := by decide +kernel
theorem dX10_isWord_21 : decode cX10_isWord 21 = .ok (.ireturn, 1) := by decide +kernel
theorem dX10_isSign_0 : decode cX10_isSign 0 = .ok (.aload_n 0, 1) := by decide +kernel
theorem dX10_isSign_1 : decode cX10_isSign 1 = .ok (.getfield 138, 3) := by decide +kernel
theorem dX10_isSign_4 : decode cX10_isSign 4 = .ok (.iconst 4, 1) := by decide +kernel
theorem dX10_isSign_5 : decode cX10_isSign 5 = .ok (.if_icmp .ne 15, 3) := by decide +kernel
theorem dX10_isSign_8 : decode cX10_isSign 8 = .ok (.aload_n 0, 1) := by decide +kernel
theorem dX10_isSign_9 : decode cX10_isSign 9 = .ok (.getfield 141, 3) := by decide +kernel
theorem dX10_isSign_12 : decode cX10_isSign 12 = .ok (.iload_n 1, 1) := by decide +kernel
theorem dX10_isSign_13 : decode cX10_isSign 13 = .ok (.if_icmp .ne 7, 3) := by decide +kernel
theorem dX10_isSign_16 : decode cX10_isSign 16 = .ok (.iconst 1, 1) := by decide +kernel
theorem dX10_isSign_17 : decode cX10_isSign 17 = .ok (.goto 4, 3) := by decide +kernel
theorem dX10_isSign_20 : decode cX10_isSign 20 = .ok (.iconst 0, 1) := by decide +kernel
theorem dX10_isSign_21 : decode cX10_isSign 21 = .ok (.ireturn, 1) := by decide +kernel
theorem dX10_emits_0 : decode cX10_emits 0 = .ok (.aload_n 0, 1) := by decide +kernel
theorem dX10_emits_1 : decode cX10_emits 1 = .ok (.getfield 37, 3) := by decide +kernel
theorem dX10_emits_4 : decode cX10_emits 4 = .ok (.sipush 400, 3) := by decide +kernel
theorem dX10_emits_7 : decode cX10_emits 7 = .ok (.aload_n 0, 1) := by decide +kernel
theorem dX10_emits_8 : decode cX10_emits 8 = .ok (.getfield 163, 3) := by decide +kernel
theorem dX10_emits_11 : decode cX10_emits 11 = .ok (.iadd, 1) := by decide +kernel
theorem dX10_emits_12 : decode cX10_emits 12 = .ok (.iload_n 1, 1) := by decide +kernel
theorem dX10_emits_13 : decode cX10_emits 13 = .ok (.iastore, 1) := by decide +kernel
theorem dX10_emits_14 : decode cX10_emits 14 = .ok (.aload_n 0, 1) := by decide +kernel
theorem dX10_emits_15 : decode cX10_emits 15 = .ok (.getfield 40, 3) := by decide +kernel
theorem dX10_emits_18 : decode cX10_emits 18 = .ok (.sipush 400, 3) := by decide +kernel
theorem dX10_emits_21 : decode cX10_emits 21 = .ok (.aload_n 0, 1) := by decide +kernel
theorem dX10_emits_22 : decode cX10_emits 22 = .ok (.getfield 163, 3) := by decide +kernel
theorem dX10_emits_25 : decode cX10_emits 25 = .ok (.iadd, 1) := by decide +kernel
theorem dX10_emits_26 : decode cX10_emits 26 = .ok (.iload_n 2, 1) := by decide +kernel
theorem dX10_emits_27 : decode cX10_emits 27 = .ok (.iastore, 1) := by decide +kernel
theorem dX10_emits_28 : decode cX10_emits 28 = .ok (.aload_n 0, 1) := by decide +kernel
theorem dX10_emits_29 : decode cX10_emits 29 = .ok (.aload_n 0, 1) := by decide +kernel
theorem dX10_emits_30 : decode cX10_emits 30 = .ok (.getfield 163, 3) := by decide +kernel
theorem dX10_emits_33 : decode cX10_emits 33 = .ok (.iconst 1, 1) := by decide +kernel
theorem dX10_emits_34 : decode cX10_emits 34 = .ok (.iadd, 1) := by decide +kernel
theorem dX10_emits_35 : decode cX10_emits 35 = .ok (.putfield 163, 3) := by decide +kernel
theorem dX10_emits_38 : decode cX10_emits 38 = .ok (.return_, 1) := by decide +kernel
theorem dX10_readUnit_0 : decode cX10_readUnit 0 = .ok (.aload_n 0, 1) := by decide +kernel
theorem dX10_readUnit_1 : decode cX10_readUnit 1 = .ok (.getfield 138, 3) := by decide +kernel
theorem dX10_readUnit_4 : decode cX10_readUnit 4 = .ok (.iconst 2, 1) := by decide +kernel
theorem dX10_readUnit_5 : decode cX10_readUnit 5 = .ok (.if_icmp .ne 16, 3) := by decide +kernel
theorem dX10_readUnit_8 : decode cX10_readUnit 8 = .ok (.aload_n 0, 1) := by decide +kernel
theorem dX10_readUnit_9 : decode cX10_readUnit 9 = .ok (.getfield 141, 3) := by decide +kernel
theorem dX10_readUnit_12 : decode cX10_readUnit 12 = .ok (.bipush 6, 2) := by decide +kernel
theorem dX10_readUnit_14 : decode cX10_readUnit 14 = .ok (.if_icmp .lt 7, 3) := by decide +kernel
theorem dX10_readUnit_17 : decode cX10_readUnit 17 = .ok (.iconst 1, 1) := by decide +kernel
theorem dX10_readUnit_18 : decode cX10_readUnit 18 = .ok (.goto 4, 3) := by decide +kernel
theorem dX10_readUnit_21 : decode cX10_readUnit 21 = .ok (.iconst 0, 1) := by decide +kernel
theorem dX10_readUnit_22 : decode cX10_readUnit 22 = .ok (.istore_n 1, 1) := by decide +kernel
theorem dX10_readUnit_23 : decode cX10_readUnit 23 = .ok (.iload_n 1, 1) := by decide +kernel
theorem dX10_readUnit_24 : decode cX10_readUnit 24 = .ok (.ifCond .ne 17, 3) := by decide +kernel
theorem dX10_readUnit_27 : decode cX10_readUnit 27 = .ok (.aload_n 0, 1) := by decide +kernel
theorem dX10_readUnit_28 : decode cX10_readUnit 28 = .ok (.getfield 138, 3) := by decide +kernel
theorem dX10_readUnit_31 : decode cX10_readUnit 31 = .ok (.iconst 3, 1) := by decide +kernel
theorem dX10_readUnit_32 : decode cX10_readUnit 32 = .ok (.if_icmp .eq 9, 3) := by decide +kernel
theorem dX10_readUnit_35 : decode cX10_readUnit 35 = .ok (.aload_n 0, 1) := by decide +kernel
theorem dX10_readUnit_36 : decode cX10_readUnit 36 = .ok (.iconst 1, 1) := by decide +kernel
theorem dX10_readUnit_37 : decode cX10_readUnit 37 = .ok (.invokevirtual 166, 3) := by decide +kernel
theorem dX10_readUnit_40 : decode cX10_readUnit 40 = .ok (.ireturn, 1) := by decide +kernel
theorem dX10_readUnit_41 : decode cX10_readUnit 41 = .ok (.aload_n 0, 1) := by decide +kernel
theorem dX10_readUnit_42 : decode cX10_readUnit 42 = .ok (.iload_n 1, 1) := by decide +kernel
theorem dX10_readUnit_43 : decode cX10_readUnit 43 = .ok (.ifCond .eq 7, 3) := by decide +kernel
theorem dX10_readUnit_46 : decode cX10_readUnit 46 = .ok (.iconst 1, 1) := by decide +kernel
theorem dX10_readUnit_47 : decode cX10_readUnit 47 = .ok (.goto 4, 3) := by decide +kernel
theorem dX10_readUnit_50 : decode cX10_readUnit 50 = .ok (.iconst 0, 1) := by decide +kernel
theorem dX10_readUnit_51 : decode cX10_readUnit 51 = .ok (.iload_n 1, 1) := by decide +kernel
theorem dX10_readUnit_52 : decode cX10_readUnit 52 = .ok (.ifCond .eq 13, 3) := by decide +kernel
theorem dX10_readUnit_55 : decode cX10_readUnit 55 = .ok (.aload_n 0, 1) := by decide +kernel
theorem dX10_readUnit_56 : decode cX10_readUnit 56 = .ok (.getfield 141, 3) := by decide +kernel
theorem dX10_readUnit_59 : decode cX10_readUnit 59 = .ok (.bipush 6, 2) := by decide +kernel
theorem dX10_readUnit_61 : decode cX10_readUnit 61 = .ok (.isub, 1) := by decide +kernel
theorem dX10_readUnit_62 : decode cX10_readUnit 62 = .ok (.goto 7, 3) := by decide +kernel
theorem dX10_readUnit_65 : decode cX10_readUnit 65 = .ok (.aload_n 0, 1) := by decide +kernel
theorem dX10_readUnit_66 : decode cX10_readUnit 66 = .ok (.getfield 141, 3) := by decide +kernel
theorem dX10_readUnit_69 : decode cX10_readUnit 69 = .ok (.invokevirtual 169, 3) := by decide +kernel
theorem dX10_readUnit_72 : decode cX10_readUnit 72 = .ok (.aload_n 0, 1) := by decide +kernel
theorem dX10_readUnit_73 : decode cX10_readUnit 73 = .ok (.invokevirtual 173, 3) := by decide +kernel
theorem dX10_readUnit_76 : decode cX10_readUnit 76 = .ok (.iconst 0, 1) := by decide +kernel
theorem dX10_readUnit_77 : decode cX10_readUnit 77 = .ok (.ireturn, 1) := by decide +kernel
theorem dX10_readProduct_0 : decode cX10_readProduct 0 = .ok (.aload_n 0, 1) := by decide +kernel
theorem dX10_readProduct_1 : decode cX10_readProduct 1 = .ok (.invokevirtual 176, 3) := by decide +kernel
theorem dX10_readProduct_4 : decode cX10_readProduct 4 = .ok (.iconst (-1), 1) := by decide +kernel
theorem dX10_readProduct_5 : decode cX10_readProduct 5 = .ok (.if_icmp .ne 5, 3) := by decide +kernel
theorem dX10_readProduct_8 : decode cX10_readProduct 8 = .ok (.iconst (-1), 1) := by decide +kernel
theorem dX10_readProduct_9 : decode cX10_readProduct 9 = .ok (.ireturn, 1) := by decide +kernel
theorem dX10_readProduct_10 : decode cX10_readProduct 10 = .ok (.aload_n 0, 1) := by decide +kernel
theorem dX10_readProduct_11 : decode cX10_readProduct 11 = .ok (.bipush 42, 2) := by decide +kernel
theorem dX10_readProduct_13 : decode cX10_readProduct 13 = .ok (.invokevirtual 180, 3) := by decide +kernel
theorem dX10_readProduct_16 : decode cX10_readProduct 16 = .ok (.ifCond .ne 12, 3) := by decide +kernel
theorem dX10_readProduct_19 : decode cX10_readProduct 19 = .ok (.aload_n 0, 1) := by decide +kernel
theorem dX10_readProduct_20 : decode cX10_readProduct 20 = .ok (.bipush 47, 2) := by decide +kernel
theorem dX10_readProduct_22 : decode cX10_readProduct 22 = .ok (.invokevirtual 180, 3) := by decide +kernel
theorem dX10_readProduct_25 : decode cX10_readProduct 25 = .ok (.ifCond .eq 76, 3) := by decide +kernel
theorem dX10_readProduct_28 : decode cX10_readProduct 28 = .ok (.aload_n 0, 1) := by decide +kernel
theorem dX10_readProduct_29 : decode cX10_readProduct 29 = .ok (.bipush 42, 2) := by decide +kernel
theorem dX10_readProduct_31 : decode cX10_readProduct 31 = .ok (.invokevirtual 180, 3) := by decide +kernel
theorem dX10_readProduct_34 : decode cX10_readProduct 34 = .ok (.istore_n 1, 1) := by decide +kernel
theorem dX10_readProduct_35 : decode cX10_readProduct 35 = .ok (.aload_n 0, 1) := by decide +kernel
theorem dX10_readProduct_36 : decode cX10_readProduct 36 = .ok (.invokevirtual 173, 3) := by decide +kernel
theorem dX10_readProduct_39 : decode cX10_readProduct 39 = .ok (.iload_n 1, 1) := by decide +kernel
theorem dX10_readProduct_40 : decode cX10_readProduct 40 = .ok (.ifCond .ne 17, 3) := by decide +kernel
theorem dX10_readProduct_43 : decode cX10_readProduct 43 = .ok (.aload_n 0, 1) := by decide +kernel
theorem dX10_readProduct_44 : decode cX10_readProduct 44 = .ok (.getfield 138, 3) := by decide +kernel
theorem dX10_readProduct_47 : decode cX10_readProduct 47 = .ok (.iconst 3, 1) := by decide +kernel
theorem dX10_readProduct_48 : decode cX10_readProduct 48 = .ok (.if_icmp .eq 9, 3) := by decide +kernel
theorem dX10_readProduct_51 : decode cX10_readProduct 51 = .ok (.aload_n 0, 1) := by decide +kernel
theorem dX10_readProduct_52 : decode cX10_readProduct 52 = .ok (.iconst 1, 1) := by decide +kernel
theorem dX10_readProduct_53 : decode cX10_readProduct 53 = .ok (.invokevirtual 166, 3) := by decide +kernel
theorem dX10_readProduct_56 : decode cX10_readProduct 56 = .ok (.ireturn, 1) := by decide +kernel
theorem dX10_readProduct_57 : decode cX10_readProduct 57 = .ok (.iload_n 1, 1) := by decide +kernel
theorem dX10_readProduct_58 : decode cX10_readProduct 58 = .ok (.ifCond .ne 16, 3) := by decide +kernel
theorem dX10_readProduct_61 : decode cX10_readProduct 61 = .ok (.aload_n 0, 1) := by decide +kernel
theorem dX10_readProduct_62 : decode cX10_readProduct 62 = .ok (.getfield 141, 3) := by decide +kernel
theorem dX10_readProduct_65 : decode cX10_readProduct 65 = .ok (.ifCond .ne 9, 3) := by decide +kernel
theorem dX10_readProduct_68 : decode cX10_readProduct 68 = .ok (.aload_n 0, 1) := by decide +kernel
theorem dX10_readProduct_69 : decode cX10_readProduct 69 = .ok (.iconst 2, 1) := by decide +kernel
theorem dX10_readProduct_70 : decode cX10_readProduct 70 = .ok (.invokevirtual 166, 3) := by decide +kernel
theorem dX10_readProduct_73 : decode cX10_readProduct 73 = .ok (.ireturn, 1) := by decide +kernel
theorem dX10_readProduct_74 : decode cX10_readProduct 74 = .ok (.aload_n 0, 1) := by decide +kernel
theorem dX10_readProduct_75 : decode cX10_readProduct 75 = .ok (.invokevirtual 176, 3) := by decide +kernel
theorem dX10_readProduct_78 : decode cX10_readProduct 78 = .ok (.iconst (-1), 1) := by decide +kernel
theorem dX10_readProduct_79 : decode cX10_readProduct 79 = .ok (.if_icmp .ne 5, 3) := by decide +kernel
theorem dX10_readProduct_82 : decode cX10_readProduct 82 = .ok (.iconst (-1), 1) := by decide +kernel
theorem dX10_readProduct_83 : decode cX10_readProduct 83 = .ok (.ireturn, 1) := by decide +kernel
theorem dX10_readProduct_84 : decode cX10_readProduct 84 = .ok (.aload_n 0, 1) := by decide +kernel
theorem dX10_readProduct_85 : decode cX10_readProduct 85 = .ok (.iload_n 1, 1) := by decide +kernel
theorem dX10_readProduct_86 : decode cX10_readProduct 86 = .ok (.ifCond .eq 7, 3) := by decide +kernel
theorem dX10_readProduct_89 : decode cX10_readProduct 89 = .ok (.iconst 4, 1) := by decide +kernel
theorem dX10_readProduct_90 : decode cX10_readProduct 90 = .ok (.goto 4, 3) := by decide +kernel
theorem dX10_readProduct_93 : decode cX10_readProduct 93 = .ok (.iconst 5, 1) := by decide +kernel
theorem dX10_readProduct_94 : decode cX10_readProduct 94 = .ok (.iconst 0, 1) := by decide +kernel
theorem dX10_readProduct_95 : decode cX10_readProduct 95 = .ok (.invokevirtual 169, 3) := by decide +kernel
theorem dX10_readProduct_98 : decode cX10_readProduct 98 = .ok (.goto (-88), 3) := by decide +kernel
theorem dX10_readProduct_101 : decode cX10_readProduct 101 = .ok (.iconst 0, 1) := by decide +kernel
theorem dX10_readProduct_102 : decode cX10_readProduct 102 = .ok (.ireturn, 1) := by decide +kernel
theorem dX10_readSum_0 : decode cX10_readSum 0 = .ok (.aload_n 0, 1) := by decide +kernel
theorem dX10_readSum_1 : decode cX10_readSum 1 = .ok (.invokevirtual 183, 3) := by decide +kernel
theorem dX10_readSum_4 : decode cX10_readSum 4 = .ok (.iconst (-1), 1) := by decide +kernel
theorem dX10_readSum_5 : decode cX10_readSum 5 = .ok (.if_icmp .ne 5, 3) := by decide +kernel
theorem dX10_readSum_8 : decode cX10_readSum 8 = .ok (.iconst (-1), 1) := by decide +kernel
theorem dX10_readSum_9 : decode cX10_readSum 9 = .ok (.ireturn, 1) := by decide +kernel
theorem dX10_readSum_10 : decode cX10_readSum 10 = .ok (.aload_n 0, 1) := by decide +kernel
theorem dX10_readSum_11 : decode cX10_readSum 11 = .ok (.bipush 43, 2) := by decide +kernel
theorem dX10_readSum_13 : decode cX10_readSum 13 = .ok (.invokevirtual 180, 3) := by decide +kernel
theorem dX10_readSum_16 : decode cX10_readSum 16 = .ok (.ifCond .ne 12, 3) := by decide +kernel
theorem dX10_readSum_19 : decode cX10_readSum 19 = .ok (.aload_n 0, 1) := by decide +kernel
theorem dX10_readSum_20 : decode cX10_readSum 20 = .ok (.bipush 45, 2) := by decide +kernel
theorem dX10_readSum_22 : decode cX10_readSum 22 = .ok (.invokevirtual 180, 3) := by decide +kernel
theorem dX10_readSum_25 : decode cX10_readSum 25 = .ok (.ifCond .eq 41, 3) := by decide +kernel
theorem dX10_readSum_28 : decode cX10_readSum 28 = .ok (.aload_n 0, 1) := by decide +kernel
theorem dX10_readSum_29 : decode cX10_readSum 29 = .ok (.getfield 141, 3) := by decide +kernel
theorem dX10_readSum_32 : decode cX10_readSum 32 = .ok (.bipush 43, 2) := by decide +kernel
theorem dX10_readSum_34 : decode cX10_readSum 34 = .ok (.if_icmp .ne 7, 3) := by decide +kernel
theorem dX10_readSum_37 : decode cX10_readSum 37 = .ok (.iconst 2, 1) := by decide +kernel
theorem dX10_readSum_38 : decode cX10_readSum 38 = .ok (.goto 4, 3) := by decide +kernel
theorem dX10_readSum_41 : decode cX10_readSum 41 = .ok (.iconst 3, 1) := by decide +kernel
theorem dX10_readSum_42 : decode cX10_readSum 42 = .ok (.istore_n 1, 1) := by decide +kernel
theorem dX10_readSum_43 : decode cX10_readSum 43 = .ok (.aload_n 0, 1) := by decide +kernel
theorem dX10_readSum_44 : decode cX10_readSum 44 = .ok (.invokevirtual 173, 3) := by decide +kernel
theorem dX10_readSum_47 : decode cX10_readSum 47 = .ok (.aload_n 0, 1) := by decide +kernel
theorem dX10_readSum_48 : decode cX10_readSum 48 = .ok (.invokevirtual 183, 3) := by decide +kernel
theorem dX10_readSum_51 : decode cX10_readSum 51 = .ok (.iconst (-1), 1) := by decide +kernel
theorem dX10_readSum_52 : decode cX10_readSum 52 = .ok (.if_icmp .ne 5, 3) := by decide +kernel
theorem dX10_readSum_55 : decode cX10_readSum 55 = .ok (.iconst (-1), 1) := by decide +kernel
theorem dX10_readSum_56 : decode cX10_readSum 56 = .ok (.ireturn, 1) := by decide +kernel
theorem dX10_readSum_57 : decode cX10_readSum 57 = .ok (.aload_n 0, 1) := by decide +kernel
theorem dX10_readSum_58 : decode cX10_readSum 58 = .ok (.iload_n 1, 1) := by decide +kernel
theorem dX10_readSum_59 : decode cX10_readSum 59 = .ok (.iconst 0, 1) := by decide +kernel
theorem dX10_readSum_60 : decode cX10_readSum 60 = .ok (.invokevirtual 169, 3) := by decide +kernel
theorem dX10_readSum_63 : decode cX10_readSum 63 = .ok (.goto (-53), 3) := by decide +kernel
theorem dX10_readSum_66 : decode cX10_readSum 66 = .ok (.iconst 0, 1) := by decide +kernel
theorem dX10_readSum_67 : decode cX10_readSum 67 = .ok (.ireturn, 1) := by decide +kernel
theorem dX10_readCompared_0 : decode cX10_readCompared 0 = .ok (.aload_n 0, 1) := by decide +kernel
theorem dX10_readCompared_1 : decode cX10_readCompared 1 = .ok (.invokevirtual 186, 3) := by decide +kernel
theorem dX10_readCompared_4 : decode cX10_readCompared 4 = .ok (.iconst (-1), 1) := by decide +kernel
theorem dX10_readCompared_5 : decode cX10_readCompared 5 = .ok (.if_icmp .ne 5, 3) := by decide +kernel
theorem dX10_readCompared_8 : decode cX10_readCompared 8 = .ok (.iconst (-1), 1) := by decide +kernel
theorem dX10_readCompared_9 : decode cX10_readCompared 9 = .ok (.ireturn, 1) := by decide +kernel
theorem dX10_readCompared_10 : decode cX10_readCompared 10 = .ok (.aload_n 0, 1) := by decide +kernel
theorem dX10_readCompared_11 : decode cX10_readCompared 11 = .ok (.bipush 60, 2) := by decide +kernel
theorem dX10_readCompared_13 : decode cX10_readCompared 13 = .ok (.invokevirtual 180, 3) := by decide +kernel
theorem dX10_readCompared_16 : decode cX10_readCompared 16 = .ok (.ifCond .ne 27, 3) := by decide +kernel
theorem dX10_readCompared_19 : decode cX10_readCompared 19 = .ok (.aload_n 0, 1) := by decide +kernel
theorem dX10_readCompared_20 : decode cX10_readCompared 20 = .ok (.bipush 61, 2) := by decide +kernel
theorem dX10_readCompared_22 : decode cX10_readCompared 22 = .ok (.invokevirtual 180, 3) := by decide +kernel
theorem dX10_readCompared_25 : decode cX10_readCompared 25 = .ok (.ifCond .ne 18, 3) := by decide +kernel
theorem dX10_readCompared_28 : decode cX10_readCompared 28 = .ok (.aload_n 0, 1) := by decide +kernel
theorem dX10_readCompared_29 : decode cX10_readCompared 29 = .ok (.bipush 62, 2) := by decide +kernel
theorem dX10_readCompared_31 : decode cX10_readCompared 31 = .ok (.invokevirtual 180, 3) := by decide +kernel
theorem dX10_readCompared_34 : decode cX10_readCompared 34 = .ok (.ifCond .ne 9, 3) := by decide +kernel
theorem dX10_readCompared_37 : decode cX10_readCompared 37 = .ok (.aload_n 0, 1) := by decide +kernel
theorem dX10_readCompared_38 : decode cX10_readCompared 38 = .ok (.iconst 1, 1) := by decide +kernel
theorem dX10_readCompared_39 : decode cX10_readCompared 39 = .ok (.invokevirtual 166, 3) := by decide +kernel
theorem dX10_readCompared_42 : decode cX10_readCompared 42 = .ok (.ireturn, 1) := by decide +kernel
theorem dX10_readCompared_43 : decode cX10_readCompared 43 = .ok (.aload_n 0, 1) := by decide +kernel
theorem dX10_readCompared_44 : decode cX10_readCompared 44 = .ok (.getfield 141, 3) := by decide +kernel
theorem dX10_readCompared_47 : decode cX10_readCompared 47 = .ok (.bipush 60, 2) := by decide +kernel
theorem dX10_readCompared_49 : decode cX10_readCompared 49 = .ok (.if_icmp .ne 8, 3) := by decide +kernel
theorem dX10_readCompared_52 : decode cX10_readCompared 52 = .ok (.bipush 6, 2) := by decide +kernel
theorem dX10_readCompared_54 : decode cX10_readCompared 54 = .ok (.goto 19, 3) := by decide +kernel
theorem dX10_readCompared_57 : decode cX10_readCompared 57 = .ok (.aload_n 0, 1) := by decide +kernel
theorem dX10_readCompared_58 : decode cX10_readCompared 58 = .ok (.getfield 141, 3) := by decide +kernel
theorem dX10_readCompared_61 : decode cX10_readCompared 61 = .ok (.bipush 61, 2) := by decide +kernel
theorem dX10_readCompared_63 : decode cX10_readCompared 63 = .ok (.if_icmp .ne 8, 3) := by decide +kernel
theorem dX10_readCompared_66 : decode cX10_readCompared 66 = .ok (.bipush 7, 2) := by decide +kernel
theorem dX10_readCompared_68 : decode cX10_readCompared 68 = .ok (.goto 5, 3) := by decide +kernel
theorem dX10_readCompared_71 : decode cX10_readCompared 71 = .ok (.bipush 8, 2) := by decide +kernel
theorem dX10_readCompared_73 : decode cX10_readCompared 73 = .ok (.istore_n 1, 1) := by decide +kernel
theorem dX10_readCompared_74 : decode cX10_readCompared 74 = .ok (.aload_n 0, 1) := by decide +kernel
theorem dX10_readCompared_75 : decode cX10_readCompared 75 = .ok (.invokevirtual 173, 3) := by decide +kernel
theorem dX10_readCompared_78 : decode cX10_readCompared 78 = .ok (.aload_n 0, 1) := by decide +kernel
theorem dX10_readCompared_79 : decode cX10_readCompared 79 = .ok (.invokevirtual 186, 3) := by decide +kernel
theorem dX10_readCompared_82 : decode cX10_readCompared 82 = .ok (.iconst (-1), 1) := by decide +kernel
theorem dX10_readCompared_83 : decode cX10_readCompared 83 = .ok (.if_icmp .ne 5, 3) := by decide +kernel
theorem dX10_readCompared_86 : decode cX10_readCompared 86 = .ok (.iconst (-1), 1) := by decide +kernel
theorem dX10_readCompared_87 : decode cX10_readCompared 87 = .ok (.ireturn, 1) := by decide +kernel
theorem dX10_readCompared_88 : decode cX10_readCompared 88 = .ok (.aload_n 0, 1) := by decide +kernel
theorem dX10_readCompared_89 : decode cX10_readCompared 89 = .ok (.iload_n 1, 1) := by decide +kernel
theorem dX10_readCompared_90 : decode cX10_readCompared 90 = .ok (.iconst 0, 1) := by decide +kernel
theorem dX10_readCompared_91 : decode cX10_readCompared 91 = .ok (.invokevirtual 169, 3) := by decide +kernel
theorem dX10_readCompared_94 : decode cX10_readCompared 94 = .ok (.iconst 0, 1) := by decide +kernel
theorem dX10_readCompared_95 : decode cX10_readCompared 95 = .ok (.ireturn, 1) := by decide +kernel
theorem dX10_waits_0 : decode cX10_waits 0 = .ok (.aload_n 0, 1) := by decide +kernel
theorem dX10_waits_1 : decode cX10_waits 1 = .ok (.getfield 43, 3) := by decide +kernel
theorem dX10_waits_4 : decode cX10_waits 4 = .ok (.aload_n 0, 1) := by decide +kernel
theorem dX10_waits_5 : decode cX10_waits 5 = .ok (.getfield 189, 3) := by decide +kernel
theorem dX10_waits_8 : decode cX10_waits 8 = .ok (.iload_n 1, 1) := by decide +kernel
theorem dX10_waits_9 : decode cX10_waits 9 = .ok (.iastore, 1) := by decide +kernel
theorem dX10_waits_10 : decode cX10_waits 10 = .ok (.aload_n 0, 1) := by decide +kernel
theorem dX10_waits_11 : decode cX10_waits 11 = .ok (.aload_n 0, 1) := by decide +kernel
theorem dX10_waits_12 : decode cX10_waits 12 = .ok (.getfield 189, 3) := by decide +kernel
theorem dX10_waits_15 : decode cX10_waits 15 = .ok (.iconst 1, 1) := by decide +kernel
theorem dX10_waits_16 : decode cX10_waits 16 = .ok (.iadd, 1) := by decide +kernel
theorem dX10_waits_17 : decode cX10_waits 17 = .ok (.putfield 189, 3) := by decide +kernel
theorem dX10_waits_20 : decode cX10_waits 20 = .ok (.return_, 1) := by decide +kernel
theorem dX10_settles_0 : decode cX10_settles 0 = .ok (.aload_n 0, 1) := by decide +kernel
theorem dX10_settles_1 : decode cX10_settles 1 = .ok (.getfield 189, 3) := by decide +kernel
theorem dX10_settles_4 : decode cX10_settles 4 = .ok (.ifCond .le 53, 3) := by decide +kernel
theorem dX10_settles_7 : decode cX10_settles 7 = .ok (.aload_n 0, 1) := by decide +kernel
theorem dX10_settles_8 : decode cX10_settles 8 = .ok (.getfield 43, 3) := by decide +kernel
theorem dX10_settles_11 : decode cX10_settles 11 = .ok (.aload_n 0, 1) := by decide +kernel
theorem dX10_settles_12 : decode cX10_settles 12 = .ok (.getfield 189, 3) := by decide +kernel
theorem dX10_settles_15 : decode cX10_settles 15 = .ok (.iconst 1, 1) := by decide +kernel
theorem dX10_settles_16 : decode cX10_settles 16 = .ok (.isub, 1) := by decide +kernel
theorem dX10_settles_17 : decode cX10_settles 17 = .ok (.iaload, 1) := by decide +kernel
theorem dX10_settles_18 : decode cX10_settles 18 = .ok (.iload_n 1, 1) := by decide +kernel
theorem dX10_settles_19 : decode cX10_settles 19 = .ok (.if_icmp .ne 38, 3) := by decide +kernel
theorem dX10_settles_22 : decode cX10_settles 22 = .ok (.aload_n 0, 1) := by decide +kernel
theorem dX10_settles_23 : decode cX10_settles 23 = .ok (.aload_n 0, 1) := by decide +kernel
theorem dX10_settles_24 : decode cX10_settles 24 = .ok (.getfield 189, 3) := by decide +kernel
theorem dX10_settles_27 : decode cX10_settles 27 = .ok (.iconst 1, 1) := by decide +kernel
theorem dX10_settles_28 : decode cX10_settles 28 = .ok (.isub, 1) := by decide +kernel
theorem dX10_settles_29 : decode cX10_settles 29 = .ok (.putfield 189, 3) := by decide +kernel
theorem dX10_settles_32 : decode cX10_settles 32 = .ok (.aload_n 0, 1) := by decide +kernel
theorem dX10_settles_33 : decode cX10_settles 33 = .ok (.iload_n 1, 1) := by decide +kernel
theorem dX10_settles_34 : decode cX10_settles 34 = .ok (.iconst 0, 1) := by decide +kernel
theorem dX10_settles_35 : decode cX10_settles 35 = .ok (.invokevirtual 169, 3) := by decide +kernel
theorem dX10_settles_38 : decode cX10_settles 38 = .ok (.iload_n 1, 1) := by decide +kernel
theorem dX10_settles_39 : decode cX10_settles 39 = .ok (.bipush 9, 2) := by decide +kernel
theorem dX10_settles_41 : decode cX10_settles 41 = .ok (.if_icmp .ne (-41), 3) := by decide +kernel
theorem dX10_settles_44 : decode cX10_settles 44 = .ok (.aload_n 0, 1) := by decide +kernel
theorem dX10_settles_45 : decode cX10_settles 45 = .ok (.aload_n 0, 1) := by decide +kernel
theorem dX10_settles_46 : decode cX10_settles 46 = .ok (.getfield 192, 3) := by decide +kernel
theorem dX10_settles_49 : decode cX10_settles 49 = .ok (.iconst 1, 1) := by decide +kernel
theorem dX10_settles_50 : decode cX10_settles 50 = .ok (.isub, 1) := by decide +kernel
theorem dX10_settles_51 : decode cX10_settles 51 = .ok (.putfield 192, 3) := by decide +kernel
theorem dX10_settles_54 : decode cX10_settles 54 = .ok (.goto (-54), 3) := by decide +kernel
theorem dX10_settles_57 : decode cX10_settles 57 = .ok (.return_, 1) := by decide +kernel
theorem dX10_readAny_0 : decode cX10_readAny 0 = .ok (.iconst 0, 1) := by decide +kernel
theorem dX10_readAny_1 : decode cX10_readAny 1 = .ok (.istore_n 1, 1) := by decide +kernel
theorem dX10_readAny_2 : decode cX10_readAny 2 = .ok (.aload_n 0, 1) := by decide +kernel
theorem dX10_readAny_3 : decode cX10_readAny 3 = .ok (.iconst 0, 1) := by decide +kernel
theorem dX10_readAny_4 : decode cX10_readAny 4 = .ok (.putfield 189, 3) := by decide +kernel
theorem dX10_readAny_7 : decode cX10_readAny 7 = .ok (.iconst 1, 1) := by decide +kernel
theorem dX10_readAny_8 : decode cX10_readAny 8 = .ok (.istore_n 2, 1) := by decide +kernel
theorem dX10_readAny_9 : decode cX10_readAny 9 = .ok (.iload_n 2, 1) := by decide +kernel
theorem dX10_readAny_10 : decode cX10_readAny 10 = .ok (.ifCond .eq 98, 3) := by decide +kernel
theorem dX10_readAny_13 : decode cX10_readAny 13 = .ok (.aload_n 0, 1) := by decide +kernel
theorem dX10_readAny_14 : decode cX10_readAny 14 = .ok (.iconst 5, 1) := by decide +kernel
theorem dX10_readAny_15 : decode cX10_readAny 15 = .ok (.invokevirtual 195, 3) := by decide +kernel
theorem dX10_readAny_18 : decode cX10_readAny 18 = .ok (.istore_n 3, 1) := by decide +kernel
theorem dX10_readAny_19 : decode cX10_readAny 19 = .ok (.iload_n 3, 1) := by decide +kernel
theorem dX10_readAny_20 : decode cX10_readAny 20 = .ok (.ifCond .ne 12, 3) := by decide +kernel
theorem dX10_readAny_23 : decode cX10_readAny 23 = .ok (.aload_n 0, 1) := by decide +kernel
theorem dX10_readAny_24 : decode cX10_readAny 24 = .ok (.bipush 40, 2) := by decide +kernel
theorem dX10_readAny_26 : decode cX10_readAny 26 = .ok (.invokevirtual 180, 3) := by decide +kernel
theorem dX10_readAny_29 : decode cX10_readAny 29 = .ok (.ifCond .eq 58, 3) := by decide +kernel
theorem dX10_readAny_32 : decode cX10_readAny 32 = .ok (.aload_n 0, 1) := by decide +kernel
theorem dX10_readAny_33 : decode cX10_readAny 33 = .ok (.getfield 192, 3) := by decide +kernel
theorem dX10_readAny_36 : decode cX10_readAny 36 = .ok (.bipush 8, 2) := by decide +kernel
theorem dX10_readAny_38 : decode cX10_readAny 38 = .ok (.if_icmp .ne 9, 3) := by decide +kernel
theorem dX10_readAny_41 : decode cX10_readAny 41 = .ok (.aload_n 0, 1) := by decide +kernel
theorem dX10_readAny_42 : decode cX10_readAny 42 = .ok (.iconst 3, 1) := by decide +kernel
theorem dX10_readAny_43 : decode cX10_readAny 43 = .ok (.invokevirtual 166, 3) := by decide +kernel
theorem dX10_readAny_46 : decode cX10_readAny 46 = .ok (.ireturn, 1) := by decide +kernel
theorem dX10_readAny_47 : decode cX10_readAny 47 = .ok (.aload_n 0, 1) := by decide +kernel
theorem dX10_readAny_48 : decode cX10_readAny 48 = .ok (.aload_n 0, 1) := by decide +kernel
theorem dX10_readAny_49 : decode cX10_readAny 49 = .ok (.getfield 192, 3) := by decide +kernel
theorem dX10_readAny_52 : decode cX10_readAny 52 = .ok (.iconst 1, 1) := by decide +kernel
theorem dX10_readAny_53 : decode cX10_readAny 53 = .ok (.iadd, 1) := by decide +kernel
theorem dX10_readAny_54 : decode cX10_readAny 54 = .ok (.putfield 192, 3) := by decide +kernel
theorem dX10_readAny_57 : decode cX10_readAny 57 = .ok (.iload_n 3, 1) := by decide +kernel
theorem dX10_readAny_58 : decode cX10_readAny 58 = .ok (.ifCond .ne 7, 3) := by decide +kernel
theorem dX10_readAny_61 : decode cX10_readAny 61 = .ok (.iload_n 1, 1) := by decide +kernel
theorem dX10_readAny_62 : decode cX10_readAny 62 = .ok (.iconst 1, 1) := by decide +kernel
theorem dX10_readAny_63 : decode cX10_readAny 63 = .ok (.iadd, 1) := by decide +kernel
theorem dX10_readAny_64 : decode cX10_readAny 64 = .ok (.istore_n 1, 1) := by decide +kernel
theorem dX10_readAny_65 : decode cX10_readAny 65 = .ok (.aload_n 0, 1) := by decide +kernel
theorem dX10_readAny_66 : decode cX10_readAny 66 = .ok (.iload_n 3, 1) := by decide +kernel
theorem dX10_readAny_67 : decode cX10_readAny 67 = .ok (.ifCond .eq 8, 3) := by decide +kernel
theorem dX10_readAny_70 : decode cX10_readAny 70 = .ok (.bipush 9, 2) := by decide +kernel
theorem dX10_readAny_72 : decode cX10_readAny 72 = .ok (.goto 5, 3) := by decide +kernel
theorem dX10_readAny_75 : decode cX10_readAny 75 = .ok (.bipush 12, 2) := by decide +kernel
theorem dX10_readAny_77 : decode cX10_readAny 77 = .ok (.invokevirtual 198, 3) := by decide +kernel
theorem dX10_readAny_80 : decode cX10_readAny 80 = .ok (.aload_n 0, 1) := by decide +kernel
theorem dX10_readAny_81 : decode cX10_readAny 81 = .ok (.invokevirtual 173, 3) := by decide +kernel
theorem dX10_readAny_84 : decode cX10_readAny 84 = .ok (.goto (-75), 3) := by decide +kernel
theorem dX10_readAny_87 : decode cX10_readAny 87 = .ok (.aload_n 0, 1) := by decide +kernel
theorem dX10_readAny_88 : decode cX10_readAny 88 = .ok (.invokevirtual 201, 3) := by decide +kernel
theorem dX10_readAny_91 : decode cX10_readAny 91 = .ok (.iconst (-1), 1) := by decide +kernel
theorem dX10_readAny_92 : decode cX10_readAny 92 = .ok (.if_icmp .ne 5, 3) := by decide +kernel
theorem dX10_readAny_95 : decode cX10_readAny 95 = .ok (.iconst (-1), 1) := by decide +kernel
theorem dX10_readAny_96 : decode cX10_readAny 96 = .ok (.ireturn, 1) := by decide +kernel
theorem dX10_readAny_97 : decode cX10_readAny 97 = .ok (.aload_n 0, 1) := by decide +kernel
theorem dX10_readAny_98 : decode cX10_readAny 98 = .ok (.bipush 9, 2) := by decide +kernel
theorem dX10_readAny_100 : decode cX10_readAny 100 = .ok (.invokevirtual 204, 3) := by decide +kernel
theorem dX10_readAny_103 : decode cX10_readAny 103 = .ok (.iconst 0, 1) := by decide +kernel
theorem dX10_readAny_104 : decode cX10_readAny 104 = .ok (.istore_n 2, 1) := by decide +kernel
theorem dX10_readAny_105 : decode cX10_readAny 105 = .ok (.goto (-96), 3) := by decide +kernel
theorem dX10_readAny_108 : decode cX10_readAny 108 = .ok (.aload_n 0, 1) := by decide +kernel
theorem dX10_readAny_109 : decode cX10_readAny 109 = .ok (.iconst 4, 1) := by decide +kernel
theorem dX10_readAny_110 : decode cX10_readAny 110 = .ok (.invokevirtual 195, 3) := by decide +kernel
theorem dX10_readAny_113 : decode cX10_readAny 113 = .ok (.ifCond .eq 24, 3) := by decide +kernel
theorem dX10_readAny_116 : decode cX10_readAny 116 = .ok (.aload_n 0, 1) := by decide +kernel
theorem dX10_readAny_117 : decode cX10_readAny 117 = .ok (.bipush 10, 2) := by decide +kernel
theorem dX10_readAny_119 : decode cX10_readAny 119 = .ok (.invokevirtual 204, 3) := by decide +kernel
theorem dX10_readAny_122 : decode cX10_readAny 122 = .ok (.aload_n 0, 1) := by decide +kernel
theorem dX10_readAny_123 : decode cX10_readAny 123 = .ok (.bipush 10, 2) := by decide +kernel
theorem dX10_readAny_125 : decode cX10_readAny 125 = .ok (.invokevirtual 198, 3) := by decide +kernel
theorem dX10_readAny_128 : decode cX10_readAny 128 = .ok (.aload_n 0, 1) := by decide +kernel
theorem dX10_readAny_129 : decode cX10_readAny 129 = .ok (.invokevirtual 173, 3) := by decide +kernel
theorem dX10_readAny_132 : decode cX10_readAny 132 = .ok (.iconst 1, 1) := by decide +kernel
theorem dX10_readAny_133 : decode cX10_readAny 133 = .ok (.istore_n 2, 1) := by decide +kernel
theorem dX10_readAny_134 : decode cX10_readAny 134 = .ok (.goto (-125), 3) := by decide +kernel
theorem dX10_readAny_137 : decode cX10_readAny 137 = .ok (.aload_n 0, 1) := by decide +kernel
theorem dX10_readAny_138 : decode cX10_readAny 138 = .ok (.iconst 3, 1) := by decide +kernel
theorem dX10_readAny_139 : decode cX10_readAny 139 = .ok (.invokevirtual 195, 3) := by decide +kernel
theorem dX10_readAny_142 : decode cX10_readAny 142 = .ok (.ifCond .eq 30, 3) := by decide +kernel
theorem dX10_readAny_145 : decode cX10_readAny 145 = .ok (.aload_n 0, 1) := by decide +kernel
theorem dX10_readAny_146 : decode cX10_readAny 146 = .ok (.bipush 10, 2) := by decide +kernel
theorem dX10_readAny_148 : decode cX10_readAny 148 = .ok (.invokevirtual 204, 3) := by decide +kernel
theorem dX10_readAny_151 : decode cX10_readAny 151 = .ok (.aload_n 0, 1) := by decide +kernel
theorem dX10_readAny_152 : decode cX10_readAny 152 = .ok (.bipush 11, 2) := by decide +kernel
theorem dX10_readAny_154 : decode cX10_readAny 154 = .ok (.invokevirtual 204, 3) := by decide +kernel
theorem dX10_readAny_157 : decode cX10_readAny 157 = .ok (.aload_n 0, 1) := by decide +kernel
theorem dX10_readAny_158 : decode cX10_readAny 158 = .ok (.bipush 11, 2) := by decide +kernel
theorem dX10_readAny_160 : decode cX10_readAny 160 = .ok (.invokevirtual 198, 3) := by decide +kernel
theorem dX10_readAny_163 : decode cX10_readAny 163 = .ok (.aload_n 0, 1) := by decide +kernel
theorem dX10_readAny_164 : decode cX10_readAny 164 = .ok (.invokevirtual 173, 3) := by decide +kernel
theorem dX10_readAny_167 : decode cX10_readAny 167 = .ok (.iconst 1, 1) := by decide +kernel
theorem dX10_readAny_168 : decode cX10_readAny 168 = .ok (.istore_n 2, 1) := by decide +kernel
theorem dX10_readAny_169 : decode cX10_readAny 169 = .ok (.goto (-160), 3) := by decide +kernel
theorem dX10_readAny_172 : decode cX10_readAny 172 = .ok (.aload_n 0, 1) := by decide +kernel
theorem dX10_readAny_173 : decode cX10_readAny 173 = .ok (.bipush 10, 2) := by decide +kernel
theorem dX10_readAny_175 : decode cX10_readAny 175 = .ok (.invokevirtual 204, 3) := by decide +kernel
theorem dX10_readAny_178 : decode cX10_readAny 178 = .ok (.aload_n 0, 1) := by decide +kernel
theorem dX10_readAny_179 : decode cX10_readAny 179 = .ok (.bipush 11, 2) := by decide +kernel
theorem dX10_readAny_181 : decode cX10_readAny 181 = .ok (.invokevirtual 204, 3) := by decide +kernel
theorem dX10_readAny_184 : decode cX10_readAny 184 = .ok (.iload_n 1, 1) := by decide +kernel
theorem dX10_readAny_185 : decode cX10_readAny 185 = .ok (.ifCond .ne 5, 3) := by decide +kernel
theorem dX10_readAny_188 : decode cX10_readAny 188 = .ok (.iconst 0, 1) := by decide +kernel
theorem dX10_readAny_189 : decode cX10_readAny 189 = .ok (.ireturn, 1) := by decide +kernel
theorem dX10_readAny_190 : decode cX10_readAny 190 = .ok (.aload_n 0, 1) := by decide +kernel
theorem dX10_readAny_191 : decode cX10_readAny 191 = .ok (.bipush 41, 2) := by decide +kernel
theorem dX10_readAny_193 : decode cX10_readAny 193 = .ok (.invokevirtual 180, 3) := by decide +kernel
theorem dX10_readAny_196 : decode cX10_readAny 196 = .ok (.ifCond .ne 9, 3) := by decide +kernel
theorem dX10_readAny_199 : decode cX10_readAny 199 = .ok (.aload_n 0, 1) := by decide +kernel
theorem dX10_readAny_200 : decode cX10_readAny 200 = .ok (.iconst 1, 1) := by decide +kernel
theorem dX10_readAny_201 : decode cX10_readAny 201 = .ok (.invokevirtual 166, 3) := by decide +kernel
theorem dX10_readAny_204 : decode cX10_readAny 204 = .ok (.ireturn, 1) := by decide +kernel
theorem dX10_readAny_205 : decode cX10_readAny 205 = .ok (.aload_n 0, 1) := by decide +kernel
theorem dX10_readAny_206 : decode cX10_readAny 206 = .ok (.aload_n 0, 1) := by decide +kernel
theorem dX10_readAny_207 : decode cX10_readAny 207 = .ok (.getfield 189, 3) := by decide +kernel
theorem dX10_readAny_210 : decode cX10_readAny 210 = .ok (.iconst 1, 1) := by decide +kernel
theorem dX10_readAny_211 : decode cX10_readAny 211 = .ok (.isub, 1) := by decide +kernel
theorem dX10_readAny_212 : decode cX10_readAny 212 = .ok (.putfield 189, 3) := by decide +kernel
theorem dX10_readAny_215 : decode cX10_readAny 215 = .ok (.iload_n 1, 1) := by decide +kernel
theorem dX10_readAny_216 : decode cX10_readAny 216 = .ok (.iconst 1, 1) := by decide +kernel
theorem dX10_readAny_217 : decode cX10_readAny 217 = .ok (.isub, 1) := by decide +kernel
theorem dX10_readAny_218 : decode cX10_readAny 218 = .ok (.istore_n 1, 1) := by decide +kernel
theorem dX10_readAny_219 : decode cX10_readAny 219 = .ok (.aload_n 0, 1) := by decide +kernel
theorem dX10_readAny_220 : decode cX10_readAny 220 = .ok (.aload_n 0, 1) := by decide +kernel
theorem dX10_readAny_221 : decode cX10_readAny 221 = .ok (.getfield 192, 3) := by decide +kernel
theorem dX10_readAny_224 : decode cX10_readAny 224 = .ok (.iconst 1, 1) := by decide +kernel
theorem dX10_readAny_225 : decode cX10_readAny 225 = .ok (.isub, 1) := by decide +kernel
theorem dX10_readAny_226 : decode cX10_readAny 226 = .ok (.putfield 192, 3) := by decide +kernel
theorem dX10_readAny_229 : decode cX10_readAny 229 = .ok (.aload_n 0, 1) := by decide +kernel
theorem dX10_readAny_230 : decode cX10_readAny 230 = .ok (.bipush 9, 2) := by decide +kernel
theorem dX10_readAny_232 : decode cX10_readAny 232 = .ok (.invokevirtual 204, 3) := by decide +kernel
theorem dX10_readAny_235 : decode cX10_readAny 235 = .ok (.aload_n 0, 1) := by decide +kernel
theorem dX10_readAny_236 : decode cX10_readAny 236 = .ok (.invokevirtual 173, 3) := by decide +kernel
theorem dX10_readAny_239 : decode cX10_readAny 239 = .ok (.goto (-230), 3) := by decide +kernel
theorem dX10_readText_0 : decode cX10_readText 0 = .ok (.iconst 0, 1) := by decide +kernel
theorem dX10_readText_1 : decode cX10_readText 1 = .ok (.istore_n 1, 1) := by decide +kernel
theorem dX10_readText_2 : decode cX10_readText 2 = .ok (.aload_n 0, 1) := by decide +kernel
theorem dX10_readText_3 : decode cX10_readText 3 = .ok (.getfield 138, 3) := by decide +kernel
theorem dX10_readText_6 : decode cX10_readText 6 = .ok (.iconst 2, 1) := by decide +kernel
theorem dX10_readText_7 : decode cX10_readText 7 = .ok (.if_icmp .ne 110, 3) := by decide +kernel
theorem dX10_readText_10 : decode cX10_readText 10 = .ok (.aload_n 0, 1) := by decide +kernel
theorem dX10_readText_11 : decode cX10_readText 11 = .ok (.getfield 141, 3) := by decide +kernel
theorem dX10_readText_14 : decode cX10_readText 14 = .ok (.iconst 1, 1) := by decide +kernel
theorem dX10_readText_15 : decode cX10_readText 15 = .ok (.if_icmp .gt 102, 3) := by decide +kernel
theorem dX10_readText_18 : decode cX10_readText 18 = .ok (.iload_n 1, 1) := by decide +kernel
theorem dX10_readText_19 : decode cX10_readText 19 = .ok (.bipush 16, 2) := by decide +kernel
theorem dX10_readText_21 : decode cX10_readText 21 = .ok (.if_icmp .ne 9, 3) := by decide +kernel
theorem dX10_readText_24 : decode cX10_readText 24 = .ok (.aload_n 0, 1) := by decide +kernel
theorem dX10_readText_25 : decode cX10_readText 25 = .ok (.iconst 3, 1) := by decide +kernel
theorem dX10_readText_26 : decode cX10_readText 26 = .ok (.invokevirtual 166, 3) := by decide +kernel
theorem dX10_readText_29 : decode cX10_readText 29 = .ok (.ireturn, 1) := by decide +kernel
theorem dX10_readText_30 : decode cX10_readText 30 = .ok (.bipush 16, 2) := by decide +kernel
theorem dX10_readText_32 : decode cX10_readText 32 = .ok (.iload_n 1, 1) := by decide +kernel
theorem dX10_readText_33 : decode cX10_readText 33 = .ok (.iadd, 1) := by decide +kernel
theorem dX10_readText_34 : decode cX10_readText 34 = .ok (.istore_n 2, 1) := by decide +kernel
theorem dX10_readText_35 : decode cX10_readText 35 = .ok (.aload_n 0, 1) := by decide +kernel
theorem dX10_readText_36 : decode cX10_readText 36 = .ok (.getfield 28, 3) := by decide +kernel
theorem dX10_readText_39 : decode cX10_readText 39 = .ok (.iload_n 2, 1) := by decide +kernel
theorem dX10_readText_40 : decode cX10_readText 40 = .ok (.aload_n 0, 1) := by decide +kernel
theorem dX10_readText_41 : decode cX10_readText 41 = .ok (.getfield 141, 3) := by decide +kernel
theorem dX10_readText_44 : decode cX10_readText 44 = .ok (.iastore, 1) := by decide +kernel
theorem dX10_readText_45 : decode cX10_readText 45 = .ok (.aload_n 0, 1) := by decide +kernel
theorem dX10_readText_46 : decode cX10_readText 46 = .ok (.invokevirtual 173, 3) := by decide +kernel
theorem dX10_readText_49 : decode cX10_readText 49 = .ok (.aload_n 0, 1) := by decide +kernel
theorem dX10_readText_50 : decode cX10_readText 50 = .ok (.getfield 31, 3) := by decide +kernel
theorem dX10_readText_53 : decode cX10_readText 53 = .ok (.iload_n 2, 1) := by decide +kernel
theorem dX10_readText_54 : decode cX10_readText 54 = .ok (.aload_n 0, 1) := by decide +kernel
theorem dX10_readText_55 : decode cX10_readText 55 = .ok (.getfield 163, 3) := by decide +kernel
theorem dX10_readText_58 : decode cX10_readText 58 = .ok (.iastore, 1) := by decide +kernel
theorem dX10_readText_59 : decode cX10_readText 59 = .ok (.aload_n 0, 1) := by decide +kernel
theorem dX10_readText_60 : decode cX10_readText 60 = .ok (.iconst 2, 1) := by decide +kernel
theorem dX10_readText_61 : decode cX10_readText 61 = .ok (.invokevirtual 195, 3) := by decide +kernel
theorem dX10_readText_64 : decode cX10_readText 64 = .ok (.ifCond .eq 17, 3) := by decide +kernel
theorem dX10_readText_67 : decode cX10_readText 67 = .ok (.aload_n 0, 1) := by decide +kernel
theorem dX10_readText_68 : decode cX10_readText 68 = .ok (.invokevirtual 173, 3) := by decide +kernel
theorem dX10_readText_71 : decode cX10_readText 71 = .ok (.aload_n 0, 1) := by decide +kernel
theorem dX10_readText_72 : decode cX10_readText 72 = .ok (.invokevirtual 207, 3) := by decide +kernel
theorem dX10_readText_75 : decode cX10_readText 75 = .ok (.iconst (-1), 1) := by decide +kernel
theorem dX10_readText_76 : decode cX10_readText 76 = .ok (.if_icmp .ne 5, 3) := by decide +kernel
theorem dX10_readText_79 : decode cX10_readText 79 = .ok (.iconst (-1), 1) := by decide +kernel
theorem dX10_readText_80 : decode cX10_readText 80 = .ok (.ireturn, 1) := by decide +kernel
theorem dX10_readText_81 : decode cX10_readText 81 = .ok (.aload_n 0, 1) := by decide +kernel
theorem dX10_readText_82 : decode cX10_readText 82 = .ok (.getfield 34, 3) := by decide +kernel
theorem dX10_readText_85 : decode cX10_readText 85 = .ok (.iload_n 2, 1) := by decide +kernel
theorem dX10_readText_86 : decode cX10_readText 86 = .ok (.aload_n 0, 1) := by decide +kernel
theorem dX10_readText_87 : decode cX10_readText 87 = .ok (.getfield 163, 3) := by decide +kernel
theorem dX10_readText_90 : decode cX10_readText 90 = .ok (.iastore, 1) := by decide +kernel
theorem dX10_readText_91 : decode cX10_readText 91 = .ok (.aload_n 0, 1) := by decide +kernel
theorem dX10_readText_92 : decode cX10_readText 92 = .ok (.bipush 59, 2) := by decide +kernel
theorem dX10_readText_94 : decode cX10_readText 94 = .ok (.invokevirtual 180, 3) := by decide +kernel
theorem dX10_readText_97 : decode cX10_readText 97 = .ok (.ifCond .ne 9, 3) := by decide +kernel
theorem dX10_readText_100 : decode cX10_readText 100 = .ok (.aload_n 0, 1) := by decide +kernel
theorem dX10_readText_101 : decode cX10_readText 101 = .ok (.iconst 1, 1) := by decide +kernel
theorem dX10_readText_102 : decode cX10_readText 102 = .ok (.invokevirtual 166, 3) := by decide +kernel
theorem dX10_readText_105 : decode cX10_readText 105 = .ok (.ireturn, 1) := by decide +kernel
theorem dX10_readText_106 : decode cX10_readText 106 = .ok (.aload_n 0, 1) := by decide +kernel
theorem dX10_readText_107 : decode cX10_readText 107 = .ok (.invokevirtual 173, 3) := by decide +kernel
theorem dX10_readText_110 : decode cX10_readText 110 = .ok (.iload_n 1, 1) := by decide +kernel
theorem dX10_readText_111 : decode cX10_readText 111 = .ok (.iconst 1, 1) := by decide +kernel
theorem dX10_readText_112 : decode cX10_readText 112 = .ok (.iadd, 1) := by decide +kernel
theorem dX10_readText_113 : decode cX10_readText 113 = .ok (.istore_n 1, 1) := by decide +kernel
theorem dX10_readText_114 : decode cX10_readText 114 = .ok (.goto (-112), 3) := by decide +kernel
theorem dX10_readText_117 : decode cX10_readText 117 = .ok (.aload_n 0, 1) := by decide +kernel
theorem dX10_readText_118 : decode cX10_readText 118 = .ok (.getfield 138, 3) := by decide +kernel
theorem dX10_readText_121 : decode cX10_readText 121 = .ok (.ifCond .ne 7, 3) := by decide +kernel
theorem dX10_readText_124 : decode cX10_readText 124 = .ok (.iload_n 1, 1) := by decide +kernel
theorem dX10_readText_125 : decode cX10_readText 125 = .ok (.goto 8, 3) := by decide +kernel
theorem dX10_readText_128 : decode cX10_readText 128 = .ok (.aload_n 0, 1) := by decide +kernel
theorem dX10_readText_129 : decode cX10_readText 129 = .ok (.iconst 1, 1) := by decide +kernel
theorem dX10_readText_130 : decode cX10_readText 130 = .ok (.invokevirtual 166, 3) := by decide +kernel
theorem dX10_readText_133 : decode cX10_readText 133 = .ok (.ireturn, 1) := by decide +kernel
theorem dX10_text_0 : decode cX10_text 0 = .ok (.aload_n 0, 1) := by decide +kernel
theorem dX10_text_1 : decode cX10_text 1 = .ok (.iconst 0, 1) := by decide +kernel
theorem dX10_text_2 : decode cX10_text 2 = .ok (.putfield 90, 3) := by decide +kernel
theorem dX10_text_5 : decode cX10_text 5 = .ok (.aload_n 0, 1) := by decide +kernel
theorem dX10_text_6 : decode cX10_text 6 = .ok (.iconst 0, 1) := by decide +kernel
theorem dX10_text_7 : decode cX10_text 7 = .ok (.putfield 210, 3) := by decide +kernel
theorem dX10_text_10 : decode cX10_text 10 = .ok (.aload_n 0, 1) := by decide +kernel
theorem dX10_text_11 : decode cX10_text 11 = .ok (.iconst (-1), 1) := by decide +kernel
theorem dX10_text_12 : decode cX10_text 12 = .ok (.putfield 46, 3) := by decide +kernel
theorem dX10_text_15 : decode cX10_text 15 = .ok (.aload_n 0, 1) := by decide +kernel
theorem dX10_text_16 : decode cX10_text 16 = .ok (.iconst 0, 1) := by decide +kernel
theorem dX10_text_17 : decode cX10_text 17 = .ok (.putfield 129, 3) := by decide +kernel
theorem dX10_text_20 : decode cX10_text 20 = .ok (.aload_n 0, 1) := by decide +kernel
theorem dX10_text_21 : decode cX10_text 21 = .ok (.iconst 0, 1) := by decide +kernel
theorem dX10_text_22 : decode cX10_text 22 = .ok (.putfield 163, 3) := by decide +kernel
theorem dX10_text_25 : decode cX10_text 25 = .ok (.aload_n 0, 1) := by decide +kernel
theorem dX10_text_26 : decode cX10_text 26 = .ok (.iconst 0, 1) := by decide +kernel
theorem dX10_text_27 : decode cX10_text 27 = .ok (.putfield 192, 3) := by decide +kernel
theorem dX10_text_30 : decode cX10_text 30 = .ok (.aload_n 0, 1) := by decide +kernel
theorem dX10_text_31 : decode cX10_text 31 = .ok (.invokevirtual 173, 3) := by decide +kernel
theorem dX10_text_34 : decode cX10_text 34 = .ok (.aload_n 0, 1) := by decide +kernel
theorem dX10_text_35 : decode cX10_text 35 = .ok (.invokevirtual 213, 3) := by decide +kernel
theorem dX10_text_38 : decode cX10_text 38 = .ok (.istore_n 1, 1) := by decide +kernel
theorem dX10_text_39 : decode cX10_text 39 = .ok (.aload_n 0, 1) := by decide +kernel
theorem dX10_text_40 : decode cX10_text 40 = .ok (.iconst 0, 1) := by decide +kernel
theorem dX10_text_41 : decode cX10_text 41 = .ok (.putfield 122, 3) := by decide +kernel
theorem dX10_text_44 : decode cX10_text 44 = .ok (.iload_n 1, 1) := by decide +kernel
theorem dX10_text_45 : decode cX10_text 45 = .ok (.iconst (-1), 1) := by decide +kernel
theorem dX10_text_46 : decode cX10_text 46 = .ok (.if_icmp .ne 21, 3) := by decide +kernel
theorem dX10_text_49 : decode cX10_text 49 = .ok (.aload_n 0, 1) := by decide +kernel
theorem dX10_text_50 : decode cX10_text 50 = .ok (.aload_n 0, 1) := by decide +kernel
theorem dX10_text_51 : decode cX10_text 51 = .ok (.getfield 157, 3) := by decide +kernel
theorem dX10_text_54 : decode cX10_text 54 = .ok (.putfield 210, 3) := by decide +kernel
theorem dX10_text_57 : decode cX10_text 57 = .ok (.aload_n 0, 1) := by decide +kernel
theorem dX10_text_58 : decode cX10_text 58 = .ok (.aload_n 0, 1) := by decide +kernel
theorem dX10_text_59 : decode cX10_text 59 = .ok (.getfield 160, 3) := by decide +kernel
theorem dX10_text_62 : decode cX10_text 62 = .ok (.putfield 46, 3) := by decide +kernel
theorem dX10_text_65 : decode cX10_text 65 = .ok (.iconst (-1), 1) := by decide +kernel
theorem dX10_text_66 : decode cX10_text 66 = .ok (.ireturn, 1) := by decide +kernel
theorem dX10_text_67 : decode cX10_text 67 = .ok (.iconst 0, 1) := by decide +kernel
theorem dX10_text_68 : decode cX10_text 68 = .ok (.istore_n 2, 1) := by decide +kernel
theorem dX10_text_69 : decode cX10_text 69 = .ok (.iload_n 2, 1) := by decide +kernel
theorem dX10_text_70 : decode cX10_text 70 = .ok (.iload_n 1, 1) := by decide +kernel
theorem dX10_text_71 : decode cX10_text 71 = .ok (.if_icmp .ge 54, 3) := by decide +kernel
theorem dX10_text_74 : decode cX10_text 74 = .ok (.aload_n 0, 1) := by decide +kernel
theorem dX10_text_75 : decode cX10_text 75 = .ok (.getfield 28, 3) := by decide +kernel
theorem dX10_text_78 : decode cX10_text 78 = .ok (.iload_n 2, 1) := by decide +kernel
theorem dX10_text_79 : decode cX10_text 79 = .ok (.aload_n 0, 1) := by decide +kernel
theorem dX10_text_80 : decode cX10_text 80 = .ok (.getfield 28, 3) := by decide +kernel
theorem dX10_text_83 : decode cX10_text 83 = .ok (.bipush 16, 2) := by decide +kernel
theorem dX10_text_85 : decode cX10_text 85 = .ok (.iload_n 2, 1) := by decide +kernel
theorem dX10_text_86 : decode cX10_text 86 = .ok (.iadd, 1) := by decide +kernel
theorem dX10_text_87 : decode cX10_text 87 = .ok (.iaload, 1) := by decide +kernel
theorem dX10_text_88 : decode cX10_text 88 = .ok (.iastore, 1) := by decide +kernel
theorem dX10_text_89 : decode cX10_text 89 = .ok (.aload_n 0, 1) := by decide +kernel
theorem dX10_text_90 : decode cX10_text 90 = .ok (.getfield 31, 3) := by decide +kernel
theorem dX10_text_93 : decode cX10_text 93 = .ok (.iload_n 2, 1) := by decide +kernel
theorem dX10_text_94 : decode cX10_text 94 = .ok (.aload_n 0, 1) := by decide +kernel
theorem dX10_text_95 : decode cX10_text 95 = .ok (.getfield 31, 3) := by decide +kernel
theorem dX10_text_98 : decode cX10_text 98 = .ok (.bipush 16, 2) := by decide +kernel
theorem dX10_text_100 : decode cX10_text 100 = .ok (.iload_n 2, 1) := by decide +kernel
theorem dX10_text_101 : decode cX10_text 101 = .ok (.iadd, 1) := by decide +kernel
theorem dX10_text_102 : decode cX10_text 102 = .ok (.iaload, 1) := by decide +kernel
theorem dX10_text_103 : decode cX10_text 103 = .ok (.iastore, 1) := by decide +kernel
theorem dX10_text_104 : decode cX10_text 104 = .ok (.aload_n 0, 1) := by decide +kernel
theorem dX10_text_105 : decode cX10_text 105 = .ok (.getfield 34, 3) := by decide +kernel
theorem dX10_text_108 : decode cX10_text 108 = .ok (.iload_n 2, 1) := by decide +kernel
theorem dX10_text_109 : decode cX10_text 109 = .ok (.aload_n 0, 1) := by decide +kernel
theorem dX10_text_110 : decode cX10_text 110 = .ok (.getfield 34, 3) := by decide +kernel
theorem dX10_text_113 : decode cX10_text 113 = .ok (.bipush 16, 2) := by decide +kernel
theorem dX10_text_115 : decode cX10_text 115 = .ok (.iload_n 2, 1) := by decide +kernel
theorem dX10_text_116 : decode cX10_text 116 = .ok (.iadd, 1) := by decide +kernel
theorem dX10_text_117 : decode cX10_text 117 = .ok (.iaload, 1) := by decide +kernel
theorem dX10_text_118 : decode cX10_text 118 = .ok (.iastore, 1) := by decide +kernel
theorem dX10_text_119 : decode cX10_text 119 = .ok (.iinc 2 1, 3) := by decide +kernel
theorem dX10_text_122 : decode cX10_text 122 = .ok (.goto (-53), 3) := by decide +kernel
theorem dX10_text_125 : decode cX10_text 125 = .ok (.iconst 0, 1) := by decide +kernel
theorem dX10_text_126 : decode cX10_text 126 = .ok (.istore_n 2, 1) := by decide +kernel
theorem dX10_text_127 : decode cX10_text 127 = .ok (.iload_n 2, 1) := by decide +kernel
theorem dX10_text_128 : decode cX10_text 128 = .ok (.aload_n 0, 1) := by decide +kernel
theorem dX10_text_129 : decode cX10_text 129 = .ok (.getfield 163, 3) := by decide +kernel
theorem dX10_text_132 : decode cX10_text 132 = .ok (.if_icmp .ge 41, 3) := by decide +kernel
theorem dX10_text_135 : decode cX10_text 135 = .ok (.aload_n 0, 1) := by decide +kernel
theorem dX10_text_136 : decode cX10_text 136 = .ok (.getfield 37, 3) := by decide +kernel
theorem dX10_text_139 : decode cX10_text 139 = .ok (.iload_n 2, 1) := by decide +kernel
theorem dX10_text_140 : decode cX10_text 140 = .ok (.aload_n 0, 1) := by decide +kernel
theorem dX10_text_141 : decode cX10_text 141 = .ok (.getfield 37, 3) := by decide +kernel
theorem dX10_text_144 : decode cX10_text 144 = .ok (.sipush 400, 3) := by decide +kernel
theorem dX10_text_147 : decode cX10_text 147 = .ok (.iload_n 2, 1) := by decide +kernel
theorem dX10_text_148 : decode cX10_text 148 = .ok (.iadd, 1) := by decide +kernel
theorem dX10_text_149 : decode cX10_text 149 = .ok (.iaload, 1) := by decide +kernel
theorem dX10_text_150 : decode cX10_text 150 = .ok (.iastore, 1) := by decide +kernel
theorem dX10_text_151 : decode cX10_text 151 = .ok (.aload_n 0, 1) := by decide +kernel
theorem dX10_text_152 : decode cX10_text 152 = .ok (.getfield 40, 3) := by decide +kernel
theorem dX10_text_155 : decode cX10_text 155 = .ok (.iload_n 2, 1) := by decide +kernel
theorem dX10_text_156 : decode cX10_text 156 = .ok (.aload_n 0, 1) := by decide +kernel
theorem dX10_text_157 : decode cX10_text 157 = .ok (.getfield 40, 3) := by decide +kernel
theorem dX10_text_160 : decode cX10_text 160 = .ok (.sipush 400, 3) := by decide +kernel
theorem dX10_text_163 : decode cX10_text 163 = .ok (.iload_n 2, 1) := by decide +kernel
theorem dX10_text_164 : decode cX10_text 164 = .ok (.iadd, 1) := by decide +kernel
theorem dX10_text_165 : decode cX10_text 165 = .ok (.iaload, 1) := by decide +kernel
theorem dX10_text_166 : decode cX10_text 166 = .ok (.iastore, 1) := by decide +kernel
theorem dX10_text_167 : decode cX10_text 167 = .ok (.iinc 2 1, 3) := by decide +kernel
theorem dX10_text_170 : decode cX10_text 170 = .ok (.goto (-43), 3) := by decide +kernel
theorem dX10_text_173 : decode cX10_text 173 = .ok (.aload_n 0, 1) := by decide +kernel
theorem dX10_text_174 : decode cX10_text 174 = .ok (.iload_n 1, 1) := by decide +kernel
theorem dX10_text_175 : decode cX10_text 175 = .ok (.putfield 216, 3) := by decide +kernel
theorem dX10_text_178 : decode cX10_text 178 = .ok (.iload_n 1, 1) := by decide +kernel
theorem dX10_text_179 : decode cX10_text 179 = .ok (.ireturn, 1) := by decide +kernel
theorem dX10_fault_0 : decode cX10_fault 0 = .ok (.aload_n 0, 1) := by decide +kernel
theorem dX10_fault_1 : decode cX10_fault 1 = .ok (.iconst 0, 1) := by decide +kernel
theorem dX10_fault_2 : decode cX10_fault 2 = .ok (.putfield 90, 3) := by decide +kernel
theorem dX10_fault_5 : decode cX10_fault 5 = .ok (.iload_n 1, 1) := by decide +kernel
theorem dX10_fault_6 : decode cX10_fault 6 = .ok (.ifCond .ne 10, 3) := by decide +kernel
theorem dX10_fault_9 : decode cX10_fault 9 = .ok (.aload_n 0, 1) := by decide +kernel
theorem dX10_fault_10 : decode cX10_fault 10 = .ok (.getfield 210, 3) := by decide +kernel
theorem dX10_fault_13 : decode cX10_fault 13 = .ok (.goto 16, 3) := by decide +kernel
theorem dX10_fault_16 : decode cX10_fault 16 = .ok (.iload_n 1, 1) := by decide +kernel
theorem dX10_fault_17 : decode cX10_fault 17 = .ok (.iconst 1, 1) := by decide +kernel
theorem dX10_fault_18 : decode cX10_fault 18 = .ok (.if_icmp .ne 10, 3) := by decide +kernel
theorem dX10_fault_21 : decode cX10_fault 21 = .ok (.aload_n 0, 1) := by decide +kernel
theorem dX10_fault_22 : decode cX10_fault 22 = .ok (.getfield 46, 3) := by decide +kernel
theorem dX10_fault_25 : decode cX10_fault 25 = .ok (.goto 4, 3) := by decide +kernel
theorem dX10_fault_28 : decode cX10_fault 28 = .ok (.iconst (-1), 1) := by decide +kernel
theorem dX10_fault_29 : decode cX10_fault 29 = .ok (.ireturn, 1) := by decide +kernel
theorem dX10_twoOf_0 : decode cX10_twoOf 0 = .ok (.iload_n 1, 1) := by decide +kernel
theorem dX10_twoOf_1 : decode cX10_twoOf 1 = .ok (.iconst 2, 1) := by decide +kernel
theorem dX10_twoOf_2 : decode cX10_twoOf 2 = .ok (.if_icmp .ne 7, 3) := by decide +kernel
theorem dX10_twoOf_5 : decode cX10_twoOf 5 = .ok (.iload_n 2, 1) := by decide +kernel
theorem dX10_twoOf_6 : decode cX10_twoOf 6 = .ok (.iload_n 3, 1) := by decide +kernel
theorem dX10_twoOf_7 : decode cX10_twoOf 7 = .ok (.iadd, 1) := by decide +kernel
theorem dX10_twoOf_8 : decode cX10_twoOf 8 = .ok (.ireturn, 1) := by decide +kernel
theorem dX10_twoOf_9 : decode cX10_twoOf 9 = .ok (.iload_n 1, 1) := by decide +kernel
theorem dX10_twoOf_10 : decode cX10_twoOf 10 = .ok (.iconst 3, 1) := by decide +kernel
theorem dX10_twoOf_11 : decode cX10_twoOf 11 = .ok (.if_icmp .ne 7, 3) := by decide +kernel
theorem dX10_twoOf_14 : decode cX10_twoOf 14 = .ok (.iload_n 2, 1) := by decide +kernel
theorem dX10_twoOf_15 : decode cX10_twoOf 15 = .ok (.iload_n 3, 1) := by decide +kernel
theorem dX10_twoOf_16 : decode cX10_twoOf 16 = .ok (.isub, 1) := by decide +kernel
theorem dX10_twoOf_17 : decode cX10_twoOf 17 = .ok (.ireturn, 1) := by decide +kernel
theorem dX10_twoOf_18 : decode cX10_twoOf 18 = .ok (.iload_n 1, 1) := by decide +kernel
theorem dX10_twoOf_19 : decode cX10_twoOf 19 = .ok (.iconst 4, 1) := by decide +kernel
theorem dX10_twoOf_20 : decode cX10_twoOf 20 = .ok (.if_icmp .ne 7, 3) := by decide +kernel
theorem dX10_twoOf_23 : decode cX10_twoOf 23 = .ok (.iload_n 2, 1) := by decide +kernel
theorem dX10_twoOf_24 : decode cX10_twoOf 24 = .ok (.iload_n 3, 1) := by decide +kernel
theorem dX10_twoOf_25 : decode cX10_twoOf 25 = .ok (.imul, 1) := by decide +kernel
theorem dX10_twoOf_26 : decode cX10_twoOf 26 = .ok (.ireturn, 1) := by decide +kernel
theorem dX10_twoOf_27 : decode cX10_twoOf 27 = .ok (.iload_n 1, 1) := by decide +kernel
theorem dX10_twoOf_28 : decode cX10_twoOf 28 = .ok (.iconst 5, 1) := by decide +kernel
theorem dX10_twoOf_29 : decode cX10_twoOf 29 = .ok (.if_icmp .ne 7, 3) := by decide +kernel
theorem dX10_twoOf_32 : decode cX10_twoOf 32 = .ok (.iload_n 2, 1) := by decide +kernel
theorem dX10_twoOf_33 : decode cX10_twoOf 33 = .ok (.iload_n 3, 1) := by decide +kernel
theorem dX10_twoOf_34 : decode cX10_twoOf 34 = .ok (.idiv, 1) := by decide +kernel
theorem dX10_twoOf_35 : decode cX10_twoOf 35 = .ok (.ireturn, 1) := by decide +kernel
theorem dX10_twoOf_36 : decode cX10_twoOf 36 = .ok (.iload_n 1, 1) := by decide +kernel
theorem dX10_twoOf_37 : decode cX10_twoOf 37 = .ok (.bipush 6, 2) := by decide +kernel
theorem dX10_twoOf_39 : decode cX10_twoOf 39 = .ok (.if_icmp .ne 14, 3) := by decide +kernel
theorem dX10_twoOf_42 : decode cX10_twoOf 42 = .ok (.iload_n 2, 1) := by decide +kernel
theorem dX10_twoOf_43 : decode cX10_twoOf 43 = .ok (.iload_n 3, 1) := by decide +kernel
theorem dX10_twoOf_44 : decode cX10_twoOf 44 = .ok (.if_icmp .ge 7, 3) := by decide +kernel
theorem dX10_twoOf_47 : decode cX10_twoOf 47 = .ok (.iconst 1, 1) := by decide +kernel
theorem dX10_twoOf_48 : decode cX10_twoOf 48 = .ok (.goto 4, 3) := by decide +kernel
theorem dX10_twoOf_51 : decode cX10_twoOf 51 = .ok (.iconst 0, 1) := by decide +kernel
theorem dX10_twoOf_52 : decode cX10_twoOf 52 = .ok (.ireturn, 1) := by decide +kernel
theorem dX10_twoOf_53 : decode cX10_twoOf 53 = .ok (.iload_n 1, 1) := by decide +kernel
theorem dX10_twoOf_54 : decode cX10_twoOf 54 = .ok (.bipush 7, 2) := by decide +kernel
theorem dX10_twoOf_56 : decode cX10_twoOf 56 = .ok (.if_icmp .ne 14, 3) := by decide +kernel
theorem dX10_twoOf_59 : decode cX10_twoOf 59 = .ok (.iload_n 2, 1) := by decide +kernel
theorem dX10_twoOf_60 : decode cX10_twoOf 60 = .ok (.iload_n 3, 1) := by decide +kernel
theorem dX10_twoOf_61 : decode cX10_twoOf 61 = .ok (.if_icmp .ne 7, 3) := by decide +kernel
theorem dX10_twoOf_64 : decode cX10_twoOf 64 = .ok (.iconst 1, 1) := by decide +kernel
theorem dX10_twoOf_65 : decode cX10_twoOf 65 = .ok (.goto 4, 3) := by decide +kernel
theorem dX10_twoOf_68 : decode cX10_twoOf 68 = .ok (.iconst 0, 1) := by decide +kernel
theorem dX10_twoOf_69 : decode cX10_twoOf 69 = .ok (.ireturn, 1) := by decide +kernel
theorem dX10_twoOf_70 : decode cX10_twoOf 70 = .ok (.iload_n 1, 1) := by decide +kernel
theorem dX10_twoOf_71 : decode cX10_twoOf 71 = .ok (.bipush 8, 2) := by decide +kernel
theorem dX10_twoOf_73 : decode cX10_twoOf 73 = .ok (.if_icmp .ne 14, 3) := by decide +kernel
theorem dX10_twoOf_76 : decode cX10_twoOf 76 = .ok (.iload_n 2, 1) := by decide +kernel
theorem dX10_twoOf_77 : decode cX10_twoOf 77 = .ok (.iload_n 3, 1) := by decide +kernel
theorem dX10_twoOf_78 : decode cX10_twoOf 78 = .ok (.if_icmp .le 7, 3) := by decide +kernel
theorem dX10_twoOf_81 : decode cX10_twoOf 81 = .ok (.iconst 1, 1) := by decide +kernel
theorem dX10_twoOf_82 : decode cX10_twoOf 82 = .ok (.goto 4, 3) := by decide +kernel
theorem dX10_twoOf_85 : decode cX10_twoOf 85 = .ok (.iconst 0, 1) := by decide +kernel
theorem dX10_twoOf_86 : decode cX10_twoOf 86 = .ok (.ireturn, 1) := by decide +kernel
theorem dX10_twoOf_87 : decode cX10_twoOf 87 = .ok (.iload_n 1, 1) := by decide +kernel
theorem dX10_twoOf_88 : decode cX10_twoOf 88 = .ok (.bipush 10, 2) := by decide +kernel
theorem dX10_twoOf_90 : decode cX10_twoOf 90 = .ok (.if_icmp .ne 9, 3) := by decide +kernel
theorem dX10_twoOf_93 : decode cX10_twoOf 93 = .ok (.iload_n 2, 1) := by decide +kernel
theorem dX10_twoOf_94 : decode cX10_twoOf 94 = .ok (.iload_n 3, 1) := by decide +kernel
theorem dX10_twoOf_95 : decode cX10_twoOf 95 = .ok (.imul, 1) := by decide +kernel
theorem dX10_twoOf_96 : decode cX10_twoOf 96 = .ok (.goto 14, 3) := by decide +kernel
theorem dX10_twoOf_99 : decode cX10_twoOf 99 = .ok (.iload_n 2, 1) := by decide +kernel
theorem dX10_twoOf_100 : decode cX10_twoOf 100 = .ok (.iload_n 3, 1) := by decide +kernel
theorem dX10_twoOf_101 : decode cX10_twoOf 101 = .ok (.iadd, 1) := by decide +kernel
theorem dX10_twoOf_102 : decode cX10_twoOf 102 = .ok (.ifCond .le 7, 3) := by decide +kernel
theorem dX10_twoOf_105 : decode cX10_twoOf 105 = .ok (.iconst 1, 1) := by decide +kernel
theorem dX10_twoOf_106 : decode cX10_twoOf 106 = .ok (.goto 4, 3) := by decide +kernel
theorem dX10_twoOf_109 : decode cX10_twoOf 109 = .ok (.iconst 0, 1) := by decide +kernel
theorem dX10_twoOf_110 : decode cX10_twoOf 110 = .ok (.ireturn, 1) := by decide +kernel
theorem dX10_isSo_0 : decode cX10_isSo 0 = .ok (.aload_n 0, 1) := by decide +kernel
theorem dX10_isSo_1 : decode cX10_isSo 1 = .ok (.getfield 31, 3) := by decide +kernel
theorem dX10_isSo_4 : decode cX10_isSo 4 = .ok (.iload_n 2, 1) := by decide +kernel
theorem dX10_isSo_5 : decode cX10_isSo 5 = .ok (.iaload, 1) := by decide +kernel
theorem dX10_isSo_6 : decode cX10_isSo 6 = .ok (.aload_n 0, 1) := by decide +kernel
theorem dX10_isSo_7 : decode cX10_isSo 7 = .ok (.getfield 34, 3) := by decide +kernel
theorem dX10_isSo_10 : decode cX10_isSo 10 = .ok (.iload_n 2, 1) := by decide +kernel
theorem dX10_isSo_11 : decode cX10_isSo 11 = .ok (.iaload, 1) := by decide +kernel
theorem dX10_isSo_12 : decode cX10_isSo 12 = .ok (.if_icmp .ne 5, 3) := by decide +kernel
theorem dX10_isSo_15 : decode cX10_isSo 15 = .ok (.iconst 1, 1) := by decide +kernel
theorem dX10_isSo_16 : decode cX10_isSo 16 = .ok (.ireturn, 1) := by decide +kernel
theorem dX10_isSo_17 : decode cX10_isSo 17 = .ok (.iconst 0, 1) := by decide +kernel
theorem dX10_isSo_18 : decode cX10_isSo 18 = .ok (.istore_n 3, 1) := by decide +kernel
theorem dX10_isSo_19 : decode cX10_isSo 19 = .ok (.sipush 400, 3) := by decide +kernel
theorem dX10_isSo_22 : decode cX10_isSo 22 = .ok (.iload_n 1, 1) := by decide +kernel
theorem dX10_isSo_23 : decode cX10_isSo 23 = .ok (.imul, 1) := by decide +kernel
theorem dX10_isSo_24 : decode cX10_isSo 24 = .ok (.aload_n 0, 1) := by decide +kernel
theorem dX10_isSo_25 : decode cX10_isSo 25 = .ok (.getfield 31, 3) := by decide +kernel
theorem dX10_isSo_28 : decode cX10_isSo 28 = .ok (.iload_n 2, 1) := by decide +kernel
theorem dX10_isSo_29 : decode cX10_isSo 29 = .ok (.iaload, 1) := by decide +kernel
theorem dX10_isSo_30 : decode cX10_isSo 30 = .ok (.iadd, 1) := by decide +kernel
theorem dX10_isSo_31 : decode cX10_isSo 31 = .ok (.istore 4, 2) := by decide +kernel
theorem dX10_isSo_33 : decode cX10_isSo 33 = .ok (.iload 4, 2) := by decide +kernel
theorem dX10_isSo_35 : decode cX10_isSo 35 = .ok (.sipush 400, 3) := by decide +kernel
theorem dX10_isSo_38 : decode cX10_isSo 38 = .ok (.iload_n 1, 1) := by decide +kernel
theorem dX10_isSo_39 : decode cX10_isSo 39 = .ok (.imul, 1) := by decide +kernel
theorem dX10_isSo_40 : decode cX10_isSo 40 = .ok (.aload_n 0, 1) := by decide +kernel
theorem dX10_isSo_41 : decode cX10_isSo 41 = .ok (.getfield 34, 3) := by decide +kernel
theorem dX10_isSo_44 : decode cX10_isSo 44 = .ok (.iload_n 2, 1) := by decide +kernel
theorem dX10_isSo_45 : decode cX10_isSo 45 = .ok (.iaload, 1) := by decide +kernel
theorem dX10_isSo_46 : decode cX10_isSo 46 = .ok (.iadd, 1) := by decide +kernel
theorem dX10_isSo_47 : decode cX10_isSo 47 = .ok (.if_icmp .ge 145, 3) := by decide +kernel
theorem dX10_isSo_50 : decode cX10_isSo 50 = .ok (.aload_n 0, 1) := by decide +kernel
theorem dX10_isSo_51 : decode cX10_isSo 51 = .ok (.getfield 37, 3) := by decide +kernel
theorem dX10_isSo_54 : decode cX10_isSo 54 = .ok (.iload 4, 2) := by decide +kernel
theorem dX10_isSo_56 : decode cX10_isSo 56 = .ok (.iaload, 1) := by decide +kernel
theorem dX10_isSo_57 : decode cX10_isSo 57 = .ok (.ifCond .eq 14, 3) := by decide +kernel
theorem dX10_isSo_60 : decode cX10_isSo 60 = .ok (.aload_n 0, 1) := by decide +kernel
theorem dX10_isSo_61 : decode cX10_isSo 61 = .ok (.getfield 37, 3) := by decide +kernel
theorem dX10_isSo_64 : decode cX10_isSo 64 = .ok (.iload 4, 2) := by decide +kernel
theorem dX10_isSo_66 : decode cX10_isSo 66 = .ok (.iaload, 1) := by decide +kernel
theorem dX10_isSo_67 : decode cX10_isSo 67 = .ok (.iconst 1, 1) := by decide +kernel
theorem dX10_isSo_68 : decode cX10_isSo 68 = .ok (.if_icmp .ne 48, 3) := by decide +kernel
theorem dX10_isSo_71 : decode cX10_isSo 71 = .ok (.aload_n 0, 1) := by decide +kernel
theorem dX10_isSo_72 : decode cX10_isSo 72 = .ok (.getfield 53, 3) := by decide +kernel
theorem dX10_isSo_75 : decode cX10_isSo 75 = .ok (.iload_n 3, 1) := by decide +kernel
theorem dX10_isSo_76 : decode cX10_isSo 76 = .ok (.aload_n 0, 1) := by decide +kernel
theorem dX10_isSo_77 : decode cX10_isSo 77 = .ok (.getfield 37, 3) := by decide +kernel
theorem dX10_isSo_80 : decode cX10_isSo 80 = .ok (.iload 4, 2) := by decide +kernel
theorem dX10_isSo_82 : decode cX10_isSo 82 = .ok (.iaload, 1) := by decide +kernel
theorem dX10_isSo_83 : decode cX10_isSo 83 = .ok (.ifCond .ne 13, 3) := by decide +kernel
theorem dX10_isSo_86 : decode cX10_isSo 86 = .ok (.aload_n 0, 1) := by decide +kernel
theorem dX10_isSo_87 : decode cX10_isSo 87 = .ok (.getfield 40, 3) := by decide +kernel
theorem dX10_isSo_90 : decode cX10_isSo 90 = .ok (.iload 4, 2) := by decide +kernel
theorem dX10_isSo_92 : decode cX10_isSo 92 = .ok (.iaload, 1) := by decide +kernel
theorem dX10_isSo_93 : decode cX10_isSo 93 = .ok (.goto 15, 3) := by decide +kernel
theorem dX10_isSo_96 : decode cX10_isSo 96 = .ok (.aload_n 0, 1) := by decide +kernel
theorem dX10_isSo_97 : decode cX10_isSo 97 = .ok (.getfield 50, 3) := by decide +kernel
theorem dX10_isSo_100 : decode cX10_isSo 100 = .ok (.aload_n 0, 1) := by decide +kernel
theorem dX10_isSo_101 : decode cX10_isSo 101 = .ok (.getfield 40, 3) := by decide +kernel
theorem dX10_isSo_104 : decode cX10_isSo 104 = .ok (.iload 4, 2) := by decide +kernel
theorem dX10_isSo_106 : decode cX10_isSo 106 = .ok (.iaload, 1) := by decide +kernel
theorem dX10_isSo_107 : decode cX10_isSo 107 = .ok (.iaload, 1) := by decide +kernel
theorem dX10_isSo_108 : decode cX10_isSo 108 = .ok (.iastore, 1) := by decide +kernel
theorem dX10_isSo_109 : decode cX10_isSo 109 = .ok (.iload_n 3, 1) := by decide +kernel
theorem dX10_isSo_110 : decode cX10_isSo 110 = .ok (.iconst 1, 1) := by decide +kernel
theorem dX10_isSo_111 : decode cX10_isSo 111 = .ok (.iadd, 1) := by decide +kernel
theorem dX10_isSo_112 : decode cX10_isSo 112 = .ok (.istore_n 3, 1) := by decide +kernel
theorem dX10_isSo_113 : decode cX10_isSo 113 = .ok (.goto 73, 3) := by decide +kernel
theorem dX10_isSo_116 : decode cX10_isSo 116 = .ok (.aload_n 0, 1) := by decide +kernel
theorem dX10_isSo_117 : decode cX10_isSo 117 = .ok (.getfield 37, 3) := by decide +kernel
theorem dX10_isSo_120 : decode cX10_isSo 120 = .ok (.iload 4, 2) := by decide +kernel
theorem dX10_isSo_122 : decode cX10_isSo 122 = .ok (.iaload, 1) := by decide +kernel
theorem dX10_isSo_123 : decode cX10_isSo 123 = .ok (.bipush 9, 2) := by decide +kernel
theorem dX10_isSo_125 : decode cX10_isSo 125 = .ok (.if_icmp .ne 24, 3) := by decide +kernel
theorem dX10_isSo_128 : decode cX10_isSo 128 = .ok (.aload_n 0, 1) := by decide +kernel
theorem dX10_isSo_129 : decode cX10_isSo 129 = .ok (.getfield 53, 3) := by decide +kernel
theorem dX10_isSo_132 : decode cX10_isSo 132 = .ok (.iload_n 3, 1) := by decide +kernel
theorem dX10_isSo_133 : decode cX10_isSo 133 = .ok (.iconst 1, 1) := by decide +kernel
theorem dX10_isSo_134 : decode cX10_isSo 134 = .ok (.isub, 1) := by decide +kernel
theorem dX10_isSo_135 : decode cX10_isSo 135 = .ok (.iconst 1, 1) := by decide +kernel
theorem dX10_isSo_136 : decode cX10_isSo 136 = .ok (.aload_n 0, 1) := by decide +kernel
theorem dX10_isSo_137 : decode cX10_isSo 137 = .ok (.getfield 53, 3) := by decide +kernel
theorem dX10_isSo_140 : decode cX10_isSo 140 = .ok (.iload_n 3, 1) := by decide +kernel
theorem dX10_isSo_141 : decode cX10_isSo 141 = .ok (.iconst 1, 1) := by decide +kernel
theorem dX10_isSo_142 : decode cX10_isSo 142 = .ok (.isub, 1) := by decide +kernel
theorem dX10_isSo_143 : decode cX10_isSo 143 = .ok (.iaload, 1) := by decide +kernel
theorem dX10_isSo_144 : decode cX10_isSo 144 = .ok (.isub, 1) := by decide +kernel
theorem dX10_isSo_145 : decode cX10_isSo 145 = .ok (.iastore, 1) := by decide +kernel
theorem dX10_isSo_146 : decode cX10_isSo 146 = .ok (.goto 40, 3) := by decide +kernel
theorem dX10_isSo_149 : decode cX10_isSo 149 = .ok (.iload_n 3, 1) := by decide +kernel
theorem dX10_isSo_150 : decode cX10_isSo 150 = .ok (.iconst 1, 1) := by decide +kernel
theorem dX10_isSo_151 : decode cX10_isSo 151 = .ok (.isub, 1) := by decide +kernel
theorem dX10_isSo_152 : decode cX10_isSo 152 = .ok (.istore_n 3, 1) := by decide +kernel
theorem dX10_isSo_153 : decode cX10_isSo 153 = .ok (.aload_n 0, 1) := by decide +kernel
theorem dX10_isSo_154 : decode cX10_isSo 154 = .ok (.getfield 53, 3) := by decide +kernel
theorem dX10_isSo_157 : decode cX10_isSo 157 = .ok (.iload_n 3, 1) := by decide +kernel
theorem dX10_isSo_158 : decode cX10_isSo 158 = .ok (.iconst 1, 1) := by decide +kernel
theorem dX10_isSo_159 : decode cX10_isSo 159 = .ok (.isub, 1) := by decide +kernel
theorem dX10_isSo_160 : decode cX10_isSo 160 = .ok (.aload_n 0, 1) := by decide +kernel
theorem dX10_isSo_161 : decode cX10_isSo 161 = .ok (.aload_n 0, 1) := by decide +kernel
theorem dX10_isSo_162 : decode cX10_isSo 162 = .ok (.getfield 37, 3) := by decide +kernel
theorem dX10_isSo_165 : decode cX10_isSo 165 = .ok (.iload 4, 2) := by decide +kernel
theorem dX10_isSo_167 : decode cX10_isSo 167 = .ok (.iaload, 1) := by decide +kernel
theorem dX10_isSo_168 : decode cX10_isSo 168 = .ok (.aload_n 0, 1) := by decide +kernel
theorem dX10_isSo_169 : decode cX10_isSo 169 = .ok (.getfield 53, 3) := by decide +kernel
theorem dX10_isSo_172 : decode cX10_isSo 172 = .ok (.iload_n 3, 1) := by decide +kernel
theorem dX10_isSo_173 : decode cX10_isSo 173 = .ok (.iconst 1, 1) := by decide +kernel
theorem dX10_isSo_174 : decode cX10_isSo 174 = .ok (.isub, 1) := by decide +kernel
theorem dX10_isSo_175 : decode cX10_isSo 175 = .ok (.iaload, 1) := by decide +kernel
theorem dX10_isSo_176 : decode cX10_isSo 176 = .ok (.aload_n 0, 1) := by decide +kernel
theorem dX10_isSo_177 : decode cX10_isSo 177 = .ok (.getfield 53, 3) := by decide +kernel
theorem dX10_isSo_180 : decode cX10_isSo 180 = .ok (.iload_n 3, 1) := by decide +kernel
theorem dX10_isSo_181 : decode cX10_isSo 181 = .ok (.iaload, 1) := by decide +kernel
theorem dX10_isSo_182 : decode cX10_isSo 182 = .ok (.invokevirtual 219, 3) := by decide +kernel
theorem dX10_isSo_185 : decode cX10_isSo 185 = .ok (.iastore, 1) := by decide +kernel
theorem dX10_isSo_186 : decode cX10_isSo 186 = .ok (.iinc 4 1, 3) := by decide +kernel
theorem dX10_isSo_189 : decode cX10_isSo 189 = .ok (.goto (-156), 3) := by decide +kernel
theorem dX10_isSo_192 : decode cX10_isSo 192 = .ok (.aload_n 0, 1) := by decide +kernel
theorem dX10_isSo_193 : decode cX10_isSo 193 = .ok (.getfield 53, 3) := by decide +kernel
theorem dX10_isSo_196 : decode cX10_isSo 196 = .ok (.iconst 0, 1) := by decide +kernel
theorem dX10_isSo_197 : decode cX10_isSo 197 = .ok (.iaload, 1) := by decide +kernel
theorem dX10_isSo_198 : decode cX10_isSo 198 = .ok (.ifCond .eq 7, 3) := by decide +kernel
theorem dX10_isSo_201 : decode cX10_isSo 201 = .ok (.iconst 1, 1) := by decide +kernel
theorem dX10_isSo_202 : decode cX10_isSo 202 = .ok (.goto 4, 3) := by decide +kernel
theorem dX10_isSo_205 : decode cX10_isSo 205 = .ok (.iconst 0, 1) := by decide +kernel
theorem dX10_isSo_206 : decode cX10_isSo 206 = .ok (.ireturn, 1) := by decide +kernel
theorem dX10_doesHear_0 : decode cX10_doesHear 0 = .ok (.aload_n 0, 1) := by decide +kernel
theorem dX10_doesHear_1 : decode cX10_doesHear 1 = .ok (.iload_n 1, 1) := by decide +kernel
theorem dX10_doesHear_2 : decode cX10_doesHear 2 = .ok (.invokevirtual 109, 3) := by decide +kernel
theorem dX10_doesHear_5 : decode cX10_doesHear 5 = .ok (.iconst (-1), 1) := by decide +kernel
theorem dX10_doesHear_6 : decode cX10_doesHear 6 = .ok (.if_icmp .ne 5, 3) := by decide +kernel
theorem dX10_doesHear_9 : decode cX10_doesHear 9 = .ok (.iconst 0, 1) := by decide +kernel
theorem dX10_doesHear_10 : decode cX10_doesHear 10 = .ok (.ireturn, 1) := by decide +kernel
theorem dX10_doesHear_11 : decode cX10_doesHear 11 = .ok (.aload_n 0, 1) := by decide +kernel
theorem dX10_doesHear_12 : decode cX10_doesHear 12 = .ok (.iload 4, 2) := by decide +kernel
theorem dX10_doesHear_14 : decode cX10_doesHear 14 = .ok (.aload_n 0, 1) := by decide +kernel
theorem dX10_doesHear_15 : decode cX10_doesHear 15 = .ok (.iload_n 1, 1) := by decide +kernel
theorem dX10_doesHear_16 : decode cX10_doesHear 16 = .ok (.invokevirtual 109, 3) := by decide +kernel
theorem dX10_doesHear_19 : decode cX10_doesHear 19 = .ok (.isub, 1) := by decide +kernel
theorem dX10_doesHear_20 : decode cX10_doesHear 20 = .ok (.invokevirtual 223, 3) := by decide +kernel
theorem dX10_doesHear_23 : decode cX10_doesHear 23 = .ok (.istore 7, 2) := by decide +kernel
theorem dX10_doesHear_25 : decode cX10_doesHear 25 = .ok (.aload_n 0, 1) := by decide +kernel
theorem dX10_doesHear_26 : decode cX10_doesHear 26 = .ok (.iload 5, 2) := by decide +kernel
theorem dX10_doesHear_28 : decode cX10_doesHear 28 = .ok (.aload_n 0, 1) := by decide +kernel
theorem dX10_doesHear_29 : decode cX10_doesHear 29 = .ok (.iload_n 1, 1) := by decide +kernel
theorem dX10_doesHear_30 : decode cX10_doesHear 30 = .ok (.invokevirtual 109, 3) := by decide +kernel
theorem dX10_doesHear_33 : decode cX10_doesHear 33 = .ok (.isub, 1) := by decide +kernel
theorem dX10_doesHear_34 : decode cX10_doesHear 34 = .ok (.invokevirtual 223, 3) := by decide +kernel
theorem dX10_doesHear_37 : decode cX10_doesHear 37 = .ok (.istore 8, 2) := by decide +kernel
theorem dX10_doesHear_39 : decode cX10_doesHear 39 = .ok (.aload_n 0, 1) := by decide +kernel
theorem dX10_doesHear_40 : decode cX10_doesHear 40 = .ok (.getfield 50, 3) := by decide +kernel
theorem dX10_doesHear_43 : decode cX10_doesHear 43 = .ok (.iconst 0, 1) := by decide +kernel
theorem dX10_doesHear_44 : decode cX10_doesHear 44 = .ok (.iload 4, 2) := by decide +kernel
theorem dX10_doesHear_46 : decode cX10_doesHear 46 = .ok (.iload 5, 2) := by decide +kernel
theorem dX10_doesHear_48 : decode cX10_doesHear 48 = .ok (.if_icmp .ge 8, 3) := by decide +kernel
theorem dX10_doesHear_51 : decode cX10_doesHear 51 = .ok (.iload 4, 2) := by decide +kernel
theorem dX10_doesHear_53 : decode cX10_doesHear 53 = .ok (.goto 5, 3) := by decide +kernel
theorem dX10_doesHear_56 : decode cX10_doesHear 56 = .ok (.iload 5, 2) := by decide +kernel
theorem dX10_doesHear_58 : decode cX10_doesHear 58 = .ok (.iastore, 1) := by decide +kernel
theorem dX10_doesHear_59 : decode cX10_doesHear 59 = .ok (.aload_n 0, 1) := by decide +kernel
theorem dX10_doesHear_60 : decode cX10_doesHear 60 = .ok (.getfield 50, 3) := by decide +kernel
theorem dX10_doesHear_63 : decode cX10_doesHear 63 = .ok (.iconst 1, 1) := by decide +kernel
theorem dX10_doesHear_64 : decode cX10_doesHear 64 = .ok (.iload 4, 2) := by decide +kernel
theorem dX10_doesHear_66 : decode cX10_doesHear 66 = .ok (.iload 5, 2) := by decide +kernel
theorem dX10_doesHear_68 : decode cX10_doesHear 68 = .ok (.if_icmp .ge 8, 3) := by decide +kernel
theorem dX10_doesHear_71 : decode cX10_doesHear 71 = .ok (.iload 5, 2) := by decide +kernel
theorem dX10_doesHear_73 : decode cX10_doesHear 73 = .ok (.goto 5, 3) := by decide +kernel
theorem dX10_doesHear_76 : decode cX10_doesHear 76 = .ok (.iload 4, 2) := by decide +kernel
theorem dX10_doesHear_78 : decode cX10_doesHear 78 = .ok (.iastore, 1) := by decide +kernel
theorem dX10_doesHear_79 : decode cX10_doesHear 79 = .ok (.aload_n 0, 1) := by decide +kernel
theorem dX10_doesHear_80 : decode cX10_doesHear 80 = .ok (.getfield 50, 3) := by decide +kernel
theorem dX10_doesHear_83 : decode cX10_doesHear 83 = .ok (.iconst 2, 1) := by decide +kernel
theorem dX10_doesHear_84 : decode cX10_doesHear 84 = .ok (.aload_n 0, 1) := by decide +kernel
theorem dX10_doesHear_85 : decode cX10_doesHear 85 = .ok (.iload 4, 2) := by decide +kernel
theorem dX10_doesHear_87 : decode cX10_doesHear 87 = .ok (.iload 5, 2) := by decide +kernel
theorem dX10_doesHear_89 : decode cX10_doesHear 89 = .ok (.isub, 1) := by decide +kernel
theorem dX10_doesHear_90 : decode cX10_doesHear 90 = .ok (.invokevirtual 223, 3) := by decide +kernel
theorem dX10_doesHear_93 : decode cX10_doesHear 93 = .ok (.iastore, 1) := by decide +kernel
theorem dX10_doesHear_94 : decode cX10_doesHear 94 = .ok (.aload_n 0, 1) := by decide +kernel
theorem dX10_doesHear_95 : decode cX10_doesHear 95 = .ok (.getfield 50, 3) := by decide +kernel
theorem dX10_doesHear_98 : decode cX10_doesHear 98 = .ok (.iconst 3, 1) := by decide +kernel
theorem dX10_doesHear_99 : decode cX10_doesHear 99 = .ok (.aload_n 0, 1) := by decide +kernel
theorem dX10_doesHear_100 : decode cX10_doesHear 100 = .ok (.iload_n 1, 1) := by decide +kernel
theorem dX10_doesHear_101 : decode cX10_doesHear 101 = .ok (.invokevirtual 109, 3) := by decide +kernel
theorem dX10_doesHear_104 : decode cX10_doesHear 104 = .ok (.iastore, 1) := by decide +kernel
theorem dX10_doesHear_105 : decode cX10_doesHear 105 = .ok (.aload_n 0, 1) := by decide +kernel
theorem dX10_doesHear_106 : decode cX10_doesHear 106 = .ok (.getfield 50, 3) := by decide +kernel
theorem dX10_doesHear_109 : decode cX10_doesHear 109 = .ok (.iconst 4, 1) := by decide +kernel
theorem dX10_doesHear_110 : decode cX10_doesHear 110 = .ok (.iload 7, 2) := by decide +kernel
theorem dX10_doesHear_112 : decode cX10_doesHear 112 = .ok (.iload 8, 2) := by decide +kernel
theorem dX10_doesHear_114 : decode cX10_doesHear 114 = .ok (.if_icmp .ge 8, 3) := by decide +kernel
theorem dX10_doesHear_117 : decode cX10_doesHear 117 = .ok (.iload 7, 2) := by decide +kernel
theorem dX10_doesHear_119 : decode cX10_doesHear 119 = .ok (.goto 5, 3) := by decide +kernel
theorem dX10_doesHear_122 : decode cX10_doesHear 122 = .ok (.iload 8, 2) := by decide +kernel
theorem dX10_doesHear_124 : decode cX10_doesHear 124 = .ok (.iastore, 1) := by decide +kernel
theorem dX10_doesHear_125 : decode cX10_doesHear 125 = .ok (.aload_n 0, 1) := by decide +kernel
theorem dX10_doesHear_126 : decode cX10_doesHear 126 = .ok (.getfield 50, 3) := by decide +kernel
theorem dX10_doesHear_129 : decode cX10_doesHear 129 = .ok (.iconst 5, 1) := by decide +kernel
theorem dX10_doesHear_130 : decode cX10_doesHear 130 = .ok (.aload_n 0, 1) := by decide +kernel
theorem dX10_doesHear_131 : decode cX10_doesHear 131 = .ok (.getfield 16, 3) := by decide +kernel
theorem dX10_doesHear_134 : decode cX10_doesHear 134 = .ok (.iload_n 2, 1) := by decide +kernel
theorem dX10_doesHear_135 : decode cX10_doesHear 135 = .ok (.iaload, 1) := by decide +kernel
theorem dX10_doesHear_136 : decode cX10_doesHear 136 = .ok (.aload_n 0, 1) := by decide +kernel
theorem dX10_doesHear_137 : decode cX10_doesHear 137 = .ok (.getfield 16, 3) := by decide +kernel
theorem dX10_doesHear_140 : decode cX10_doesHear 140 = .ok (.iload_n 3, 1) := by decide +kernel
theorem dX10_doesHear_141 : decode cX10_doesHear 141 = .ok (.iaload, 1) := by decide +kernel
theorem dX10_doesHear_142 : decode cX10_doesHear 142 = .ok (.iadd, 1) := by decide +kernel
theorem dX10_doesHear_143 : decode cX10_doesHear 143 = .ok (.bipush 10, 2) := by decide +kernel
theorem dX10_doesHear_145 : decode cX10_doesHear 145 = .ok (.iadd, 1) := by decide +kernel
theorem dX10_doesHear_146 : decode cX10_doesHear 146 = .ok (.iastore, 1) := by decide +kernel
theorem dX10_doesHear_147 : decode cX10_doesHear 147 = .ok (.aload_n 0, 1) := by decide +kernel
theorem dX10_doesHear_148 : decode cX10_doesHear 148 = .ok (.getfield 50, 3) := by decide +kernel
theorem dX10_doesHear_151 : decode cX10_doesHear 151 = .ok (.bipush 6, 2) := by decide +kernel
theorem dX10_doesHear_153 : decode cX10_doesHear 153 = .ok (.aload_n 0, 1) := by decide +kernel
theorem dX10_doesHear_154 : decode cX10_doesHear 154 = .ok (.iload 6, 2) := by decide +kernel
theorem dX10_doesHear_156 : decode cX10_doesHear 156 = .ok (.iconst 1, 1) := by decide +kernel
theorem dX10_doesHear_157 : decode cX10_doesHear 157 = .ok (.iload_n 1, 1) := by decide +kernel
theorem dX10_doesHear_158 : decode cX10_doesHear 158 = .ok (.ishl, 1) := by decide +kernel
theorem dX10_doesHear_159 : decode cX10_doesHear 159 = .ok (.iconst (-1), 1) := by decide +kernel
theorem dX10_doesHear_160 : decode cX10_doesHear 160 = .ok (.ixor, 1) := by decide +kernel
theorem dX10_doesHear_161 : decode cX10_doesHear 161 = .ok (.iand, 1) := by decide +kernel
theorem dX10_doesHear_162 : decode cX10_doesHear 162 = .ok (.iconst 1, 1) := by decide +kernel
theorem dX10_doesHear_163 : decode cX10_doesHear 163 = .ok (.iload_n 2, 1) := by decide +kernel
theorem dX10_doesHear_164 : decode cX10_doesHear 164 = .ok (.ishl, 1) := by decide +kernel
theorem dX10_doesHear_165 : decode cX10_doesHear 165 = .ok (.iconst (-1), 1) := by decide +kernel
theorem dX10_doesHear_166 : decode cX10_doesHear 166 = .ok (.ixor, 1) := by decide +kernel
theorem dX10_doesHear_167 : decode cX10_doesHear 167 = .ok (.iand, 1) := by decide +kernel
theorem dX10_doesHear_168 : decode cX10_doesHear 168 = .ok (.iconst 1, 1) := by decide +kernel
theorem dX10_doesHear_169 : decode cX10_doesHear 169 = .ok (.iload_n 3, 1) := by decide +kernel
theorem dX10_doesHear_170 : decode cX10_doesHear 170 = .ok (.ishl, 1) := by decide +kernel
theorem dX10_doesHear_171 : decode cX10_doesHear 171 = .ok (.iconst (-1), 1) := by decide +kernel
theorem dX10_doesHear_172 : decode cX10_doesHear 172 = .ok (.ixor, 1) := by decide +kernel
theorem dX10_doesHear_173 : decode cX10_doesHear 173 = .ok (.iand, 1) := by decide +kernel
theorem dX10_doesHear_174 : decode cX10_doesHear 174 = .ok (.invokevirtual 226, 3) := by decide +kernel
theorem dX10_doesHear_177 : decode cX10_doesHear 177 = .ok (.iastore, 1) := by decide +kernel
theorem dX10_doesHear_178 : decode cX10_doesHear 178 = .ok (.aload_n 0, 1) := by decide +kernel
theorem dX10_doesHear_179 : decode cX10_doesHear 179 = .ok (.getfield 50, 3) := by decide +kernel
theorem dX10_doesHear_182 : decode cX10_doesHear 182 = .ok (.bipush 7, 2) := by decide +kernel
theorem dX10_doesHear_184 : decode cX10_doesHear 184 = .ok (.aload_n 0, 1) := by decide +kernel
theorem dX10_doesHear_185 : decode cX10_doesHear 185 = .ok (.getfield 7, 3) := by decide +kernel
theorem dX10_doesHear_188 : decode cX10_doesHear 188 = .ok (.bipush 11, 2) := by decide +kernel
theorem dX10_doesHear_190 : decode cX10_doesHear 190 = .ok (.iaload, 1) := by decide +kernel
theorem dX10_doesHear_191 : decode cX10_doesHear 191 = .ok (.iastore, 1) := by decide +kernel
theorem dX10_doesHear_192 : decode cX10_doesHear 192 = .ok (.aload_n 0, 1) := by decide +kernel
theorem dX10_doesHear_193 : decode cX10_doesHear 193 = .ok (.getfield 50, 3) := by decide +kernel
theorem dX10_doesHear_196 : decode cX10_doesHear 196 = .ok (.bipush 8, 2) := by decide +kernel
theorem dX10_doesHear_198 : decode cX10_doesHear 198 = .ok (.iload_n 1, 1) := by decide +kernel
theorem dX10_doesHear_199 : decode cX10_doesHear 199 = .ok (.iastore, 1) := by decide +kernel
theorem dX10_doesHear_200 : decode cX10_doesHear 200 = .ok (.iconst 0, 1) := by decide +kernel
theorem dX10_doesHear_201 : decode cX10_doesHear 201 = .ok (.istore 9, 2) := by decide +kernel
theorem dX10_doesHear_203 : decode cX10_doesHear 203 = .ok (.iload 9, 2) := by decide +kernel
theorem dX10_doesHear_205 : decode cX10_doesHear 205 = .ok (.aload_n 0, 1) := by decide +kernel
theorem dX10_doesHear_206 : decode cX10_doesHear 206 = .ok (.getfield 216, 3) := by decide +kernel
theorem dX10_doesHear_209 : decode cX10_doesHear 209 = .ok (.if_icmp .ge 35, 3) := by decide +kernel
theorem dX10_doesHear_212 : decode cX10_doesHear 212 = .ok (.aload_n 0, 1) := by decide +kernel
theorem dX10_doesHear_213 : decode cX10_doesHear 213 = .ok (.iconst 0, 1) := by decide +kernel
theorem dX10_doesHear_214 : decode cX10_doesHear 214 = .ok (.iload 9, 2) := by decide +kernel
theorem dX10_doesHear_216 : decode cX10_doesHear 216 = .ok (.invokevirtual 229, 3) := by decide +kernel
theorem dX10_doesHear_219 : decode cX10_doesHear 219 = .ok (.ifCond .eq 19, 3) := by decide +kernel
theorem dX10_doesHear_222 : decode cX10_doesHear 222 = .ok (.aload_n 0, 1) := by decide +kernel
theorem dX10_doesHear_223 : decode cX10_doesHear 223 = .ok (.getfield 28, 3) := by decide +kernel
theorem dX10_doesHear_226 : decode cX10_doesHear 226 = .ok (.iload 9, 2) := by decide +kernel
theorem dX10_doesHear_228 : decode cX10_doesHear 228 = .ok (.iaload, 1) := by decide +kernel
theorem dX10_doesHear_229 : decode cX10_doesHear 229 = .ok (.ifCond .ne 7, 3) := by decide +kernel
theorem dX10_doesHear_232 : decode cX10_doesHear 232 = .ok (.iconst 1, 1) := by decide +kernel
theorem dX10_doesHear_233 : decode cX10_doesHear 233 = .ok (.goto 4, 3) := by decide +kernel
theorem dX10_doesHear_236 : decode cX10_doesHear 236 = .ok (.iconst 0, 1) := by decide +kernel
