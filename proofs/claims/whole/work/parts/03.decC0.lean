theorem dX9_init_0 : decode cX9_init 0 = .ok (.aload_n 0, 1) := by decide +kernel
theorem dX9_init_1 : decode cX9_init 1 = .ok (.invokespecial 1, 3) := by decide +kernel
theorem dX9_init_4 : decode cX9_init 4 = .ok (.aload_n 0, 1) := by decide +kernel
theorem dX9_init_5 : decode cX9_init 5 = .ok (.bipush 16, 2) := by decide +kernel
theorem dX9_init_7 : decode cX9_init 7 = .ok (.newarray .int, 2) := by decide +kernel
theorem dX9_init_9 : decode cX9_init 9 = .ok (.putfield 7, 3) := by decide +kernel
theorem dX9_init_12 : decode cX9_init 12 = .ok (.aload_n 0, 1) := by decide +kernel
theorem dX9_init_13 : decode cX9_init 13 = .ok (.bipush 16, 2) := by decide +kernel
theorem dX9_init_15 : decode cX9_init 15 = .ok (.newarray .int, 2) := by decide +kernel
theorem dX9_init_17 : decode cX9_init 17 = .ok (.putfield 13, 3) := by decide +kernel
theorem dX9_init_20 : decode cX9_init 20 = .ok (.aload_n 0, 1) := by decide +kernel
theorem dX9_init_21 : decode cX9_init 21 = .ok (.iconst 4, 1) := by decide +kernel
theorem dX9_init_22 : decode cX9_init 22 = .ok (.newarray .int, 2) := by decide +kernel
theorem dX9_init_24 : decode cX9_init 24 = .ok (.putfield 16, 3) := by decide +kernel
theorem dX9_init_27 : decode cX9_init 27 = .ok (.aload_n 0, 1) := by decide +kernel
theorem dX9_init_28 : decode cX9_init 28 = .ok (.sipush 160, 3) := by decide +kernel
theorem dX9_init_31 : decode cX9_init 31 = .ok (.newarray .int, 2) := by decide +kernel
theorem dX9_init_33 : decode cX9_init 33 = .ok (.putfield 19, 3) := by decide +kernel
theorem dX9_init_36 : decode cX9_init 36 = .ok (.aload_n 0, 1) := by decide +kernel
theorem dX9_init_37 : decode cX9_init 37 = .ok (.sipush 1200, 3) := by decide +kernel
theorem dX9_init_40 : decode cX9_init 40 = .ok (.newarray .int, 2) := by decide +kernel
theorem dX9_init_42 : decode cX9_init 42 = .ok (.putfield 22, 3) := by decide +kernel
theorem dX9_init_45 : decode cX9_init 45 = .ok (.aload_n 0, 1) := by decide +kernel
theorem dX9_init_46 : decode cX9_init 46 = .ok (.bipush 24, 2) := by decide +kernel
theorem dX9_init_48 : decode cX9_init 48 = .ok (.newarray .int, 2) := by decide +kernel
theorem dX9_init_50 : decode cX9_init 50 = .ok (.putfield 25, 3) := by decide +kernel
theorem dX9_init_53 : decode cX9_init 53 = .ok (.aload_n 0, 1) := by decide +kernel
theorem dX9_init_54 : decode cX9_init 54 = .ok (.bipush 36, 2) := by decide +kernel
theorem dX9_init_56 : decode cX9_init 56 = .ok (.newarray .int, 2) := by decide +kernel
theorem dX9_init_58 : decode cX9_init 58 = .ok (.putfield 28, 3) := by decide +kernel
theorem dX9_init_61 : decode cX9_init 61 = .ok (.aload_n 0, 1) := by decide +kernel
theorem dX9_init_62 : decode cX9_init 62 = .ok (.iconst 4, 1) := by decide +kernel
theorem dX9_init_63 : decode cX9_init 63 = .ok (.newarray .int, 2) := by decide +kernel
theorem dX9_init_65 : decode cX9_init 65 = .ok (.dup, 1) := by decide +kernel
theorem dX9_init_66 : decode cX9_init 66 = .ok (.iconst 0, 1) := by decide +kernel
theorem dX9_init_67 : decode cX9_init 67 = .ok (.iconst (-1), 1) := by decide +kernel
theorem dX9_init_68 : decode cX9_init 68 = .ok (.iastore, 1) := by decide +kernel
theorem dX9_init_69 : decode cX9_init 69 = .ok (.dup, 1) := by decide +kernel
theorem dX9_init_70 : decode cX9_init 70 = .ok (.iconst 1, 1) := by decide +kernel
theorem dX9_init_71 : decode cX9_init 71 = .ok (.iconst (-1), 1) := by decide +kernel
theorem dX9_init_72 : decode cX9_init 72 = .ok (.iastore, 1) := by decide +kernel
theorem dX9_init_73 : decode cX9_init 73 = .ok (.dup, 1) := by decide +kernel
theorem dX9_init_74 : decode cX9_init 74 = .ok (.iconst 2, 1) := by decide +kernel
theorem dX9_init_75 : decode cX9_init 75 = .ok (.iconst (-1), 1) := by decide +kernel
theorem dX9_init_76 : decode cX9_init 76 = .ok (.iastore, 1) := by decide +kernel
theorem dX9_init_77 : decode cX9_init 77 = .ok (.dup, 1) := by decide +kernel
theorem dX9_init_78 : decode cX9_init 78 = .ok (.iconst 3, 1) := by decide +kernel
theorem dX9_init_79 : decode cX9_init 79 = .ok (.iconst (-1), 1) := by decide +kernel
theorem dX9_init_80 : decode cX9_init 80 = .ok (.iastore, 1) := by decide +kernel
theorem dX9_init_81 : decode cX9_init 81 = .ok (.putfield 31, 3) := by decide +kernel
theorem dX9_init_84 : decode cX9_init 84 = .ok (.aload_n 0, 1) := by decide +kernel
theorem dX9_init_85 : decode cX9_init 85 = .ok (.iconst 4, 1) := by decide +kernel
theorem dX9_init_86 : decode cX9_init 86 = .ok (.newarray .int, 2) := by decide +kernel
theorem dX9_init_88 : decode cX9_init 88 = .ok (.putfield 34, 3) := by decide +kernel
theorem dX9_init_91 : decode cX9_init 91 = .ok (.aload_n 0, 1) := by decide +kernel
theorem dX9_init_92 : decode cX9_init 92 = .ok (.sipush 160, 3) := by decide +kernel
theorem dX9_init_95 : decode cX9_init 95 = .ok (.newarray .int, 2) := by decide +kernel
theorem dX9_init_97 : decode cX9_init 97 = .ok (.putfield 37, 3) := by decide +kernel
theorem dX9_init_100 : decode cX9_init 100 = .ok (.aload_n 0, 1) := by decide +kernel
theorem dX9_init_101 : decode cX9_init 101 = .ok (.bipush 31, 2) := by decide +kernel
theorem dX9_init_103 : decode cX9_init 103 = .ok (.newarray .int, 2) := by decide +kernel
theorem dX9_init_105 : decode cX9_init 105 = .ok (.dup, 1) := by decide +kernel
theorem dX9_init_106 : decode cX9_init 106 = .ok (.iconst 0, 1) := by decide +kernel
theorem dX9_init_107 : decode cX9_init 107 = .ok (.bipush 102, 2) := by decide +kernel
theorem dX9_init_109 : decode cX9_init 109 = .ok (.iastore, 1) := by decide +kernel
theorem dX9_init_110 : decode cX9_init 110 = .ok (.dup, 1) := by decide +kernel
theorem dX9_init_111 : decode cX9_init 111 = .ok (.iconst 1, 1) := by decide +kernel
theorem dX9_init_112 : decode cX9_init 112 = .ok (.bipush 97, 2) := by decide +kernel
theorem dX9_init_114 : decode cX9_init 114 = .ok (.iastore, 1) := by decide +kernel
theorem dX9_init_115 : decode cX9_init 115 = .ok (.dup, 1) := by decide +kernel
theorem dX9_init_116 : decode cX9_init 116 = .ok (.iconst 2, 1) := by decide +kernel
theorem dX9_init_117 : decode cX9_init 117 = .ok (.bipush 108, 2) := by decide +kernel
theorem dX9_init_119 : decode cX9_init 119 = .ok (.iastore, 1) := by decide +kernel
theorem dX9_init_120 : decode cX9_init 120 = .ok (.dup, 1) := by decide +kernel
theorem dX9_init_121 : decode cX9_init 121 = .ok (.iconst 3, 1) := by decide +kernel
theorem dX9_init_122 : decode cX9_init 122 = .ok (.bipush 108, 2) := by decide +kernel
theorem dX9_init_124 : decode cX9_init 124 = .ok (.iastore, 1) := by decide +kernel
theorem dX9_init_125 : decode cX9_init 125 = .ok (.dup, 1) := by decide +kernel
theorem dX9_init_126 : decode cX9_init 126 = .ok (.iconst 4, 1) := by decide +kernel
theorem dX9_init_127 : decode cX9_init 127 = .ok (.bipush 115, 2) := by decide +kernel
theorem dX9_init_129 : decode cX9_init 129 = .ok (.iastore, 1) := by decide +kernel
theorem dX9_init_130 : decode cX9_init 130 = .ok (.dup, 1) := by decide +kernel
theorem dX9_init_131 : decode cX9_init 131 = .ok (.iconst 5, 1) := by decide +kernel
theorem dX9_init_132 : decode cX9_init 132 = .ok (.bipush 32, 2) := by decide +kernel
theorem dX9_init_134 : decode cX9_init 134 = .ok (.iastore, 1) := by decide +kernel
theorem dX9_init_135 : decode cX9_init 135 = .ok (.dup, 1) := by decide +kernel
theorem dX9_init_136 : decode cX9_init 136 = .ok (.bipush 6, 2) := by decide +kernel
theorem dX9_init_138 : decode cX9_init 138 = .ok (.bipush 50, 2) := by decide +kernel
theorem dX9_init_140 : decode cX9_init 140 = .ok (.iastore, 1) := by decide +kernel
theorem dX9_init_141 : decode cX9_init 141 = .ok (.dup, 1) := by decide +kernel
theorem dX9_init_142 : decode cX9_init 142 = .ok (.bipush 7, 2) := by decide +kernel
theorem dX9_init_144 : decode cX9_init 144 = .ok (.bipush 32, 2) := by decide +kernel
theorem dX9_init_146 : decode cX9_init 146 = .ok (.iastore, 1) := by decide +kernel
theorem dX9_init_147 : decode cX9_init 147 = .ok (.dup, 1) := by decide +kernel
theorem dX9_init_148 : decode cX9_init 148 = .ok (.bipush 8, 2) := by decide +kernel
theorem dX9_init_150 : decode cX9_init 150 = .ok (.bipush 59, 2) := by decide +kernel
theorem dX9_init_152 : decode cX9_init 152 = .ok (.iastore, 1) := by decide +kernel
theorem dX9_init_153 : decode cX9_init 153 = .ok (.dup, 1) := by decide +kernel
theorem dX9_init_154 : decode cX9_init 154 = .ok (.bipush 9, 2) := by decide +kernel
theorem dX9_init_156 : decode cX9_init 156 = .ok (.bipush 32, 2) := by decide +kernel
theorem dX9_init_158 : decode cX9_init 158 = .ok (.iastore, 1) := by decide +kernel
theorem dX9_init_159 : decode cX9_init 159 = .ok (.dup, 1) := by decide +kernel
theorem dX9_init_160 : decode cX9_init 160 = .ok (.bipush 10, 2) := by decide +kernel
theorem dX9_init_162 : decode cX9_init 162 = .ok (.bipush 116, 2) := by decide +kernel
theorem dX9_init_164 : decode cX9_init 164 = .ok (.iastore, 1) := by decide +kernel
theorem dX9_init_165 : decode cX9_init 165 = .ok (.dup, 1) := by decide +kernel
theorem dX9_init_166 : decode cX9_init 166 = .ok (.bipush 11, 2) := by decide +kernel
theorem dX9_init_168 : decode cX9_init 168 = .ok (.bipush 97, 2) := by decide +kernel
theorem dX9_init_170 : decode cX9_init 170 = .ok (.iastore, 1) := by decide +kernel
theorem dX9_init_171 : decode cX9_init 171 = .ok (.dup, 1) := by decide +kernel
theorem dX9_init_172 : decode cX9_init 172 = .ok (.bipush 12, 2) := by decide +kernel
theorem dX9_init_174 : decode cX9_init 174 = .ok (.bipush 107, 2) := by decide +kernel
theorem dX9_init_176 : decode cX9_init 176 = .ok (.iastore, 1) := by decide +kernel
theorem dX9_init_177 : decode cX9_init 177 = .ok (.dup, 1) := by decide +kernel
theorem dX9_init_178 : decode cX9_init 178 = .ok (.bipush 13, 2) := by decide +kernel
theorem dX9_init_180 : decode cX9_init 180 = .ok (.bipush 101, 2) := by decide +kernel
theorem dX9_init_182 : decode cX9_init 182 = .ok (.iastore, 1) := by decide +kernel
theorem dX9_init_183 : decode cX9_init 183 = .ok (.dup, 1) := by decide +kernel
theorem dX9_init_184 : decode cX9_init 184 = .ok (.bipush 14, 2) := by decide +kernel
theorem dX9_init_186 : decode cX9_init 186 = .ok (.bipush 115, 2) := by decide +kernel
theorem dX9_init_188 : decode cX9_init 188 = .ok (.iastore, 1) := by decide +kernel
theorem dX9_init_189 : decode cX9_init 189 = .ok (.dup, 1) := by decide +kernel
theorem dX9_init_190 : decode cX9_init 190 = .ok (.bipush 15, 2) := by decide +kernel
theorem dX9_init_192 : decode cX9_init 192 = .ok (.bipush 32, 2) := by decide +kernel
theorem dX9_init_194 : decode cX9_init 194 = .ok (.iastore, 1) := by decide +kernel
theorem dX9_init_195 : decode cX9_init 195 = .ok (.dup, 1) := by decide +kernel
theorem dX9_init_196 : decode cX9_init 196 = .ok (.bipush 16, 2) := by decide +kernel
theorem dX9_init_198 : decode cX9_init 198 = .ok (.bipush 51, 2) := by decide +kernel
theorem dX9_init_200 : decode cX9_init 200 = .ok (.iastore, 1) := by decide +kernel
theorem dX9_init_201 : decode cX9_init 201 = .ok (.dup, 1) := by decide +kernel
theorem dX9_init_202 : decode cX9_init 202 = .ok (.bipush 17, 2) := by decide +kernel
theorem dX9_init_204 : decode cX9_init 204 = .ok (.bipush 32, 2) := by decide +kernel
theorem dX9_init_206 : decode cX9_init 206 = .ok (.iastore, 1) := by decide +kernel
theorem dX9_init_207 : decode cX9_init 207 = .ok (.dup, 1) := by decide +kernel
theorem dX9_init_208 : decode cX9_init 208 = .ok (.bipush 18, 2) := by decide +kernel
theorem dX9_init_210 : decode cX9_init 210 = .ok (.bipush 59, 2) := by decide +kernel
theorem dX9_init_212 : decode cX9_init 212 = .ok (.iastore, 1) := by decide +kernel
theorem dX9_init_213 : decode cX9_init 213 = .ok (.dup, 1) := by decide +kernel
theorem dX9_init_214 : decode cX9_init 214 = .ok (.bipush 19, 2) := by decide +kernel
theorem dX9_init_216 : decode cX9_init 216 = .ok (.bipush 32, 2) := by decide +kernel
theorem dX9_init_218 : decode cX9_init 218 = .ok (.iastore, 1) := by decide +kernel
theorem dX9_init_219 : decode cX9_init 219 = .ok (.dup, 1) := by decide +kernel
theorem dX9_init_220 : decode cX9_init 220 = .ok (.bipush 20, 2) := by decide +kernel
theorem dX9_init_222 : decode cX9_init 222 = .ok (.bipush 99, 2) := by decide +kernel
theorem dX9_init_224 : decode cX9_init 224 = .ok (.iastore, 1) := by decide +kernel
theorem dX9_init_225 : decode cX9_init 225 = .ok (.dup, 1) := by decide +kernel
theorem dX9_init_226 : decode cX9_init 226 = .ok (.bipush 21, 2) := by decide +kernel
theorem dX9_init_228 : decode cX9_init 228 = .ok (.bipush 108, 2) := by decide +kernel
theorem dX9_init_230 : decode cX9_init 230 = .ok (.iastore, 1) := by decide +kernel
theorem dX9_init_231 : decode cX9_init 231 = .ok (.dup, 1) := by decide +kernel
theorem dX9_init_232 : decode cX9_init 232 = .ok (.bipush 22, 2) := by decide +kernel
theorem dX9_init_234 : decode cX9_init 234 = .ok (.bipush 111, 2) := by decide +kernel
theorem dX9_init_236 : decode cX9_init 236 = .ok (.iastore, 1) := by decide +kernel
theorem dX9_init_237 : decode cX9_init 237 = .ok (.dup, 1) := by decide +kernel
theorem dX9_init_238 : decode cX9_init 238 = .ok (.bipush 23, 2) := by decide +kernel
theorem dX9_init_240 : decode cX9_init 240 = .ok (.bipush 115, 2) := by decide +kernel
theorem dX9_init_242 : decode cX9_init 242 = .ok (.iastore, 1) := by decide +kernel
theorem dX9_init_243 : decode cX9_init 243 = .ok (.dup, 1) := by decide +kernel
theorem dX9_init_244 : decode cX9_init 244 = .ok (.bipush 24, 2) := by decide +kernel
theorem dX9_init_246 : decode cX9_init 246 = .ok (.bipush 101, 2) := by decide +kernel
theorem dX9_init_248 : decode cX9_init 248 = .ok (.iastore, 1) := by decide +kernel
theorem dX9_init_249 : decode cX9_init 249 = .ok (.dup, 1) := by decide +kernel
theorem dX9_init_250 : decode cX9_init 250 = .ok (.bipush 25, 2) := by decide +kernel
theorem dX9_init_252 : decode cX9_init 252 = .ok (.bipush 115, 2) := by decide +kernel
theorem dX9_init_254 : decode cX9_init 254 = .ok (.iastore, 1) := by decide +kernel
theorem dX9_init_255 : decode cX9_init 255 = .ok (.dup, 1) := by decide +kernel
theorem dX9_init_256 : decode cX9_init 256 = .ok (.bipush 26, 2) := by decide +kernel
theorem dX9_init_258 : decode cX9_init 258 = .ok (.bipush 32, 2) := by decide +kernel
theorem dX9_init_260 : decode cX9_init 260 = .ok (.iastore, 1) := by decide +kernel
theorem dX9_init_261 : decode cX9_init 261 = .ok (.dup, 1) := by decide +kernel
theorem dX9_init_262 : decode cX9_init 262 = .ok (.bipush 27, 2) := by decide +kernel
theorem dX9_init_264 : decode cX9_init 264 = .ok (.bipush 49, 2) := by decide +kernel
theorem dX9_init_266 : decode cX9_init 266 = .ok (.iastore, 1) := by decide +kernel
theorem dX9_init_267 : decode cX9_init 267 = .ok (.dup, 1) := by decide +kernel
theorem dX9_init_268 : decode cX9_init 268 = .ok (.bipush 28, 2) := by decide +kernel
theorem dX9_init_270 : decode cX9_init 270 = .ok (.bipush 48, 2) := by decide +kernel
theorem dX9_init_272 : decode cX9_init 272 = .ok (.iastore, 1) := by decide +kernel
theorem dX9_init_273 : decode cX9_init 273 = .ok (.dup, 1) := by decide +kernel
theorem dX9_init_274 : decode cX9_init 274 = .ok (.bipush 29, 2) := by decide +kernel
theorem dX9_init_276 : decode cX9_init 276 = .ok (.bipush 32, 2) := by decide +kernel
theorem dX9_init_278 : decode cX9_init 278 = .ok (.iastore, 1) := by decide +kernel
theorem dX9_init_279 : decode cX9_init 279 = .ok (.dup, 1) := by decide +kernel
theorem dX9_init_280 : decode cX9_init 280 = .ok (.bipush 30, 2) := by decide +kernel
theorem dX9_init_282 : decode cX9_init 282 = .ok (.bipush 59, 2) := by decide +kernel
theorem dX9_init_284 : decode cX9_init 284 = .ok (.iastore, 1) := by decide +kernel
theorem dX9_init_285 : decode cX9_init 285 = .ok (.putfield 40, 3) := by decide +kernel
theorem dX9_init_288 : decode cX9_init 288 = .ok (.aload_n 0, 1) := by decide +kernel
theorem dX9_init_289 : decode cX9_init 289 = .ok (.bipush 96, 2) := by decide +kernel
theorem dX9_init_291 : decode cX9_init 291 = .ok (.newarray .int, 2) := by decide +kernel
theorem dX9_init_293 : decode cX9_init 293 = .ok (.dup, 1) := by decide +kernel
theorem dX9_init_294 : decode cX9_init 294 = .ok (.iconst 0, 1) := by decide +kernel
theorem dX9_init_295 : decode cX9_init 295 = .ok (.bipush 102, 2) := by decide +kernel
theorem dX9_init_297 : decode cX9_init 297 = .ok (.iastore, 1) := by decide +kernel
theorem dX9_init_298 : decode cX9_init 298 = .ok (.dup, 1) := by decide +kernel
theorem dX9_init_299 : decode cX9_init 299 = .ok (.iconst 1, 1) := by decide +kernel
theorem dX9_init_300 : decode cX9_init 300 = .ok (.bipush 97, 2) := by decide +kernel
theorem dX9_init_302 : decode cX9_init 302 = .ok (.iastore, 1) := by decide +kernel
theorem dX9_init_303 : decode cX9_init 303 = .ok (.dup, 1) := by decide +kernel
theorem dX9_init_304 : decode cX9_init 304 = .ok (.iconst 2, 1) := by decide +kernel
theorem dX9_init_305 : decode cX9_init 305 = .ok (.bipush 108, 2) := by decide +kernel
theorem dX9_init_307 : decode cX9_init 307 = .ok (.iastore, 1) := by decide +kernel
theorem dX9_init_308 : decode cX9_init 308 = .ok (.dup, 1) := by decide +kernel
theorem dX9_init_309 : decode cX9_init 309 = .ok (.iconst 3, 1) := by decide +kernel
theorem dX9_init_310 : decode cX9_init 310 = .ok (.bipush 108, 2) := by decide +kernel
theorem dX9_init_312 : decode cX9_init 312 = .ok (.iastore, 1) := by decide +kernel
theorem dX9_init_313 : decode cX9_init 313 = .ok (.dup, 1) := by decide +kernel
theorem dX9_init_314 : decode cX9_init 314 = .ok (.iconst 4, 1) := by decide +kernel
theorem dX9_init_315 : decode cX9_init 315 = .ok (.bipush 115, 2) := by decide +kernel
theorem dX9_init_317 : decode cX9_init 317 = .ok (.iastore, 1) := by decide +kernel
theorem dX9_init_318 : decode cX9_init 318 = .ok (.dup, 1) := by decide +kernel
theorem dX9_init_319 : decode cX9_init 319 = .ok (.iconst 5, 1) := by decide +kernel
theorem dX9_init_320 : decode cX9_init 320 = .ok (.bipush 32, 2) := by decide +kernel
theorem dX9_init_322 : decode cX9_init 322 = .ok (.iastore, 1) := by decide +kernel
theorem dX9_init_323 : decode cX9_init 323 = .ok (.dup, 1) := by decide +kernel
theorem dX9_init_324 : decode cX9_init 324 = .ok (.bipush 6, 2) := by decide +kernel
theorem dX9_init_326 : decode cX9_init 326 = .ok (.bipush 32, 2) := by decide +kernel
theorem dX9_init_328 : decode cX9_init 328 = .ok (.iastore, 1) := by decide +kernel
theorem dX9_init_329 : decode cX9_init 329 = .ok (.dup, 1) := by decide +kernel
theorem dX9_init_330 : decode cX9_init 330 = .ok (.bipush 7, 2) := by decide +kernel
theorem dX9_init_332 : decode cX9_init 332 = .ok (.bipush 32, 2) := by decide +kernel
theorem dX9_init_334 : decode cX9_init 334 = .ok (.iastore, 1) := by decide +kernel
theorem dX9_init_335 : decode cX9_init 335 = .ok (.dup, 1) := by decide +kernel
theorem dX9_init_336 : decode cX9_init 336 = .ok (.bipush 8, 2) := by decide +kernel
theorem dX9_init_338 : decode cX9_init 338 = .ok (.bipush 116, 2) := by decide +kernel
theorem dX9_init_340 : decode cX9_init 340 = .ok (.iastore, 1) := by decide +kernel
theorem dX9_init_341 : decode cX9_init 341 = .ok (.dup, 1) := by decide +kernel
theorem dX9_init_342 : decode cX9_init 342 = .ok (.bipush 9, 2) := by decide +kernel
theorem dX9_init_344 : decode cX9_init 344 = .ok (.bipush 97, 2) := by decide +kernel
theorem dX9_init_346 : decode cX9_init 346 = .ok (.iastore, 1) := by decide +kernel
theorem dX9_init_347 : decode cX9_init 347 = .ok (.dup, 1) := by decide +kernel
theorem dX9_init_348 : decode cX9_init 348 = .ok (.bipush 10, 2) := by decide +kernel
theorem dX9_init_350 : decode cX9_init 350 = .ok (.bipush 107, 2) := by decide +kernel
theorem dX9_init_352 : decode cX9_init 352 = .ok (.iastore, 1) := by decide +kernel
theorem dX9_init_353 : decode cX9_init 353 = .ok (.dup, 1) := by decide +kernel
theorem dX9_init_354 : decode cX9_init 354 = .ok (.bipush 11, 2) := by decide +kernel
theorem dX9_init_356 : decode cX9_init 356 = .ok (.bipush 101, 2) := by decide +kernel
theorem dX9_init_358 : decode cX9_init 358 = .ok (.iastore, 1) := by decide +kernel
theorem dX9_init_359 : decode cX9_init 359 = .ok (.dup, 1) := by decide +kernel
theorem dX9_init_360 : decode cX9_init 360 = .ok (.bipush 12, 2) := by decide +kernel
theorem dX9_init_362 : decode cX9_init 362 = .ok (.bipush 115, 2) := by decide +kernel
theorem dX9_init_364 : decode cX9_init 364 = .ok (.iastore, 1) := by decide +kernel
theorem dX9_init_365 : decode cX9_init 365 = .ok (.dup, 1) := by decide +kernel
theorem dX9_init_366 : decode cX9_init 366 = .ok (.bipush 13, 2) := by decide +kernel
theorem dX9_init_368 : decode cX9_init 368 = .ok (.bipush 32, 2) := by decide +kernel
theorem dX9_init_370 : decode cX9_init 370 = .ok (.iastore, 1) := by decide +kernel
theorem dX9_init_371 : decode cX9_init 371 = .ok (.dup, 1) := by decide +kernel
theorem dX9_init_372 : decode cX9_init 372 = .ok (.bipush 14, 2) := by decide +kernel
theorem dX9_init_374 : decode cX9_init 374 = .ok (.bipush 32, 2) := by decide +kernel
theorem dX9_init_376 : decode cX9_init 376 = .ok (.iastore, 1) := by decide +kernel
theorem dX9_init_377 : decode cX9_init 377 = .ok (.dup, 1) := by decide +kernel
theorem dX9_init_378 : decode cX9_init 378 = .ok (.bipush 15, 2) := by decide +kernel
theorem dX9_init_380 : decode cX9_init 380 = .ok (.bipush 32, 2) := by decide +kernel
theorem dX9_init_382 : decode cX9_init 382 = .ok (.iastore, 1) := by decide +kernel
theorem dX9_init_383 : decode cX9_init 383 = .ok (.dup, 1) := by decide +kernel
theorem dX9_init_384 : decode cX9_init 384 = .ok (.bipush 16, 2) := by decide +kernel
theorem dX9_init_386 : decode cX9_init 386 = .ok (.bipush 99, 2) := by decide +kernel
theorem dX9_init_388 : decode cX9_init 388 = .ok (.iastore, 1) := by decide +kernel
theorem dX9_init_389 : decode cX9_init 389 = .ok (.dup, 1) := by decide +kernel
theorem dX9_init_390 : decode cX9_init 390 = .ok (.bipush 17, 2) := by decide +kernel
theorem dX9_init_392 : decode cX9_init 392 = .ok (.bipush 108, 2) := by decide +kernel
theorem dX9_init_394 : decode cX9_init 394 = .ok (.iastore, 1) := by decide +kernel
theorem dX9_init_395 : decode cX9_init 395 = .ok (.dup, 1) := by decide +kernel
theorem dX9_init_396 : decode cX9_init 396 = .ok (.bipush 18, 2) := by decide +kernel
theorem dX9_init_398 : decode cX9_init 398 = .ok (.bipush 111, 2) := by decide +kernel
theorem dX9_init_400 : decode cX9_init 400 = .ok (.iastore, 1) := by decide +kernel
theorem dX9_init_401 : decode cX9_init 401 = .ok (.dup, 1) := by decide +kernel
theorem dX9_init_402 : decode cX9_init 402 = .ok (.bipush 19, 2) := by decide +kernel
theorem dX9_init_404 : decode cX9_init 404 = .ok (.bipush 115, 2) := by decide +kernel
theorem dX9_init_406 : decode cX9_init 406 = .ok (.iastore, 1) := by decide +kernel
theorem dX9_init_407 : decode cX9_init 407 = .ok (.dup, 1) := by decide +kernel
theorem dX9_init_408 : decode cX9_init 408 = .ok (.bipush 20, 2) := by decide +kernel
theorem dX9_init_410 : decode cX9_init 410 = .ok (.bipush 101, 2) := by decide +kernel
theorem dX9_init_412 : decode cX9_init 412 = .ok (.iastore, 1) := by decide +kernel
theorem dX9_init_413 : decode cX9_init 413 = .ok (.dup, 1) := by decide +kernel
theorem dX9_init_414 : decode cX9_init 414 = .ok (.bipush 21, 2) := by decide +kernel
theorem dX9_init_416 : decode cX9_init 416 = .ok (.bipush 115, 2) := by decide +kernel
theorem dX9_init_418 : decode cX9_init 418 = .ok (.iastore, 1) := by decide +kernel
theorem dX9_init_419 : decode cX9_init 419 = .ok (.dup, 1) := by decide +kernel
theorem dX9_init_420 : decode cX9_init 420 = .ok (.bipush 22, 2) := by decide +kernel
theorem dX9_init_422 : decode cX9_init 422 = .ok (.bipush 32, 2) := by decide +kernel
theorem dX9_init_424 : decode cX9_init 424 = .ok (.iastore, 1) := by decide +kernel
theorem dX9_init_425 : decode cX9_init 425 = .ok (.dup, 1) := by decide +kernel
theorem dX9_init_426 : decode cX9_init 426 = .ok (.bipush 23, 2) := by decide +kernel
theorem dX9_init_428 : decode cX9_init 428 = .ok (.bipush 32, 2) := by decide +kernel
theorem dX9_init_430 : decode cX9_init 430 = .ok (.iastore, 1) := by decide +kernel
theorem dX9_init_431 : decode cX9_init 431 = .ok (.dup, 1) := by decide +kernel
theorem dX9_init_432 : decode cX9_init 432 = .ok (.bipush 24, 2) := by decide +kernel
theorem dX9_init_434 : decode cX9_init 434 = .ok (.bipush 112, 2) := by decide +kernel
theorem dX9_init_436 : decode cX9_init 436 = .ok (.iastore, 1) := by decide +kernel
theorem dX9_init_437 : decode cX9_init 437 = .ok (.dup, 1) := by decide +kernel
theorem dX9_init_438 : decode cX9_init 438 = .ok (.bipush 25, 2) := by decide +kernel
theorem dX9_init_440 : decode cX9_init 440 = .ok (.bipush 108, 2) := by decide +kernel
theorem dX9_init_442 : decode cX9_init 442 = .ok (.iastore, 1) := by decide +kernel
theorem dX9_init_443 : decode cX9_init 443 = .ok (.dup, 1) := by decide +kernel
theorem dX9_init_444 : decode cX9_init 444 = .ok (.bipush 26, 2) := by decide +kernel
theorem dX9_init_446 : decode cX9_init 446 = .ok (.bipush 97, 2) := by decide +kernel
theorem dX9_init_448 : decode cX9_init 448 = .ok (.iastore, 1) := by decide +kernel
theorem dX9_init_449 : decode cX9_init 449 = .ok (.dup, 1) := by decide +kernel
theorem dX9_init_450 : decode cX9_init 450 = .ok (.bipush 27, 2) := by decide +kernel
theorem dX9_init_452 : decode cX9_init 452 = .ok (.bipush 99, 2) := by decide +kernel
theorem dX9_init_454 : decode cX9_init 454 = .ok (.iastore, 1) := by decide +kernel
theorem dX9_init_455 : decode cX9_init 455 = .ok (.dup, 1) := by decide +kernel
theorem dX9_init_456 : decode cX9_init 456 = .ok (.bipush 28, 2) := by decide +kernel
theorem dX9_init_458 : decode cX9_init 458 = .ok (.bipush 101, 2) := by decide +kernel
theorem dX9_init_460 : decode cX9_init 460 = .ok (.iastore, 1) := by decide +kernel
theorem dX9_init_461 : decode cX9_init 461 = .ok (.dup, 1) := by decide +kernel
theorem dX9_init_462 : decode cX9_init 462 = .ok (.bipush 29, 2) := by decide +kernel
theorem dX9_init_464 : decode cX9_init 464 = .ok (.bipush 32, 2) := by decide +kernel
theorem dX9_init_466 : decode cX9_init 466 = .ok (.iastore, 1) := by decide +kernel
theorem dX9_init_467 : decode cX9_init 467 = .ok (.dup, 1) := by decide +kernel
theorem dX9_init_468 : decode cX9_init 468 = .ok (.bipush 30, 2) := by decide +kernel
theorem dX9_init_470 : decode cX9_init 470 = .ok (.bipush 32, 2) := by decide +kernel
theorem dX9_init_472 : decode cX9_init 472 = .ok (.iastore, 1) := by decide +kernel
theorem dX9_init_473 : decode cX9_init 473 = .ok (.dup, 1) := by decide +kernel
theorem dX9_init_474 : decode cX9_init 474 = .ok (.bipush 31, 2) := by decide +kernel
theorem dX9_init_476 : decode cX9_init 476 = .ok (.bipush 32, 2) := by decide +kernel
theorem dX9_init_478 : decode cX9_init 478 = .ok (.iastore, 1) := by decide +kernel
theorem dX9_init_479 : decode cX9_init 479 = .ok (.dup, 1) := by decide +kernel
theorem dX9_init_480 : decode cX9_init 480 = .ok (.bipush 32, 2) := by decide +kernel
theorem dX9_init_482 : decode cX9_init 482 = .ok (.bipush 109, 2) := by decide +kernel
theorem dX9_init_484 : decode cX9_init 484 = .ok (.iastore, 1) := by decide +kernel
theorem dX9_init_485 : decode cX9_init 485 = .ok (.dup, 1) := by decide +kernel
theorem dX9_init_486 : decode cX9_init 486 = .ok (.bipush 33, 2) := by decide +kernel
theorem dX9_init_488 : decode cX9_init 488 = .ok (.bipush 111, 2) := by decide +kernel
theorem dX9_init_490 : decode cX9_init 490 = .ok (.iastore, 1) := by decide +kernel
theorem dX9_init_491 : decode cX9_init 491 = .ok (.dup, 1) := by decide +kernel
theorem dX9_init_492 : decode cX9_init 492 = .ok (.bipush 34, 2) := by decide +kernel
theorem dX9_init_494 : decode cX9_init 494 = .ok (.bipush 114, 2) := by decide +kernel
theorem dX9_init_496 : decode cX9_init 496 = .ok (.iastore, 1) := by decide +kernel
theorem dX9_init_497 : decode cX9_init 497 = .ok (.dup, 1) := by decide +kernel
theorem dX9_init_498 : decode cX9_init 498 = .ok (.bipush 35, 2) := by decide +kernel
theorem dX9_init_500 : decode cX9_init 500 = .ok (.bipush 101, 2) := by decide +kernel
theorem dX9_init_502 : decode cX9_init 502 = .ok (.iastore, 1) := by decide +kernel
theorem dX9_init_503 : decode cX9_init 503 = .ok (.dup, 1) := by decide +kernel
theorem dX9_init_504 : decode cX9_init 504 = .ok (.bipush 36, 2) := by decide +kernel
theorem dX9_init_506 : decode cX9_init 506 = .ok (.bipush 32, 2) := by decide +kernel
theorem dX9_init_508 : decode cX9_init 508 = .ok (.iastore, 1) := by decide +kernel
theorem dX9_init_509 : decode cX9_init 509 = .ok (.dup, 1) := by decide +kernel
theorem dX9_init_510 : decode cX9_init 510 = .ok (.bipush 37, 2) := by decide +kernel
theorem dX9_init_512 : decode cX9_init 512 = .ok (.bipush 32, 2) := by decide +kernel
theorem dX9_init_514 : decode cX9_init 514 = .ok (.iastore, 1) := by decide +kernel
theorem dX9_init_515 : decode cX9_init 515 = .ok (.dup, 1) := by decide +kernel
theorem dX9_init_516 : decode cX9_init 516 = .ok (.bipush 38, 2) := by decide +kernel
theorem dX9_init_518 : decode cX9_init 518 = .ok (.bipush 32, 2) := by decide +kernel
theorem dX9_init_520 : decode cX9_init 520 = .ok (.iastore, 1) := by decide +kernel
theorem dX9_init_521 : decode cX9_init 521 = .ok (.dup, 1) := by decide +kernel
theorem dX9_init_522 : decode cX9_init 522 = .ok (.bipush 39, 2) := by decide +kernel
theorem dX9_init_524 : decode cX9_init 524 = .ok (.bipush 32, 2) := by decide +kernel
theorem dX9_init_526 : decode cX9_init 526 = .ok (.iastore, 1) := by decide +kernel
theorem dX9_init_527 : decode cX9_init 527 = .ok (.dup, 1) := by decide +kernel
theorem dX9_init_528 : decode cX9_init 528 = .ok (.bipush 40, 2) := by decide +kernel
theorem dX9_init_530 : decode cX9_init 530 = .ok (.bipush 98, 2) := by decide +kernel
theorem dX9_init_532 : decode cX9_init 532 = .ok (.iastore, 1) := by decide +kernel
theorem dX9_init_533 : decode cX9_init 533 = .ok (.dup, 1) := by decide +kernel
theorem dX9_init_534 : decode cX9_init 534 = .ok (.bipush 41, 2) := by decide +kernel
theorem dX9_init_536 : decode cX9_init 536 = .ok (.bipush 101, 2) := by decide +kernel
theorem dX9_init_538 : decode cX9_init 538 = .ok (.iastore, 1) := by decide +kernel
theorem dX9_init_539 : decode cX9_init 539 = .ok (.dup, 1) := by decide +kernel
theorem dX9_init_540 : decode cX9_init 540 = .ok (.bipush 42, 2) := by decide +kernel
theorem dX9_init_542 : decode cX9_init 542 = .ok (.bipush 115, 2) := by decide +kernel
theorem dX9_init_544 : decode cX9_init 544 = .ok (.iastore, 1) := by decide +kernel
theorem dX9_init_545 : decode cX9_init 545 = .ok (.dup, 1) := by decide +kernel
theorem dX9_init_546 : decode cX9_init 546 = .ok (.bipush 43, 2) := by decide +kernel
theorem dX9_init_548 : decode cX9_init 548 = .ok (.bipush 105, 2) := by decide +kernel
theorem dX9_init_550 : decode cX9_init 550 = .ok (.iastore, 1) := by decide +kernel
theorem dX9_init_551 : decode cX9_init 551 = .ok (.dup, 1) := by decide +kernel
theorem dX9_init_552 : decode cX9_init 552 = .ok (.bipush 44, 2) := by decide +kernel
theorem dX9_init_554 : decode cX9_init 554 = .ok (.bipush 100, 2) := by decide +kernel
theorem dX9_init_556 : decode cX9_init 556 = .ok (.iastore, 1) := by decide +kernel
theorem dX9_init_557 : decode cX9_init 557 = .ok (.dup, 1) := by decide +kernel
theorem dX9_init_558 : decode cX9_init 558 = .ok (.bipush 45, 2) := by decide +kernel
theorem dX9_init_560 : decode cX9_init 560 = .ok (.bipush 101, 2) := by decide +kernel
theorem dX9_init_562 : decode cX9_init 562 = .ok (.iastore, 1) := by decide +kernel
theorem dX9_init_563 : decode cX9_init 563 = .ok (.dup, 1) := by decide +kernel
theorem dX9_init_564 : decode cX9_init 564 = .ok (.bipush 46, 2) := by decide +kernel
theorem dX9_init_566 : decode cX9_init 566 = .ok (.bipush 32, 2) := by decide +kernel
theorem dX9_init_568 : decode cX9_init 568 = .ok (.iastore, 1) := by decide +kernel
theorem dX9_init_569 : decode cX9_init 569 = .ok (.dup, 1) := by decide +kernel
theorem dX9_init_570 : decode cX9_init 570 = .ok (.bipush 47, 2) := by decide +kernel
theorem dX9_init_572 : decode cX9_init 572 = .ok (.bipush 32, 2) := by decide +kernel
theorem dX9_init_574 : decode cX9_init 574 = .ok (.iastore, 1) := by decide +kernel
theorem dX9_init_575 : decode cX9_init 575 = .ok (.dup, 1) := by decide +kernel
theorem dX9_init_576 : decode cX9_init 576 = .ok (.bipush 48, 2) := by decide +kernel
theorem dX9_init_578 : decode cX9_init 578 = .ok (.bipush 103, 2) := by decide +kernel
theorem dX9_init_580 : decode cX9_init 580 = .ok (.iastore, 1) := by decide +kernel
theorem dX9_init_581 : decode cX9_init 581 = .ok (.dup, 1) := by decide +kernel
theorem dX9_init_582 : decode cX9_init 582 = .ok (.bipush 49, 2) := by decide +kernel
theorem dX9_init_584 : decode cX9_init 584 = .ok (.bipush 97, 2) := by decide +kernel
theorem dX9_init_586 : decode cX9_init 586 = .ok (.iastore, 1) := by decide +kernel
theorem dX9_init_587 : decode cX9_init 587 = .ok (.dup, 1) := by decide +kernel
theorem dX9_init_588 : decode cX9_init 588 = .ok (.bipush 50, 2) := by decide +kernel
theorem dX9_init_590 : decode cX9_init 590 = .ok (.bipush 112, 2) := by decide +kernel
theorem dX9_init_592 : decode cX9_init 592 = .ok (.iastore, 1) := by decide +kernel
theorem dX9_init_593 : decode cX9_init 593 = .ok (.dup, 1) := by decide +kernel
theorem dX9_init_594 : decode cX9_init 594 = .ok (.bipush 51, 2) := by decide +kernel
theorem dX9_init_596 : decode cX9_init 596 = .ok (.bipush 115, 2) := by decide +kernel
theorem dX9_init_598 : decode cX9_init 598 = .ok (.iastore, 1) := by decide +kernel
theorem dX9_init_599 : decode cX9_init 599 = .ok (.dup, 1) := by decide +kernel
theorem dX9_init_600 : decode cX9_init 600 = .ok (.bipush 52, 2) := by decide +kernel
theorem dX9_init_602 : decode cX9_init 602 = .ok (.bipush 32, 2) := by decide +kernel
theorem dX9_init_604 : decode cX9_init 604 = .ok (.iastore, 1) := by decide +kernel
theorem dX9_init_605 : decode cX9_init 605 = .ok (.dup, 1) := by decide +kernel
theorem dX9_init_606 : decode cX9_init 606 = .ok (.bipush 53, 2) := by decide +kernel
theorem dX9_init_608 : decode cX9_init 608 = .ok (.bipush 32, 2) := by decide +kernel
theorem dX9_init_610 : decode cX9_init 610 = .ok (.iastore, 1) := by decide +kernel
theorem dX9_init_611 : decode cX9_init 611 = .ok (.dup, 1) := by decide +kernel
theorem dX9_init_612 : decode cX9_init 612 = .ok (.bipush 54, 2) := by decide +kernel
theorem dX9_init_614 : decode cX9_init 614 = .ok (.bipush 32, 2) := by decide +kernel
theorem dX9_init_616 : decode cX9_init 616 = .ok (.iastore, 1) := by decide +kernel
theorem dX9_init_617 : decode cX9_init 617 = .ok (.dup, 1) := by decide +kernel
theorem dX9_init_618 : decode cX9_init 618 = .ok (.bipush 55, 2) := by decide +kernel
theorem dX9_init_620 : decode cX9_init 620 = .ok (.bipush 32, 2) := by decide +kernel
theorem dX9_init_622 : decode cX9_init 622 = .ok (.iastore, 1) := by decide +kernel
theorem dX9_init_623 : decode cX9_init 623 = .ok (.dup, 1) := by decide +kernel
theorem dX9_init_624 : decode cX9_init 624 = .ok (.bipush 56, 2) := by decide +kernel
theorem dX9_init_626 : decode cX9_init 626 = .ok (.bipush 101, 2) := by decide +kernel
theorem dX9_init_628 : decode cX9_init 628 = .ok (.iastore, 1) := by decide +kernel
theorem dX9_init_629 : decode cX9_init 629 = .ok (.dup, 1) := by decide +kernel
theorem dX9_init_630 : decode cX9_init 630 = .ok (.bipush 57, 2) := by decide +kernel
theorem dX9_init_632 : decode cX9_init 632 = .ok (.bipush 110, 2) := by decide +kernel
theorem dX9_init_634 : decode cX9_init 634 = .ok (.iastore, 1) := by decide +kernel
theorem dX9_init_635 : decode cX9_init 635 = .ok (.dup, 1) := by decide +kernel
theorem dX9_init_636 : decode cX9_init 636 = .ok (.bipush 58, 2) := by decide +kernel
theorem dX9_init_638 : decode cX9_init 638 = .ok (.bipush 100, 2) := by decide +kernel
theorem dX9_init_640 : decode cX9_init 640 = .ok (.iastore, 1) := by decide +kernel
theorem dX9_init_641 : decode cX9_init 641 = .ok (.dup, 1) := by decide +kernel
theorem dX9_init_642 : decode cX9_init 642 = .ok (.bipush 59, 2) := by decide +kernel
theorem dX9_init_644 : decode cX9_init 644 = .ok (.bipush 32, 2) := by decide +kernel
theorem dX9_init_646 : decode cX9_init 646 = .ok (.iastore, 1) := by decide +kernel
theorem dX9_init_647 : decode cX9_init 647 = .ok (.dup, 1) := by decide +kernel
theorem dX9_init_648 : decode cX9_init 648 = .ok (.bipush 60, 2) := by decide +kernel
theorem dX9_init_650 : decode cX9_init 650 = .ok (.bipush 32, 2) := by decide +kernel
theorem dX9_init_652 : decode cX9_init 652 = .ok (.iastore, 1) := by decide +kernel
theorem dX9_init_653 : decode cX9_init 653 = .ok (.dup, 1) := by decide +kernel
theorem dX9_init_654 : decode cX9_init 654 = .ok (.bipush 61, 2) := by decide +kernel
theorem dX9_init_656 : decode cX9_init 656 = .ok (.bipush 32, 2) := by decide +kernel
theorem dX9_init_658 : decode cX9_init 658 = .ok (.iastore, 1) := by decide +kernel
theorem dX9_init_659 : decode cX9_init 659 = .ok (.dup, 1) := by decide +kernel
theorem dX9_init_660 : decode cX9_init 660 = .ok (.bipush 62, 2) := by decide +kernel
theorem dX9_init_662 : decode cX9_init 662 = .ok (.bipush 32, 2) := by decide +kernel
theorem dX9_init_664 : decode cX9_init 664 = .ok (.iastore, 1) := by decide +kernel
theorem dX9_init_665 : decode cX9_init 665 = .ok (.dup, 1) := by decide +kernel
theorem dX9_init_666 : decode cX9_init 666 = .ok (.bipush 63, 2) := by decide +kernel
theorem dX9_init_668 : decode cX9_init 668 = .ok (.bipush 32, 2) := by decide +kernel
theorem dX9_init_670 : decode cX9_init 670 = .ok (.iastore, 1) := by decide +kernel
theorem dX9_init_671 : decode cX9_init 671 = .ok (.dup, 1) := by decide +kernel
theorem dX9_init_672 : decode cX9_init 672 = .ok (.bipush 64, 2) := by decide +kernel
theorem dX9_init_674 : decode cX9_init 674 = .ok (.bipush 114, 2) := by decide +kernel
theorem dX9_init_676 : decode cX9_init 676 = .ok (.iastore, 1) := by decide +kernel
theorem dX9_init_677 : decode cX9_init 677 = .ok (.dup, 1) := by decide +kernel
theorem dX9_init_678 : decode cX9_init 678 = .ok (.bipush 65, 2) := by decide +kernel
theorem dX9_init_680 : decode cX9_init 680 = .ok (.bipush 101, 2) := by decide +kernel
theorem dX9_init_682 : decode cX9_init 682 = .ok (.iastore, 1) := by decide +kernel
theorem dX9_init_683 : decode cX9_init 683 = .ok (.dup, 1) := by decide +kernel
theorem dX9_init_684 : decode cX9_init 684 = .ok (.bipush 66, 2) := by decide +kernel
theorem dX9_init_686 : decode cX9_init 686 = .ok (.bipush 97, 2) := by decide +kernel
theorem dX9_init_688 : decode cX9_init 688 = .ok (.iastore, 1) := by decide +kernel
theorem dX9_init_689 : decode cX9_init 689 = .ok (.dup, 1) := by decide +kernel
theorem dX9_init_690 : decode cX9_init 690 = .ok (.bipush 67, 2) := by decide +kernel
theorem dX9_init_692 : decode cX9_init 692 = .ok (.bipush 99, 2) := by decide +kernel
theorem dX9_init_694 : decode cX9_init 694 = .ok (.iastore, 1) := by decide +kernel
theorem dX9_init_695 : decode cX9_init 695 = .ok (.dup, 1) := by decide +kernel
theorem dX9_init_696 : decode cX9_init 696 = .ok (.bipush 68, 2) := by decide +kernel
theorem dX9_init_698 : decode cX9_init 698 = .ok (.bipush 104, 2) := by decide +kernel
theorem dX9_init_700 : decode cX9_init 700 = .ok (.iastore, 1) := by decide +kernel
theorem dX9_init_701 : decode cX9_init 701 = .ok (.dup, 1) := by decide +kernel
theorem dX9_init_702 : decode cX9_init 702 = .ok (.bipush 69, 2) := by decide +kernel
theorem dX9_init_704 : decode cX9_init 704 = .ok (.bipush 32, 2) := by decide +kernel
theorem dX9_init_706 : decode cX9_init 706 = .ok (.iastore, 1) := by decide +kernel
theorem dX9_init_707 : decode cX9_init 707 = .ok (.dup, 1) := by decide +kernel
theorem dX9_init_708 : decode cX9_init 708 = .ok (.bipush 70, 2) := by decide +kernel
theorem dX9_init_710 : decode cX9_init 710 = .ok (.bipush 32, 2) := by decide +kernel
theorem dX9_init_712 : decode cX9_init 712 = .ok (.iastore, 1) := by decide +kernel
theorem dX9_init_713 : decode cX9_init 713 = .ok (.dup, 1) := by decide +kernel
theorem dX9_init_714 : decode cX9_init 714 = .ok (.bipush 71, 2) := by decide +kernel
theorem dX9_init_716 : decode cX9_init 716 = .ok (.bipush 32, 2) := by decide +kernel
theorem dX9_init_718 : decode cX9_init 718 = .ok (.iastore, 1) := by decide +kernel
theorem dX9_init_719 : decode cX9_init 719 = .ok (.dup, 1) := by decide +kernel
theorem dX9_init_720 : decode cX9_init 720 = .ok (.bipush 72, 2) := by decide +kernel
theorem dX9_init_722 : decode cX9_init 722 = .ok (.bipush 111, 2) := by decide +kernel
theorem dX9_init_724 : decode cX9_init 724 = .ok (.iastore, 1) := by decide +kernel
theorem dX9_init_725 : decode cX9_init 725 = .ok (.dup, 1) := by decide +kernel
theorem dX9_init_726 : decode cX9_init 726 = .ok (.bipush 73, 2) := by decide +kernel
theorem dX9_init_728 : decode cX9_init 728 = .ok (.bipush 114, 2) := by decide +kernel
theorem dX9_init_730 : decode cX9_init 730 = .ok (.iastore, 1) := by decide +kernel
theorem dX9_init_731 : decode cX9_init 731 = .ok (.dup, 1) := by decide +kernel
theorem dX9_init_732 : decode cX9_init 732 = .ok (.bipush 74, 2) := by decide +kernel
theorem dX9_init_734 : decode cX9_init 734 = .ok (.bipush 32, 2) := by decide +kernel
theorem dX9_init_736 : decode cX9_init 736 = .ok (.iastore, 1) := by decide +kernel
theorem dX9_init_737 : decode cX9_init 737 = .ok (.dup, 1) := by decide +kernel
theorem dX9_init_738 : decode cX9_init 738 = .ok (.bipush 75, 2) := by decide +kernel
theorem dX9_init_740 : decode cX9_init 740 = .ok (.bipush 32, 2) := by decide +kernel
theorem dX9_init_742 : decode cX9_init 742 = .ok (.iastore, 1) := by decide +kernel
theorem dX9_init_743 : decode cX9_init 743 = .ok (.dup, 1) := by decide +kernel
theorem dX9_init_744 : decode cX9_init 744 = .ok (.bipush 76, 2) := by decide +kernel
theorem dX9_init_746 : decode cX9_init 746 = .ok (.bipush 32, 2) := by decide +kernel
theorem dX9_init_748 : decode cX9_init 748 = .ok (.iastore, 1) := by decide +kernel
theorem dX9_init_749 : decode cX9_init 749 = .ok (.dup, 1) := by decide +kernel
theorem dX9_init_750 : decode cX9_init 750 = .ok (.bipush 77, 2) := by decide +kernel
theorem dX9_init_752 : decode cX9_init 752 = .ok (.bipush 32, 2) := by decide +kernel
theorem dX9_init_754 : decode cX9_init 754 = .ok (.iastore, 1) := by decide +kernel
theorem dX9_init_755 : decode cX9_init 755 = .ok (.dup, 1) := by decide +kernel
theorem dX9_init_756 : decode cX9_init 756 = .ok (.bipush 78, 2) := by decide +kernel
theorem dX9_init_758 : decode cX9_init 758 = .ok (.bipush 32, 2) := by decide +kernel
theorem dX9_init_760 : decode cX9_init 760 = .ok (.iastore, 1) := by decide +kernel
theorem dX9_init_761 : decode cX9_init 761 = .ok (.dup, 1) := by decide +kernel
theorem dX9_init_762 : decode cX9_init 762 = .ok (.bipush 79, 2) := by decide +kernel
theorem dX9_init_764 : decode cX9_init 764 = .ok (.bipush 32, 2) := by decide +kernel
theorem dX9_init_766 : decode cX9_init 766 = .ok (.iastore, 1) := by decide +kernel
theorem dX9_init_767 : decode cX9_init 767 = .ok (.dup, 1) := by decide +kernel
theorem dX9_init_768 : decode cX9_init 768 = .ok (.bipush 80, 2) := by decide +kernel
theorem dX9_init_770 : decode cX9_init 770 = .ok (.bipush 97, 2) := by decide +kernel
theorem dX9_init_772 : decode cX9_init 772 = .ok (.iastore, 1) := by decide +kernel
theorem dX9_init_773 : decode cX9_init 773 = .ok (.dup, 1) := by decide +kernel
theorem dX9_init_774 : decode cX9_init 774 = .ok (.bipush 81, 2) := by decide +kernel
theorem dX9_init_776 : decode cX9_init 776 = .ok (.bipush 110, 2) := by decide +kernel
theorem dX9_init_778 : decode cX9_init 778 = .ok (.iastore, 1) := by decide +kernel
theorem dX9_init_779 : decode cX9_init 779 = .ok (.dup, 1) := by decide +kernel
theorem dX9_init_780 : decode cX9_init 780 = .ok (.bipush 82, 2) := by decide +kernel
theorem dX9_init_782 : decode cX9_init 782 = .ok (.bipush 100, 2) := by decide +kernel
theorem dX9_init_784 : decode cX9_init 784 = .ok (.iastore, 1) := by decide +kernel
theorem dX9_init_785 : decode cX9_init 785 = .ok (.dup, 1) := by decide +kernel
theorem dX9_init_786 : decode cX9_init 786 = .ok (.bipush 83, 2) := by decide +kernel
theorem dX9_init_788 : decode cX9_init 788 = .ok (.bipush 32, 2) := by decide +kernel
theorem dX9_init_790 : decode cX9_init 790 = .ok (.iastore, 1) := by decide +kernel
theorem dX9_init_791 : decode cX9_init 791 = .ok (.dup, 1) := by decide +kernel
theorem dX9_init_792 : decode cX9_init 792 = .ok (.bipush 84, 2) := by decide +kernel
theorem dX9_init_794 : decode cX9_init 794 = .ok (.bipush 32, 2) := by decide +kernel
theorem dX9_init_796 : decode cX9_init 796 = .ok (.iastore, 1) := by decide +kernel
theorem dX9_init_797 : decode cX9_init 797 = .ok (.dup, 1) := by decide +kernel
theorem dX9_init_798 : decode cX9_init 798 = .ok (.bipush 85, 2) := by decide +kernel
theorem dX9_init_800 : decode cX9_init 800 = .ok (.bipush 32, 2) := by decide +kernel
theorem dX9_init_802 : decode cX9_init 802 = .ok (.iastore, 1) := by decide +kernel
theorem dX9_init_803 : decode cX9_init 803 = .ok (.dup, 1) := by decide +kernel
theorem dX9_init_804 : decode cX9_init 804 = .ok (.bipush 86, 2) := by decide +kernel
theorem dX9_init_806 : decode cX9_init 806 = .ok (.bipush 32, 2) := by decide +kernel
theorem dX9_init_808 : decode cX9_init 808 = .ok (.iastore, 1) := by decide +kernel
theorem dX9_init_809 : decode cX9_init 809 = .ok (.dup, 1) := by decide +kernel
theorem dX9_init_810 : decode cX9_init 810 = .ok (.bipush 87, 2) := by decide +kernel
theorem dX9_init_812 : decode cX9_init 812 = .ok (.bipush 32, 2) := by decide +kernel
theorem dX9_init_814 : decode cX9_init 814 = .ok (.iastore, 1) := by decide +kernel
theorem dX9_init_815 : decode cX9_init 815 = .ok (.dup, 1) := by decide +kernel
theorem dX9_init_816 : decode cX9_init 816 = .ok (.bipush 88, 2) := by decide +kernel
theorem dX9_init_818 : decode cX9_init 818 = .ok (.bipush 110, 2) := by decide +kernel
theorem dX9_init_820 : decode cX9_init 820 = .ok (.iastore, 1) := by decide +kernel
theorem dX9_init_821 : decode cX9_init 821 = .ok (.dup, 1) := by decide +kernel
theorem dX9_init_822 : decode cX9_init 822 = .ok (.bipush 89, 2) := by decide +kernel
theorem dX9_init_824 : decode cX9_init 824 = .ok (.bipush 111, 2) := by decide +kernel
theorem dX9_init_826 : decode cX9_init 826 = .ok (.iastore, 1) := by decide +kernel
theorem dX9_init_827 : decode cX9_init 827 = .ok (.dup, 1) := by decide +kernel
theorem dX9_init_828 : decode cX9_init 828 = .ok (.bipush 90, 2) := by decide +kernel
theorem dX9_init_830 : decode cX9_init 830 = .ok (.bipush 116, 2) := by decide +kernel
theorem dX9_init_832 : decode cX9_init 832 = .ok (.iastore, 1) := by decide +kernel
theorem dX9_init_833 : decode cX9_init 833 = .ok (.dup, 1) := by decide +kernel
theorem dX9_init_834 : decode cX9_init 834 = .ok (.bipush 91, 2) := by decide +kernel
theorem dX9_init_836 : decode cX9_init 836 = .ok (.bipush 32, 2) := by decide +kernel
theorem dX9_init_838 : decode cX9_init 838 = .ok (.iastore, 1) := by decide +kernel
theorem dX9_init_839 : decode cX9_init 839 = .ok (.dup, 1) := by decide +kernel
theorem dX9_init_840 : decode cX9_init 840 = .ok (.bipush 92, 2) := by decide +kernel
theorem dX9_init_842 : decode cX9_init 842 = .ok (.bipush 32, 2) := by decide +kernel
theorem dX9_init_844 : decode cX9_init 844 = .ok (.iastore, 1) := by decide +kernel
theorem dX9_init_845 : decode cX9_init 845 = .ok (.dup, 1) := by decide +kernel
theorem dX9_init_846 : decode cX9_init 846 = .ok (.bipush 93, 2) := by decide +kernel
theorem dX9_init_848 : decode cX9_init 848 = .ok (.bipush 32, 2) := by decide +kernel
theorem dX9_init_850 : decode cX9_init 850 = .ok (.iastore, 1) := by decide +kernel
theorem dX9_init_851 : decode cX9_init 851 = .ok (.dup, 1) := by decide +kernel
theorem dX9_init_852 : decode cX9_init 852 = .ok (.bipush 94, 2) := by decide +kernel
theorem dX9_init_854 : decode cX9_init 854 = .ok (.bipush 32, 2) := by decide +kernel
theorem dX9_init_856 : decode cX9_init 856 = .ok (.iastore, 1) := by decide +kernel
theorem dX9_init_857 : decode cX9_init 857 = .ok (.dup, 1) := by decide +kernel
theorem dX9_init_858 : decode cX9_init 858 = .ok (.bipush 95, 2) := by decide +kernel
theorem dX9_init_860 : decode cX9_init 860 = .ok (.bipush 32, 2) := by decide +kernel
theorem dX9_init_862 : decode cX9_init 862 = .ok (.iastore, 1) := by decide +kernel
theorem dX9_init_863 : decode cX9_init 863 = .ok (.putfield 43, 3) := by decide +kernel
theorem dX9_init_866 : decode cX9_init 866 = .ok (.aload_n 0, 1) := by decide +kernel
theorem dX9_init_867 : decode cX9_init 867 = .ok (.sipush 200, 3) := by decide +kernel
theorem dX9_init_870 : decode cX9_init 870 = .ok (.newarray .int, 2) := by decide +kernel
theorem dX9_init_872 : decode cX9_init 872 = .ok (.putfield 46, 3) := by decide +kernel
theorem dX9_init_875 : decode cX9_init 875 = .ok (.aload_n 0, 1) := by decide +kernel
theorem dX9_init_876 : decode cX9_init 876 = .ok (.sipush 200, 3) := by decide +kernel
theorem dX9_init_879 : decode cX9_init 879 = .ok (.newarray .int, 2) := by decide +kernel
theorem dX9_init_881 : decode cX9_init 881 = .ok (.putfield 49, 3) := by decide +kernel
theorem dX9_init_884 : decode cX9_init 884 = .ok (.aload_n 0, 1) := by decide +kernel
theorem dX9_init_885 : decode cX9_init 885 = .ok (.bipush 6, 2) := by decide +kernel
theorem dX9_init_887 : decode cX9_init 887 = .ok (.newarray .int, 2) := by decide +kernel
theorem dX9_init_889 : decode cX9_init 889 = .ok (.putfield 52, 3) := by decide +kernel
theorem dX9_init_892 : decode cX9_init 892 = .ok (.aload_n 0, 1) := by decide +kernel
theorem dX9_init_893 : decode cX9_init 893 = .ok (.bipush 16, 2) := by decide +kernel
theorem dX9_init_895 : decode cX9_init 895 = .ok (.newarray .int, 2) := by decide +kernel
theorem dX9_init_897 : decode cX9_init 897 = .ok (.putfield 55, 3) := by decide +kernel
theorem dX9_init_900 : decode cX9_init 900 = .ok (.aload_n 0, 1) := by decide +kernel
theorem dX9_init_901 : decode cX9_init 901 = .ok (.bipush 16, 2) := by decide +kernel
theorem dX9_init_903 : decode cX9_init 903 = .ok (.newarray .int, 2) := by decide +kernel
theorem dX9_init_905 : decode cX9_init 905 = .ok (.putfield 58, 3) := by decide +kernel
theorem dX9_init_908 : decode cX9_init 908 = .ok (.aload_n 0, 1) := by decide +kernel
theorem dX9_init_909 : decode cX9_init 909 = .ok (.bipush 16, 2) := by decide +kernel
theorem dX9_init_911 : decode cX9_init 911 = .ok (.newarray .int, 2) := by decide +kernel
theorem dX9_init_913 : decode cX9_init 913 = .ok (.putfield 61, 3) := by decide +kernel
theorem dX9_init_916 : decode cX9_init 916 = .ok (.aload_n 0, 1) := by decide +kernel
theorem dX9_init_917 : decode cX9_init 917 = .ok (.bipush 16, 2) := by decide +kernel
theorem dX9_init_919 : decode cX9_init 919 = .ok (.newarray .long, 2) := by decide +kernel
theorem dX9_init_921 : decode cX9_init 921 = .ok (.putfield 64, 3) := by decide +kernel
theorem dX9_init_924 : decode cX9_init 924 = .ok (.iconst 0, 1) := by decide +kernel
theorem dX9_init_925 : decode cX9_init 925 = .ok (.istore_n 1, 1) := by decide +kernel
theorem dX9_init_926 : decode cX9_init 926 = .ok (.iload_n 1, 1) := by decide +kernel
theorem dX9_init_927 : decode cX9_init 927 = .ok (.bipush 31, 2) := by decide +kernel
theorem dX9_init_929 : decode cX9_init 929 = .ok (.if_icmp .ge 21, 3) := by decide +kernel
theorem dX9_init_932 : decode cX9_init 932 = .ok (.aload_n 0, 1) := by decide +kernel
theorem dX9_init_933 : decode cX9_init 933 = .ok (.getfield 19, 3) := by decide +kernel
theorem dX9_init_936 : decode cX9_init 936 = .ok (.iload_n 1, 1) := by decide +kernel
theorem dX9_init_937 : decode cX9_init 937 = .ok (.aload_n 0, 1) := by decide +kernel
theorem dX9_init_938 : decode cX9_init 938 = .ok (.getfield 40, 3) := by decide +kernel
theorem dX9_init_941 : decode cX9_init 941 = .ok (.iload_n 1, 1) := by decide +kernel
theorem dX9_init_942 : decode cX9_init 942 = .ok (.iaload, 1) := by decide +kernel
theorem dX9_init_943 : decode cX9_init 943 = .ok (.iastore, 1) := by decide +kernel
theorem dX9_init_944 : decode cX9_init 944 = .ok (.iinc 1 1, 3) := by decide +kernel
theorem dX9_init_947 : decode cX9_init 947 = .ok (.goto (-21), 3) := by decide +kernel
theorem dX9_init_950 : decode cX9_init 950 = .ok (.aload_n 0, 1) := by decide +kernel
theorem dX9_init_951 : decode cX9_init 951 = .ok (.bipush 31, 2) := by decide +kernel
theorem dX9_init_953 : decode cX9_init 953 = .ok (.putfield 68, 3) := by decide +kernel
theorem dX9_init_956 : decode cX9_init 956 = .ok (.aload_n 0, 1) := by decide +kernel
theorem dX9_init_957 : decode cX9_init 957 = .ok (.invokevirtual 72, 3) := by decide +kernel
theorem dX9_init_960 : decode cX9_init 960 = .ok (.pop, 1) := by decide +kernel
theorem dX9_init_961 : decode cX9_init 961 = .ok (.return_, 1) := by decide +kernel
theorem dX9_in_0 : decode cX9_in 0 = .ok (.iload_n 0, 1) := by decide +kernel
theorem dX9_in_1 : decode cX9_in 1 = .ok (.iload_n 1, 1) := by decide +kernel
theorem dX9_in_2 : decode cX9_in 2 = .ok (.if_icmp .lt 12, 3) := by decide +kernel
theorem dX9_in_5 : decode cX9_in 5 = .ok (.iload_n 0, 1) := by decide +kernel
theorem dX9_in_6 : decode cX9_in 6 = .ok (.iload_n 2, 1) := by decide +kernel
theorem dX9_in_7 : decode cX9_in 7 = .ok (.if_icmp .gt 7, 3) := by decide +kernel
theorem dX9_in_10 : decode cX9_in 10 = .ok (.iconst 1, 1) := by decide +kernel
theorem dX9_in_11 : decode cX9_in 11 = .ok (.goto 4, 3) := by decide +kernel
theorem dX9_in_14 : decode cX9_in 14 = .ok (.iconst 0, 1) := by decide +kernel
theorem dX9_in_15 : decode cX9_in 15 = .ok (.ireturn, 1) := by decide +kernel
theorem dX9_within_0 : decode cX9_within 0 = .ok (.iload_n 0, 1) := by decide +kernel
theorem dX9_within_1 : decode cX9_within 1 = .ok (.iload_n 1, 1) := by decide +kernel
theorem dX9_within_2 : decode cX9_within 2 = .ok (.if_icmp .ge 7, 3) := by decide +kernel
theorem dX9_within_5 : decode cX9_within 5 = .ok (.iload_n 1, 1) := by decide +kernel
theorem dX9_within_6 : decode cX9_within 6 = .ok (.goto 13, 3) := by decide +kernel
theorem dX9_within_9 : decode cX9_within 9 = .ok (.iload_n 0, 1) := by decide +kernel
theorem dX9_within_10 : decode cX9_within 10 = .ok (.iload_n 2, 1) := by decide +kernel
theorem dX9_within_11 : decode cX9_within 11 = .ok (.if_icmp .le 7, 3) := by decide +kernel
theorem dX9_within_14 : decode cX9_within 14 = .ok (.iload_n 2, 1) := by decide +kernel
theorem dX9_within_15 : decode cX9_within 15 = .ok (.goto 4, 3) := by decide +kernel
theorem dX9_within_18 : decode cX9_within 18 = .ok (.iload_n 0, 1) := by decide +kernel
theorem dX9_within_19 : decode cX9_within 19 = .ok (.ireturn, 1) := by decide +kernel
theorem dX9_isPlace_0 : decode cX9_isPlace 0 = .ok (.iload_n 0, 1) := by decide +kernel
theorem dX9_isPlace_1 : decode cX9_isPlace 1 = .ok (.iconst 0, 1) := by decide +kernel
theorem dX9_isPlace_2 : decode cX9_isPlace 2 = .ok (.bipush 15, 2) := by decide +kernel
theorem dX9_isPlace_4 : decode cX9_isPlace 4 = .ok (.invokestatic 76, 3) := by decide +kernel
theorem dX9_isPlace_7 : decode cX9_isPlace 7 = .ok (.ireturn, 1) := by decide +kernel
theorem dX9_isSide_0 : decode cX9_isSide 0 = .ok (.iload_n 0, 1) := by decide +kernel
theorem dX9_isSide_1 : decode cX9_isSide 1 = .ok (.iconst 0, 1) := by decide +kernel
theorem dX9_isSide_2 : decode cX9_isSide 2 = .ok (.iconst 2, 1) := by decide +kernel
theorem dX9_isSide_3 : decode cX9_isSide 3 = .ok (.invokestatic 76, 3) := by decide +kernel
theorem dX9_isSide_6 : decode cX9_isSide 6 = .ok (.ireturn, 1) := by decide +kernel
theorem dX9_ones_0 : decode cX9_ones 0 = .ok (.iconst 0, 1) := by decide +kernel
theorem dX9_ones_1 : decode cX9_ones 1 = .ok (.istore_n 1, 1) := by decide +kernel
theorem dX9_ones_2 : decode cX9_ones 2 = .ok (.iconst 0, 1) := by decide +kernel
theorem dX9_ones_3 : decode cX9_ones 3 = .ok (.istore_n 2, 1) := by decide +kernel
theorem dX9_ones_4 : decode cX9_ones 4 = .ok (.iload_n 2, 1) := by decide +kernel
theorem dX9_ones_5 : decode cX9_ones 5 = .ok (.bipush 16, 2) := by decide +kernel
theorem dX9_ones_7 : decode cX9_ones 7 = .ok (.if_icmp .ge 17, 3) := by decide +kernel
theorem dX9_ones_10 : decode cX9_ones 10 = .ok (.iload_n 1, 1) := by decide +kernel
theorem dX9_ones_11 : decode cX9_ones 11 = .ok (.iload_n 0, 1) := by decide +kernel
theorem dX9_ones_12 : decode cX9_ones 12 = .ok (.iload_n 2, 1) := by decide +kernel
theorem dX9_ones_13 : decode cX9_ones 13 = .ok (.ishr, 1) := by decide +kernel
theorem dX9_ones_14 : decode cX9_ones 14 = .ok (.iconst 1, 1) := by decide +kernel
theorem dX9_ones_15 : decode cX9_ones 15 = .ok (.iand, 1) := by decide +kernel
theorem dX9_ones_16 : decode cX9_ones 16 = .ok (.iadd, 1) := by decide +kernel
theorem dX9_ones_17 : decode cX9_ones 17 = .ok (.istore_n 1, 1) := by decide +kernel
theorem dX9_ones_18 : decode cX9_ones 18 = .ok (.iinc 2 1, 3) := by decide +kernel
theorem dX9_ones_21 : decode cX9_ones 21 = .ok (.goto (-17), 3) := by decide +kernel
theorem dX9_ones_24 : decode cX9_ones 24 = .ok (.iload_n 1, 1) := by decide +kernel
theorem dX9_ones_25 : decode cX9_ones 25 = .ok (.ireturn, 1) := by decide +kernel
theorem dX9_isIn_0 : decode cX9_isIn 0 = .ok (.iload_n 0, 1) := by decide +kernel
theorem dX9_isIn_1 : decode cX9_isIn 1 = .ok (.iload_n 1, 1) := by decide +kernel
theorem dX9_isIn_2 : decode cX9_isIn 2 = .ok (.ishr, 1) := by decide +kernel
theorem dX9_isIn_3 : decode cX9_isIn 3 = .ok (.iconst 1, 1) := by decide +kernel
theorem dX9_isIn_4 : decode cX9_isIn 4 = .ok (.iand, 1) := by decide +kernel
theorem dX9_isIn_5 : decode cX9_isIn 5 = .ok (.iconst 1, 1) := by decide +kernel
theorem dX9_isIn_6 : decode cX9_isIn 6 = .ok (.if_icmp .ne 7, 3) := by decide +kernel
theorem dX9_isIn_9 : decode cX9_isIn 9 = .ok (.iconst 1, 1) := by decide +kernel
theorem dX9_isIn_10 : decode cX9_isIn 10 = .ok (.goto 4, 3) := by decide +kernel
theorem dX9_isIn_13 : decode cX9_isIn 13 = .ok (.iconst 0, 1) := by decide +kernel
theorem dX9_isIn_14 : decode cX9_isIn 14 = .ok (.ireturn, 1) := by decide +kernel
theorem dX9_count_0 : decode cX9_count 0 = .ok (.iload_n 1, 1) := by decide +kernel
theorem dX9_count_1 : decode cX9_count 1 = .ok (.tableswitch 65 0 6 #[43, 43, 43, 43, 50, 55, 60], 43) := by decide +kernel
theorem dX9_count_44 : decode cX9_count 44 = .ok (.aload_n 0, 1) := by decide +kernel
theorem dX9_count_45 : decode cX9_count 45 = .ok (.getfield 16, 3) := by decide +kernel
theorem dX9_count_48 : decode cX9_count 48 = .ok (.iload_n 1, 1) := by decide +kernel
theorem dX9_count_49 : decode cX9_count 49 = .ok (.iaload, 1) := by decide +kernel
theorem dX9_count_50 : decode cX9_count 50 = .ok (.ireturn, 1) := by decide +kernel
theorem dX9_count_51 : decode cX9_count 51 = .ok (.aload_n 0, 1) := by decide +kernel
theorem dX9_count_52 : decode cX9_count 52 = .ok (.getfield 80, 3) := by decide +kernel
theorem dX9_count_55 : decode cX9_count 55 = .ok (.ireturn, 1) := by decide +kernel
theorem dX9_count_56 : decode cX9_count 56 = .ok (.aload_n 0, 1) := by decide +kernel
theorem dX9_count_57 : decode cX9_count 57 = .ok (.getfield 83, 3) := by decide +kernel
theorem dX9_count_60 : decode cX9_count 60 = .ok (.ireturn, 1) := by decide +kernel
theorem dX9_count_61 : decode cX9_count 61 = .ok (.aload_n 0, 1) := by decide +kernel
theorem dX9_count_62 : decode cX9_count 62 = .ok (.getfield 68, 3) := by decide +kernel
theorem dX9_count_65 : decode cX9_count 65 = .ok (.ireturn, 1) := by decide +kernel
theorem dX9_count_66 : decode cX9_count 66 = .ok (.bipush (-2), 2) := by decide +kernel
theorem dX9_count_68 : decode cX9_count 68 = .ok (.ireturn, 1) := by decide +kernel
theorem dX9_set_0 : decode cX9_set 0 = .ok (.iload_n 1, 1) := by decide +kernel
theorem dX9_set_1 : decode cX9_set 1 = .ok (.iconst 0, 1) := by decide +kernel
theorem dX9_set_2 : decode cX9_set 2 = .ok (.iconst 3, 1) := by decide +kernel
theorem dX9_set_3 : decode cX9_set 3 = .ok (.invokestatic 76, 3) := by decide +kernel
theorem dX9_set_6 : decode cX9_set 6 = .ok (.ifCond .ne 6, 3) := by decide +kernel
theorem dX9_set_9 : decode cX9_set 9 = .ok (.bipush (-5), 2) := by decide +kernel
theorem dX9_set_11 : decode cX9_set 11 = .ok (.ireturn, 1) := by decide +kernel
theorem dX9_set_12 : decode cX9_set 12 = .ok (.iload_n 2, 1) := by decide +kernel
theorem dX9_set_13 : decode cX9_set 13 = .ok (.iconst 0, 1) := by decide +kernel
theorem dX9_set_14 : decode cX9_set 14 = .ok (.iload_n 1, 1) := by decide +kernel
theorem dX9_set_15 : decode cX9_set 15 = .ok (.iconst 2, 1) := by decide +kernel
theorem dX9_set_16 : decode cX9_set 16 = .ok (.if_icmp .ge 8, 3) := by decide +kernel
theorem dX9_set_19 : decode cX9_set 19 = .ok (.ldc 86, 2) := by decide +kernel
theorem dX9_set_21 : decode cX9_set 21 = .ok (.goto 4, 3) := by decide +kernel
theorem dX9_set_24 : decode cX9_set 24 = .ok (.iconst 2, 1) := by decide +kernel
theorem dX9_set_25 : decode cX9_set 25 = .ok (.invokestatic 76, 3) := by decide +kernel
theorem dX9_set_28 : decode cX9_set 28 = .ok (.ifCond .ne 6, 3) := by decide +kernel
theorem dX9_set_31 : decode cX9_set 31 = .ok (.bipush (-7), 2) := by decide +kernel
theorem dX9_set_33 : decode cX9_set 33 = .ok (.ireturn, 1) := by decide +kernel
theorem dX9_set_34 : decode cX9_set 34 = .ok (.aload_n 0, 1) := by decide +kernel
theorem dX9_set_35 : decode cX9_set 35 = .ok (.getfield 16, 3) := by decide +kernel
theorem dX9_set_38 : decode cX9_set 38 = .ok (.iload_n 1, 1) := by decide +kernel
theorem dX9_set_39 : decode cX9_set 39 = .ok (.iaload, 1) := by decide +kernel
theorem dX9_set_40 : decode cX9_set 40 = .ok (.istore_n 3, 1) := by decide +kernel
theorem dX9_set_41 : decode cX9_set 41 = .ok (.aload_n 0, 1) := by decide +kernel
theorem dX9_set_42 : decode cX9_set 42 = .ok (.getfield 16, 3) := by decide +kernel
theorem dX9_set_45 : decode cX9_set 45 = .ok (.iload_n 1, 1) := by decide +kernel
theorem dX9_set_46 : decode cX9_set 46 = .ok (.iload_n 2, 1) := by decide +kernel
theorem dX9_set_47 : decode cX9_set 47 = .ok (.iastore, 1) := by decide +kernel
theorem dX9_set_48 : decode cX9_set 48 = .ok (.iload_n 3, 1) := by decide +kernel
theorem dX9_set_49 : decode cX9_set 49 = .ok (.ireturn, 1) := by decide +kernel
theorem dX9_isByte_0 : decode cX9_isByte 0 = .ok (.iload_n 0, 1) := by decide +kernel
theorem dX9_isByte_1 : decode cX9_isByte 1 = .ok (.iconst 0, 1) := by decide +kernel
theorem dX9_isByte_2 : decode cX9_isByte 2 = .ok (.sipush 255, 3) := by decide +kernel
theorem dX9_isByte_5 : decode cX9_isByte 5 = .ok (.invokestatic 76, 3) := by decide +kernel
theorem dX9_isByte_8 : decode cX9_isByte 8 = .ok (.ireturn, 1) := by decide +kernel
theorem dX9_feed_0 : decode cX9_feed 0 = .ok (.iload_n 1, 1) := by decide +kernel
theorem dX9_feed_1 : decode cX9_feed 1 = .ok (.iconst 1, 1) := by decide +kernel
theorem dX9_feed_2 : decode cX9_feed 2 = .ok (.iconst 5, 1) := by decide +kernel
theorem dX9_feed_3 : decode cX9_feed 3 = .ok (.invokestatic 76, 3) := by decide +kernel
theorem dX9_feed_6 : decode cX9_feed 6 = .ok (.ifCond .eq 41, 3) := by decide +kernel
theorem dX9_feed_9 : decode cX9_feed 9 = .ok (.iload_n 2, 1) := by decide +kernel
theorem dX9_feed_10 : decode cX9_feed 10 = .ok (.invokestatic 87, 3) := by decide +kernel
theorem dX9_feed_13 : decode cX9_feed 13 = .ok (.ifCond .eq 34, 3) := by decide +kernel
theorem dX9_feed_16 : decode cX9_feed 16 = .ok (.iload_n 3, 1) := by decide +kernel
theorem dX9_feed_17 : decode cX9_feed 17 = .ok (.invokestatic 87, 3) := by decide +kernel
theorem dX9_feed_20 : decode cX9_feed 20 = .ok (.ifCond .eq 27, 3) := by decide +kernel
theorem dX9_feed_23 : decode cX9_feed 23 = .ok (.iload 4, 2) := by decide +kernel
theorem dX9_feed_25 : decode cX9_feed 25 = .ok (.invokestatic 87, 3) := by decide +kernel
theorem dX9_feed_28 : decode cX9_feed 28 = .ok (.ifCond .eq 19, 3) := by decide +kernel
theorem dX9_feed_31 : decode cX9_feed 31 = .ok (.iload 5, 2) := by decide +kernel
theorem dX9_feed_33 : decode cX9_feed 33 = .ok (.invokestatic 87, 3) := by decide +kernel
theorem dX9_feed_36 : decode cX9_feed 36 = .ok (.ifCond .eq 11, 3) := by decide +kernel
theorem dX9_feed_39 : decode cX9_feed 39 = .ok (.iload 6, 2) := by decide +kernel
theorem dX9_feed_41 : decode cX9_feed 41 = .ok (.invokestatic 87, 3) := by decide +kernel
theorem dX9_feed_44 : decode cX9_feed 44 = .ok (.ifCond .ne 6, 3) := by decide +kernel
theorem dX9_feed_47 : decode cX9_feed 47 = .ok (.bipush (-2), 2) := by decide +kernel
theorem dX9_feed_49 : decode cX9_feed 49 = .ok (.ireturn, 1) := by decide +kernel
theorem dX9_feed_50 : decode cX9_feed 50 = .ok (.aload_n 0, 1) := by decide +kernel
theorem dX9_feed_51 : decode cX9_feed 51 = .ok (.getfield 68, 3) := by decide +kernel
theorem dX9_feed_54 : decode cX9_feed 54 = .ok (.iload_n 1, 1) := by decide +kernel
theorem dX9_feed_55 : decode cX9_feed 55 = .ok (.iadd, 1) := by decide +kernel
theorem dX9_feed_56 : decode cX9_feed 56 = .ok (.sipush 160, 3) := by decide +kernel
theorem dX9_feed_59 : decode cX9_feed 59 = .ok (.if_icmp .le 6, 3) := by decide +kernel
theorem dX9_feed_62 : decode cX9_feed 62 = .ok (.bipush (-4), 2) := by decide +kernel
theorem dX9_feed_64 : decode cX9_feed 64 = .ok (.ireturn, 1) := by decide +kernel
theorem dX9_feed_65 : decode cX9_feed 65 = .ok (.iconst 0, 1) := by decide +kernel
theorem dX9_feed_66 : decode cX9_feed 66 = .ok (.istore 7, 2) := by decide +kernel
theorem dX9_feed_68 : decode cX9_feed 68 = .ok (.iload 7, 2) := by decide +kernel
theorem dX9_feed_70 : decode cX9_feed 70 = .ok (.iload_n 1, 1) := by decide +kernel
theorem dX9_feed_71 : decode cX9_feed 71 = .ok (.if_icmp .ge 71, 3) := by decide +kernel
theorem dX9_feed_74 : decode cX9_feed 74 = .ok (.aload_n 0, 1) := by decide +kernel
theorem dX9_feed_75 : decode cX9_feed 75 = .ok (.getfield 19, 3) := by decide +kernel
theorem dX9_feed_78 : decode cX9_feed 78 = .ok (.aload_n 0, 1) := by decide +kernel
theorem dX9_feed_79 : decode cX9_feed 79 = .ok (.getfield 68, 3) := by decide +kernel
theorem dX9_feed_82 : decode cX9_feed 82 = .ok (.iload 7, 2) := by decide +kernel
theorem dX9_feed_84 : decode cX9_feed 84 = .ok (.ifCond .ne 7, 3) := by decide +kernel
theorem dX9_feed_87 : decode cX9_feed 87 = .ok (.iload_n 2, 1) := by decide +kernel
theorem dX9_feed_88 : decode cX9_feed 88 = .ok (.goto 37, 3) := by decide +kernel
theorem dX9_feed_91 : decode cX9_feed 91 = .ok (.iload 7, 2) := by decide +kernel
theorem dX9_feed_93 : decode cX9_feed 93 = .ok (.iconst 1, 1) := by decide +kernel
theorem dX9_feed_94 : decode cX9_feed 94 = .ok (.if_icmp .ne 7, 3) := by decide +kernel
theorem dX9_feed_97 : decode cX9_feed 97 = .ok (.iload_n 3, 1) := by decide +kernel
theorem dX9_feed_98 : decode cX9_feed 98 = .ok (.goto 27, 3) := by decide +kernel
theorem dX9_feed_101 : decode cX9_feed 101 = .ok (.iload 7, 2) := by decide +kernel
theorem dX9_feed_103 : decode cX9_feed 103 = .ok (.iconst 2, 1) := by decide +kernel
theorem dX9_feed_104 : decode cX9_feed 104 = .ok (.if_icmp .ne 8, 3) := by decide +kernel
theorem dX9_feed_107 : decode cX9_feed 107 = .ok (.iload 4, 2) := by decide +kernel
theorem dX9_feed_109 : decode cX9_feed 109 = .ok (.goto 16, 3) := by decide +kernel
theorem dX9_feed_112 : decode cX9_feed 112 = .ok (.iload 7, 2) := by decide +kernel
theorem dX9_feed_114 : decode cX9_feed 114 = .ok (.iconst 3, 1) := by decide +kernel
theorem dX9_feed_115 : decode cX9_feed 115 = .ok (.if_icmp .ne 8, 3) := by decide +kernel
theorem dX9_feed_118 : decode cX9_feed 118 = .ok (.iload 5, 2) := by decide +kernel
theorem dX9_feed_120 : decode cX9_feed 120 = .ok (.goto 5, 3) := by decide +kernel
theorem dX9_feed_123 : decode cX9_feed 123 = .ok (.iload 6, 2) := by decide +kernel
theorem dX9_feed_125 : decode cX9_feed 125 = .ok (.iastore, 1) := by decide +kernel
theorem dX9_feed_126 : decode cX9_feed 126 = .ok (.aload_n 0, 1) := by decide +kernel
theorem dX9_feed_127 : decode cX9_feed 127 = .ok (.dup, 1) := by decide +kernel
theorem dX9_feed_128 : decode cX9_feed 128 = .ok (.getfield 68, 3) := by decide +kernel
theorem dX9_feed_131 : decode cX9_feed 131 = .ok (.iconst 1, 1) := by decide +kernel
theorem dX9_feed_132 : decode cX9_feed 132 = .ok (.iadd, 1) := by decide +kernel
theorem dX9_feed_133 : decode cX9_feed 133 = .ok (.putfield 68, 3) := by decide +kernel
theorem dX9_feed_136 : decode cX9_feed 136 = .ok (.iinc 7 1, 3) := by decide +kernel
theorem dX9_feed_139 : decode cX9_feed 139 = .ok (.goto (-71), 3) := by decide +kernel
theorem dX9_feed_142 : decode cX9_feed 142 = .ok (.aload_n 0, 1) := by decide +kernel
theorem dX9_feed_143 : decode cX9_feed 143 = .ok (.getfield 68, 3) := by decide +kernel
theorem dX9_feed_146 : decode cX9_feed 146 = .ok (.ireturn, 1) := by decide +kernel
theorem dX9_wordFrom_0 : decode cX9_wordFrom 0 = .ok (.iconst 0, 1) := by decide +kernel
theorem dX9_wordFrom_1 : decode cX9_wordFrom 1 = .ok (.istore_n 3, 1) := by decide +kernel
theorem dX9_wordFrom_2 : decode cX9_wordFrom 2 = .ok (.iload_n 3, 1) := by decide +kernel
theorem dX9_wordFrom_3 : decode cX9_wordFrom 3 = .ok (.bipush 12, 2) := by decide +kernel
theorem dX9_wordFrom_5 : decode cX9_wordFrom 5 = .ok (.if_icmp .ge 96, 3) := by decide +kernel
theorem dX9_wordFrom_8 : decode cX9_wordFrom 8 = .ok (.iload_n 2, 1) := by decide +kernel
theorem dX9_wordFrom_9 : decode cX9_wordFrom 9 = .ok (.iload_n 1, 1) := by decide +kernel
theorem dX9_wordFrom_10 : decode cX9_wordFrom 10 = .ok (.isub, 1) := by decide +kernel
theorem dX9_wordFrom_11 : decode cX9_wordFrom 11 = .ok (.bipush 8, 2) := by decide +kernel
theorem dX9_wordFrom_13 : decode cX9_wordFrom 13 = .ok (.if_icmp .gt 7, 3) := by decide +kernel
theorem dX9_wordFrom_16 : decode cX9_wordFrom 16 = .ok (.iconst 1, 1) := by decide +kernel
theorem dX9_wordFrom_17 : decode cX9_wordFrom 17 = .ok (.goto 4, 3) := by decide +kernel
theorem dX9_wordFrom_20 : decode cX9_wordFrom 20 = .ok (.iconst 0, 1) := by decide +kernel
theorem dX9_wordFrom_21 : decode cX9_wordFrom 21 = .ok (.istore 4, 2) := by decide +kernel
theorem dX9_wordFrom_23 : decode cX9_wordFrom 23 = .ok (.iconst 0, 1) := by decide +kernel
theorem dX9_wordFrom_24 : decode cX9_wordFrom 24 = .ok (.istore 5, 2) := by decide +kernel
theorem dX9_wordFrom_26 : decode cX9_wordFrom 26 = .ok (.iload 5, 2) := by decide +kernel
theorem dX9_wordFrom_28 : decode cX9_wordFrom 28 = .ok (.bipush 8, 2) := by decide +kernel
theorem dX9_wordFrom_30 : decode cX9_wordFrom 30 = .ok (.if_icmp .ge 58, 3) := by decide +kernel
theorem dX9_wordFrom_33 : decode cX9_wordFrom 33 = .ok (.iload 4, 2) := by decide +kernel
theorem dX9_wordFrom_35 : decode cX9_wordFrom 35 = .ok (.ifCond .eq 53, 3) := by decide +kernel
theorem dX9_wordFrom_38 : decode cX9_wordFrom 38 = .ok (.aload_n 0, 1) := by decide +kernel
theorem dX9_wordFrom_39 : decode cX9_wordFrom 39 = .ok (.getfield 43, 3) := by decide +kernel
theorem dX9_wordFrom_42 : decode cX9_wordFrom 42 = .ok (.bipush 8, 2) := by decide +kernel
theorem dX9_wordFrom_44 : decode cX9_wordFrom 44 = .ok (.iload_n 3, 1) := by decide +kernel
theorem dX9_wordFrom_45 : decode cX9_wordFrom 45 = .ok (.imul, 1) := by decide +kernel
theorem dX9_wordFrom_46 : decode cX9_wordFrom 46 = .ok (.iload 5, 2) := by decide +kernel
theorem dX9_wordFrom_48 : decode cX9_wordFrom 48 = .ok (.iadd, 1) := by decide +kernel
theorem dX9_wordFrom_49 : decode cX9_wordFrom 49 = .ok (.iaload, 1) := by decide +kernel
theorem dX9_wordFrom_50 : decode cX9_wordFrom 50 = .ok (.iload_n 1, 1) := by decide +kernel
theorem dX9_wordFrom_51 : decode cX9_wordFrom 51 = .ok (.iload 5, 2) := by decide +kernel
theorem dX9_wordFrom_53 : decode cX9_wordFrom 53 = .ok (.iadd, 1) := by decide +kernel
theorem dX9_wordFrom_54 : decode cX9_wordFrom 54 = .ok (.iload_n 2, 1) := by decide +kernel
theorem dX9_wordFrom_55 : decode cX9_wordFrom 55 = .ok (.if_icmp .ge 15, 3) := by decide +kernel
theorem dX9_wordFrom_58 : decode cX9_wordFrom 58 = .ok (.aload_n 0, 1) := by decide +kernel
theorem dX9_wordFrom_59 : decode cX9_wordFrom 59 = .ok (.getfield 19, 3) := by decide +kernel
theorem dX9_wordFrom_62 : decode cX9_wordFrom 62 = .ok (.iload_n 1, 1) := by decide +kernel
theorem dX9_wordFrom_63 : decode cX9_wordFrom 63 = .ok (.iload 5, 2) := by decide +kernel
theorem dX9_wordFrom_65 : decode cX9_wordFrom 65 = .ok (.iadd, 1) := by decide +kernel
theorem dX9_wordFrom_66 : decode cX9_wordFrom 66 = .ok (.iaload, 1) := by decide +kernel
theorem dX9_wordFrom_67 : decode cX9_wordFrom 67 = .ok (.goto 5, 3) := by decide +kernel
theorem dX9_wordFrom_70 : decode cX9_wordFrom 70 = .ok (.bipush 32, 2) := by decide +kernel
theorem dX9_wordFrom_72 : decode cX9_wordFrom 72 = .ok (.if_icmp .ne 7, 3) := by decide +kernel
theorem dX9_wordFrom_75 : decode cX9_wordFrom 75 = .ok (.iconst 1, 1) := by decide +kernel
theorem dX9_wordFrom_76 : decode cX9_wordFrom 76 = .ok (.goto 4, 3) := by decide +kernel
theorem dX9_wordFrom_79 : decode cX9_wordFrom 79 = .ok (.iconst 0, 1) := by decide +kernel
theorem dX9_wordFrom_80 : decode cX9_wordFrom 80 = .ok (.istore 4, 2) := by decide +kernel
theorem dX9_wordFrom_82 : decode cX9_wordFrom 82 = .ok (.iinc 5 1, 3) := by decide +kernel
theorem dX9_wordFrom_85 : decode cX9_wordFrom 85 = .ok (.goto (-59), 3) := by decide +kernel
theorem dX9_wordFrom_88 : decode cX9_wordFrom 88 = .ok (.iload 4, 2) := by decide +kernel
theorem dX9_wordFrom_90 : decode cX9_wordFrom 90 = .ok (.ifCond .eq 5, 3) := by decide +kernel
theorem dX9_wordFrom_93 : decode cX9_wordFrom 93 = .ok (.iload_n 3, 1) := by decide +kernel
theorem dX9_wordFrom_94 : decode cX9_wordFrom 94 = .ok (.ireturn, 1) := by decide +kernel
theorem dX9_wordFrom_95 : decode cX9_wordFrom 95 = .ok (.iinc 3 1, 3) := by decide +kernel
theorem dX9_wordFrom_98 : decode cX9_wordFrom 98 = .ok (.goto (-96), 3) := by decide +kernel
theorem dX9_wordFrom_101 : decode cX9_wordFrom 101 = .ok (.bipush 12, 2) := by decide +kernel
theorem dX9_wordFrom_103 : decode cX9_wordFrom 103 = .ok (.ireturn, 1) := by decide +kernel
theorem dX9_next_0 : decode cX9_next 0 = .ok (.aload_n 0, 1) := by decide +kernel
theorem dX9_next_1 : decode cX9_next 1 = .ok (.getfield 91, 3) := by decide +kernel
theorem dX9_next_4 : decode cX9_next 4 = .ok (.aload_n 0, 1) := by decide +kernel
theorem dX9_next_5 : decode cX9_next 5 = .ok (.getfield 68, 3) := by decide +kernel
theorem dX9_next_8 : decode cX9_next 8 = .ok (.if_icmp .ge 44, 3) := by decide +kernel
theorem dX9_next_11 : decode cX9_next 11 = .ok (.aload_n 0, 1) := by decide +kernel
theorem dX9_next_12 : decode cX9_next 12 = .ok (.getfield 19, 3) := by decide +kernel
theorem dX9_next_15 : decode cX9_next 15 = .ok (.aload_n 0, 1) := by decide +kernel
theorem dX9_next_16 : decode cX9_next 16 = .ok (.getfield 91, 3) := by decide +kernel
theorem dX9_next_19 : decode cX9_next 19 = .ok (.iaload, 1) := by decide +kernel
theorem dX9_next_20 : decode cX9_next 20 = .ok (.bipush 32, 2) := by decide +kernel
theorem dX9_next_22 : decode cX9_next 22 = .ok (.if_icmp .eq 17, 3) := by decide +kernel
theorem dX9_next_25 : decode cX9_next 25 = .ok (.aload_n 0, 1) := by decide +kernel
theorem dX9_next_26 : decode cX9_next 26 = .ok (.getfield 19, 3) := by decide +kernel
theorem dX9_next_29 : decode cX9_next 29 = .ok (.aload_n 0, 1) := by decide +kernel
theorem dX9_next_30 : decode cX9_next 30 = .ok (.getfield 91, 3) := by decide +kernel
theorem dX9_next_33 : decode cX9_next 33 = .ok (.iaload, 1) := by decide +kernel
theorem dX9_next_34 : decode cX9_next 34 = .ok (.bipush 10, 2) := by decide +kernel
theorem dX9_next_36 : decode cX9_next 36 = .ok (.if_icmp .ne 16, 3) := by decide +kernel
theorem dX9_next_39 : decode cX9_next 39 = .ok (.aload_n 0, 1) := by decide +kernel
theorem dX9_next_40 : decode cX9_next 40 = .ok (.dup, 1) := by decide +kernel
theorem dX9_next_41 : decode cX9_next 41 = .ok (.getfield 91, 3) := by decide +kernel
theorem dX9_next_44 : decode cX9_next 44 = .ok (.iconst 1, 1) := by decide +kernel
theorem dX9_next_45 : decode cX9_next 45 = .ok (.iadd, 1) := by decide +kernel
theorem dX9_next_46 : decode cX9_next 46 = .ok (.putfield 91, 3) := by decide +kernel
theorem dX9_next_49 : decode cX9_next 49 = .ok (.goto (-49), 3) := by decide +kernel
theorem dX9_next_52 : decode cX9_next 52 = .ok (.aload_n 0, 1) := by decide +kernel
theorem dX9_next_53 : decode cX9_next 53 = .ok (.aload_n 0, 1) := by decide +kernel
theorem dX9_next_54 : decode cX9_next 54 = .ok (.getfield 91, 3) := by decide +kernel
theorem dX9_next_57 : decode cX9_next 57 = .ok (.putfield 94, 3) := by decide +kernel
theorem dX9_next_60 : decode cX9_next 60 = .ok (.aload_n 0, 1) := by decide +kernel
theorem dX9_next_61 : decode cX9_next 61 = .ok (.iconst 0, 1) := by decide +kernel
theorem dX9_next_62 : decode cX9_next 62 = .ok (.putfield 97, 3) := by decide +kernel
theorem dX9_next_65 : decode cX9_next 65 = .ok (.aload_n 0, 1) := by decide +kernel
theorem dX9_next_66 : decode cX9_next 66 = .ok (.iconst 0, 1) := by decide +kernel
theorem dX9_next_67 : decode cX9_next 67 = .ok (.putfield 100, 3) := by decide +kernel
theorem dX9_next_70 : decode cX9_next 70 = .ok (.aload_n 0, 1) := by decide +kernel
theorem dX9_next_71 : decode cX9_next 71 = .ok (.getfield 91, 3) := by decide +kernel
theorem dX9_next_74 : decode cX9_next 74 = .ok (.aload_n 0, 1) := by decide +kernel
theorem dX9_next_75 : decode cX9_next 75 = .ok (.getfield 68, 3) := by decide +kernel
theorem dX9_next_78 : decode cX9_next 78 = .ok (.if_icmp .ne 4, 3) := by decide +kernel
theorem dX9_next_81 : decode cX9_next 81 = .ok (.return_, 1) := by decide +kernel
theorem dX9_next_82 : decode cX9_next 82 = .ok (.aload_n 0, 1) := by decide +kernel
theorem dX9_next_83 : decode cX9_next 83 = .ok (.getfield 19, 3) := by decide +kernel
theorem dX9_next_86 : decode cX9_next 86 = .ok (.aload_n 0, 1) := by decide +kernel
theorem dX9_next_87 : decode cX9_next 87 = .ok (.getfield 91, 3) := by decide +kernel
theorem dX9_next_90 : decode cX9_next 90 = .ok (.iaload, 1) := by decide +kernel
theorem dX9_next_91 : decode cX9_next 91 = .ok (.istore_n 1, 1) := by decide +kernel
theorem dX9_next_92 : decode cX9_next 92 = .ok (.iload_n 1, 1) := by decide +kernel
theorem dX9_next_93 : decode cX9_next 93 = .ok (.bipush 97, 2) := by decide +kernel
theorem dX9_next_95 : decode cX9_next 95 = .ok (.bipush 122, 2) := by decide +kernel
theorem dX9_next_97 : decode cX9_next 97 = .ok (.invokestatic 76, 3) := by decide +kernel
theorem dX9_next_100 : decode cX9_next 100 = .ok (.ifCond .eq 117, 3) := by decide +kernel
theorem dX9_next_103 : decode cX9_next 103 = .ok (.aload_n 0, 1) := by decide +kernel
theorem dX9_next_104 : decode cX9_next 104 = .ok (.getfield 91, 3) := by decide +kernel
theorem dX9_next_107 : decode cX9_next 107 = .ok (.aload_n 0, 1) := by decide +kernel
theorem dX9_next_108 : decode cX9_next 108 = .ok (.getfield 68, 3) := by decide +kernel
theorem dX9_next_111 : decode cX9_next 111 = .ok (.if_icmp .ge 35, 3) := by decide +kernel
theorem dX9_next_114 : decode cX9_next 114 = .ok (.aload_n 0, 1) := by decide +kernel
theorem dX9_next_115 : decode cX9_next 115 = .ok (.getfield 19, 3) := by decide +kernel
theorem dX9_next_118 : decode cX9_next 118 = .ok (.aload_n 0, 1) := by decide +kernel
theorem dX9_next_119 : decode cX9_next 119 = .ok (.getfield 91, 3) := by decide +kernel
theorem dX9_next_122 : decode cX9_next 122 = .ok (.iaload, 1) := by decide +kernel
theorem dX9_next_123 : decode cX9_next 123 = .ok (.bipush 97, 2) := by decide +kernel
theorem dX9_next_125 : decode cX9_next 125 = .ok (.bipush 122, 2) := by decide +kernel
theorem dX9_next_127 : decode cX9_next 127 = .ok (.invokestatic 76, 3) := by decide +kernel
theorem dX9_next_130 : decode cX9_next 130 = .ok (.ifCond .eq 16, 3) := by decide +kernel
theorem dX9_next_133 : decode cX9_next 133 = .ok (.aload_n 0, 1) := by decide +kernel
theorem dX9_next_134 : decode cX9_next 134 = .ok (.dup, 1) := by decide +kernel
theorem dX9_next_135 : decode cX9_next 135 = .ok (.getfield 91, 3) := by decide +kernel
theorem dX9_next_138 : decode cX9_next 138 = .ok (.iconst 1, 1) := by decide +kernel
theorem dX9_next_139 : decode cX9_next 139 = .ok (.iadd, 1) := by decide +kernel
theorem dX9_next_140 : decode cX9_next 140 = .ok (.putfield 91, 3) := by decide +kernel
theorem dX9_next_143 : decode cX9_next 143 = .ok (.goto (-40), 3) := by decide +kernel
theorem dX9_next_146 : decode cX9_next 146 = .ok (.aload_n 0, 1) := by decide +kernel
theorem dX9_next_147 : decode cX9_next 147 = .ok (.aload_n 0, 1) := by decide +kernel
theorem dX9_next_148 : decode cX9_next 148 = .ok (.getfield 94, 3) := by decide +kernel
theorem dX9_next_151 : decode cX9_next 151 = .ok (.aload_n 0, 1) := by decide +kernel
theorem dX9_next_152 : decode cX9_next 152 = .ok (.getfield 91, 3) := by decide +kernel
theorem dX9_next_155 : decode cX9_next 155 = .ok (.invokevirtual 103, 3) := by decide +kernel
theorem dX9_next_158 : decode cX9_next 158 = .ok (.istore_n 2, 1) := by decide +kernel
theorem dX9_next_159 : decode cX9_next 159 = .ok (.aload_n 0, 1) := by decide +kernel
theorem dX9_next_160 : decode cX9_next 160 = .ok (.iload_n 2, 1) := by decide +kernel
theorem dX9_next_161 : decode cX9_next 161 = .ok (.iconst 3, 1) := by decide +kernel
theorem dX9_next_162 : decode cX9_next 162 = .ok (.if_icmp .ge 7, 3) := by decide +kernel
theorem dX9_next_165 : decode cX9_next 165 = .ok (.iconst 3, 1) := by decide +kernel
theorem dX9_next_166 : decode cX9_next 166 = .ok (.goto 29, 3) := by decide +kernel
theorem dX9_next_169 : decode cX9_next 169 = .ok (.iload_n 2, 1) := by decide +kernel
theorem dX9_next_170 : decode cX9_next 170 = .ok (.bipush 9, 2) := by decide +kernel
theorem dX9_next_172 : decode cX9_next 172 = .ok (.if_icmp .ge 7, 3) := by decide +kernel
theorem dX9_next_175 : decode cX9_next 175 = .ok (.iconst 2, 1) := by decide +kernel
theorem dX9_next_176 : decode cX9_next 176 = .ok (.goto 19, 3) := by decide +kernel
theorem dX9_next_179 : decode cX9_next 179 = .ok (.iload_n 2, 1) := by decide +kernel
theorem dX9_next_180 : decode cX9_next 180 = .ok (.bipush 12, 2) := by decide +kernel
theorem dX9_next_182 : decode cX9_next 182 = .ok (.if_icmp .ne 7, 3) := by decide +kernel
theorem dX9_next_185 : decode cX9_next 185 = .ok (.iconst (-1), 1) := by decide +kernel
theorem dX9_next_186 : decode cX9_next 186 = .ok (.goto 9, 3) := by decide +kernel
theorem dX9_next_189 : decode cX9_next 189 = .ok (.iconst 4, 1) := by decide +kernel
theorem dX9_next_190 : decode cX9_next 190 = .ok (.iload_n 2, 1) := by decide +kernel
theorem dX9_next_191 : decode cX9_next 191 = .ok (.iadd, 1) := by decide +kernel
theorem dX9_next_192 : decode cX9_next 192 = .ok (.bipush 9, 2) := by decide +kernel
theorem dX9_next_194 : decode cX9_next 194 = .ok (.isub, 1) := by decide +kernel
theorem dX9_next_195 : decode cX9_next 195 = .ok (.putfield 97, 3) := by decide +kernel
theorem dX9_next_198 : decode cX9_next 198 = .ok (.aload_n 0, 1) := by decide +kernel
theorem dX9_next_199 : decode cX9_next 199 = .ok (.iload_n 2, 1) := by decide +kernel
theorem dX9_next_200 : decode cX9_next 200 = .ok (.iconst 3, 1) := by decide +kernel
theorem dX9_next_201 : decode cX9_next 201 = .ok (.if_icmp .ge 7, 3) := by decide +kernel
theorem dX9_next_204 : decode cX9_next 204 = .ok (.iload_n 2, 1) := by decide +kernel
theorem dX9_next_205 : decode cX9_next 205 = .ok (.goto 6, 3) := by decide +kernel
theorem dX9_next_208 : decode cX9_next 208 = .ok (.iload_n 2, 1) := by decide +kernel
theorem dX9_next_209 : decode cX9_next 209 = .ok (.iconst 3, 1) := by decide +kernel
theorem dX9_next_210 : decode cX9_next 210 = .ok (.isub, 1) := by decide +kernel
theorem dX9_next_211 : decode cX9_next 211 = .ok (.putfield 100, 3) := by decide +kernel
theorem dX9_next_214 : decode cX9_next 214 = .ok (.goto 189, 3) := by decide +kernel
theorem dX9_next_217 : decode cX9_next 217 = .ok (.iload_n 1, 1) := by decide +kernel
theorem dX9_next_218 : decode cX9_next 218 = .ok (.bipush 48, 2) := by decide +kernel
theorem dX9_next_220 : decode cX9_next 220 = .ok (.bipush 57, 2) := by decide +kernel
theorem dX9_next_222 : decode cX9_next 222 = .ok (.invokestatic 76, 3) := by decide +kernel
theorem dX9_next_225 : decode cX9_next 225 = .ok (.ifCond .eq 101, 3) := by decide +kernel
theorem dX9_next_228 : decode cX9_next 228 = .ok (.iconst 0, 1) := by decide +kernel
theorem dX9_next_229 : decode cX9_next 229 = .ok (.istore_n 2, 1) := by decide +kernel
theorem dX9_next_230 : decode cX9_next 230 = .ok (.aload_n 0, 1) := by decide +kernel
theorem dX9_next_231 : decode cX9_next 231 = .ok (.getfield 91, 3) := by decide +kernel
theorem dX9_next_234 : decode cX9_next 234 = .ok (.aload_n 0, 1) := by decide +kernel
theorem dX9_next_235 : decode cX9_next 235 = .ok (.getfield 68, 3) := by decide +kernel
theorem dX9_next_238 : decode cX9_next 238 = .ok (.if_icmp .ge 71, 3) := by decide +kernel
theorem dX9_next_241 : decode cX9_next 241 = .ok (.aload_n 0, 1) := by decide +kernel
theorem dX9_next_242 : decode cX9_next 242 = .ok (.getfield 19, 3) := by decide +kernel
theorem dX9_next_245 : decode cX9_next 245 = .ok (.aload_n 0, 1) := by decide +kernel
theorem dX9_next_246 : decode cX9_next 246 = .ok (.getfield 91, 3) := by decide +kernel
theorem dX9_next_249 : decode cX9_next 249 = .ok (.iaload, 1) := by decide +kernel
theorem dX9_next_250 : decode cX9_next 250 = .ok (.bipush 48, 2) := by decide +kernel
theorem dX9_next_252 : decode cX9_next 252 = .ok (.bipush 57, 2) := by decide +kernel
theorem dX9_next_254 : decode cX9_next 254 = .ok (.invokestatic 76, 3) := by decide +kernel
theorem dX9_next_257 : decode cX9_next 257 = .ok (.ifCond .eq 52, 3) := by decide +kernel
theorem dX9_next_260 : decode cX9_next 260 = .ok (.aload_n 0, 1) := by decide +kernel
theorem dX9_next_261 : decode cX9_next 261 = .ok (.iload_n 2, 1) := by decide +kernel
theorem dX9_next_262 : decode cX9_next 262 = .ok (.iconst 4, 1) := by decide +kernel
theorem dX9_next_263 : decode cX9_next 263 = .ok (.if_icmp .ge 26, 3) := by decide +kernel
theorem dX9_next_266 : decode cX9_next 266 = .ok (.bipush 10, 2) := by decide +kernel
theorem dX9_next_268 : decode cX9_next 268 = .ok (.aload_n 0, 1) := by decide +kernel
theorem dX9_next_269 : decode cX9_next 269 = .ok (.getfield 100, 3) := by decide +kernel
theorem dX9_next_272 : decode cX9_next 272 = .ok (.imul, 1) := by decide +kernel
theorem dX9_next_273 : decode cX9_next 273 = .ok (.aload_n 0, 1) := by decide +kernel
theorem dX9_next_274 : decode cX9_next 274 = .ok (.getfield 19, 3) := by decide +kernel
theorem dX9_next_277 : decode cX9_next 277 = .ok (.aload_n 0, 1) := by decide +kernel
theorem dX9_next_278 : decode cX9_next 278 = .ok (.getfield 91, 3) := by decide +kernel
theorem dX9_next_281 : decode cX9_next 281 = .ok (.iaload, 1) := by decide +kernel
theorem dX9_next_282 : decode cX9_next 282 = .ok (.iadd, 1) := by decide +kernel
theorem dX9_next_283 : decode cX9_next 283 = .ok (.bipush 48, 2) := by decide +kernel
theorem dX9_next_285 : decode cX9_next 285 = .ok (.isub, 1) := by decide +kernel
theorem dX9_next_286 : decode cX9_next 286 = .ok (.goto 4, 3) := by decide +kernel
theorem dX9_next_289 : decode cX9_next 289 = .ok (.iconst 0, 1) := by decide +kernel
theorem dX9_next_290 : decode cX9_next 290 = .ok (.putfield 100, 3) := by decide +kernel
theorem dX9_next_293 : decode cX9_next 293 = .ok (.iinc 2 1, 3) := by decide +kernel
theorem dX9_next_296 : decode cX9_next 296 = .ok (.aload_n 0, 1) := by decide +kernel
theorem dX9_next_297 : decode cX9_next 297 = .ok (.dup, 1) := by decide +kernel
theorem dX9_next_298 : decode cX9_next 298 = .ok (.getfield 91, 3) := by decide +kernel
theorem dX9_next_301 : decode cX9_next 301 = .ok (.iconst 1, 1) := by decide +kernel
theorem dX9_next_302 : decode cX9_next 302 = .ok (.iadd, 1) := by decide +kernel
theorem dX9_next_303 : decode cX9_next 303 = .ok (.putfield 91, 3) := by decide +kernel
theorem dX9_next_306 : decode cX9_next 306 = .ok (.goto (-76), 3) := by decide +kernel
theorem dX9_next_309 : decode cX9_next 309 = .ok (.aload_n 0, 1) := by decide +kernel
theorem dX9_next_310 : decode cX9_next 310 = .ok (.iload_n 2, 1) := by decide +kernel
theorem dX9_next_311 : decode cX9_next 311 = .ok (.iconst 4, 1) := by decide +kernel
theorem dX9_next_312 : decode cX9_next 312 = .ok (.if_icmp .le 7, 3) := by decide +kernel
theorem dX9_next_315 : decode cX9_next 315 = .ok (.iconst (-1), 1) := by decide +kernel
theorem dX9_next_316 : decode cX9_next 316 = .ok (.goto 4, 3) := by decide +kernel
theorem dX9_next_319 : decode cX9_next 319 = .ok (.iconst 1, 1) := by decide +kernel
theorem dX9_next_320 : decode cX9_next 320 = .ok (.putfield 97, 3) := by decide +kernel
theorem dX9_next_323 : decode cX9_next 323 = .ok (.goto 80, 3) := by decide +kernel
theorem dX9_next_326 : decode cX9_next 326 = .ok (.iload_n 1, 1) := by decide +kernel
theorem dX9_next_327 : decode cX9_next 327 = .ok (.bipush 40, 2) := by decide +kernel
theorem dX9_next_329 : decode cX9_next 329 = .ok (.if_icmp .eq 45, 3) := by decide +kernel
theorem dX9_next_332 : decode cX9_next 332 = .ok (.iload_n 1, 1) := by decide +kernel
theorem dX9_next_333 : decode cX9_next 333 = .ok (.bipush 41, 2) := by decide +kernel
theorem dX9_next_335 : decode cX9_next 335 = .ok (.if_icmp .eq 39, 3) := by decide +kernel
theorem dX9_next_338 : decode cX9_next 338 = .ok (.iload_n 1, 1) := by decide +kernel
theorem dX9_next_339 : decode cX9_next 339 = .ok (.bipush 59, 2) := by decide +kernel
theorem dX9_next_341 : decode cX9_next 341 = .ok (.if_icmp .eq 33, 3) := by decide +kernel
theorem dX9_next_344 : decode cX9_next 344 = .ok (.iload_n 1, 1) := by decide +kernel
theorem dX9_next_345 : decode cX9_next 345 = .ok (.bipush 43, 2) := by decide +kernel
theorem dX9_next_347 : decode cX9_next 347 = .ok (.if_icmp .eq 27, 3) := by decide +kernel
theorem dX9_next_350 : decode cX9_next 350 = .ok (.iload_n 1, 1) := by decide +kernel
theorem dX9_next_351 : decode cX9_next 351 = .ok (.bipush 45, 2) := by decide +kernel
theorem dX9_next_353 : decode cX9_next 353 = .ok (.if_icmp .eq 21, 3) := by decide +kernel
theorem dX9_next_356 : decode cX9_next 356 = .ok (.iload_n 1, 1) := by decide +kernel
theorem dX9_next_357 : decode cX9_next 357 = .ok (.bipush 42, 2) := by decide +kernel
theorem dX9_next_359 : decode cX9_next 359 = .ok (.if_icmp .eq 15, 3) := by decide +kernel
theorem dX9_next_362 : decode cX9_next 362 = .ok (.iload_n 1, 1) := by decide +kernel
theorem dX9_next_363 : decode cX9_next 363 = .ok (.bipush 60, 2) := by decide +kernel
theorem dX9_next_365 : decode cX9_next 365 = .ok (.if_icmp .eq 9, 3) := by decide +kernel
theorem dX9_next_368 : decode cX9_next 368 = .ok (.iload_n 1, 1) := by decide +kernel
theorem dX9_next_369 : decode cX9_next 369 = .ok (.bipush 61, 2) := by decide +kernel
theorem dX9_next_371 : decode cX9_next 371 = .ok (.if_icmp .ne 7, 3) := by decide +kernel
theorem dX9_next_374 : decode cX9_next 374 = .ok (.iconst 1, 1) := by decide +kernel
theorem dX9_next_375 : decode cX9_next 375 = .ok (.goto 4, 3) := by decide +kernel
theorem dX9_next_378 : decode cX9_next 378 = .ok (.iconst 0, 1) := by decide +kernel
theorem dX9_next_379 : decode cX9_next 379 = .ok (.istore_n 2, 1) := by decide +kernel
theorem dX9_next_380 : decode cX9_next 380 = .ok (.aload_n 0, 1) := by decide +kernel
theorem dX9_next_381 : decode cX9_next 381 = .ok (.iload_n 2, 1) := by decide +kernel
theorem dX9_next_382 : decode cX9_next 382 = .ok (.ifCond .eq 7, 3) := by decide +kernel
theorem dX9_next_385 : decode cX9_next 385 = .ok (.iload_n 1, 1) := by decide +kernel
theorem dX9_next_386 : decode cX9_next 386 = .ok (.goto 4, 3) := by decide +kernel
theorem dX9_next_389 : decode cX9_next 389 = .ok (.iconst (-1), 1) := by decide +kernel
theorem dX9_next_390 : decode cX9_next 390 = .ok (.putfield 97, 3) := by decide +kernel
theorem dX9_next_393 : decode cX9_next 393 = .ok (.aload_n 0, 1) := by decide +kernel
theorem dX9_next_394 : decode cX9_next 394 = .ok (.dup, 1) := by decide +kernel
theorem dX9_next_395 : decode cX9_next 395 = .ok (.getfield 91, 3) := by decide +kernel
theorem dX9_next_398 : decode cX9_next 398 = .ok (.iconst 1, 1) := by decide +kernel
theorem dX9_next_399 : decode cX9_next 399 = .ok (.iadd, 1) := by decide +kernel
theorem dX9_next_400 : decode cX9_next 400 = .ok (.putfield 91, 3) := by decide +kernel
theorem dX9_next_403 : decode cX9_next 403 = .ok (.return_, 1) := by decide +kernel
theorem dX9_rank_0 : decode cX9_rank 0 = .ok (.iload_n 0, 1) := by decide +kernel
theorem dX9_rank_1 : decode cX9_rank 1 = .ok (.ifCond .ne 7, 3) := by decide +kernel
theorem dX9_rank_4 : decode cX9_rank 4 = .ok (.iconst 0, 1) := by decide +kernel
theorem dX9_rank_5 : decode cX9_rank 5 = .ok (.goto 66, 3) := by decide +kernel
theorem dX9_rank_8 : decode cX9_rank 8 = .ok (.iload_n 0, 1) := by decide +kernel
theorem dX9_rank_9 : decode cX9_rank 9 = .ok (.bipush 11, 2) := by decide +kernel
theorem dX9_rank_11 : decode cX9_rank 11 = .ok (.if_icmp .ne 7, 3) := by decide +kernel
theorem dX9_rank_14 : decode cX9_rank 14 = .ok (.iconst 1, 1) := by decide +kernel
theorem dX9_rank_15 : decode cX9_rank 15 = .ok (.goto 56, 3) := by decide +kernel
theorem dX9_rank_18 : decode cX9_rank 18 = .ok (.iload_n 0, 1) := by decide +kernel
theorem dX9_rank_19 : decode cX9_rank 19 = .ok (.bipush 12, 2) := by decide +kernel
theorem dX9_rank_21 : decode cX9_rank 21 = .ok (.if_icmp .ne 7, 3) := by decide +kernel
theorem dX9_rank_24 : decode cX9_rank 24 = .ok (.iconst 2, 1) := by decide +kernel
theorem dX9_rank_25 : decode cX9_rank 25 = .ok (.goto 46, 3) := by decide +kernel
theorem dX9_rank_28 : decode cX9_rank 28 = .ok (.iload_n 0, 1) := by decide +kernel
theorem dX9_rank_29 : decode cX9_rank 29 = .ok (.bipush 13, 2) := by decide +kernel
theorem dX9_rank_31 : decode cX9_rank 31 = .ok (.if_icmp .ne 7, 3) := by decide +kernel
theorem dX9_rank_34 : decode cX9_rank 34 = .ok (.iconst 3, 1) := by decide +kernel
theorem dX9_rank_35 : decode cX9_rank 35 = .ok (.goto 36, 3) := by decide +kernel
theorem dX9_rank_38 : decode cX9_rank 38 = .ok (.iload_n 0, 1) := by decide +kernel
theorem dX9_rank_39 : decode cX9_rank 39 = .ok (.bipush 15, 2) := by decide +kernel
theorem dX9_rank_41 : decode cX9_rank 41 = .ok (.if_icmp .gt 7, 3) := by decide +kernel
theorem dX9_rank_44 : decode cX9_rank 44 = .ok (.iconst 4, 1) := by decide +kernel
theorem dX9_rank_45 : decode cX9_rank 45 = .ok (.goto 26, 3) := by decide +kernel
theorem dX9_rank_48 : decode cX9_rank 48 = .ok (.iload_n 0, 1) := by decide +kernel
theorem dX9_rank_49 : decode cX9_rank 49 = .ok (.bipush 17, 2) := by decide +kernel
theorem dX9_rank_51 : decode cX9_rank 51 = .ok (.if_icmp .gt 7, 3) := by decide +kernel
theorem dX9_rank_54 : decode cX9_rank 54 = .ok (.iconst 5, 1) := by decide +kernel
theorem dX9_rank_55 : decode cX9_rank 55 = .ok (.goto 16, 3) := by decide +kernel
theorem dX9_rank_58 : decode cX9_rank 58 = .ok (.iload_n 0, 1) := by decide +kernel
theorem dX9_rank_59 : decode cX9_rank 59 = .ok (.bipush 18, 2) := by decide +kernel
theorem dX9_rank_61 : decode cX9_rank 61 = .ok (.if_icmp .ne 8, 3) := by decide +kernel
theorem dX9_rank_64 : decode cX9_rank 64 = .ok (.bipush 6, 2) := by decide +kernel
theorem dX9_rank_66 : decode cX9_rank 66 = .ok (.goto 5, 3) := by decide +kernel
theorem dX9_rank_69 : decode cX9_rank 69 = .ok (.bipush 7, 2) := by decide +kernel
theorem dX9_rank_71 : decode cX9_rank 71 = .ok (.ireturn, 1) := by decide +kernel
theorem dX9_puts_0 : decode cX9_puts 0 = .ok (.aload_n 0, 1) := by decide +kernel
theorem dX9_puts_1 : decode cX9_puts 1 = .ok (.getfield 22, 3) := by decide +kernel
theorem dX9_puts_4 : decode cX9_puts 4 = .ok (.sipush 200, 3) := by decide +kernel
theorem dX9_puts_7 : decode cX9_puts 7 = .ok (.aload_n 0, 1) := by decide +kernel
theorem dX9_puts_8 : decode cX9_puts 8 = .ok (.getfield 80, 3) := by decide +kernel
theorem dX9_puts_11 : decode cX9_puts 11 = .ok (.imul, 1) := by decide +kernel
theorem dX9_puts_12 : decode cX9_puts 12 = .ok (.aload_n 0, 1) := by decide +kernel
theorem dX9_puts_13 : decode cX9_puts 13 = .ok (.getfield 107, 3) := by decide +kernel
theorem dX9_puts_16 : decode cX9_puts 16 = .ok (.iadd, 1) := by decide +kernel
theorem dX9_puts_17 : decode cX9_puts 17 = .ok (.iload_n 1, 1) := by decide +kernel
theorem dX9_puts_18 : decode cX9_puts 18 = .ok (.iastore, 1) := by decide +kernel
theorem dX9_puts_19 : decode cX9_puts 19 = .ok (.aload_n 0, 1) := by decide +kernel
theorem dX9_puts_20 : decode cX9_puts 20 = .ok (.dup, 1) := by decide +kernel
theorem dX9_puts_21 : decode cX9_puts 21 = .ok (.getfield 107, 3) := by decide +kernel
theorem dX9_puts_24 : decode cX9_puts 24 = .ok (.iconst 1, 1) := by decide +kernel
theorem dX9_puts_25 : decode cX9_puts 25 = .ok (.iadd, 1) := by decide +kernel
theorem dX9_puts_26 : decode cX9_puts 26 = .ok (.putfield 107, 3) := by decide +kernel
theorem dX9_puts_29 : decode cX9_puts 29 = .ok (.return_, 1) := by decide +kernel
theorem dX9_unwinds_0 : decode cX9_unwinds 0 = .ok (.aload_n 0, 1) := by decide +kernel
theorem dX9_unwinds_1 : decode cX9_unwinds 1 = .ok (.getfield 110, 3) := by decide +kernel
theorem dX9_unwinds_4 : decode cX9_unwinds 4 = .ok (.ifCond .le 75, 3) := by decide +kernel
theorem dX9_unwinds_7 : decode cX9_unwinds 7 = .ok (.aload_n 0, 1) := by decide +kernel
theorem dX9_unwinds_8 : decode cX9_unwinds 8 = .ok (.getfield 46, 3) := by decide +kernel
theorem dX9_unwinds_11 : decode cX9_unwinds 11 = .ok (.aload_n 0, 1) := by decide +kernel
theorem dX9_unwinds_12 : decode cX9_unwinds 12 = .ok (.getfield 110, 3) := by decide +kernel
theorem dX9_unwinds_15 : decode cX9_unwinds 15 = .ok (.iconst 1, 1) := by decide +kernel
theorem dX9_unwinds_16 : decode cX9_unwinds 16 = .ok (.isub, 1) := by decide +kernel
theorem dX9_unwinds_17 : decode cX9_unwinds 17 = .ok (.iaload, 1) := by decide +kernel
theorem dX9_unwinds_18 : decode cX9_unwinds 18 = .ok (.invokestatic 113, 3) := by decide +kernel
theorem dX9_unwinds_21 : decode cX9_unwinds 21 = .ok (.iload_n 1, 1) := by decide +kernel
theorem dX9_unwinds_22 : decode cX9_unwinds 22 = .ok (.if_icmp .lt 57, 3) := by decide +kernel
theorem dX9_unwinds_25 : decode cX9_unwinds 25 = .ok (.aload_n 0, 1) := by decide +kernel
theorem dX9_unwinds_26 : decode cX9_unwinds 26 = .ok (.dup, 1) := by decide +kernel
theorem dX9_unwinds_27 : decode cX9_unwinds 27 = .ok (.getfield 110, 3) := by decide +kernel
theorem dX9_unwinds_30 : decode cX9_unwinds 30 = .ok (.iconst 1, 1) := by decide +kernel
theorem dX9_unwinds_31 : decode cX9_unwinds 31 = .ok (.isub, 1) := by decide +kernel
theorem dX9_unwinds_32 : decode cX9_unwinds 32 = .ok (.putfield 110, 3) := by decide +kernel
theorem dX9_unwinds_35 : decode cX9_unwinds 35 = .ok (.aload_n 0, 1) := by decide +kernel
theorem dX9_unwinds_36 : decode cX9_unwinds 36 = .ok (.getfield 46, 3) := by decide +kernel
theorem dX9_unwinds_39 : decode cX9_unwinds 39 = .ok (.aload_n 0, 1) := by decide +kernel
theorem dX9_unwinds_40 : decode cX9_unwinds 40 = .ok (.getfield 110, 3) := by decide +kernel
theorem dX9_unwinds_43 : decode cX9_unwinds 43 = .ok (.iaload, 1) := by decide +kernel
theorem dX9_unwinds_44 : decode cX9_unwinds 44 = .ok (.istore_n 2, 1) := by decide +kernel
theorem dX9_unwinds_45 : decode cX9_unwinds 45 = .ok (.aload_n 0, 1) := by decide +kernel
theorem dX9_unwinds_46 : decode cX9_unwinds 46 = .ok (.dup, 1) := by decide +kernel
theorem dX9_unwinds_47 : decode cX9_unwinds 47 = .ok (.getfield 117, 3) := by decide +kernel
theorem dX9_unwinds_50 : decode cX9_unwinds 50 = .ok (.iload_n 2, 1) := by decide +kernel
theorem dX9_unwinds_51 : decode cX9_unwinds 51 = .ok (.bipush 13, 2) := by decide +kernel
theorem dX9_unwinds_53 : decode cX9_unwinds 53 = .ok (.if_icmp .eq 9, 3) := by decide +kernel
theorem dX9_unwinds_56 : decode cX9_unwinds 56 = .ok (.iload_n 2, 1) := by decide +kernel
theorem dX9_unwinds_57 : decode cX9_unwinds 57 = .ok (.bipush 19, 2) := by decide +kernel
theorem dX9_unwinds_59 : decode cX9_unwinds 59 = .ok (.if_icmp .ne 7, 3) := by decide +kernel
theorem dX9_unwinds_62 : decode cX9_unwinds 62 = .ok (.iconst 1, 1) := by decide +kernel
theorem dX9_unwinds_63 : decode cX9_unwinds 63 = .ok (.goto 4, 3) := by decide +kernel
theorem dX9_unwinds_66 : decode cX9_unwinds 66 = .ok (.iconst 0, 1) := by decide +kernel
theorem dX9_unwinds_67 : decode cX9_unwinds 67 = .ok (.isub, 1) := by decide +kernel
theorem dX9_unwinds_68 : decode cX9_unwinds 68 = .ok (.putfield 117, 3) := by decide +kernel
theorem dX9_unwinds_71 : decode cX9_unwinds 71 = .ok (.aload_n 0, 1) := by decide +kernel
theorem dX9_unwinds_72 : decode cX9_unwinds 72 = .ok (.iload_n 2, 1) := by decide +kernel
theorem dX9_unwinds_73 : decode cX9_unwinds 73 = .ok (.invokevirtual 120, 3) := by decide +kernel
theorem dX9_unwinds_76 : decode cX9_unwinds 76 = .ok (.goto (-76), 3) := by decide +kernel
theorem dX9_unwinds_79 : decode cX9_unwinds 79 = .ok (.return_, 1) := by decide +kernel
theorem dX9_holds_0 : decode cX9_holds 0 = .ok (.aload_n 0, 1) := by decide +kernel
theorem dX9_holds_1 : decode cX9_holds 1 = .ok (.getfield 46, 3) := by decide +kernel
theorem dX9_holds_4 : decode cX9_holds 4 = .ok (.aload_n 0, 1) := by decide +kernel
theorem dX9_holds_5 : decode cX9_holds 5 = .ok (.getfield 110, 3) := by decide +kernel
theorem dX9_holds_8 : decode cX9_holds 8 = .ok (.iload_n 1, 1) := by decide +kernel
theorem dX9_holds_9 : decode cX9_holds 9 = .ok (.iastore, 1) := by decide +kernel
theorem dX9_holds_10 : decode cX9_holds 10 = .ok (.aload_n 0, 1) := by decide +kernel
theorem dX9_holds_11 : decode cX9_holds 11 = .ok (.dup, 1) := by decide +kernel
theorem dX9_holds_12 : decode cX9_holds 12 = .ok (.getfield 110, 3) := by decide +kernel
theorem dX9_holds_15 : decode cX9_holds 15 = .ok (.iconst 1, 1) := by decide +kernel
theorem dX9_holds_16 : decode cX9_holds 16 = .ok (.iadd, 1) := by decide +kernel
theorem dX9_holds_17 : decode cX9_holds 17 = .ok (.putfield 110, 3) := by decide +kernel
theorem dX9_holds_20 : decode cX9_holds 20 = .ok (.return_, 1) := by decide +kernel
theorem dX9_opensOne_0 : decode cX9_opensOne 0 = .ok (.aload_n 0, 1) := by decide +kernel
theorem dX9_opensOne_1 : decode cX9_opensOne 1 = .ok (.getfield 117, 3) := by decide +kernel
theorem dX9_opensOne_4 : decode cX9_opensOne 4 = .ok (.iconst 5, 1) := by decide +kernel
theorem dX9_opensOne_5 : decode cX9_opensOne 5 = .ok (.if_icmp .ne 5, 3) := by decide +kernel
theorem dX9_opensOne_8 : decode cX9_opensOne 8 = .ok (.iconst 0, 1) := by decide +kernel
theorem dX9_opensOne_9 : decode cX9_opensOne 9 = .ok (.ireturn, 1) := by decide +kernel
theorem dX9_opensOne_10 : decode cX9_opensOne 10 = .ok (.aload_n 0, 1) := by decide +kernel
theorem dX9_opensOne_11 : decode cX9_opensOne 11 = .ok (.dup, 1) := by decide +kernel
theorem dX9_opensOne_12 : decode cX9_opensOne 12 = .ok (.getfield 117, 3) := by decide +kernel
theorem dX9_opensOne_15 : decode cX9_opensOne 15 = .ok (.iconst 1, 1) := by decide +kernel
theorem dX9_opensOne_16 : decode cX9_opensOne 16 = .ok (.iadd, 1) := by decide +kernel
theorem dX9_opensOne_17 : decode cX9_opensOne 17 = .ok (.putfield 117, 3) := by decide +kernel
theorem dX9_opensOne_20 : decode cX9_opensOne 20 = .ok (.aload_n 0, 1) := by decide +kernel
theorem dX9_opensOne_21 : decode cX9_opensOne 21 = .ok (.iload_n 1, 1) := by decide +kernel
theorem dX9_opensOne_22 : decode cX9_opensOne 22 = .ok (.invokevirtual 124, 3) := by decide +kernel
theorem dX9_opensOne_25 : decode cX9_opensOne 25 = .ok (.iconst 1, 1) := by decide +kernel
theorem dX9_opensOne_26 : decode cX9_opensOne 26 = .ok (.ireturn, 1) := by decide +kernel
theorem dX9_between_0 : decode cX9_between 0 = .ok (.aload_n 0, 1) := by decide +kernel
theorem dX9_between_1 : decode cX9_between 1 = .ok (.iload_n 1, 1) := by decide +kernel
theorem dX9_between_2 : decode cX9_between 2 = .ok (.invokestatic 113, 3) := by decide +kernel
theorem dX9_between_5 : decode cX9_between 5 = .ok (.iconst 4, 1) := by decide +kernel
theorem dX9_between_6 : decode cX9_between 6 = .ok (.if_icmp .ne 7, 3) := by decide +kernel
theorem dX9_between_9 : decode cX9_between 9 = .ok (.iconst 5, 1) := by decide +kernel
theorem dX9_between_10 : decode cX9_between 10 = .ok (.goto 7, 3) := by decide +kernel
theorem dX9_between_13 : decode cX9_between 13 = .ok (.iload_n 1, 1) := by decide +kernel
theorem dX9_between_14 : decode cX9_between 14 = .ok (.invokestatic 113, 3) := by decide +kernel
theorem dX9_between_17 : decode cX9_between 17 = .ok (.invokevirtual 127, 3) := by decide +kernel
theorem dX9_between_20 : decode cX9_between 20 = .ok (.iload_n 1, 1) := by decide +kernel
theorem dX9_between_21 : decode cX9_between 21 = .ok (.invokestatic 113, 3) := by decide +kernel
theorem dX9_between_24 : decode cX9_between 24 = .ok (.iconst 4, 1) := by decide +kernel
theorem dX9_between_25 : decode cX9_between 25 = .ok (.if_icmp .ne 30, 3) := by decide +kernel
theorem dX9_between_28 : decode cX9_between 28 = .ok (.aload_n 0, 1) := by decide +kernel
theorem dX9_between_29 : decode cX9_between 29 = .ok (.getfield 110, 3) := by decide +kernel
theorem dX9_between_32 : decode cX9_between 32 = .ok (.ifCond .le 23, 3) := by decide +kernel
theorem dX9_between_35 : decode cX9_between 35 = .ok (.aload_n 0, 1) := by decide +kernel
theorem dX9_between_36 : decode cX9_between 36 = .ok (.getfield 46, 3) := by decide +kernel
theorem dX9_between_39 : decode cX9_between 39 = .ok (.aload_n 0, 1) := by decide +kernel
theorem dX9_between_40 : decode cX9_between 40 = .ok (.getfield 110, 3) := by decide +kernel
theorem dX9_between_43 : decode cX9_between 43 = .ok (.iconst 1, 1) := by decide +kernel
theorem dX9_between_44 : decode cX9_between 44 = .ok (.isub, 1) := by decide +kernel
theorem dX9_between_45 : decode cX9_between 45 = .ok (.iaload, 1) := by decide +kernel
theorem dX9_between_46 : decode cX9_between 46 = .ok (.invokestatic 113, 3) := by decide +kernel
theorem dX9_between_49 : decode cX9_between 49 = .ok (.iconst 4, 1) := by decide +kernel
theorem dX9_between_50 : decode cX9_between 50 = .ok (.if_icmp .ne 5, 3) := by decide +kernel
theorem dX9_between_53 : decode cX9_between 53 = .ok (.iconst 0, 1) := by decide +kernel
theorem dX9_between_54 : decode cX9_between 54 = .ok (.ireturn, 1) := by decide +kernel
theorem dX9_between_55 : decode cX9_between 55 = .ok (.aload_n 0, 1) := by decide +kernel
theorem dX9_between_56 : decode cX9_between 56 = .ok (.iload_n 1, 1) := by decide +kernel
theorem dX9_between_57 : decode cX9_between 57 = .ok (.invokevirtual 124, 3) := by decide +kernel
theorem dX9_between_60 : decode cX9_between 60 = .ok (.iconst 1, 1) := by decide +kernel
theorem dX9_between_61 : decode cX9_between 61 = .ok (.ireturn, 1) := by decide +kernel
theorem dX9_signOf_0 : decode cX9_signOf 0 = .ok (.aload_n 0, 1) := by decide +kernel
theorem dX9_signOf_1 : decode cX9_signOf 1 = .ok (.getfield 97, 3) := by decide +kernel
theorem dX9_signOf_4 : decode cX9_signOf 4 = .ok (.iconst 4, 1) := by decide +kernel
theorem dX9_signOf_5 : decode cX9_signOf 5 = .ok (.if_icmp .ne 8, 3) := by decide +kernel
theorem dX9_signOf_8 : decode cX9_signOf 8 = .ok (.bipush 11, 2) := by decide +kernel
theorem dX9_signOf_10 : decode cX9_signOf 10 = .ok (.goto 87, 3) := by decide +kernel
theorem dX9_signOf_13 : decode cX9_signOf 13 = .ok (.aload_n 0, 1) := by decide +kernel
theorem dX9_signOf_14 : decode cX9_signOf 14 = .ok (.getfield 97, 3) := by decide +kernel
theorem dX9_signOf_17 : decode cX9_signOf 17 = .ok (.iconst 5, 1) := by decide +kernel
theorem dX9_signOf_18 : decode cX9_signOf 18 = .ok (.if_icmp .ne 8, 3) := by decide +kernel
theorem dX9_signOf_21 : decode cX9_signOf 21 = .ok (.bipush 12, 2) := by decide +kernel
theorem dX9_signOf_23 : decode cX9_signOf 23 = .ok (.goto 74, 3) := by decide +kernel
theorem dX9_signOf_26 : decode cX9_signOf 26 = .ok (.aload_n 0, 1) := by decide +kernel
theorem dX9_signOf_27 : decode cX9_signOf 27 = .ok (.getfield 97, 3) := by decide +kernel
theorem dX9_signOf_30 : decode cX9_signOf 30 = .ok (.bipush 60, 2) := by decide +kernel
theorem dX9_signOf_32 : decode cX9_signOf 32 = .ok (.if_icmp .ne 8, 3) := by decide +kernel
theorem dX9_signOf_35 : decode cX9_signOf 35 = .ok (.bipush 14, 2) := by decide +kernel
theorem dX9_signOf_37 : decode cX9_signOf 37 = .ok (.goto 60, 3) := by decide +kernel
theorem dX9_signOf_40 : decode cX9_signOf 40 = .ok (.aload_n 0, 1) := by decide +kernel
theorem dX9_signOf_41 : decode cX9_signOf 41 = .ok (.getfield 97, 3) := by decide +kernel
theorem dX9_signOf_44 : decode cX9_signOf 44 = .ok (.bipush 61, 2) := by decide +kernel
theorem dX9_signOf_46 : decode cX9_signOf 46 = .ok (.if_icmp .ne 8, 3) := by decide +kernel
theorem dX9_signOf_49 : decode cX9_signOf 49 = .ok (.bipush 15, 2) := by decide +kernel
theorem dX9_signOf_51 : decode cX9_signOf 51 = .ok (.goto 46, 3) := by decide +kernel
theorem dX9_signOf_54 : decode cX9_signOf 54 = .ok (.aload_n 0, 1) := by decide +kernel
theorem dX9_signOf_55 : decode cX9_signOf 55 = .ok (.getfield 97, 3) := by decide +kernel
theorem dX9_signOf_58 : decode cX9_signOf 58 = .ok (.bipush 43, 2) := by decide +kernel
theorem dX9_signOf_60 : decode cX9_signOf 60 = .ok (.if_icmp .ne 8, 3) := by decide +kernel
theorem dX9_signOf_63 : decode cX9_signOf 63 = .ok (.bipush 16, 2) := by decide +kernel
theorem dX9_signOf_65 : decode cX9_signOf 65 = .ok (.goto 32, 3) := by decide +kernel
theorem dX9_signOf_68 : decode cX9_signOf 68 = .ok (.aload_n 0, 1) := by decide +kernel
theorem dX9_signOf_69 : decode cX9_signOf 69 = .ok (.getfield 97, 3) := by decide +kernel
theorem dX9_signOf_72 : decode cX9_signOf 72 = .ok (.bipush 45, 2) := by decide +kernel
theorem dX9_signOf_74 : decode cX9_signOf 74 = .ok (.if_icmp .ne 8, 3) := by decide +kernel
theorem dX9_signOf_77 : decode cX9_signOf 77 = .ok (.bipush 17, 2) := by decide +kernel
theorem dX9_signOf_79 : decode cX9_signOf 79 = .ok (.goto 18, 3) := by decide +kernel
theorem dX9_signOf_82 : decode cX9_signOf 82 = .ok (.aload_n 0, 1) := by decide +kernel
theorem dX9_signOf_83 : decode cX9_signOf 83 = .ok (.getfield 97, 3) := by decide +kernel
theorem dX9_signOf_86 : decode cX9_signOf 86 = .ok (.bipush 42, 2) := by decide +kernel
theorem dX9_signOf_88 : decode cX9_signOf 88 = .ok (.if_icmp .ne 8, 3) := by decide +kernel
theorem dX9_signOf_91 : decode cX9_signOf 91 = .ok (.bipush 18, 2) := by decide +kernel
theorem dX9_signOf_93 : decode cX9_signOf 93 = .ok (.goto 4, 3) := by decide +kernel
theorem dX9_signOf_96 : decode cX9_signOf 96 = .ok (.iconst (-1), 1) := by decide +kernel
theorem dX9_signOf_97 : decode cX9_signOf 97 = .ok (.ireturn, 1) := by decide +kernel
theorem dX9_eRead_0 : decode cX9_eRead 0 = .ok (.aload_n 0, 1) := by decide +kernel
theorem dX9_eRead_1 : decode cX9_eRead 1 = .ok (.iconst 0, 1) := by decide +kernel
theorem dX9_eRead_2 : decode cX9_eRead 2 = .ok (.putfield 110, 3) := by decide +kernel
theorem dX9_eRead_5 : decode cX9_eRead 5 = .ok (.aload_n 0, 1) := by decide +kernel
theorem dX9_eRead_6 : decode cX9_eRead 6 = .ok (.iconst 0, 1) := by decide +kernel
theorem dX9_eRead_7 : decode cX9_eRead 7 = .ok (.putfield 117, 3) := by decide +kernel
theorem dX9_eRead_10 : decode cX9_eRead 10 = .ok (.iconst 1, 1) := by decide +kernel
theorem dX9_eRead_11 : decode cX9_eRead 11 = .ok (.istore_n 1, 1) := by decide +kernel
theorem dX9_eRead_12 : decode cX9_eRead 12 = .ok (.iconst 1, 1) := by decide +kernel
theorem dX9_eRead_13 : decode cX9_eRead 13 = .ok (.istore_n 2, 1) := by decide +kernel
theorem dX9_eRead_14 : decode cX9_eRead 14 = .ok (.aload_n 0, 1) := by decide +kernel
theorem dX9_eRead_15 : decode cX9_eRead 15 = .ok (.invokevirtual 130, 3) := by decide +kernel
theorem dX9_eRead_18 : decode cX9_eRead 18 = .ok (.iload_n 1, 1) := by decide +kernel
theorem dX9_eRead_19 : decode cX9_eRead 19 = .ok (.ifCond .eq 131, 3) := by decide +kernel
theorem dX9_eRead_22 : decode cX9_eRead 22 = .ok (.aload_n 0, 1) := by decide +kernel
theorem dX9_eRead_23 : decode cX9_eRead 23 = .ok (.getfield 97, 3) := by decide +kernel
theorem dX9_eRead_26 : decode cX9_eRead 26 = .ok (.iconst 1, 1) := by decide +kernel
theorem dX9_eRead_27 : decode cX9_eRead 27 = .ok (.if_icmp .eq 11, 3) := by decide +kernel
theorem dX9_eRead_30 : decode cX9_eRead 30 = .ok (.aload_n 0, 1) := by decide +kernel
theorem dX9_eRead_31 : decode cX9_eRead 31 = .ok (.getfield 97, 3) := by decide +kernel
theorem dX9_eRead_34 : decode cX9_eRead 34 = .ok (.iconst 2, 1) := by decide +kernel
theorem dX9_eRead_35 : decode cX9_eRead 35 = .ok (.if_icmp .ne 40, 3) := by decide +kernel
theorem dX9_eRead_38 : decode cX9_eRead 38 = .ok (.aload_n 0, 1) := by decide +kernel
theorem dX9_eRead_39 : decode cX9_eRead 39 = .ok (.aload_n 0, 1) := by decide +kernel
theorem dX9_eRead_40 : decode cX9_eRead 40 = .ok (.getfield 97, 3) := by decide +kernel
theorem dX9_eRead_43 : decode cX9_eRead 43 = .ok (.iconst 1, 1) := by decide +kernel
theorem dX9_eRead_44 : decode cX9_eRead 44 = .ok (.if_icmp .ne 13, 3) := by decide +kernel
theorem dX9_eRead_47 : decode cX9_eRead 47 = .ok (.ldc 133, 2) := by decide +kernel
theorem dX9_eRead_49 : decode cX9_eRead 49 = .ok (.aload_n 0, 1) := by decide +kernel
theorem dX9_eRead_50 : decode cX9_eRead 50 = .ok (.getfield 100, 3) := by decide +kernel
theorem dX9_eRead_53 : decode cX9_eRead 53 = .ok (.iadd, 1) := by decide +kernel
theorem dX9_eRead_54 : decode cX9_eRead 54 = .ok (.goto 7, 3) := by decide +kernel
theorem dX9_eRead_57 : decode cX9_eRead 57 = .ok (.aload_n 0, 1) := by decide +kernel
theorem dX9_eRead_58 : decode cX9_eRead 58 = .ok (.getfield 100, 3) := by decide +kernel
theorem dX9_eRead_61 : decode cX9_eRead 61 = .ok (.invokevirtual 120, 3) := by decide +kernel
theorem dX9_eRead_64 : decode cX9_eRead 64 = .ok (.aload_n 0, 1) := by decide +kernel
theorem dX9_eRead_65 : decode cX9_eRead 65 = .ok (.bipush 7, 2) := by decide +kernel
theorem dX9_eRead_67 : decode cX9_eRead 67 = .ok (.invokevirtual 127, 3) := by decide +kernel
theorem dX9_eRead_70 : decode cX9_eRead 70 = .ok (.iconst 0, 1) := by decide +kernel
theorem dX9_eRead_71 : decode cX9_eRead 71 = .ok (.istore_n 1, 1) := by decide +kernel
theorem dX9_eRead_72 : decode cX9_eRead 72 = .ok (.goto (-58), 3) := by decide +kernel
theorem dX9_eRead_75 : decode cX9_eRead 75 = .ok (.aload_n 0, 1) := by decide +kernel
theorem dX9_eRead_76 : decode cX9_eRead 76 = .ok (.getfield 97, 3) := by decide +kernel
theorem dX9_eRead_79 : decode cX9_eRead 79 = .ok (.bipush 6, 2) := by decide +kernel
theorem dX9_eRead_81 : decode cX9_eRead 81 = .ok (.if_icmp .ne 18, 3) := by decide +kernel
theorem dX9_eRead_84 : decode cX9_eRead 84 = .ok (.iload_n 2, 1) := by decide +kernel
theorem dX9_eRead_85 : decode cX9_eRead 85 = .ok (.ifCond .eq 14, 3) := by decide +kernel
theorem dX9_eRead_88 : decode cX9_eRead 88 = .ok (.aload_n 0, 1) := by decide +kernel
theorem dX9_eRead_89 : decode cX9_eRead 89 = .ok (.bipush 13, 2) := by decide +kernel
theorem dX9_eRead_91 : decode cX9_eRead 91 = .ok (.invokevirtual 134, 3) := by decide +kernel
theorem dX9_eRead_94 : decode cX9_eRead 94 = .ok (.ifCond .ne (-80), 3) := by decide +kernel
theorem dX9_eRead_97 : decode cX9_eRead 97 = .ok (.iconst 0, 1) := by decide +kernel
theorem dX9_eRead_98 : decode cX9_eRead 98 = .ok (.ireturn, 1) := by decide +kernel
theorem dX9_eRead_99 : decode cX9_eRead 99 = .ok (.aload_n 0, 1) := by decide +kernel
theorem dX9_eRead_100 : decode cX9_eRead 100 = .ok (.getfield 97, 3) := by decide +kernel
theorem dX9_eRead_103 : decode cX9_eRead 103 = .ok (.bipush 45, 2) := by decide +kernel
theorem dX9_eRead_105 : decode cX9_eRead 105 = .ok (.if_icmp .ne 19, 3) := by decide +kernel
theorem dX9_eRead_108 : decode cX9_eRead 108 = .ok (.aload_n 0, 1) := by decide +kernel
theorem dX9_eRead_109 : decode cX9_eRead 109 = .ok (.bipush 19, 2) := by decide +kernel
theorem dX9_eRead_111 : decode cX9_eRead 111 = .ok (.invokevirtual 134, 3) := by decide +kernel
theorem dX9_eRead_114 : decode cX9_eRead 114 = .ok (.ifCond .ne 5, 3) := by decide +kernel
theorem dX9_eRead_117 : decode cX9_eRead 117 = .ok (.iconst 0, 1) := by decide +kernel
theorem dX9_eRead_118 : decode cX9_eRead 118 = .ok (.ireturn, 1) := by decide +kernel
theorem dX9_eRead_119 : decode cX9_eRead 119 = .ok (.iconst 0, 1) := by decide +kernel
theorem dX9_eRead_120 : decode cX9_eRead 120 = .ok (.istore_n 2, 1) := by decide +kernel
theorem dX9_eRead_121 : decode cX9_eRead 121 = .ok (.goto (-107), 3) := by decide +kernel
theorem dX9_eRead_124 : decode cX9_eRead 124 = .ok (.aload_n 0, 1) := by decide +kernel
theorem dX9_eRead_125 : decode cX9_eRead 125 = .ok (.getfield 97, 3) := by decide +kernel
theorem dX9_eRead_128 : decode cX9_eRead 128 = .ok (.bipush 40, 2) := by decide +kernel
theorem dX9_eRead_130 : decode cX9_eRead 130 = .ok (.if_icmp .ne 18, 3) := by decide +kernel
theorem dX9_eRead_133 : decode cX9_eRead 133 = .ok (.aload_n 0, 1) := by decide +kernel
theorem dX9_eRead_134 : decode cX9_eRead 134 = .ok (.iconst 0, 1) := by decide +kernel
theorem dX9_eRead_135 : decode cX9_eRead 135 = .ok (.invokevirtual 134, 3) := by decide +kernel
theorem dX9_eRead_138 : decode cX9_eRead 138 = .ok (.ifCond .ne 5, 3) := by decide +kernel
theorem dX9_eRead_141 : decode cX9_eRead 141 = .ok (.iconst 0, 1) := by decide +kernel
theorem dX9_eRead_142 : decode cX9_eRead 142 = .ok (.ireturn, 1) := by decide +kernel
theorem dX9_eRead_143 : decode cX9_eRead 143 = .ok (.iconst 1, 1) := by decide +kernel
theorem dX9_eRead_144 : decode cX9_eRead 144 = .ok (.istore_n 2, 1) := by decide +kernel
theorem dX9_eRead_145 : decode cX9_eRead 145 = .ok (.goto (-131), 3) := by decide +kernel
theorem dX9_eRead_148 : decode cX9_eRead 148 = .ok (.iconst 0, 1) := by decide +kernel
theorem dX9_eRead_149 : decode cX9_eRead 149 = .ok (.ireturn, 1) := by decide +kernel
theorem dX9_eRead_150 : decode cX9_eRead 150 = .ok (.aload_n 0, 1) := by decide +kernel
theorem dX9_eRead_151 : decode cX9_eRead 151 = .ok (.getfield 97, 3) := by decide +kernel
theorem dX9_eRead_154 : decode cX9_eRead 154 = .ok (.bipush 59, 2) := by decide +kernel
theorem dX9_eRead_156 : decode cX9_eRead 156 = .ok (.if_icmp .ne 21, 3) := by decide +kernel
theorem dX9_eRead_159 : decode cX9_eRead 159 = .ok (.aload_n 0, 1) := by decide +kernel
theorem dX9_eRead_160 : decode cX9_eRead 160 = .ok (.iconst 1, 1) := by decide +kernel
theorem dX9_eRead_161 : decode cX9_eRead 161 = .ok (.invokevirtual 127, 3) := by decide +kernel
theorem dX9_eRead_164 : decode cX9_eRead 164 = .ok (.aload_n 0, 1) := by decide +kernel
theorem dX9_eRead_165 : decode cX9_eRead 165 = .ok (.getfield 110, 3) := by decide +kernel
theorem dX9_eRead_168 : decode cX9_eRead 168 = .ok (.ifCond .ne 7, 3) := by decide +kernel
theorem dX9_eRead_171 : decode cX9_eRead 171 = .ok (.iconst 1, 1) := by decide +kernel
theorem dX9_eRead_172 : decode cX9_eRead 172 = .ok (.goto 4, 3) := by decide +kernel
theorem dX9_eRead_175 : decode cX9_eRead 175 = .ok (.iconst 0, 1) := by decide +kernel
theorem dX9_eRead_176 : decode cX9_eRead 176 = .ok (.ireturn, 1) := by decide +kernel
theorem dX9_eRead_177 : decode cX9_eRead 177 = .ok (.aload_n 0, 1) := by decide +kernel
theorem dX9_eRead_178 : decode cX9_eRead 178 = .ok (.getfield 97, 3) := by decide +kernel
theorem dX9_eRead_181 : decode cX9_eRead 181 = .ok (.bipush 41, 2) := by decide +kernel
theorem dX9_eRead_183 : decode cX9_eRead 183 = .ok (.if_icmp .ne 46, 3) := by decide +kernel
theorem dX9_eRead_186 : decode cX9_eRead 186 = .ok (.aload_n 0, 1) := by decide +kernel
theorem dX9_eRead_187 : decode cX9_eRead 187 = .ok (.iconst 1, 1) := by decide +kernel
theorem dX9_eRead_188 : decode cX9_eRead 188 = .ok (.invokevirtual 127, 3) := by decide +kernel
theorem dX9_eRead_191 : decode cX9_eRead 191 = .ok (.aload_n 0, 1) := by decide +kernel
theorem dX9_eRead_192 : decode cX9_eRead 192 = .ok (.getfield 110, 3) := by decide +kernel
theorem dX9_eRead_195 : decode cX9_eRead 195 = .ok (.ifCond .ne 5, 3) := by decide +kernel
theorem dX9_eRead_198 : decode cX9_eRead 198 = .ok (.iconst 0, 1) := by decide +kernel
theorem dX9_eRead_199 : decode cX9_eRead 199 = .ok (.ireturn, 1) := by decide +kernel
theorem dX9_eRead_200 : decode cX9_eRead 200 = .ok (.aload_n 0, 1) := by decide +kernel
theorem dX9_eRead_201 : decode cX9_eRead 201 = .ok (.dup, 1) := by decide +kernel
theorem dX9_eRead_202 : decode cX9_eRead 202 = .ok (.getfield 110, 3) := by decide +kernel
theorem dX9_eRead_205 : decode cX9_eRead 205 = .ok (.iconst 1, 1) := by decide +kernel
theorem dX9_eRead_206 : decode cX9_eRead 206 = .ok (.isub, 1) := by decide +kernel
theorem dX9_eRead_207 : decode cX9_eRead 207 = .ok (.putfield 110, 3) := by decide +kernel
theorem dX9_eRead_210 : decode cX9_eRead 210 = .ok (.aload_n 0, 1) := by decide +kernel
theorem dX9_eRead_211 : decode cX9_eRead 211 = .ok (.dup, 1) := by decide +kernel
theorem dX9_eRead_212 : decode cX9_eRead 212 = .ok (.getfield 117, 3) := by decide +kernel
theorem dX9_eRead_215 : decode cX9_eRead 215 = .ok (.iconst 1, 1) := by decide +kernel
theorem dX9_eRead_216 : decode cX9_eRead 216 = .ok (.isub, 1) := by decide +kernel
theorem dX9_eRead_217 : decode cX9_eRead 217 = .ok (.putfield 117, 3) := by decide +kernel
theorem dX9_eRead_220 : decode cX9_eRead 220 = .ok (.aload_n 0, 1) := by decide +kernel
theorem dX9_eRead_221 : decode cX9_eRead 221 = .ok (.bipush 7, 2) := by decide +kernel
theorem dX9_eRead_223 : decode cX9_eRead 223 = .ok (.invokevirtual 127, 3) := by decide +kernel
theorem dX9_eRead_226 : decode cX9_eRead 226 = .ok (.goto (-212), 3) := by decide +kernel
theorem dX9_eRead_229 : decode cX9_eRead 229 = .ok (.aload_n 0, 1) := by decide +kernel
theorem dX9_eRead_230 : decode cX9_eRead 230 = .ok (.invokevirtual 137, 3) := by decide +kernel
theorem dX9_eRead_233 : decode cX9_eRead 233 = .ok (.istore_n 3, 1) := by decide +kernel
theorem dX9_eRead_234 : decode cX9_eRead 234 = .ok (.iload_n 3, 1) := by decide +kernel
theorem dX9_eRead_235 : decode cX9_eRead 235 = .ok (.iconst (-1), 1) := by decide +kernel
theorem dX9_eRead_236 : decode cX9_eRead 236 = .ok (.if_icmp .eq 11, 3) := by decide +kernel
theorem dX9_eRead_239 : decode cX9_eRead 239 = .ok (.aload_n 0, 1) := by decide +kernel
theorem dX9_eRead_240 : decode cX9_eRead 240 = .ok (.iload_n 3, 1) := by decide +kernel
theorem dX9_eRead_241 : decode cX9_eRead 241 = .ok (.invokevirtual 140, 3) := by decide +kernel
theorem dX9_eRead_244 : decode cX9_eRead 244 = .ok (.ifCond .ne 5, 3) := by decide +kernel
theorem dX9_eRead_247 : decode cX9_eRead 247 = .ok (.iconst 0, 1) := by decide +kernel
theorem dX9_eRead_248 : decode cX9_eRead 248 = .ok (.ireturn, 1) := by decide +kernel
theorem dX9_eRead_249 : decode cX9_eRead 249 = .ok (.iconst 1, 1) := by decide +kernel
theorem dX9_eRead_250 : decode cX9_eRead 250 = .ok (.istore_n 1, 1) := by decide +kernel
theorem dX9_eRead_251 : decode cX9_eRead 251 = .ok (.iload_n 3, 1) := by decide +kernel
theorem dX9_eRead_252 : decode cX9_eRead 252 = .ok (.bipush 12, 2) := by decide +kernel
theorem dX9_eRead_254 : decode cX9_eRead 254 = .ok (.if_icmp .gt 7, 3) := by decide +kernel
theorem dX9_eRead_257 : decode cX9_eRead 257 = .ok (.iconst 1, 1) := by decide +kernel
theorem dX9_eRead_258 : decode cX9_eRead 258 = .ok (.goto 4, 3) := by decide +kernel
theorem dX9_eRead_261 : decode cX9_eRead 261 = .ok (.iconst 0, 1) := by decide +kernel
theorem dX9_eRead_262 : decode cX9_eRead 262 = .ok (.istore_n 2, 1) := by decide +kernel
theorem dX9_eRead_263 : decode cX9_eRead 263 = .ok (.goto (-249), 3) := by decide +kernel
theorem dX9_text_0 : decode cX9_text 0 = .ok (.aload_n 0, 1) := by decide +kernel
theorem dX9_text_1 : decode cX9_text 1 = .ok (.getfield 80, 3) := by decide +kernel
theorem dX9_text_4 : decode cX9_text 4 = .ok (.bipush 6, 2) := by decide +kernel
theorem dX9_text_6 : decode cX9_text 6 = .ok (.if_icmp .ne 6, 3) := by decide +kernel
theorem dX9_text_9 : decode cX9_text 9 = .ok (.bipush (-4), 2) := by decide +kernel
theorem dX9_text_11 : decode cX9_text 11 = .ok (.ireturn, 1) := by decide +kernel
theorem dX9_text_12 : decode cX9_text 12 = .ok (.aload_n 0, 1) := by decide +kernel
theorem dX9_text_13 : decode cX9_text 13 = .ok (.iconst 0, 1) := by decide +kernel
theorem dX9_text_14 : decode cX9_text 14 = .ok (.putfield 91, 3) := by decide +kernel
theorem dX9_text_17 : decode cX9_text 17 = .ok (.aload_n 0, 1) := by decide +kernel
theorem dX9_text_18 : decode cX9_text 18 = .ok (.iconst 0, 1) := by decide +kernel
theorem dX9_text_19 : decode cX9_text 19 = .ok (.putfield 107, 3) := by decide +kernel
theorem dX9_text_22 : decode cX9_text 22 = .ok (.iconst 1, 1) := by decide +kernel
theorem dX9_text_23 : decode cX9_text 23 = .ok (.istore_n 1, 1) := by decide +kernel
theorem dX9_text_24 : decode cX9_text 24 = .ok (.iconst 0, 1) := by decide +kernel
theorem dX9_text_25 : decode cX9_text 25 = .ok (.istore_n 2, 1) := by decide +kernel
theorem dX9_text_26 : decode cX9_text 26 = .ok (.iload_n 2, 1) := by decide +kernel
theorem dX9_text_27 : decode cX9_text 27 = .ok (.iconst 3, 1) := by decide +kernel
theorem dX9_text_28 : decode cX9_text 28 = .ok (.if_icmp .ge 73, 3) := by decide +kernel
theorem dX9_text_31 : decode cX9_text 31 = .ok (.iload_n 1, 1) := by decide +kernel
theorem dX9_text_32 : decode cX9_text 32 = .ok (.ifCond .eq 69, 3) := by decide +kernel
theorem dX9_text_35 : decode cX9_text 35 = .ok (.aload_n 0, 1) := by decide +kernel
theorem dX9_text_36 : decode cX9_text 36 = .ok (.invokevirtual 130, 3) := by decide +kernel
theorem dX9_text_39 : decode cX9_text 39 = .ok (.aload_n 0, 1) := by decide +kernel
theorem dX9_text_40 : decode cX9_text 40 = .ok (.getfield 97, 3) := by decide +kernel
theorem dX9_text_43 : decode cX9_text 43 = .ok (.iconst 3, 1) := by decide +kernel
theorem dX9_text_44 : decode cX9_text 44 = .ok (.if_icmp .ne 15, 3) := by decide +kernel
theorem dX9_text_47 : decode cX9_text 47 = .ok (.aload_n 0, 1) := by decide +kernel
theorem dX9_text_48 : decode cX9_text 48 = .ok (.getfield 100, 3) := by decide +kernel
theorem dX9_text_51 : decode cX9_text 51 = .ok (.iload_n 2, 1) := by decide +kernel
theorem dX9_text_52 : decode cX9_text 52 = .ok (.if_icmp .ne 7, 3) := by decide +kernel
theorem dX9_text_55 : decode cX9_text 55 = .ok (.iconst 1, 1) := by decide +kernel
theorem dX9_text_56 : decode cX9_text 56 = .ok (.goto 4, 3) := by decide +kernel
theorem dX9_text_59 : decode cX9_text 59 = .ok (.iconst 0, 1) := by decide +kernel
theorem dX9_text_60 : decode cX9_text 60 = .ok (.istore_n 1, 1) := by decide +kernel
theorem dX9_text_61 : decode cX9_text 61 = .ok (.aload_n 0, 1) := by decide +kernel
theorem dX9_text_62 : decode cX9_text 62 = .ok (.getfield 25, 3) := by decide +kernel
theorem dX9_text_65 : decode cX9_text 65 = .ok (.iconst 4, 1) := by decide +kernel
theorem dX9_text_66 : decode cX9_text 66 = .ok (.aload_n 0, 1) := by decide +kernel
theorem dX9_text_67 : decode cX9_text 67 = .ok (.getfield 80, 3) := by decide +kernel
theorem dX9_text_70 : decode cX9_text 70 = .ok (.imul, 1) := by decide +kernel
theorem dX9_text_71 : decode cX9_text 71 = .ok (.iload_n 2, 1) := by decide +kernel
theorem dX9_text_72 : decode cX9_text 72 = .ok (.iadd, 1) := by decide +kernel
theorem dX9_text_73 : decode cX9_text 73 = .ok (.aload_n 0, 1) := by decide +kernel
theorem dX9_text_74 : decode cX9_text 74 = .ok (.getfield 107, 3) := by decide +kernel
theorem dX9_text_77 : decode cX9_text 77 = .ok (.iastore, 1) := by decide +kernel
theorem dX9_text_78 : decode cX9_text 78 = .ok (.iload_n 1, 1) := by decide +kernel
theorem dX9_text_79 : decode cX9_text 79 = .ok (.ifCond .eq 14, 3) := by decide +kernel
theorem dX9_text_82 : decode cX9_text 82 = .ok (.aload_n 0, 1) := by decide +kernel
theorem dX9_text_83 : decode cX9_text 83 = .ok (.invokevirtual 143, 3) := by decide +kernel
theorem dX9_text_86 : decode cX9_text 86 = .ok (.ifCond .eq 7, 3) := by decide +kernel
theorem dX9_text_89 : decode cX9_text 89 = .ok (.iconst 1, 1) := by decide +kernel
theorem dX9_text_90 : decode cX9_text 90 = .ok (.goto 4, 3) := by decide +kernel
theorem dX9_text_93 : decode cX9_text 93 = .ok (.iconst 0, 1) := by decide +kernel
theorem dX9_text_94 : decode cX9_text 94 = .ok (.istore_n 1, 1) := by decide +kernel
theorem dX9_text_95 : decode cX9_text 95 = .ok (.iinc 2 1, 3) := by decide +kernel
theorem dX9_text_98 : decode cX9_text 98 = .ok (.goto (-72), 3) := by decide +kernel
theorem dX9_text_101 : decode cX9_text 101 = .ok (.iload_n 1, 1) := by decide +kernel
theorem dX9_text_102 : decode cX9_text 102 = .ok (.ifCond .eq 20, 3) := by decide +kernel
theorem dX9_text_105 : decode cX9_text 105 = .ok (.aload_n 0, 1) := by decide +kernel
theorem dX9_text_106 : decode cX9_text 106 = .ok (.invokevirtual 130, 3) := by decide +kernel
theorem dX9_text_109 : decode cX9_text 109 = .ok (.aload_n 0, 1) := by decide +kernel
theorem dX9_text_110 : decode cX9_text 110 = .ok (.getfield 97, 3) := by decide +kernel
theorem dX9_text_113 : decode cX9_text 113 = .ok (.ifCond .ne 7, 3) := by decide +kernel
