theorem dX7_init_0 : decode cX7_init 0 = .ok (.aload_n 0, 1) := by decide +kernel
theorem dX7_init_1 : decode cX7_init 1 = .ok (.invokespecial 1, 3) := by decide +kernel
theorem dX7_init_4 : decode cX7_init 4 = .ok (.aload_n 0, 1) := by decide +kernel
theorem dX7_init_5 : decode cX7_init 5 = .ok (.iconst (-1), 1) := by decide +kernel
theorem dX7_init_6 : decode cX7_init 6 = .ok (.putfield 7, 3) := by decide +kernel
theorem dX7_init_9 : decode cX7_init 9 = .ok (.aload_n 0, 1) := by decide +kernel
theorem dX7_init_10 : decode cX7_init 10 = .ok (.iconst (-1), 1) := by decide +kernel
theorem dX7_init_11 : decode cX7_init 11 = .ok (.putfield 13, 3) := by decide +kernel
theorem dX7_init_14 : decode cX7_init 14 = .ok (.aload_n 0, 1) := by decide +kernel
theorem dX7_init_15 : decode cX7_init 15 = .ok (.sipush 457, 3) := by decide +kernel
theorem dX7_init_18 : decode cX7_init 18 = .ok (.newarray .int, 2) := by decide +kernel
theorem dX7_init_20 : decode cX7_init 20 = .ok (.putfield 16, 3) := by decide +kernel
theorem dX7_init_23 : decode cX7_init 23 = .ok (.aload_n 0, 1) := by decide +kernel
theorem dX7_init_24 : decode cX7_init 24 = .ok (.sipush 457, 3) := by decide +kernel
theorem dX7_init_27 : decode cX7_init 27 = .ok (.newarray .int, 2) := by decide +kernel
theorem dX7_init_29 : decode cX7_init 29 = .ok (.putfield 20, 3) := by decide +kernel
theorem dX7_init_32 : decode cX7_init 32 = .ok (.aload_n 0, 1) := by decide +kernel
theorem dX7_init_33 : decode cX7_init 33 = .ok (.sipush 457, 3) := by decide +kernel
theorem dX7_init_36 : decode cX7_init 36 = .ok (.newarray .int, 2) := by decide +kernel
theorem dX7_init_38 : decode cX7_init 38 = .ok (.putfield 23, 3) := by decide +kernel
theorem dX7_init_41 : decode cX7_init 41 = .ok (.aload_n 0, 1) := by decide +kernel
theorem dX7_init_42 : decode cX7_init 42 = .ok (.sipush 3656, 3) := by decide +kernel
theorem dX7_init_45 : decode cX7_init 45 = .ok (.newarray .int, 2) := by decide +kernel
theorem dX7_init_47 : decode cX7_init 47 = .ok (.putfield 26, 3) := by decide +kernel
theorem dX7_init_50 : decode cX7_init 50 = .ok (.aload_n 0, 1) := by decide +kernel
theorem dX7_init_51 : decode cX7_init 51 = .ok (.bipush 16, 2) := by decide +kernel
theorem dX7_init_53 : decode cX7_init 53 = .ok (.newarray .int, 2) := by decide +kernel
theorem dX7_init_55 : decode cX7_init 55 = .ok (.putfield 29, 3) := by decide +kernel
theorem dX7_init_58 : decode cX7_init 58 = .ok (.aload_n 0, 1) := by decide +kernel
theorem dX7_init_59 : decode cX7_init 59 = .ok (.bipush 16, 2) := by decide +kernel
theorem dX7_init_61 : decode cX7_init 61 = .ok (.newarray .int, 2) := by decide +kernel
theorem dX7_init_63 : decode cX7_init 63 = .ok (.putfield 32, 3) := by decide +kernel
theorem dX7_init_66 : decode cX7_init 66 = .ok (.aload_n 0, 1) := by decide +kernel
theorem dX7_init_67 : decode cX7_init 67 = .ok (.bipush 60, 2) := by decide +kernel
theorem dX7_init_69 : decode cX7_init 69 = .ok (.newarray .int, 2) := by decide +kernel
theorem dX7_init_71 : decode cX7_init 71 = .ok (.putfield 35, 3) := by decide +kernel
theorem dX7_init_74 : decode cX7_init 74 = .ok (.aload_n 0, 1) := by decide +kernel
theorem dX7_init_75 : decode cX7_init 75 = .ok (.bipush 70, 2) := by decide +kernel
theorem dX7_init_77 : decode cX7_init 77 = .ok (.newarray .int, 2) := by decide +kernel
theorem dX7_init_79 : decode cX7_init 79 = .ok (.putfield 38, 3) := by decide +kernel
theorem dX7_init_82 : decode cX7_init 82 = .ok (.aload_n 0, 1) := by decide +kernel
theorem dX7_init_83 : decode cX7_init 83 = .ok (.bipush 10, 2) := by decide +kernel
theorem dX7_init_85 : decode cX7_init 85 = .ok (.newarray .int, 2) := by decide +kernel
theorem dX7_init_87 : decode cX7_init 87 = .ok (.putfield 41, 3) := by decide +kernel
theorem dX7_init_90 : decode cX7_init 90 = .ok (.aload_n 0, 1) := by decide +kernel
theorem dX7_init_91 : decode cX7_init 91 = .ok (.bipush 57, 2) := by decide +kernel
theorem dX7_init_93 : decode cX7_init 93 = .ok (.newarray .int, 2) := by decide +kernel
theorem dX7_init_95 : decode cX7_init 95 = .ok (.dup, 1) := by decide +kernel
theorem dX7_init_96 : decode cX7_init 96 = .ok (.iconst 0, 1) := by decide +kernel
theorem dX7_init_97 : decode cX7_init 97 = .ok (.bipush 98, 2) := by decide +kernel
theorem dX7_init_99 : decode cX7_init 99 = .ok (.iastore, 1) := by decide +kernel
theorem dX7_init_100 : decode cX7_init 100 = .ok (.dup, 1) := by decide +kernel
theorem dX7_init_101 : decode cX7_init 101 = .ok (.iconst 1, 1) := by decide +kernel
theorem dX7_init_102 : decode cX7_init 102 = .ok (.bipush 117, 2) := by decide +kernel
theorem dX7_init_104 : decode cX7_init 104 = .ok (.iastore, 1) := by decide +kernel
theorem dX7_init_105 : decode cX7_init 105 = .ok (.dup, 1) := by decide +kernel
theorem dX7_init_106 : decode cX7_init 106 = .ok (.iconst 2, 1) := by decide +kernel
theorem dX7_init_107 : decode cX7_init 107 = .ok (.bipush 121, 2) := by decide +kernel
theorem dX7_init_109 : decode cX7_init 109 = .ok (.iastore, 1) := by decide +kernel
theorem dX7_init_110 : decode cX7_init 110 = .ok (.dup, 1) := by decide +kernel
theorem dX7_init_111 : decode cX7_init 111 = .ok (.iconst 3, 1) := by decide +kernel
theorem dX7_init_112 : decode cX7_init 112 = .ok (.bipush 32, 2) := by decide +kernel
theorem dX7_init_114 : decode cX7_init 114 = .ok (.iastore, 1) := by decide +kernel
theorem dX7_init_115 : decode cX7_init 115 = .ok (.dup, 1) := by decide +kernel
theorem dX7_init_116 : decode cX7_init 116 = .ok (.iconst 4, 1) := by decide +kernel
theorem dX7_init_117 : decode cX7_init 117 = .ok (.bipush 99, 2) := by decide +kernel
theorem dX7_init_119 : decode cX7_init 119 = .ok (.iastore, 1) := by decide +kernel
theorem dX7_init_120 : decode cX7_init 120 = .ok (.dup, 1) := by decide +kernel
theorem dX7_init_121 : decode cX7_init 121 = .ok (.iconst 5, 1) := by decide +kernel
theorem dX7_init_122 : decode cX7_init 122 = .ok (.bipush 117, 2) := by decide +kernel
theorem dX7_init_124 : decode cX7_init 124 = .ok (.iastore, 1) := by decide +kernel
theorem dX7_init_125 : decode cX7_init 125 = .ok (.dup, 1) := by decide +kernel
theorem dX7_init_126 : decode cX7_init 126 = .ok (.bipush 6, 2) := by decide +kernel
theorem dX7_init_128 : decode cX7_init 128 = .ok (.bipush 115, 2) := by decide +kernel
theorem dX7_init_130 : decode cX7_init 130 = .ok (.iastore, 1) := by decide +kernel
theorem dX7_init_131 : decode cX7_init 131 = .ok (.dup, 1) := by decide +kernel
theorem dX7_init_132 : decode cX7_init 132 = .ok (.bipush 7, 2) := by decide +kernel
theorem dX7_init_134 : decode cX7_init 134 = .ok (.bipush 116, 2) := by decide +kernel
theorem dX7_init_136 : decode cX7_init 136 = .ok (.iastore, 1) := by decide +kernel
theorem dX7_init_137 : decode cX7_init 137 = .ok (.dup, 1) := by decide +kernel
theorem dX7_init_138 : decode cX7_init 138 = .ok (.bipush 8, 2) := by decide +kernel
theorem dX7_init_140 : decode cX7_init 140 = .ok (.bipush 111, 2) := by decide +kernel
theorem dX7_init_142 : decode cX7_init 142 = .ok (.iastore, 1) := by decide +kernel
theorem dX7_init_143 : decode cX7_init 143 = .ok (.dup, 1) := by decide +kernel
theorem dX7_init_144 : decode cX7_init 144 = .ok (.bipush 9, 2) := by decide +kernel
theorem dX7_init_146 : decode cX7_init 146 = .ok (.bipush 109, 2) := by decide +kernel
theorem dX7_init_148 : decode cX7_init 148 = .ok (.iastore, 1) := by decide +kernel
theorem dX7_init_149 : decode cX7_init 149 = .ok (.dup, 1) := by decide +kernel
theorem dX7_init_150 : decode cX7_init 150 = .ok (.bipush 10, 2) := by decide +kernel
theorem dX7_init_152 : decode cX7_init 152 = .ok (.bipush 101, 2) := by decide +kernel
theorem dX7_init_154 : decode cX7_init 154 = .ok (.iastore, 1) := by decide +kernel
theorem dX7_init_155 : decode cX7_init 155 = .ok (.dup, 1) := by decide +kernel
theorem dX7_init_156 : decode cX7_init 156 = .ok (.bipush 11, 2) := by decide +kernel
theorem dX7_init_158 : decode cX7_init 158 = .ok (.bipush 114, 2) := by decide +kernel
theorem dX7_init_160 : decode cX7_init 160 = .ok (.iastore, 1) := by decide +kernel
theorem dX7_init_161 : decode cX7_init 161 = .ok (.dup, 1) := by decide +kernel
theorem dX7_init_162 : decode cX7_init 162 = .ok (.bipush 12, 2) := by decide +kernel
theorem dX7_init_164 : decode cX7_init 164 = .ok (.bipush 32, 2) := by decide +kernel
theorem dX7_init_166 : decode cX7_init 166 = .ok (.iastore, 1) := by decide +kernel
theorem dX7_init_167 : decode cX7_init 167 = .ok (.dup, 1) := by decide +kernel
theorem dX7_init_168 : decode cX7_init 168 = .ok (.bipush 13, 2) := by decide +kernel
theorem dX7_init_170 : decode cX7_init 170 = .ok (.bipush 102, 2) := by decide +kernel
theorem dX7_init_172 : decode cX7_init 172 = .ok (.iastore, 1) := by decide +kernel
theorem dX7_init_173 : decode cX7_init 173 = .ok (.dup, 1) := by decide +kernel
theorem dX7_init_174 : decode cX7_init 174 = .ok (.bipush 14, 2) := by decide +kernel
theorem dX7_init_176 : decode cX7_init 176 = .ok (.bipush 105, 2) := by decide +kernel
theorem dX7_init_178 : decode cX7_init 178 = .ok (.iastore, 1) := by decide +kernel
theorem dX7_init_179 : decode cX7_init 179 = .ok (.dup, 1) := by decide +kernel
theorem dX7_init_180 : decode cX7_init 180 = .ok (.bipush 15, 2) := by decide +kernel
theorem dX7_init_182 : decode cX7_init 182 = .ok (.bipush 116, 2) := by decide +kernel
theorem dX7_init_184 : decode cX7_init 184 = .ok (.iastore, 1) := by decide +kernel
theorem dX7_init_185 : decode cX7_init 185 = .ok (.dup, 1) := by decide +kernel
theorem dX7_init_186 : decode cX7_init 186 = .ok (.bipush 16, 2) := by decide +kernel
theorem dX7_init_188 : decode cX7_init 188 = .ok (.bipush 32, 2) := by decide +kernel
theorem dX7_init_190 : decode cX7_init 190 = .ok (.iastore, 1) := by decide +kernel
theorem dX7_init_191 : decode cX7_init 191 = .ok (.dup, 1) := by decide +kernel
theorem dX7_init_192 : decode cX7_init 192 = .ok (.bipush 17, 2) := by decide +kernel
theorem dX7_init_194 : decode cX7_init 194 = .ok (.bipush 115, 2) := by decide +kernel
theorem dX7_init_196 : decode cX7_init 196 = .ok (.iastore, 1) := by decide +kernel
theorem dX7_init_197 : decode cX7_init 197 = .ok (.dup, 1) := by decide +kernel
theorem dX7_init_198 : decode cX7_init 198 = .ok (.bipush 18, 2) := by decide +kernel
theorem dX7_init_200 : decode cX7_init 200 = .ok (.bipush 117, 2) := by decide +kernel
theorem dX7_init_202 : decode cX7_init 202 = .ok (.iastore, 1) := by decide +kernel
theorem dX7_init_203 : decode cX7_init 203 = .ok (.dup, 1) := by decide +kernel
theorem dX7_init_204 : decode cX7_init 204 = .ok (.bipush 19, 2) := by decide +kernel
theorem dX7_init_206 : decode cX7_init 206 = .ok (.bipush 105, 2) := by decide +kernel
theorem dX7_init_208 : decode cX7_init 208 = .ok (.iastore, 1) := by decide +kernel
theorem dX7_init_209 : decode cX7_init 209 = .ok (.dup, 1) := by decide +kernel
theorem dX7_init_210 : decode cX7_init 210 = .ok (.bipush 20, 2) := by decide +kernel
theorem dX7_init_212 : decode cX7_init 212 = .ok (.bipush 116, 2) := by decide +kernel
theorem dX7_init_214 : decode cX7_init 214 = .ok (.iastore, 1) := by decide +kernel
theorem dX7_init_215 : decode cX7_init 215 = .ok (.dup, 1) := by decide +kernel
theorem dX7_init_216 : decode cX7_init 216 = .ok (.bipush 21, 2) := by decide +kernel
theorem dX7_init_218 : decode cX7_init 218 = .ok (.bipush 32, 2) := by decide +kernel
theorem dX7_init_220 : decode cX7_init 220 = .ok (.iastore, 1) := by decide +kernel
theorem dX7_init_221 : decode cX7_init 221 = .ok (.dup, 1) := by decide +kernel
theorem dX7_init_222 : decode cX7_init 222 = .ok (.bipush 22, 2) := by decide +kernel
theorem dX7_init_224 : decode cX7_init 224 = .ok (.bipush 99, 2) := by decide +kernel
theorem dX7_init_226 : decode cX7_init 226 = .ok (.iastore, 1) := by decide +kernel
theorem dX7_init_227 : decode cX7_init 227 = .ok (.dup, 1) := by decide +kernel
theorem dX7_init_228 : decode cX7_init 228 = .ok (.bipush 23, 2) := by decide +kernel
theorem dX7_init_230 : decode cX7_init 230 = .ok (.bipush 117, 2) := by decide +kernel
theorem dX7_init_232 : decode cX7_init 232 = .ok (.iastore, 1) := by decide +kernel
theorem dX7_init_233 : decode cX7_init 233 = .ok (.dup, 1) := by decide +kernel
theorem dX7_init_234 : decode cX7_init 234 = .ok (.bipush 24, 2) := by decide +kernel
theorem dX7_init_236 : decode cX7_init 236 = .ok (.bipush 116, 2) := by decide +kernel
theorem dX7_init_238 : decode cX7_init 238 = .ok (.iastore, 1) := by decide +kernel
theorem dX7_init_239 : decode cX7_init 239 = .ok (.dup, 1) := by decide +kernel
theorem dX7_init_240 : decode cX7_init 240 = .ok (.bipush 25, 2) := by decide +kernel
theorem dX7_init_242 : decode cX7_init 242 = .ok (.bipush 32, 2) := by decide +kernel
theorem dX7_init_244 : decode cX7_init 244 = .ok (.iastore, 1) := by decide +kernel
theorem dX7_init_245 : decode cX7_init 245 = .ok (.dup, 1) := by decide +kernel
theorem dX7_init_246 : decode cX7_init 246 = .ok (.bipush 26, 2) := by decide +kernel
theorem dX7_init_248 : decode cX7_init 248 = .ok (.bipush 115, 2) := by decide +kernel
theorem dX7_init_250 : decode cX7_init 250 = .ok (.iastore, 1) := by decide +kernel
theorem dX7_init_251 : decode cX7_init 251 = .ok (.dup, 1) := by decide +kernel
theorem dX7_init_252 : decode cX7_init 252 = .ok (.bipush 27, 2) := by decide +kernel
theorem dX7_init_254 : decode cX7_init 254 = .ok (.bipush 101, 2) := by decide +kernel
theorem dX7_init_256 : decode cX7_init 256 = .ok (.iastore, 1) := by decide +kernel
theorem dX7_init_257 : decode cX7_init 257 = .ok (.dup, 1) := by decide +kernel
theorem dX7_init_258 : decode cX7_init 258 = .ok (.bipush 28, 2) := by decide +kernel
theorem dX7_init_260 : decode cX7_init 260 = .ok (.bipush 119, 2) := by decide +kernel
theorem dX7_init_262 : decode cX7_init 262 = .ok (.iastore, 1) := by decide +kernel
theorem dX7_init_263 : decode cX7_init 263 = .ok (.dup, 1) := by decide +kernel
theorem dX7_init_264 : decode cX7_init 264 = .ok (.bipush 29, 2) := by decide +kernel
theorem dX7_init_266 : decode cX7_init 266 = .ok (.bipush 32, 2) := by decide +kernel
theorem dX7_init_268 : decode cX7_init 268 = .ok (.iastore, 1) := by decide +kernel
theorem dX7_init_269 : decode cX7_init 269 = .ok (.dup, 1) := by decide +kernel
theorem dX7_init_270 : decode cX7_init 270 = .ok (.bipush 30, 2) := by decide +kernel
theorem dX7_init_272 : decode cX7_init 272 = .ok (.bipush 117, 2) := by decide +kernel
theorem dX7_init_274 : decode cX7_init 274 = .ok (.iastore, 1) := by decide +kernel
theorem dX7_init_275 : decode cX7_init 275 = .ok (.dup, 1) := by decide +kernel
theorem dX7_init_276 : decode cX7_init 276 = .ok (.bipush 31, 2) := by decide +kernel
theorem dX7_init_278 : decode cX7_init 278 = .ok (.bipush 110, 2) := by decide +kernel
theorem dX7_init_280 : decode cX7_init 280 = .ok (.iastore, 1) := by decide +kernel
theorem dX7_init_281 : decode cX7_init 281 = .ok (.dup, 1) := by decide +kernel
theorem dX7_init_282 : decode cX7_init 282 = .ok (.bipush 32, 2) := by decide +kernel
theorem dX7_init_284 : decode cX7_init 284 = .ok (.bipush 112, 2) := by decide +kernel
theorem dX7_init_286 : decode cX7_init 286 = .ok (.iastore, 1) := by decide +kernel
theorem dX7_init_287 : decode cX7_init 287 = .ok (.dup, 1) := by decide +kernel
theorem dX7_init_288 : decode cX7_init 288 = .ok (.bipush 33, 2) := by decide +kernel
theorem dX7_init_290 : decode cX7_init 290 = .ok (.bipush 105, 2) := by decide +kernel
theorem dX7_init_292 : decode cX7_init 292 = .ok (.iastore, 1) := by decide +kernel
theorem dX7_init_293 : decode cX7_init 293 = .ok (.dup, 1) := by decide +kernel
theorem dX7_init_294 : decode cX7_init 294 = .ok (.bipush 34, 2) := by decide +kernel
theorem dX7_init_296 : decode cX7_init 296 = .ok (.bipush 99, 2) := by decide +kernel
theorem dX7_init_298 : decode cX7_init 298 = .ok (.iastore, 1) := by decide +kernel
theorem dX7_init_299 : decode cX7_init 299 = .ok (.dup, 1) := by decide +kernel
theorem dX7_init_300 : decode cX7_init 300 = .ok (.bipush 35, 2) := by decide +kernel
theorem dX7_init_302 : decode cX7_init 302 = .ok (.bipush 107, 2) := by decide +kernel
theorem dX7_init_304 : decode cX7_init 304 = .ok (.iastore, 1) := by decide +kernel
theorem dX7_init_305 : decode cX7_init 305 = .ok (.dup, 1) := by decide +kernel
theorem dX7_init_306 : decode cX7_init 306 = .ok (.bipush 36, 2) := by decide +kernel
theorem dX7_init_308 : decode cX7_init 308 = .ok (.bipush 32, 2) := by decide +kernel
theorem dX7_init_310 : decode cX7_init 310 = .ok (.iastore, 1) := by decide +kernel
theorem dX7_init_311 : decode cX7_init 311 = .ok (.dup, 1) := by decide +kernel
theorem dX7_init_312 : decode cX7_init 312 = .ok (.bipush 37, 2) := by decide +kernel
theorem dX7_init_314 : decode cX7_init 314 = .ok (.bipush 111, 2) := by decide +kernel
theorem dX7_init_316 : decode cX7_init 316 = .ok (.iastore, 1) := by decide +kernel
theorem dX7_init_317 : decode cX7_init 317 = .ok (.dup, 1) := by decide +kernel
theorem dX7_init_318 : decode cX7_init 318 = .ok (.bipush 38, 2) := by decide +kernel
theorem dX7_init_320 : decode cX7_init 320 = .ok (.bipush 114, 2) := by decide +kernel
theorem dX7_init_322 : decode cX7_init 322 = .ok (.iastore, 1) := by decide +kernel
theorem dX7_init_323 : decode cX7_init 323 = .ok (.dup, 1) := by decide +kernel
theorem dX7_init_324 : decode cX7_init 324 = .ok (.bipush 39, 2) := by decide +kernel
theorem dX7_init_326 : decode cX7_init 326 = .ok (.bipush 100, 2) := by decide +kernel
theorem dX7_init_328 : decode cX7_init 328 = .ok (.iastore, 1) := by decide +kernel
theorem dX7_init_329 : decode cX7_init 329 = .ok (.dup, 1) := by decide +kernel
theorem dX7_init_330 : decode cX7_init 330 = .ok (.bipush 40, 2) := by decide +kernel
theorem dX7_init_332 : decode cX7_init 332 = .ok (.bipush 101, 2) := by decide +kernel
theorem dX7_init_334 : decode cX7_init 334 = .ok (.iastore, 1) := by decide +kernel
theorem dX7_init_335 : decode cX7_init 335 = .ok (.dup, 1) := by decide +kernel
theorem dX7_init_336 : decode cX7_init 336 = .ok (.bipush 41, 2) := by decide +kernel
theorem dX7_init_338 : decode cX7_init 338 = .ok (.bipush 114, 2) := by decide +kernel
theorem dX7_init_340 : decode cX7_init 340 = .ok (.iastore, 1) := by decide +kernel
theorem dX7_init_341 : decode cX7_init 341 = .ok (.dup, 1) := by decide +kernel
theorem dX7_init_342 : decode cX7_init 342 = .ok (.bipush 42, 2) := by decide +kernel
theorem dX7_init_344 : decode cX7_init 344 = .ok (.bipush 32, 2) := by decide +kernel
theorem dX7_init_346 : decode cX7_init 346 = .ok (.iastore, 1) := by decide +kernel
theorem dX7_init_347 : decode cX7_init 347 = .ok (.dup, 1) := by decide +kernel
theorem dX7_init_348 : decode cX7_init 348 = .ok (.bipush 43, 2) := by decide +kernel
theorem dX7_init_350 : decode cX7_init 350 = .ok (.bipush 100, 2) := by decide +kernel
theorem dX7_init_352 : decode cX7_init 352 = .ok (.iastore, 1) := by decide +kernel
theorem dX7_init_353 : decode cX7_init 353 = .ok (.dup, 1) := by decide +kernel
theorem dX7_init_354 : decode cX7_init 354 = .ok (.bipush 44, 2) := by decide +kernel
theorem dX7_init_356 : decode cX7_init 356 = .ok (.bipush 101, 2) := by decide +kernel
theorem dX7_init_358 : decode cX7_init 358 = .ok (.iastore, 1) := by decide +kernel
theorem dX7_init_359 : decode cX7_init 359 = .ok (.dup, 1) := by decide +kernel
theorem dX7_init_360 : decode cX7_init 360 = .ok (.bipush 45, 2) := by decide +kernel
theorem dX7_init_362 : decode cX7_init 362 = .ok (.bipush 108, 2) := by decide +kernel
theorem dX7_init_364 : decode cX7_init 364 = .ok (.iastore, 1) := by decide +kernel
theorem dX7_init_365 : decode cX7_init 365 = .ok (.dup, 1) := by decide +kernel
theorem dX7_init_366 : decode cX7_init 366 = .ok (.bipush 46, 2) := by decide +kernel
theorem dX7_init_368 : decode cX7_init 368 = .ok (.bipush 105, 2) := by decide +kernel
theorem dX7_init_370 : decode cX7_init 370 = .ok (.iastore, 1) := by decide +kernel
theorem dX7_init_371 : decode cX7_init 371 = .ok (.dup, 1) := by decide +kernel
theorem dX7_init_372 : decode cX7_init 372 = .ok (.bipush 47, 2) := by decide +kernel
theorem dX7_init_374 : decode cX7_init 374 = .ok (.bipush 118, 2) := by decide +kernel
theorem dX7_init_376 : decode cX7_init 376 = .ok (.iastore, 1) := by decide +kernel
theorem dX7_init_377 : decode cX7_init 377 = .ok (.dup, 1) := by decide +kernel
theorem dX7_init_378 : decode cX7_init 378 = .ok (.bipush 48, 2) := by decide +kernel
theorem dX7_init_380 : decode cX7_init 380 = .ok (.bipush 101, 2) := by decide +kernel
theorem dX7_init_382 : decode cX7_init 382 = .ok (.iastore, 1) := by decide +kernel
theorem dX7_init_383 : decode cX7_init 383 = .ok (.dup, 1) := by decide +kernel
theorem dX7_init_384 : decode cX7_init 384 = .ok (.bipush 49, 2) := by decide +kernel
theorem dX7_init_386 : decode cX7_init 386 = .ok (.bipush 114, 2) := by decide +kernel
theorem dX7_init_388 : decode cX7_init 388 = .ok (.iastore, 1) := by decide +kernel
theorem dX7_init_389 : decode cX7_init 389 = .ok (.dup, 1) := by decide +kernel
theorem dX7_init_390 : decode cX7_init 390 = .ok (.bipush 50, 2) := by decide +kernel
theorem dX7_init_392 : decode cX7_init 392 = .ok (.bipush 32, 2) := by decide +kernel
theorem dX7_init_394 : decode cX7_init 394 = .ok (.iastore, 1) := by decide +kernel
theorem dX7_init_395 : decode cX7_init 395 = .ok (.dup, 1) := by decide +kernel
theorem dX7_init_396 : decode cX7_init 396 = .ok (.bipush 51, 2) := by decide +kernel
theorem dX7_init_398 : decode cX7_init 398 = .ok (.bipush 115, 2) := by decide +kernel
theorem dX7_init_400 : decode cX7_init 400 = .ok (.iastore, 1) := by decide +kernel
theorem dX7_init_401 : decode cX7_init 401 = .ok (.dup, 1) := by decide +kernel
theorem dX7_init_402 : decode cX7_init 402 = .ok (.bipush 52, 2) := by decide +kernel
theorem dX7_init_404 : decode cX7_init 404 = .ok (.bipush 99, 2) := by decide +kernel
theorem dX7_init_406 : decode cX7_init 406 = .ok (.iastore, 1) := by decide +kernel
theorem dX7_init_407 : decode cX7_init 407 = .ok (.dup, 1) := by decide +kernel
theorem dX7_init_408 : decode cX7_init 408 = .ok (.bipush 53, 2) := by decide +kernel
theorem dX7_init_410 : decode cX7_init 410 = .ok (.bipush 114, 2) := by decide +kernel
theorem dX7_init_412 : decode cX7_init 412 = .ok (.iastore, 1) := by decide +kernel
theorem dX7_init_413 : decode cX7_init 413 = .ok (.dup, 1) := by decide +kernel
theorem dX7_init_414 : decode cX7_init 414 = .ok (.bipush 54, 2) := by decide +kernel
theorem dX7_init_416 : decode cX7_init 416 = .ok (.bipush 97, 2) := by decide +kernel
theorem dX7_init_418 : decode cX7_init 418 = .ok (.iastore, 1) := by decide +kernel
theorem dX7_init_419 : decode cX7_init 419 = .ok (.dup, 1) := by decide +kernel
theorem dX7_init_420 : decode cX7_init 420 = .ok (.bipush 55, 2) := by decide +kernel
theorem dX7_init_422 : decode cX7_init 422 = .ok (.bipush 112, 2) := by decide +kernel
theorem dX7_init_424 : decode cX7_init 424 = .ok (.iastore, 1) := by decide +kernel
theorem dX7_init_425 : decode cX7_init 425 = .ok (.dup, 1) := by decide +kernel
theorem dX7_init_426 : decode cX7_init 426 = .ok (.bipush 56, 2) := by decide +kernel
theorem dX7_init_428 : decode cX7_init 428 = .ok (.bipush 32, 2) := by decide +kernel
theorem dX7_init_430 : decode cX7_init 430 = .ok (.iastore, 1) := by decide +kernel
theorem dX7_init_431 : decode cX7_init 431 = .ok (.putfield 44, 3) := by decide +kernel
theorem dX7_init_434 : decode cX7_init 434 = .ok (.aload_n 0, 1) := by decide +kernel
theorem dX7_init_435 : decode cX7_init 435 = .ok (.bipush 11, 2) := by decide +kernel
theorem dX7_init_437 : decode cX7_init 437 = .ok (.newarray .int, 2) := by decide +kernel
theorem dX7_init_439 : decode cX7_init 439 = .ok (.dup, 1) := by decide +kernel
theorem dX7_init_440 : decode cX7_init 440 = .ok (.iconst 0, 1) := by decide +kernel
theorem dX7_init_441 : decode cX7_init 441 = .ok (.iconst 0, 1) := by decide +kernel
theorem dX7_init_442 : decode cX7_init 442 = .ok (.iastore, 1) := by decide +kernel
theorem dX7_init_443 : decode cX7_init 443 = .ok (.dup, 1) := by decide +kernel
theorem dX7_init_444 : decode cX7_init 444 = .ok (.iconst 1, 1) := by decide +kernel
theorem dX7_init_445 : decode cX7_init 445 = .ok (.iconst 4, 1) := by decide +kernel
theorem dX7_init_446 : decode cX7_init 446 = .ok (.iastore, 1) := by decide +kernel
theorem dX7_init_447 : decode cX7_init 447 = .ok (.dup, 1) := by decide +kernel
theorem dX7_init_448 : decode cX7_init 448 = .ok (.iconst 2, 1) := by decide +kernel
theorem dX7_init_449 : decode cX7_init 449 = .ok (.bipush 13, 2) := by decide +kernel
theorem dX7_init_451 : decode cX7_init 451 = .ok (.iastore, 1) := by decide +kernel
theorem dX7_init_452 : decode cX7_init 452 = .ok (.dup, 1) := by decide +kernel
theorem dX7_init_453 : decode cX7_init 453 = .ok (.iconst 3, 1) := by decide +kernel
theorem dX7_init_454 : decode cX7_init 454 = .ok (.bipush 17, 2) := by decide +kernel
theorem dX7_init_456 : decode cX7_init 456 = .ok (.iastore, 1) := by decide +kernel
theorem dX7_init_457 : decode cX7_init 457 = .ok (.dup, 1) := by decide +kernel
theorem dX7_init_458 : decode cX7_init 458 = .ok (.iconst 4, 1) := by decide +kernel
theorem dX7_init_459 : decode cX7_init 459 = .ok (.bipush 22, 2) := by decide +kernel
theorem dX7_init_461 : decode cX7_init 461 = .ok (.iastore, 1) := by decide +kernel
theorem dX7_init_462 : decode cX7_init 462 = .ok (.dup, 1) := by decide +kernel
theorem dX7_init_463 : decode cX7_init 463 = .ok (.iconst 5, 1) := by decide +kernel
theorem dX7_init_464 : decode cX7_init 464 = .ok (.bipush 26, 2) := by decide +kernel
theorem dX7_init_466 : decode cX7_init 466 = .ok (.iastore, 1) := by decide +kernel
theorem dX7_init_467 : decode cX7_init 467 = .ok (.dup, 1) := by decide +kernel
theorem dX7_init_468 : decode cX7_init 468 = .ok (.bipush 6, 2) := by decide +kernel
theorem dX7_init_470 : decode cX7_init 470 = .ok (.bipush 30, 2) := by decide +kernel
theorem dX7_init_472 : decode cX7_init 472 = .ok (.iastore, 1) := by decide +kernel
theorem dX7_init_473 : decode cX7_init 473 = .ok (.dup, 1) := by decide +kernel
theorem dX7_init_474 : decode cX7_init 474 = .ok (.bipush 7, 2) := by decide +kernel
theorem dX7_init_476 : decode cX7_init 476 = .ok (.bipush 37, 2) := by decide +kernel
theorem dX7_init_478 : decode cX7_init 478 = .ok (.iastore, 1) := by decide +kernel
theorem dX7_init_479 : decode cX7_init 479 = .ok (.dup, 1) := by decide +kernel
theorem dX7_init_480 : decode cX7_init 480 = .ok (.bipush 8, 2) := by decide +kernel
theorem dX7_init_482 : decode cX7_init 482 = .ok (.bipush 43, 2) := by decide +kernel
theorem dX7_init_484 : decode cX7_init 484 = .ok (.iastore, 1) := by decide +kernel
theorem dX7_init_485 : decode cX7_init 485 = .ok (.dup, 1) := by decide +kernel
theorem dX7_init_486 : decode cX7_init 486 = .ok (.bipush 9, 2) := by decide +kernel
theorem dX7_init_488 : decode cX7_init 488 = .ok (.bipush 51, 2) := by decide +kernel
theorem dX7_init_490 : decode cX7_init 490 = .ok (.iastore, 1) := by decide +kernel
theorem dX7_init_491 : decode cX7_init 491 = .ok (.dup, 1) := by decide +kernel
theorem dX7_init_492 : decode cX7_init 492 = .ok (.bipush 10, 2) := by decide +kernel
theorem dX7_init_494 : decode cX7_init 494 = .ok (.bipush 57, 2) := by decide +kernel
theorem dX7_init_496 : decode cX7_init 496 = .ok (.iastore, 1) := by decide +kernel
theorem dX7_init_497 : decode cX7_init 497 = .ok (.putfield 47, 3) := by decide +kernel
theorem dX7_init_500 : decode cX7_init 500 = .ok (.return_, 1) := by decide +kernel
theorem dX7_thrown_0 : decode cX7_thrown 0 = .ok (.aload_n 0, 1) := by decide +kernel
theorem dX7_thrown_1 : decode cX7_thrown 1 = .ok (.getfield 50, 3) := by decide +kernel
theorem dX7_thrown_4 : decode cX7_thrown 4 = .ok (.ireturn, 1) := by decide +kernel
theorem dX7_fail_0 : decode cX7_fail 0 = .ok (.aload_n 0, 1) := by decide +kernel
theorem dX7_fail_1 : decode cX7_fail 1 = .ok (.iload_n 1, 1) := by decide +kernel
theorem dX7_fail_2 : decode cX7_fail 2 = .ok (.putfield 50, 3) := by decide +kernel
theorem dX7_fail_5 : decode cX7_fail 5 = .ok (.iconst 0, 1) := by decide +kernel
theorem dX7_fail_6 : decode cX7_fail 6 = .ok (.ireturn, 1) := by decide +kernel
theorem dX7_isIn_0 : decode cX7_isIn 0 = .ok (.iload_n 0, 1) := by decide +kernel
theorem dX7_isIn_1 : decode cX7_isIn 1 = .ok (.iload_n 1, 1) := by decide +kernel
theorem dX7_isIn_2 : decode cX7_isIn 2 = .ok (.if_icmp .lt 12, 3) := by decide +kernel
theorem dX7_isIn_5 : decode cX7_isIn 5 = .ok (.iload_n 0, 1) := by decide +kernel
theorem dX7_isIn_6 : decode cX7_isIn 6 = .ok (.iload_n 2, 1) := by decide +kernel
theorem dX7_isIn_7 : decode cX7_isIn 7 = .ok (.if_icmp .gt 7, 3) := by decide +kernel
theorem dX7_isIn_10 : decode cX7_isIn 10 = .ok (.iconst 1, 1) := by decide +kernel
theorem dX7_isIn_11 : decode cX7_isIn 11 = .ok (.goto 4, 3) := by decide +kernel
theorem dX7_isIn_14 : decode cX7_isIn 14 = .ok (.iconst 0, 1) := by decide +kernel
theorem dX7_isIn_15 : decode cX7_isIn 15 = .ok (.ireturn, 1) := by decide +kernel
theorem dX7_lays_0 : decode cX7_lays 0 = .ok (.iconst 0, 1) := by decide +kernel
theorem dX7_lays_1 : decode cX7_lays 1 = .ok (.istore_n 2, 1) := by decide +kernel
theorem dX7_lays_2 : decode cX7_lays 2 = .ok (.iload_n 2, 1) := by decide +kernel
theorem dX7_lays_3 : decode cX7_lays 3 = .ok (.sipush 457, 3) := by decide +kernel
theorem dX7_lays_6 : decode cX7_lays 6 = .ok (.if_icmp .ge 15, 3) := by decide +kernel
theorem dX7_lays_9 : decode cX7_lays 9 = .ok (.aload_n 0, 1) := by decide +kernel
theorem dX7_lays_10 : decode cX7_lays 10 = .ok (.iload_n 2, 1) := by decide +kernel
theorem dX7_lays_11 : decode cX7_lays 11 = .ok (.aload_n 1, 1) := by decide +kernel
theorem dX7_lays_12 : decode cX7_lays 12 = .ok (.iload_n 2, 1) := by decide +kernel
theorem dX7_lays_13 : decode cX7_lays 13 = .ok (.iaload, 1) := by decide +kernel
theorem dX7_lays_14 : decode cX7_lays 14 = .ok (.iastore, 1) := by decide +kernel
theorem dX7_lays_15 : decode cX7_lays 15 = .ok (.iinc 2 1, 3) := by decide +kernel
theorem dX7_lays_18 : decode cX7_lays 18 = .ok (.goto (-16), 3) := by decide +kernel
theorem dX7_lays_21 : decode cX7_lays 21 = .ok (.return_, 1) := by decide +kernel
theorem dX7_begins_0 : decode cX7_begins 0 = .ok (.aload_n 0, 1) := by decide +kernel
theorem dX7_begins_1 : decode cX7_begins 1 = .ok (.iconst 0, 1) := by decide +kernel
theorem dX7_begins_2 : decode cX7_begins 2 = .ok (.putfield 50, 3) := by decide +kernel
theorem dX7_begins_5 : decode cX7_begins 5 = .ok (.aload_n 0, 1) := by decide +kernel
theorem dX7_begins_6 : decode cX7_begins 6 = .ok (.getfield 20, 3) := by decide +kernel
theorem dX7_begins_9 : decode cX7_begins 9 = .ok (.aload_n 0, 1) := by decide +kernel
theorem dX7_begins_10 : decode cX7_begins 10 = .ok (.getfield 16, 3) := by decide +kernel
theorem dX7_begins_13 : decode cX7_begins 13 = .ok (.invokestatic 53, 3) := by decide +kernel
theorem dX7_begins_16 : decode cX7_begins 16 = .ok (.return_, 1) := by decide +kernel
theorem dX7_ends_0 : decode cX7_ends 0 = .ok (.aload_n 0, 1) := by decide +kernel
theorem dX7_ends_1 : decode cX7_ends 1 = .ok (.getfield 50, 3) := by decide +kernel
theorem dX7_ends_4 : decode cX7_ends 4 = .ok (.ifCond .eq 16, 3) := by decide +kernel
theorem dX7_ends_7 : decode cX7_ends 7 = .ok (.aload_n 0, 1) := by decide +kernel
theorem dX7_ends_8 : decode cX7_ends 8 = .ok (.getfield 16, 3) := by decide +kernel
theorem dX7_ends_11 : decode cX7_ends 11 = .ok (.aload_n 0, 1) := by decide +kernel
theorem dX7_ends_12 : decode cX7_ends 12 = .ok (.getfield 20, 3) := by decide +kernel
theorem dX7_ends_15 : decode cX7_ends 15 = .ok (.invokestatic 53, 3) := by decide +kernel
theorem dX7_ends_18 : decode cX7_ends 18 = .ok (.iconst 0, 1) := by decide +kernel
theorem dX7_ends_19 : decode cX7_ends 19 = .ok (.ireturn, 1) := by decide +kernel
theorem dX7_ends_20 : decode cX7_ends 20 = .ok (.aload_n 0, 1) := by decide +kernel
theorem dX7_ends_21 : decode cX7_ends 21 = .ok (.getfield 57, 3) := by decide +kernel
theorem dX7_ends_24 : decode cX7_ends 24 = .ok (.bipush 8, 2) := by decide +kernel
theorem dX7_ends_26 : decode cX7_ends 26 = .ok (.if_icmp .ne 44, 3) := by decide +kernel
theorem dX7_ends_29 : decode cX7_ends 29 = .ok (.iconst 0, 1) := by decide +kernel
theorem dX7_ends_30 : decode cX7_ends 30 = .ok (.istore_n 2, 1) := by decide +kernel
theorem dX7_ends_31 : decode cX7_ends 31 = .ok (.iload_n 2, 1) := by decide +kernel
theorem dX7_ends_32 : decode cX7_ends 32 = .ok (.sipush 3199, 3) := by decide +kernel
theorem dX7_ends_35 : decode cX7_ends 35 = .ok (.if_icmp .ge 25, 3) := by decide +kernel
theorem dX7_ends_38 : decode cX7_ends 38 = .ok (.aload_n 0, 1) := by decide +kernel
theorem dX7_ends_39 : decode cX7_ends 39 = .ok (.getfield 26, 3) := by decide +kernel
theorem dX7_ends_42 : decode cX7_ends 42 = .ok (.iload_n 2, 1) := by decide +kernel
theorem dX7_ends_43 : decode cX7_ends 43 = .ok (.aload_n 0, 1) := by decide +kernel
theorem dX7_ends_44 : decode cX7_ends 44 = .ok (.getfield 26, 3) := by decide +kernel
theorem dX7_ends_47 : decode cX7_ends 47 = .ok (.iload_n 2, 1) := by decide +kernel
theorem dX7_ends_48 : decode cX7_ends 48 = .ok (.sipush 457, 3) := by decide +kernel
theorem dX7_ends_51 : decode cX7_ends 51 = .ok (.iadd, 1) := by decide +kernel
theorem dX7_ends_52 : decode cX7_ends 52 = .ok (.iaload, 1) := by decide +kernel
theorem dX7_ends_53 : decode cX7_ends 53 = .ok (.iastore, 1) := by decide +kernel
theorem dX7_ends_54 : decode cX7_ends 54 = .ok (.iinc 2 1, 3) := by decide +kernel
theorem dX7_ends_57 : decode cX7_ends 57 = .ok (.goto (-26), 3) := by decide +kernel
theorem dX7_ends_60 : decode cX7_ends 60 = .ok (.aload_n 0, 1) := by decide +kernel
theorem dX7_ends_61 : decode cX7_ends 61 = .ok (.dup, 1) := by decide +kernel
theorem dX7_ends_62 : decode cX7_ends 62 = .ok (.getfield 57, 3) := by decide +kernel
theorem dX7_ends_65 : decode cX7_ends 65 = .ok (.iconst 1, 1) := by decide +kernel
theorem dX7_ends_66 : decode cX7_ends 66 = .ok (.isub, 1) := by decide +kernel
theorem dX7_ends_67 : decode cX7_ends 67 = .ok (.putfield 57, 3) := by decide +kernel
theorem dX7_ends_70 : decode cX7_ends 70 = .ok (.iconst 0, 1) := by decide +kernel
theorem dX7_ends_71 : decode cX7_ends 71 = .ok (.istore_n 2, 1) := by decide +kernel
theorem dX7_ends_72 : decode cX7_ends 72 = .ok (.iload_n 2, 1) := by decide +kernel
theorem dX7_ends_73 : decode cX7_ends 73 = .ok (.sipush 457, 3) := by decide +kernel
theorem dX7_ends_76 : decode cX7_ends 76 = .ok (.if_icmp .ge 30, 3) := by decide +kernel
theorem dX7_ends_79 : decode cX7_ends 79 = .ok (.aload_n 0, 1) := by decide +kernel
theorem dX7_ends_80 : decode cX7_ends 80 = .ok (.getfield 26, 3) := by decide +kernel
theorem dX7_ends_83 : decode cX7_ends 83 = .ok (.aload_n 0, 1) := by decide +kernel
theorem dX7_ends_84 : decode cX7_ends 84 = .ok (.getfield 57, 3) := by decide +kernel
theorem dX7_ends_87 : decode cX7_ends 87 = .ok (.sipush 457, 3) := by decide +kernel
theorem dX7_ends_90 : decode cX7_ends 90 = .ok (.imul, 1) := by decide +kernel
theorem dX7_ends_91 : decode cX7_ends 91 = .ok (.iload_n 2, 1) := by decide +kernel
theorem dX7_ends_92 : decode cX7_ends 92 = .ok (.iadd, 1) := by decide +kernel
theorem dX7_ends_93 : decode cX7_ends 93 = .ok (.aload_n 0, 1) := by decide +kernel
theorem dX7_ends_94 : decode cX7_ends 94 = .ok (.getfield 20, 3) := by decide +kernel
theorem dX7_ends_97 : decode cX7_ends 97 = .ok (.iload_n 2, 1) := by decide +kernel
theorem dX7_ends_98 : decode cX7_ends 98 = .ok (.iaload, 1) := by decide +kernel
theorem dX7_ends_99 : decode cX7_ends 99 = .ok (.iastore, 1) := by decide +kernel
theorem dX7_ends_100 : decode cX7_ends 100 = .ok (.iinc 2 1, 3) := by decide +kernel
theorem dX7_ends_103 : decode cX7_ends 103 = .ok (.goto (-31), 3) := by decide +kernel
theorem dX7_ends_106 : decode cX7_ends 106 = .ok (.aload_n 0, 1) := by decide +kernel
theorem dX7_ends_107 : decode cX7_ends 107 = .ok (.dup, 1) := by decide +kernel
theorem dX7_ends_108 : decode cX7_ends 108 = .ok (.getfield 57, 3) := by decide +kernel
theorem dX7_ends_111 : decode cX7_ends 111 = .ok (.iconst 1, 1) := by decide +kernel
theorem dX7_ends_112 : decode cX7_ends 112 = .ok (.iadd, 1) := by decide +kernel
theorem dX7_ends_113 : decode cX7_ends 113 = .ok (.putfield 57, 3) := by decide +kernel
theorem dX7_ends_116 : decode cX7_ends 116 = .ok (.iload_n 1, 1) := by decide +kernel
theorem dX7_ends_117 : decode cX7_ends 117 = .ok (.ireturn, 1) := by decide +kernel
theorem dX7_isCloth_0 : decode cX7_isCloth 0 = .ok (.iload_n 0, 1) := by decide +kernel
theorem dX7_isCloth_1 : decode cX7_isCloth 1 = .ok (.iconst 0, 1) := by decide +kernel
theorem dX7_isCloth_2 : decode cX7_isCloth 2 = .ok (.iconst 3, 1) := by decide +kernel
theorem dX7_isCloth_3 : decode cX7_isCloth 3 = .ok (.invokestatic 60, 3) := by decide +kernel
theorem dX7_isCloth_6 : decode cX7_isCloth 6 = .ok (.ireturn, 1) := by decide +kernel
theorem dX7_isCustomer_0 : decode cX7_isCustomer 0 = .ok (.iload_n 1, 1) := by decide +kernel
theorem dX7_isCustomer_1 : decode cX7_isCustomer 1 = .ok (.iconst 0, 1) := by decide +kernel
theorem dX7_isCustomer_2 : decode cX7_isCustomer 2 = .ok (.aload_n 0, 1) := by decide +kernel
theorem dX7_isCustomer_3 : decode cX7_isCustomer 3 = .ok (.getfield 16, 3) := by decide +kernel
theorem dX7_isCustomer_6 : decode cX7_isCustomer 6 = .ok (.iconst 0, 1) := by decide +kernel
theorem dX7_isCustomer_7 : decode cX7_isCustomer 7 = .ok (.iaload, 1) := by decide +kernel
theorem dX7_isCustomer_8 : decode cX7_isCustomer 8 = .ok (.iconst 1, 1) := by decide +kernel
theorem dX7_isCustomer_9 : decode cX7_isCustomer 9 = .ok (.isub, 1) := by decide +kernel
theorem dX7_isCustomer_10 : decode cX7_isCustomer 10 = .ok (.invokestatic 60, 3) := by decide +kernel
theorem dX7_isCustomer_13 : decode cX7_isCustomer 13 = .ok (.ireturn, 1) := by decide +kernel
theorem dX7_at_0 : decode cX7_at 0 = .ok (.bipush 12, 2) := by decide +kernel
theorem dX7_at_2 : decode cX7_at 2 = .ok (.bipush 17, 2) := by decide +kernel
theorem dX7_at_4 : decode cX7_at 4 = .ok (.iload_n 0, 1) := by decide +kernel
theorem dX7_at_5 : decode cX7_at 5 = .ok (.imul, 1) := by decide +kernel
theorem dX7_at_6 : decode cX7_at 6 = .ok (.iadd, 1) := by decide +kernel
theorem dX7_at_7 : decode cX7_at 7 = .ok (.ireturn, 1) := by decide +kernel
theorem dX7_legs_0 : decode cX7_legs 0 = .ok (.iconst 2, 1) := by decide +kernel
theorem dX7_legs_1 : decode cX7_legs 1 = .ok (.aload_n 0, 1) := by decide +kernel
theorem dX7_legs_2 : decode cX7_legs 2 = .ok (.getfield 16, 3) := by decide +kernel
theorem dX7_legs_5 : decode cX7_legs 5 = .ok (.iload_n 1, 1) := by decide +kernel
theorem dX7_legs_6 : decode cX7_legs 6 = .ok (.invokestatic 64, 3) := by decide +kernel
theorem dX7_legs_9 : decode cX7_legs 9 = .ok (.iaload, 1) := by decide +kernel
theorem dX7_legs_10 : decode cX7_legs 10 = .ok (.imul, 1) := by decide +kernel
theorem dX7_legs_11 : decode cX7_legs 11 = .ok (.ireturn, 1) := by decide +kernel
theorem dX7_leg_0 : decode cX7_leg 0 = .ok (.aload_n 0, 1) := by decide +kernel
theorem dX7_leg_1 : decode cX7_leg 1 = .ok (.getfield 16, 3) := by decide +kernel
theorem dX7_leg_4 : decode cX7_leg 4 = .ok (.iload_n 1, 1) := by decide +kernel
theorem dX7_leg_5 : decode cX7_leg 5 = .ok (.invokestatic 64, 3) := by decide +kernel
theorem dX7_leg_8 : decode cX7_leg 8 = .ok (.iconst 1, 1) := by decide +kernel
theorem dX7_leg_9 : decode cX7_leg 9 = .ok (.iadd, 1) := by decide +kernel
theorem dX7_leg_10 : decode cX7_leg 10 = .ok (.iload_n 2, 1) := by decide +kernel
theorem dX7_leg_11 : decode cX7_leg 11 = .ok (.iadd, 1) := by decide +kernel
theorem dX7_leg_12 : decode cX7_leg 12 = .ok (.iaload, 1) := by decide +kernel
theorem dX7_leg_13 : decode cX7_leg 13 = .ok (.ireturn, 1) := by decide +kernel
theorem dX7_isLeg_0 : decode cX7_isLeg 0 = .ok (.aload_n 0, 1) := by decide +kernel
theorem dX7_isLeg_1 : decode cX7_isLeg 1 = .ok (.iload_n 1, 1) := by decide +kernel
theorem dX7_isLeg_2 : decode cX7_isLeg 2 = .ok (.invokevirtual 68, 3) := by decide +kernel
theorem dX7_isLeg_5 : decode cX7_isLeg 5 = .ok (.ifCond .eq 22, 3) := by decide +kernel
theorem dX7_isLeg_8 : decode cX7_isLeg 8 = .ok (.iload_n 2, 1) := by decide +kernel
theorem dX7_isLeg_9 : decode cX7_isLeg 9 = .ok (.iconst 0, 1) := by decide +kernel
theorem dX7_isLeg_10 : decode cX7_isLeg 10 = .ok (.aload_n 0, 1) := by decide +kernel
theorem dX7_isLeg_11 : decode cX7_isLeg 11 = .ok (.iload_n 1, 1) := by decide +kernel
theorem dX7_isLeg_12 : decode cX7_isLeg 12 = .ok (.invokevirtual 72, 3) := by decide +kernel
theorem dX7_isLeg_15 : decode cX7_isLeg 15 = .ok (.iconst 1, 1) := by decide +kernel
theorem dX7_isLeg_16 : decode cX7_isLeg 16 = .ok (.isub, 1) := by decide +kernel
theorem dX7_isLeg_17 : decode cX7_isLeg 17 = .ok (.invokestatic 60, 3) := by decide +kernel
theorem dX7_isLeg_20 : decode cX7_isLeg 20 = .ok (.ifCond .eq 7, 3) := by decide +kernel
theorem dX7_isLeg_23 : decode cX7_isLeg 23 = .ok (.iconst 1, 1) := by decide +kernel
theorem dX7_isLeg_24 : decode cX7_isLeg 24 = .ok (.goto 4, 3) := by decide +kernel
theorem dX7_isLeg_27 : decode cX7_isLeg 27 = .ok (.iconst 0, 1) := by decide +kernel
theorem dX7_isLeg_28 : decode cX7_isLeg 28 = .ok (.ireturn, 1) := by decide +kernel
theorem dX7_find_0 : decode cX7_find 0 = .ok (.iconst 0, 1) := by decide +kernel
theorem dX7_find_1 : decode cX7_find 1 = .ok (.istore_n 2, 1) := by decide +kernel
theorem dX7_find_2 : decode cX7_find 2 = .ok (.iload_n 2, 1) := by decide +kernel
theorem dX7_find_3 : decode cX7_find 3 = .ok (.aload_n 0, 1) := by decide +kernel
theorem dX7_find_4 : decode cX7_find 4 = .ok (.getfield 16, 3) := by decide +kernel
theorem dX7_find_7 : decode cX7_find 7 = .ok (.iconst 1, 1) := by decide +kernel
theorem dX7_find_8 : decode cX7_find 8 = .ok (.iaload, 1) := by decide +kernel
theorem dX7_find_9 : decode cX7_find 9 = .ok (.if_icmp .ge 25, 3) := by decide +kernel
theorem dX7_find_12 : decode cX7_find 12 = .ok (.aload_n 0, 1) := by decide +kernel
theorem dX7_find_13 : decode cX7_find 13 = .ok (.getfield 16, 3) := by decide +kernel
theorem dX7_find_16 : decode cX7_find 16 = .ok (.iload_n 2, 1) := by decide +kernel
theorem dX7_find_17 : decode cX7_find 17 = .ok (.iconst 0, 1) := by decide +kernel
theorem dX7_find_18 : decode cX7_find 18 = .ok (.invokestatic 75, 3) := by decide +kernel
theorem dX7_find_21 : decode cX7_find 21 = .ok (.iaload, 1) := by decide +kernel
theorem dX7_find_22 : decode cX7_find 22 = .ok (.iload_n 1, 1) := by decide +kernel
theorem dX7_find_23 : decode cX7_find 23 = .ok (.if_icmp .ne 5, 3) := by decide +kernel
theorem dX7_find_26 : decode cX7_find 26 = .ok (.iload_n 2, 1) := by decide +kernel
theorem dX7_find_27 : decode cX7_find 27 = .ok (.ireturn, 1) := by decide +kernel
theorem dX7_find_28 : decode cX7_find 28 = .ok (.iinc 2 1, 3) := by decide +kernel
theorem dX7_find_31 : decode cX7_find 31 = .ok (.goto (-29), 3) := by decide +kernel
theorem dX7_find_34 : decode cX7_find 34 = .ok (.iconst (-1), 1) := by decide +kernel
theorem dX7_find_35 : decode cX7_find 35 = .ok (.ireturn, 1) := by decide +kernel
theorem dX7_of_0 : decode cX7_of 0 = .ok (.bipush 97, 2) := by decide +kernel
theorem dX7_of_2 : decode cX7_of 2 = .ok (.bipush 60, 2) := by decide +kernel
theorem dX7_of_4 : decode cX7_of 4 = .ok (.iload_n 0, 1) := by decide +kernel
theorem dX7_of_5 : decode cX7_of 5 = .ok (.imul, 1) := by decide +kernel
theorem dX7_of_6 : decode cX7_of 6 = .ok (.iadd, 1) := by decide +kernel
theorem dX7_of_7 : decode cX7_of 7 = .ok (.iload_n 1, 1) := by decide +kernel
theorem dX7_of_8 : decode cX7_of 8 = .ok (.iadd, 1) := by decide +kernel
theorem dX7_of_9 : decode cX7_of 9 = .ok (.ireturn, 1) := by decide +kernel
theorem dX7_sleeves_0 : decode cX7_sleeves 0 = .ok (.aload_n 0, 1) := by decide +kernel
theorem dX7_sleeves_1 : decode cX7_sleeves 1 = .ok (.aload_n 0, 1) := by decide +kernel
theorem dX7_sleeves_2 : decode cX7_sleeves 2 = .ok (.getfield 16, 3) := by decide +kernel
theorem dX7_sleeves_5 : decode cX7_sleeves 5 = .ok (.iload_n 1, 1) := by decide +kernel
theorem dX7_sleeves_6 : decode cX7_sleeves 6 = .ok (.iconst 1, 1) := by decide +kernel
theorem dX7_sleeves_7 : decode cX7_sleeves 7 = .ok (.invokestatic 75, 3) := by decide +kernel
theorem dX7_sleeves_10 : decode cX7_sleeves 10 = .ok (.iaload, 1) := by decide +kernel
theorem dX7_sleeves_11 : decode cX7_sleeves 11 = .ok (.invokevirtual 72, 3) := by decide +kernel
theorem dX7_sleeves_14 : decode cX7_sleeves 14 = .ok (.ireturn, 1) := by decide +kernel
theorem dX7_isSleeve_0 : decode cX7_isSleeve 0 = .ok (.iload_n 2, 1) := by decide +kernel
theorem dX7_isSleeve_1 : decode cX7_isSleeve 1 = .ok (.iconst 0, 1) := by decide +kernel
theorem dX7_isSleeve_2 : decode cX7_isSleeve 2 = .ok (.aload_n 0, 1) := by decide +kernel
theorem dX7_isSleeve_3 : decode cX7_isSleeve 3 = .ok (.iload_n 1, 1) := by decide +kernel
theorem dX7_isSleeve_4 : decode cX7_isSleeve 4 = .ok (.invokevirtual 79, 3) := by decide +kernel
theorem dX7_isSleeve_7 : decode cX7_isSleeve 7 = .ok (.iconst 1, 1) := by decide +kernel
theorem dX7_isSleeve_8 : decode cX7_isSleeve 8 = .ok (.isub, 1) := by decide +kernel
theorem dX7_isSleeve_9 : decode cX7_isSleeve 9 = .ok (.invokestatic 60, 3) := by decide +kernel
theorem dX7_isSleeve_12 : decode cX7_isSleeve 12 = .ok (.ireturn, 1) := by decide +kernel
theorem dX7_state_0 : decode cX7_state 0 = .ok (.aload_n 0, 1) := by decide +kernel
theorem dX7_state_1 : decode cX7_state 1 = .ok (.getfield 16, 3) := by decide +kernel
theorem dX7_state_4 : decode cX7_state 4 = .ok (.iload_n 1, 1) := by decide +kernel
theorem dX7_state_5 : decode cX7_state 5 = .ok (.iconst 4, 1) := by decide +kernel
theorem dX7_state_6 : decode cX7_state 6 = .ok (.iload_n 2, 1) := by decide +kernel
theorem dX7_state_7 : decode cX7_state 7 = .ok (.iadd, 1) := by decide +kernel
theorem dX7_state_8 : decode cX7_state 8 = .ok (.invokestatic 75, 3) := by decide +kernel
theorem dX7_state_11 : decode cX7_state 11 = .ok (.iaload, 1) := by decide +kernel
theorem dX7_state_12 : decode cX7_state 12 = .ok (.ireturn, 1) := by decide +kernel
theorem dX7_own_0 : decode cX7_own 0 = .ok (.aload_n 0, 1) := by decide +kernel
theorem dX7_own_1 : decode cX7_own 1 = .ok (.getfield 16, 3) := by decide +kernel
theorem dX7_own_4 : decode cX7_own 4 = .ok (.iload_n 1, 1) := by decide +kernel
theorem dX7_own_5 : decode cX7_own 5 = .ok (.bipush 20, 2) := by decide +kernel
theorem dX7_own_7 : decode cX7_own 7 = .ok (.iload_n 2, 1) := by decide +kernel
theorem dX7_own_8 : decode cX7_own 8 = .ok (.iadd, 1) := by decide +kernel
theorem dX7_own_9 : decode cX7_own 9 = .ok (.invokestatic 75, 3) := by decide +kernel
theorem dX7_own_12 : decode cX7_own 12 = .ok (.iaload, 1) := by decide +kernel
theorem dX7_own_13 : decode cX7_own 13 = .ok (.ireturn, 1) := by decide +kernel
theorem dX7_wanted_0 : decode cX7_wanted 0 = .ok (.aload_n 0, 1) := by decide +kernel
theorem dX7_wanted_1 : decode cX7_wanted 1 = .ok (.aload_n 0, 1) := by decide +kernel
theorem dX7_wanted_2 : decode cX7_wanted 2 = .ok (.getfield 16, 3) := by decide +kernel
theorem dX7_wanted_5 : decode cX7_wanted 5 = .ok (.iload_n 1, 1) := by decide +kernel
theorem dX7_wanted_6 : decode cX7_wanted 6 = .ok (.iconst 1, 1) := by decide +kernel
theorem dX7_wanted_7 : decode cX7_wanted 7 = .ok (.invokestatic 75, 3) := by decide +kernel
theorem dX7_wanted_10 : decode cX7_wanted 10 = .ok (.iaload, 1) := by decide +kernel
theorem dX7_wanted_11 : decode cX7_wanted 11 = .ok (.iload_n 2, 1) := by decide +kernel
theorem dX7_wanted_12 : decode cX7_wanted 12 = .ok (.invokevirtual 82, 3) := by decide +kernel
theorem dX7_wanted_15 : decode cX7_wanted 15 = .ok (.ireturn, 1) := by decide +kernel
theorem dX7_first_0 : decode cX7_first 0 = .ok (.aload_n 0, 1) := by decide +kernel
theorem dX7_first_1 : decode cX7_first 1 = .ok (.getfield 16, 3) := by decide +kernel
theorem dX7_first_4 : decode cX7_first 4 = .ok (.iload_n 1, 1) := by decide +kernel
theorem dX7_first_5 : decode cX7_first 5 = .ok (.bipush 36, 2) := by decide +kernel
theorem dX7_first_7 : decode cX7_first 7 = .ok (.iconst 2, 1) := by decide +kernel
theorem dX7_first_8 : decode cX7_first 8 = .ok (.iload_n 2, 1) := by decide +kernel
theorem dX7_first_9 : decode cX7_first 9 = .ok (.imul, 1) := by decide +kernel
theorem dX7_first_10 : decode cX7_first 10 = .ok (.iadd, 1) := by decide +kernel
theorem dX7_first_11 : decode cX7_first 11 = .ok (.invokestatic 75, 3) := by decide +kernel
theorem dX7_first_14 : decode cX7_first 14 = .ok (.iaload, 1) := by decide +kernel
theorem dX7_first_15 : decode cX7_first 15 = .ok (.ireturn, 1) := by decide +kernel
theorem dX7_second_0 : decode cX7_second 0 = .ok (.aload_n 0, 1) := by decide +kernel
theorem dX7_second_1 : decode cX7_second 1 = .ok (.getfield 16, 3) := by decide +kernel
theorem dX7_second_4 : decode cX7_second 4 = .ok (.iload_n 1, 1) := by decide +kernel
theorem dX7_second_5 : decode cX7_second 5 = .ok (.bipush 36, 2) := by decide +kernel
theorem dX7_second_7 : decode cX7_second 7 = .ok (.iconst 2, 1) := by decide +kernel
theorem dX7_second_8 : decode cX7_second 8 = .ok (.iload_n 2, 1) := by decide +kernel
theorem dX7_second_9 : decode cX7_second 9 = .ok (.imul, 1) := by decide +kernel
theorem dX7_second_10 : decode cX7_second 10 = .ok (.iadd, 1) := by decide +kernel
theorem dX7_second_11 : decode cX7_second 11 = .ok (.iconst 1, 1) := by decide +kernel
theorem dX7_second_12 : decode cX7_second 12 = .ok (.iadd, 1) := by decide +kernel
theorem dX7_second_13 : decode cX7_second 13 = .ok (.invokestatic 75, 3) := by decide +kernel
theorem dX7_second_16 : decode cX7_second 16 = .ok (.iaload, 1) := by decide +kernel
theorem dX7_second_17 : decode cX7_second 17 = .ok (.ireturn, 1) := by decide +kernel
theorem dX7_count_0 : decode cX7_count 0 = .ok (.iconst 0, 1) := by decide +kernel
theorem dX7_count_1 : decode cX7_count 1 = .ok (.istore_n 3, 1) := by decide +kernel
theorem dX7_count_2 : decode cX7_count 2 = .ok (.iconst 0, 1) := by decide +kernel
theorem dX7_count_3 : decode cX7_count 3 = .ok (.istore 4, 2) := by decide +kernel
theorem dX7_count_5 : decode cX7_count 5 = .ok (.iload 4, 2) := by decide +kernel
theorem dX7_count_7 : decode cX7_count 7 = .ok (.aload_n 0, 1) := by decide +kernel
theorem dX7_count_8 : decode cX7_count 8 = .ok (.iload_n 1, 1) := by decide +kernel
theorem dX7_count_9 : decode cX7_count 9 = .ok (.invokevirtual 79, 3) := by decide +kernel
theorem dX7_count_12 : decode cX7_count 12 = .ok (.if_icmp .ge 28, 3) := by decide +kernel
theorem dX7_count_15 : decode cX7_count 15 = .ok (.iload_n 3, 1) := by decide +kernel
theorem dX7_count_16 : decode cX7_count 16 = .ok (.aload_n 0, 1) := by decide +kernel
theorem dX7_count_17 : decode cX7_count 17 = .ok (.iload_n 1, 1) := by decide +kernel
theorem dX7_count_18 : decode cX7_count 18 = .ok (.iload 4, 2) := by decide +kernel
theorem dX7_count_20 : decode cX7_count 20 = .ok (.invokevirtual 85, 3) := by decide +kernel
theorem dX7_count_23 : decode cX7_count 23 = .ok (.iload_n 2, 1) := by decide +kernel
theorem dX7_count_24 : decode cX7_count 24 = .ok (.if_icmp .ne 7, 3) := by decide +kernel
theorem dX7_count_27 : decode cX7_count 27 = .ok (.iconst 1, 1) := by decide +kernel
theorem dX7_count_28 : decode cX7_count 28 = .ok (.goto 4, 3) := by decide +kernel
theorem dX7_count_31 : decode cX7_count 31 = .ok (.iconst 0, 1) := by decide +kernel
theorem dX7_count_32 : decode cX7_count 32 = .ok (.iadd, 1) := by decide +kernel
theorem dX7_count_33 : decode cX7_count 33 = .ok (.istore_n 3, 1) := by decide +kernel
theorem dX7_count_34 : decode cX7_count 34 = .ok (.iinc 4 1, 3) := by decide +kernel
theorem dX7_count_37 : decode cX7_count 37 = .ok (.goto (-32), 3) := by decide +kernel
theorem dX7_count_40 : decode cX7_count 40 = .ok (.iload_n 3, 1) := by decide +kernel
theorem dX7_count_41 : decode cX7_count 41 = .ok (.ireturn, 1) := by decide +kernel
theorem dX7_buys_0 : decode cX7_buys 0 = .ok (.iload_n 1, 1) := by decide +kernel
theorem dX7_buys_1 : decode cX7_buys 1 = .ok (.invokestatic 88, 3) := by decide +kernel
theorem dX7_buys_4 : decode cX7_buys 4 = .ok (.ifCond .ne 9, 3) := by decide +kernel
theorem dX7_buys_7 : decode cX7_buys 7 = .ok (.aload_n 0, 1) := by decide +kernel
theorem dX7_buys_8 : decode cX7_buys 8 = .ok (.iconst 1, 1) := by decide +kernel
theorem dX7_buys_9 : decode cX7_buys 9 = .ok (.invokevirtual 91, 3) := by decide +kernel
theorem dX7_buys_12 : decode cX7_buys 12 = .ok (.ireturn, 1) := by decide +kernel
theorem dX7_buys_13 : decode cX7_buys 13 = .ok (.iload_n 2, 1) := by decide +kernel
theorem dX7_buys_14 : decode cX7_buys 14 = .ok (.iconst 1, 1) := by decide +kernel
theorem dX7_buys_15 : decode cX7_buys 15 = .ok (.sipush 999, 3) := by decide +kernel
theorem dX7_buys_18 : decode cX7_buys 18 = .ok (.invokestatic 60, 3) := by decide +kernel
theorem dX7_buys_21 : decode cX7_buys 21 = .ok (.ifCond .ne 9, 3) := by decide +kernel
theorem dX7_buys_24 : decode cX7_buys 24 = .ok (.aload_n 0, 1) := by decide +kernel
theorem dX7_buys_25 : decode cX7_buys 25 = .ok (.iconst 2, 1) := by decide +kernel
theorem dX7_buys_26 : decode cX7_buys 26 = .ok (.invokevirtual 91, 3) := by decide +kernel
theorem dX7_buys_29 : decode cX7_buys 29 = .ok (.ireturn, 1) := by decide +kernel
theorem dX7_buys_30 : decode cX7_buys 30 = .ok (.aload_n 0, 1) := by decide +kernel
theorem dX7_buys_31 : decode cX7_buys 31 = .ok (.getfield 16, 3) := by decide +kernel
theorem dX7_buys_34 : decode cX7_buys 34 = .ok (.bipush 8, 2) := by decide +kernel
theorem dX7_buys_36 : decode cX7_buys 36 = .ok (.iload_n 1, 1) := by decide +kernel
theorem dX7_buys_37 : decode cX7_buys 37 = .ok (.iadd, 1) := by decide +kernel
theorem dX7_buys_38 : decode cX7_buys 38 = .ok (.iaload, 1) := by decide +kernel
theorem dX7_buys_39 : decode cX7_buys 39 = .ok (.iload_n 2, 1) := by decide +kernel
theorem dX7_buys_40 : decode cX7_buys 40 = .ok (.iadd, 1) := by decide +kernel
theorem dX7_buys_41 : decode cX7_buys 41 = .ok (.sipush 2000, 3) := by decide +kernel
theorem dX7_buys_44 : decode cX7_buys 44 = .ok (.if_icmp .le 9, 3) := by decide +kernel
theorem dX7_buys_47 : decode cX7_buys 47 = .ok (.aload_n 0, 1) := by decide +kernel
theorem dX7_buys_48 : decode cX7_buys 48 = .ok (.iconst 3, 1) := by decide +kernel
theorem dX7_buys_49 : decode cX7_buys 49 = .ok (.invokevirtual 91, 3) := by decide +kernel
theorem dX7_buys_52 : decode cX7_buys 52 = .ok (.ireturn, 1) := by decide +kernel
theorem dX7_buys_53 : decode cX7_buys 53 = .ok (.aload_n 0, 1) := by decide +kernel
theorem dX7_buys_54 : decode cX7_buys 54 = .ok (.getfield 16, 3) := by decide +kernel
theorem dX7_buys_57 : decode cX7_buys 57 = .ok (.bipush 8, 2) := by decide +kernel
theorem dX7_buys_59 : decode cX7_buys 59 = .ok (.iload_n 1, 1) := by decide +kernel
theorem dX7_buys_60 : decode cX7_buys 60 = .ok (.iadd, 1) := by decide +kernel
theorem dX7_buys_61 : decode cX7_buys 61 = .ok (.dup2, 1) := by decide +kernel
theorem dX7_buys_62 : decode cX7_buys 62 = .ok (.iaload, 1) := by decide +kernel
theorem dX7_buys_63 : decode cX7_buys 63 = .ok (.iload_n 2, 1) := by decide +kernel
theorem dX7_buys_64 : decode cX7_buys 64 = .ok (.iadd, 1) := by decide +kernel
theorem dX7_buys_65 : decode cX7_buys 65 = .ok (.iastore, 1) := by decide +kernel
theorem dX7_buys_66 : decode cX7_buys 66 = .ok (.aload_n 0, 1) := by decide +kernel
theorem dX7_buys_67 : decode cX7_buys 67 = .ok (.getfield 16, 3) := by decide +kernel
theorem dX7_buys_70 : decode cX7_buys 70 = .ok (.iconst 3, 1) := by decide +kernel
theorem dX7_buys_71 : decode cX7_buys 71 = .ok (.dup2, 1) := by decide +kernel
theorem dX7_buys_72 : decode cX7_buys 72 = .ok (.iaload, 1) := by decide +kernel
theorem dX7_buys_73 : decode cX7_buys 73 = .ok (.iload_n 2, 1) := by decide +kernel
theorem dX7_buys_74 : decode cX7_buys 74 = .ok (.iadd, 1) := by decide +kernel
theorem dX7_buys_75 : decode cX7_buys 75 = .ok (.iastore, 1) := by decide +kernel
theorem dX7_buys_76 : decode cX7_buys 76 = .ok (.aload_n 0, 1) := by decide +kernel
theorem dX7_buys_77 : decode cX7_buys 77 = .ok (.getfield 16, 3) := by decide +kernel
theorem dX7_buys_80 : decode cX7_buys 80 = .ok (.bipush 8, 2) := by decide +kernel
theorem dX7_buys_82 : decode cX7_buys 82 = .ok (.iload_n 1, 1) := by decide +kernel
theorem dX7_buys_83 : decode cX7_buys 83 = .ok (.iadd, 1) := by decide +kernel
theorem dX7_buys_84 : decode cX7_buys 84 = .ok (.iaload, 1) := by decide +kernel
theorem dX7_buys_85 : decode cX7_buys 85 = .ok (.ireturn, 1) := by decide +kernel
theorem dX7_buyCloth_0 : decode cX7_buyCloth 0 = .ok (.aload_n 0, 1) := by decide +kernel
theorem dX7_buyCloth_1 : decode cX7_buyCloth 1 = .ok (.invokevirtual 94, 3) := by decide +kernel
theorem dX7_buyCloth_4 : decode cX7_buyCloth 4 = .ok (.aload_n 0, 1) := by decide +kernel
theorem dX7_buyCloth_5 : decode cX7_buyCloth 5 = .ok (.aload_n 0, 1) := by decide +kernel
theorem dX7_buyCloth_6 : decode cX7_buyCloth 6 = .ok (.iload_n 1, 1) := by decide +kernel
theorem dX7_buyCloth_7 : decode cX7_buyCloth 7 = .ok (.iload_n 2, 1) := by decide +kernel
theorem dX7_buyCloth_8 : decode cX7_buyCloth 8 = .ok (.invokevirtual 97, 3) := by decide +kernel
theorem dX7_buyCloth_11 : decode cX7_buyCloth 11 = .ok (.invokevirtual 100, 3) := by decide +kernel
theorem dX7_buyCloth_14 : decode cX7_buyCloth 14 = .ok (.ireturn, 1) := by decide +kernel
theorem dX7_adds_0 : decode cX7_adds 0 = .ok (.iload_n 1, 1) := by decide +kernel
theorem dX7_adds_1 : decode cX7_adds 1 = .ok (.iconst 1, 1) := by decide +kernel
theorem dX7_adds_2 : decode cX7_adds 2 = .ok (.bipush 8, 2) := by decide +kernel
theorem dX7_adds_4 : decode cX7_adds 4 = .ok (.invokestatic 60, 3) := by decide +kernel
theorem dX7_adds_7 : decode cX7_adds 7 = .ok (.ifCond .eq 14, 3) := by decide +kernel
theorem dX7_adds_10 : decode cX7_adds 10 = .ok (.iload_n 2, 1) := by decide +kernel
theorem dX7_adds_11 : decode cX7_adds 11 = .ok (.bipush 10, 2) := by decide +kernel
theorem dX7_adds_13 : decode cX7_adds 13 = .ok (.bipush 60, 2) := by decide +kernel
theorem dX7_adds_15 : decode cX7_adds 15 = .ok (.invokestatic 60, 3) := by decide +kernel
theorem dX7_adds_18 : decode cX7_adds 18 = .ok (.ifCond .ne 9, 3) := by decide +kernel
theorem dX7_adds_21 : decode cX7_adds 21 = .ok (.aload_n 0, 1) := by decide +kernel
theorem dX7_adds_22 : decode cX7_adds 22 = .ok (.iconst 1, 1) := by decide +kernel
theorem dX7_adds_23 : decode cX7_adds 23 = .ok (.invokevirtual 91, 3) := by decide +kernel
theorem dX7_adds_26 : decode cX7_adds 26 = .ok (.ireturn, 1) := by decide +kernel
theorem dX7_adds_27 : decode cX7_adds 27 = .ok (.aload_n 0, 1) := by decide +kernel
theorem dX7_adds_28 : decode cX7_adds 28 = .ok (.getfield 16, 3) := by decide +kernel
theorem dX7_adds_31 : decode cX7_adds 31 = .ok (.iconst 0, 1) := by decide +kernel
theorem dX7_adds_32 : decode cX7_adds 32 = .ok (.iaload, 1) := by decide +kernel
theorem dX7_adds_33 : decode cX7_adds 33 = .ok (.istore_n 3, 1) := by decide +kernel
theorem dX7_adds_34 : decode cX7_adds 34 = .ok (.iload_n 3, 1) := by decide +kernel
theorem dX7_adds_35 : decode cX7_adds 35 = .ok (.iconst 5, 1) := by decide +kernel
theorem dX7_adds_36 : decode cX7_adds 36 = .ok (.if_icmp .ne 9, 3) := by decide +kernel
theorem dX7_adds_39 : decode cX7_adds 39 = .ok (.aload_n 0, 1) := by decide +kernel
theorem dX7_adds_40 : decode cX7_adds 40 = .ok (.iconst 2, 1) := by decide +kernel
theorem dX7_adds_41 : decode cX7_adds 41 = .ok (.invokevirtual 91, 3) := by decide +kernel
theorem dX7_adds_44 : decode cX7_adds 44 = .ok (.ireturn, 1) := by decide +kernel
theorem dX7_adds_45 : decode cX7_adds 45 = .ok (.aload_n 0, 1) := by decide +kernel
theorem dX7_adds_46 : decode cX7_adds 46 = .ok (.getfield 16, 3) := by decide +kernel
theorem dX7_adds_49 : decode cX7_adds 49 = .ok (.iload_n 3, 1) := by decide +kernel
theorem dX7_adds_50 : decode cX7_adds 50 = .ok (.invokestatic 64, 3) := by decide +kernel
theorem dX7_adds_53 : decode cX7_adds 53 = .ok (.iload_n 1, 1) := by decide +kernel
theorem dX7_adds_54 : decode cX7_adds 54 = .ok (.iastore, 1) := by decide +kernel
theorem dX7_adds_55 : decode cX7_adds 55 = .ok (.iconst 0, 1) := by decide +kernel
theorem dX7_adds_56 : decode cX7_adds 56 = .ok (.istore 4, 2) := by decide +kernel
theorem dX7_adds_58 : decode cX7_adds 58 = .ok (.iload 4, 2) := by decide +kernel
theorem dX7_adds_60 : decode cX7_adds 60 = .ok (.bipush 16, 2) := by decide +kernel
theorem dX7_adds_62 : decode cX7_adds 62 = .ok (.if_icmp .ge 36, 3) := by decide +kernel
theorem dX7_adds_65 : decode cX7_adds 65 = .ok (.aload_n 0, 1) := by decide +kernel
theorem dX7_adds_66 : decode cX7_adds 66 = .ok (.getfield 16, 3) := by decide +kernel
theorem dX7_adds_69 : decode cX7_adds 69 = .ok (.iload_n 3, 1) := by decide +kernel
theorem dX7_adds_70 : decode cX7_adds 70 = .ok (.invokestatic 64, 3) := by decide +kernel
theorem dX7_adds_73 : decode cX7_adds 73 = .ok (.iconst 1, 1) := by decide +kernel
theorem dX7_adds_74 : decode cX7_adds 74 = .ok (.iadd, 1) := by decide +kernel
theorem dX7_adds_75 : decode cX7_adds 75 = .ok (.iload 4, 2) := by decide +kernel
theorem dX7_adds_77 : decode cX7_adds 77 = .ok (.iadd, 1) := by decide +kernel
theorem dX7_adds_78 : decode cX7_adds 78 = .ok (.iload 4, 2) := by decide +kernel
theorem dX7_adds_80 : decode cX7_adds 80 = .ok (.iconst 2, 1) := by decide +kernel
theorem dX7_adds_81 : decode cX7_adds 81 = .ok (.iload_n 1, 1) := by decide +kernel
theorem dX7_adds_82 : decode cX7_adds 82 = .ok (.imul, 1) := by decide +kernel
theorem dX7_adds_83 : decode cX7_adds 83 = .ok (.if_icmp .ge 7, 3) := by decide +kernel
theorem dX7_adds_86 : decode cX7_adds 86 = .ok (.iload_n 2, 1) := by decide +kernel
theorem dX7_adds_87 : decode cX7_adds 87 = .ok (.goto 4, 3) := by decide +kernel
theorem dX7_adds_90 : decode cX7_adds 90 = .ok (.iconst 0, 1) := by decide +kernel
theorem dX7_adds_91 : decode cX7_adds 91 = .ok (.iastore, 1) := by decide +kernel
theorem dX7_adds_92 : decode cX7_adds 92 = .ok (.iinc 4 1, 3) := by decide +kernel
theorem dX7_adds_95 : decode cX7_adds 95 = .ok (.goto (-37), 3) := by decide +kernel
theorem dX7_adds_98 : decode cX7_adds 98 = .ok (.aload_n 0, 1) := by decide +kernel
theorem dX7_adds_99 : decode cX7_adds 99 = .ok (.getfield 16, 3) := by decide +kernel
theorem dX7_adds_102 : decode cX7_adds 102 = .ok (.iconst 0, 1) := by decide +kernel
theorem dX7_adds_103 : decode cX7_adds 103 = .ok (.dup2, 1) := by decide +kernel
theorem dX7_adds_104 : decode cX7_adds 104 = .ok (.iaload, 1) := by decide +kernel
theorem dX7_adds_105 : decode cX7_adds 105 = .ok (.iconst 1, 1) := by decide +kernel
theorem dX7_adds_106 : decode cX7_adds 106 = .ok (.iadd, 1) := by decide +kernel
theorem dX7_adds_107 : decode cX7_adds 107 = .ok (.iastore, 1) := by decide +kernel
theorem dX7_adds_108 : decode cX7_adds 108 = .ok (.iload_n 3, 1) := by decide +kernel
theorem dX7_adds_109 : decode cX7_adds 109 = .ok (.ireturn, 1) := by decide +kernel
theorem dX7_addCustomer_0 : decode cX7_addCustomer 0 = .ok (.aload_n 0, 1) := by decide +kernel
theorem dX7_addCustomer_1 : decode cX7_addCustomer 1 = .ok (.invokevirtual 94, 3) := by decide +kernel
theorem dX7_addCustomer_4 : decode cX7_addCustomer 4 = .ok (.aload_n 0, 1) := by decide +kernel
theorem dX7_addCustomer_5 : decode cX7_addCustomer 5 = .ok (.aload_n 0, 1) := by decide +kernel
theorem dX7_addCustomer_6 : decode cX7_addCustomer 6 = .ok (.iload_n 1, 1) := by decide +kernel
theorem dX7_addCustomer_7 : decode cX7_addCustomer 7 = .ok (.iload_n 2, 1) := by decide +kernel
theorem dX7_addCustomer_8 : decode cX7_addCustomer 8 = .ok (.invokevirtual 103, 3) := by decide +kernel
theorem dX7_addCustomer_11 : decode cX7_addCustomer 11 = .ok (.invokevirtual 100, 3) := by decide +kernel
theorem dX7_addCustomer_14 : decode cX7_addCustomer 14 = .ok (.ireturn, 1) := by decide +kernel
theorem dX7_fits_0 : decode cX7_fits 0 = .ok (.aload_n 0, 1) := by decide +kernel
theorem dX7_fits_1 : decode cX7_fits 1 = .ok (.iload_n 1, 1) := by decide +kernel
theorem dX7_fits_2 : decode cX7_fits 2 = .ok (.iload_n 2, 1) := by decide +kernel
theorem dX7_fits_3 : decode cX7_fits 3 = .ok (.invokevirtual 106, 3) := by decide +kernel
theorem dX7_fits_6 : decode cX7_fits 6 = .ok (.ifCond .ne 9, 3) := by decide +kernel
theorem dX7_fits_9 : decode cX7_fits 9 = .ok (.aload_n 0, 1) := by decide +kernel
theorem dX7_fits_10 : decode cX7_fits 10 = .ok (.iconst 1, 1) := by decide +kernel
theorem dX7_fits_11 : decode cX7_fits 11 = .ok (.invokevirtual 91, 3) := by decide +kernel
theorem dX7_fits_14 : decode cX7_fits 14 = .ok (.ireturn, 1) := by decide +kernel
theorem dX7_fits_15 : decode cX7_fits 15 = .ok (.iload_n 3, 1) := by decide +kernel
theorem dX7_fits_16 : decode cX7_fits 16 = .ok (.bipush 10, 2) := by decide +kernel
theorem dX7_fits_18 : decode cX7_fits 18 = .ok (.bipush 60, 2) := by decide +kernel
theorem dX7_fits_20 : decode cX7_fits 20 = .ok (.invokestatic 60, 3) := by decide +kernel
theorem dX7_fits_23 : decode cX7_fits 23 = .ok (.ifCond .ne 9, 3) := by decide +kernel
theorem dX7_fits_26 : decode cX7_fits 26 = .ok (.aload_n 0, 1) := by decide +kernel
theorem dX7_fits_27 : decode cX7_fits 27 = .ok (.iconst 2, 1) := by decide +kernel
theorem dX7_fits_28 : decode cX7_fits 28 = .ok (.invokevirtual 91, 3) := by decide +kernel
theorem dX7_fits_31 : decode cX7_fits 31 = .ok (.ireturn, 1) := by decide +kernel
theorem dX7_fits_32 : decode cX7_fits 32 = .ok (.aload_n 0, 1) := by decide +kernel
theorem dX7_fits_33 : decode cX7_fits 33 = .ok (.iload_n 1, 1) := by decide +kernel
theorem dX7_fits_34 : decode cX7_fits 34 = .ok (.iload_n 2, 1) := by decide +kernel
theorem dX7_fits_35 : decode cX7_fits 35 = .ok (.invokevirtual 82, 3) := by decide +kernel
theorem dX7_fits_38 : decode cX7_fits 38 = .ok (.istore 4, 2) := by decide +kernel
theorem dX7_fits_40 : decode cX7_fits 40 = .ok (.aload_n 0, 1) := by decide +kernel
theorem dX7_fits_41 : decode cX7_fits 41 = .ok (.getfield 16, 3) := by decide +kernel
theorem dX7_fits_44 : decode cX7_fits 44 = .ok (.iload_n 1, 1) := by decide +kernel
theorem dX7_fits_45 : decode cX7_fits 45 = .ok (.invokestatic 64, 3) := by decide +kernel
theorem dX7_fits_48 : decode cX7_fits 48 = .ok (.iconst 1, 1) := by decide +kernel
theorem dX7_fits_49 : decode cX7_fits 49 = .ok (.iadd, 1) := by decide +kernel
theorem dX7_fits_50 : decode cX7_fits 50 = .ok (.iload_n 2, 1) := by decide +kernel
theorem dX7_fits_51 : decode cX7_fits 51 = .ok (.iadd, 1) := by decide +kernel
theorem dX7_fits_52 : decode cX7_fits 52 = .ok (.iload_n 3, 1) := by decide +kernel
theorem dX7_fits_53 : decode cX7_fits 53 = .ok (.iastore, 1) := by decide +kernel
theorem dX7_fits_54 : decode cX7_fits 54 = .ok (.iload 4, 2) := by decide +kernel
theorem dX7_fits_56 : decode cX7_fits 56 = .ok (.ireturn, 1) := by decide +kernel
theorem dX7_fit_0 : decode cX7_fit 0 = .ok (.aload_n 0, 1) := by decide +kernel
theorem dX7_fit_1 : decode cX7_fit 1 = .ok (.invokevirtual 94, 3) := by decide +kernel
theorem dX7_fit_4 : decode cX7_fit 4 = .ok (.aload_n 0, 1) := by decide +kernel
theorem dX7_fit_5 : decode cX7_fit 5 = .ok (.aload_n 0, 1) := by decide +kernel
theorem dX7_fit_6 : decode cX7_fit 6 = .ok (.iload_n 1, 1) := by decide +kernel
theorem dX7_fit_7 : decode cX7_fit 7 = .ok (.iload_n 2, 1) := by decide +kernel
theorem dX7_fit_8 : decode cX7_fit 8 = .ok (.iload_n 3, 1) := by decide +kernel
theorem dX7_fit_9 : decode cX7_fit 9 = .ok (.invokevirtual 110, 3) := by decide +kernel
theorem dX7_fit_12 : decode cX7_fit 12 = .ok (.invokevirtual 100, 3) := by decide +kernel
theorem dX7_fit_15 : decode cX7_fit 15 = .ok (.ireturn, 1) := by decide +kernel
theorem dX7_orders_0 : decode cX7_orders 0 = .ok (.aload_n 0, 1) := by decide +kernel
theorem dX7_orders_1 : decode cX7_orders 1 = .ok (.iload_n 1, 1) := by decide +kernel
theorem dX7_orders_2 : decode cX7_orders 2 = .ok (.invokevirtual 68, 3) := by decide +kernel
theorem dX7_orders_5 : decode cX7_orders 5 = .ok (.ifCond .eq 10, 3) := by decide +kernel
theorem dX7_orders_8 : decode cX7_orders 8 = .ok (.iload_n 2, 1) := by decide +kernel
theorem dX7_orders_9 : decode cX7_orders 9 = .ok (.invokestatic 88, 3) := by decide +kernel
theorem dX7_orders_12 : decode cX7_orders 12 = .ok (.ifCond .ne 9, 3) := by decide +kernel
theorem dX7_orders_15 : decode cX7_orders 15 = .ok (.aload_n 0, 1) := by decide +kernel
theorem dX7_orders_16 : decode cX7_orders 16 = .ok (.iconst 1, 1) := by decide +kernel
theorem dX7_orders_17 : decode cX7_orders 17 = .ok (.invokevirtual 91, 3) := by decide +kernel
theorem dX7_orders_20 : decode cX7_orders 20 = .ok (.ireturn, 1) := by decide +kernel
theorem dX7_orders_21 : decode cX7_orders 21 = .ok (.aload_n 0, 1) := by decide +kernel
theorem dX7_orders_22 : decode cX7_orders 22 = .ok (.getfield 16, 3) := by decide +kernel
theorem dX7_orders_25 : decode cX7_orders 25 = .ok (.iconst 1, 1) := by decide +kernel
theorem dX7_orders_26 : decode cX7_orders 26 = .ok (.iaload, 1) := by decide +kernel
theorem dX7_orders_27 : decode cX7_orders 27 = .ok (.istore_n 3, 1) := by decide +kernel
theorem dX7_orders_28 : decode cX7_orders 28 = .ok (.iload_n 3, 1) := by decide +kernel
theorem dX7_orders_29 : decode cX7_orders 29 = .ok (.bipush 6, 2) := by decide +kernel
theorem dX7_orders_31 : decode cX7_orders 31 = .ok (.if_icmp .ne 9, 3) := by decide +kernel
theorem dX7_orders_34 : decode cX7_orders 34 = .ok (.aload_n 0, 1) := by decide +kernel
theorem dX7_orders_35 : decode cX7_orders 35 = .ok (.iconst 2, 1) := by decide +kernel
theorem dX7_orders_36 : decode cX7_orders 36 = .ok (.invokevirtual 91, 3) := by decide +kernel
theorem dX7_orders_39 : decode cX7_orders 39 = .ok (.ireturn, 1) := by decide +kernel
theorem dX7_orders_40 : decode cX7_orders 40 = .ok (.iconst 0, 1) := by decide +kernel
theorem dX7_orders_41 : decode cX7_orders 41 = .ok (.istore 4, 2) := by decide +kernel
theorem dX7_orders_43 : decode cX7_orders 43 = .ok (.iload 4, 2) := by decide +kernel
theorem dX7_orders_45 : decode cX7_orders 45 = .ok (.bipush 60, 2) := by decide +kernel
theorem dX7_orders_47 : decode cX7_orders 47 = .ok (.if_icmp .ge 21, 3) := by decide +kernel
theorem dX7_orders_50 : decode cX7_orders 50 = .ok (.aload_n 0, 1) := by decide +kernel
theorem dX7_orders_51 : decode cX7_orders 51 = .ok (.getfield 16, 3) := by decide +kernel
theorem dX7_orders_54 : decode cX7_orders 54 = .ok (.iload_n 3, 1) := by decide +kernel
theorem dX7_orders_55 : decode cX7_orders 55 = .ok (.iload 4, 2) := by decide +kernel
theorem dX7_orders_57 : decode cX7_orders 57 = .ok (.invokestatic 75, 3) := by decide +kernel
theorem dX7_orders_60 : decode cX7_orders 60 = .ok (.iconst 0, 1) := by decide +kernel
theorem dX7_orders_61 : decode cX7_orders 61 = .ok (.iastore, 1) := by decide +kernel
theorem dX7_orders_62 : decode cX7_orders 62 = .ok (.iinc 4 1, 3) := by decide +kernel
theorem dX7_orders_65 : decode cX7_orders 65 = .ok (.goto (-22), 3) := by decide +kernel
theorem dX7_orders_68 : decode cX7_orders 68 = .ok (.aload_n 0, 1) := by decide +kernel
theorem dX7_orders_69 : decode cX7_orders 69 = .ok (.getfield 16, 3) := by decide +kernel
theorem dX7_orders_72 : decode cX7_orders 72 = .ok (.iload_n 3, 1) := by decide +kernel
theorem dX7_orders_73 : decode cX7_orders 73 = .ok (.iconst 0, 1) := by decide +kernel
theorem dX7_orders_74 : decode cX7_orders 74 = .ok (.invokestatic 75, 3) := by decide +kernel
theorem dX7_orders_77 : decode cX7_orders 77 = .ok (.aload_n 0, 1) := by decide +kernel
theorem dX7_orders_78 : decode cX7_orders 78 = .ok (.getfield 16, 3) := by decide +kernel
theorem dX7_orders_81 : decode cX7_orders 81 = .ok (.iconst 2, 1) := by decide +kernel
theorem dX7_orders_82 : decode cX7_orders 82 = .ok (.iaload, 1) := by decide +kernel
theorem dX7_orders_83 : decode cX7_orders 83 = .ok (.iastore, 1) := by decide +kernel
theorem dX7_orders_84 : decode cX7_orders 84 = .ok (.aload_n 0, 1) := by decide +kernel
theorem dX7_orders_85 : decode cX7_orders 85 = .ok (.getfield 16, 3) := by decide +kernel
theorem dX7_orders_88 : decode cX7_orders 88 = .ok (.iload_n 3, 1) := by decide +kernel
theorem dX7_orders_89 : decode cX7_orders 89 = .ok (.iconst 1, 1) := by decide +kernel
theorem dX7_orders_90 : decode cX7_orders 90 = .ok (.invokestatic 75, 3) := by decide +kernel
theorem dX7_orders_93 : decode cX7_orders 93 = .ok (.iload_n 1, 1) := by decide +kernel
theorem dX7_orders_94 : decode cX7_orders 94 = .ok (.iastore, 1) := by decide +kernel
theorem dX7_orders_95 : decode cX7_orders 95 = .ok (.aload_n 0, 1) := by decide +kernel
theorem dX7_orders_96 : decode cX7_orders 96 = .ok (.getfield 16, 3) := by decide +kernel
theorem dX7_orders_99 : decode cX7_orders 99 = .ok (.iload_n 3, 1) := by decide +kernel
theorem dX7_orders_100 : decode cX7_orders 100 = .ok (.iconst 2, 1) := by decide +kernel
theorem dX7_orders_101 : decode cX7_orders 101 = .ok (.invokestatic 75, 3) := by decide +kernel
theorem dX7_orders_104 : decode cX7_orders 104 = .ok (.iload_n 2, 1) := by decide +kernel
theorem dX7_orders_105 : decode cX7_orders 105 = .ok (.iastore, 1) := by decide +kernel
theorem dX7_orders_106 : decode cX7_orders 106 = .ok (.aload_n 0, 1) := by decide +kernel
theorem dX7_orders_107 : decode cX7_orders 107 = .ok (.getfield 16, 3) := by decide +kernel
theorem dX7_orders_110 : decode cX7_orders 110 = .ok (.iconst 1, 1) := by decide +kernel
theorem dX7_orders_111 : decode cX7_orders 111 = .ok (.dup2, 1) := by decide +kernel
theorem dX7_orders_112 : decode cX7_orders 112 = .ok (.iaload, 1) := by decide +kernel
theorem dX7_orders_113 : decode cX7_orders 113 = .ok (.iconst 1, 1) := by decide +kernel
theorem dX7_orders_114 : decode cX7_orders 114 = .ok (.iadd, 1) := by decide +kernel
theorem dX7_orders_115 : decode cX7_orders 115 = .ok (.iastore, 1) := by decide +kernel
theorem dX7_orders_116 : decode cX7_orders 116 = .ok (.aload_n 0, 1) := by decide +kernel
theorem dX7_orders_117 : decode cX7_orders 117 = .ok (.getfield 16, 3) := by decide +kernel
theorem dX7_orders_120 : decode cX7_orders 120 = .ok (.iconst 2, 1) := by decide +kernel
theorem dX7_orders_121 : decode cX7_orders 121 = .ok (.dup2, 1) := by decide +kernel
theorem dX7_orders_122 : decode cX7_orders 122 = .ok (.iaload, 1) := by decide +kernel
theorem dX7_orders_123 : decode cX7_orders 123 = .ok (.iconst 1, 1) := by decide +kernel
theorem dX7_orders_124 : decode cX7_orders 124 = .ok (.iadd, 1) := by decide +kernel
theorem dX7_orders_125 : decode cX7_orders 125 = .ok (.iastore, 1) := by decide +kernel
theorem dX7_orders_126 : decode cX7_orders 126 = .ok (.aload_n 0, 1) := by decide +kernel
theorem dX7_orders_127 : decode cX7_orders 127 = .ok (.getfield 16, 3) := by decide +kernel
theorem dX7_orders_130 : decode cX7_orders 130 = .ok (.iload_n 3, 1) := by decide +kernel
theorem dX7_orders_131 : decode cX7_orders 131 = .ok (.iconst 0, 1) := by decide +kernel
theorem dX7_orders_132 : decode cX7_orders 132 = .ok (.invokestatic 75, 3) := by decide +kernel
theorem dX7_orders_135 : decode cX7_orders 135 = .ok (.iaload, 1) := by decide +kernel
theorem dX7_orders_136 : decode cX7_orders 136 = .ok (.ireturn, 1) := by decide +kernel
theorem dX7_orderSuit_0 : decode cX7_orderSuit 0 = .ok (.aload_n 0, 1) := by decide +kernel
theorem dX7_orderSuit_1 : decode cX7_orderSuit 1 = .ok (.invokevirtual 94, 3) := by decide +kernel
theorem dX7_orderSuit_4 : decode cX7_orderSuit 4 = .ok (.aload_n 0, 1) := by decide +kernel
theorem dX7_orderSuit_5 : decode cX7_orderSuit 5 = .ok (.aload_n 0, 1) := by decide +kernel
theorem dX7_orderSuit_6 : decode cX7_orderSuit 6 = .ok (.iload_n 1, 1) := by decide +kernel
theorem dX7_orderSuit_7 : decode cX7_orderSuit 7 = .ok (.iload_n 2, 1) := by decide +kernel
theorem dX7_orderSuit_8 : decode cX7_orderSuit 8 = .ok (.invokevirtual 114, 3) := by decide +kernel
theorem dX7_orderSuit_11 : decode cX7_orderSuit 11 = .ok (.invokevirtual 100, 3) := by decide +kernel
theorem dX7_orderSuit_14 : decode cX7_orderSuit 14 = .ok (.ireturn, 1) := by decide +kernel
theorem dX7_cuts_0 : decode cX7_cuts 0 = .ok (.iload_n 1, 1) := by decide +kernel
theorem dX7_cuts_1 : decode cX7_cuts 1 = .ok (.ifCond .ge 9, 3) := by decide +kernel
theorem dX7_cuts_4 : decode cX7_cuts 4 = .ok (.aload_n 0, 1) := by decide +kernel
theorem dX7_cuts_5 : decode cX7_cuts 5 = .ok (.iconst 1, 1) := by decide +kernel
theorem dX7_cuts_6 : decode cX7_cuts 6 = .ok (.invokevirtual 91, 3) := by decide +kernel
theorem dX7_cuts_9 : decode cX7_cuts 9 = .ok (.ireturn, 1) := by decide +kernel
theorem dX7_cuts_10 : decode cX7_cuts 10 = .ok (.aload_n 0, 1) := by decide +kernel
theorem dX7_cuts_11 : decode cX7_cuts 11 = .ok (.iload_n 1, 1) := by decide +kernel
theorem dX7_cuts_12 : decode cX7_cuts 12 = .ok (.iload_n 2, 1) := by decide +kernel
theorem dX7_cuts_13 : decode cX7_cuts 13 = .ok (.invokevirtual 117, 3) := by decide +kernel
theorem dX7_cuts_16 : decode cX7_cuts 16 = .ok (.ifCond .ne 9, 3) := by decide +kernel
theorem dX7_cuts_19 : decode cX7_cuts 19 = .ok (.aload_n 0, 1) := by decide +kernel
theorem dX7_cuts_20 : decode cX7_cuts 20 = .ok (.iconst 2, 1) := by decide +kernel
theorem dX7_cuts_21 : decode cX7_cuts 21 = .ok (.invokevirtual 91, 3) := by decide +kernel
theorem dX7_cuts_24 : decode cX7_cuts 24 = .ok (.ireturn, 1) := by decide +kernel
theorem dX7_cuts_25 : decode cX7_cuts 25 = .ok (.aload_n 0, 1) := by decide +kernel
theorem dX7_cuts_26 : decode cX7_cuts 26 = .ok (.iload_n 1, 1) := by decide +kernel
theorem dX7_cuts_27 : decode cX7_cuts 27 = .ok (.iload_n 2, 1) := by decide +kernel
theorem dX7_cuts_28 : decode cX7_cuts 28 = .ok (.invokevirtual 85, 3) := by decide +kernel
theorem dX7_cuts_31 : decode cX7_cuts 31 = .ok (.ifCond .eq 9, 3) := by decide +kernel
theorem dX7_cuts_34 : decode cX7_cuts 34 = .ok (.aload_n 0, 1) := by decide +kernel
theorem dX7_cuts_35 : decode cX7_cuts 35 = .ok (.iconst 3, 1) := by decide +kernel
theorem dX7_cuts_36 : decode cX7_cuts 36 = .ok (.invokevirtual 91, 3) := by decide +kernel
theorem dX7_cuts_39 : decode cX7_cuts 39 = .ok (.ireturn, 1) := by decide +kernel
theorem dX7_cuts_40 : decode cX7_cuts 40 = .ok (.aload_n 0, 1) := by decide +kernel
theorem dX7_cuts_41 : decode cX7_cuts 41 = .ok (.iload_n 1, 1) := by decide +kernel
theorem dX7_cuts_42 : decode cX7_cuts 42 = .ok (.iload_n 2, 1) := by decide +kernel
theorem dX7_cuts_43 : decode cX7_cuts 43 = .ok (.invokevirtual 120, 3) := by decide +kernel
theorem dX7_cuts_46 : decode cX7_cuts 46 = .ok (.iconst 2, 1) := by decide +kernel
theorem dX7_cuts_47 : decode cX7_cuts 47 = .ok (.iadd, 1) := by decide +kernel
theorem dX7_cuts_48 : decode cX7_cuts 48 = .ok (.istore_n 3, 1) := by decide +kernel
theorem dX7_cuts_49 : decode cX7_cuts 49 = .ok (.aload_n 0, 1) := by decide +kernel
theorem dX7_cuts_50 : decode cX7_cuts 50 = .ok (.getfield 16, 3) := by decide +kernel
theorem dX7_cuts_53 : decode cX7_cuts 53 = .ok (.iload_n 1, 1) := by decide +kernel
theorem dX7_cuts_54 : decode cX7_cuts 54 = .ok (.iconst 2, 1) := by decide +kernel
theorem dX7_cuts_55 : decode cX7_cuts 55 = .ok (.invokestatic 75, 3) := by decide +kernel
theorem dX7_cuts_58 : decode cX7_cuts 58 = .ok (.iaload, 1) := by decide +kernel
theorem dX7_cuts_59 : decode cX7_cuts 59 = .ok (.istore 4, 2) := by decide +kernel
theorem dX7_cuts_61 : decode cX7_cuts 61 = .ok (.aload_n 0, 1) := by decide +kernel
theorem dX7_cuts_62 : decode cX7_cuts 62 = .ok (.getfield 16, 3) := by decide +kernel
theorem dX7_cuts_65 : decode cX7_cuts 65 = .ok (.bipush 8, 2) := by decide +kernel
theorem dX7_cuts_67 : decode cX7_cuts 67 = .ok (.iload 4, 2) := by decide +kernel
theorem dX7_cuts_69 : decode cX7_cuts 69 = .ok (.iadd, 1) := by decide +kernel
theorem dX7_cuts_70 : decode cX7_cuts 70 = .ok (.iaload, 1) := by decide +kernel
theorem dX7_cuts_71 : decode cX7_cuts 71 = .ok (.iload_n 3, 1) := by decide +kernel
theorem dX7_cuts_72 : decode cX7_cuts 72 = .ok (.if_icmp .ge 9, 3) := by decide +kernel
theorem dX7_cuts_75 : decode cX7_cuts 75 = .ok (.aload_n 0, 1) := by decide +kernel
theorem dX7_cuts_76 : decode cX7_cuts 76 = .ok (.iconst 4, 1) := by decide +kernel
theorem dX7_cuts_77 : decode cX7_cuts 77 = .ok (.invokevirtual 91, 3) := by decide +kernel
theorem dX7_cuts_80 : decode cX7_cuts 80 = .ok (.ireturn, 1) := by decide +kernel
theorem dX7_cuts_81 : decode cX7_cuts 81 = .ok (.aload_n 0, 1) := by decide +kernel
theorem dX7_cuts_82 : decode cX7_cuts 82 = .ok (.getfield 16, 3) := by decide +kernel
theorem dX7_cuts_85 : decode cX7_cuts 85 = .ok (.bipush 8, 2) := by decide +kernel
theorem dX7_cuts_87 : decode cX7_cuts 87 = .ok (.iload 4, 2) := by decide +kernel
theorem dX7_cuts_89 : decode cX7_cuts 89 = .ok (.iadd, 1) := by decide +kernel
theorem dX7_cuts_90 : decode cX7_cuts 90 = .ok (.dup2, 1) := by decide +kernel
theorem dX7_cuts_91 : decode cX7_cuts 91 = .ok (.iaload, 1) := by decide +kernel
theorem dX7_cuts_92 : decode cX7_cuts 92 = .ok (.iload_n 3, 1) := by decide +kernel
theorem dX7_cuts_93 : decode cX7_cuts 93 = .ok (.isub, 1) := by decide +kernel
theorem dX7_cuts_94 : decode cX7_cuts 94 = .ok (.iastore, 1) := by decide +kernel
theorem dX7_cuts_95 : decode cX7_cuts 95 = .ok (.aload_n 0, 1) := by decide +kernel
theorem dX7_cuts_96 : decode cX7_cuts 96 = .ok (.getfield 16, 3) := by decide +kernel
theorem dX7_cuts_99 : decode cX7_cuts 99 = .ok (.iload_n 1, 1) := by decide +kernel
theorem dX7_cuts_100 : decode cX7_cuts 100 = .ok (.iconst 4, 1) := by decide +kernel
theorem dX7_cuts_101 : decode cX7_cuts 101 = .ok (.iload_n 2, 1) := by decide +kernel
theorem dX7_cuts_102 : decode cX7_cuts 102 = .ok (.iadd, 1) := by decide +kernel
theorem dX7_cuts_103 : decode cX7_cuts 103 = .ok (.invokestatic 75, 3) := by decide +kernel
theorem dX7_cuts_106 : decode cX7_cuts 106 = .ok (.iconst 1, 1) := by decide +kernel
theorem dX7_cuts_107 : decode cX7_cuts 107 = .ok (.iastore, 1) := by decide +kernel
theorem dX7_cuts_108 : decode cX7_cuts 108 = .ok (.aload_n 0, 1) := by decide +kernel
theorem dX7_cuts_109 : decode cX7_cuts 109 = .ok (.getfield 16, 3) := by decide +kernel
theorem dX7_cuts_112 : decode cX7_cuts 112 = .ok (.iload_n 1, 1) := by decide +kernel
theorem dX7_cuts_113 : decode cX7_cuts 113 = .ok (.bipush 20, 2) := by decide +kernel
theorem dX7_cuts_115 : decode cX7_cuts 115 = .ok (.iload_n 2, 1) := by decide +kernel
theorem dX7_cuts_116 : decode cX7_cuts 116 = .ok (.iadd, 1) := by decide +kernel
theorem dX7_cuts_117 : decode cX7_cuts 117 = .ok (.invokestatic 75, 3) := by decide +kernel
theorem dX7_cuts_120 : decode cX7_cuts 120 = .ok (.iload_n 3, 1) := by decide +kernel
theorem dX7_cuts_121 : decode cX7_cuts 121 = .ok (.iconst 2, 1) := by decide +kernel
theorem dX7_cuts_122 : decode cX7_cuts 122 = .ok (.isub, 1) := by decide +kernel
theorem dX7_cuts_123 : decode cX7_cuts 123 = .ok (.iastore, 1) := by decide +kernel
theorem dX7_cuts_124 : decode cX7_cuts 124 = .ok (.aload_n 0, 1) := by decide +kernel
theorem dX7_cuts_125 : decode cX7_cuts 125 = .ok (.getfield 16, 3) := by decide +kernel
theorem dX7_cuts_128 : decode cX7_cuts 128 = .ok (.bipush 8, 2) := by decide +kernel
theorem dX7_cuts_130 : decode cX7_cuts 130 = .ok (.iload 4, 2) := by decide +kernel
theorem dX7_cuts_132 : decode cX7_cuts 132 = .ok (.iadd, 1) := by decide +kernel
theorem dX7_cuts_133 : decode cX7_cuts 133 = .ok (.iaload, 1) := by decide +kernel
theorem dX7_cuts_134 : decode cX7_cuts 134 = .ok (.ireturn, 1) := by decide +kernel
theorem dX7_cut_0 : decode cX7_cut 0 = .ok (.aload_n 0, 1) := by decide +kernel
theorem dX7_cut_1 : decode cX7_cut 1 = .ok (.invokevirtual 94, 3) := by decide +kernel
theorem dX7_cut_4 : decode cX7_cut 4 = .ok (.aload_n 0, 1) := by decide +kernel
theorem dX7_cut_5 : decode cX7_cut 5 = .ok (.aload_n 0, 1) := by decide +kernel
theorem dX7_cut_6 : decode cX7_cut 6 = .ok (.aload_n 0, 1) := by decide +kernel
theorem dX7_cut_7 : decode cX7_cut 7 = .ok (.iload_n 1, 1) := by decide +kernel
theorem dX7_cut_8 : decode cX7_cut 8 = .ok (.invokevirtual 123, 3) := by decide +kernel
theorem dX7_cut_11 : decode cX7_cut 11 = .ok (.iload_n 2, 1) := by decide +kernel
theorem dX7_cut_12 : decode cX7_cut 12 = .ok (.invokevirtual 126, 3) := by decide +kernel
theorem dX7_cut_15 : decode cX7_cut 15 = .ok (.invokevirtual 100, 3) := by decide +kernel
theorem dX7_cut_18 : decode cX7_cut 18 = .ok (.ireturn, 1) := by decide +kernel
theorem dX7_sews_0 : decode cX7_sews 0 = .ok (.iload_n 1, 1) := by decide +kernel
theorem dX7_sews_1 : decode cX7_sews 1 = .ok (.ifCond .ge 9, 3) := by decide +kernel
theorem dX7_sews_4 : decode cX7_sews 4 = .ok (.aload_n 0, 1) := by decide +kernel
theorem dX7_sews_5 : decode cX7_sews 5 = .ok (.iconst 1, 1) := by decide +kernel
theorem dX7_sews_6 : decode cX7_sews 6 = .ok (.invokevirtual 91, 3) := by decide +kernel
theorem dX7_sews_9 : decode cX7_sews 9 = .ok (.ireturn, 1) := by decide +kernel
theorem dX7_sews_10 : decode cX7_sews 10 = .ok (.aload_n 0, 1) := by decide +kernel
theorem dX7_sews_11 : decode cX7_sews 11 = .ok (.iload_n 1, 1) := by decide +kernel
theorem dX7_sews_12 : decode cX7_sews 12 = .ok (.iload_n 2, 1) := by decide +kernel
theorem dX7_sews_13 : decode cX7_sews 13 = .ok (.invokevirtual 117, 3) := by decide +kernel
theorem dX7_sews_16 : decode cX7_sews 16 = .ok (.ifCond .ne 9, 3) := by decide +kernel
theorem dX7_sews_19 : decode cX7_sews 19 = .ok (.aload_n 0, 1) := by decide +kernel
theorem dX7_sews_20 : decode cX7_sews 20 = .ok (.iconst 2, 1) := by decide +kernel
theorem dX7_sews_21 : decode cX7_sews 21 = .ok (.invokevirtual 91, 3) := by decide +kernel
theorem dX7_sews_24 : decode cX7_sews 24 = .ok (.ireturn, 1) := by decide +kernel
theorem dX7_sews_25 : decode cX7_sews 25 = .ok (.aload_n 0, 1) := by decide +kernel
theorem dX7_sews_26 : decode cX7_sews 26 = .ok (.iload_n 1, 1) := by decide +kernel
theorem dX7_sews_27 : decode cX7_sews 27 = .ok (.iload_n 2, 1) := by decide +kernel
theorem dX7_sews_28 : decode cX7_sews 28 = .ok (.invokevirtual 85, 3) := by decide +kernel
theorem dX7_sews_31 : decode cX7_sews 31 = .ok (.iconst 1, 1) := by decide +kernel
theorem dX7_sews_32 : decode cX7_sews 32 = .ok (.if_icmp .eq 9, 3) := by decide +kernel
theorem dX7_sews_35 : decode cX7_sews 35 = .ok (.aload_n 0, 1) := by decide +kernel
theorem dX7_sews_36 : decode cX7_sews 36 = .ok (.iconst 3, 1) := by decide +kernel
theorem dX7_sews_37 : decode cX7_sews 37 = .ok (.invokevirtual 91, 3) := by decide +kernel
theorem dX7_sews_40 : decode cX7_sews 40 = .ok (.ireturn, 1) := by decide +kernel
theorem dX7_sews_41 : decode cX7_sews 41 = .ok (.iconst 0, 1) := by decide +kernel
theorem dX7_sews_42 : decode cX7_sews 42 = .ok (.istore_n 3, 1) := by decide +kernel
theorem dX7_sews_43 : decode cX7_sews 43 = .ok (.iload_n 3, 1) := by decide +kernel
theorem dX7_sews_44 : decode cX7_sews 44 = .ok (.aload_n 0, 1) := by decide +kernel
theorem dX7_sews_45 : decode cX7_sews 45 = .ok (.getfield 16, 3) := by decide +kernel
theorem dX7_sews_48 : decode cX7_sews 48 = .ok (.iload_n 1, 1) := by decide +kernel
theorem dX7_sews_49 : decode cX7_sews 49 = .ok (.iconst 3, 1) := by decide +kernel
theorem dX7_sews_50 : decode cX7_sews 50 = .ok (.invokestatic 75, 3) := by decide +kernel
theorem dX7_sews_53 : decode cX7_sews 53 = .ok (.iaload, 1) := by decide +kernel
theorem dX7_sews_54 : decode cX7_sews 54 = .ok (.if_icmp .ge 40, 3) := by decide +kernel
theorem dX7_sews_57 : decode cX7_sews 57 = .ok (.aload_n 0, 1) := by decide +kernel
theorem dX7_sews_58 : decode cX7_sews 58 = .ok (.iload_n 1, 1) := by decide +kernel
theorem dX7_sews_59 : decode cX7_sews 59 = .ok (.iload_n 3, 1) := by decide +kernel
theorem dX7_sews_60 : decode cX7_sews 60 = .ok (.invokevirtual 129, 3) := by decide +kernel
theorem dX7_sews_63 : decode cX7_sews 63 = .ok (.iload_n 2, 1) := by decide +kernel
theorem dX7_sews_64 : decode cX7_sews 64 = .ok (.if_icmp .ne 24, 3) := by decide +kernel
theorem dX7_sews_67 : decode cX7_sews 67 = .ok (.aload_n 0, 1) := by decide +kernel
theorem dX7_sews_68 : decode cX7_sews 68 = .ok (.iload_n 1, 1) := by decide +kernel
theorem dX7_sews_69 : decode cX7_sews 69 = .ok (.aload_n 0, 1) := by decide +kernel
theorem dX7_sews_70 : decode cX7_sews 70 = .ok (.iload_n 1, 1) := by decide +kernel
theorem dX7_sews_71 : decode cX7_sews 71 = .ok (.iload_n 3, 1) := by decide +kernel
theorem dX7_sews_72 : decode cX7_sews 72 = .ok (.invokevirtual 132, 3) := by decide +kernel
theorem dX7_sews_75 : decode cX7_sews 75 = .ok (.invokevirtual 85, 3) := by decide +kernel
theorem dX7_sews_78 : decode cX7_sews 78 = .ok (.iconst 2, 1) := by decide +kernel
theorem dX7_sews_79 : decode cX7_sews 79 = .ok (.if_icmp .eq 9, 3) := by decide +kernel
theorem dX7_sews_82 : decode cX7_sews 82 = .ok (.aload_n 0, 1) := by decide +kernel
theorem dX7_sews_83 : decode cX7_sews 83 = .ok (.iconst 4, 1) := by decide +kernel
theorem dX7_sews_84 : decode cX7_sews 84 = .ok (.invokevirtual 91, 3) := by decide +kernel
theorem dX7_sews_87 : decode cX7_sews 87 = .ok (.ireturn, 1) := by decide +kernel
theorem dX7_sews_88 : decode cX7_sews 88 = .ok (.iinc 3 1, 3) := by decide +kernel
theorem dX7_sews_91 : decode cX7_sews 91 = .ok (.goto (-48), 3) := by decide +kernel
theorem dX7_sews_94 : decode cX7_sews 94 = .ok (.aload_n 0, 1) := by decide +kernel
theorem dX7_sews_95 : decode cX7_sews 95 = .ok (.getfield 16, 3) := by decide +kernel
theorem dX7_sews_98 : decode cX7_sews 98 = .ok (.iload_n 1, 1) := by decide +kernel
theorem dX7_sews_99 : decode cX7_sews 99 = .ok (.iconst 4, 1) := by decide +kernel
theorem dX7_sews_100 : decode cX7_sews 100 = .ok (.iload_n 2, 1) := by decide +kernel
theorem dX7_sews_101 : decode cX7_sews 101 = .ok (.iadd, 1) := by decide +kernel
theorem dX7_sews_102 : decode cX7_sews 102 = .ok (.invokestatic 75, 3) := by decide +kernel
theorem dX7_sews_105 : decode cX7_sews 105 = .ok (.iconst 2, 1) := by decide +kernel
theorem dX7_sews_106 : decode cX7_sews 106 = .ok (.iastore, 1) := by decide +kernel
theorem dX7_sews_107 : decode cX7_sews 107 = .ok (.aload_n 0, 1) := by decide +kernel
theorem dX7_sews_108 : decode cX7_sews 108 = .ok (.iload_n 1, 1) := by decide +kernel
theorem dX7_sews_109 : decode cX7_sews 109 = .ok (.iconst 2, 1) := by decide +kernel
theorem dX7_sews_110 : decode cX7_sews 110 = .ok (.invokevirtual 135, 3) := by decide +kernel
theorem dX7_sews_113 : decode cX7_sews 113 = .ok (.ireturn, 1) := by decide +kernel
theorem dX7_sew_0 : decode cX7_sew 0 = .ok (.aload_n 0, 1) := by decide +kernel
theorem dX7_sew_1 : decode cX7_sew 1 = .ok (.invokevirtual 94, 3) := by decide +kernel
theorem dX7_sew_4 : decode cX7_sew 4 = .ok (.aload_n 0, 1) := by decide +kernel
theorem dX7_sew_5 : decode cX7_sew 5 = .ok (.aload_n 0, 1) := by decide +kernel
theorem dX7_sew_6 : decode cX7_sew 6 = .ok (.aload_n 0, 1) := by decide +kernel
theorem dX7_sew_7 : decode cX7_sew 7 = .ok (.iload_n 1, 1) := by decide +kernel
theorem dX7_sew_8 : decode cX7_sew 8 = .ok (.invokevirtual 123, 3) := by decide +kernel
theorem dX7_sew_11 : decode cX7_sew 11 = .ok (.iload_n 2, 1) := by decide +kernel
theorem dX7_sew_12 : decode cX7_sew 12 = .ok (.invokevirtual 138, 3) := by decide +kernel
theorem dX7_sew_15 : decode cX7_sew 15 = .ok (.invokevirtual 100, 3) := by decide +kernel
theorem dX7_sew_18 : decode cX7_sew 18 = .ok (.ireturn, 1) := by decide +kernel
theorem dX7_unpicks_0 : decode cX7_unpicks 0 = .ok (.iload_n 1, 1) := by decide +kernel
theorem dX7_unpicks_1 : decode cX7_unpicks 1 = .ok (.ifCond .ge 9, 3) := by decide +kernel
theorem dX7_unpicks_4 : decode cX7_unpicks 4 = .ok (.aload_n 0, 1) := by decide +kernel
theorem dX7_unpicks_5 : decode cX7_unpicks 5 = .ok (.iconst 1, 1) := by decide +kernel
theorem dX7_unpicks_6 : decode cX7_unpicks 6 = .ok (.invokevirtual 91, 3) := by decide +kernel
theorem dX7_unpicks_9 : decode cX7_unpicks 9 = .ok (.ireturn, 1) := by decide +kernel
theorem dX7_unpicks_10 : decode cX7_unpicks 10 = .ok (.aload_n 0, 1) := by decide +kernel
theorem dX7_unpicks_11 : decode cX7_unpicks 11 = .ok (.iload_n 1, 1) := by decide +kernel
theorem dX7_unpicks_12 : decode cX7_unpicks 12 = .ok (.iload_n 2, 1) := by decide +kernel
theorem dX7_unpicks_13 : decode cX7_unpicks 13 = .ok (.invokevirtual 117, 3) := by decide +kernel
theorem dX7_unpicks_16 : decode cX7_unpicks 16 = .ok (.ifCond .ne 9, 3) := by decide +kernel
theorem dX7_unpicks_19 : decode cX7_unpicks 19 = .ok (.aload_n 0, 1) := by decide +kernel
theorem dX7_unpicks_20 : decode cX7_unpicks 20 = .ok (.iconst 2, 1) := by decide +kernel
theorem dX7_unpicks_21 : decode cX7_unpicks 21 = .ok (.invokevirtual 91, 3) := by decide +kernel
theorem dX7_unpicks_24 : decode cX7_unpicks 24 = .ok (.ireturn, 1) := by decide +kernel
theorem dX7_unpicks_25 : decode cX7_unpicks 25 = .ok (.aload_n 0, 1) := by decide +kernel
theorem dX7_unpicks_26 : decode cX7_unpicks 26 = .ok (.iload_n 1, 1) := by decide +kernel
theorem dX7_unpicks_27 : decode cX7_unpicks 27 = .ok (.iload_n 2, 1) := by decide +kernel
theorem dX7_unpicks_28 : decode cX7_unpicks 28 = .ok (.invokevirtual 85, 3) := by decide +kernel
theorem dX7_unpicks_31 : decode cX7_unpicks 31 = .ok (.ifCond .ne 9, 3) := by decide +kernel
theorem dX7_unpicks_34 : decode cX7_unpicks 34 = .ok (.aload_n 0, 1) := by decide +kernel
theorem dX7_unpicks_35 : decode cX7_unpicks 35 = .ok (.iconst 3, 1) := by decide +kernel
theorem dX7_unpicks_36 : decode cX7_unpicks 36 = .ok (.invokevirtual 91, 3) := by decide +kernel
theorem dX7_unpicks_39 : decode cX7_unpicks 39 = .ok (.ireturn, 1) := by decide +kernel
theorem dX7_unpicks_40 : decode cX7_unpicks 40 = .ok (.iconst 0, 1) := by decide +kernel
theorem dX7_unpicks_41 : decode cX7_unpicks 41 = .ok (.istore_n 3, 1) := by decide +kernel
theorem dX7_unpicks_42 : decode cX7_unpicks 42 = .ok (.iload_n 3, 1) := by decide +kernel
theorem dX7_unpicks_43 : decode cX7_unpicks 43 = .ok (.aload_n 0, 1) := by decide +kernel
theorem dX7_unpicks_44 : decode cX7_unpicks 44 = .ok (.getfield 16, 3) := by decide +kernel
theorem dX7_unpicks_47 : decode cX7_unpicks 47 = .ok (.iload_n 1, 1) := by decide +kernel
theorem dX7_unpicks_48 : decode cX7_unpicks 48 = .ok (.iconst 3, 1) := by decide +kernel
theorem dX7_unpicks_49 : decode cX7_unpicks 49 = .ok (.invokestatic 75, 3) := by decide +kernel
theorem dX7_unpicks_52 : decode cX7_unpicks 52 = .ok (.iaload, 1) := by decide +kernel
theorem dX7_unpicks_53 : decode cX7_unpicks 53 = .ok (.if_icmp .ge 40, 3) := by decide +kernel
theorem dX7_unpicks_56 : decode cX7_unpicks 56 = .ok (.aload_n 0, 1) := by decide +kernel
theorem dX7_unpicks_57 : decode cX7_unpicks 57 = .ok (.iload_n 1, 1) := by decide +kernel
theorem dX7_unpicks_58 : decode cX7_unpicks 58 = .ok (.iload_n 3, 1) := by decide +kernel
theorem dX7_unpicks_59 : decode cX7_unpicks 59 = .ok (.invokevirtual 132, 3) := by decide +kernel
theorem dX7_unpicks_62 : decode cX7_unpicks 62 = .ok (.iload_n 2, 1) := by decide +kernel
theorem dX7_unpicks_63 : decode cX7_unpicks 63 = .ok (.if_icmp .ne 24, 3) := by decide +kernel
theorem dX7_unpicks_66 : decode cX7_unpicks 66 = .ok (.aload_n 0, 1) := by decide +kernel
theorem dX7_unpicks_67 : decode cX7_unpicks 67 = .ok (.iload_n 1, 1) := by decide +kernel
theorem dX7_unpicks_68 : decode cX7_unpicks 68 = .ok (.aload_n 0, 1) := by decide +kernel
theorem dX7_unpicks_69 : decode cX7_unpicks 69 = .ok (.iload_n 1, 1) := by decide +kernel
theorem dX7_unpicks_70 : decode cX7_unpicks 70 = .ok (.iload_n 3, 1) := by decide +kernel
theorem dX7_unpicks_71 : decode cX7_unpicks 71 = .ok (.invokevirtual 129, 3) := by decide +kernel
theorem dX7_unpicks_74 : decode cX7_unpicks 74 = .ok (.invokevirtual 85, 3) := by decide +kernel
theorem dX7_unpicks_77 : decode cX7_unpicks 77 = .ok (.iconst 2, 1) := by decide +kernel
theorem dX7_unpicks_78 : decode cX7_unpicks 78 = .ok (.if_icmp .ne 9, 3) := by decide +kernel
theorem dX7_unpicks_81 : decode cX7_unpicks 81 = .ok (.aload_n 0, 1) := by decide +kernel
theorem dX7_unpicks_82 : decode cX7_unpicks 82 = .ok (.iconst 4, 1) := by decide +kernel
theorem dX7_unpicks_83 : decode cX7_unpicks 83 = .ok (.invokevirtual 91, 3) := by decide +kernel
theorem dX7_unpicks_86 : decode cX7_unpicks 86 = .ok (.ireturn, 1) := by decide +kernel
theorem dX7_unpicks_87 : decode cX7_unpicks 87 = .ok (.iinc 3 1, 3) := by decide +kernel
theorem dX7_unpicks_90 : decode cX7_unpicks 90 = .ok (.goto (-48), 3) := by decide +kernel
theorem dX7_unpicks_93 : decode cX7_unpicks 93 = .ok (.aload_n 0, 1) := by decide +kernel
theorem dX7_unpicks_94 : decode cX7_unpicks 94 = .ok (.iload_n 1, 1) := by decide +kernel
theorem dX7_unpicks_95 : decode cX7_unpicks 95 = .ok (.iload_n 2, 1) := by decide +kernel
theorem dX7_unpicks_96 : decode cX7_unpicks 96 = .ok (.invokevirtual 141, 3) := by decide +kernel
theorem dX7_unpicks_99 : decode cX7_unpicks 99 = .ok (.iconst 2, 1) := by decide +kernel
theorem dX7_unpicks_100 : decode cX7_unpicks 100 = .ok (.iadd, 1) := by decide +kernel
theorem dX7_unpicks_101 : decode cX7_unpicks 101 = .ok (.istore_n 3, 1) := by decide +kernel
theorem dX7_unpicks_102 : decode cX7_unpicks 102 = .ok (.aload_n 0, 1) := by decide +kernel
theorem dX7_unpicks_103 : decode cX7_unpicks 103 = .ok (.getfield 16, 3) := by decide +kernel
theorem dX7_unpicks_106 : decode cX7_unpicks 106 = .ok (.iload_n 1, 1) := by decide +kernel
theorem dX7_unpicks_107 : decode cX7_unpicks 107 = .ok (.iconst 4, 1) := by decide +kernel
theorem dX7_unpicks_108 : decode cX7_unpicks 108 = .ok (.iload_n 2, 1) := by decide +kernel
theorem dX7_unpicks_109 : decode cX7_unpicks 109 = .ok (.iadd, 1) := by decide +kernel
theorem dX7_unpicks_110 : decode cX7_unpicks 110 = .ok (.invokestatic 75, 3) := by decide +kernel
theorem dX7_unpicks_113 : decode cX7_unpicks 113 = .ok (.iconst 0, 1) := by decide +kernel
theorem dX7_unpicks_114 : decode cX7_unpicks 114 = .ok (.iastore, 1) := by decide +kernel
theorem dX7_unpicks_115 : decode cX7_unpicks 115 = .ok (.aload_n 0, 1) := by decide +kernel
theorem dX7_unpicks_116 : decode cX7_unpicks 116 = .ok (.getfield 16, 3) := by decide +kernel
theorem dX7_unpicks_119 : decode cX7_unpicks 119 = .ok (.iload_n 1, 1) := by decide +kernel
theorem dX7_unpicks_120 : decode cX7_unpicks 120 = .ok (.bipush 20, 2) := by decide +kernel
theorem dX7_unpicks_122 : decode cX7_unpicks 122 = .ok (.iload_n 2, 1) := by decide +kernel
theorem dX7_unpicks_123 : decode cX7_unpicks 123 = .ok (.iadd, 1) := by decide +kernel
theorem dX7_unpicks_124 : decode cX7_unpicks 124 = .ok (.invokestatic 75, 3) := by decide +kernel
theorem dX7_unpicks_127 : decode cX7_unpicks 127 = .ok (.iconst 0, 1) := by decide +kernel
theorem dX7_unpicks_128 : decode cX7_unpicks 128 = .ok (.iastore, 1) := by decide +kernel
theorem dX7_unpicks_129 : decode cX7_unpicks 129 = .ok (.aload_n 0, 1) := by decide +kernel
theorem dX7_unpicks_130 : decode cX7_unpicks 130 = .ok (.getfield 16, 3) := by decide +kernel
theorem dX7_unpicks_133 : decode cX7_unpicks 133 = .ok (.iconst 4, 1) := by decide +kernel
theorem dX7_unpicks_134 : decode cX7_unpicks 134 = .ok (.dup2, 1) := by decide +kernel
theorem dX7_unpicks_135 : decode cX7_unpicks 135 = .ok (.iaload, 1) := by decide +kernel
theorem dX7_unpicks_136 : decode cX7_unpicks 136 = .ok (.iload_n 3, 1) := by decide +kernel
theorem dX7_unpicks_137 : decode cX7_unpicks 137 = .ok (.iadd, 1) := by decide +kernel
theorem dX7_unpicks_138 : decode cX7_unpicks 138 = .ok (.iastore, 1) := by decide +kernel
theorem dX7_unpicks_139 : decode cX7_unpicks 139 = .ok (.iload_n 3, 1) := by decide +kernel
theorem dX7_unpicks_140 : decode cX7_unpicks 140 = .ok (.ireturn, 1) := by decide +kernel
theorem dX7_unpick_0 : decode cX7_unpick 0 = .ok (.aload_n 0, 1) := by decide +kernel
theorem dX7_unpick_1 : decode cX7_unpick 1 = .ok (.invokevirtual 94, 3) := by decide +kernel
theorem dX7_unpick_4 : decode cX7_unpick 4 = .ok (.aload_n 0, 1) := by decide +kernel
theorem dX7_unpick_5 : decode cX7_unpick 5 = .ok (.aload_n 0, 1) := by decide +kernel
theorem dX7_unpick_6 : decode cX7_unpick 6 = .ok (.aload_n 0, 1) := by decide +kernel
theorem dX7_unpick_7 : decode cX7_unpick 7 = .ok (.iload_n 1, 1) := by decide +kernel
theorem dX7_unpick_8 : decode cX7_unpick 8 = .ok (.invokevirtual 123, 3) := by decide +kernel
theorem dX7_unpick_11 : decode cX7_unpick 11 = .ok (.iload_n 2, 1) := by decide +kernel
theorem dX7_unpick_12 : decode cX7_unpick 12 = .ok (.invokevirtual 144, 3) := by decide +kernel
theorem dX7_unpick_15 : decode cX7_unpick 15 = .ok (.invokevirtual 100, 3) := by decide +kernel
theorem dX7_unpick_18 : decode cX7_unpick 18 = .ok (.ireturn, 1) := by decide +kernel
theorem dX7_behind_0 : decode cX7_behind 0 = .ok (.iconst 0, 1) := by decide +kernel
theorem dX7_behind_1 : decode cX7_behind 1 = .ok (.istore_n 3, 1) := by decide +kernel
theorem dX7_behind_2 : decode cX7_behind 2 = .ok (.iconst (-1), 1) := by decide +kernel
theorem dX7_behind_3 : decode cX7_behind 3 = .ok (.istore 4, 2) := by decide +kernel
theorem dX7_behind_5 : decode cX7_behind 5 = .ok (.iload_n 3, 1) := by decide +kernel
theorem dX7_behind_6 : decode cX7_behind 6 = .ok (.iload 4, 2) := by decide +kernel
theorem dX7_behind_8 : decode cX7_behind 8 = .ok (.if_icmp .eq 87, 3) := by decide +kernel
theorem dX7_behind_11 : decode cX7_behind 11 = .ok (.iload_n 3, 1) := by decide +kernel
theorem dX7_behind_12 : decode cX7_behind 12 = .ok (.istore 4, 2) := by decide +kernel
theorem dX7_behind_14 : decode cX7_behind 14 = .ok (.iconst 0, 1) := by decide +kernel
theorem dX7_behind_15 : decode cX7_behind 15 = .ok (.istore 5, 2) := by decide +kernel
theorem dX7_behind_17 : decode cX7_behind 17 = .ok (.iload 5, 2) := by decide +kernel
theorem dX7_behind_19 : decode cX7_behind 19 = .ok (.aload_n 0, 1) := by decide +kernel
theorem dX7_behind_20 : decode cX7_behind 20 = .ok (.getfield 16, 3) := by decide +kernel
theorem dX7_behind_23 : decode cX7_behind 23 = .ok (.iload_n 1, 1) := by decide +kernel
theorem dX7_behind_24 : decode cX7_behind 24 = .ok (.iconst 3, 1) := by decide +kernel
theorem dX7_behind_25 : decode cX7_behind 25 = .ok (.invokestatic 75, 3) := by decide +kernel
theorem dX7_behind_28 : decode cX7_behind 28 = .ok (.iaload, 1) := by decide +kernel
theorem dX7_behind_29 : decode cX7_behind 29 = .ok (.if_icmp .ge 63, 3) := by decide +kernel
theorem dX7_behind_32 : decode cX7_behind 32 = .ok (.aload_n 0, 1) := by decide +kernel
theorem dX7_behind_33 : decode cX7_behind 33 = .ok (.iload_n 1, 1) := by decide +kernel
theorem dX7_behind_34 : decode cX7_behind 34 = .ok (.iload 5, 2) := by decide +kernel
theorem dX7_behind_36 : decode cX7_behind 36 = .ok (.invokevirtual 132, 3) := by decide +kernel
theorem dX7_behind_39 : decode cX7_behind 39 = .ok (.iload_n 2, 1) := by decide +kernel
theorem dX7_behind_40 : decode cX7_behind 40 = .ok (.if_icmp .eq 18, 3) := by decide +kernel
theorem dX7_behind_43 : decode cX7_behind 43 = .ok (.iload_n 3, 1) := by decide +kernel
theorem dX7_behind_44 : decode cX7_behind 44 = .ok (.aload_n 0, 1) := by decide +kernel
theorem dX7_behind_45 : decode cX7_behind 45 = .ok (.iload_n 1, 1) := by decide +kernel
theorem dX7_behind_46 : decode cX7_behind 46 = .ok (.iload 5, 2) := by decide +kernel
theorem dX7_behind_48 : decode cX7_behind 48 = .ok (.invokevirtual 132, 3) := by decide +kernel
theorem dX7_behind_51 : decode cX7_behind 51 = .ok (.ishr, 1) := by decide +kernel
theorem dX7_behind_52 : decode cX7_behind 52 = .ok (.iconst 1, 1) := by decide +kernel
theorem dX7_behind_53 : decode cX7_behind 53 = .ok (.iand, 1) := by decide +kernel
theorem dX7_behind_54 : decode cX7_behind 54 = .ok (.iconst 1, 1) := by decide +kernel
theorem dX7_behind_55 : decode cX7_behind 55 = .ok (.if_icmp .ne 7, 3) := by decide +kernel
theorem dX7_behind_58 : decode cX7_behind 58 = .ok (.iconst 1, 1) := by decide +kernel
theorem dX7_behind_59 : decode cX7_behind 59 = .ok (.goto 4, 3) := by decide +kernel
theorem dX7_behind_62 : decode cX7_behind 62 = .ok (.iconst 0, 1) := by decide +kernel
theorem dX7_behind_63 : decode cX7_behind 63 = .ok (.istore 6, 2) := by decide +kernel
theorem dX7_behind_65 : decode cX7_behind 65 = .ok (.iload_n 3, 1) := by decide +kernel
theorem dX7_behind_66 : decode cX7_behind 66 = .ok (.iload 6, 2) := by decide +kernel
theorem dX7_behind_68 : decode cX7_behind 68 = .ok (.ifCond .eq 15, 3) := by decide +kernel
theorem dX7_behind_71 : decode cX7_behind 71 = .ok (.iconst 1, 1) := by decide +kernel
theorem dX7_behind_72 : decode cX7_behind 72 = .ok (.aload_n 0, 1) := by decide +kernel
theorem dX7_behind_73 : decode cX7_behind 73 = .ok (.iload_n 1, 1) := by decide +kernel
theorem dX7_behind_74 : decode cX7_behind 74 = .ok (.iload 5, 2) := by decide +kernel
theorem dX7_behind_76 : decode cX7_behind 76 = .ok (.invokevirtual 129, 3) := by decide +kernel
theorem dX7_behind_79 : decode cX7_behind 79 = .ok (.ishl, 1) := by decide +kernel
theorem dX7_behind_80 : decode cX7_behind 80 = .ok (.goto 4, 3) := by decide +kernel
theorem dX7_behind_83 : decode cX7_behind 83 = .ok (.iconst 0, 1) := by decide +kernel
theorem dX7_behind_84 : decode cX7_behind 84 = .ok (.ior, 1) := by decide +kernel
theorem dX7_behind_85 : decode cX7_behind 85 = .ok (.istore_n 3, 1) := by decide +kernel
theorem dX7_behind_86 : decode cX7_behind 86 = .ok (.iinc 5 1, 3) := by decide +kernel
theorem dX7_behind_89 : decode cX7_behind 89 = .ok (.goto (-72), 3) := by decide +kernel
theorem dX7_behind_92 : decode cX7_behind 92 = .ok (.goto (-87), 3) := by decide +kernel
theorem dX7_behind_95 : decode cX7_behind 95 = .ok (.iload_n 3, 1) := by decide +kernel
theorem dX7_behind_96 : decode cX7_behind 96 = .ok (.ireturn, 1) := by decide +kernel
theorem dX7_isAsked_0 : decode cX7_isAsked 0 = .ok (.iconst 0, 1) := by decide +kernel
theorem dX7_isAsked_1 : decode cX7_isAsked 1 = .ok (.istore 4, 2) := by decide +kernel
theorem dX7_isAsked_3 : decode cX7_isAsked 3 = .ok (.iload 4, 2) := by decide +kernel
theorem dX7_isAsked_5 : decode cX7_isAsked 5 = .ok (.aload_n 0, 1) := by decide +kernel
theorem dX7_isAsked_6 : decode cX7_isAsked 6 = .ok (.getfield 16, 3) := by decide +kernel
theorem dX7_isAsked_9 : decode cX7_isAsked 9 = .ok (.iload_n 1, 1) := by decide +kernel
theorem dX7_isAsked_10 : decode cX7_isAsked 10 = .ok (.iconst 3, 1) := by decide +kernel
theorem dX7_isAsked_11 : decode cX7_isAsked 11 = .ok (.invokestatic 75, 3) := by decide +kernel
theorem dX7_isAsked_14 : decode cX7_isAsked 14 = .ok (.iaload, 1) := by decide +kernel
theorem dX7_isAsked_15 : decode cX7_isAsked 15 = .ok (.if_icmp .ge 33, 3) := by decide +kernel
theorem dX7_isAsked_18 : decode cX7_isAsked 18 = .ok (.aload_n 0, 1) := by decide +kernel
theorem dX7_isAsked_19 : decode cX7_isAsked 19 = .ok (.iload_n 1, 1) := by decide +kernel
theorem dX7_isAsked_20 : decode cX7_isAsked 20 = .ok (.iload 4, 2) := by decide +kernel
theorem dX7_isAsked_22 : decode cX7_isAsked 22 = .ok (.invokevirtual 132, 3) := by decide +kernel
theorem dX7_isAsked_25 : decode cX7_isAsked 25 = .ok (.iload_n 2, 1) := by decide +kernel
theorem dX7_isAsked_26 : decode cX7_isAsked 26 = .ok (.if_icmp .ne 16, 3) := by decide +kernel
theorem dX7_isAsked_29 : decode cX7_isAsked 29 = .ok (.aload_n 0, 1) := by decide +kernel
theorem dX7_isAsked_30 : decode cX7_isAsked 30 = .ok (.iload_n 1, 1) := by decide +kernel
theorem dX7_isAsked_31 : decode cX7_isAsked 31 = .ok (.iload 4, 2) := by decide +kernel
theorem dX7_isAsked_33 : decode cX7_isAsked 33 = .ok (.invokevirtual 129, 3) := by decide +kernel
theorem dX7_isAsked_36 : decode cX7_isAsked 36 = .ok (.iload_n 3, 1) := by decide +kernel
theorem dX7_isAsked_37 : decode cX7_isAsked 37 = .ok (.if_icmp .ne 5, 3) := by decide +kernel
theorem dX7_isAsked_40 : decode cX7_isAsked 40 = .ok (.iconst 1, 1) := by decide +kernel
theorem dX7_isAsked_41 : decode cX7_isAsked 41 = .ok (.ireturn, 1) := by decide +kernel
theorem dX7_isAsked_42 : decode cX7_isAsked 42 = .ok (.iinc 4 1, 3) := by decide +kernel
theorem dX7_isAsked_45 : decode cX7_isAsked 45 = .ok (.goto (-42), 3) := by decide +kernel
theorem dX7_isAsked_48 : decode cX7_isAsked 48 = .ok (.iconst 0, 1) := by decide +kernel
theorem dX7_isAsked_49 : decode cX7_isAsked 49 = .ok (.ireturn, 1) := by decide +kernel
theorem dX7_demands_0 : decode cX7_demands 0 = .ok (.iload_n 1, 1) := by decide +kernel
theorem dX7_demands_1 : decode cX7_demands 1 = .ok (.ifCond .ge 9, 3) := by decide +kernel
theorem dX7_demands_4 : decode cX7_demands 4 = .ok (.aload_n 0, 1) := by decide +kernel
theorem dX7_demands_5 : decode cX7_demands 5 = .ok (.iconst 1, 1) := by decide +kernel
theorem dX7_demands_6 : decode cX7_demands 6 = .ok (.invokevirtual 91, 3) := by decide +kernel
theorem dX7_demands_9 : decode cX7_demands 9 = .ok (.ireturn, 1) := by decide +kernel
theorem dX7_demands_10 : decode cX7_demands 10 = .ok (.aload_n 0, 1) := by decide +kernel
theorem dX7_demands_11 : decode cX7_demands 11 = .ok (.iload_n 1, 1) := by decide +kernel
theorem dX7_demands_12 : decode cX7_demands 12 = .ok (.iload_n 2, 1) := by decide +kernel
theorem dX7_demands_13 : decode cX7_demands 13 = .ok (.invokevirtual 117, 3) := by decide +kernel
theorem dX7_demands_16 : decode cX7_demands 16 = .ok (.ifCond .eq 12, 3) := by decide +kernel
theorem dX7_demands_19 : decode cX7_demands 19 = .ok (.aload_n 0, 1) := by decide +kernel
theorem dX7_demands_20 : decode cX7_demands 20 = .ok (.iload_n 1, 1) := by decide +kernel
theorem dX7_demands_21 : decode cX7_demands 21 = .ok (.iload_n 3, 1) := by decide +kernel
theorem dX7_demands_22 : decode cX7_demands 22 = .ok (.invokevirtual 117, 3) := by decide +kernel
theorem dX7_demands_25 : decode cX7_demands 25 = .ok (.ifCond .ne 9, 3) := by decide +kernel
theorem dX7_demands_28 : decode cX7_demands 28 = .ok (.aload_n 0, 1) := by decide +kernel
theorem dX7_demands_29 : decode cX7_demands 29 = .ok (.iconst 2, 1) := by decide +kernel
theorem dX7_demands_30 : decode cX7_demands 30 = .ok (.invokevirtual 91, 3) := by decide +kernel
theorem dX7_demands_33 : decode cX7_demands 33 = .ok (.ireturn, 1) := by decide +kernel
theorem dX7_demands_34 : decode cX7_demands 34 = .ok (.iload_n 2, 1) := by decide +kernel
theorem dX7_demands_35 : decode cX7_demands 35 = .ok (.iload_n 3, 1) := by decide +kernel
theorem dX7_demands_36 : decode cX7_demands 36 = .ok (.if_icmp .ne 9, 3) := by decide +kernel
theorem dX7_demands_39 : decode cX7_demands 39 = .ok (.aload_n 0, 1) := by decide +kernel
theorem dX7_demands_40 : decode cX7_demands 40 = .ok (.iconst 3, 1) := by decide +kernel
theorem dX7_demands_41 : decode cX7_demands 41 = .ok (.invokevirtual 91, 3) := by decide +kernel
theorem dX7_demands_44 : decode cX7_demands 44 = .ok (.ireturn, 1) := by decide +kernel
theorem dX7_demands_45 : decode cX7_demands 45 = .ok (.aload_n 0, 1) := by decide +kernel
theorem dX7_demands_46 : decode cX7_demands 46 = .ok (.iload_n 1, 1) := by decide +kernel
theorem dX7_demands_47 : decode cX7_demands 47 = .ok (.iload_n 3, 1) := by decide +kernel
theorem dX7_demands_48 : decode cX7_demands 48 = .ok (.invokevirtual 85, 3) := by decide +kernel
theorem dX7_demands_51 : decode cX7_demands 51 = .ok (.iconst 2, 1) := by decide +kernel
theorem dX7_demands_52 : decode cX7_demands 52 = .ok (.if_icmp .ne 17, 3) := by decide +kernel
theorem dX7_demands_55 : decode cX7_demands 55 = .ok (.aload_n 0, 1) := by decide +kernel
theorem dX7_demands_56 : decode cX7_demands 56 = .ok (.iload_n 1, 1) := by decide +kernel
theorem dX7_demands_57 : decode cX7_demands 57 = .ok (.iload_n 2, 1) := by decide +kernel
theorem dX7_demands_58 : decode cX7_demands 58 = .ok (.invokevirtual 85, 3) := by decide +kernel
theorem dX7_demands_61 : decode cX7_demands 61 = .ok (.iconst 2, 1) := by decide +kernel
theorem dX7_demands_62 : decode cX7_demands 62 = .ok (.if_icmp .eq 7, 3) := by decide +kernel
theorem dX7_demands_65 : decode cX7_demands 65 = .ok (.iconst 1, 1) := by decide +kernel
theorem dX7_demands_66 : decode cX7_demands 66 = .ok (.goto 4, 3) := by decide +kernel
theorem dX7_demands_69 : decode cX7_demands 69 = .ok (.iconst 0, 1) := by decide +kernel
theorem dX7_demands_70 : decode cX7_demands 70 = .ok (.istore 4, 2) := by decide +kernel
theorem dX7_demands_72 : decode cX7_demands 72 = .ok (.aload_n 0, 1) := by decide +kernel
theorem dX7_demands_73 : decode cX7_demands 73 = .ok (.iload_n 1, 1) := by decide +kernel
theorem dX7_demands_74 : decode cX7_demands 74 = .ok (.iload_n 2, 1) := by decide +kernel
theorem dX7_demands_75 : decode cX7_demands 75 = .ok (.iload_n 3, 1) := by decide +kernel
theorem dX7_demands_76 : decode cX7_demands 76 = .ok (.invokevirtual 147, 3) := by decide +kernel
theorem dX7_demands_79 : decode cX7_demands 79 = .ok (.ifCond .ne 23, 3) := by decide +kernel
theorem dX7_demands_82 : decode cX7_demands 82 = .ok (.aload_n 0, 1) := by decide +kernel
theorem dX7_demands_83 : decode cX7_demands 83 = .ok (.getfield 16, 3) := by decide +kernel
theorem dX7_demands_86 : decode cX7_demands 86 = .ok (.iload_n 1, 1) := by decide +kernel
theorem dX7_demands_87 : decode cX7_demands 87 = .ok (.iconst 3, 1) := by decide +kernel
theorem dX7_demands_88 : decode cX7_demands 88 = .ok (.invokestatic 75, 3) := by decide +kernel
theorem dX7_demands_91 : decode cX7_demands 91 = .ok (.iaload, 1) := by decide +kernel
theorem dX7_demands_92 : decode cX7_demands 92 = .ok (.bipush 12, 2) := by decide +kernel
theorem dX7_demands_94 : decode cX7_demands 94 = .ok (.if_icmp .eq 8, 3) := by decide +kernel
theorem dX7_demands_97 : decode cX7_demands 97 = .ok (.iload 4, 2) := by decide +kernel
theorem dX7_demands_99 : decode cX7_demands 99 = .ok (.ifCond .eq 9, 3) := by decide +kernel
theorem dX7_demands_102 : decode cX7_demands 102 = .ok (.aload_n 0, 1) := by decide +kernel
theorem dX7_demands_103 : decode cX7_demands 103 = .ok (.iconst 4, 1) := by decide +kernel
theorem dX7_demands_104 : decode cX7_demands 104 = .ok (.invokevirtual 91, 3) := by decide +kernel
theorem dX7_demands_107 : decode cX7_demands 107 = .ok (.ireturn, 1) := by decide +kernel
theorem dX7_demands_108 : decode cX7_demands 108 = .ok (.aload_n 0, 1) := by decide +kernel
theorem dX7_demands_109 : decode cX7_demands 109 = .ok (.iload_n 1, 1) := by decide +kernel
theorem dX7_demands_110 : decode cX7_demands 110 = .ok (.iload_n 3, 1) := by decide +kernel
theorem dX7_demands_111 : decode cX7_demands 111 = .ok (.invokevirtual 150, 3) := by decide +kernel
theorem dX7_demands_114 : decode cX7_demands 114 = .ok (.iload_n 2, 1) := by decide +kernel
theorem dX7_demands_115 : decode cX7_demands 115 = .ok (.ishr, 1) := by decide +kernel
theorem dX7_demands_116 : decode cX7_demands 116 = .ok (.iconst 1, 1) := by decide +kernel
theorem dX7_demands_117 : decode cX7_demands 117 = .ok (.iand, 1) := by decide +kernel
theorem dX7_demands_118 : decode cX7_demands 118 = .ok (.iconst 1, 1) := by decide +kernel
theorem dX7_demands_119 : decode cX7_demands 119 = .ok (.if_icmp .ne 9, 3) := by decide +kernel
theorem dX7_demands_122 : decode cX7_demands 122 = .ok (.aload_n 0, 1) := by decide +kernel
theorem dX7_demands_123 : decode cX7_demands 123 = .ok (.iconst 5, 1) := by decide +kernel
theorem dX7_demands_124 : decode cX7_demands 124 = .ok (.invokevirtual 91, 3) := by decide +kernel
theorem dX7_demands_127 : decode cX7_demands 127 = .ok (.ireturn, 1) := by decide +kernel
theorem dX7_demands_128 : decode cX7_demands 128 = .ok (.aload_n 0, 1) := by decide +kernel
theorem dX7_demands_129 : decode cX7_demands 129 = .ok (.getfield 16, 3) := by decide +kernel
theorem dX7_demands_132 : decode cX7_demands 132 = .ok (.iload_n 1, 1) := by decide +kernel
theorem dX7_demands_133 : decode cX7_demands 133 = .ok (.iconst 3, 1) := by decide +kernel
theorem dX7_demands_134 : decode cX7_demands 134 = .ok (.invokestatic 75, 3) := by decide +kernel
theorem dX7_demands_137 : decode cX7_demands 137 = .ok (.iaload, 1) := by decide +kernel
theorem dX7_demands_138 : decode cX7_demands 138 = .ok (.istore 5, 2) := by decide +kernel
theorem dX7_demands_140 : decode cX7_demands 140 = .ok (.aload_n 0, 1) := by decide +kernel
theorem dX7_demands_141 : decode cX7_demands 141 = .ok (.getfield 16, 3) := by decide +kernel
theorem dX7_demands_144 : decode cX7_demands 144 = .ok (.iload_n 1, 1) := by decide +kernel
theorem dX7_demands_145 : decode cX7_demands 145 = .ok (.bipush 36, 2) := by decide +kernel
theorem dX7_demands_147 : decode cX7_demands 147 = .ok (.iconst 2, 1) := by decide +kernel
theorem dX7_demands_148 : decode cX7_demands 148 = .ok (.iload 5, 2) := by decide +kernel
theorem dX7_demands_150 : decode cX7_demands 150 = .ok (.imul, 1) := by decide +kernel
theorem dX7_demands_151 : decode cX7_demands 151 = .ok (.iadd, 1) := by decide +kernel
theorem dX7_demands_152 : decode cX7_demands 152 = .ok (.invokestatic 75, 3) := by decide +kernel
theorem dX7_demands_155 : decode cX7_demands 155 = .ok (.iload_n 2, 1) := by decide +kernel
theorem dX7_demands_156 : decode cX7_demands 156 = .ok (.iastore, 1) := by decide +kernel
theorem dX7_demands_157 : decode cX7_demands 157 = .ok (.aload_n 0, 1) := by decide +kernel
theorem dX7_demands_158 : decode cX7_demands 158 = .ok (.getfield 16, 3) := by decide +kernel
theorem dX7_demands_161 : decode cX7_demands 161 = .ok (.iload_n 1, 1) := by decide +kernel
theorem dX7_demands_162 : decode cX7_demands 162 = .ok (.bipush 36, 2) := by decide +kernel
theorem dX7_demands_164 : decode cX7_demands 164 = .ok (.iconst 2, 1) := by decide +kernel
theorem dX7_demands_165 : decode cX7_demands 165 = .ok (.iload 5, 2) := by decide +kernel
theorem dX7_demands_167 : decode cX7_demands 167 = .ok (.imul, 1) := by decide +kernel
theorem dX7_demands_168 : decode cX7_demands 168 = .ok (.iadd, 1) := by decide +kernel
theorem dX7_demands_169 : decode cX7_demands 169 = .ok (.iconst 1, 1) := by decide +kernel
theorem dX7_demands_170 : decode cX7_demands 170 = .ok (.iadd, 1) := by decide +kernel
theorem dX7_demands_171 : decode cX7_demands 171 = .ok (.invokestatic 75, 3) := by decide +kernel
theorem dX7_demands_174 : decode cX7_demands 174 = .ok (.iload_n 3, 1) := by decide +kernel
theorem dX7_demands_175 : decode cX7_demands 175 = .ok (.iastore, 1) := by decide +kernel
theorem dX7_demands_176 : decode cX7_demands 176 = .ok (.aload_n 0, 1) := by decide +kernel
theorem dX7_demands_177 : decode cX7_demands 177 = .ok (.getfield 16, 3) := by decide +kernel
theorem dX7_demands_180 : decode cX7_demands 180 = .ok (.iload_n 1, 1) := by decide +kernel
theorem dX7_demands_181 : decode cX7_demands 181 = .ok (.iconst 3, 1) := by decide +kernel
theorem dX7_demands_182 : decode cX7_demands 182 = .ok (.invokestatic 75, 3) := by decide +kernel
theorem dX7_demands_185 : decode cX7_demands 185 = .ok (.dup2, 1) := by decide +kernel
theorem dX7_demands_186 : decode cX7_demands 186 = .ok (.iaload, 1) := by decide +kernel
theorem dX7_demands_187 : decode cX7_demands 187 = .ok (.iconst 1, 1) := by decide +kernel
theorem dX7_demands_188 : decode cX7_demands 188 = .ok (.iadd, 1) := by decide +kernel
theorem dX7_demands_189 : decode cX7_demands 189 = .ok (.iastore, 1) := by decide +kernel
theorem dX7_demands_190 : decode cX7_demands 190 = .ok (.aload_n 0, 1) := by decide +kernel
theorem dX7_demands_191 : decode cX7_demands 191 = .ok (.getfield 16, 3) := by decide +kernel
theorem dX7_demands_194 : decode cX7_demands 194 = .ok (.iload_n 1, 1) := by decide +kernel
theorem dX7_demands_195 : decode cX7_demands 195 = .ok (.iconst 3, 1) := by decide +kernel
theorem dX7_demands_196 : decode cX7_demands 196 = .ok (.invokestatic 75, 3) := by decide +kernel
theorem dX7_demands_199 : decode cX7_demands 199 = .ok (.iaload, 1) := by decide +kernel
theorem dX7_demands_200 : decode cX7_demands 200 = .ok (.ireturn, 1) := by decide +kernel
theorem dX7_demand_0 : decode cX7_demand 0 = .ok (.aload_n 0, 1) := by decide +kernel
theorem dX7_demand_1 : decode cX7_demand 1 = .ok (.invokevirtual 94, 3) := by decide +kernel
theorem dX7_demand_4 : decode cX7_demand 4 = .ok (.aload_n 0, 1) := by decide +kernel
theorem dX7_demand_5 : decode cX7_demand 5 = .ok (.aload_n 0, 1) := by decide +kernel
theorem dX7_demand_6 : decode cX7_demand 6 = .ok (.aload_n 0, 1) := by decide +kernel
theorem dX7_demand_7 : decode cX7_demand 7 = .ok (.iload_n 1, 1) := by decide +kernel
theorem dX7_demand_8 : decode cX7_demand 8 = .ok (.invokevirtual 123, 3) := by decide +kernel
theorem dX7_demand_11 : decode cX7_demand 11 = .ok (.iload_n 2, 1) := by decide +kernel
theorem dX7_demand_12 : decode cX7_demand 12 = .ok (.iload_n 3, 1) := by decide +kernel
theorem dX7_demand_13 : decode cX7_demand 13 = .ok (.invokevirtual 153, 3) := by decide +kernel
theorem dX7_demand_16 : decode cX7_demand 16 = .ok (.invokevirtual 100, 3) := by decide +kernel
theorem dX7_demand_19 : decode cX7_demand 19 = .ok (.ireturn, 1) := by decide +kernel
theorem dX7_isDue_0 : decode cX7_isDue 0 = .ok (.iconst 0, 1) := by decide +kernel
theorem dX7_isDue_1 : decode cX7_isDue 1 = .ok (.istore_n 2, 1) := by decide +kernel
theorem dX7_isDue_2 : decode cX7_isDue 2 = .ok (.iload_n 2, 1) := by decide +kernel
theorem dX7_isDue_3 : decode cX7_isDue 3 = .ok (.aload_n 0, 1) := by decide +kernel
theorem dX7_isDue_4 : decode cX7_isDue 4 = .ok (.iload_n 1, 1) := by decide +kernel
theorem dX7_isDue_5 : decode cX7_isDue 5 = .ok (.invokevirtual 79, 3) := by decide +kernel
theorem dX7_isDue_8 : decode cX7_isDue 8 = .ok (.if_icmp .ge 36, 3) := by decide +kernel
theorem dX7_isDue_11 : decode cX7_isDue 11 = .ok (.aload_n 0, 1) := by decide +kernel
theorem dX7_isDue_12 : decode cX7_isDue 12 = .ok (.iload_n 1, 1) := by decide +kernel
theorem dX7_isDue_13 : decode cX7_isDue 13 = .ok (.iload_n 2, 1) := by decide +kernel
theorem dX7_isDue_14 : decode cX7_isDue 14 = .ok (.invokevirtual 85, 3) := by decide +kernel
theorem dX7_isDue_17 : decode cX7_isDue 17 = .ok (.iconst 2, 1) := by decide +kernel
theorem dX7_isDue_18 : decode cX7_isDue 18 = .ok (.if_icmp .ne 18, 3) := by decide +kernel
theorem dX7_isDue_21 : decode cX7_isDue 21 = .ok (.aload_n 0, 1) := by decide +kernel
theorem dX7_isDue_22 : decode cX7_isDue 22 = .ok (.iload_n 1, 1) := by decide +kernel
theorem dX7_isDue_23 : decode cX7_isDue 23 = .ok (.iload_n 2, 1) := by decide +kernel
theorem dX7_isDue_24 : decode cX7_isDue 24 = .ok (.invokevirtual 141, 3) := by decide +kernel
theorem dX7_isDue_27 : decode cX7_isDue 27 = .ok (.aload_n 0, 1) := by decide +kernel
theorem dX7_isDue_28 : decode cX7_isDue 28 = .ok (.iload_n 1, 1) := by decide +kernel
theorem dX7_isDue_29 : decode cX7_isDue 29 = .ok (.iload_n 2, 1) := by decide +kernel
theorem dX7_isDue_30 : decode cX7_isDue 30 = .ok (.invokevirtual 120, 3) := by decide +kernel
theorem dX7_isDue_33 : decode cX7_isDue 33 = .ok (.if_icmp .eq 5, 3) := by decide +kernel
theorem dX7_isDue_36 : decode cX7_isDue 36 = .ok (.iconst 0, 1) := by decide +kernel
theorem dX7_isDue_37 : decode cX7_isDue 37 = .ok (.ireturn, 1) := by decide +kernel
theorem dX7_isDue_38 : decode cX7_isDue 38 = .ok (.iinc 2 1, 3) := by decide +kernel
theorem dX7_isDue_41 : decode cX7_isDue 41 = .ok (.goto (-39), 3) := by decide +kernel
theorem dX7_isDue_44 : decode cX7_isDue 44 = .ok (.iconst 0, 1) := by decide +kernel
theorem dX7_isDue_45 : decode cX7_isDue 45 = .ok (.istore_n 2, 1) := by decide +kernel
theorem dX7_isDue_46 : decode cX7_isDue 46 = .ok (.iload_n 2, 1) := by decide +kernel
theorem dX7_isDue_47 : decode cX7_isDue 47 = .ok (.aload_n 0, 1) := by decide +kernel
theorem dX7_isDue_48 : decode cX7_isDue 48 = .ok (.iload_n 1, 1) := by decide +kernel
theorem dX7_isDue_49 : decode cX7_isDue 49 = .ok (.invokevirtual 79, 3) := by decide +kernel
theorem dX7_isDue_52 : decode cX7_isDue 52 = .ok (.if_icmp .ge 31, 3) := by decide +kernel
theorem dX7_isDue_55 : decode cX7_isDue 55 = .ok (.aload_n 0, 1) := by decide +kernel
theorem dX7_isDue_56 : decode cX7_isDue 56 = .ok (.iload_n 1, 1) := by decide +kernel
theorem dX7_isDue_57 : decode cX7_isDue 57 = .ok (.iload_n 2, 1) := by decide +kernel
theorem dX7_isDue_58 : decode cX7_isDue 58 = .ok (.invokevirtual 141, 3) := by decide +kernel
theorem dX7_isDue_61 : decode cX7_isDue 61 = .ok (.aload_n 0, 1) := by decide +kernel
theorem dX7_isDue_62 : decode cX7_isDue 62 = .ok (.iload_n 1, 1) := by decide +kernel
theorem dX7_isDue_63 : decode cX7_isDue 63 = .ok (.iload_n 2, 1) := by decide +kernel
theorem dX7_isDue_64 : decode cX7_isDue 64 = .ok (.iconst 1, 1) := by decide +kernel
theorem dX7_isDue_65 : decode cX7_isDue 65 = .ok (.iadd, 1) := by decide +kernel
theorem dX7_isDue_66 : decode cX7_isDue 66 = .ok (.invokevirtual 141, 3) := by decide +kernel
theorem dX7_isDue_69 : decode cX7_isDue 69 = .ok (.invokestatic 156, 3) := by decide +kernel
theorem dX7_isDue_72 : decode cX7_isDue 72 = .ok (.ifCond .ne 5, 3) := by decide +kernel
theorem dX7_isDue_75 : decode cX7_isDue 75 = .ok (.iconst 0, 1) := by decide +kernel
theorem dX7_isDue_76 : decode cX7_isDue 76 = .ok (.ireturn, 1) := by decide +kernel
theorem dX7_isDue_77 : decode cX7_isDue 77 = .ok (.iinc 2 2, 3) := by decide +kernel
theorem dX7_isDue_80 : decode cX7_isDue 80 = .ok (.goto (-34), 3) := by decide +kernel
theorem dX7_isDue_83 : decode cX7_isDue 83 = .ok (.iconst 1, 1) := by decide +kernel
theorem dX7_isDue_84 : decode cX7_isDue 84 = .ok (.ireturn, 1) := by decide +kernel
theorem dX7_areAlike_0 : decode cX7_areAlike 0 = .ok (.iload_n 0, 1) := by decide +kernel
theorem dX7_areAlike_1 : decode cX7_areAlike 1 = .ok (.iload_n 1, 1) := by decide +kernel
theorem dX7_areAlike_2 : decode cX7_areAlike 2 = .ok (.isub, 1) := by decide +kernel
theorem dX7_areAlike_3 : decode cX7_areAlike 3 = .ok (.iconst 1, 1) := by decide +kernel
theorem dX7_areAlike_4 : decode cX7_areAlike 4 = .ok (.if_icmp .gt 14, 3) := by decide +kernel
theorem dX7_areAlike_7 : decode cX7_areAlike 7 = .ok (.iload_n 1, 1) := by decide +kernel
theorem dX7_areAlike_8 : decode cX7_areAlike 8 = .ok (.iload_n 0, 1) := by decide +kernel
theorem dX7_areAlike_9 : decode cX7_areAlike 9 = .ok (.isub, 1) := by decide +kernel
theorem dX7_areAlike_10 : decode cX7_areAlike 10 = .ok (.iconst 1, 1) := by decide +kernel
theorem dX7_areAlike_11 : decode cX7_areAlike 11 = .ok (.if_icmp .gt 7, 3) := by decide +kernel
theorem dX7_areAlike_14 : decode cX7_areAlike 14 = .ok (.iconst 1, 1) := by decide +kernel
theorem dX7_areAlike_15 : decode cX7_areAlike 15 = .ok (.goto 4, 3) := by decide +kernel
theorem dX7_areAlike_18 : decode cX7_areAlike 18 = .ok (.iconst 0, 1) := by decide +kernel
theorem dX7_areAlike_19 : decode cX7_areAlike 19 = .ok (.ireturn, 1) := by decide +kernel
theorem dX7_worth_0 : decode cX7_worth 0 = .ok (.iconst 3, 1) := by decide +kernel
theorem dX7_worth_1 : decode cX7_worth 1 = .ok (.aload_n 0, 1) := by decide +kernel
theorem dX7_worth_2 : decode cX7_worth 2 = .ok (.getfield 16, 3) := by decide +kernel
theorem dX7_worth_5 : decode cX7_worth 5 = .ok (.iload_n 1, 1) := by decide +kernel
theorem dX7_worth_6 : decode cX7_worth 6 = .ok (.iconst 3, 1) := by decide +kernel
theorem dX7_worth_7 : decode cX7_worth 7 = .ok (.invokestatic 75, 3) := by decide +kernel
theorem dX7_worth_10 : decode cX7_worth 10 = .ok (.iaload, 1) := by decide +kernel
theorem dX7_worth_11 : decode cX7_worth 11 = .ok (.imul, 1) := by decide +kernel
theorem dX7_worth_12 : decode cX7_worth 12 = .ok (.istore_n 2, 1) := by decide +kernel
theorem dX7_worth_13 : decode cX7_worth 13 = .ok (.iconst 0, 1) := by decide +kernel
theorem dX7_worth_14 : decode cX7_worth 14 = .ok (.istore_n 3, 1) := by decide +kernel
theorem dX7_worth_15 : decode cX7_worth 15 = .ok (.iload_n 3, 1) := by decide +kernel
theorem dX7_worth_16 : decode cX7_worth 16 = .ok (.aload_n 0, 1) := by decide +kernel
theorem dX7_worth_17 : decode cX7_worth 17 = .ok (.iload_n 1, 1) := by decide +kernel
theorem dX7_worth_18 : decode cX7_worth 18 = .ok (.invokevirtual 79, 3) := by decide +kernel
theorem dX7_worth_21 : decode cX7_worth 21 = .ok (.if_icmp .ge 36, 3) := by decide +kernel
theorem dX7_worth_24 : decode cX7_worth 24 = .ok (.iload_n 2, 1) := by decide +kernel
theorem dX7_worth_25 : decode cX7_worth 25 = .ok (.aload_n 0, 1) := by decide +kernel
theorem dX7_worth_26 : decode cX7_worth 26 = .ok (.iload_n 1, 1) := by decide +kernel
theorem dX7_worth_27 : decode cX7_worth 27 = .ok (.iload_n 3, 1) := by decide +kernel
theorem dX7_worth_28 : decode cX7_worth 28 = .ok (.invokevirtual 85, 3) := by decide +kernel
theorem dX7_worth_31 : decode cX7_worth 31 = .ok (.ifCond .ne 12, 3) := by decide +kernel
theorem dX7_worth_34 : decode cX7_worth 34 = .ok (.aload_n 0, 1) := by decide +kernel
theorem dX7_worth_35 : decode cX7_worth 35 = .ok (.iload_n 1, 1) := by decide +kernel
theorem dX7_worth_36 : decode cX7_worth 36 = .ok (.iload_n 3, 1) := by decide +kernel
theorem dX7_worth_37 : decode cX7_worth 37 = .ok (.invokevirtual 120, 3) := by decide +kernel
theorem dX7_worth_40 : decode cX7_worth 40 = .ok (.goto 9, 3) := by decide +kernel
theorem dX7_worth_43 : decode cX7_worth 43 = .ok (.aload_n 0, 1) := by decide +kernel
theorem dX7_worth_44 : decode cX7_worth 44 = .ok (.iload_n 1, 1) := by decide +kernel
theorem dX7_worth_45 : decode cX7_worth 45 = .ok (.iload_n 3, 1) := by decide +kernel
theorem dX7_worth_46 : decode cX7_worth 46 = .ok (.invokevirtual 141, 3) := by decide +kernel
theorem dX7_worth_49 : decode cX7_worth 49 = .ok (.iadd, 1) := by decide +kernel
theorem dX7_worth_50 : decode cX7_worth 50 = .ok (.istore_n 2, 1) := by decide +kernel
theorem dX7_worth_51 : decode cX7_worth 51 = .ok (.iinc 3 1, 3) := by decide +kernel
theorem dX7_worth_54 : decode cX7_worth 54 = .ok (.goto (-39), 3) := by decide +kernel
theorem dX7_worth_57 : decode cX7_worth 57 = .ok (.iload_n 2, 1) := by decide +kernel
theorem dX7_worth_58 : decode cX7_worth 58 = .ok (.ireturn, 1) := by decide +kernel
theorem dX7_cloth_0 : decode cX7_cloth 0 = .ok (.iconst 0, 1) := by decide +kernel
theorem dX7_cloth_1 : decode cX7_cloth 1 = .ok (.istore_n 2, 1) := by decide +kernel
theorem dX7_cloth_2 : decode cX7_cloth 2 = .ok (.iconst 0, 1) := by decide +kernel
theorem dX7_cloth_3 : decode cX7_cloth 3 = .ok (.istore_n 3, 1) := by decide +kernel
theorem dX7_cloth_4 : decode cX7_cloth 4 = .ok (.iload_n 3, 1) := by decide +kernel
theorem dX7_cloth_5 : decode cX7_cloth 5 = .ok (.aload_n 0, 1) := by decide +kernel
theorem dX7_cloth_6 : decode cX7_cloth 6 = .ok (.iload_n 1, 1) := by decide +kernel
theorem dX7_cloth_7 : decode cX7_cloth 7 = .ok (.invokevirtual 79, 3) := by decide +kernel
theorem dX7_cloth_10 : decode cX7_cloth 10 = .ok (.if_icmp .ge 33, 3) := by decide +kernel
theorem dX7_cloth_13 : decode cX7_cloth 13 = .ok (.iload_n 2, 1) := by decide +kernel
theorem dX7_cloth_14 : decode cX7_cloth 14 = .ok (.aload_n 0, 1) := by decide +kernel
theorem dX7_cloth_15 : decode cX7_cloth 15 = .ok (.iload_n 1, 1) := by decide +kernel
theorem dX7_cloth_16 : decode cX7_cloth 16 = .ok (.iload_n 3, 1) := by decide +kernel
theorem dX7_cloth_17 : decode cX7_cloth 17 = .ok (.invokevirtual 85, 3) := by decide +kernel
theorem dX7_cloth_20 : decode cX7_cloth 20 = .ok (.ifCond .ne 7, 3) := by decide +kernel
theorem dX7_cloth_23 : decode cX7_cloth 23 = .ok (.iconst 0, 1) := by decide +kernel
theorem dX7_cloth_24 : decode cX7_cloth 24 = .ok (.goto 11, 3) := by decide +kernel
theorem dX7_cloth_27 : decode cX7_cloth 27 = .ok (.aload_n 0, 1) := by decide +kernel
theorem dX7_cloth_28 : decode cX7_cloth 28 = .ok (.iload_n 1, 1) := by decide +kernel
theorem dX7_cloth_29 : decode cX7_cloth 29 = .ok (.iload_n 3, 1) := by decide +kernel
theorem dX7_cloth_30 : decode cX7_cloth 30 = .ok (.invokevirtual 141, 3) := by decide +kernel
theorem dX7_cloth_33 : decode cX7_cloth 33 = .ok (.iconst 2, 1) := by decide +kernel
theorem dX7_cloth_34 : decode cX7_cloth 34 = .ok (.iadd, 1) := by decide +kernel
theorem dX7_cloth_35 : decode cX7_cloth 35 = .ok (.iadd, 1) := by decide +kernel
theorem dX7_cloth_36 : decode cX7_cloth 36 = .ok (.istore_n 2, 1) := by decide +kernel
theorem dX7_cloth_37 : decode cX7_cloth 37 = .ok (.iinc 3 1, 3) := by decide +kernel
theorem dX7_cloth_40 : decode cX7_cloth 40 = .ok (.goto (-36), 3) := by decide +kernel
theorem dX7_cloth_43 : decode cX7_cloth 43 = .ok (.iload_n 2, 1) := by decide +kernel
theorem dX7_cloth_44 : decode cX7_cloth 44 = .ok (.ireturn, 1) := by decide +kernel
theorem dX7_goes_0 : decode cX7_goes 0 = .ok (.iload_n 1, 1) := by decide +kernel
theorem dX7_goes_1 : decode cX7_goes 1 = .ok (.iconst 0, 1) := by decide +kernel
theorem dX7_goes_2 : decode cX7_goes 2 = .ok (.invokestatic 75, 3) := by decide +kernel
theorem dX7_goes_5 : decode cX7_goes 5 = .ok (.istore_n 2, 1) := by decide +kernel
theorem dX7_goes_6 : decode cX7_goes 6 = .ok (.iload_n 2, 1) := by decide +kernel
theorem dX7_goes_7 : decode cX7_goes 7 = .ok (.sipush 457, 3) := by decide +kernel
theorem dX7_goes_10 : decode cX7_goes 10 = .ok (.if_icmp .ge 38, 3) := by decide +kernel
theorem dX7_goes_13 : decode cX7_goes 13 = .ok (.aload_n 0, 1) := by decide +kernel
theorem dX7_goes_14 : decode cX7_goes 14 = .ok (.getfield 16, 3) := by decide +kernel
theorem dX7_goes_17 : decode cX7_goes 17 = .ok (.iload_n 2, 1) := by decide +kernel
theorem dX7_goes_18 : decode cX7_goes 18 = .ok (.iload_n 2, 1) := by decide +kernel
theorem dX7_goes_19 : decode cX7_goes 19 = .ok (.bipush 60, 2) := by decide +kernel
theorem dX7_goes_21 : decode cX7_goes 21 = .ok (.iadd, 1) := by decide +kernel
theorem dX7_goes_22 : decode cX7_goes 22 = .ok (.sipush 457, 3) := by decide +kernel
theorem dX7_goes_25 : decode cX7_goes 25 = .ok (.if_icmp .ge 15, 3) := by decide +kernel
theorem dX7_goes_28 : decode cX7_goes 28 = .ok (.aload_n 0, 1) := by decide +kernel
theorem dX7_goes_29 : decode cX7_goes 29 = .ok (.getfield 16, 3) := by decide +kernel
theorem dX7_goes_32 : decode cX7_goes 32 = .ok (.iload_n 2, 1) := by decide +kernel
theorem dX7_goes_33 : decode cX7_goes 33 = .ok (.bipush 60, 2) := by decide +kernel
theorem dX7_goes_35 : decode cX7_goes 35 = .ok (.iadd, 1) := by decide +kernel
theorem dX7_goes_36 : decode cX7_goes 36 = .ok (.iaload, 1) := by decide +kernel
theorem dX7_goes_37 : decode cX7_goes 37 = .ok (.goto 4, 3) := by decide +kernel
theorem dX7_goes_40 : decode cX7_goes 40 = .ok (.iconst 0, 1) := by decide +kernel
theorem dX7_goes_41 : decode cX7_goes 41 = .ok (.iastore, 1) := by decide +kernel
theorem dX7_goes_42 : decode cX7_goes 42 = .ok (.iinc 2 1, 3) := by decide +kernel
theorem dX7_goes_45 : decode cX7_goes 45 = .ok (.goto (-39), 3) := by decide +kernel
theorem dX7_goes_48 : decode cX7_goes 48 = .ok (.aload_n 0, 1) := by decide +kernel
theorem dX7_goes_49 : decode cX7_goes 49 = .ok (.getfield 16, 3) := by decide +kernel
theorem dX7_goes_52 : decode cX7_goes 52 = .ok (.iconst 1, 1) := by decide +kernel
theorem dX7_goes_53 : decode cX7_goes 53 = .ok (.dup2, 1) := by decide +kernel
theorem dX7_goes_54 : decode cX7_goes 54 = .ok (.iaload, 1) := by decide +kernel
theorem dX7_goes_55 : decode cX7_goes 55 = .ok (.iconst 1, 1) := by decide +kernel
theorem dX7_goes_56 : decode cX7_goes 56 = .ok (.isub, 1) := by decide +kernel
theorem dX7_goes_57 : decode cX7_goes 57 = .ok (.iastore, 1) := by decide +kernel
theorem dX7_goes_58 : decode cX7_goes 58 = .ok (.return_, 1) := by decide +kernel
theorem dX7_delivers_0 : decode cX7_delivers 0 = .ok (.iload_n 1, 1) := by decide +kernel
theorem dX7_delivers_1 : decode cX7_delivers 1 = .ok (.ifCond .ge 9, 3) := by decide +kernel
theorem dX7_delivers_4 : decode cX7_delivers 4 = .ok (.aload_n 0, 1) := by decide +kernel
theorem dX7_delivers_5 : decode cX7_delivers 5 = .ok (.iconst 1, 1) := by decide +kernel
theorem dX7_delivers_6 : decode cX7_delivers 6 = .ok (.invokevirtual 91, 3) := by decide +kernel
theorem dX7_delivers_9 : decode cX7_delivers 9 = .ok (.ireturn, 1) := by decide +kernel
theorem dX7_delivers_10 : decode cX7_delivers 10 = .ok (.aload_n 0, 1) := by decide +kernel
theorem dX7_delivers_11 : decode cX7_delivers 11 = .ok (.iload_n 1, 1) := by decide +kernel
theorem dX7_delivers_12 : decode cX7_delivers 12 = .ok (.invokevirtual 159, 3) := by decide +kernel
theorem dX7_delivers_15 : decode cX7_delivers 15 = .ok (.ifCond .ne 9, 3) := by decide +kernel
theorem dX7_delivers_18 : decode cX7_delivers 18 = .ok (.aload_n 0, 1) := by decide +kernel
theorem dX7_delivers_19 : decode cX7_delivers 19 = .ok (.iconst 2, 1) := by decide +kernel
theorem dX7_delivers_20 : decode cX7_delivers 20 = .ok (.invokevirtual 91, 3) := by decide +kernel
theorem dX7_delivers_23 : decode cX7_delivers 23 = .ok (.ireturn, 1) := by decide +kernel
theorem dX7_delivers_24 : decode cX7_delivers 24 = .ok (.aload_n 0, 1) := by decide +kernel
theorem dX7_delivers_25 : decode cX7_delivers 25 = .ok (.iload_n 1, 1) := by decide +kernel
theorem dX7_delivers_26 : decode cX7_delivers 26 = .ok (.invokevirtual 162, 3) := by decide +kernel
theorem dX7_delivers_29 : decode cX7_delivers 29 = .ok (.istore_n 2, 1) := by decide +kernel
theorem dX7_delivers_30 : decode cX7_delivers 30 = .ok (.aload_n 0, 1) := by decide +kernel
theorem dX7_delivers_31 : decode cX7_delivers 31 = .ok (.getfield 16, 3) := by decide +kernel
theorem dX7_delivers_34 : decode cX7_delivers 34 = .ok (.iconst 5, 1) := by decide +kernel
theorem dX7_delivers_35 : decode cX7_delivers 35 = .ok (.dup2, 1) := by decide +kernel
theorem dX7_delivers_36 : decode cX7_delivers 36 = .ok (.iaload, 1) := by decide +kernel
theorem dX7_delivers_37 : decode cX7_delivers 37 = .ok (.aload_n 0, 1) := by decide +kernel
theorem dX7_delivers_38 : decode cX7_delivers 38 = .ok (.iload_n 1, 1) := by decide +kernel
theorem dX7_delivers_39 : decode cX7_delivers 39 = .ok (.invokevirtual 165, 3) := by decide +kernel
theorem dX7_delivers_42 : decode cX7_delivers 42 = .ok (.iadd, 1) := by decide +kernel
theorem dX7_delivers_43 : decode cX7_delivers 43 = .ok (.iastore, 1) := by decide +kernel
theorem dX7_delivers_44 : decode cX7_delivers 44 = .ok (.aload_n 0, 1) := by decide +kernel
theorem dX7_delivers_45 : decode cX7_delivers 45 = .ok (.getfield 16, 3) := by decide +kernel
theorem dX7_delivers_48 : decode cX7_delivers 48 = .ok (.bipush 6, 2) := by decide +kernel
theorem dX7_delivers_50 : decode cX7_delivers 50 = .ok (.dup2, 1) := by decide +kernel
theorem dX7_delivers_51 : decode cX7_delivers 51 = .ok (.iaload, 1) := by decide +kernel
theorem dX7_delivers_52 : decode cX7_delivers 52 = .ok (.iload_n 2, 1) := by decide +kernel
theorem dX7_delivers_53 : decode cX7_delivers 53 = .ok (.iadd, 1) := by decide +kernel
theorem dX7_delivers_54 : decode cX7_delivers 54 = .ok (.iastore, 1) := by decide +kernel
theorem dX7_delivers_55 : decode cX7_delivers 55 = .ok (.aload_n 0, 1) := by decide +kernel
theorem dX7_delivers_56 : decode cX7_delivers 56 = .ok (.getfield 16, 3) := by decide +kernel
theorem dX7_delivers_59 : decode cX7_delivers 59 = .ok (.bipush 7, 2) := by decide +kernel
theorem dX7_delivers_61 : decode cX7_delivers 61 = .ok (.dup2, 1) := by decide +kernel
theorem dX7_delivers_62 : decode cX7_delivers 62 = .ok (.iaload, 1) := by decide +kernel
theorem dX7_delivers_63 : decode cX7_delivers 63 = .ok (.iconst 1, 1) := by decide +kernel
theorem dX7_delivers_64 : decode cX7_delivers 64 = .ok (.iadd, 1) := by decide +kernel
theorem dX7_delivers_65 : decode cX7_delivers 65 = .ok (.iastore, 1) := by decide +kernel
theorem dX7_delivers_66 : decode cX7_delivers 66 = .ok (.aload_n 0, 1) := by decide +kernel
theorem dX7_delivers_67 : decode cX7_delivers 67 = .ok (.iload_n 1, 1) := by decide +kernel
theorem dX7_delivers_68 : decode cX7_delivers 68 = .ok (.invokevirtual 168, 3) := by decide +kernel
theorem dX7_delivers_71 : decode cX7_delivers 71 = .ok (.iload_n 2, 1) := by decide +kernel
theorem dX7_delivers_72 : decode cX7_delivers 72 = .ok (.ireturn, 1) := by decide +kernel
theorem dX7_deliver_0 : decode cX7_deliver 0 = .ok (.aload_n 0, 1) := by decide +kernel
theorem dX7_deliver_1 : decode cX7_deliver 1 = .ok (.invokevirtual 94, 3) := by decide +kernel
theorem dX7_deliver_4 : decode cX7_deliver 4 = .ok (.aload_n 0, 1) := by decide +kernel
theorem dX7_deliver_5 : decode cX7_deliver 5 = .ok (.aload_n 0, 1) := by decide +kernel
theorem dX7_deliver_6 : decode cX7_deliver 6 = .ok (.aload_n 0, 1) := by decide +kernel
theorem dX7_deliver_7 : decode cX7_deliver 7 = .ok (.iload_n 1, 1) := by decide +kernel
theorem dX7_deliver_8 : decode cX7_deliver 8 = .ok (.invokevirtual 123, 3) := by decide +kernel
theorem dX7_deliver_11 : decode cX7_deliver 11 = .ok (.invokevirtual 172, 3) := by decide +kernel
theorem dX7_deliver_14 : decode cX7_deliver 14 = .ok (.invokevirtual 100, 3) := by decide +kernel
theorem dX7_deliver_17 : decode cX7_deliver 17 = .ok (.ireturn, 1) := by decide +kernel
theorem dX7_scraps_0 : decode cX7_scraps 0 = .ok (.iload_n 1, 1) := by decide +kernel
theorem dX7_scraps_1 : decode cX7_scraps 1 = .ok (.ifCond .ge 9, 3) := by decide +kernel
theorem dX7_scraps_4 : decode cX7_scraps 4 = .ok (.aload_n 0, 1) := by decide +kernel
theorem dX7_scraps_5 : decode cX7_scraps 5 = .ok (.iconst 1, 1) := by decide +kernel
theorem dX7_scraps_6 : decode cX7_scraps 6 = .ok (.invokevirtual 91, 3) := by decide +kernel
theorem dX7_scraps_9 : decode cX7_scraps 9 = .ok (.ireturn, 1) := by decide +kernel
theorem dX7_scraps_10 : decode cX7_scraps 10 = .ok (.aload_n 0, 1) := by decide +kernel
theorem dX7_scraps_11 : decode cX7_scraps 11 = .ok (.iload_n 1, 1) := by decide +kernel
theorem dX7_scraps_12 : decode cX7_scraps 12 = .ok (.invokevirtual 165, 3) := by decide +kernel
theorem dX7_scraps_15 : decode cX7_scraps 15 = .ok (.istore_n 2, 1) := by decide +kernel
theorem dX7_scraps_16 : decode cX7_scraps 16 = .ok (.aload_n 0, 1) := by decide +kernel
theorem dX7_scraps_17 : decode cX7_scraps 17 = .ok (.getfield 16, 3) := by decide +kernel
theorem dX7_scraps_20 : decode cX7_scraps 20 = .ok (.iconst 4, 1) := by decide +kernel
theorem dX7_scraps_21 : decode cX7_scraps 21 = .ok (.dup2, 1) := by decide +kernel
theorem dX7_scraps_22 : decode cX7_scraps 22 = .ok (.iaload, 1) := by decide +kernel
theorem dX7_scraps_23 : decode cX7_scraps 23 = .ok (.iload_n 2, 1) := by decide +kernel
theorem dX7_scraps_24 : decode cX7_scraps 24 = .ok (.iadd, 1) := by decide +kernel
theorem dX7_scraps_25 : decode cX7_scraps 25 = .ok (.iastore, 1) := by decide +kernel
theorem dX7_scraps_26 : decode cX7_scraps 26 = .ok (.aload_n 0, 1) := by decide +kernel
theorem dX7_scraps_27 : decode cX7_scraps 27 = .ok (.iload_n 1, 1) := by decide +kernel
theorem dX7_scraps_28 : decode cX7_scraps 28 = .ok (.invokevirtual 168, 3) := by decide +kernel
theorem dX7_scraps_31 : decode cX7_scraps 31 = .ok (.iload_n 2, 1) := by decide +kernel
theorem dX7_scraps_32 : decode cX7_scraps 32 = .ok (.ireturn, 1) := by decide +kernel
theorem dX7_scrap_0 : decode cX7_scrap 0 = .ok (.aload_n 0, 1) := by decide +kernel
theorem dX7_scrap_1 : decode cX7_scrap 1 = .ok (.invokevirtual 94, 3) := by decide +kernel
theorem dX7_scrap_4 : decode cX7_scrap 4 = .ok (.aload_n 0, 1) := by decide +kernel
theorem dX7_scrap_5 : decode cX7_scrap 5 = .ok (.aload_n 0, 1) := by decide +kernel
theorem dX7_scrap_6 : decode cX7_scrap 6 = .ok (.aload_n 0, 1) := by decide +kernel
theorem dX7_scrap_7 : decode cX7_scrap 7 = .ok (.iload_n 1, 1) := by decide +kernel
theorem dX7_scrap_8 : decode cX7_scrap 8 = .ok (.invokevirtual 123, 3) := by decide +kernel
theorem dX7_scrap_11 : decode cX7_scrap 11 = .ok (.invokevirtual 175, 3) := by decide +kernel
theorem dX7_scrap_14 : decode cX7_scrap 14 = .ok (.invokevirtual 100, 3) := by decide +kernel
theorem dX7_scrap_17 : decode cX7_scrap 17 = .ok (.ireturn, 1) := by decide +kernel
theorem dX7_stock_0 : decode cX7_stock 0 = .ok (.aload_n 0, 1) := by decide +kernel
theorem dX7_stock_1 : decode cX7_stock 1 = .ok (.iload_n 1, 1) := by decide +kernel
theorem dX7_stock_2 : decode cX7_stock 2 = .ok (.invokestatic 88, 3) := by decide +kernel
theorem dX7_stock_5 : decode cX7_stock 5 = .ok (.ifCond .eq 7, 3) := by decide +kernel
theorem dX7_stock_8 : decode cX7_stock 8 = .ok (.iconst 0, 1) := by decide +kernel
theorem dX7_stock_9 : decode cX7_stock 9 = .ok (.goto 4, 3) := by decide +kernel
theorem dX7_stock_12 : decode cX7_stock 12 = .ok (.iconst 1, 1) := by decide +kernel
theorem dX7_stock_13 : decode cX7_stock 13 = .ok (.putfield 50, 3) := by decide +kernel
theorem dX7_stock_16 : decode cX7_stock 16 = .ok (.aload_n 0, 1) := by decide +kernel
theorem dX7_stock_17 : decode cX7_stock 17 = .ok (.getfield 50, 3) := by decide +kernel
theorem dX7_stock_20 : decode cX7_stock 20 = .ok (.ifCond .ne 15, 3) := by decide +kernel
theorem dX7_stock_23 : decode cX7_stock 23 = .ok (.aload_n 0, 1) := by decide +kernel
theorem dX7_stock_24 : decode cX7_stock 24 = .ok (.getfield 16, 3) := by decide +kernel
theorem dX7_stock_27 : decode cX7_stock 27 = .ok (.bipush 8, 2) := by decide +kernel
theorem dX7_stock_29 : decode cX7_stock 29 = .ok (.iload_n 1, 1) := by decide +kernel
theorem dX7_stock_30 : decode cX7_stock 30 = .ok (.iadd, 1) := by decide +kernel
theorem dX7_stock_31 : decode cX7_stock 31 = .ok (.iaload, 1) := by decide +kernel
theorem dX7_stock_32 : decode cX7_stock 32 = .ok (.goto 4, 3) := by decide +kernel
theorem dX7_stock_35 : decode cX7_stock 35 = .ok (.iconst 0, 1) := by decide +kernel
theorem dX7_stock_36 : decode cX7_stock 36 = .ok (.ireturn, 1) := by decide +kernel
theorem dX7_tells_0 : decode cX7_tells 0 = .ok (.aload_n 0, 1) := by decide +kernel
theorem dX7_tells_1 : decode cX7_tells 1 = .ok (.iconst 0, 1) := by decide +kernel
theorem dX7_tells_2 : decode cX7_tells 2 = .ok (.putfield 50, 3) := by decide +kernel
theorem dX7_tells_5 : decode cX7_tells 5 = .ok (.aload_n 0, 1) := by decide +kernel
theorem dX7_tells_6 : decode cX7_tells 6 = .ok (.getfield 16, 3) := by decide +kernel
theorem dX7_tells_9 : decode cX7_tells 9 = .ok (.iload_n 1, 1) := by decide +kernel
theorem dX7_tells_10 : decode cX7_tells 10 = .ok (.iaload, 1) := by decide +kernel
theorem dX7_tells_11 : decode cX7_tells 11 = .ok (.ireturn, 1) := by decide +kernel
theorem dX7_customerCount_0 : decode cX7_customerCount 0 = .ok (.aload_n 0, 1) := by decide +kernel
theorem dX7_customerCount_1 : decode cX7_customerCount 1 = .ok (.iconst 0, 1) := by decide +kernel
theorem dX7_customerCount_2 : decode cX7_customerCount 2 = .ok (.invokevirtual 178, 3) := by decide +kernel
theorem dX7_customerCount_5 : decode cX7_customerCount 5 = .ok (.ireturn, 1) := by decide +kernel
theorem dX7_pairs_0 : decode cX7_pairs 0 = .ok (.aload_n 0, 1) := by decide +kernel
theorem dX7_pairs_1 : decode cX7_pairs 1 = .ok (.aload_n 0, 1) := by decide +kernel
theorem dX7_pairs_2 : decode cX7_pairs 2 = .ok (.iload_n 1, 1) := by decide +kernel
theorem dX7_pairs_3 : decode cX7_pairs 3 = .ok (.invokevirtual 68, 3) := by decide +kernel
theorem dX7_pairs_6 : decode cX7_pairs 6 = .ok (.ifCond .eq 7, 3) := by decide +kernel
theorem dX7_pairs_9 : decode cX7_pairs 9 = .ok (.iconst 0, 1) := by decide +kernel
theorem dX7_pairs_10 : decode cX7_pairs 10 = .ok (.goto 4, 3) := by decide +kernel
theorem dX7_pairs_13 : decode cX7_pairs 13 = .ok (.iconst 1, 1) := by decide +kernel
theorem dX7_pairs_14 : decode cX7_pairs 14 = .ok (.putfield 50, 3) := by decide +kernel
theorem dX7_pairs_17 : decode cX7_pairs 17 = .ok (.aload_n 0, 1) := by decide +kernel
theorem dX7_pairs_18 : decode cX7_pairs 18 = .ok (.getfield 50, 3) := by decide +kernel
theorem dX7_pairs_21 : decode cX7_pairs 21 = .ok (.ifCond .ne 15, 3) := by decide +kernel
theorem dX7_pairs_24 : decode cX7_pairs 24 = .ok (.aload_n 0, 1) := by decide +kernel
theorem dX7_pairs_25 : decode cX7_pairs 25 = .ok (.getfield 16, 3) := by decide +kernel
theorem dX7_pairs_28 : decode cX7_pairs 28 = .ok (.iload_n 1, 1) := by decide +kernel
theorem dX7_pairs_29 : decode cX7_pairs 29 = .ok (.invokestatic 64, 3) := by decide +kernel
theorem dX7_pairs_32 : decode cX7_pairs 32 = .ok (.iaload, 1) := by decide +kernel
theorem dX7_pairs_33 : decode cX7_pairs 33 = .ok (.goto 4, 3) := by decide +kernel
theorem dX7_pairs_36 : decode cX7_pairs 36 = .ok (.iconst 0, 1) := by decide +kernel
theorem dX7_pairs_37 : decode cX7_pairs 37 = .ok (.ireturn, 1) := by decide +kernel
theorem dX7_legLength_0 : decode cX7_legLength 0 = .ok (.aload_n 0, 1) := by decide +kernel
theorem dX7_legLength_1 : decode cX7_legLength 1 = .ok (.aload_n 0, 1) := by decide +kernel
theorem dX7_legLength_2 : decode cX7_legLength 2 = .ok (.iload_n 1, 1) := by decide +kernel
theorem dX7_legLength_3 : decode cX7_legLength 3 = .ok (.iload_n 2, 1) := by decide +kernel
theorem dX7_legLength_4 : decode cX7_legLength 4 = .ok (.invokevirtual 106, 3) := by decide +kernel
theorem dX7_legLength_7 : decode cX7_legLength 7 = .ok (.ifCond .eq 7, 3) := by decide +kernel
theorem dX7_legLength_10 : decode cX7_legLength 10 = .ok (.iconst 0, 1) := by decide +kernel
theorem dX7_legLength_11 : decode cX7_legLength 11 = .ok (.goto 4, 3) := by decide +kernel
theorem dX7_legLength_14 : decode cX7_legLength 14 = .ok (.iconst 1, 1) := by decide +kernel
theorem dX7_legLength_15 : decode cX7_legLength 15 = .ok (.putfield 50, 3) := by decide +kernel
theorem dX7_legLength_18 : decode cX7_legLength 18 = .ok (.aload_n 0, 1) := by decide +kernel
theorem dX7_legLength_19 : decode cX7_legLength 19 = .ok (.getfield 50, 3) := by decide +kernel
theorem dX7_legLength_22 : decode cX7_legLength 22 = .ok (.ifCond .ne 12, 3) := by decide +kernel
theorem dX7_legLength_25 : decode cX7_legLength 25 = .ok (.aload_n 0, 1) := by decide +kernel
theorem dX7_legLength_26 : decode cX7_legLength 26 = .ok (.iload_n 1, 1) := by decide +kernel
theorem dX7_legLength_27 : decode cX7_legLength 27 = .ok (.iload_n 2, 1) := by decide +kernel
theorem dX7_legLength_28 : decode cX7_legLength 28 = .ok (.invokevirtual 82, 3) := by decide +kernel
theorem dX7_legLength_31 : decode cX7_legLength 31 = .ok (.goto 4, 3) := by decide +kernel
theorem dX7_legLength_34 : decode cX7_legLength 34 = .ok (.iconst 0, 1) := by decide +kernel
theorem dX7_legLength_35 : decode cX7_legLength 35 = .ok (.ireturn, 1) := by decide +kernel
theorem dX7_mirrorLeg_0 : decode cX7_mirrorLeg 0 = .ok (.aload_n 0, 1) := by decide +kernel
theorem dX7_mirrorLeg_1 : decode cX7_mirrorLeg 1 = .ok (.aload_n 0, 1) := by decide +kernel
theorem dX7_mirrorLeg_2 : decode cX7_mirrorLeg 2 = .ok (.iload_n 1, 1) := by decide +kernel
theorem dX7_mirrorLeg_3 : decode cX7_mirrorLeg 3 = .ok (.iload_n 2, 1) := by decide +kernel
theorem dX7_mirrorLeg_4 : decode cX7_mirrorLeg 4 = .ok (.invokevirtual 106, 3) := by decide +kernel
theorem dX7_mirrorLeg_7 : decode cX7_mirrorLeg 7 = .ok (.ifCond .eq 7, 3) := by decide +kernel
theorem dX7_mirrorLeg_10 : decode cX7_mirrorLeg 10 = .ok (.iconst 0, 1) := by decide +kernel
theorem dX7_mirrorLeg_11 : decode cX7_mirrorLeg 11 = .ok (.goto 4, 3) := by decide +kernel
theorem dX7_mirrorLeg_14 : decode cX7_mirrorLeg 14 = .ok (.iconst 1, 1) := by decide +kernel
theorem dX7_mirrorLeg_15 : decode cX7_mirrorLeg 15 = .ok (.putfield 50, 3) := by decide +kernel
theorem dX7_mirrorLeg_18 : decode cX7_mirrorLeg 18 = .ok (.aload_n 0, 1) := by decide +kernel
theorem dX7_mirrorLeg_19 : decode cX7_mirrorLeg 19 = .ok (.getfield 50, 3) := by decide +kernel
theorem dX7_mirrorLeg_22 : decode cX7_mirrorLeg 22 = .ok (.ifCond .ne 9, 3) := by decide +kernel
theorem dX7_mirrorLeg_25 : decode cX7_mirrorLeg 25 = .ok (.iload_n 2, 1) := by decide +kernel
theorem dX7_mirrorLeg_26 : decode cX7_mirrorLeg 26 = .ok (.iconst 1, 1) := by decide +kernel
theorem dX7_mirrorLeg_27 : decode cX7_mirrorLeg 27 = .ok (.ixor, 1) := by decide +kernel
theorem dX7_mirrorLeg_28 : decode cX7_mirrorLeg 28 = .ok (.goto 4, 3) := by decide +kernel
theorem dX7_mirrorLeg_31 : decode cX7_mirrorLeg 31 = .ok (.iconst 0, 1) := by decide +kernel
theorem dX7_mirrorLeg_32 : decode cX7_mirrorLeg 32 = .ok (.ireturn, 1) := by decide +kernel
theorem dX7_isMirrored_0 : decode cX7_isMirrored 0 = .ok (.aload_n 0, 1) := by decide +kernel
theorem dX7_isMirrored_1 : decode cX7_isMirrored 1 = .ok (.aload_n 0, 1) := by decide +kernel
theorem dX7_isMirrored_2 : decode cX7_isMirrored 2 = .ok (.iload_n 1, 1) := by decide +kernel
theorem dX7_isMirrored_3 : decode cX7_isMirrored 3 = .ok (.invokevirtual 68, 3) := by decide +kernel
theorem dX7_isMirrored_6 : decode cX7_isMirrored 6 = .ok (.ifCond .eq 7, 3) := by decide +kernel
theorem dX7_isMirrored_9 : decode cX7_isMirrored 9 = .ok (.iconst 0, 1) := by decide +kernel
theorem dX7_isMirrored_10 : decode cX7_isMirrored 10 = .ok (.goto 4, 3) := by decide +kernel
theorem dX7_isMirrored_13 : decode cX7_isMirrored 13 = .ok (.iconst 1, 1) := by decide +kernel
theorem dX7_isMirrored_14 : decode cX7_isMirrored 14 = .ok (.putfield 50, 3) := by decide +kernel
theorem dX7_isMirrored_17 : decode cX7_isMirrored 17 = .ok (.aload_n 0, 1) := by decide +kernel
theorem dX7_isMirrored_18 : decode cX7_isMirrored 18 = .ok (.getfield 50, 3) := by decide +kernel
theorem dX7_isMirrored_21 : decode cX7_isMirrored 21 = .ok (.ifCond .eq 5, 3) := by decide +kernel
theorem dX7_isMirrored_24 : decode cX7_isMirrored 24 = .ok (.iconst 0, 1) := by decide +kernel
theorem dX7_isMirrored_25 : decode cX7_isMirrored 25 = .ok (.ireturn, 1) := by decide +kernel
theorem dX7_isMirrored_26 : decode cX7_isMirrored 26 = .ok (.iconst 0, 1) := by decide +kernel
theorem dX7_isMirrored_27 : decode cX7_isMirrored 27 = .ok (.istore_n 2, 1) := by decide +kernel
theorem dX7_isMirrored_28 : decode cX7_isMirrored 28 = .ok (.iload_n 2, 1) := by decide +kernel
theorem dX7_isMirrored_29 : decode cX7_isMirrored 29 = .ok (.aload_n 0, 1) := by decide +kernel
theorem dX7_isMirrored_30 : decode cX7_isMirrored 30 = .ok (.iload_n 1, 1) := by decide +kernel
theorem dX7_isMirrored_31 : decode cX7_isMirrored 31 = .ok (.invokevirtual 72, 3) := by decide +kernel
theorem dX7_isMirrored_34 : decode cX7_isMirrored 34 = .ok (.if_icmp .ge 31, 3) := by decide +kernel
theorem dX7_isMirrored_37 : decode cX7_isMirrored 37 = .ok (.aload_n 0, 1) := by decide +kernel
theorem dX7_isMirrored_38 : decode cX7_isMirrored 38 = .ok (.iload_n 1, 1) := by decide +kernel
theorem dX7_isMirrored_39 : decode cX7_isMirrored 39 = .ok (.iload_n 2, 1) := by decide +kernel
theorem dX7_isMirrored_40 : decode cX7_isMirrored 40 = .ok (.invokevirtual 82, 3) := by decide +kernel
theorem dX7_isMirrored_43 : decode cX7_isMirrored 43 = .ok (.aload_n 0, 1) := by decide +kernel
theorem dX7_isMirrored_44 : decode cX7_isMirrored 44 = .ok (.iload_n 1, 1) := by decide +kernel
theorem dX7_isMirrored_45 : decode cX7_isMirrored 45 = .ok (.iload_n 2, 1) := by decide +kernel
theorem dX7_isMirrored_46 : decode cX7_isMirrored 46 = .ok (.iconst 1, 1) := by decide +kernel
theorem dX7_isMirrored_47 : decode cX7_isMirrored 47 = .ok (.iadd, 1) := by decide +kernel
theorem dX7_isMirrored_48 : decode cX7_isMirrored 48 = .ok (.invokevirtual 82, 3) := by decide +kernel
theorem dX7_isMirrored_51 : decode cX7_isMirrored 51 = .ok (.invokestatic 156, 3) := by decide +kernel
theorem dX7_isMirrored_54 : decode cX7_isMirrored 54 = .ok (.ifCond .ne 5, 3) := by decide +kernel
theorem dX7_isMirrored_57 : decode cX7_isMirrored 57 = .ok (.iconst 0, 1) := by decide +kernel
theorem dX7_isMirrored_58 : decode cX7_isMirrored 58 = .ok (.ireturn, 1) := by decide +kernel
theorem dX7_isMirrored_59 : decode cX7_isMirrored 59 = .ok (.iinc 2 2, 3) := by decide +kernel
theorem dX7_isMirrored_62 : decode cX7_isMirrored 62 = .ok (.goto (-34), 3) := by decide +kernel
theorem dX7_isMirrored_65 : decode cX7_isMirrored 65 = .ok (.iconst 1, 1) := by decide +kernel
theorem dX7_isMirrored_66 : decode cX7_isMirrored 66 = .ok (.ireturn, 1) := by decide +kernel
theorem dX7_all_0 : decode cX7_all 0 = .ok (.iconst 0, 1) := by decide +kernel
theorem dX7_all_1 : decode cX7_all 1 = .ok (.istore_n 2, 1) := by decide +kernel
theorem dX7_all_2 : decode cX7_all 2 = .ok (.iconst 0, 1) := by decide +kernel
theorem dX7_all_3 : decode cX7_all 3 = .ok (.istore_n 3, 1) := by decide +kernel
theorem dX7_all_4 : decode cX7_all 4 = .ok (.iload_n 3, 1) := by decide +kernel
theorem dX7_all_5 : decode cX7_all 5 = .ok (.aload_n 0, 1) := by decide +kernel
theorem dX7_all_6 : decode cX7_all 6 = .ok (.iload_n 1, 1) := by decide +kernel
theorem dX7_all_7 : decode cX7_all 7 = .ok (.invokevirtual 72, 3) := by decide +kernel
theorem dX7_all_10 : decode cX7_all 10 = .ok (.if_icmp .ge 18, 3) := by decide +kernel
theorem dX7_all_13 : decode cX7_all 13 = .ok (.iload_n 2, 1) := by decide +kernel
theorem dX7_all_14 : decode cX7_all 14 = .ok (.aload_n 0, 1) := by decide +kernel
theorem dX7_all_15 : decode cX7_all 15 = .ok (.iload_n 1, 1) := by decide +kernel
theorem dX7_all_16 : decode cX7_all 16 = .ok (.iload_n 3, 1) := by decide +kernel
theorem dX7_all_17 : decode cX7_all 17 = .ok (.invokevirtual 82, 3) := by decide +kernel
theorem dX7_all_20 : decode cX7_all 20 = .ok (.iadd, 1) := by decide +kernel
theorem dX7_all_21 : decode cX7_all 21 = .ok (.istore_n 2, 1) := by decide +kernel
theorem dX7_all_22 : decode cX7_all 22 = .ok (.iinc 3 1, 3) := by decide +kernel
theorem dX7_all_25 : decode cX7_all 25 = .ok (.goto (-21), 3) := by decide +kernel
theorem dX7_all_28 : decode cX7_all 28 = .ok (.iload_n 2, 1) := by decide +kernel
theorem dX7_all_29 : decode cX7_all 29 = .ok (.ireturn, 1) := by decide +kernel
theorem dX7_customerByLegs_0 : decode cX7_customerByLegs 0 = .ok (.aload_n 0, 1) := by decide +kernel
theorem dX7_customerByLegs_1 : decode cX7_customerByLegs 1 = .ok (.iconst 0, 1) := by decide +kernel
theorem dX7_customerByLegs_2 : decode cX7_customerByLegs 2 = .ok (.putfield 50, 3) := by decide +kernel
theorem dX7_customerByLegs_5 : decode cX7_customerByLegs 5 = .ok (.iconst 0, 1) := by decide +kernel
theorem dX7_customerByLegs_6 : decode cX7_customerByLegs 6 = .ok (.istore_n 2, 1) := by decide +kernel
theorem dX7_customerByLegs_7 : decode cX7_customerByLegs 7 = .ok (.iload_n 2, 1) := by decide +kernel
theorem dX7_customerByLegs_8 : decode cX7_customerByLegs 8 = .ok (.aload_n 0, 1) := by decide +kernel
theorem dX7_customerByLegs_9 : decode cX7_customerByLegs 9 = .ok (.getfield 16, 3) := by decide +kernel
theorem dX7_customerByLegs_12 : decode cX7_customerByLegs 12 = .ok (.iconst 0, 1) := by decide +kernel
theorem dX7_customerByLegs_13 : decode cX7_customerByLegs 13 = .ok (.iaload, 1) := by decide +kernel
theorem dX7_customerByLegs_14 : decode cX7_customerByLegs 14 = .ok (.if_icmp .ge 80, 3) := by decide +kernel
theorem dX7_customerByLegs_17 : decode cX7_customerByLegs 17 = .ok (.iconst 0, 1) := by decide +kernel
theorem dX7_customerByLegs_18 : decode cX7_customerByLegs 18 = .ok (.istore_n 3, 1) := by decide +kernel
theorem dX7_customerByLegs_19 : decode cX7_customerByLegs 19 = .ok (.iconst 0, 1) := by decide +kernel
theorem dX7_customerByLegs_20 : decode cX7_customerByLegs 20 = .ok (.istore 4, 2) := by decide +kernel
theorem dX7_customerByLegs_22 : decode cX7_customerByLegs 22 = .ok (.iload 4, 2) := by decide +kernel
theorem dX7_customerByLegs_24 : decode cX7_customerByLegs 24 = .ok (.aload_n 0, 1) := by decide +kernel
theorem dX7_customerByLegs_25 : decode cX7_customerByLegs 25 = .ok (.getfield 16, 3) := by decide +kernel
theorem dX7_customerByLegs_28 : decode cX7_customerByLegs 28 = .ok (.iconst 0, 1) := by decide +kernel
theorem dX7_customerByLegs_29 : decode cX7_customerByLegs 29 = .ok (.iaload, 1) := by decide +kernel
theorem dX7_customerByLegs_30 : decode cX7_customerByLegs 30 = .ok (.if_icmp .ge 51, 3) := by decide +kernel
theorem dX7_customerByLegs_33 : decode cX7_customerByLegs 33 = .ok (.iload_n 3, 1) := by decide +kernel
theorem dX7_customerByLegs_34 : decode cX7_customerByLegs 34 = .ok (.aload_n 0, 1) := by decide +kernel
theorem dX7_customerByLegs_35 : decode cX7_customerByLegs 35 = .ok (.iload 4, 2) := by decide +kernel
theorem dX7_customerByLegs_37 : decode cX7_customerByLegs 37 = .ok (.invokevirtual 181, 3) := by decide +kernel
theorem dX7_customerByLegs_40 : decode cX7_customerByLegs 40 = .ok (.aload_n 0, 1) := by decide +kernel
theorem dX7_customerByLegs_41 : decode cX7_customerByLegs 41 = .ok (.iload_n 2, 1) := by decide +kernel
theorem dX7_customerByLegs_42 : decode cX7_customerByLegs 42 = .ok (.invokevirtual 181, 3) := by decide +kernel
theorem dX7_customerByLegs_45 : decode cX7_customerByLegs 45 = .ok (.if_icmp .gt 23, 3) := by decide +kernel
theorem dX7_customerByLegs_48 : decode cX7_customerByLegs 48 = .ok (.aload_n 0, 1) := by decide +kernel
theorem dX7_customerByLegs_49 : decode cX7_customerByLegs 49 = .ok (.iload 4, 2) := by decide +kernel
theorem dX7_customerByLegs_51 : decode cX7_customerByLegs 51 = .ok (.invokevirtual 181, 3) := by decide +kernel
theorem dX7_customerByLegs_54 : decode cX7_customerByLegs 54 = .ok (.aload_n 0, 1) := by decide +kernel
theorem dX7_customerByLegs_55 : decode cX7_customerByLegs 55 = .ok (.iload_n 2, 1) := by decide +kernel
theorem dX7_customerByLegs_56 : decode cX7_customerByLegs 56 = .ok (.invokevirtual 181, 3) := by decide +kernel
theorem dX7_customerByLegs_59 : decode cX7_customerByLegs 59 = .ok (.if_icmp .ne 13, 3) := by decide +kernel
theorem dX7_customerByLegs_62 : decode cX7_customerByLegs 62 = .ok (.iload 4, 2) := by decide +kernel
theorem dX7_customerByLegs_64 : decode cX7_customerByLegs 64 = .ok (.iload_n 2, 1) := by decide +kernel
theorem dX7_customerByLegs_65 : decode cX7_customerByLegs 65 = .ok (.if_icmp .ge 7, 3) := by decide +kernel
theorem dX7_customerByLegs_68 : decode cX7_customerByLegs 68 = .ok (.iconst 1, 1) := by decide +kernel
theorem dX7_customerByLegs_69 : decode cX7_customerByLegs 69 = .ok (.goto 4, 3) := by decide +kernel
theorem dX7_customerByLegs_72 : decode cX7_customerByLegs 72 = .ok (.iconst 0, 1) := by decide +kernel
theorem dX7_customerByLegs_73 : decode cX7_customerByLegs 73 = .ok (.iadd, 1) := by decide +kernel
theorem dX7_customerByLegs_74 : decode cX7_customerByLegs 74 = .ok (.istore_n 3, 1) := by decide +kernel
theorem dX7_customerByLegs_75 : decode cX7_customerByLegs 75 = .ok (.iinc 4 1, 3) := by decide +kernel
theorem dX7_customerByLegs_78 : decode cX7_customerByLegs 78 = .ok (.goto (-56), 3) := by decide +kernel
theorem dX7_customerByLegs_81 : decode cX7_customerByLegs 81 = .ok (.iload_n 3, 1) := by decide +kernel
theorem dX7_customerByLegs_82 : decode cX7_customerByLegs 82 = .ok (.iload_n 1, 1) := by decide +kernel
theorem dX7_customerByLegs_83 : decode cX7_customerByLegs 83 = .ok (.if_icmp .ne 5, 3) := by decide +kernel
theorem dX7_customerByLegs_86 : decode cX7_customerByLegs 86 = .ok (.iload_n 2, 1) := by decide +kernel
theorem dX7_customerByLegs_87 : decode cX7_customerByLegs 87 = .ok (.ireturn, 1) := by decide +kernel
theorem dX7_customerByLegs_88 : decode cX7_customerByLegs 88 = .ok (.iinc 2 1, 3) := by decide +kernel
theorem dX7_customerByLegs_91 : decode cX7_customerByLegs 91 = .ok (.goto (-84), 3) := by decide +kernel
theorem dX7_customerByLegs_94 : decode cX7_customerByLegs 94 = .ok (.aload_n 0, 1) := by decide +kernel
theorem dX7_customerByLegs_95 : decode cX7_customerByLegs 95 = .ok (.iconst 1, 1) := by decide +kernel
theorem dX7_customerByLegs_96 : decode cX7_customerByLegs 96 = .ok (.invokevirtual 91, 3) := by decide +kernel
theorem dX7_customerByLegs_99 : decode cX7_customerByLegs 99 = .ok (.ireturn, 1) := by decide +kernel
theorem dX7_suitCount_0 : decode cX7_suitCount 0 = .ok (.aload_n 0, 1) := by decide +kernel
theorem dX7_suitCount_1 : decode cX7_suitCount 1 = .ok (.iconst 1, 1) := by decide +kernel
theorem dX7_suitCount_2 : decode cX7_suitCount 2 = .ok (.invokevirtual 178, 3) := by decide +kernel
theorem dX7_suitCount_5 : decode cX7_suitCount 5 = .ok (.ireturn, 1) := by decide +kernel
theorem dX7_suitAt_0 : decode cX7_suitAt 0 = .ok (.aload_n 0, 1) := by decide +kernel
theorem dX7_suitAt_1 : decode cX7_suitAt 1 = .ok (.iload_n 1, 1) := by decide +kernel
theorem dX7_suitAt_2 : decode cX7_suitAt 2 = .ok (.iconst 0, 1) := by decide +kernel
theorem dX7_suitAt_3 : decode cX7_suitAt 3 = .ok (.aload_n 0, 1) := by decide +kernel
theorem dX7_suitAt_4 : decode cX7_suitAt 4 = .ok (.getfield 16, 3) := by decide +kernel
theorem dX7_suitAt_7 : decode cX7_suitAt 7 = .ok (.iconst 1, 1) := by decide +kernel
theorem dX7_suitAt_8 : decode cX7_suitAt 8 = .ok (.iaload, 1) := by decide +kernel
theorem dX7_suitAt_9 : decode cX7_suitAt 9 = .ok (.iconst 1, 1) := by decide +kernel
theorem dX7_suitAt_10 : decode cX7_suitAt 10 = .ok (.isub, 1) := by decide +kernel
theorem dX7_suitAt_11 : decode cX7_suitAt 11 = .ok (.invokestatic 60, 3) := by decide +kernel
theorem dX7_suitAt_14 : decode cX7_suitAt 14 = .ok (.ifCond .eq 7, 3) := by decide +kernel
theorem dX7_suitAt_17 : decode cX7_suitAt 17 = .ok (.iconst 0, 1) := by decide +kernel
theorem dX7_suitAt_18 : decode cX7_suitAt 18 = .ok (.goto 4, 3) := by decide +kernel
theorem dX7_suitAt_21 : decode cX7_suitAt 21 = .ok (.iconst 1, 1) := by decide +kernel
theorem dX7_suitAt_22 : decode cX7_suitAt 22 = .ok (.putfield 50, 3) := by decide +kernel
theorem dX7_suitAt_25 : decode cX7_suitAt 25 = .ok (.aload_n 0, 1) := by decide +kernel
theorem dX7_suitAt_26 : decode cX7_suitAt 26 = .ok (.getfield 50, 3) := by decide +kernel
theorem dX7_suitAt_29 : decode cX7_suitAt 29 = .ok (.ifCond .ne 16, 3) := by decide +kernel
theorem dX7_suitAt_32 : decode cX7_suitAt 32 = .ok (.aload_n 0, 1) := by decide +kernel
theorem dX7_suitAt_33 : decode cX7_suitAt 33 = .ok (.getfield 16, 3) := by decide +kernel
theorem dX7_suitAt_36 : decode cX7_suitAt 36 = .ok (.iload_n 1, 1) := by decide +kernel
theorem dX7_suitAt_37 : decode cX7_suitAt 37 = .ok (.iconst 0, 1) := by decide +kernel
theorem dX7_suitAt_38 : decode cX7_suitAt 38 = .ok (.invokestatic 75, 3) := by decide +kernel
theorem dX7_suitAt_41 : decode cX7_suitAt 41 = .ok (.iaload, 1) := by decide +kernel
theorem dX7_suitAt_42 : decode cX7_suitAt 42 = .ok (.goto 4, 3) := by decide +kernel
theorem dX7_suitAt_45 : decode cX7_suitAt 45 = .ok (.iconst 0, 1) := by decide +kernel
theorem dX7_suitAt_46 : decode cX7_suitAt 46 = .ok (.ireturn, 1) := by decide +kernel
theorem dX7_tellsOf_0 : decode cX7_tellsOf 0 = .ok (.aload_n 0, 1) := by decide +kernel
theorem dX7_tellsOf_1 : decode cX7_tellsOf 1 = .ok (.aload_n 0, 1) := by decide +kernel
theorem dX7_tellsOf_2 : decode cX7_tellsOf 2 = .ok (.iload_n 1, 1) := by decide +kernel
theorem dX7_tellsOf_3 : decode cX7_tellsOf 3 = .ok (.invokevirtual 123, 3) := by decide +kernel
theorem dX7_tellsOf_6 : decode cX7_tellsOf 6 = .ok (.ifCond .ge 7, 3) := by decide +kernel
theorem dX7_tellsOf_9 : decode cX7_tellsOf 9 = .ok (.iconst 1, 1) := by decide +kernel
theorem dX7_tellsOf_10 : decode cX7_tellsOf 10 = .ok (.goto 4, 3) := by decide +kernel
theorem dX7_tellsOf_13 : decode cX7_tellsOf 13 = .ok (.iconst 0, 1) := by decide +kernel
theorem dX7_tellsOf_14 : decode cX7_tellsOf 14 = .ok (.putfield 50, 3) := by decide +kernel
theorem dX7_tellsOf_17 : decode cX7_tellsOf 17 = .ok (.aload_n 0, 1) := by decide +kernel
theorem dX7_tellsOf_18 : decode cX7_tellsOf 18 = .ok (.getfield 50, 3) := by decide +kernel
theorem dX7_tellsOf_21 : decode cX7_tellsOf 21 = .ok (.ifCond .ne 20, 3) := by decide +kernel
theorem dX7_tellsOf_24 : decode cX7_tellsOf 24 = .ok (.aload_n 0, 1) := by decide +kernel
theorem dX7_tellsOf_25 : decode cX7_tellsOf 25 = .ok (.getfield 16, 3) := by decide +kernel
theorem dX7_tellsOf_28 : decode cX7_tellsOf 28 = .ok (.aload_n 0, 1) := by decide +kernel
theorem dX7_tellsOf_29 : decode cX7_tellsOf 29 = .ok (.iload_n 1, 1) := by decide +kernel
theorem dX7_tellsOf_30 : decode cX7_tellsOf 30 = .ok (.invokevirtual 123, 3) := by decide +kernel
theorem dX7_tellsOf_33 : decode cX7_tellsOf 33 = .ok (.iload_n 2, 1) := by decide +kernel
theorem dX7_tellsOf_34 : decode cX7_tellsOf 34 = .ok (.invokestatic 75, 3) := by decide +kernel
theorem dX7_tellsOf_37 : decode cX7_tellsOf 37 = .ok (.iaload, 1) := by decide +kernel
theorem dX7_tellsOf_38 : decode cX7_tellsOf 38 = .ok (.goto 4, 3) := by decide +kernel
theorem dX7_tellsOf_41 : decode cX7_tellsOf 41 = .ok (.iconst 0, 1) := by decide +kernel
theorem dX7_tellsOf_42 : decode cX7_tellsOf 42 = .ok (.ireturn, 1) := by decide +kernel
theorem dX7_customerOf_0 : decode cX7_customerOf 0 = .ok (.aload_n 0, 1) := by decide +kernel
theorem dX7_customerOf_1 : decode cX7_customerOf 1 = .ok (.iload_n 1, 1) := by decide +kernel
theorem dX7_customerOf_2 : decode cX7_customerOf 2 = .ok (.iconst 1, 1) := by decide +kernel
theorem dX7_customerOf_3 : decode cX7_customerOf 3 = .ok (.invokevirtual 184, 3) := by decide +kernel
theorem dX7_customerOf_6 : decode cX7_customerOf 6 = .ok (.ireturn, 1) := by decide +kernel
theorem dX7_clothOf_0 : decode cX7_clothOf 0 = .ok (.aload_n 0, 1) := by decide +kernel
theorem dX7_clothOf_1 : decode cX7_clothOf 1 = .ok (.iload_n 1, 1) := by decide +kernel
theorem dX7_clothOf_2 : decode cX7_clothOf 2 = .ok (.iconst 2, 1) := by decide +kernel
theorem dX7_clothOf_3 : decode cX7_clothOf 3 = .ok (.invokevirtual 184, 3) := by decide +kernel
theorem dX7_clothOf_6 : decode cX7_clothOf 6 = .ok (.ireturn, 1) := by decide +kernel
theorem dX7_looks_0 : decode cX7_looks 0 = .ok (.aload_n 0, 1) := by decide +kernel
theorem dX7_looks_1 : decode cX7_looks 1 = .ok (.aload_n 0, 1) := by decide +kernel
theorem dX7_looks_2 : decode cX7_looks 2 = .ok (.iload_n 1, 1) := by decide +kernel
theorem dX7_looks_3 : decode cX7_looks 3 = .ok (.invokevirtual 123, 3) := by decide +kernel
theorem dX7_looks_6 : decode cX7_looks 6 = .ok (.ifCond .ge 7, 3) := by decide +kernel
theorem dX7_looks_9 : decode cX7_looks 9 = .ok (.iconst 1, 1) := by decide +kernel
theorem dX7_looks_10 : decode cX7_looks 10 = .ok (.goto 21, 3) := by decide +kernel
theorem dX7_looks_13 : decode cX7_looks 13 = .ok (.aload_n 0, 1) := by decide +kernel
theorem dX7_looks_14 : decode cX7_looks 14 = .ok (.aload_n 0, 1) := by decide +kernel
theorem dX7_looks_15 : decode cX7_looks 15 = .ok (.iload_n 1, 1) := by decide +kernel
theorem dX7_looks_16 : decode cX7_looks 16 = .ok (.invokevirtual 123, 3) := by decide +kernel
theorem dX7_looks_19 : decode cX7_looks 19 = .ok (.iload_n 2, 1) := by decide +kernel
theorem dX7_looks_20 : decode cX7_looks 20 = .ok (.invokevirtual 117, 3) := by decide +kernel
theorem dX7_looks_23 : decode cX7_looks 23 = .ok (.ifCond .eq 7, 3) := by decide +kernel
theorem dX7_looks_26 : decode cX7_looks 26 = .ok (.iconst 0, 1) := by decide +kernel
theorem dX7_looks_27 : decode cX7_looks 27 = .ok (.goto 4, 3) := by decide +kernel
theorem dX7_looks_30 : decode cX7_looks 30 = .ok (.iconst 2, 1) := by decide +kernel
theorem dX7_looks_31 : decode cX7_looks 31 = .ok (.putfield 50, 3) := by decide +kernel
theorem dX7_looks_34 : decode cX7_looks 34 = .ok (.aload_n 0, 1) := by decide +kernel
theorem dX7_looks_35 : decode cX7_looks 35 = .ok (.getfield 50, 3) := by decide +kernel
theorem dX7_looks_38 : decode cX7_looks 38 = .ok (.ireturn, 1) := by decide +kernel
theorem dX7_sleeveState_0 : decode cX7_sleeveState 0 = .ok (.aload_n 0, 1) := by decide +kernel
theorem dX7_sleeveState_1 : decode cX7_sleeveState 1 = .ok (.iload_n 1, 1) := by decide +kernel
theorem dX7_sleeveState_2 : decode cX7_sleeveState 2 = .ok (.iload_n 2, 1) := by decide +kernel
theorem dX7_sleeveState_3 : decode cX7_sleeveState 3 = .ok (.invokevirtual 187, 3) := by decide +kernel
theorem dX7_sleeveState_6 : decode cX7_sleeveState 6 = .ok (.ifCond .eq 6, 3) := by decide +kernel
theorem dX7_sleeveState_9 : decode cX7_sleeveState 9 = .ok (.bipush 97, 2) := by decide +kernel
theorem dX7_sleeveState_11 : decode cX7_sleeveState 11 = .ok (.ireturn, 1) := by decide +kernel
theorem dX7_sleeveState_12 : decode cX7_sleeveState 12 = .ok (.aload_n 0, 1) := by decide +kernel
theorem dX7_sleeveState_13 : decode cX7_sleeveState 13 = .ok (.aload_n 0, 1) := by decide +kernel
theorem dX7_sleeveState_14 : decode cX7_sleeveState 14 = .ok (.iload_n 1, 1) := by decide +kernel
theorem dX7_sleeveState_15 : decode cX7_sleeveState 15 = .ok (.invokevirtual 123, 3) := by decide +kernel
theorem dX7_sleeveState_18 : decode cX7_sleeveState 18 = .ok (.iload_n 2, 1) := by decide +kernel
theorem dX7_sleeveState_19 : decode cX7_sleeveState 19 = .ok (.invokevirtual 85, 3) := by decide +kernel
theorem dX7_sleeveState_22 : decode cX7_sleeveState 22 = .ok (.istore_n 3, 1) := by decide +kernel
theorem dX7_sleeveState_23 : decode cX7_sleeveState 23 = .ok (.iload_n 3, 1) := by decide +kernel
theorem dX7_sleeveState_24 : decode cX7_sleeveState 24 = .ok (.ifCond .ne 8, 3) := by decide +kernel
theorem dX7_sleeveState_27 : decode cX7_sleeveState 27 = .ok (.bipush 112, 2) := by decide +kernel
theorem dX7_sleeveState_29 : decode cX7_sleeveState 29 = .ok (.goto 15, 3) := by decide +kernel
theorem dX7_sleeveState_32 : decode cX7_sleeveState 32 = .ok (.iload_n 3, 1) := by decide +kernel
theorem dX7_sleeveState_33 : decode cX7_sleeveState 33 = .ok (.iconst 1, 1) := by decide +kernel
theorem dX7_sleeveState_34 : decode cX7_sleeveState 34 = .ok (.if_icmp .ne 8, 3) := by decide +kernel
theorem dX7_sleeveState_37 : decode cX7_sleeveState 37 = .ok (.bipush 99, 2) := by decide +kernel
theorem dX7_sleeveState_39 : decode cX7_sleeveState 39 = .ok (.goto 5, 3) := by decide +kernel
theorem dX7_sleeveState_42 : decode cX7_sleeveState 42 = .ok (.bipush 115, 2) := by decide +kernel
theorem dX7_sleeveState_44 : decode cX7_sleeveState 44 = .ok (.ireturn, 1) := by decide +kernel
theorem dX7_looksCut_0 : decode cX7_looksCut 0 = .ok (.aload_n 0, 1) := by decide +kernel
theorem dX7_looksCut_1 : decode cX7_looksCut 1 = .ok (.iload_n 1, 1) := by decide +kernel
theorem dX7_looksCut_2 : decode cX7_looksCut 2 = .ok (.iload_n 2, 1) := by decide +kernel
theorem dX7_looksCut_3 : decode cX7_looksCut 3 = .ok (.invokevirtual 187, 3) := by decide +kernel
theorem dX7_looksCut_6 : decode cX7_looksCut 6 = .ok (.ifCond .ne 25, 3) := by decide +kernel
theorem dX7_looksCut_9 : decode cX7_looksCut 9 = .ok (.aload_n 0, 1) := by decide +kernel
theorem dX7_looksCut_10 : decode cX7_looksCut 10 = .ok (.aload_n 0, 1) := by decide +kernel
theorem dX7_looksCut_11 : decode cX7_looksCut 11 = .ok (.aload_n 0, 1) := by decide +kernel
theorem dX7_looksCut_12 : decode cX7_looksCut 12 = .ok (.iload_n 1, 1) := by decide +kernel
theorem dX7_looksCut_13 : decode cX7_looksCut 13 = .ok (.invokevirtual 123, 3) := by decide +kernel
theorem dX7_looksCut_16 : decode cX7_looksCut 16 = .ok (.iload_n 2, 1) := by decide +kernel
theorem dX7_looksCut_17 : decode cX7_looksCut 17 = .ok (.invokevirtual 85, 3) := by decide +kernel
theorem dX7_looksCut_20 : decode cX7_looksCut 20 = .ok (.ifCond .ne 7, 3) := by decide +kernel
theorem dX7_looksCut_23 : decode cX7_looksCut 23 = .ok (.iconst 3, 1) := by decide +kernel
theorem dX7_looksCut_24 : decode cX7_looksCut 24 = .ok (.goto 4, 3) := by decide +kernel
theorem dX7_looksCut_27 : decode cX7_looksCut 27 = .ok (.iconst 0, 1) := by decide +kernel
theorem dX7_looksCut_28 : decode cX7_looksCut 28 = .ok (.putfield 50, 3) := by decide +kernel
theorem dX7_looksCut_31 : decode cX7_looksCut 31 = .ok (.aload_n 0, 1) := by decide +kernel
theorem dX7_looksCut_32 : decode cX7_looksCut 32 = .ok (.getfield 50, 3) := by decide +kernel
theorem dX7_looksCut_35 : decode cX7_looksCut 35 = .ok (.ireturn, 1) := by decide +kernel
theorem dX7_sleeveLength_0 : decode cX7_sleeveLength 0 = .ok (.aload_n 0, 1) := by decide +kernel
theorem dX7_sleeveLength_1 : decode cX7_sleeveLength 1 = .ok (.iload_n 1, 1) := by decide +kernel
theorem dX7_sleeveLength_2 : decode cX7_sleeveLength 2 = .ok (.iload_n 2, 1) := by decide +kernel
theorem dX7_sleeveLength_3 : decode cX7_sleeveLength 3 = .ok (.invokevirtual 190, 3) := by decide +kernel
theorem dX7_sleeveLength_6 : decode cX7_sleeveLength 6 = .ok (.ifCond .ne 16, 3) := by decide +kernel
theorem dX7_sleeveLength_9 : decode cX7_sleeveLength 9 = .ok (.aload_n 0, 1) := by decide +kernel
theorem dX7_sleeveLength_10 : decode cX7_sleeveLength 10 = .ok (.aload_n 0, 1) := by decide +kernel
theorem dX7_sleeveLength_11 : decode cX7_sleeveLength 11 = .ok (.iload_n 1, 1) := by decide +kernel
theorem dX7_sleeveLength_12 : decode cX7_sleeveLength 12 = .ok (.invokevirtual 123, 3) := by decide +kernel
theorem dX7_sleeveLength_15 : decode cX7_sleeveLength 15 = .ok (.iload_n 2, 1) := by decide +kernel
theorem dX7_sleeveLength_16 : decode cX7_sleeveLength 16 = .ok (.invokevirtual 141, 3) := by decide +kernel
theorem dX7_sleeveLength_19 : decode cX7_sleeveLength 19 = .ok (.goto 4, 3) := by decide +kernel
theorem dX7_sleeveLength_22 : decode cX7_sleeveLength 22 = .ok (.iconst 0, 1) := by decide +kernel
theorem dX7_sleeveLength_23 : decode cX7_sleeveLength 23 = .ok (.ireturn, 1) := by decide +kernel
theorem dX7_doesFit_0 : decode cX7_doesFit 0 = .ok (.aload_n 0, 1) := by decide +kernel
theorem dX7_doesFit_1 : decode cX7_doesFit 1 = .ok (.iload_n 1, 1) := by decide +kernel
theorem dX7_doesFit_2 : decode cX7_doesFit 2 = .ok (.iload_n 2, 1) := by decide +kernel
theorem dX7_doesFit_3 : decode cX7_doesFit 3 = .ok (.invokevirtual 190, 3) := by decide +kernel
theorem dX7_doesFit_6 : decode cX7_doesFit 6 = .ok (.ifCond .ne 30, 3) := by decide +kernel
theorem dX7_doesFit_9 : decode cX7_doesFit 9 = .ok (.aload_n 0, 1) := by decide +kernel
theorem dX7_doesFit_10 : decode cX7_doesFit 10 = .ok (.aload_n 0, 1) := by decide +kernel
theorem dX7_doesFit_11 : decode cX7_doesFit 11 = .ok (.iload_n 1, 1) := by decide +kernel
theorem dX7_doesFit_12 : decode cX7_doesFit 12 = .ok (.invokevirtual 123, 3) := by decide +kernel
theorem dX7_doesFit_15 : decode cX7_doesFit 15 = .ok (.iload_n 2, 1) := by decide +kernel
theorem dX7_doesFit_16 : decode cX7_doesFit 16 = .ok (.invokevirtual 141, 3) := by decide +kernel
theorem dX7_doesFit_19 : decode cX7_doesFit 19 = .ok (.aload_n 0, 1) := by decide +kernel
theorem dX7_doesFit_20 : decode cX7_doesFit 20 = .ok (.aload_n 0, 1) := by decide +kernel
theorem dX7_doesFit_21 : decode cX7_doesFit 21 = .ok (.iload_n 1, 1) := by decide +kernel
theorem dX7_doesFit_22 : decode cX7_doesFit 22 = .ok (.invokevirtual 123, 3) := by decide +kernel
theorem dX7_doesFit_25 : decode cX7_doesFit 25 = .ok (.iload_n 2, 1) := by decide +kernel
theorem dX7_doesFit_26 : decode cX7_doesFit 26 = .ok (.invokevirtual 120, 3) := by decide +kernel
theorem dX7_doesFit_29 : decode cX7_doesFit 29 = .ok (.if_icmp .ne 7, 3) := by decide +kernel
theorem dX7_doesFit_32 : decode cX7_doesFit 32 = .ok (.iconst 1, 1) := by decide +kernel
theorem dX7_doesFit_33 : decode cX7_doesFit 33 = .ok (.goto 4, 3) := by decide +kernel
theorem dX7_doesFit_36 : decode cX7_doesFit 36 = .ok (.iconst 0, 1) := by decide +kernel
theorem dX7_doesFit_37 : decode cX7_doesFit 37 = .ok (.ireturn, 1) := by decide +kernel
theorem dX7_sewnSleeves_0 : decode cX7_sewnSleeves 0 = .ok (.aload_n 0, 1) := by decide +kernel
theorem dX7_sewnSleeves_1 : decode cX7_sewnSleeves 1 = .ok (.aload_n 0, 1) := by decide +kernel
theorem dX7_sewnSleeves_2 : decode cX7_sewnSleeves 2 = .ok (.iload_n 1, 1) := by decide +kernel
theorem dX7_sewnSleeves_3 : decode cX7_sewnSleeves 3 = .ok (.invokevirtual 123, 3) := by decide +kernel
theorem dX7_sewnSleeves_6 : decode cX7_sewnSleeves 6 = .ok (.ifCond .ge 7, 3) := by decide +kernel
theorem dX7_sewnSleeves_9 : decode cX7_sewnSleeves 9 = .ok (.iconst 1, 1) := by decide +kernel
theorem dX7_sewnSleeves_10 : decode cX7_sewnSleeves 10 = .ok (.goto 4, 3) := by decide +kernel
theorem dX7_sewnSleeves_13 : decode cX7_sewnSleeves 13 = .ok (.iconst 0, 1) := by decide +kernel
theorem dX7_sewnSleeves_14 : decode cX7_sewnSleeves 14 = .ok (.putfield 50, 3) := by decide +kernel
theorem dX7_sewnSleeves_17 : decode cX7_sewnSleeves 17 = .ok (.aload_n 0, 1) := by decide +kernel
theorem dX7_sewnSleeves_18 : decode cX7_sewnSleeves 18 = .ok (.getfield 50, 3) := by decide +kernel
theorem dX7_sewnSleeves_21 : decode cX7_sewnSleeves 21 = .ok (.ifCond .ne 16, 3) := by decide +kernel
theorem dX7_sewnSleeves_24 : decode cX7_sewnSleeves 24 = .ok (.aload_n 0, 1) := by decide +kernel
theorem dX7_sewnSleeves_25 : decode cX7_sewnSleeves 25 = .ok (.aload_n 0, 1) := by decide +kernel
theorem dX7_sewnSleeves_26 : decode cX7_sewnSleeves 26 = .ok (.iload_n 1, 1) := by decide +kernel
theorem dX7_sewnSleeves_27 : decode cX7_sewnSleeves 27 = .ok (.invokevirtual 123, 3) := by decide +kernel
theorem dX7_sewnSleeves_30 : decode cX7_sewnSleeves 30 = .ok (.iconst 2, 1) := by decide +kernel
theorem dX7_sewnSleeves_31 : decode cX7_sewnSleeves 31 = .ok (.invokevirtual 135, 3) := by decide +kernel
theorem dX7_sewnSleeves_34 : decode cX7_sewnSleeves 34 = .ok (.goto 4, 3) := by decide +kernel
theorem dX7_sewnSleeves_37 : decode cX7_sewnSleeves 37 = .ok (.iconst 0, 1) := by decide +kernel
theorem dX7_sewnSleeves_38 : decode cX7_sewnSleeves 38 = .ok (.ireturn, 1) := by decide +kernel
theorem dX7_demandCount_0 : decode cX7_demandCount 0 = .ok (.aload_n 0, 1) := by decide +kernel
theorem dX7_demandCount_1 : decode cX7_demandCount 1 = .ok (.iload_n 1, 1) := by decide +kernel
theorem dX7_demandCount_2 : decode cX7_demandCount 2 = .ok (.iconst 3, 1) := by decide +kernel
theorem dX7_demandCount_3 : decode cX7_demandCount 3 = .ok (.invokevirtual 184, 3) := by decide +kernel
theorem dX7_demandCount_6 : decode cX7_demandCount 6 = .ok (.ireturn, 1) := by decide +kernel
theorem dX7_isBefore_0 : decode cX7_isBefore 0 = .ok (.aload_n 0, 1) := by decide +kernel
theorem dX7_isBefore_1 : decode cX7_isBefore 1 = .ok (.iload_n 1, 1) := by decide +kernel
theorem dX7_isBefore_2 : decode cX7_isBefore 2 = .ok (.iload_n 2, 1) := by decide +kernel
theorem dX7_isBefore_3 : decode cX7_isBefore 3 = .ok (.invokevirtual 187, 3) := by decide +kernel
theorem dX7_isBefore_6 : decode cX7_isBefore 6 = .ok (.ifCond .ne 12, 3) := by decide +kernel
theorem dX7_isBefore_9 : decode cX7_isBefore 9 = .ok (.aload_n 0, 1) := by decide +kernel
theorem dX7_isBefore_10 : decode cX7_isBefore 10 = .ok (.iload_n 1, 1) := by decide +kernel
theorem dX7_isBefore_11 : decode cX7_isBefore 11 = .ok (.iload_n 3, 1) := by decide +kernel
theorem dX7_isBefore_12 : decode cX7_isBefore 12 = .ok (.invokevirtual 187, 3) := by decide +kernel
theorem dX7_isBefore_15 : decode cX7_isBefore 15 = .ok (.ifCond .eq 5, 3) := by decide +kernel
theorem dX7_isBefore_18 : decode cX7_isBefore 18 = .ok (.iconst 0, 1) := by decide +kernel
theorem dX7_isBefore_19 : decode cX7_isBefore 19 = .ok (.ireturn, 1) := by decide +kernel
theorem dX7_isBefore_20 : decode cX7_isBefore 20 = .ok (.aload_n 0, 1) := by decide +kernel
theorem dX7_isBefore_21 : decode cX7_isBefore 21 = .ok (.aload_n 0, 1) := by decide +kernel
theorem dX7_isBefore_22 : decode cX7_isBefore 22 = .ok (.iload_n 1, 1) := by decide +kernel
theorem dX7_isBefore_23 : decode cX7_isBefore 23 = .ok (.invokevirtual 123, 3) := by decide +kernel
theorem dX7_isBefore_26 : decode cX7_isBefore 26 = .ok (.iload_n 2, 1) := by decide +kernel
theorem dX7_isBefore_27 : decode cX7_isBefore 27 = .ok (.invokevirtual 150, 3) := by decide +kernel
theorem dX7_isBefore_30 : decode cX7_isBefore 30 = .ok (.iload_n 3, 1) := by decide +kernel
theorem dX7_isBefore_31 : decode cX7_isBefore 31 = .ok (.ishr, 1) := by decide +kernel
theorem dX7_isBefore_32 : decode cX7_isBefore 32 = .ok (.iconst 1, 1) := by decide +kernel
theorem dX7_isBefore_33 : decode cX7_isBefore 33 = .ok (.iand, 1) := by decide +kernel
theorem dX7_isBefore_34 : decode cX7_isBefore 34 = .ok (.iconst 1, 1) := by decide +kernel
theorem dX7_isBefore_35 : decode cX7_isBefore 35 = .ok (.if_icmp .ne 7, 3) := by decide +kernel
theorem dX7_isBefore_38 : decode cX7_isBefore 38 = .ok (.iconst 1, 1) := by decide +kernel
theorem dX7_isBefore_39 : decode cX7_isBefore 39 = .ok (.goto 4, 3) := by decide +kernel
theorem dX7_isBefore_42 : decode cX7_isBefore 42 = .ok (.iconst 0, 1) := by decide +kernel
theorem dX7_isBefore_43 : decode cX7_isBefore 43 = .ok (.ireturn, 1) := by decide +kernel
theorem dX7_canDeliver_0 : decode cX7_canDeliver 0 = .ok (.aload_n 0, 1) := by decide +kernel
theorem dX7_canDeliver_1 : decode cX7_canDeliver 1 = .ok (.aload_n 0, 1) := by decide +kernel
theorem dX7_canDeliver_2 : decode cX7_canDeliver 2 = .ok (.iload_n 1, 1) := by decide +kernel
theorem dX7_canDeliver_3 : decode cX7_canDeliver 3 = .ok (.invokevirtual 123, 3) := by decide +kernel
theorem dX7_canDeliver_6 : decode cX7_canDeliver 6 = .ok (.ifCond .ge 7, 3) := by decide +kernel
theorem dX7_canDeliver_9 : decode cX7_canDeliver 9 = .ok (.iconst 1, 1) := by decide +kernel
theorem dX7_canDeliver_10 : decode cX7_canDeliver 10 = .ok (.goto 4, 3) := by decide +kernel
theorem dX7_canDeliver_13 : decode cX7_canDeliver 13 = .ok (.iconst 0, 1) := by decide +kernel
theorem dX7_canDeliver_14 : decode cX7_canDeliver 14 = .ok (.putfield 50, 3) := by decide +kernel
theorem dX7_canDeliver_17 : decode cX7_canDeliver 17 = .ok (.aload_n 0, 1) := by decide +kernel
theorem dX7_canDeliver_18 : decode cX7_canDeliver 18 = .ok (.getfield 50, 3) := by decide +kernel
theorem dX7_canDeliver_21 : decode cX7_canDeliver 21 = .ok (.ifCond .ne 19, 3) := by decide +kernel
theorem dX7_canDeliver_24 : decode cX7_canDeliver 24 = .ok (.aload_n 0, 1) := by decide +kernel
theorem dX7_canDeliver_25 : decode cX7_canDeliver 25 = .ok (.aload_n 0, 1) := by decide +kernel
theorem dX7_canDeliver_26 : decode cX7_canDeliver 26 = .ok (.iload_n 1, 1) := by decide +kernel
theorem dX7_canDeliver_27 : decode cX7_canDeliver 27 = .ok (.invokevirtual 123, 3) := by decide +kernel
theorem dX7_canDeliver_30 : decode cX7_canDeliver 30 = .ok (.invokevirtual 159, 3) := by decide +kernel
theorem dX7_canDeliver_33 : decode cX7_canDeliver 33 = .ok (.ifCond .eq 7, 3) := by decide +kernel
theorem dX7_canDeliver_36 : decode cX7_canDeliver 36 = .ok (.iconst 1, 1) := by decide +kernel
theorem dX7_canDeliver_37 : decode cX7_canDeliver 37 = .ok (.goto 4, 3) := by decide +kernel
theorem dX7_canDeliver_40 : decode cX7_canDeliver 40 = .ok (.iconst 0, 1) := by decide +kernel
theorem dX7_canDeliver_41 : decode cX7_canDeliver 41 = .ok (.ireturn, 1) := by decide +kernel
theorem dX7_price_0 : decode cX7_price 0 = .ok (.aload_n 0, 1) := by decide +kernel
theorem dX7_price_1 : decode cX7_price 1 = .ok (.aload_n 0, 1) := by decide +kernel
theorem dX7_price_2 : decode cX7_price 2 = .ok (.iload_n 1, 1) := by decide +kernel
theorem dX7_price_3 : decode cX7_price 3 = .ok (.invokevirtual 123, 3) := by decide +kernel
theorem dX7_price_6 : decode cX7_price 6 = .ok (.ifCond .ge 7, 3) := by decide +kernel
theorem dX7_price_9 : decode cX7_price 9 = .ok (.iconst 1, 1) := by decide +kernel
theorem dX7_price_10 : decode cX7_price 10 = .ok (.goto 4, 3) := by decide +kernel
theorem dX7_price_13 : decode cX7_price 13 = .ok (.iconst 0, 1) := by decide +kernel
theorem dX7_price_14 : decode cX7_price 14 = .ok (.putfield 50, 3) := by decide +kernel
theorem dX7_price_17 : decode cX7_price 17 = .ok (.aload_n 0, 1) := by decide +kernel
theorem dX7_price_18 : decode cX7_price 18 = .ok (.getfield 50, 3) := by decide +kernel
theorem dX7_price_21 : decode cX7_price 21 = .ok (.ifCond .ne 15, 3) := by decide +kernel
theorem dX7_price_24 : decode cX7_price 24 = .ok (.aload_n 0, 1) := by decide +kernel
theorem dX7_price_25 : decode cX7_price 25 = .ok (.aload_n 0, 1) := by decide +kernel
theorem dX7_price_26 : decode cX7_price 26 = .ok (.iload_n 1, 1) := by decide +kernel
theorem dX7_price_27 : decode cX7_price 27 = .ok (.invokevirtual 123, 3) := by decide +kernel
theorem dX7_price_30 : decode cX7_price 30 = .ok (.invokevirtual 162, 3) := by decide +kernel
theorem dX7_price_33 : decode cX7_price 33 = .ok (.goto 4, 3) := by decide +kernel
theorem dX7_price_36 : decode cX7_price 36 = .ok (.iconst 0, 1) := by decide +kernel
theorem dX7_price_37 : decode cX7_price 37 = .ok (.ireturn, 1) := by decide +kernel
theorem dX7_sleevesLeft_0 : decode cX7_sleevesLeft 0 = .ok (.aload_n 0, 1) := by decide +kernel
theorem dX7_sleevesLeft_1 : decode cX7_sleevesLeft 1 = .ok (.aload_n 0, 1) := by decide +kernel
theorem dX7_sleevesLeft_2 : decode cX7_sleevesLeft 2 = .ok (.iload_n 1, 1) := by decide +kernel
theorem dX7_sleevesLeft_3 : decode cX7_sleevesLeft 3 = .ok (.invokevirtual 123, 3) := by decide +kernel
theorem dX7_sleevesLeft_6 : decode cX7_sleevesLeft 6 = .ok (.ifCond .ge 7, 3) := by decide +kernel
theorem dX7_sleevesLeft_9 : decode cX7_sleevesLeft 9 = .ok (.iconst 1, 1) := by decide +kernel
theorem dX7_sleevesLeft_10 : decode cX7_sleevesLeft 10 = .ok (.goto 4, 3) := by decide +kernel
theorem dX7_sleevesLeft_13 : decode cX7_sleevesLeft 13 = .ok (.iconst 0, 1) := by decide +kernel
theorem dX7_sleevesLeft_14 : decode cX7_sleevesLeft 14 = .ok (.putfield 50, 3) := by decide +kernel
theorem dX7_sleevesLeft_17 : decode cX7_sleevesLeft 17 = .ok (.aload_n 0, 1) := by decide +kernel
theorem dX7_sleevesLeft_18 : decode cX7_sleevesLeft 18 = .ok (.getfield 50, 3) := by decide +kernel
theorem dX7_sleevesLeft_21 : decode cX7_sleevesLeft 21 = .ok (.ifCond .ne 26, 3) := by decide +kernel
theorem dX7_sleevesLeft_24 : decode cX7_sleevesLeft 24 = .ok (.aload_n 0, 1) := by decide +kernel
theorem dX7_sleevesLeft_25 : decode cX7_sleevesLeft 25 = .ok (.aload_n 0, 1) := by decide +kernel
theorem dX7_sleevesLeft_26 : decode cX7_sleevesLeft 26 = .ok (.iload_n 1, 1) := by decide +kernel
theorem dX7_sleevesLeft_27 : decode cX7_sleevesLeft 27 = .ok (.invokevirtual 123, 3) := by decide +kernel
theorem dX7_sleevesLeft_30 : decode cX7_sleevesLeft 30 = .ok (.invokevirtual 79, 3) := by decide +kernel
theorem dX7_sleevesLeft_33 : decode cX7_sleevesLeft 33 = .ok (.aload_n 0, 1) := by decide +kernel
theorem dX7_sleevesLeft_34 : decode cX7_sleevesLeft 34 = .ok (.aload_n 0, 1) := by decide +kernel
theorem dX7_sleevesLeft_35 : decode cX7_sleevesLeft 35 = .ok (.iload_n 1, 1) := by decide +kernel
theorem dX7_sleevesLeft_36 : decode cX7_sleevesLeft 36 = .ok (.invokevirtual 123, 3) := by decide +kernel
theorem dX7_sleevesLeft_39 : decode cX7_sleevesLeft 39 = .ok (.iconst 2, 1) := by decide +kernel
theorem dX7_sleevesLeft_40 : decode cX7_sleevesLeft 40 = .ok (.invokevirtual 135, 3) := by decide +kernel
theorem dX7_sleevesLeft_43 : decode cX7_sleevesLeft 43 = .ok (.isub, 1) := by decide +kernel
theorem dX7_sleevesLeft_44 : decode cX7_sleevesLeft 44 = .ok (.goto 4, 3) := by decide +kernel
theorem dX7_sleevesLeft_47 : decode cX7_sleevesLeft 47 = .ok (.iconst 0, 1) := by decide +kernel
theorem dX7_sleevesLeft_48 : decode cX7_sleevesLeft 48 = .ok (.ireturn, 1) := by decide +kernel
theorem dX7_isHeld_0 : decode cX7_isHeld 0 = .ok (.iconst 0, 1) := by decide +kernel
theorem dX7_isHeld_1 : decode cX7_isHeld 1 = .ok (.istore_n 3, 1) := by decide +kernel
theorem dX7_isHeld_2 : decode cX7_isHeld 2 = .ok (.iload_n 3, 1) := by decide +kernel
theorem dX7_isHeld_3 : decode cX7_isHeld 3 = .ok (.aload_n 0, 1) := by decide +kernel
theorem dX7_isHeld_4 : decode cX7_isHeld 4 = .ok (.getfield 16, 3) := by decide +kernel
theorem dX7_isHeld_7 : decode cX7_isHeld 7 = .ok (.iload_n 1, 1) := by decide +kernel
theorem dX7_isHeld_8 : decode cX7_isHeld 8 = .ok (.iconst 3, 1) := by decide +kernel
theorem dX7_isHeld_9 : decode cX7_isHeld 9 = .ok (.invokestatic 75, 3) := by decide +kernel
theorem dX7_isHeld_12 : decode cX7_isHeld 12 = .ok (.iaload, 1) := by decide +kernel
theorem dX7_isHeld_13 : decode cX7_isHeld 13 = .ok (.if_icmp .ge 35, 3) := by decide +kernel
theorem dX7_isHeld_16 : decode cX7_isHeld 16 = .ok (.aload_n 0, 1) := by decide +kernel
theorem dX7_isHeld_17 : decode cX7_isHeld 17 = .ok (.iload_n 1, 1) := by decide +kernel
theorem dX7_isHeld_18 : decode cX7_isHeld 18 = .ok (.iload_n 3, 1) := by decide +kernel
theorem dX7_isHeld_19 : decode cX7_isHeld 19 = .ok (.invokevirtual 129, 3) := by decide +kernel
theorem dX7_isHeld_22 : decode cX7_isHeld 22 = .ok (.iload_n 2, 1) := by decide +kernel
theorem dX7_isHeld_23 : decode cX7_isHeld 23 = .ok (.if_icmp .ne 19, 3) := by decide +kernel
theorem dX7_isHeld_26 : decode cX7_isHeld 26 = .ok (.aload_n 0, 1) := by decide +kernel
theorem dX7_isHeld_27 : decode cX7_isHeld 27 = .ok (.getfield 32, 3) := by decide +kernel
theorem dX7_isHeld_30 : decode cX7_isHeld 30 = .ok (.aload_n 0, 1) := by decide +kernel
theorem dX7_isHeld_31 : decode cX7_isHeld 31 = .ok (.iload_n 1, 1) := by decide +kernel
theorem dX7_isHeld_32 : decode cX7_isHeld 32 = .ok (.iload_n 3, 1) := by decide +kernel
theorem dX7_isHeld_33 : decode cX7_isHeld 33 = .ok (.invokevirtual 132, 3) := by decide +kernel
theorem dX7_isHeld_36 : decode cX7_isHeld 36 = .ok (.iaload, 1) := by decide +kernel
theorem dX7_isHeld_37 : decode cX7_isHeld 37 = .ok (.ifCond .ne 5, 3) := by decide +kernel
theorem dX7_isHeld_40 : decode cX7_isHeld 40 = .ok (.iconst 1, 1) := by decide +kernel
theorem dX7_isHeld_41 : decode cX7_isHeld 41 = .ok (.ireturn, 1) := by decide +kernel
theorem dX7_isHeld_42 : decode cX7_isHeld 42 = .ok (.iinc 3 1, 3) := by decide +kernel
theorem dX7_isHeld_45 : decode cX7_isHeld 45 = .ok (.goto (-43), 3) := by decide +kernel
theorem dX7_isHeld_48 : decode cX7_isHeld 48 = .ok (.iconst 0, 1) := by decide +kernel
theorem dX7_isHeld_49 : decode cX7_isHeld 49 = .ok (.ireturn, 1) := by decide +kernel
theorem dX7_sorts_0 : decode cX7_sorts 0 = .ok (.iconst 0, 1) := by decide +kernel
theorem dX7_sorts_1 : decode cX7_sorts 1 = .ok (.istore_n 2, 1) := by decide +kernel
theorem dX7_sorts_2 : decode cX7_sorts 2 = .ok (.iload_n 2, 1) := by decide +kernel
theorem dX7_sorts_3 : decode cX7_sorts 3 = .ok (.bipush 16, 2) := by decide +kernel
theorem dX7_sorts_5 : decode cX7_sorts 5 = .ok (.if_icmp .ge 39, 3) := by decide +kernel
theorem dX7_sorts_8 : decode cX7_sorts 8 = .ok (.aload_n 0, 1) := by decide +kernel
theorem dX7_sorts_9 : decode cX7_sorts 9 = .ok (.getfield 32, 3) := by decide +kernel
theorem dX7_sorts_12 : decode cX7_sorts 12 = .ok (.iload_n 2, 1) := by decide +kernel
theorem dX7_sorts_13 : decode cX7_sorts 13 = .ok (.iload_n 2, 1) := by decide +kernel
theorem dX7_sorts_14 : decode cX7_sorts 14 = .ok (.aload_n 0, 1) := by decide +kernel
theorem dX7_sorts_15 : decode cX7_sorts 15 = .ok (.iload_n 1, 1) := by decide +kernel
theorem dX7_sorts_16 : decode cX7_sorts 16 = .ok (.invokevirtual 79, 3) := by decide +kernel
theorem dX7_sorts_19 : decode cX7_sorts 19 = .ok (.if_icmp .ge 17, 3) := by decide +kernel
theorem dX7_sorts_22 : decode cX7_sorts 22 = .ok (.aload_n 0, 1) := by decide +kernel
theorem dX7_sorts_23 : decode cX7_sorts 23 = .ok (.iload_n 1, 1) := by decide +kernel
theorem dX7_sorts_24 : decode cX7_sorts 24 = .ok (.iload_n 2, 1) := by decide +kernel
theorem dX7_sorts_25 : decode cX7_sorts 25 = .ok (.invokevirtual 85, 3) := by decide +kernel
theorem dX7_sorts_28 : decode cX7_sorts 28 = .ok (.iconst 2, 1) := by decide +kernel
theorem dX7_sorts_29 : decode cX7_sorts 29 = .ok (.if_icmp .eq 7, 3) := by decide +kernel
theorem dX7_sorts_32 : decode cX7_sorts 32 = .ok (.iconst 0, 1) := by decide +kernel
theorem dX7_sorts_33 : decode cX7_sorts 33 = .ok (.goto 4, 3) := by decide +kernel
theorem dX7_sorts_36 : decode cX7_sorts 36 = .ok (.iconst 1, 1) := by decide +kernel
theorem dX7_sorts_37 : decode cX7_sorts 37 = .ok (.iastore, 1) := by decide +kernel
theorem dX7_sorts_38 : decode cX7_sorts 38 = .ok (.iinc 2 1, 3) := by decide +kernel
theorem dX7_sorts_41 : decode cX7_sorts 41 = .ok (.goto (-39), 3) := by decide +kernel
theorem dX7_sorts_44 : decode cX7_sorts 44 = .ok (.iconst 0, 1) := by decide +kernel
theorem dX7_sorts_45 : decode cX7_sorts 45 = .ok (.istore_n 2, 1) := by decide +kernel
theorem dX7_sorts_46 : decode cX7_sorts 46 = .ok (.iconst 0, 1) := by decide +kernel
theorem dX7_sorts_47 : decode cX7_sorts 47 = .ok (.istore_n 3, 1) := by decide +kernel
theorem dX7_sorts_48 : decode cX7_sorts 48 = .ok (.iload_n 3, 1) := by decide +kernel
theorem dX7_sorts_49 : decode cX7_sorts 49 = .ok (.aload_n 0, 1) := by decide +kernel
theorem dX7_sorts_50 : decode cX7_sorts 50 = .ok (.iload_n 1, 1) := by decide +kernel
theorem dX7_sorts_51 : decode cX7_sorts 51 = .ok (.invokevirtual 79, 3) := by decide +kernel
theorem dX7_sorts_54 : decode cX7_sorts 54 = .ok (.if_icmp .ge 66, 3) := by decide +kernel
theorem dX7_sorts_57 : decode cX7_sorts 57 = .ok (.aload_n 0, 1) := by decide +kernel
theorem dX7_sorts_58 : decode cX7_sorts 58 = .ok (.getfield 32, 3) := by decide +kernel
theorem dX7_sorts_61 : decode cX7_sorts 61 = .ok (.iload_n 3, 1) := by decide +kernel
theorem dX7_sorts_62 : decode cX7_sorts 62 = .ok (.iaload, 1) := by decide +kernel
theorem dX7_sorts_63 : decode cX7_sorts 63 = .ok (.ifCond .ne 16, 3) := by decide +kernel
theorem dX7_sorts_66 : decode cX7_sorts 66 = .ok (.aload_n 0, 1) := by decide +kernel
theorem dX7_sorts_67 : decode cX7_sorts 67 = .ok (.iload_n 1, 1) := by decide +kernel
theorem dX7_sorts_68 : decode cX7_sorts 68 = .ok (.iload_n 3, 1) := by decide +kernel
theorem dX7_sorts_69 : decode cX7_sorts 69 = .ok (.invokevirtual 193, 3) := by decide +kernel
theorem dX7_sorts_72 : decode cX7_sorts 72 = .ok (.ifCond .ne 7, 3) := by decide +kernel
theorem dX7_sorts_75 : decode cX7_sorts 75 = .ok (.iconst 1, 1) := by decide +kernel
theorem dX7_sorts_76 : decode cX7_sorts 76 = .ok (.goto 4, 3) := by decide +kernel
theorem dX7_sorts_79 : decode cX7_sorts 79 = .ok (.iconst 0, 1) := by decide +kernel
theorem dX7_sorts_80 : decode cX7_sorts 80 = .ok (.istore 4, 2) := by decide +kernel
theorem dX7_sorts_82 : decode cX7_sorts 82 = .ok (.iload 4, 2) := by decide +kernel
theorem dX7_sorts_84 : decode cX7_sorts 84 = .ok (.ifCond .eq 20, 3) := by decide +kernel
theorem dX7_sorts_87 : decode cX7_sorts 87 = .ok (.aload_n 0, 1) := by decide +kernel
theorem dX7_sorts_88 : decode cX7_sorts 88 = .ok (.getfield 32, 3) := by decide +kernel
theorem dX7_sorts_91 : decode cX7_sorts 91 = .ok (.iload_n 3, 1) := by decide +kernel
theorem dX7_sorts_92 : decode cX7_sorts 92 = .ok (.iconst 1, 1) := by decide +kernel
theorem dX7_sorts_93 : decode cX7_sorts 93 = .ok (.iastore, 1) := by decide +kernel
theorem dX7_sorts_94 : decode cX7_sorts 94 = .ok (.aload_n 0, 1) := by decide +kernel
theorem dX7_sorts_95 : decode cX7_sorts 95 = .ok (.getfield 29, 3) := by decide +kernel
theorem dX7_sorts_98 : decode cX7_sorts 98 = .ok (.iload_n 2, 1) := by decide +kernel
theorem dX7_sorts_99 : decode cX7_sorts 99 = .ok (.iload_n 3, 1) := by decide +kernel
theorem dX7_sorts_100 : decode cX7_sorts 100 = .ok (.iastore, 1) := by decide +kernel
theorem dX7_sorts_101 : decode cX7_sorts 101 = .ok (.iinc 2 1, 3) := by decide +kernel
theorem dX7_sorts_104 : decode cX7_sorts 104 = .ok (.iload 4, 2) := by decide +kernel
theorem dX7_sorts_106 : decode cX7_sorts 106 = .ok (.ifCond .eq 7, 3) := by decide +kernel
theorem dX7_sorts_109 : decode cX7_sorts 109 = .ok (.iconst 0, 1) := by decide +kernel
theorem dX7_sorts_110 : decode cX7_sorts 110 = .ok (.goto 6, 3) := by decide +kernel
theorem dX7_sorts_113 : decode cX7_sorts 113 = .ok (.iload_n 3, 1) := by decide +kernel
theorem dX7_sorts_114 : decode cX7_sorts 114 = .ok (.iconst 1, 1) := by decide +kernel
theorem dX7_sorts_115 : decode cX7_sorts 115 = .ok (.iadd, 1) := by decide +kernel
theorem dX7_sorts_116 : decode cX7_sorts 116 = .ok (.istore_n 3, 1) := by decide +kernel
theorem dX7_sorts_117 : decode cX7_sorts 117 = .ok (.goto (-69), 3) := by decide +kernel
theorem dX7_sorts_120 : decode cX7_sorts 120 = .ok (.iload_n 2, 1) := by decide +kernel
theorem dX7_sorts_121 : decode cX7_sorts 121 = .ok (.ireturn, 1) := by decide +kernel
theorem dX7_sewingOrder_0 : decode cX7_sewingOrder 0 = .ok (.aload_n 0, 1) := by decide +kernel
theorem dX7_sewingOrder_1 : decode cX7_sewingOrder 1 = .ok (.iload_n 1, 1) := by decide +kernel
theorem dX7_sewingOrder_2 : decode cX7_sewingOrder 2 = .ok (.invokevirtual 123, 3) := by decide +kernel
theorem dX7_sewingOrder_5 : decode cX7_sewingOrder 5 = .ok (.ifCond .ge 9, 3) := by decide +kernel
theorem dX7_sewingOrder_8 : decode cX7_sewingOrder 8 = .ok (.aload_n 0, 1) := by decide +kernel
theorem dX7_sewingOrder_9 : decode cX7_sewingOrder 9 = .ok (.iconst 1, 1) := by decide +kernel
theorem dX7_sewingOrder_10 : decode cX7_sewingOrder 10 = .ok (.invokevirtual 91, 3) := by decide +kernel
theorem dX7_sewingOrder_13 : decode cX7_sewingOrder 13 = .ok (.ireturn, 1) := by decide +kernel
theorem dX7_sewingOrder_14 : decode cX7_sewingOrder 14 = .ok (.aload_n 0, 1) := by decide +kernel
theorem dX7_sewingOrder_15 : decode cX7_sewingOrder 15 = .ok (.iload_n 2, 1) := by decide +kernel
theorem dX7_sewingOrder_16 : decode cX7_sewingOrder 16 = .ok (.iconst 0, 1) := by decide +kernel
theorem dX7_sewingOrder_17 : decode cX7_sewingOrder 17 = .ok (.aload_n 0, 1) := by decide +kernel
theorem dX7_sewingOrder_18 : decode cX7_sewingOrder 18 = .ok (.aload_n 0, 1) := by decide +kernel
theorem dX7_sewingOrder_19 : decode cX7_sewingOrder 19 = .ok (.iload_n 1, 1) := by decide +kernel
theorem dX7_sewingOrder_20 : decode cX7_sewingOrder 20 = .ok (.invokevirtual 123, 3) := by decide +kernel
theorem dX7_sewingOrder_23 : decode cX7_sewingOrder 23 = .ok (.invokevirtual 196, 3) := by decide +kernel
theorem dX7_sewingOrder_26 : decode cX7_sewingOrder 26 = .ok (.iconst 1, 1) := by decide +kernel
theorem dX7_sewingOrder_27 : decode cX7_sewingOrder 27 = .ok (.isub, 1) := by decide +kernel
theorem dX7_sewingOrder_28 : decode cX7_sewingOrder 28 = .ok (.invokestatic 60, 3) := by decide +kernel
theorem dX7_sewingOrder_31 : decode cX7_sewingOrder 31 = .ok (.ifCond .eq 7, 3) := by decide +kernel
theorem dX7_sewingOrder_34 : decode cX7_sewingOrder 34 = .ok (.iconst 0, 1) := by decide +kernel
theorem dX7_sewingOrder_35 : decode cX7_sewingOrder 35 = .ok (.goto 4, 3) := by decide +kernel
theorem dX7_sewingOrder_38 : decode cX7_sewingOrder 38 = .ok (.iconst 2, 1) := by decide +kernel
theorem dX7_sewingOrder_39 : decode cX7_sewingOrder 39 = .ok (.putfield 50, 3) := by decide +kernel
theorem dX7_sewingOrder_42 : decode cX7_sewingOrder 42 = .ok (.aload_n 0, 1) := by decide +kernel
theorem dX7_sewingOrder_43 : decode cX7_sewingOrder 43 = .ok (.getfield 50, 3) := by decide +kernel
theorem dX7_sewingOrder_46 : decode cX7_sewingOrder 46 = .ok (.ifCond .ne 12, 3) := by decide +kernel
theorem dX7_sewingOrder_49 : decode cX7_sewingOrder 49 = .ok (.aload_n 0, 1) := by decide +kernel
theorem dX7_sewingOrder_50 : decode cX7_sewingOrder 50 = .ok (.getfield 29, 3) := by decide +kernel
theorem dX7_sewingOrder_53 : decode cX7_sewingOrder 53 = .ok (.iload_n 2, 1) := by decide +kernel
theorem dX7_sewingOrder_54 : decode cX7_sewingOrder 54 = .ok (.iaload, 1) := by decide +kernel
theorem dX7_sewingOrder_55 : decode cX7_sewingOrder 55 = .ok (.goto 4, 3) := by decide +kernel
theorem dX7_sewingOrder_58 : decode cX7_sewingOrder 58 = .ok (.iconst 0, 1) := by decide +kernel
theorem dX7_sewingOrder_59 : decode cX7_sewingOrder 59 = .ok (.ireturn, 1) := by decide +kernel
theorem dX7_sewingOrderByQueue_0 : decode cX7_sewingOrderByQueue 0 = .ok (.aload_n 0, 1) := by decide +kernel
theorem dX7_sewingOrderByQueue_1 : decode cX7_sewingOrderByQueue 1 = .ok (.iload_n 1, 1) := by decide +kernel
theorem dX7_sewingOrderByQueue_2 : decode cX7_sewingOrderByQueue 2 = .ok (.iload_n 2, 1) := by decide +kernel
theorem dX7_sewingOrderByQueue_3 : decode cX7_sewingOrderByQueue 3 = .ok (.invokevirtual 199, 3) := by decide +kernel
theorem dX7_sewingOrderByQueue_6 : decode cX7_sewingOrderByQueue 6 = .ok (.ireturn, 1) := by decide +kernel
theorem dX7_rounds_0 : decode cX7_rounds 0 = .ok (.aload_n 0, 1) := by decide +kernel
theorem dX7_rounds_1 : decode cX7_rounds 1 = .ok (.aload_n 0, 1) := by decide +kernel
theorem dX7_rounds_2 : decode cX7_rounds 2 = .ok (.iload_n 1, 1) := by decide +kernel
theorem dX7_rounds_3 : decode cX7_rounds 3 = .ok (.invokevirtual 123, 3) := by decide +kernel
theorem dX7_rounds_6 : decode cX7_rounds 6 = .ok (.ifCond .ge 7, 3) := by decide +kernel
theorem dX7_rounds_9 : decode cX7_rounds 9 = .ok (.iconst 1, 1) := by decide +kernel
theorem dX7_rounds_10 : decode cX7_rounds 10 = .ok (.goto 4, 3) := by decide +kernel
theorem dX7_rounds_13 : decode cX7_rounds 13 = .ok (.iconst 0, 1) := by decide +kernel
theorem dX7_rounds_14 : decode cX7_rounds 14 = .ok (.putfield 50, 3) := by decide +kernel
theorem dX7_rounds_17 : decode cX7_rounds 17 = .ok (.aload_n 0, 1) := by decide +kernel
theorem dX7_rounds_18 : decode cX7_rounds 18 = .ok (.getfield 50, 3) := by decide +kernel
theorem dX7_rounds_21 : decode cX7_rounds 21 = .ok (.ifCond .eq 5, 3) := by decide +kernel
theorem dX7_rounds_24 : decode cX7_rounds 24 = .ok (.iconst 0, 1) := by decide +kernel
theorem dX7_rounds_25 : decode cX7_rounds 25 = .ok (.ireturn, 1) := by decide +kernel
theorem dX7_rounds_26 : decode cX7_rounds 26 = .ok (.aload_n 0, 1) := by decide +kernel
theorem dX7_rounds_27 : decode cX7_rounds 27 = .ok (.iload_n 1, 1) := by decide +kernel
theorem dX7_rounds_28 : decode cX7_rounds 28 = .ok (.invokevirtual 123, 3) := by decide +kernel
theorem dX7_rounds_31 : decode cX7_rounds 31 = .ok (.istore_n 2, 1) := by decide +kernel
theorem dX7_rounds_32 : decode cX7_rounds 32 = .ok (.aload_n 0, 1) := by decide +kernel
theorem dX7_rounds_33 : decode cX7_rounds 33 = .ok (.iload_n 2, 1) := by decide +kernel
theorem dX7_rounds_34 : decode cX7_rounds 34 = .ok (.invokevirtual 196, 3) := by decide +kernel
theorem dX7_rounds_37 : decode cX7_rounds 37 = .ok (.istore_n 3, 1) := by decide +kernel
theorem dX7_rounds_38 : decode cX7_rounds 38 = .ok (.iconst 0, 1) := by decide +kernel
theorem dX7_rounds_39 : decode cX7_rounds 39 = .ok (.istore 4, 2) := by decide +kernel
theorem dX7_rounds_41 : decode cX7_rounds 41 = .ok (.iconst 0, 1) := by decide +kernel
theorem dX7_rounds_42 : decode cX7_rounds 42 = .ok (.istore 5, 2) := by decide +kernel
theorem dX7_rounds_44 : decode cX7_rounds 44 = .ok (.iload 5, 2) := by decide +kernel
theorem dX7_rounds_46 : decode cX7_rounds 46 = .ok (.bipush 16, 2) := by decide +kernel
theorem dX7_rounds_48 : decode cX7_rounds 48 = .ok (.if_icmp .ge 17, 3) := by decide +kernel
theorem dX7_rounds_51 : decode cX7_rounds 51 = .ok (.aload_n 0, 1) := by decide +kernel
theorem dX7_rounds_52 : decode cX7_rounds 52 = .ok (.getfield 32, 3) := by decide +kernel
theorem dX7_rounds_55 : decode cX7_rounds 55 = .ok (.iload 5, 2) := by decide +kernel
theorem dX7_rounds_57 : decode cX7_rounds 57 = .ok (.iconst 0, 1) := by decide +kernel
theorem dX7_rounds_58 : decode cX7_rounds 58 = .ok (.iastore, 1) := by decide +kernel
theorem dX7_rounds_59 : decode cX7_rounds 59 = .ok (.iinc 5 1, 3) := by decide +kernel
theorem dX7_rounds_62 : decode cX7_rounds 62 = .ok (.goto (-18), 3) := by decide +kernel
theorem dX7_rounds_65 : decode cX7_rounds 65 = .ok (.iconst 0, 1) := by decide +kernel
theorem dX7_rounds_66 : decode cX7_rounds 66 = .ok (.istore 5, 2) := by decide +kernel
theorem dX7_rounds_68 : decode cX7_rounds 68 = .ok (.iload 5, 2) := by decide +kernel
theorem dX7_rounds_70 : decode cX7_rounds 70 = .ok (.iload_n 3, 1) := by decide +kernel
theorem dX7_rounds_71 : decode cX7_rounds 71 = .ok (.if_icmp .ge 115, 3) := by decide +kernel
theorem dX7_rounds_74 : decode cX7_rounds 74 = .ok (.aload_n 0, 1) := by decide +kernel
theorem dX7_rounds_75 : decode cX7_rounds 75 = .ok (.getfield 29, 3) := by decide +kernel
theorem dX7_rounds_78 : decode cX7_rounds 78 = .ok (.iload 5, 2) := by decide +kernel
theorem dX7_rounds_80 : decode cX7_rounds 80 = .ok (.iaload, 1) := by decide +kernel
theorem dX7_rounds_81 : decode cX7_rounds 81 = .ok (.istore 6, 2) := by decide +kernel
theorem dX7_rounds_83 : decode cX7_rounds 83 = .ok (.iconst 1, 1) := by decide +kernel
theorem dX7_rounds_84 : decode cX7_rounds 84 = .ok (.istore 7, 2) := by decide +kernel
theorem dX7_rounds_86 : decode cX7_rounds 86 = .ok (.iconst 0, 1) := by decide +kernel
theorem dX7_rounds_87 : decode cX7_rounds 87 = .ok (.istore 8, 2) := by decide +kernel
theorem dX7_rounds_89 : decode cX7_rounds 89 = .ok (.iload 8, 2) := by decide +kernel
theorem dX7_rounds_91 : decode cX7_rounds 91 = .ok (.aload_n 0, 1) := by decide +kernel
theorem dX7_rounds_92 : decode cX7_rounds 92 = .ok (.getfield 16, 3) := by decide +kernel
theorem dX7_rounds_95 : decode cX7_rounds 95 = .ok (.iload_n 2, 1) := by decide +kernel
theorem dX7_rounds_96 : decode cX7_rounds 96 = .ok (.iconst 3, 1) := by decide +kernel
theorem dX7_rounds_97 : decode cX7_rounds 97 = .ok (.invokestatic 75, 3) := by decide +kernel
theorem dX7_rounds_100 : decode cX7_rounds 100 = .ok (.iaload, 1) := by decide +kernel
theorem dX7_rounds_101 : decode cX7_rounds 101 = .ok (.if_icmp .ge 54, 3) := by decide +kernel
theorem dX7_rounds_104 : decode cX7_rounds 104 = .ok (.aload_n 0, 1) := by decide +kernel
theorem dX7_rounds_105 : decode cX7_rounds 105 = .ok (.iload_n 2, 1) := by decide +kernel
theorem dX7_rounds_106 : decode cX7_rounds 106 = .ok (.iload 8, 2) := by decide +kernel
theorem dX7_rounds_108 : decode cX7_rounds 108 = .ok (.invokevirtual 129, 3) := by decide +kernel
theorem dX7_rounds_111 : decode cX7_rounds 111 = .ok (.iload 6, 2) := by decide +kernel
theorem dX7_rounds_113 : decode cX7_rounds 113 = .ok (.if_icmp .ne 36, 3) := by decide +kernel
theorem dX7_rounds_116 : decode cX7_rounds 116 = .ok (.aload_n 0, 1) := by decide +kernel
theorem dX7_rounds_117 : decode cX7_rounds 117 = .ok (.getfield 32, 3) := by decide +kernel
theorem dX7_rounds_120 : decode cX7_rounds 120 = .ok (.aload_n 0, 1) := by decide +kernel
theorem dX7_rounds_121 : decode cX7_rounds 121 = .ok (.iload_n 2, 1) := by decide +kernel
theorem dX7_rounds_122 : decode cX7_rounds 122 = .ok (.iload 8, 2) := by decide +kernel
theorem dX7_rounds_124 : decode cX7_rounds 124 = .ok (.invokevirtual 132, 3) := by decide +kernel
theorem dX7_rounds_127 : decode cX7_rounds 127 = .ok (.iaload, 1) := by decide +kernel
theorem dX7_rounds_128 : decode cX7_rounds 128 = .ok (.iload 7, 2) := by decide +kernel
theorem dX7_rounds_130 : decode cX7_rounds 130 = .ok (.if_icmp .lt 19, 3) := by decide +kernel
theorem dX7_rounds_133 : decode cX7_rounds 133 = .ok (.aload_n 0, 1) := by decide +kernel
theorem dX7_rounds_134 : decode cX7_rounds 134 = .ok (.getfield 32, 3) := by decide +kernel
theorem dX7_rounds_137 : decode cX7_rounds 137 = .ok (.aload_n 0, 1) := by decide +kernel
theorem dX7_rounds_138 : decode cX7_rounds 138 = .ok (.iload_n 2, 1) := by decide +kernel
theorem dX7_rounds_139 : decode cX7_rounds 139 = .ok (.iload 8, 2) := by decide +kernel
theorem dX7_rounds_141 : decode cX7_rounds 141 = .ok (.invokevirtual 132, 3) := by decide +kernel
theorem dX7_rounds_144 : decode cX7_rounds 144 = .ok (.iaload, 1) := by decide +kernel
theorem dX7_rounds_145 : decode cX7_rounds 145 = .ok (.iconst 1, 1) := by decide +kernel
theorem dX7_rounds_146 : decode cX7_rounds 146 = .ok (.iadd, 1) := by decide +kernel
theorem dX7_rounds_147 : decode cX7_rounds 147 = .ok (.istore 7, 2) := by decide +kernel
theorem dX7_rounds_149 : decode cX7_rounds 149 = .ok (.iinc 8 1, 3) := by decide +kernel
theorem dX7_rounds_152 : decode cX7_rounds 152 = .ok (.goto (-63), 3) := by decide +kernel
theorem dX7_rounds_155 : decode cX7_rounds 155 = .ok (.aload_n 0, 1) := by decide +kernel
theorem dX7_rounds_156 : decode cX7_rounds 156 = .ok (.getfield 32, 3) := by decide +kernel
theorem dX7_rounds_159 : decode cX7_rounds 159 = .ok (.iload 6, 2) := by decide +kernel
theorem dX7_rounds_161 : decode cX7_rounds 161 = .ok (.iload 7, 2) := by decide +kernel
theorem dX7_rounds_163 : decode cX7_rounds 163 = .ok (.iastore, 1) := by decide +kernel
theorem dX7_rounds_164 : decode cX7_rounds 164 = .ok (.iload 7, 2) := by decide +kernel
theorem dX7_rounds_166 : decode cX7_rounds 166 = .ok (.iload 4, 2) := by decide +kernel
theorem dX7_rounds_168 : decode cX7_rounds 168 = .ok (.if_icmp .le 8, 3) := by decide +kernel
theorem dX7_rounds_171 : decode cX7_rounds 171 = .ok (.iload 7, 2) := by decide +kernel
theorem dX7_rounds_173 : decode cX7_rounds 173 = .ok (.goto 5, 3) := by decide +kernel
theorem dX7_rounds_176 : decode cX7_rounds 176 = .ok (.iload 4, 2) := by decide +kernel
theorem dX7_rounds_178 : decode cX7_rounds 178 = .ok (.istore 4, 2) := by decide +kernel
theorem dX7_rounds_180 : decode cX7_rounds 180 = .ok (.iinc 5 1, 3) := by decide +kernel
theorem dX7_rounds_183 : decode cX7_rounds 183 = .ok (.goto (-115), 3) := by decide +kernel
theorem dX7_rounds_186 : decode cX7_rounds 186 = .ok (.iload 4, 2) := by decide +kernel
theorem dX7_rounds_188 : decode cX7_rounds 188 = .ok (.ireturn, 1) := by decide +kernel
theorem dX7_clothNeeded_0 : decode cX7_clothNeeded 0 = .ok (.aload_n 0, 1) := by decide +kernel
theorem dX7_clothNeeded_1 : decode cX7_clothNeeded 1 = .ok (.aload_n 0, 1) := by decide +kernel
theorem dX7_clothNeeded_2 : decode cX7_clothNeeded 2 = .ok (.iload_n 1, 1) := by decide +kernel
theorem dX7_clothNeeded_3 : decode cX7_clothNeeded 3 = .ok (.invokevirtual 123, 3) := by decide +kernel
theorem dX7_clothNeeded_6 : decode cX7_clothNeeded 6 = .ok (.ifCond .ge 7, 3) := by decide +kernel
theorem dX7_clothNeeded_9 : decode cX7_clothNeeded 9 = .ok (.iconst 1, 1) := by decide +kernel
theorem dX7_clothNeeded_10 : decode cX7_clothNeeded 10 = .ok (.goto 4, 3) := by decide +kernel
theorem dX7_clothNeeded_13 : decode cX7_clothNeeded 13 = .ok (.iconst 0, 1) := by decide +kernel
theorem dX7_clothNeeded_14 : decode cX7_clothNeeded 14 = .ok (.putfield 50, 3) := by decide +kernel
theorem dX7_clothNeeded_17 : decode cX7_clothNeeded 17 = .ok (.aload_n 0, 1) := by decide +kernel
theorem dX7_clothNeeded_18 : decode cX7_clothNeeded 18 = .ok (.getfield 50, 3) := by decide +kernel
theorem dX7_clothNeeded_21 : decode cX7_clothNeeded 21 = .ok (.ifCond .eq 5, 3) := by decide +kernel
theorem dX7_clothNeeded_24 : decode cX7_clothNeeded 24 = .ok (.iconst 0, 1) := by decide +kernel
theorem dX7_clothNeeded_25 : decode cX7_clothNeeded 25 = .ok (.ireturn, 1) := by decide +kernel
theorem dX7_clothNeeded_26 : decode cX7_clothNeeded 26 = .ok (.aload_n 0, 1) := by decide +kernel
theorem dX7_clothNeeded_27 : decode cX7_clothNeeded 27 = .ok (.iload_n 1, 1) := by decide +kernel
theorem dX7_clothNeeded_28 : decode cX7_clothNeeded 28 = .ok (.invokevirtual 123, 3) := by decide +kernel
theorem dX7_clothNeeded_31 : decode cX7_clothNeeded 31 = .ok (.istore_n 2, 1) := by decide +kernel
theorem dX7_clothNeeded_32 : decode cX7_clothNeeded 32 = .ok (.iconst 0, 1) := by decide +kernel
theorem dX7_clothNeeded_33 : decode cX7_clothNeeded 33 = .ok (.istore_n 3, 1) := by decide +kernel
theorem dX7_clothNeeded_34 : decode cX7_clothNeeded 34 = .ok (.iconst 0, 1) := by decide +kernel
theorem dX7_clothNeeded_35 : decode cX7_clothNeeded 35 = .ok (.istore 4, 2) := by decide +kernel
theorem dX7_clothNeeded_37 : decode cX7_clothNeeded 37 = .ok (.iload 4, 2) := by decide +kernel
theorem dX7_clothNeeded_39 : decode cX7_clothNeeded 39 = .ok (.aload_n 0, 1) := by decide +kernel
theorem dX7_clothNeeded_40 : decode cX7_clothNeeded 40 = .ok (.iload_n 2, 1) := by decide +kernel
theorem dX7_clothNeeded_41 : decode cX7_clothNeeded 41 = .ok (.invokevirtual 79, 3) := by decide +kernel
theorem dX7_clothNeeded_44 : decode cX7_clothNeeded 44 = .ok (.if_icmp .ge 35, 3) := by decide +kernel
theorem dX7_clothNeeded_47 : decode cX7_clothNeeded 47 = .ok (.iload_n 3, 1) := by decide +kernel
theorem dX7_clothNeeded_48 : decode cX7_clothNeeded 48 = .ok (.aload_n 0, 1) := by decide +kernel
theorem dX7_clothNeeded_49 : decode cX7_clothNeeded 49 = .ok (.iload_n 2, 1) := by decide +kernel
theorem dX7_clothNeeded_50 : decode cX7_clothNeeded 50 = .ok (.iload 4, 2) := by decide +kernel
theorem dX7_clothNeeded_52 : decode cX7_clothNeeded 52 = .ok (.invokevirtual 85, 3) := by decide +kernel
theorem dX7_clothNeeded_55 : decode cX7_clothNeeded 55 = .ok (.ifCond .ne 15, 3) := by decide +kernel
theorem dX7_clothNeeded_58 : decode cX7_clothNeeded 58 = .ok (.aload_n 0, 1) := by decide +kernel
theorem dX7_clothNeeded_59 : decode cX7_clothNeeded 59 = .ok (.iload_n 2, 1) := by decide +kernel
theorem dX7_clothNeeded_60 : decode cX7_clothNeeded 60 = .ok (.iload 4, 2) := by decide +kernel
theorem dX7_clothNeeded_62 : decode cX7_clothNeeded 62 = .ok (.invokevirtual 120, 3) := by decide +kernel
theorem dX7_clothNeeded_65 : decode cX7_clothNeeded 65 = .ok (.iconst 2, 1) := by decide +kernel
theorem dX7_clothNeeded_66 : decode cX7_clothNeeded 66 = .ok (.iadd, 1) := by decide +kernel
theorem dX7_clothNeeded_67 : decode cX7_clothNeeded 67 = .ok (.goto 4, 3) := by decide +kernel
theorem dX7_clothNeeded_70 : decode cX7_clothNeeded 70 = .ok (.iconst 0, 1) := by decide +kernel
theorem dX7_clothNeeded_71 : decode cX7_clothNeeded 71 = .ok (.iadd, 1) := by decide +kernel
theorem dX7_clothNeeded_72 : decode cX7_clothNeeded 72 = .ok (.istore_n 3, 1) := by decide +kernel
theorem dX7_clothNeeded_73 : decode cX7_clothNeeded 73 = .ok (.iinc 4 1, 3) := by decide +kernel
theorem dX7_clothNeeded_76 : decode cX7_clothNeeded 76 = .ok (.goto (-39), 3) := by decide +kernel
theorem dX7_clothNeeded_79 : decode cX7_clothNeeded 79 = .ok (.iload_n 3, 1) := by decide +kernel
theorem dX7_clothNeeded_80 : decode cX7_clothNeeded 80 = .ok (.ireturn, 1) := by decide +kernel
theorem dX7_clothNeededByDifference_0 : decode cX7_clothNeededByDifference 0 = .ok (.aload_n 0, 1) := by decide +kernel
theorem dX7_clothNeededByDifference_1 : decode cX7_clothNeededByDifference 1 = .ok (.iload_n 1, 1) := by decide +kernel
theorem dX7_clothNeededByDifference_2 : decode cX7_clothNeededByDifference 2 = .ok (.invokevirtual 202, 3) := by decide +kernel
theorem dX7_clothNeededByDifference_5 : decode cX7_clothNeededByDifference 5 = .ok (.ireturn, 1) := by decide +kernel
theorem dX7_boughtTotal_0 : decode cX7_boughtTotal 0 = .ok (.aload_n 0, 1) := by decide +kernel
theorem dX7_boughtTotal_1 : decode cX7_boughtTotal 1 = .ok (.iconst 3, 1) := by decide +kernel
theorem dX7_boughtTotal_2 : decode cX7_boughtTotal 2 = .ok (.invokevirtual 178, 3) := by decide +kernel
theorem dX7_boughtTotal_5 : decode cX7_boughtTotal 5 = .ok (.ireturn, 1) := by decide +kernel
theorem dX7_wasteTotal_0 : decode cX7_wasteTotal 0 = .ok (.aload_n 0, 1) := by decide +kernel
theorem dX7_wasteTotal_1 : decode cX7_wasteTotal 1 = .ok (.iconst 4, 1) := by decide +kernel
theorem dX7_wasteTotal_2 : decode cX7_wasteTotal 2 = .ok (.invokevirtual 178, 3) := by decide +kernel
theorem dX7_wasteTotal_5 : decode cX7_wasteTotal 5 = .ok (.ireturn, 1) := by decide +kernel
theorem dX7_deliveredTotal_0 : decode cX7_deliveredTotal 0 = .ok (.aload_n 0, 1) := by decide +kernel
theorem dX7_deliveredTotal_1 : decode cX7_deliveredTotal 1 = .ok (.iconst 5, 1) := by decide +kernel
theorem dX7_deliveredTotal_2 : decode cX7_deliveredTotal 2 = .ok (.invokevirtual 178, 3) := by decide +kernel
theorem dX7_deliveredTotal_5 : decode cX7_deliveredTotal 5 = .ok (.ireturn, 1) := by decide +kernel
theorem dX7_income_0 : decode cX7_income 0 = .ok (.aload_n 0, 1) := by decide +kernel
theorem dX7_income_1 : decode cX7_income 1 = .ok (.bipush 6, 2) := by decide +kernel
theorem dX7_income_3 : decode cX7_income 3 = .ok (.invokevirtual 178, 3) := by decide +kernel
theorem dX7_income_6 : decode cX7_income 6 = .ok (.ireturn, 1) := by decide +kernel
theorem dX7_deliveredSuits_0 : decode cX7_deliveredSuits 0 = .ok (.aload_n 0, 1) := by decide +kernel
theorem dX7_deliveredSuits_1 : decode cX7_deliveredSuits 1 = .ok (.bipush 7, 2) := by decide +kernel
theorem dX7_deliveredSuits_3 : decode cX7_deliveredSuits 3 = .ok (.invokevirtual 178, 3) := by decide +kernel
theorem dX7_deliveredSuits_6 : decode cX7_deliveredSuits 6 = .ok (.ireturn, 1) := by decide +kernel
theorem dX7_meanLeg_0 : decode cX7_meanLeg 0 = .ok (.aload_n 0, 1) := by decide +kernel
theorem dX7_meanLeg_1 : decode cX7_meanLeg 1 = .ok (.aload_n 0, 1) := by decide +kernel
theorem dX7_meanLeg_2 : decode cX7_meanLeg 2 = .ok (.iload_n 1, 1) := by decide +kernel
theorem dX7_meanLeg_3 : decode cX7_meanLeg 3 = .ok (.invokevirtual 68, 3) := by decide +kernel
theorem dX7_meanLeg_6 : decode cX7_meanLeg 6 = .ok (.ifCond .eq 7, 3) := by decide +kernel
theorem dX7_meanLeg_9 : decode cX7_meanLeg 9 = .ok (.iconst 0, 1) := by decide +kernel
theorem dX7_meanLeg_10 : decode cX7_meanLeg 10 = .ok (.goto 4, 3) := by decide +kernel
theorem dX7_meanLeg_13 : decode cX7_meanLeg 13 = .ok (.iconst 1, 1) := by decide +kernel
theorem dX7_meanLeg_14 : decode cX7_meanLeg 14 = .ok (.putfield 50, 3) := by decide +kernel
theorem dX7_meanLeg_17 : decode cX7_meanLeg 17 = .ok (.aload_n 0, 1) := by decide +kernel
theorem dX7_meanLeg_18 : decode cX7_meanLeg 18 = .ok (.getfield 50, 3) := by decide +kernel
theorem dX7_meanLeg_21 : decode cX7_meanLeg 21 = .ok (.ifCond .ne 19, 3) := by decide +kernel
theorem dX7_meanLeg_24 : decode cX7_meanLeg 24 = .ok (.aload_n 0, 1) := by decide +kernel
theorem dX7_meanLeg_25 : decode cX7_meanLeg 25 = .ok (.iload_n 1, 1) := by decide +kernel
theorem dX7_meanLeg_26 : decode cX7_meanLeg 26 = .ok (.invokevirtual 181, 3) := by decide +kernel
theorem dX7_meanLeg_29 : decode cX7_meanLeg 29 = .ok (.i2d, 1) := by decide +kernel
theorem dX7_meanLeg_30 : decode cX7_meanLeg 30 = .ok (.aload_n 0, 1) := by decide +kernel
theorem dX7_meanLeg_31 : decode cX7_meanLeg 31 = .ok (.iload_n 1, 1) := by decide +kernel
theorem dX7_meanLeg_32 : decode cX7_meanLeg 32 = .ok (.invokevirtual 72, 3) := by decide +kernel
theorem dX7_meanLeg_35 : decode cX7_meanLeg 35 = .ok (.i2d, 1) := by decide +kernel
theorem dX7_meanLeg_36 : decode cX7_meanLeg 36 = .ok (.ddiv, 1) := by decide +kernel
theorem dX7_meanLeg_37 : decode cX7_meanLeg 37 = .ok (.goto 4, 3) := by decide +kernel
theorem dX7_meanLeg_40 : decode cX7_meanLeg 40 = .ok (.dconst 0, 1) := by decide +kernel
theorem dX7_meanLeg_41 : decode cX7_meanLeg 41 = .ok (.dreturn, 1) := by decide +kernel
theorem dX7_wasteShare_0 : decode cX7_wasteShare 0 = .ok (.aload_n 0, 1) := by decide +kernel
theorem dX7_wasteShare_1 : decode cX7_wasteShare 1 = .ok (.aload_n 0, 1) := by decide +kernel
theorem dX7_wasteShare_2 : decode cX7_wasteShare 2 = .ok (.getfield 16, 3) := by decide +kernel
theorem dX7_wasteShare_5 : decode cX7_wasteShare 5 = .ok (.iconst 3, 1) := by decide +kernel
theorem dX7_wasteShare_6 : decode cX7_wasteShare 6 = .ok (.iaload, 1) := by decide +kernel
theorem dX7_wasteShare_7 : decode cX7_wasteShare 7 = .ok (.ifCond .ne 7, 3) := by decide +kernel
theorem dX7_wasteShare_10 : decode cX7_wasteShare 10 = .ok (.iconst 1, 1) := by decide +kernel
theorem dX7_wasteShare_11 : decode cX7_wasteShare 11 = .ok (.goto 4, 3) := by decide +kernel
theorem dX7_wasteShare_14 : decode cX7_wasteShare 14 = .ok (.iconst 0, 1) := by decide +kernel
theorem dX7_wasteShare_15 : decode cX7_wasteShare 15 = .ok (.putfield 50, 3) := by decide +kernel
theorem dX7_wasteShare_18 : decode cX7_wasteShare 18 = .ok (.aload_n 0, 1) := by decide +kernel
theorem dX7_wasteShare_19 : decode cX7_wasteShare 19 = .ok (.getfield 50, 3) := by decide +kernel
theorem dX7_wasteShare_22 : decode cX7_wasteShare 22 = .ok (.ifCond .ne 21, 3) := by decide +kernel
theorem dX7_wasteShare_25 : decode cX7_wasteShare 25 = .ok (.aload_n 0, 1) := by decide +kernel
theorem dX7_wasteShare_26 : decode cX7_wasteShare 26 = .ok (.getfield 16, 3) := by decide +kernel
theorem dX7_wasteShare_29 : decode cX7_wasteShare 29 = .ok (.iconst 4, 1) := by decide +kernel
theorem dX7_wasteShare_30 : decode cX7_wasteShare 30 = .ok (.iaload, 1) := by decide +kernel
theorem dX7_wasteShare_31 : decode cX7_wasteShare 31 = .ok (.i2f, 1) := by decide +kernel
theorem dX7_wasteShare_32 : decode cX7_wasteShare 32 = .ok (.aload_n 0, 1) := by decide +kernel
theorem dX7_wasteShare_33 : decode cX7_wasteShare 33 = .ok (.getfield 16, 3) := by decide +kernel
theorem dX7_wasteShare_36 : decode cX7_wasteShare 36 = .ok (.iconst 3, 1) := by decide +kernel
theorem dX7_wasteShare_37 : decode cX7_wasteShare 37 = .ok (.iaload, 1) := by decide +kernel
theorem dX7_wasteShare_38 : decode cX7_wasteShare 38 = .ok (.i2f, 1) := by decide +kernel
theorem dX7_wasteShare_39 : decode cX7_wasteShare 39 = .ok (.fdiv, 1) := by decide +kernel
theorem dX7_wasteShare_40 : decode cX7_wasteShare 40 = .ok (.goto 4, 3) := by decide +kernel
theorem dX7_wasteShare_43 : decode cX7_wasteShare 43 = .ok (.fconst 0, 1) := by decide +kernel
theorem dX7_wasteShare_44 : decode cX7_wasteShare 44 = .ok (.freturn, 1) := by decide +kernel
theorem dX7_isConsistent_0 : decode cX7_isConsistent 0 = .ok (.aload_n 0, 1) := by decide +kernel
theorem dX7_isConsistent_1 : decode cX7_isConsistent 1 = .ok (.iconst 0, 1) := by decide +kernel
theorem dX7_isConsistent_2 : decode cX7_isConsistent 2 = .ok (.putfield 50, 3) := by decide +kernel
theorem dX7_isConsistent_5 : decode cX7_isConsistent 5 = .ok (.aload_n 0, 1) := by decide +kernel
theorem dX7_isConsistent_6 : decode cX7_isConsistent 6 = .ok (.getfield 16, 3) := by decide +kernel
theorem dX7_isConsistent_9 : decode cX7_isConsistent 9 = .ok (.iconst 4, 1) := by decide +kernel
theorem dX7_isConsistent_10 : decode cX7_isConsistent 10 = .ok (.iaload, 1) := by decide +kernel
theorem dX7_isConsistent_11 : decode cX7_isConsistent 11 = .ok (.aload_n 0, 1) := by decide +kernel
theorem dX7_isConsistent_12 : decode cX7_isConsistent 12 = .ok (.getfield 16, 3) := by decide +kernel
theorem dX7_isConsistent_15 : decode cX7_isConsistent 15 = .ok (.iconst 5, 1) := by decide +kernel
theorem dX7_isConsistent_16 : decode cX7_isConsistent 16 = .ok (.iaload, 1) := by decide +kernel
theorem dX7_isConsistent_17 : decode cX7_isConsistent 17 = .ok (.iadd, 1) := by decide +kernel
theorem dX7_isConsistent_18 : decode cX7_isConsistent 18 = .ok (.istore_n 1, 1) := by decide +kernel
theorem dX7_isConsistent_19 : decode cX7_isConsistent 19 = .ok (.iconst 0, 1) := by decide +kernel
theorem dX7_isConsistent_20 : decode cX7_isConsistent 20 = .ok (.istore_n 2, 1) := by decide +kernel
theorem dX7_isConsistent_21 : decode cX7_isConsistent 21 = .ok (.iload_n 2, 1) := by decide +kernel
theorem dX7_isConsistent_22 : decode cX7_isConsistent 22 = .ok (.iconst 4, 1) := by decide +kernel
theorem dX7_isConsistent_23 : decode cX7_isConsistent 23 = .ok (.if_icmp .ge 21, 3) := by decide +kernel
theorem dX7_isConsistent_26 : decode cX7_isConsistent 26 = .ok (.iload_n 1, 1) := by decide +kernel
theorem dX7_isConsistent_27 : decode cX7_isConsistent 27 = .ok (.aload_n 0, 1) := by decide +kernel
theorem dX7_isConsistent_28 : decode cX7_isConsistent 28 = .ok (.getfield 16, 3) := by decide +kernel
theorem dX7_isConsistent_31 : decode cX7_isConsistent 31 = .ok (.bipush 8, 2) := by decide +kernel
theorem dX7_isConsistent_33 : decode cX7_isConsistent 33 = .ok (.iload_n 2, 1) := by decide +kernel
theorem dX7_isConsistent_34 : decode cX7_isConsistent 34 = .ok (.iadd, 1) := by decide +kernel
theorem dX7_isConsistent_35 : decode cX7_isConsistent 35 = .ok (.iaload, 1) := by decide +kernel
theorem dX7_isConsistent_36 : decode cX7_isConsistent 36 = .ok (.iadd, 1) := by decide +kernel
theorem dX7_isConsistent_37 : decode cX7_isConsistent 37 = .ok (.istore_n 1, 1) := by decide +kernel
theorem dX7_isConsistent_38 : decode cX7_isConsistent 38 = .ok (.iinc 2 1, 3) := by decide +kernel
theorem dX7_isConsistent_41 : decode cX7_isConsistent 41 = .ok (.goto (-20), 3) := by decide +kernel
theorem dX7_isConsistent_44 : decode cX7_isConsistent 44 = .ok (.iconst 0, 1) := by decide +kernel
theorem dX7_isConsistent_45 : decode cX7_isConsistent 45 = .ok (.istore_n 2, 1) := by decide +kernel
theorem dX7_isConsistent_46 : decode cX7_isConsistent 46 = .ok (.iload_n 2, 1) := by decide +kernel
theorem dX7_isConsistent_47 : decode cX7_isConsistent 47 = .ok (.aload_n 0, 1) := by decide +kernel
theorem dX7_isConsistent_48 : decode cX7_isConsistent 48 = .ok (.getfield 16, 3) := by decide +kernel
theorem dX7_isConsistent_51 : decode cX7_isConsistent 51 = .ok (.iconst 1, 1) := by decide +kernel
theorem dX7_isConsistent_52 : decode cX7_isConsistent 52 = .ok (.iaload, 1) := by decide +kernel
theorem dX7_isConsistent_53 : decode cX7_isConsistent 53 = .ok (.if_icmp .ge 17, 3) := by decide +kernel
theorem dX7_isConsistent_56 : decode cX7_isConsistent 56 = .ok (.iload_n 1, 1) := by decide +kernel
theorem dX7_isConsistent_57 : decode cX7_isConsistent 57 = .ok (.aload_n 0, 1) := by decide +kernel
theorem dX7_isConsistent_58 : decode cX7_isConsistent 58 = .ok (.iload_n 2, 1) := by decide +kernel
theorem dX7_isConsistent_59 : decode cX7_isConsistent 59 = .ok (.invokevirtual 165, 3) := by decide +kernel
theorem dX7_isConsistent_62 : decode cX7_isConsistent 62 = .ok (.iadd, 1) := by decide +kernel
theorem dX7_isConsistent_63 : decode cX7_isConsistent 63 = .ok (.istore_n 1, 1) := by decide +kernel
theorem dX7_isConsistent_64 : decode cX7_isConsistent 64 = .ok (.iinc 2 1, 3) := by decide +kernel
theorem dX7_isConsistent_67 : decode cX7_isConsistent 67 = .ok (.goto (-21), 3) := by decide +kernel
theorem dX7_isConsistent_70 : decode cX7_isConsistent 70 = .ok (.iload_n 1, 1) := by decide +kernel
theorem dX7_isConsistent_71 : decode cX7_isConsistent 71 = .ok (.aload_n 0, 1) := by decide +kernel
theorem dX7_isConsistent_72 : decode cX7_isConsistent 72 = .ok (.getfield 16, 3) := by decide +kernel
theorem dX7_isConsistent_75 : decode cX7_isConsistent 75 = .ok (.iconst 3, 1) := by decide +kernel
theorem dX7_isConsistent_76 : decode cX7_isConsistent 76 = .ok (.iaload, 1) := by decide +kernel
theorem dX7_isConsistent_77 : decode cX7_isConsistent 77 = .ok (.if_icmp .ne 7, 3) := by decide +kernel
theorem dX7_isConsistent_80 : decode cX7_isConsistent 80 = .ok (.iconst 1, 1) := by decide +kernel
theorem dX7_isConsistent_81 : decode cX7_isConsistent 81 = .ok (.goto 4, 3) := by decide +kernel
theorem dX7_isConsistent_84 : decode cX7_isConsistent 84 = .ok (.iconst 0, 1) := by decide +kernel
theorem dX7_isConsistent_85 : decode cX7_isConsistent 85 = .ok (.ireturn, 1) := by decide +kernel
theorem dX7_writes_0 : decode cX7_writes 0 = .ok (.aload_n 0, 1) := by decide +kernel
theorem dX7_writes_1 : decode cX7_writes 1 = .ok (.getfield 38, 3) := by decide +kernel
theorem dX7_writes_4 : decode cX7_writes 4 = .ok (.aload_n 0, 1) := by decide +kernel
theorem dX7_writes_5 : decode cX7_writes 5 = .ok (.getfield 205, 3) := by decide +kernel
theorem dX7_writes_8 : decode cX7_writes 8 = .ok (.iload_n 1, 1) := by decide +kernel
theorem dX7_writes_9 : decode cX7_writes 9 = .ok (.iastore, 1) := by decide +kernel
theorem dX7_writes_10 : decode cX7_writes 10 = .ok (.aload_n 0, 1) := by decide +kernel
theorem dX7_writes_11 : decode cX7_writes 11 = .ok (.dup, 1) := by decide +kernel
theorem dX7_writes_12 : decode cX7_writes 12 = .ok (.getfield 205, 3) := by decide +kernel
theorem dX7_writes_15 : decode cX7_writes 15 = .ok (.iconst 1, 1) := by decide +kernel
theorem dX7_writes_16 : decode cX7_writes 16 = .ok (.iadd, 1) := by decide +kernel
theorem dX7_writes_17 : decode cX7_writes 17 = .ok (.putfield 205, 3) := by decide +kernel
theorem dX7_writes_20 : decode cX7_writes 20 = .ok (.return_, 1) := by decide +kernel
theorem dX7_writesNumber_0 : decode cX7_writesNumber 0 = .ok (.iload_n 1, 1) := by decide +kernel
theorem dX7_writesNumber_1 : decode cX7_writesNumber 1 = .ok (.bipush 10, 2) := by decide +kernel
theorem dX7_writesNumber_3 : decode cX7_writesNumber 3 = .ok (.if_icmp .lt 14, 3) := by decide +kernel
theorem dX7_writesNumber_6 : decode cX7_writesNumber 6 = .ok (.aload_n 0, 1) := by decide +kernel
theorem dX7_writesNumber_7 : decode cX7_writesNumber 7 = .ok (.bipush 48, 2) := by decide +kernel
theorem dX7_writesNumber_9 : decode cX7_writesNumber 9 = .ok (.iload_n 1, 1) := by decide +kernel
theorem dX7_writesNumber_10 : decode cX7_writesNumber 10 = .ok (.bipush 10, 2) := by decide +kernel
theorem dX7_writesNumber_12 : decode cX7_writesNumber 12 = .ok (.idiv, 1) := by decide +kernel
theorem dX7_writesNumber_13 : decode cX7_writesNumber 13 = .ok (.iadd, 1) := by decide +kernel
theorem dX7_writesNumber_14 : decode cX7_writesNumber 14 = .ok (.invokevirtual 208, 3) := by decide +kernel
theorem dX7_writesNumber_17 : decode cX7_writesNumber 17 = .ok (.aload_n 0, 1) := by decide +kernel
theorem dX7_writesNumber_18 : decode cX7_writesNumber 18 = .ok (.bipush 48, 2) := by decide +kernel
theorem dX7_writesNumber_20 : decode cX7_writesNumber 20 = .ok (.iload_n 1, 1) := by decide +kernel
theorem dX7_writesNumber_21 : decode cX7_writesNumber 21 = .ok (.bipush 10, 2) := by decide +kernel
theorem dX7_writesNumber_23 : decode cX7_writesNumber 23 = .ok (.irem, 1) := by decide +kernel
theorem dX7_writesNumber_24 : decode cX7_writesNumber 24 = .ok (.iadd, 1) := by decide +kernel
theorem dX7_writesNumber_25 : decode cX7_writesNumber 25 = .ok (.invokevirtual 208, 3) := by decide +kernel
theorem dX7_writesNumber_28 : decode cX7_writesNumber 28 = .ok (.return_, 1) := by decide +kernel
theorem dX7_renderSuit_0 : decode cX7_renderSuit 0 = .ok (.aload_n 0, 1) := by decide +kernel
theorem dX7_renderSuit_1 : decode cX7_renderSuit 1 = .ok (.aload_n 0, 1) := by decide +kernel
theorem dX7_renderSuit_2 : decode cX7_renderSuit 2 = .ok (.iload_n 1, 1) := by decide +kernel
theorem dX7_renderSuit_3 : decode cX7_renderSuit 3 = .ok (.invokevirtual 123, 3) := by decide +kernel
theorem dX7_renderSuit_6 : decode cX7_renderSuit 6 = .ok (.ifCond .ge 7, 3) := by decide +kernel
theorem dX7_renderSuit_9 : decode cX7_renderSuit 9 = .ok (.iconst 1, 1) := by decide +kernel
theorem dX7_renderSuit_10 : decode cX7_renderSuit 10 = .ok (.goto 4, 3) := by decide +kernel
theorem dX7_renderSuit_13 : decode cX7_renderSuit 13 = .ok (.iconst 0, 1) := by decide +kernel
theorem dX7_renderSuit_14 : decode cX7_renderSuit 14 = .ok (.putfield 50, 3) := by decide +kernel
theorem dX7_renderSuit_17 : decode cX7_renderSuit 17 = .ok (.aload_n 0, 1) := by decide +kernel
theorem dX7_renderSuit_18 : decode cX7_renderSuit 18 = .ok (.getfield 50, 3) := by decide +kernel
theorem dX7_renderSuit_21 : decode cX7_renderSuit 21 = .ok (.ifCond .eq 5, 3) := by decide +kernel
theorem dX7_renderSuit_24 : decode cX7_renderSuit 24 = .ok (.iconst 0, 1) := by decide +kernel
theorem dX7_renderSuit_25 : decode cX7_renderSuit 25 = .ok (.ireturn, 1) := by decide +kernel
theorem dX7_renderSuit_26 : decode cX7_renderSuit 26 = .ok (.aload_n 0, 1) := by decide +kernel
theorem dX7_renderSuit_27 : decode cX7_renderSuit 27 = .ok (.iload_n 1, 1) := by decide +kernel
theorem dX7_renderSuit_28 : decode cX7_renderSuit 28 = .ok (.invokevirtual 123, 3) := by decide +kernel
theorem dX7_renderSuit_31 : decode cX7_renderSuit 31 = .ok (.istore_n 2, 1) := by decide +kernel
theorem dX7_renderSuit_32 : decode cX7_renderSuit 32 = .ok (.aload_n 0, 1) := by decide +kernel
theorem dX7_renderSuit_33 : decode cX7_renderSuit 33 = .ok (.iconst 0, 1) := by decide +kernel
theorem dX7_renderSuit_34 : decode cX7_renderSuit 34 = .ok (.putfield 205, 3) := by decide +kernel
theorem dX7_renderSuit_37 : decode cX7_renderSuit 37 = .ok (.iconst 0, 1) := by decide +kernel
theorem dX7_renderSuit_38 : decode cX7_renderSuit 38 = .ok (.istore_n 3, 1) := by decide +kernel
theorem dX7_renderSuit_39 : decode cX7_renderSuit 39 = .ok (.iload_n 3, 1) := by decide +kernel
theorem dX7_renderSuit_40 : decode cX7_renderSuit 40 = .ok (.aload_n 0, 1) := by decide +kernel
theorem dX7_renderSuit_41 : decode cX7_renderSuit 41 = .ok (.iload_n 2, 1) := by decide +kernel
theorem dX7_renderSuit_42 : decode cX7_renderSuit 42 = .ok (.invokevirtual 79, 3) := by decide +kernel
theorem dX7_renderSuit_45 : decode cX7_renderSuit 45 = .ok (.if_icmp .ge 80, 3) := by decide +kernel
theorem dX7_renderSuit_48 : decode cX7_renderSuit 48 = .ok (.iload_n 3, 1) := by decide +kernel
theorem dX7_renderSuit_49 : decode cX7_renderSuit 49 = .ok (.ifCond .le 21, 3) := by decide +kernel
theorem dX7_renderSuit_52 : decode cX7_renderSuit 52 = .ok (.aload_n 0, 1) := by decide +kernel
theorem dX7_renderSuit_53 : decode cX7_renderSuit 53 = .ok (.iload_n 3, 1) := by decide +kernel
theorem dX7_renderSuit_54 : decode cX7_renderSuit 54 = .ok (.iconst 2, 1) := by decide +kernel
theorem dX7_renderSuit_55 : decode cX7_renderSuit 55 = .ok (.irem, 1) := by decide +kernel
theorem dX7_renderSuit_56 : decode cX7_renderSuit 56 = .ok (.iconst 1, 1) := by decide +kernel
theorem dX7_renderSuit_57 : decode cX7_renderSuit 57 = .ok (.if_icmp .ne 8, 3) := by decide +kernel
theorem dX7_renderSuit_60 : decode cX7_renderSuit 60 = .ok (.bipush 32, 2) := by decide +kernel
theorem dX7_renderSuit_62 : decode cX7_renderSuit 62 = .ok (.goto 5, 3) := by decide +kernel
theorem dX7_renderSuit_65 : decode cX7_renderSuit 65 = .ok (.bipush 124, 2) := by decide +kernel
theorem dX7_renderSuit_67 : decode cX7_renderSuit 67 = .ok (.invokevirtual 208, 3) := by decide +kernel
theorem dX7_renderSuit_70 : decode cX7_renderSuit 70 = .ok (.aload_n 0, 1) := by decide +kernel
theorem dX7_renderSuit_71 : decode cX7_renderSuit 71 = .ok (.iload_n 2, 1) := by decide +kernel
theorem dX7_renderSuit_72 : decode cX7_renderSuit 72 = .ok (.iload_n 3, 1) := by decide +kernel
theorem dX7_renderSuit_73 : decode cX7_renderSuit 73 = .ok (.invokevirtual 85, 3) := by decide +kernel
theorem dX7_renderSuit_76 : decode cX7_renderSuit 76 = .ok (.ifCond .ne 12, 3) := by decide +kernel
theorem dX7_renderSuit_79 : decode cX7_renderSuit 79 = .ok (.aload_n 0, 1) := by decide +kernel
theorem dX7_renderSuit_80 : decode cX7_renderSuit 80 = .ok (.bipush 46, 2) := by decide +kernel
theorem dX7_renderSuit_82 : decode cX7_renderSuit 82 = .ok (.invokevirtual 208, 3) := by decide +kernel
theorem dX7_renderSuit_85 : decode cX7_renderSuit 85 = .ok (.goto 34, 3) := by decide +kernel
theorem dX7_renderSuit_88 : decode cX7_renderSuit 88 = .ok (.aload_n 0, 1) := by decide +kernel
theorem dX7_renderSuit_89 : decode cX7_renderSuit 89 = .ok (.aload_n 0, 1) := by decide +kernel
theorem dX7_renderSuit_90 : decode cX7_renderSuit 90 = .ok (.iload_n 2, 1) := by decide +kernel
theorem dX7_renderSuit_91 : decode cX7_renderSuit 91 = .ok (.iload_n 3, 1) := by decide +kernel
theorem dX7_renderSuit_92 : decode cX7_renderSuit 92 = .ok (.invokevirtual 141, 3) := by decide +kernel
theorem dX7_renderSuit_95 : decode cX7_renderSuit 95 = .ok (.invokevirtual 211, 3) := by decide +kernel
theorem dX7_renderSuit_98 : decode cX7_renderSuit 98 = .ok (.aload_n 0, 1) := by decide +kernel
theorem dX7_renderSuit_99 : decode cX7_renderSuit 99 = .ok (.aload_n 0, 1) := by decide +kernel
theorem dX7_renderSuit_100 : decode cX7_renderSuit 100 = .ok (.iload_n 2, 1) := by decide +kernel
theorem dX7_renderSuit_101 : decode cX7_renderSuit 101 = .ok (.iload_n 3, 1) := by decide +kernel
theorem dX7_renderSuit_102 : decode cX7_renderSuit 102 = .ok (.invokevirtual 85, 3) := by decide +kernel
theorem dX7_renderSuit_105 : decode cX7_renderSuit 105 = .ok (.iconst 1, 1) := by decide +kernel
theorem dX7_renderSuit_106 : decode cX7_renderSuit 106 = .ok (.if_icmp .ne 8, 3) := by decide +kernel
theorem dX7_renderSuit_109 : decode cX7_renderSuit 109 = .ok (.bipush 99, 2) := by decide +kernel
theorem dX7_renderSuit_111 : decode cX7_renderSuit 111 = .ok (.goto 5, 3) := by decide +kernel
theorem dX7_renderSuit_114 : decode cX7_renderSuit 114 = .ok (.bipush 115, 2) := by decide +kernel
theorem dX7_renderSuit_116 : decode cX7_renderSuit 116 = .ok (.invokevirtual 208, 3) := by decide +kernel
theorem dX7_renderSuit_119 : decode cX7_renderSuit 119 = .ok (.iinc 3 1, 3) := by decide +kernel
theorem dX7_renderSuit_122 : decode cX7_renderSuit 122 = .ok (.goto (-83), 3) := by decide +kernel
theorem dX7_renderSuit_125 : decode cX7_renderSuit 125 = .ok (.aload_n 0, 1) := by decide +kernel
theorem dX7_renderSuit_126 : decode cX7_renderSuit 126 = .ok (.getfield 205, 3) := by decide +kernel
theorem dX7_renderSuit_129 : decode cX7_renderSuit 129 = .ok (.ireturn, 1) := by decide +kernel
theorem dX7_renderOrder_0 : decode cX7_renderOrder 0 = .ok (.aload_n 0, 1) := by decide +kernel
theorem dX7_renderOrder_1 : decode cX7_renderOrder 1 = .ok (.aload_n 0, 1) := by decide +kernel
theorem dX7_renderOrder_2 : decode cX7_renderOrder 2 = .ok (.iload_n 1, 1) := by decide +kernel
theorem dX7_renderOrder_3 : decode cX7_renderOrder 3 = .ok (.invokevirtual 123, 3) := by decide +kernel
theorem dX7_renderOrder_6 : decode cX7_renderOrder 6 = .ok (.ifCond .ge 7, 3) := by decide +kernel
theorem dX7_renderOrder_9 : decode cX7_renderOrder 9 = .ok (.iconst 1, 1) := by decide +kernel
theorem dX7_renderOrder_10 : decode cX7_renderOrder 10 = .ok (.goto 4, 3) := by decide +kernel
theorem dX7_renderOrder_13 : decode cX7_renderOrder 13 = .ok (.iconst 0, 1) := by decide +kernel
theorem dX7_renderOrder_14 : decode cX7_renderOrder 14 = .ok (.putfield 50, 3) := by decide +kernel
theorem dX7_renderOrder_17 : decode cX7_renderOrder 17 = .ok (.aload_n 0, 1) := by decide +kernel
theorem dX7_renderOrder_18 : decode cX7_renderOrder 18 = .ok (.getfield 50, 3) := by decide +kernel
theorem dX7_renderOrder_21 : decode cX7_renderOrder 21 = .ok (.ifCond .eq 5, 3) := by decide +kernel
theorem dX7_renderOrder_24 : decode cX7_renderOrder 24 = .ok (.iconst 0, 1) := by decide +kernel
theorem dX7_renderOrder_25 : decode cX7_renderOrder 25 = .ok (.ireturn, 1) := by decide +kernel
theorem dX7_renderOrder_26 : decode cX7_renderOrder 26 = .ok (.aload_n 0, 1) := by decide +kernel
theorem dX7_renderOrder_27 : decode cX7_renderOrder 27 = .ok (.aload_n 0, 1) := by decide +kernel
theorem dX7_renderOrder_28 : decode cX7_renderOrder 28 = .ok (.iload_n 1, 1) := by decide +kernel
theorem dX7_renderOrder_29 : decode cX7_renderOrder 29 = .ok (.invokevirtual 123, 3) := by decide +kernel
theorem dX7_renderOrder_32 : decode cX7_renderOrder 32 = .ok (.invokevirtual 196, 3) := by decide +kernel
theorem dX7_renderOrder_35 : decode cX7_renderOrder 35 = .ok (.istore_n 2, 1) := by decide +kernel
theorem dX7_renderOrder_36 : decode cX7_renderOrder 36 = .ok (.aload_n 0, 1) := by decide +kernel
theorem dX7_renderOrder_37 : decode cX7_renderOrder 37 = .ok (.iconst 0, 1) := by decide +kernel
theorem dX7_renderOrder_38 : decode cX7_renderOrder 38 = .ok (.putfield 205, 3) := by decide +kernel
theorem dX7_renderOrder_41 : decode cX7_renderOrder 41 = .ok (.iconst 0, 1) := by decide +kernel
theorem dX7_renderOrder_42 : decode cX7_renderOrder 42 = .ok (.istore_n 3, 1) := by decide +kernel
theorem dX7_renderOrder_43 : decode cX7_renderOrder 43 = .ok (.iload_n 3, 1) := by decide +kernel
theorem dX7_renderOrder_44 : decode cX7_renderOrder 44 = .ok (.iload_n 2, 1) := by decide +kernel
theorem dX7_renderOrder_45 : decode cX7_renderOrder 45 = .ok (.if_icmp .ge 29, 3) := by decide +kernel
theorem dX7_renderOrder_48 : decode cX7_renderOrder 48 = .ok (.iload_n 3, 1) := by decide +kernel
theorem dX7_renderOrder_49 : decode cX7_renderOrder 49 = .ok (.ifCond .le 9, 3) := by decide +kernel
theorem dX7_renderOrder_52 : decode cX7_renderOrder 52 = .ok (.aload_n 0, 1) := by decide +kernel
theorem dX7_renderOrder_53 : decode cX7_renderOrder 53 = .ok (.bipush 44, 2) := by decide +kernel
theorem dX7_renderOrder_55 : decode cX7_renderOrder 55 = .ok (.invokevirtual 208, 3) := by decide +kernel
theorem dX7_renderOrder_58 : decode cX7_renderOrder 58 = .ok (.aload_n 0, 1) := by decide +kernel
theorem dX7_renderOrder_59 : decode cX7_renderOrder 59 = .ok (.aload_n 0, 1) := by decide +kernel
theorem dX7_renderOrder_60 : decode cX7_renderOrder 60 = .ok (.getfield 29, 3) := by decide +kernel
theorem dX7_renderOrder_63 : decode cX7_renderOrder 63 = .ok (.iload_n 3, 1) := by decide +kernel
theorem dX7_renderOrder_64 : decode cX7_renderOrder 64 = .ok (.iaload, 1) := by decide +kernel
theorem dX7_renderOrder_65 : decode cX7_renderOrder 65 = .ok (.invokevirtual 211, 3) := by decide +kernel
theorem dX7_renderOrder_68 : decode cX7_renderOrder 68 = .ok (.iinc 3 1, 3) := by decide +kernel
theorem dX7_renderOrder_71 : decode cX7_renderOrder 71 = .ok (.goto (-28), 3) := by decide +kernel
theorem dX7_renderOrder_74 : decode cX7_renderOrder 74 = .ok (.aload_n 0, 1) := by decide +kernel
theorem dX7_renderOrder_75 : decode cX7_renderOrder 75 = .ok (.getfield 205, 3) := by decide +kernel
theorem dX7_renderOrder_78 : decode cX7_renderOrder 78 = .ok (.ireturn, 1) := by decide +kernel
theorem dX7_outputAt_0 : decode cX7_outputAt 0 = .ok (.aload_n 0, 1) := by decide +kernel
theorem dX7_outputAt_1 : decode cX7_outputAt 1 = .ok (.iload_n 1, 1) := by decide +kernel
theorem dX7_outputAt_2 : decode cX7_outputAt 2 = .ok (.iconst 0, 1) := by decide +kernel
theorem dX7_outputAt_3 : decode cX7_outputAt 3 = .ok (.aload_n 0, 1) := by decide +kernel
theorem dX7_outputAt_4 : decode cX7_outputAt 4 = .ok (.getfield 205, 3) := by decide +kernel
theorem dX7_outputAt_7 : decode cX7_outputAt 7 = .ok (.iconst 1, 1) := by decide +kernel
theorem dX7_outputAt_8 : decode cX7_outputAt 8 = .ok (.isub, 1) := by decide +kernel
theorem dX7_outputAt_9 : decode cX7_outputAt 9 = .ok (.invokestatic 60, 3) := by decide +kernel
theorem dX7_outputAt_12 : decode cX7_outputAt 12 = .ok (.ifCond .eq 7, 3) := by decide +kernel
theorem dX7_outputAt_15 : decode cX7_outputAt 15 = .ok (.iconst 0, 1) := by decide +kernel
theorem dX7_outputAt_16 : decode cX7_outputAt 16 = .ok (.goto 4, 3) := by decide +kernel
theorem dX7_outputAt_19 : decode cX7_outputAt 19 = .ok (.iconst 1, 1) := by decide +kernel
theorem dX7_outputAt_20 : decode cX7_outputAt 20 = .ok (.putfield 50, 3) := by decide +kernel
theorem dX7_outputAt_23 : decode cX7_outputAt 23 = .ok (.aload_n 0, 1) := by decide +kernel
theorem dX7_outputAt_24 : decode cX7_outputAt 24 = .ok (.getfield 50, 3) := by decide +kernel
theorem dX7_outputAt_27 : decode cX7_outputAt 27 = .ok (.ifCond .ne 13, 3) := by decide +kernel
theorem dX7_outputAt_30 : decode cX7_outputAt 30 = .ok (.aload_n 0, 1) := by decide +kernel
theorem dX7_outputAt_31 : decode cX7_outputAt 31 = .ok (.getfield 38, 3) := by decide +kernel
theorem dX7_outputAt_34 : decode cX7_outputAt 34 = .ok (.iload_n 1, 1) := by decide +kernel
theorem dX7_outputAt_35 : decode cX7_outputAt 35 = .ok (.iaload, 1) := by decide +kernel
theorem dX7_outputAt_36 : decode cX7_outputAt 36 = .ok (.i2c, 1) := by decide +kernel
theorem dX7_outputAt_37 : decode cX7_outputAt 37 = .ok (.goto 5, 3) := by decide +kernel
theorem dX7_outputAt_40 : decode cX7_outputAt 40 = .ok (.bipush 97, 2) := by decide +kernel
theorem dX7_outputAt_42 : decode cX7_outputAt 42 = .ok (.ireturn, 1) := by decide +kernel
theorem dX7_type_0 : decode cX7_type 0 = .ok (.aload_n 0, 1) := by decide +kernel
theorem dX7_type_1 : decode cX7_type 1 = .ok (.iload_n 1, 1) := by decide +kernel
theorem dX7_type_2 : decode cX7_type 2 = .ok (.bipush 32, 2) := by decide +kernel
theorem dX7_type_4 : decode cX7_type 4 = .ok (.bipush 126, 2) := by decide +kernel
theorem dX7_type_6 : decode cX7_type 6 = .ok (.invokestatic 60, 3) := by decide +kernel
theorem dX7_type_9 : decode cX7_type 9 = .ok (.ifCond .ne 7, 3) := by decide +kernel
theorem dX7_type_12 : decode cX7_type 12 = .ok (.iconst 1, 1) := by decide +kernel
theorem dX7_type_13 : decode cX7_type 13 = .ok (.goto 17, 3) := by decide +kernel
theorem dX7_type_16 : decode cX7_type 16 = .ok (.aload_n 0, 1) := by decide +kernel
theorem dX7_type_17 : decode cX7_type 17 = .ok (.getfield 214, 3) := by decide +kernel
theorem dX7_type_20 : decode cX7_type 20 = .ok (.bipush 60, 2) := by decide +kernel
theorem dX7_type_22 : decode cX7_type 22 = .ok (.if_icmp .ne 7, 3) := by decide +kernel
theorem dX7_type_25 : decode cX7_type 25 = .ok (.iconst 2, 1) := by decide +kernel
theorem dX7_type_26 : decode cX7_type 26 = .ok (.goto 4, 3) := by decide +kernel
theorem dX7_type_29 : decode cX7_type 29 = .ok (.iconst 0, 1) := by decide +kernel
theorem dX7_type_30 : decode cX7_type 30 = .ok (.putfield 50, 3) := by decide +kernel
theorem dX7_type_33 : decode cX7_type 33 = .ok (.aload_n 0, 1) := by decide +kernel
theorem dX7_type_34 : decode cX7_type 34 = .ok (.getfield 50, 3) := by decide +kernel
theorem dX7_type_37 : decode cX7_type 37 = .ok (.ifCond .eq 5, 3) := by decide +kernel
theorem dX7_type_40 : decode cX7_type 40 = .ok (.iconst 0, 1) := by decide +kernel
theorem dX7_type_41 : decode cX7_type 41 = .ok (.ireturn, 1) := by decide +kernel
theorem dX7_type_42 : decode cX7_type 42 = .ok (.aload_n 0, 1) := by decide +kernel
theorem dX7_type_43 : decode cX7_type 43 = .ok (.getfield 35, 3) := by decide +kernel
theorem dX7_type_46 : decode cX7_type 46 = .ok (.aload_n 0, 1) := by decide +kernel
theorem dX7_type_47 : decode cX7_type 47 = .ok (.getfield 214, 3) := by decide +kernel
theorem dX7_type_50 : decode cX7_type 50 = .ok (.iload_n 1, 1) := by decide +kernel
theorem dX7_type_51 : decode cX7_type 51 = .ok (.iastore, 1) := by decide +kernel
theorem dX7_type_52 : decode cX7_type 52 = .ok (.aload_n 0, 1) := by decide +kernel
theorem dX7_type_53 : decode cX7_type 53 = .ok (.dup, 1) := by decide +kernel
theorem dX7_type_54 : decode cX7_type 54 = .ok (.getfield 214, 3) := by decide +kernel
theorem dX7_type_57 : decode cX7_type 57 = .ok (.iconst 1, 1) := by decide +kernel
theorem dX7_type_58 : decode cX7_type 58 = .ok (.iadd, 1) := by decide +kernel
theorem dX7_type_59 : decode cX7_type 59 = .ok (.putfield 214, 3) := by decide +kernel
theorem dX7_type_62 : decode cX7_type 62 = .ok (.aload_n 0, 1) := by decide +kernel
theorem dX7_type_63 : decode cX7_type 63 = .ok (.getfield 214, 3) := by decide +kernel
theorem dX7_type_66 : decode cX7_type 66 = .ok (.ireturn, 1) := by decide +kernel
theorem dX7_sign_0 : decode cX7_sign 0 = .ok (.aload_n 0, 1) := by decide +kernel
theorem dX7_sign_1 : decode cX7_sign 1 = .ok (.getfield 217, 3) := by decide +kernel
theorem dX7_sign_4 : decode cX7_sign 4 = .ok (.aload_n 0, 1) := by decide +kernel
theorem dX7_sign_5 : decode cX7_sign 5 = .ok (.getfield 220, 3) := by decide +kernel
theorem dX7_sign_8 : decode cX7_sign 8 = .ok (.if_icmp .ge 15, 3) := by decide +kernel
theorem dX7_sign_11 : decode cX7_sign 11 = .ok (.aload_n 0, 1) := by decide +kernel
theorem dX7_sign_12 : decode cX7_sign 12 = .ok (.getfield 35, 3) := by decide +kernel
theorem dX7_sign_15 : decode cX7_sign 15 = .ok (.aload_n 0, 1) := by decide +kernel
theorem dX7_sign_16 : decode cX7_sign 16 = .ok (.getfield 217, 3) := by decide +kernel
theorem dX7_sign_19 : decode cX7_sign 19 = .ok (.iaload, 1) := by decide +kernel
theorem dX7_sign_20 : decode cX7_sign 20 = .ok (.goto 4, 3) := by decide +kernel
theorem dX7_sign_23 : decode cX7_sign 23 = .ok (.iconst (-1), 1) := by decide +kernel
theorem dX7_sign_24 : decode cX7_sign 24 = .ok (.ireturn, 1) := by decide +kernel
theorem dX7_mark_0 : decode cX7_mark 0 = .ok (.aload_n 0, 1) := by decide +kernel
theorem dX7_mark_1 : decode cX7_mark 1 = .ok (.getfield 223, 3) := by decide +kernel
theorem dX7_mark_4 : decode cX7_mark 4 = .ok (.ifCond .eq 4, 3) := by decide +kernel
theorem dX7_mark_7 : decode cX7_mark 7 = .ok (.return_, 1) := by decide +kernel
theorem dX7_mark_8 : decode cX7_mark 8 = .ok (.aload_n 0, 1) := by decide +kernel
theorem dX7_mark_9 : decode cX7_mark 9 = .ok (.aload_n 0, 1) := by decide +kernel
theorem dX7_mark_10 : decode cX7_mark 10 = .ok (.invokevirtual 227, 3) := by decide +kernel
theorem dX7_mark_13 : decode cX7_mark 13 = .ok (.iload_n 1, 1) := by decide +kernel
theorem dX7_mark_14 : decode cX7_mark 14 = .ok (.if_icmp .eq 7, 3) := by decide +kernel
theorem dX7_mark_17 : decode cX7_mark 17 = .ok (.iconst 1, 1) := by decide +kernel
theorem dX7_mark_18 : decode cX7_mark 18 = .ok (.goto 4, 3) := by decide +kernel
theorem dX7_mark_21 : decode cX7_mark 21 = .ok (.iconst 0, 1) := by decide +kernel
theorem dX7_mark_22 : decode cX7_mark 22 = .ok (.putfield 223, 3) := by decide +kernel
theorem dX7_mark_25 : decode cX7_mark 25 = .ok (.aload_n 0, 1) := by decide +kernel
theorem dX7_mark_26 : decode cX7_mark 26 = .ok (.dup, 1) := by decide +kernel
theorem dX7_mark_27 : decode cX7_mark 27 = .ok (.getfield 217, 3) := by decide +kernel
theorem dX7_mark_30 : decode cX7_mark 30 = .ok (.aload_n 0, 1) := by decide +kernel
theorem dX7_mark_31 : decode cX7_mark 31 = .ok (.getfield 223, 3) := by decide +kernel
theorem dX7_mark_34 : decode cX7_mark 34 = .ok (.ifCond .eq 7, 3) := by decide +kernel
theorem dX7_mark_37 : decode cX7_mark 37 = .ok (.iconst 0, 1) := by decide +kernel
theorem dX7_mark_38 : decode cX7_mark 38 = .ok (.goto 4, 3) := by decide +kernel
theorem dX7_mark_41 : decode cX7_mark 41 = .ok (.iconst 1, 1) := by decide +kernel
theorem dX7_mark_42 : decode cX7_mark 42 = .ok (.iadd, 1) := by decide +kernel
theorem dX7_mark_43 : decode cX7_mark 43 = .ok (.putfield 217, 3) := by decide +kernel
theorem dX7_mark_46 : decode cX7_mark 46 = .ok (.return_, 1) := by decide +kernel
theorem dX7_digits_0 : decode cX7_digits 0 = .ok (.iconst 0, 1) := by decide +kernel
theorem dX7_digits_1 : decode cX7_digits 1 = .ok (.istore_n 2, 1) := by decide +kernel
theorem dX7_digits_2 : decode cX7_digits 2 = .ok (.iconst 0, 1) := by decide +kernel
theorem dX7_digits_3 : decode cX7_digits 3 = .ok (.istore_n 3, 1) := by decide +kernel
theorem dX7_digits_4 : decode cX7_digits 4 = .ok (.aload_n 0, 1) := by decide +kernel
theorem dX7_digits_5 : decode cX7_digits 5 = .ok (.getfield 223, 3) := by decide +kernel
theorem dX7_digits_8 : decode cX7_digits 8 = .ok (.ifCond .ne 51, 3) := by decide +kernel
theorem dX7_digits_11 : decode cX7_digits 11 = .ok (.iload_n 3, 1) := by decide +kernel
theorem dX7_digits_12 : decode cX7_digits 12 = .ok (.iload_n 1, 1) := by decide +kernel
theorem dX7_digits_13 : decode cX7_digits 13 = .ok (.if_icmp .ge 46, 3) := by decide +kernel
theorem dX7_digits_16 : decode cX7_digits 16 = .ok (.aload_n 0, 1) := by decide +kernel
theorem dX7_digits_17 : decode cX7_digits 17 = .ok (.invokevirtual 227, 3) := by decide +kernel
theorem dX7_digits_20 : decode cX7_digits 20 = .ok (.bipush 48, 2) := by decide +kernel
theorem dX7_digits_22 : decode cX7_digits 22 = .ok (.bipush 57, 2) := by decide +kernel
theorem dX7_digits_24 : decode cX7_digits 24 = .ok (.invokestatic 60, 3) := by decide +kernel
theorem dX7_digits_27 : decode cX7_digits 27 = .ok (.ifCond .eq 32, 3) := by decide +kernel
theorem dX7_digits_30 : decode cX7_digits 30 = .ok (.bipush 10, 2) := by decide +kernel
theorem dX7_digits_32 : decode cX7_digits 32 = .ok (.iload_n 2, 1) := by decide +kernel
theorem dX7_digits_33 : decode cX7_digits 33 = .ok (.imul, 1) := by decide +kernel
theorem dX7_digits_34 : decode cX7_digits 34 = .ok (.aload_n 0, 1) := by decide +kernel
theorem dX7_digits_35 : decode cX7_digits 35 = .ok (.invokevirtual 227, 3) := by decide +kernel
theorem dX7_digits_38 : decode cX7_digits 38 = .ok (.iadd, 1) := by decide +kernel
theorem dX7_digits_39 : decode cX7_digits 39 = .ok (.bipush 48, 2) := by decide +kernel
theorem dX7_digits_41 : decode cX7_digits 41 = .ok (.isub, 1) := by decide +kernel
theorem dX7_digits_42 : decode cX7_digits 42 = .ok (.istore_n 2, 1) := by decide +kernel
theorem dX7_digits_43 : decode cX7_digits 43 = .ok (.aload_n 0, 1) := by decide +kernel
theorem dX7_digits_44 : decode cX7_digits 44 = .ok (.dup, 1) := by decide +kernel
theorem dX7_digits_45 : decode cX7_digits 45 = .ok (.getfield 217, 3) := by decide +kernel
theorem dX7_digits_48 : decode cX7_digits 48 = .ok (.iconst 1, 1) := by decide +kernel
theorem dX7_digits_49 : decode cX7_digits 49 = .ok (.iadd, 1) := by decide +kernel
theorem dX7_digits_50 : decode cX7_digits 50 = .ok (.putfield 217, 3) := by decide +kernel
theorem dX7_digits_53 : decode cX7_digits 53 = .ok (.iinc 3 1, 3) := by decide +kernel
theorem dX7_digits_56 : decode cX7_digits 56 = .ok (.goto (-52), 3) := by decide +kernel
theorem dX7_digits_59 : decode cX7_digits 59 = .ok (.aload_n 0, 1) := by decide +kernel
theorem dX7_digits_60 : decode cX7_digits 60 = .ok (.dup, 1) := by decide +kernel
theorem dX7_digits_61 : decode cX7_digits 61 = .ok (.getfield 223, 3) := by decide +kernel
theorem dX7_digits_64 : decode cX7_digits 64 = .ok (.iload_n 3, 1) := by decide +kernel
theorem dX7_digits_65 : decode cX7_digits 65 = .ok (.ifCond .ne 7, 3) := by decide +kernel
theorem dX7_digits_68 : decode cX7_digits 68 = .ok (.iconst 1, 1) := by decide +kernel
theorem dX7_digits_69 : decode cX7_digits 69 = .ok (.goto 4, 3) := by decide +kernel
theorem dX7_digits_72 : decode cX7_digits 72 = .ok (.iconst 0, 1) := by decide +kernel
theorem dX7_digits_73 : decode cX7_digits 73 = .ok (.ior, 1) := by decide +kernel
theorem dX7_digits_74 : decode cX7_digits 74 = .ok (.putfield 223, 3) := by decide +kernel
theorem dX7_digits_77 : decode cX7_digits 77 = .ok (.iload_n 2, 1) := by decide +kernel
theorem dX7_digits_78 : decode cX7_digits 78 = .ok (.ireturn, 1) := by decide +kernel
theorem dX7_behindSign_0 : decode cX7_behindSign 0 = .ok (.aload_n 0, 1) := by decide +kernel
theorem dX7_behindSign_1 : decode cX7_behindSign 1 = .ok (.iload_n 1, 1) := by decide +kernel
theorem dX7_behindSign_2 : decode cX7_behindSign 2 = .ok (.invokevirtual 231, 3) := by decide +kernel
theorem dX7_behindSign_5 : decode cX7_behindSign 5 = .ok (.aload_n 0, 1) := by decide +kernel
theorem dX7_behindSign_6 : decode cX7_behindSign 6 = .ok (.getfield 223, 3) := by decide +kernel
theorem dX7_behindSign_9 : decode cX7_behindSign 9 = .ok (.ifCond .eq 7, 3) := by decide +kernel
theorem dX7_behindSign_12 : decode cX7_behindSign 12 = .ok (.iconst 0, 1) := by decide +kernel
theorem dX7_behindSign_13 : decode cX7_behindSign 13 = .ok (.goto 8, 3) := by decide +kernel
theorem dX7_behindSign_16 : decode cX7_behindSign 16 = .ok (.aload_n 0, 1) := by decide +kernel
theorem dX7_behindSign_17 : decode cX7_behindSign 17 = .ok (.iload_n 2, 1) := by decide +kernel
theorem dX7_behindSign_18 : decode cX7_behindSign 18 = .ok (.invokevirtual 234, 3) := by decide +kernel
theorem dX7_behindSign_21 : decode cX7_behindSign 21 = .ok (.ireturn, 1) := by decide +kernel
theorem dX7_word_0 : decode cX7_word 0 = .ok (.iconst 0, 1) := by decide +kernel
theorem dX7_word_1 : decode cX7_word 1 = .ok (.istore_n 1, 1) := by decide +kernel
theorem dX7_word_2 : decode cX7_word 2 = .ok (.iload_n 1, 1) := by decide +kernel
theorem dX7_word_3 : decode cX7_word 3 = .ok (.bipush 10, 2) := by decide +kernel
theorem dX7_word_5 : decode cX7_word 5 = .ok (.if_icmp .ge 16, 3) := by decide +kernel
theorem dX7_word_8 : decode cX7_word 8 = .ok (.aload_n 0, 1) := by decide +kernel
theorem dX7_word_9 : decode cX7_word 9 = .ok (.getfield 41, 3) := by decide +kernel
theorem dX7_word_12 : decode cX7_word 12 = .ok (.iload_n 1, 1) := by decide +kernel
theorem dX7_word_13 : decode cX7_word 13 = .ok (.iconst 1, 1) := by decide +kernel
theorem dX7_word_14 : decode cX7_word 14 = .ok (.iastore, 1) := by decide +kernel
theorem dX7_word_15 : decode cX7_word 15 = .ok (.iinc 1 1, 3) := by decide +kernel
theorem dX7_word_18 : decode cX7_word 18 = .ok (.goto (-16), 3) := by decide +kernel
theorem dX7_word_21 : decode cX7_word 21 = .ok (.iconst 0, 1) := by decide +kernel
theorem dX7_word_22 : decode cX7_word 22 = .ok (.istore_n 1, 1) := by decide +kernel
theorem dX7_word_23 : decode cX7_word 23 = .ok (.iconst (-1), 1) := by decide +kernel
theorem dX7_word_24 : decode cX7_word 24 = .ok (.istore_n 2, 1) := by decide +kernel
theorem dX7_word_25 : decode cX7_word 25 = .ok (.iload_n 2, 1) := by decide +kernel
theorem dX7_word_26 : decode cX7_word 26 = .ok (.ifCond .ge 196, 3) := by decide +kernel
theorem dX7_word_29 : decode cX7_word 29 = .ok (.aload_n 0, 1) := by decide +kernel
theorem dX7_word_30 : decode cX7_word 30 = .ok (.getfield 223, 3) := by decide +kernel
theorem dX7_word_33 : decode cX7_word 33 = .ok (.ifCond .ne 189, 3) := by decide +kernel
theorem dX7_word_36 : decode cX7_word 36 = .ok (.iconst 0, 1) := by decide +kernel
theorem dX7_word_37 : decode cX7_word 37 = .ok (.istore_n 3, 1) := by decide +kernel
theorem dX7_word_38 : decode cX7_word 38 = .ok (.iconst 0, 1) := by decide +kernel
theorem dX7_word_39 : decode cX7_word 39 = .ok (.istore 4, 2) := by decide +kernel
theorem dX7_word_41 : decode cX7_word 41 = .ok (.iload 4, 2) := by decide +kernel
theorem dX7_word_43 : decode cX7_word 43 = .ok (.bipush 10, 2) := by decide +kernel
theorem dX7_word_45 : decode cX7_word 45 = .ok (.if_icmp .ge 85, 3) := by decide +kernel
theorem dX7_word_48 : decode cX7_word 48 = .ok (.aload_n 0, 1) := by decide +kernel
theorem dX7_word_49 : decode cX7_word 49 = .ok (.getfield 41, 3) := by decide +kernel
theorem dX7_word_52 : decode cX7_word 52 = .ok (.iload 4, 2) := by decide +kernel
theorem dX7_word_54 : decode cX7_word 54 = .ok (.dup2, 1) := by decide +kernel
theorem dX7_word_55 : decode cX7_word 55 = .ok (.iaload, 1) := by decide +kernel
theorem dX7_word_56 : decode cX7_word 56 = .ok (.aload_n 0, 1) := by decide +kernel
theorem dX7_word_57 : decode cX7_word 57 = .ok (.getfield 47, 3) := by decide +kernel
theorem dX7_word_60 : decode cX7_word 60 = .ok (.iload 4, 2) := by decide +kernel
theorem dX7_word_62 : decode cX7_word 62 = .ok (.iaload, 1) := by decide +kernel
theorem dX7_word_63 : decode cX7_word 63 = .ok (.iload_n 1, 1) := by decide +kernel
theorem dX7_word_64 : decode cX7_word 64 = .ok (.iadd, 1) := by decide +kernel
theorem dX7_word_65 : decode cX7_word 65 = .ok (.aload_n 0, 1) := by decide +kernel
theorem dX7_word_66 : decode cX7_word 66 = .ok (.getfield 47, 3) := by decide +kernel
theorem dX7_word_69 : decode cX7_word 69 = .ok (.iload 4, 2) := by decide +kernel
theorem dX7_word_71 : decode cX7_word 71 = .ok (.iconst 1, 1) := by decide +kernel
theorem dX7_word_72 : decode cX7_word 72 = .ok (.iadd, 1) := by decide +kernel
theorem dX7_word_73 : decode cX7_word 73 = .ok (.iaload, 1) := by decide +kernel
theorem dX7_word_74 : decode cX7_word 74 = .ok (.if_icmp .ge 28, 3) := by decide +kernel
theorem dX7_word_77 : decode cX7_word 77 = .ok (.aload_n 0, 1) := by decide +kernel
theorem dX7_word_78 : decode cX7_word 78 = .ok (.getfield 44, 3) := by decide +kernel
theorem dX7_word_81 : decode cX7_word 81 = .ok (.aload_n 0, 1) := by decide +kernel
theorem dX7_word_82 : decode cX7_word 82 = .ok (.getfield 47, 3) := by decide +kernel
theorem dX7_word_85 : decode cX7_word 85 = .ok (.iload 4, 2) := by decide +kernel
theorem dX7_word_87 : decode cX7_word 87 = .ok (.iaload, 1) := by decide +kernel
theorem dX7_word_88 : decode cX7_word 88 = .ok (.iload_n 1, 1) := by decide +kernel
theorem dX7_word_89 : decode cX7_word 89 = .ok (.iadd, 1) := by decide +kernel
theorem dX7_word_90 : decode cX7_word 90 = .ok (.iaload, 1) := by decide +kernel
theorem dX7_word_91 : decode cX7_word 91 = .ok (.aload_n 0, 1) := by decide +kernel
theorem dX7_word_92 : decode cX7_word 92 = .ok (.invokevirtual 227, 3) := by decide +kernel
theorem dX7_word_95 : decode cX7_word 95 = .ok (.if_icmp .ne 7, 3) := by decide +kernel
theorem dX7_word_98 : decode cX7_word 98 = .ok (.iconst 1, 1) := by decide +kernel
theorem dX7_word_99 : decode cX7_word 99 = .ok (.goto 4, 3) := by decide +kernel
theorem dX7_word_102 : decode cX7_word 102 = .ok (.iconst 0, 1) := by decide +kernel
theorem dX7_word_103 : decode cX7_word 103 = .ok (.iand, 1) := by decide +kernel
theorem dX7_word_104 : decode cX7_word 104 = .ok (.iastore, 1) := by decide +kernel
theorem dX7_word_105 : decode cX7_word 105 = .ok (.iload_n 3, 1) := by decide +kernel
theorem dX7_word_106 : decode cX7_word 106 = .ok (.aload_n 0, 1) := by decide +kernel
theorem dX7_word_107 : decode cX7_word 107 = .ok (.getfield 41, 3) := by decide +kernel
theorem dX7_word_110 : decode cX7_word 110 = .ok (.iload 4, 2) := by decide +kernel
theorem dX7_word_112 : decode cX7_word 112 = .ok (.iaload, 1) := by decide +kernel
theorem dX7_word_113 : decode cX7_word 113 = .ok (.iconst 1, 1) := by decide +kernel
theorem dX7_word_114 : decode cX7_word 114 = .ok (.if_icmp .ne 7, 3) := by decide +kernel
theorem dX7_word_117 : decode cX7_word 117 = .ok (.iconst 1, 1) := by decide +kernel
theorem dX7_word_118 : decode cX7_word 118 = .ok (.goto 4, 3) := by decide +kernel
theorem dX7_word_121 : decode cX7_word 121 = .ok (.iconst 0, 1) := by decide +kernel
theorem dX7_word_122 : decode cX7_word 122 = .ok (.ior, 1) := by decide +kernel
theorem dX7_word_123 : decode cX7_word 123 = .ok (.istore_n 3, 1) := by decide +kernel
theorem dX7_word_124 : decode cX7_word 124 = .ok (.iinc 4 1, 3) := by decide +kernel
theorem dX7_word_127 : decode cX7_word 127 = .ok (.goto (-86), 3) := by decide +kernel
theorem dX7_word_130 : decode cX7_word 130 = .ok (.aload_n 0, 1) := by decide +kernel
theorem dX7_word_131 : decode cX7_word 131 = .ok (.iload_n 3, 1) := by decide +kernel
theorem dX7_word_132 : decode cX7_word 132 = .ok (.ifCond .ne 7, 3) := by decide +kernel
theorem dX7_word_135 : decode cX7_word 135 = .ok (.iconst 1, 1) := by decide +kernel
theorem dX7_word_136 : decode cX7_word 136 = .ok (.goto 4, 3) := by decide +kernel
theorem dX7_word_139 : decode cX7_word 139 = .ok (.iconst 0, 1) := by decide +kernel
theorem dX7_word_140 : decode cX7_word 140 = .ok (.putfield 223, 3) := by decide +kernel
theorem dX7_word_143 : decode cX7_word 143 = .ok (.aload_n 0, 1) := by decide +kernel
theorem dX7_word_144 : decode cX7_word 144 = .ok (.dup, 1) := by decide +kernel
theorem dX7_word_145 : decode cX7_word 145 = .ok (.getfield 217, 3) := by decide +kernel
theorem dX7_word_148 : decode cX7_word 148 = .ok (.iload_n 3, 1) := by decide +kernel
theorem dX7_word_149 : decode cX7_word 149 = .ok (.ifCond .eq 7, 3) := by decide +kernel
theorem dX7_word_152 : decode cX7_word 152 = .ok (.iconst 1, 1) := by decide +kernel
theorem dX7_word_153 : decode cX7_word 153 = .ok (.goto 4, 3) := by decide +kernel
theorem dX7_word_156 : decode cX7_word 156 = .ok (.iconst 0, 1) := by decide +kernel
theorem dX7_word_157 : decode cX7_word 157 = .ok (.iadd, 1) := by decide +kernel
theorem dX7_word_158 : decode cX7_word 158 = .ok (.putfield 217, 3) := by decide +kernel
theorem dX7_word_161 : decode cX7_word 161 = .ok (.iinc 1 1, 3) := by decide +kernel
theorem dX7_word_164 : decode cX7_word 164 = .ok (.iconst 0, 1) := by decide +kernel
theorem dX7_word_165 : decode cX7_word 165 = .ok (.istore 4, 2) := by decide +kernel
theorem dX7_word_167 : decode cX7_word 167 = .ok (.iload 4, 2) := by decide +kernel
theorem dX7_word_169 : decode cX7_word 169 = .ok (.bipush 10, 2) := by decide +kernel
theorem dX7_word_171 : decode cX7_word 171 = .ok (.if_icmp .ge 48, 3) := by decide +kernel
theorem dX7_word_174 : decode cX7_word 174 = .ok (.aload_n 0, 1) := by decide +kernel
theorem dX7_word_175 : decode cX7_word 175 = .ok (.getfield 41, 3) := by decide +kernel
theorem dX7_word_178 : decode cX7_word 178 = .ok (.iload 4, 2) := by decide +kernel
theorem dX7_word_180 : decode cX7_word 180 = .ok (.iaload, 1) := by decide +kernel
theorem dX7_word_181 : decode cX7_word 181 = .ok (.iconst 1, 1) := by decide +kernel
theorem dX7_word_182 : decode cX7_word 182 = .ok (.if_icmp .ne 29, 3) := by decide +kernel
theorem dX7_word_185 : decode cX7_word 185 = .ok (.aload_n 0, 1) := by decide +kernel
theorem dX7_word_186 : decode cX7_word 186 = .ok (.getfield 47, 3) := by decide +kernel
theorem dX7_word_189 : decode cX7_word 189 = .ok (.iload 4, 2) := by decide +kernel
theorem dX7_word_191 : decode cX7_word 191 = .ok (.iaload, 1) := by decide +kernel
theorem dX7_word_192 : decode cX7_word 192 = .ok (.iload_n 1, 1) := by decide +kernel
theorem dX7_word_193 : decode cX7_word 193 = .ok (.iadd, 1) := by decide +kernel
theorem dX7_word_194 : decode cX7_word 194 = .ok (.aload_n 0, 1) := by decide +kernel
theorem dX7_word_195 : decode cX7_word 195 = .ok (.getfield 47, 3) := by decide +kernel
theorem dX7_word_198 : decode cX7_word 198 = .ok (.iload 4, 2) := by decide +kernel
theorem dX7_word_200 : decode cX7_word 200 = .ok (.iconst 1, 1) := by decide +kernel
theorem dX7_word_201 : decode cX7_word 201 = .ok (.iadd, 1) := by decide +kernel
theorem dX7_word_202 : decode cX7_word 202 = .ok (.iaload, 1) := by decide +kernel
theorem dX7_word_203 : decode cX7_word 203 = .ok (.if_icmp .ne 8, 3) := by decide +kernel
theorem dX7_word_206 : decode cX7_word 206 = .ok (.iload 4, 2) := by decide +kernel
theorem dX7_word_208 : decode cX7_word 208 = .ok (.goto 4, 3) := by decide +kernel
theorem dX7_word_211 : decode cX7_word 211 = .ok (.iload_n 2, 1) := by decide +kernel
theorem dX7_word_212 : decode cX7_word 212 = .ok (.istore_n 2, 1) := by decide +kernel
theorem dX7_word_213 : decode cX7_word 213 = .ok (.iinc 4 1, 3) := by decide +kernel
theorem dX7_word_216 : decode cX7_word 216 = .ok (.goto (-49), 3) := by decide +kernel
theorem dX7_word_219 : decode cX7_word 219 = .ok (.goto (-194), 3) := by decide +kernel
theorem dX7_word_222 : decode cX7_word 222 = .ok (.iload_n 2, 1) := by decide +kernel
theorem dX7_word_223 : decode cX7_word 223 = .ok (.ireturn, 1) := by decide +kernel
theorem dX7_does_0 : decode cX7_does 0 = .ok (.iload_n 1, 1) := by decide +kernel
theorem dX7_does_1 : decode cX7_does 1 = .ok (.tableswitch 137 0 8 #[51, 58, 65, 74, 81, 92, 103, 114, 127], 51) := by decide +kernel
theorem dX7_does_52 : decode cX7_does 52 = .ok (.aload_n 0, 1) := by decide +kernel
theorem dX7_does_53 : decode cX7_does 53 = .ok (.iload_n 2, 1) := by decide +kernel
theorem dX7_does_54 : decode cX7_does 54 = .ok (.iload_n 3, 1) := by decide +kernel
theorem dX7_does_55 : decode cX7_does 55 = .ok (.invokevirtual 97, 3) := by decide +kernel
theorem dX7_does_58 : decode cX7_does 58 = .ok (.ireturn, 1) := by decide +kernel
theorem dX7_does_59 : decode cX7_does 59 = .ok (.aload_n 0, 1) := by decide +kernel
theorem dX7_does_60 : decode cX7_does 60 = .ok (.iload_n 2, 1) := by decide +kernel
theorem dX7_does_61 : decode cX7_does 61 = .ok (.iload_n 3, 1) := by decide +kernel
theorem dX7_does_62 : decode cX7_does 62 = .ok (.invokevirtual 103, 3) := by decide +kernel
theorem dX7_does_65 : decode cX7_does 65 = .ok (.ireturn, 1) := by decide +kernel
theorem dX7_does_66 : decode cX7_does 66 = .ok (.aload_n 0, 1) := by decide +kernel
theorem dX7_does_67 : decode cX7_does 67 = .ok (.iload_n 2, 1) := by decide +kernel
theorem dX7_does_68 : decode cX7_does 68 = .ok (.iload_n 3, 1) := by decide +kernel
theorem dX7_does_69 : decode cX7_does 69 = .ok (.iload 4, 2) := by decide +kernel
theorem dX7_does_71 : decode cX7_does 71 = .ok (.invokevirtual 110, 3) := by decide +kernel
theorem dX7_does_74 : decode cX7_does 74 = .ok (.ireturn, 1) := by decide +kernel
theorem dX7_does_75 : decode cX7_does 75 = .ok (.aload_n 0, 1) := by decide +kernel
theorem dX7_does_76 : decode cX7_does 76 = .ok (.iload_n 2, 1) := by decide +kernel
theorem dX7_does_77 : decode cX7_does 77 = .ok (.iload_n 3, 1) := by decide +kernel
theorem dX7_does_78 : decode cX7_does 78 = .ok (.invokevirtual 114, 3) := by decide +kernel
theorem dX7_does_81 : decode cX7_does 81 = .ok (.ireturn, 1) := by decide +kernel
theorem dX7_does_82 : decode cX7_does 82 = .ok (.aload_n 0, 1) := by decide +kernel
theorem dX7_does_83 : decode cX7_does 83 = .ok (.aload_n 0, 1) := by decide +kernel
theorem dX7_does_84 : decode cX7_does 84 = .ok (.iload_n 2, 1) := by decide +kernel
theorem dX7_does_85 : decode cX7_does 85 = .ok (.invokevirtual 123, 3) := by decide +kernel
theorem dX7_does_88 : decode cX7_does 88 = .ok (.iload_n 3, 1) := by decide +kernel
theorem dX7_does_89 : decode cX7_does 89 = .ok (.invokevirtual 126, 3) := by decide +kernel
theorem dX7_does_92 : decode cX7_does 92 = .ok (.ireturn, 1) := by decide +kernel
theorem dX7_does_93 : decode cX7_does 93 = .ok (.aload_n 0, 1) := by decide +kernel
theorem dX7_does_94 : decode cX7_does 94 = .ok (.aload_n 0, 1) := by decide +kernel
theorem dX7_does_95 : decode cX7_does 95 = .ok (.iload_n 2, 1) := by decide +kernel
theorem dX7_does_96 : decode cX7_does 96 = .ok (.invokevirtual 123, 3) := by decide +kernel
theorem dX7_does_99 : decode cX7_does 99 = .ok (.iload_n 3, 1) := by decide +kernel
theorem dX7_does_100 : decode cX7_does 100 = .ok (.invokevirtual 138, 3) := by decide +kernel
theorem dX7_does_103 : decode cX7_does 103 = .ok (.ireturn, 1) := by decide +kernel
theorem dX7_does_104 : decode cX7_does 104 = .ok (.aload_n 0, 1) := by decide +kernel
theorem dX7_does_105 : decode cX7_does 105 = .ok (.aload_n 0, 1) := by decide +kernel
theorem dX7_does_106 : decode cX7_does 106 = .ok (.iload_n 2, 1) := by decide +kernel
theorem dX7_does_107 : decode cX7_does 107 = .ok (.invokevirtual 123, 3) := by decide +kernel
theorem dX7_does_110 : decode cX7_does 110 = .ok (.iload_n 3, 1) := by decide +kernel
theorem dX7_does_111 : decode cX7_does 111 = .ok (.invokevirtual 144, 3) := by decide +kernel
theorem dX7_does_114 : decode cX7_does 114 = .ok (.ireturn, 1) := by decide +kernel
theorem dX7_does_115 : decode cX7_does 115 = .ok (.aload_n 0, 1) := by decide +kernel
theorem dX7_does_116 : decode cX7_does 116 = .ok (.aload_n 0, 1) := by decide +kernel
theorem dX7_does_117 : decode cX7_does 117 = .ok (.iload_n 2, 1) := by decide +kernel
theorem dX7_does_118 : decode cX7_does 118 = .ok (.invokevirtual 123, 3) := by decide +kernel
theorem dX7_does_121 : decode cX7_does 121 = .ok (.iload_n 3, 1) := by decide +kernel
theorem dX7_does_122 : decode cX7_does 122 = .ok (.iload 4, 2) := by decide +kernel
theorem dX7_does_124 : decode cX7_does 124 = .ok (.invokevirtual 153, 3) := by decide +kernel
theorem dX7_does_127 : decode cX7_does 127 = .ok (.ireturn, 1) := by decide +kernel
theorem dX7_does_128 : decode cX7_does 128 = .ok (.aload_n 0, 1) := by decide +kernel
theorem dX7_does_129 : decode cX7_does 129 = .ok (.aload_n 0, 1) := by decide +kernel
theorem dX7_does_130 : decode cX7_does 130 = .ok (.iload_n 2, 1) := by decide +kernel
theorem dX7_does_131 : decode cX7_does 131 = .ok (.invokevirtual 123, 3) := by decide +kernel
theorem dX7_does_134 : decode cX7_does 134 = .ok (.invokevirtual 172, 3) := by decide +kernel
theorem dX7_does_137 : decode cX7_does 137 = .ok (.ireturn, 1) := by decide +kernel
theorem dX7_does_138 : decode cX7_does 138 = .ok (.aload_n 0, 1) := by decide +kernel
theorem dX7_does_139 : decode cX7_does 139 = .ok (.aload_n 0, 1) := by decide +kernel
theorem dX7_does_140 : decode cX7_does 140 = .ok (.iload_n 2, 1) := by decide +kernel
theorem dX7_does_141 : decode cX7_does 141 = .ok (.invokevirtual 123, 3) := by decide +kernel
theorem dX7_does_144 : decode cX7_does 144 = .ok (.invokevirtual 175, 3) := by decide +kernel
theorem dX7_does_147 : decode cX7_does 147 = .ok (.ireturn, 1) := by decide +kernel
theorem dX7_command_0 : decode cX7_command 0 = .ok (.aload_n 0, 1) := by decide +kernel
theorem dX7_command_1 : decode cX7_command 1 = .ok (.invokevirtual 237, 3) := by decide +kernel
theorem dX7_command_4 : decode cX7_command 4 = .ok (.istore_n 1, 1) := by decide +kernel
theorem dX7_command_5 : decode cX7_command 5 = .ok (.iconst 0, 1) := by decide +kernel
theorem dX7_command_6 : decode cX7_command 6 = .ok (.istore_n 2, 1) := by decide +kernel
theorem dX7_command_7 : decode cX7_command 7 = .ok (.iconst 0, 1) := by decide +kernel
theorem dX7_command_8 : decode cX7_command 8 = .ok (.istore_n 3, 1) := by decide +kernel
theorem dX7_command_9 : decode cX7_command 9 = .ok (.aload_n 0, 1) := by decide +kernel
theorem dX7_command_10 : decode cX7_command 10 = .ok (.getfield 223, 3) := by decide +kernel
theorem dX7_command_13 : decode cX7_command 13 = .ok (.ifCond .eq 4, 3) := by decide +kernel
theorem dX7_command_16 : decode cX7_command 16 = .ok (.return_, 1) := by decide +kernel
theorem dX7_command_17 : decode cX7_command 17 = .ok (.aload_n 0, 1) := by decide +kernel
theorem dX7_command_18 : decode cX7_command 18 = .ok (.iload_n 1, 1) := by decide +kernel
theorem dX7_command_19 : decode cX7_command 19 = .ok (.iconst 4, 1) := by decide +kernel
theorem dX7_command_20 : decode cX7_command 20 = .ok (.if_icmp .ge 7, 3) := by decide +kernel
theorem dX7_command_23 : decode cX7_command 23 = .ok (.iconst 1, 1) := by decide +kernel
theorem dX7_command_24 : decode cX7_command 24 = .ok (.goto 4, 3) := by decide +kernel
theorem dX7_command_27 : decode cX7_command 27 = .ok (.iconst 3, 1) := by decide +kernel
theorem dX7_command_28 : decode cX7_command 28 = .ok (.invokevirtual 234, 3) := by decide +kernel
theorem dX7_command_31 : decode cX7_command 31 = .ok (.istore 4, 2) := by decide +kernel
theorem dX7_command_33 : decode cX7_command 33 = .ok (.iload_n 1, 1) := by decide +kernel
theorem dX7_command_34 : decode cX7_command 34 = .ok (.bipush 8, 2) := by decide +kernel
theorem dX7_command_36 : decode cX7_command 36 = .ok (.if_icmp .ge 27, 3) := by decide +kernel
theorem dX7_command_39 : decode cX7_command 39 = .ok (.aload_n 0, 1) := by decide +kernel
theorem dX7_command_40 : decode cX7_command 40 = .ok (.getfield 223, 3) := by decide +kernel
theorem dX7_command_43 : decode cX7_command 43 = .ok (.ifCond .ne 20, 3) := by decide +kernel
theorem dX7_command_46 : decode cX7_command 46 = .ok (.aload_n 0, 1) := by decide +kernel
theorem dX7_command_47 : decode cX7_command 47 = .ok (.bipush 32, 2) := by decide +kernel
theorem dX7_command_49 : decode cX7_command 49 = .ok (.iload_n 1, 1) := by decide +kernel
theorem dX7_command_50 : decode cX7_command 50 = .ok (.iconst 3, 1) := by decide +kernel
theorem dX7_command_51 : decode cX7_command 51 = .ok (.if_icmp .ne 7, 3) := by decide +kernel
theorem dX7_command_54 : decode cX7_command 54 = .ok (.iconst 1, 1) := by decide +kernel
theorem dX7_command_55 : decode cX7_command 55 = .ok (.goto 4, 3) := by decide +kernel
theorem dX7_command_58 : decode cX7_command 58 = .ok (.iconst 3, 1) := by decide +kernel
theorem dX7_command_59 : decode cX7_command 59 = .ok (.invokevirtual 240, 3) := by decide +kernel
theorem dX7_command_62 : decode cX7_command 62 = .ok (.istore_n 2, 1) := by decide +kernel
theorem dX7_command_63 : decode cX7_command 63 = .ok (.iload_n 1, 1) := by decide +kernel
theorem dX7_command_64 : decode cX7_command 64 = .ok (.iconst 2, 1) := by decide +kernel
theorem dX7_command_65 : decode cX7_command 65 = .ok (.if_icmp .eq 9, 3) := by decide +kernel
theorem dX7_command_68 : decode cX7_command 68 = .ok (.iload_n 1, 1) := by decide +kernel
theorem dX7_command_69 : decode cX7_command 69 = .ok (.bipush 7, 2) := by decide +kernel
theorem dX7_command_71 : decode cX7_command 71 = .ok (.if_icmp .ne 28, 3) := by decide +kernel
theorem dX7_command_74 : decode cX7_command 74 = .ok (.aload_n 0, 1) := by decide +kernel
theorem dX7_command_75 : decode cX7_command 75 = .ok (.getfield 223, 3) := by decide +kernel
theorem dX7_command_78 : decode cX7_command 78 = .ok (.ifCond .ne 21, 3) := by decide +kernel
theorem dX7_command_81 : decode cX7_command 81 = .ok (.aload_n 0, 1) := by decide +kernel
theorem dX7_command_82 : decode cX7_command 82 = .ok (.iload_n 1, 1) := by decide +kernel
theorem dX7_command_83 : decode cX7_command 83 = .ok (.iconst 2, 1) := by decide +kernel
theorem dX7_command_84 : decode cX7_command 84 = .ok (.if_icmp .ne 8, 3) := by decide +kernel
theorem dX7_command_87 : decode cX7_command 87 = .ok (.bipush 32, 2) := by decide +kernel
theorem dX7_command_89 : decode cX7_command 89 = .ok (.goto 5, 3) := by decide +kernel
theorem dX7_command_92 : decode cX7_command 92 = .ok (.bipush 60, 2) := by decide +kernel
theorem dX7_command_94 : decode cX7_command 94 = .ok (.iconst 3, 1) := by decide +kernel
theorem dX7_command_95 : decode cX7_command 95 = .ok (.invokevirtual 240, 3) := by decide +kernel
theorem dX7_command_98 : decode cX7_command 98 = .ok (.istore_n 3, 1) := by decide +kernel
theorem dX7_command_99 : decode cX7_command 99 = .ok (.aload_n 0, 1) := by decide +kernel
theorem dX7_command_100 : decode cX7_command 100 = .ok (.getfield 223, 3) := by decide +kernel
theorem dX7_command_103 : decode cX7_command 103 = .ok (.ifCond .ne 10, 3) := by decide +kernel
theorem dX7_command_106 : decode cX7_command 106 = .ok (.aload_n 0, 1) := by decide +kernel
theorem dX7_command_107 : decode cX7_command 107 = .ok (.getfield 243, 3) := by decide +kernel
theorem dX7_command_110 : decode cX7_command 110 = .ok (.ifCond .ne 4, 3) := by decide +kernel
theorem dX7_command_113 : decode cX7_command 113 = .ok (.return_, 1) := by decide +kernel
theorem dX7_command_114 : decode cX7_command 114 = .ok (.aload_n 0, 1) := by decide +kernel
theorem dX7_command_115 : decode cX7_command 115 = .ok (.iload_n 1, 1) := by decide +kernel
theorem dX7_command_116 : decode cX7_command 116 = .ok (.iload 4, 2) := by decide +kernel
theorem dX7_command_118 : decode cX7_command 118 = .ok (.iload_n 2, 1) := by decide +kernel
theorem dX7_command_119 : decode cX7_command 119 = .ok (.iload_n 3, 1) := by decide +kernel
theorem dX7_command_120 : decode cX7_command 120 = .ok (.invokevirtual 246, 3) := by decide +kernel
theorem dX7_command_123 : decode cX7_command 123 = .ok (.istore 5, 2) := by decide +kernel
theorem dX7_command_125 : decode cX7_command 125 = .ok (.return_, 1) := by decide +kernel
theorem dX7_commands_0 : decode cX7_commands 0 = .ok (.aload_n 0, 1) := by decide +kernel
theorem dX7_commands_1 : decode cX7_commands 1 = .ok (.iconst 0, 1) := by decide +kernel
theorem dX7_commands_2 : decode cX7_commands 2 = .ok (.putfield 217, 3) := by decide +kernel
theorem dX7_commands_5 : decode cX7_commands 5 = .ok (.aload_n 0, 1) := by decide +kernel
theorem dX7_commands_6 : decode cX7_commands 6 = .ok (.iconst 0, 1) := by decide +kernel
theorem dX7_commands_7 : decode cX7_commands 7 = .ok (.putfield 223, 3) := by decide +kernel
theorem dX7_commands_10 : decode cX7_commands 10 = .ok (.iconst 1, 1) := by decide +kernel
theorem dX7_commands_11 : decode cX7_commands 11 = .ok (.istore_n 1, 1) := by decide +kernel
theorem dX7_commands_12 : decode cX7_commands 12 = .ok (.aload_n 0, 1) := by decide +kernel
theorem dX7_commands_13 : decode cX7_commands 13 = .ok (.invokevirtual 250, 3) := by decide +kernel
theorem dX7_commands_16 : decode cX7_commands 16 = .ok (.aload_n 0, 1) := by decide +kernel
theorem dX7_commands_17 : decode cX7_commands 17 = .ok (.getfield 223, 3) := by decide +kernel
theorem dX7_commands_20 : decode cX7_commands 20 = .ok (.ifCond .ne 44, 3) := by decide +kernel
theorem dX7_commands_23 : decode cX7_commands 23 = .ok (.aload_n 0, 1) := by decide +kernel
theorem dX7_commands_24 : decode cX7_commands 24 = .ok (.getfield 50, 3) := by decide +kernel
theorem dX7_commands_27 : decode cX7_commands 27 = .ok (.ifCond .ne 37, 3) := by decide +kernel
theorem dX7_commands_30 : decode cX7_commands 30 = .ok (.aload_n 0, 1) := by decide +kernel
theorem dX7_commands_31 : decode cX7_commands 31 = .ok (.getfield 217, 3) := by decide +kernel
theorem dX7_commands_34 : decode cX7_commands 34 = .ok (.aload_n 0, 1) := by decide +kernel
theorem dX7_commands_35 : decode cX7_commands 35 = .ok (.getfield 220, 3) := by decide +kernel
theorem dX7_commands_38 : decode cX7_commands 38 = .ok (.if_icmp .ge 26, 3) := by decide +kernel
theorem dX7_commands_41 : decode cX7_commands 41 = .ok (.aload_n 0, 1) := by decide +kernel
theorem dX7_commands_42 : decode cX7_commands 42 = .ok (.bipush 59, 2) := by decide +kernel
theorem dX7_commands_44 : decode cX7_commands 44 = .ok (.invokevirtual 231, 3) := by decide +kernel
theorem dX7_commands_47 : decode cX7_commands 47 = .ok (.aload_n 0, 1) := by decide +kernel
theorem dX7_commands_48 : decode cX7_commands 48 = .ok (.getfield 223, 3) := by decide +kernel
theorem dX7_commands_51 : decode cX7_commands 51 = .ok (.ifCond .ne 7, 3) := by decide +kernel
theorem dX7_commands_54 : decode cX7_commands 54 = .ok (.aload_n 0, 1) := by decide +kernel
theorem dX7_commands_55 : decode cX7_commands 55 = .ok (.invokevirtual 250, 3) := by decide +kernel
theorem dX7_commands_58 : decode cX7_commands 58 = .ok (.iinc 1 1, 3) := by decide +kernel
theorem dX7_commands_61 : decode cX7_commands 61 = .ok (.goto (-45), 3) := by decide +kernel
theorem dX7_commands_64 : decode cX7_commands 64 = .ok (.iload_n 1, 1) := by decide +kernel
theorem dX7_commands_65 : decode cX7_commands 65 = .ok (.ireturn, 1) := by decide +kernel
theorem dX7_runScript_0 : decode cX7_runScript 0 = .ok (.aload_n 0, 1) := by decide +kernel
theorem dX7_runScript_1 : decode cX7_runScript 1 = .ok (.invokevirtual 94, 3) := by decide +kernel
theorem dX7_runScript_4 : decode cX7_runScript 4 = .ok (.aload_n 0, 1) := by decide +kernel
theorem dX7_runScript_5 : decode cX7_runScript 5 = .ok (.aload_n 0, 1) := by decide +kernel
theorem dX7_runScript_6 : decode cX7_runScript 6 = .ok (.getfield 214, 3) := by decide +kernel
theorem dX7_runScript_9 : decode cX7_runScript 9 = .ok (.putfield 220, 3) := by decide +kernel
theorem dX7_runScript_12 : decode cX7_runScript 12 = .ok (.aload_n 0, 1) := by decide +kernel
theorem dX7_runScript_13 : decode cX7_runScript 13 = .ok (.iconst 0, 1) := by decide +kernel
theorem dX7_runScript_14 : decode cX7_runScript 14 = .ok (.putfield 214, 3) := by decide +kernel
theorem dX7_runScript_17 : decode cX7_runScript 17 = .ok (.aload_n 0, 1) := by decide +kernel
theorem dX7_runScript_18 : decode cX7_runScript 18 = .ok (.iconst 0, 1) := by decide +kernel
theorem dX7_runScript_19 : decode cX7_runScript 19 = .ok (.putfield 243, 3) := by decide +kernel
theorem dX7_runScript_22 : decode cX7_runScript 22 = .ok (.aload_n 0, 1) := by decide +kernel
theorem dX7_runScript_23 : decode cX7_runScript 23 = .ok (.invokevirtual 253, 3) := by decide +kernel
theorem dX7_runScript_26 : decode cX7_runScript 26 = .ok (.istore_n 1, 1) := by decide +kernel
theorem dX7_runScript_27 : decode cX7_runScript 27 = .ok (.aload_n 0, 1) := by decide +kernel
theorem dX7_runScript_28 : decode cX7_runScript 28 = .ok (.getfield 223, 3) := by decide +kernel
theorem dX7_runScript_31 : decode cX7_runScript 31 = .ok (.ifCond .eq 17, 3) := by decide +kernel
theorem dX7_runScript_34 : decode cX7_runScript 34 = .ok (.aload_n 0, 1) := by decide +kernel
theorem dX7_runScript_35 : decode cX7_runScript 35 = .ok (.aload_n 0, 1) := by decide +kernel
theorem dX7_runScript_36 : decode cX7_runScript 36 = .ok (.getfield 217, 3) := by decide +kernel
theorem dX7_runScript_39 : decode cX7_runScript 39 = .ok (.putfield 7, 3) := by decide +kernel
theorem dX7_runScript_42 : decode cX7_runScript 42 = .ok (.aload_n 0, 1) := by decide +kernel
theorem dX7_runScript_43 : decode cX7_runScript 43 = .ok (.iconst 1, 1) := by decide +kernel
theorem dX7_runScript_44 : decode cX7_runScript 44 = .ok (.invokevirtual 91, 3) := by decide +kernel
theorem dX7_runScript_47 : decode cX7_runScript 47 = .ok (.ireturn, 1) := by decide +kernel
theorem dX7_runScript_48 : decode cX7_runScript 48 = .ok (.aload_n 0, 1) := by decide +kernel
theorem dX7_runScript_49 : decode cX7_runScript 49 = .ok (.iconst 1, 1) := by decide +kernel
theorem dX7_runScript_50 : decode cX7_runScript 50 = .ok (.putfield 243, 3) := by decide +kernel
theorem dX7_runScript_53 : decode cX7_runScript 53 = .ok (.aload_n 0, 1) := by decide +kernel
theorem dX7_runScript_54 : decode cX7_runScript 54 = .ok (.invokevirtual 253, 3) := by decide +kernel
theorem dX7_runScript_57 : decode cX7_runScript 57 = .ok (.istore_n 1, 1) := by decide +kernel
theorem dX7_runScript_58 : decode cX7_runScript 58 = .ok (.aload_n 0, 1) := by decide +kernel
theorem dX7_runScript_59 : decode cX7_runScript 59 = .ok (.getfield 50, 3) := by decide +kernel
theorem dX7_runScript_62 : decode cX7_runScript 62 = .ok (.ifCond .eq 15, 3) := by decide +kernel
theorem dX7_runScript_65 : decode cX7_runScript 65 = .ok (.aload_n 0, 1) := by decide +kernel
theorem dX7_runScript_66 : decode cX7_runScript 66 = .ok (.iload_n 1, 1) := by decide +kernel
theorem dX7_runScript_67 : decode cX7_runScript 67 = .ok (.iconst 1, 1) := by decide +kernel
theorem dX7_runScript_68 : decode cX7_runScript 68 = .ok (.isub, 1) := by decide +kernel
theorem dX7_runScript_69 : decode cX7_runScript 69 = .ok (.putfield 13, 3) := by decide +kernel
theorem dX7_runScript_72 : decode cX7_runScript 72 = .ok (.aload_n 0, 1) := by decide +kernel
theorem dX7_runScript_73 : decode cX7_runScript 73 = .ok (.iconst 2, 1) := by decide +kernel
theorem dX7_runScript_74 : decode cX7_runScript 74 = .ok (.putfield 50, 3) := by decide +kernel
theorem dX7_runScript_77 : decode cX7_runScript 77 = .ok (.aload_n 0, 1) := by decide +kernel
theorem dX7_runScript_78 : decode cX7_runScript 78 = .ok (.iload_n 1, 1) := by decide +kernel
theorem dX7_runScript_79 : decode cX7_runScript 79 = .ok (.invokevirtual 100, 3) := by decide +kernel
theorem dX7_runScript_82 : decode cX7_runScript 82 = .ok (.ireturn, 1) := by decide +kernel
theorem dX7_errorPosition_0 : decode cX7_errorPosition 0 = .ok (.aload_n 0, 1) := by decide +kernel
theorem dX7_errorPosition_1 : decode cX7_errorPosition 1 = .ok (.aload_n 0, 1) := by decide +kernel
theorem dX7_errorPosition_2 : decode cX7_errorPosition 2 = .ok (.getfield 7, 3) := by decide +kernel
theorem dX7_errorPosition_5 : decode cX7_errorPosition 5 = .ok (.ifCond .ge 7, 3) := by decide +kernel
theorem dX7_errorPosition_8 : decode cX7_errorPosition 8 = .ok (.iconst 1, 1) := by decide +kernel
theorem dX7_errorPosition_9 : decode cX7_errorPosition 9 = .ok (.goto 4, 3) := by decide +kernel
theorem dX7_errorPosition_12 : decode cX7_errorPosition 12 = .ok (.iconst 0, 1) := by decide +kernel
theorem dX7_errorPosition_13 : decode cX7_errorPosition 13 = .ok (.putfield 50, 3) := by decide +kernel
theorem dX7_errorPosition_16 : decode cX7_errorPosition 16 = .ok (.aload_n 0, 1) := by decide +kernel
theorem dX7_errorPosition_17 : decode cX7_errorPosition 17 = .ok (.getfield 50, 3) := by decide +kernel
theorem dX7_errorPosition_20 : decode cX7_errorPosition 20 = .ok (.ifCond .ne 10, 3) := by decide +kernel
theorem dX7_errorPosition_23 : decode cX7_errorPosition 23 = .ok (.aload_n 0, 1) := by decide +kernel
theorem dX7_errorPosition_24 : decode cX7_errorPosition 24 = .ok (.getfield 7, 3) := by decide +kernel
theorem dX7_errorPosition_27 : decode cX7_errorPosition 27 = .ok (.goto 4, 3) := by decide +kernel
theorem dX7_errorPosition_30 : decode cX7_errorPosition 30 = .ok (.iconst 0, 1) := by decide +kernel
theorem dX7_errorPosition_31 : decode cX7_errorPosition 31 = .ok (.ireturn, 1) := by decide +kernel
theorem dX7_failedCommand_0 : decode cX7_failedCommand 0 = .ok (.aload_n 0, 1) := by decide +kernel
theorem dX7_failedCommand_1 : decode cX7_failedCommand 1 = .ok (.aload_n 0, 1) := by decide +kernel
theorem dX7_failedCommand_2 : decode cX7_failedCommand 2 = .ok (.getfield 13, 3) := by decide +kernel
theorem dX7_failedCommand_5 : decode cX7_failedCommand 5 = .ok (.ifCond .ge 7, 3) := by decide +kernel
theorem dX7_failedCommand_8 : decode cX7_failedCommand 8 = .ok (.iconst 1, 1) := by decide +kernel
theorem dX7_failedCommand_9 : decode cX7_failedCommand 9 = .ok (.goto 4, 3) := by decide +kernel
theorem dX7_failedCommand_12 : decode cX7_failedCommand 12 = .ok (.iconst 0, 1) := by decide +kernel
theorem dX7_failedCommand_13 : decode cX7_failedCommand 13 = .ok (.putfield 50, 3) := by decide +kernel
theorem dX7_failedCommand_16 : decode cX7_failedCommand 16 = .ok (.aload_n 0, 1) := by decide +kernel
theorem dX7_failedCommand_17 : decode cX7_failedCommand 17 = .ok (.getfield 50, 3) := by decide +kernel
theorem dX7_failedCommand_20 : decode cX7_failedCommand 20 = .ok (.ifCond .ne 10, 3) := by decide +kernel
theorem dX7_failedCommand_23 : decode cX7_failedCommand 23 = .ok (.aload_n 0, 1) := by decide +kernel
theorem dX7_failedCommand_24 : decode cX7_failedCommand 24 = .ok (.getfield 13, 3) := by decide +kernel
theorem dX7_failedCommand_27 : decode cX7_failedCommand 27 = .ok (.goto 4, 3) := by decide +kernel
theorem dX7_failedCommand_30 : decode cX7_failedCommand 30 = .ok (.iconst 0, 1) := by decide +kernel
theorem dX7_failedCommand_31 : decode cX7_failedCommand 31 = .ok (.ireturn, 1) := by decide +kernel
theorem dX7_undo_0 : decode cX7_undo 0 = .ok (.aload_n 0, 1) := by decide +kernel
theorem dX7_undo_1 : decode cX7_undo 1 = .ok (.aload_n 0, 1) := by decide +kernel
theorem dX7_undo_2 : decode cX7_undo 2 = .ok (.getfield 57, 3) := by decide +kernel
theorem dX7_undo_5 : decode cX7_undo 5 = .ok (.ifCond .ne 7, 3) := by decide +kernel
theorem dX7_undo_8 : decode cX7_undo 8 = .ok (.iconst 1, 1) := by decide +kernel
theorem dX7_undo_9 : decode cX7_undo 9 = .ok (.goto 4, 3) := by decide +kernel
theorem dX7_undo_12 : decode cX7_undo 12 = .ok (.iconst 0, 1) := by decide +kernel
theorem dX7_undo_13 : decode cX7_undo 13 = .ok (.putfield 50, 3) := by decide +kernel
theorem dX7_undo_16 : decode cX7_undo 16 = .ok (.aload_n 0, 1) := by decide +kernel
theorem dX7_undo_17 : decode cX7_undo 17 = .ok (.getfield 50, 3) := by decide +kernel
theorem dX7_undo_20 : decode cX7_undo 20 = .ok (.ifCond .eq 5, 3) := by decide +kernel
theorem dX7_undo_23 : decode cX7_undo 23 = .ok (.iconst 0, 1) := by decide +kernel
theorem dX7_undo_24 : decode cX7_undo 24 = .ok (.ireturn, 1) := by decide +kernel
theorem dX7_undo_25 : decode cX7_undo 25 = .ok (.aload_n 0, 1) := by decide +kernel
theorem dX7_undo_26 : decode cX7_undo 26 = .ok (.dup, 1) := by decide +kernel
theorem dX7_undo_27 : decode cX7_undo 27 = .ok (.getfield 57, 3) := by decide +kernel
theorem dX7_undo_30 : decode cX7_undo 30 = .ok (.iconst 1, 1) := by decide +kernel
theorem dX7_undo_31 : decode cX7_undo 31 = .ok (.isub, 1) := by decide +kernel
theorem dX7_undo_32 : decode cX7_undo 32 = .ok (.putfield 57, 3) := by decide +kernel
theorem dX7_undo_35 : decode cX7_undo 35 = .ok (.iconst 0, 1) := by decide +kernel
theorem dX7_undo_36 : decode cX7_undo 36 = .ok (.istore_n 1, 1) := by decide +kernel
theorem dX7_undo_37 : decode cX7_undo 37 = .ok (.iload_n 1, 1) := by decide +kernel
theorem dX7_undo_38 : decode cX7_undo 38 = .ok (.sipush 457, 3) := by decide +kernel
theorem dX7_undo_41 : decode cX7_undo 41 = .ok (.if_icmp .ge 30, 3) := by decide +kernel
theorem dX7_undo_44 : decode cX7_undo 44 = .ok (.aload_n 0, 1) := by decide +kernel
theorem dX7_undo_45 : decode cX7_undo 45 = .ok (.getfield 16, 3) := by decide +kernel
theorem dX7_undo_48 : decode cX7_undo 48 = .ok (.iload_n 1, 1) := by decide +kernel
theorem dX7_undo_49 : decode cX7_undo 49 = .ok (.aload_n 0, 1) := by decide +kernel
theorem dX7_undo_50 : decode cX7_undo 50 = .ok (.getfield 26, 3) := by decide +kernel
theorem dX7_undo_53 : decode cX7_undo 53 = .ok (.aload_n 0, 1) := by decide +kernel
theorem dX7_undo_54 : decode cX7_undo 54 = .ok (.getfield 57, 3) := by decide +kernel
theorem dX7_undo_57 : decode cX7_undo 57 = .ok (.sipush 457, 3) := by decide +kernel
theorem dX7_undo_60 : decode cX7_undo 60 = .ok (.imul, 1) := by decide +kernel
theorem dX7_undo_61 : decode cX7_undo 61 = .ok (.iload_n 1, 1) := by decide +kernel
theorem dX7_undo_62 : decode cX7_undo 62 = .ok (.iadd, 1) := by decide +kernel
theorem dX7_undo_63 : decode cX7_undo 63 = .ok (.iaload, 1) := by decide +kernel
theorem dX7_undo_64 : decode cX7_undo 64 = .ok (.iastore, 1) := by decide +kernel
theorem dX7_undo_65 : decode cX7_undo 65 = .ok (.iinc 1 1, 3) := by decide +kernel
theorem dX7_undo_68 : decode cX7_undo 68 = .ok (.goto (-31), 3) := by decide +kernel
theorem dX7_undo_71 : decode cX7_undo 71 = .ok (.aload_n 0, 1) := by decide +kernel
theorem dX7_undo_72 : decode cX7_undo 72 = .ok (.getfield 57, 3) := by decide +kernel
theorem dX7_undo_75 : decode cX7_undo 75 = .ok (.ireturn, 1) := by decide +kernel
theorem dX7_save_0 : decode cX7_save 0 = .ok (.aload_n 0, 1) := by decide +kernel
theorem dX7_save_1 : decode cX7_save 1 = .ok (.iconst 0, 1) := by decide +kernel
theorem dX7_save_2 : decode cX7_save 2 = .ok (.putfield 50, 3) := by decide +kernel
theorem dX7_save_5 : decode cX7_save 5 = .ok (.aload_n 0, 1) := by decide +kernel
theorem dX7_save_6 : decode cX7_save 6 = .ok (.getfield 23, 3) := by decide +kernel
theorem dX7_save_9 : decode cX7_save 9 = .ok (.aload_n 0, 1) := by decide +kernel
theorem dX7_save_10 : decode cX7_save 10 = .ok (.getfield 16, 3) := by decide +kernel
theorem dX7_save_13 : decode cX7_save 13 = .ok (.invokestatic 53, 3) := by decide +kernel
theorem dX7_save_16 : decode cX7_save 16 = .ok (.aload_n 0, 1) := by decide +kernel
theorem dX7_save_17 : decode cX7_save 17 = .ok (.iconst 1, 1) := by decide +kernel
theorem dX7_save_18 : decode cX7_save 18 = .ok (.putfield 256, 3) := by decide +kernel
theorem dX7_save_21 : decode cX7_save 21 = .ok (.aload_n 0, 1) := by decide +kernel
theorem dX7_save_22 : decode cX7_save 22 = .ok (.getfield 16, 3) := by decide +kernel
theorem dX7_save_25 : decode cX7_save 25 = .ok (.iconst 1, 1) := by decide +kernel
theorem dX7_save_26 : decode cX7_save 26 = .ok (.iaload, 1) := by decide +kernel
theorem dX7_save_27 : decode cX7_save 27 = .ok (.ireturn, 1) := by decide +kernel
theorem dX7_restore_0 : decode cX7_restore 0 = .ok (.aload_n 0, 1) := by decide +kernel
theorem dX7_restore_1 : decode cX7_restore 1 = .ok (.aload_n 0, 1) := by decide +kernel
theorem dX7_restore_2 : decode cX7_restore 2 = .ok (.getfield 256, 3) := by decide +kernel
theorem dX7_restore_5 : decode cX7_restore 5 = .ok (.ifCond .eq 7, 3) := by decide +kernel
theorem dX7_restore_8 : decode cX7_restore 8 = .ok (.iconst 0, 1) := by decide +kernel
theorem dX7_restore_9 : decode cX7_restore 9 = .ok (.goto 4, 3) := by decide +kernel
theorem dX7_restore_12 : decode cX7_restore 12 = .ok (.iconst 1, 1) := by decide +kernel
theorem dX7_restore_13 : decode cX7_restore 13 = .ok (.putfield 50, 3) := by decide +kernel
theorem dX7_restore_16 : decode cX7_restore 16 = .ok (.aload_n 0, 1) := by decide +kernel
theorem dX7_restore_17 : decode cX7_restore 17 = .ok (.getfield 50, 3) := by decide +kernel
theorem dX7_restore_20 : decode cX7_restore 20 = .ok (.ifCond .eq 5, 3) := by decide +kernel
theorem dX7_restore_23 : decode cX7_restore 23 = .ok (.iconst 0, 1) := by decide +kernel
theorem dX7_restore_24 : decode cX7_restore 24 = .ok (.ireturn, 1) := by decide +kernel
theorem dX7_restore_25 : decode cX7_restore 25 = .ok (.aload_n 0, 1) := by decide +kernel
theorem dX7_restore_26 : decode cX7_restore 26 = .ok (.getfield 16, 3) := by decide +kernel
theorem dX7_restore_29 : decode cX7_restore 29 = .ok (.aload_n 0, 1) := by decide +kernel
theorem dX7_restore_30 : decode cX7_restore 30 = .ok (.getfield 23, 3) := by decide +kernel
theorem dX7_restore_33 : decode cX7_restore 33 = .ok (.invokestatic 53, 3) := by decide +kernel
theorem dX7_restore_36 : decode cX7_restore 36 = .ok (.aload_n 0, 1) := by decide +kernel
theorem dX7_restore_37 : decode cX7_restore 37 = .ok (.iconst 0, 1) := by decide +kernel
theorem dX7_restore_38 : decode cX7_restore 38 = .ok (.putfield 57, 3) := by decide +kernel
theorem dX7_restore_41 : decode cX7_restore 41 = .ok (.aload_n 0, 1) := by decide +kernel
theorem dX7_restore_42 : decode cX7_restore 42 = .ok (.getfield 16, 3) := by decide +kernel
theorem dX7_restore_45 : decode cX7_restore 45 = .ok (.iconst 1, 1) := by decide +kernel
theorem dX7_restore_46 : decode cX7_restore 46 = .ok (.iaload, 1) := by decide +kernel
theorem dX7_restore_47 : decode cX7_restore 47 = .ok (.ireturn, 1) := by decide +kernel
