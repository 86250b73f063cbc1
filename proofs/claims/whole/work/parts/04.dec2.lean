theorem dX8_init_0 : decode cX8_init 0 = .ok (.aload_n 0, 1) := by decide +kernel
theorem dX8_init_1 : decode cX8_init 1 = .ok (.invokespecial 7, 3) := by decide +kernel
theorem dX8_init_4 : decode cX8_init 4 = .ok (.aload_n 0, 1) := by decide +kernel
theorem dX8_init_5 : decode cX8_init 5 = .ok (.bipush 126, 2) := by decide +kernel
theorem dX8_init_7 : decode cX8_init 7 = .ok (.newarray .int, 2) := by decide +kernel
theorem dX8_init_9 : decode cX8_init 9 = .ok (.putfield 13, 3) := by decide +kernel
theorem dX8_init_12 : decode cX8_init 12 = .ok (.aload_n 0, 1) := by decide +kernel
theorem dX8_init_13 : decode cX8_init 13 = .ok (.bipush 126, 2) := by decide +kernel
theorem dX8_init_15 : decode cX8_init 15 = .ok (.newarray .int, 2) := by decide +kernel
theorem dX8_init_17 : decode cX8_init 17 = .ok (.putfield 17, 3) := by decide +kernel
theorem dX8_init_20 : decode cX8_init 20 = .ok (.aload_n 0, 1) := by decide +kernel
theorem dX8_init_21 : decode cX8_init 21 = .ok (.bipush 126, 2) := by decide +kernel
theorem dX8_init_23 : decode cX8_init 23 = .ok (.newarray .int, 2) := by decide +kernel
theorem dX8_init_25 : decode cX8_init 25 = .ok (.putfield 20, 3) := by decide +kernel
theorem dX8_init_28 : decode cX8_init 28 = .ok (.aload_n 0, 1) := by decide +kernel
theorem dX8_init_29 : decode cX8_init 29 = .ok (.sipush 1512, 3) := by decide +kernel
theorem dX8_init_32 : decode cX8_init 32 = .ok (.newarray .int, 2) := by decide +kernel
theorem dX8_init_34 : decode cX8_init 34 = .ok (.putfield 23, 3) := by decide +kernel
theorem dX8_init_37 : decode cX8_init 37 = .ok (.aload_n 0, 1) := by decide +kernel
theorem dX8_init_38 : decode cX8_init 38 = .ok (.bipush 9, 2) := by decide +kernel
theorem dX8_init_40 : decode cX8_init 40 = .ok (.newarray .int, 2) := by decide +kernel
theorem dX8_init_42 : decode cX8_init 42 = .ok (.putfield 26, 3) := by decide +kernel
theorem dX8_init_45 : decode cX8_init 45 = .ok (.aload_n 0, 1) := by decide +kernel
theorem dX8_init_46 : decode cX8_init 46 = .ok (.bipush 9, 2) := by decide +kernel
theorem dX8_init_48 : decode cX8_init 48 = .ok (.newarray .int, 2) := by decide +kernel
theorem dX8_init_50 : decode cX8_init 50 = .ok (.putfield 29, 3) := by decide +kernel
theorem dX8_init_53 : decode cX8_init 53 = .ok (.aload_n 0, 1) := by decide +kernel
theorem dX8_init_54 : decode cX8_init 54 = .ok (.bipush 72, 2) := by decide +kernel
theorem dX8_init_56 : decode cX8_init 56 = .ok (.newarray .int, 2) := by decide +kernel
theorem dX8_init_58 : decode cX8_init 58 = .ok (.putfield 32, 3) := by decide +kernel
theorem dX8_init_61 : decode cX8_init 61 = .ok (.aload_n 0, 1) := by decide +kernel
theorem dX8_init_62 : decode cX8_init 62 = .ok (.bipush 30, 2) := by decide +kernel
theorem dX8_init_64 : decode cX8_init 64 = .ok (.newarray .int, 2) := by decide +kernel
theorem dX8_init_66 : decode cX8_init 66 = .ok (.putfield 35, 3) := by decide +kernel
theorem dX8_init_69 : decode cX8_init 69 = .ok (.aload_n 0, 1) := by decide +kernel
theorem dX8_init_70 : decode cX8_init 70 = .ok (.bipush 30, 2) := by decide +kernel
theorem dX8_init_72 : decode cX8_init 72 = .ok (.newarray .int, 2) := by decide +kernel
theorem dX8_init_74 : decode cX8_init 74 = .ok (.putfield 38, 3) := by decide +kernel
theorem dX8_init_77 : decode cX8_init 77 = .ok (.aload_n 0, 1) := by decide +kernel
theorem dX8_init_78 : decode cX8_init 78 = .ok (.bipush 100, 2) := by decide +kernel
theorem dX8_init_80 : decode cX8_init 80 = .ok (.newarray .int, 2) := by decide +kernel
theorem dX8_init_82 : decode cX8_init 82 = .ok (.putfield 41, 3) := by decide +kernel
theorem dX8_init_85 : decode cX8_init 85 = .ok (.aload_n 0, 1) := by decide +kernel
theorem dX8_init_86 : decode cX8_init 86 = .ok (.sipush 600, 3) := by decide +kernel
theorem dX8_init_89 : decode cX8_init 89 = .ok (.newarray .int, 2) := by decide +kernel
theorem dX8_init_91 : decode cX8_init 91 = .ok (.putfield 44, 3) := by decide +kernel
theorem dX8_init_94 : decode cX8_init 94 = .ok (.aload_n 0, 1) := by decide +kernel
theorem dX8_init_95 : decode cX8_init 95 = .ok (.sipush 500, 3) := by decide +kernel
theorem dX8_init_98 : decode cX8_init 98 = .ok (.newarray .int, 2) := by decide +kernel
theorem dX8_init_100 : decode cX8_init 100 = .ok (.putfield 47, 3) := by decide +kernel
theorem dX8_init_103 : decode cX8_init 103 = .ok (.aload_n 0, 1) := by decide +kernel
theorem dX8_init_104 : decode cX8_init 104 = .ok (.bipush 44, 2) := by decide +kernel
theorem dX8_init_106 : decode cX8_init 106 = .ok (.newarray .byte, 2) := by decide +kernel
theorem dX8_init_108 : decode cX8_init 108 = .ok (.dup, 1) := by decide +kernel
theorem dX8_init_109 : decode cX8_init 109 = .ok (.iconst 0, 1) := by decide +kernel
theorem dX8_init_110 : decode cX8_init 110 = .ok (.bipush 115, 2) := by decide +kernel
theorem dX8_init_112 : decode cX8_init 112 = .ok (.bastore, 1) := by decide +kernel
theorem dX8_init_113 : decode cX8_init 113 = .ok (.dup, 1) := by decide +kernel
theorem dX8_init_114 : decode cX8_init 114 = .ok (.iconst 1, 1) := by decide +kernel
theorem dX8_init_115 : decode cX8_init 115 = .ok (.bipush 117, 2) := by decide +kernel
theorem dX8_init_117 : decode cX8_init 117 = .ok (.bastore, 1) := by decide +kernel
theorem dX8_init_118 : decode cX8_init 118 = .ok (.dup, 1) := by decide +kernel
theorem dX8_init_119 : decode cX8_init 119 = .ok (.iconst 2, 1) := by decide +kernel
theorem dX8_init_120 : decode cX8_init 120 = .ok (.bipush 112, 2) := by decide +kernel
theorem dX8_init_122 : decode cX8_init 122 = .ok (.bastore, 1) := by decide +kernel
theorem dX8_init_123 : decode cX8_init 123 = .ok (.dup, 1) := by decide +kernel
theorem dX8_init_124 : decode cX8_init 124 = .ok (.iconst 3, 1) := by decide +kernel
theorem dX8_init_125 : decode cX8_init 125 = .ok (.bipush 112, 2) := by decide +kernel
theorem dX8_init_127 : decode cX8_init 127 = .ok (.bastore, 1) := by decide +kernel
theorem dX8_init_128 : decode cX8_init 128 = .ok (.dup, 1) := by decide +kernel
theorem dX8_init_129 : decode cX8_init 129 = .ok (.iconst 4, 1) := by decide +kernel
theorem dX8_init_130 : decode cX8_init 130 = .ok (.bipush 108, 2) := by decide +kernel
theorem dX8_init_132 : decode cX8_init 132 = .ok (.bastore, 1) := by decide +kernel
theorem dX8_init_133 : decode cX8_init 133 = .ok (.dup, 1) := by decide +kernel
theorem dX8_init_134 : decode cX8_init 134 = .ok (.iconst 5, 1) := by decide +kernel
theorem dX8_init_135 : decode cX8_init 135 = .ok (.bipush 121, 2) := by decide +kernel
theorem dX8_init_137 : decode cX8_init 137 = .ok (.bastore, 1) := by decide +kernel
theorem dX8_init_138 : decode cX8_init 138 = .ok (.dup, 1) := by decide +kernel
theorem dX8_init_139 : decode cX8_init 139 = .ok (.bipush 6, 2) := by decide +kernel
theorem dX8_init_141 : decode cX8_init 141 = .ok (.iconst 0, 1) := by decide +kernel
theorem dX8_init_142 : decode cX8_init 142 = .ok (.bastore, 1) := by decide +kernel
theorem dX8_init_143 : decode cX8_init 143 = .ok (.dup, 1) := by decide +kernel
theorem dX8_init_144 : decode cX8_init 144 = .ok (.bipush 7, 2) := by decide +kernel
theorem dX8_init_146 : decode cX8_init 146 = .ok (.bipush 114, 2) := by decide +kernel
theorem dX8_init_148 : decode cX8_init 148 = .ok (.bastore, 1) := by decide +kernel
theorem dX8_init_149 : decode cX8_init 149 = .ok (.dup, 1) := by decide +kernel
theorem dX8_init_150 : decode cX8_init 150 = .ok (.bipush 8, 2) := by decide +kernel
theorem dX8_init_152 : decode cX8_init 152 = .ok (.bipush 101, 2) := by decide +kernel
theorem dX8_init_154 : decode cX8_init 154 = .ok (.bastore, 1) := by decide +kernel
theorem dX8_init_155 : decode cX8_init 155 = .ok (.dup, 1) := by decide +kernel
theorem dX8_init_156 : decode cX8_init 156 = .ok (.bipush 9, 2) := by decide +kernel
theorem dX8_init_158 : decode cX8_init 158 = .ok (.bipush 115, 2) := by decide +kernel
theorem dX8_init_160 : decode cX8_init 160 = .ok (.bastore, 1) := by decide +kernel
theorem dX8_init_161 : decode cX8_init 161 = .ok (.dup, 1) := by decide +kernel
theorem dX8_init_162 : decode cX8_init 162 = .ok (.bipush 10, 2) := by decide +kernel
theorem dX8_init_164 : decode cX8_init 164 = .ok (.bipush 101, 2) := by decide +kernel
theorem dX8_init_166 : decode cX8_init 166 = .ok (.bastore, 1) := by decide +kernel
theorem dX8_init_167 : decode cX8_init 167 = .ok (.dup, 1) := by decide +kernel
theorem dX8_init_168 : decode cX8_init 168 = .ok (.bipush 11, 2) := by decide +kernel
theorem dX8_init_170 : decode cX8_init 170 = .ok (.bipush 114, 2) := by decide +kernel
theorem dX8_init_172 : decode cX8_init 172 = .ok (.bastore, 1) := by decide +kernel
theorem dX8_init_173 : decode cX8_init 173 = .ok (.dup, 1) := by decide +kernel
theorem dX8_init_174 : decode cX8_init 174 = .ok (.bipush 12, 2) := by decide +kernel
theorem dX8_init_176 : decode cX8_init 176 = .ok (.bipush 118, 2) := by decide +kernel
theorem dX8_init_178 : decode cX8_init 178 = .ok (.bastore, 1) := by decide +kernel
theorem dX8_init_179 : decode cX8_init 179 = .ok (.dup, 1) := by decide +kernel
theorem dX8_init_180 : decode cX8_init 180 = .ok (.bipush 13, 2) := by decide +kernel
theorem dX8_init_182 : decode cX8_init 182 = .ok (.bipush 101, 2) := by decide +kernel
theorem dX8_init_184 : decode cX8_init 184 = .ok (.bastore, 1) := by decide +kernel
theorem dX8_init_185 : decode cX8_init 185 = .ok (.dup, 1) := by decide +kernel
theorem dX8_init_186 : decode cX8_init 186 = .ok (.bipush 14, 2) := by decide +kernel
theorem dX8_init_188 : decode cX8_init 188 = .ok (.iconst 0, 1) := by decide +kernel
theorem dX8_init_189 : decode cX8_init 189 = .ok (.bastore, 1) := by decide +kernel
theorem dX8_init_190 : decode cX8_init 190 = .ok (.dup, 1) := by decide +kernel
theorem dX8_init_191 : decode cX8_init 191 = .ok (.bipush 15, 2) := by decide +kernel
theorem dX8_init_193 : decode cX8_init 193 = .ok (.bipush 98, 2) := by decide +kernel
theorem dX8_init_195 : decode cX8_init 195 = .ok (.bastore, 1) := by decide +kernel
theorem dX8_init_196 : decode cX8_init 196 = .ok (.dup, 1) := by decide +kernel
theorem dX8_init_197 : decode cX8_init 197 = .ok (.bipush 16, 2) := by decide +kernel
theorem dX8_init_199 : decode cX8_init 199 = .ok (.bipush 105, 2) := by decide +kernel
theorem dX8_init_201 : decode cX8_init 201 = .ok (.bastore, 1) := by decide +kernel
theorem dX8_init_202 : decode cX8_init 202 = .ok (.dup, 1) := by decide +kernel
theorem dX8_init_203 : decode cX8_init 203 = .ok (.bipush 17, 2) := by decide +kernel
theorem dX8_init_205 : decode cX8_init 205 = .ok (.bipush 100, 2) := by decide +kernel
theorem dX8_init_207 : decode cX8_init 207 = .ok (.bastore, 1) := by decide +kernel
theorem dX8_init_208 : decode cX8_init 208 = .ok (.dup, 1) := by decide +kernel
theorem dX8_init_209 : decode cX8_init 209 = .ok (.bipush 18, 2) := by decide +kernel
theorem dX8_init_211 : decode cX8_init 211 = .ok (.bipush 100, 2) := by decide +kernel
theorem dX8_init_213 : decode cX8_init 213 = .ok (.bastore, 1) := by decide +kernel
theorem dX8_init_214 : decode cX8_init 214 = .ok (.dup, 1) := by decide +kernel
theorem dX8_init_215 : decode cX8_init 215 = .ok (.bipush 19, 2) := by decide +kernel
theorem dX8_init_217 : decode cX8_init 217 = .ok (.bipush 101, 2) := by decide +kernel
theorem dX8_init_219 : decode cX8_init 219 = .ok (.bastore, 1) := by decide +kernel
theorem dX8_init_220 : decode cX8_init 220 = .ok (.dup, 1) := by decide +kernel
theorem dX8_init_221 : decode cX8_init 221 = .ok (.bipush 20, 2) := by decide +kernel
theorem dX8_init_223 : decode cX8_init 223 = .ok (.bipush 114, 2) := by decide +kernel
theorem dX8_init_225 : decode cX8_init 225 = .ok (.bastore, 1) := by decide +kernel
theorem dX8_init_226 : decode cX8_init 226 = .ok (.dup, 1) := by decide +kernel
theorem dX8_init_227 : decode cX8_init 227 = .ok (.bipush 21, 2) := by decide +kernel
theorem dX8_init_229 : decode cX8_init 229 = .ok (.iconst 0, 1) := by decide +kernel
theorem dX8_init_230 : decode cX8_init 230 = .ok (.bastore, 1) := by decide +kernel
theorem dX8_init_231 : decode cX8_init 231 = .ok (.dup, 1) := by decide +kernel
theorem dX8_init_232 : decode cX8_init 232 = .ok (.bipush 22, 2) := by decide +kernel
theorem dX8_init_234 : decode cX8_init 234 = .ok (.bipush 99, 2) := by decide +kernel
theorem dX8_init_236 : decode cX8_init 236 = .ok (.bastore, 1) := by decide +kernel
theorem dX8_init_237 : decode cX8_init 237 = .ok (.dup, 1) := by decide +kernel
theorem dX8_init_238 : decode cX8_init 238 = .ok (.bipush 23, 2) := by decide +kernel
theorem dX8_init_240 : decode cX8_init 240 = .ok (.bipush 97, 2) := by decide +kernel
theorem dX8_init_242 : decode cX8_init 242 = .ok (.bastore, 1) := by decide +kernel
theorem dX8_init_243 : decode cX8_init 243 = .ok (.dup, 1) := by decide +kernel
theorem dX8_init_244 : decode cX8_init 244 = .ok (.bipush 24, 2) := by decide +kernel
theorem dX8_init_246 : decode cX8_init 246 = .ok (.bipush 112, 2) := by decide +kernel
theorem dX8_init_248 : decode cX8_init 248 = .ok (.bastore, 1) := by decide +kernel
theorem dX8_init_249 : decode cX8_init 249 = .ok (.dup, 1) := by decide +kernel
theorem dX8_init_250 : decode cX8_init 250 = .ok (.bipush 25, 2) := by decide +kernel
theorem dX8_init_252 : decode cX8_init 252 = .ok (.iconst 0, 1) := by decide +kernel
theorem dX8_init_253 : decode cX8_init 253 = .ok (.bastore, 1) := by decide +kernel
theorem dX8_init_254 : decode cX8_init 254 = .ok (.dup, 1) := by decide +kernel
theorem dX8_init_255 : decode cX8_init 255 = .ok (.bipush 26, 2) := by decide +kernel
theorem dX8_init_257 : decode cX8_init 257 = .ok (.bipush 101, 2) := by decide +kernel
theorem dX8_init_259 : decode cX8_init 259 = .ok (.bastore, 1) := by decide +kernel
theorem dX8_init_260 : decode cX8_init 260 = .ok (.dup, 1) := by decide +kernel
theorem dX8_init_261 : decode cX8_init 261 = .ok (.bipush 27, 2) := by decide +kernel
theorem dX8_init_263 : decode cX8_init 263 = .ok (.bipush 110, 2) := by decide +kernel
theorem dX8_init_265 : decode cX8_init 265 = .ok (.bastore, 1) := by decide +kernel
theorem dX8_init_266 : decode cX8_init 266 = .ok (.dup, 1) := by decide +kernel
theorem dX8_init_267 : decode cX8_init 267 = .ok (.bipush 28, 2) := by decide +kernel
theorem dX8_init_269 : decode cX8_init 269 = .ok (.bipush 100, 2) := by decide +kernel
theorem dX8_init_271 : decode cX8_init 271 = .ok (.bastore, 1) := by decide +kernel
theorem dX8_init_272 : decode cX8_init 272 = .ok (.dup, 1) := by decide +kernel
theorem dX8_init_273 : decode cX8_init 273 = .ok (.bipush 29, 2) := by decide +kernel
theorem dX8_init_275 : decode cX8_init 275 = .ok (.iconst 0, 1) := by decide +kernel
theorem dX8_init_276 : decode cX8_init 276 = .ok (.bastore, 1) := by decide +kernel
theorem dX8_init_277 : decode cX8_init 277 = .ok (.dup, 1) := by decide +kernel
theorem dX8_init_278 : decode cX8_init 278 = .ok (.bipush 30, 2) := by decide +kernel
theorem dX8_init_280 : decode cX8_init 280 = .ok (.bipush 104, 2) := by decide +kernel
theorem dX8_init_282 : decode cX8_init 282 = .ok (.bastore, 1) := by decide +kernel
theorem dX8_init_283 : decode cX8_init 283 = .ok (.dup, 1) := by decide +kernel
theorem dX8_init_284 : decode cX8_init 284 = .ok (.bipush 31, 2) := by decide +kernel
theorem dX8_init_286 : decode cX8_init 286 = .ok (.bipush 97, 2) := by decide +kernel
theorem dX8_init_288 : decode cX8_init 288 = .ok (.bastore, 1) := by decide +kernel
theorem dX8_init_289 : decode cX8_init 289 = .ok (.dup, 1) := by decide +kernel
theorem dX8_init_290 : decode cX8_init 290 = .ok (.bipush 32, 2) := by decide +kernel
theorem dX8_init_292 : decode cX8_init 292 = .ok (.bipush 115, 2) := by decide +kernel
theorem dX8_init_294 : decode cX8_init 294 = .ok (.bastore, 1) := by decide +kernel
theorem dX8_init_295 : decode cX8_init 295 = .ok (.dup, 1) := by decide +kernel
theorem dX8_init_296 : decode cX8_init 296 = .ok (.bipush 33, 2) := by decide +kernel
theorem dX8_init_298 : decode cX8_init 298 = .ok (.iconst 0, 1) := by decide +kernel
theorem dX8_init_299 : decode cX8_init 299 = .ok (.bastore, 1) := by decide +kernel
theorem dX8_init_300 : decode cX8_init 300 = .ok (.dup, 1) := by decide +kernel
theorem dX8_init_301 : decode cX8_init 301 = .ok (.bipush 34, 2) := by decide +kernel
theorem dX8_init_303 : decode cX8_init 303 = .ok (.bipush 112, 2) := by decide +kernel
theorem dX8_init_305 : decode cX8_init 305 = .ok (.bastore, 1) := by decide +kernel
theorem dX8_init_306 : decode cX8_init 306 = .ok (.dup, 1) := by decide +kernel
theorem dX8_init_307 : decode cX8_init 307 = .ok (.bipush 35, 2) := by decide +kernel
theorem dX8_init_309 : decode cX8_init 309 = .ok (.bipush 97, 2) := by decide +kernel
theorem dX8_init_311 : decode cX8_init 311 = .ok (.bastore, 1) := by decide +kernel
theorem dX8_init_312 : decode cX8_init 312 = .ok (.dup, 1) := by decide +kernel
theorem dX8_init_313 : decode cX8_init 313 = .ok (.bipush 36, 2) := by decide +kernel
theorem dX8_init_315 : decode cX8_init 315 = .ok (.bipush 121, 2) := by decide +kernel
theorem dX8_init_317 : decode cX8_init 317 = .ok (.bastore, 1) := by decide +kernel
theorem dX8_init_318 : decode cX8_init 318 = .ok (.dup, 1) := by decide +kernel
theorem dX8_init_319 : decode cX8_init 319 = .ok (.bipush 37, 2) := by decide +kernel
theorem dX8_init_321 : decode cX8_init 321 = .ok (.bipush 115, 2) := by decide +kernel
theorem dX8_init_323 : decode cX8_init 323 = .ok (.bastore, 1) := by decide +kernel
theorem dX8_init_324 : decode cX8_init 324 = .ok (.dup, 1) := by decide +kernel
theorem dX8_init_325 : decode cX8_init 325 = .ok (.bipush 38, 2) := by decide +kernel
theorem dX8_init_327 : decode cX8_init 327 = .ok (.iconst 0, 1) := by decide +kernel
theorem dX8_init_328 : decode cX8_init 328 = .ok (.bastore, 1) := by decide +kernel
theorem dX8_init_329 : decode cX8_init 329 = .ok (.dup, 1) := by decide +kernel
theorem dX8_init_330 : decode cX8_init 330 = .ok (.bipush 39, 2) := by decide +kernel
theorem dX8_init_332 : decode cX8_init 332 = .ok (.bipush 108, 2) := by decide +kernel
theorem dX8_init_334 : decode cX8_init 334 = .ok (.bastore, 1) := by decide +kernel
theorem dX8_init_335 : decode cX8_init 335 = .ok (.dup, 1) := by decide +kernel
theorem dX8_init_336 : decode cX8_init 336 = .ok (.bipush 40, 2) := by decide +kernel
theorem dX8_init_338 : decode cX8_init 338 = .ok (.bipush 101, 2) := by decide +kernel
theorem dX8_init_340 : decode cX8_init 340 = .ok (.bastore, 1) := by decide +kernel
theorem dX8_init_341 : decode cX8_init 341 = .ok (.dup, 1) := by decide +kernel
theorem dX8_init_342 : decode cX8_init 342 = .ok (.bipush 41, 2) := by decide +kernel
theorem dX8_init_344 : decode cX8_init 344 = .ok (.bipush 102, 2) := by decide +kernel
theorem dX8_init_346 : decode cX8_init 346 = .ok (.bastore, 1) := by decide +kernel
theorem dX8_init_347 : decode cX8_init 347 = .ok (.dup, 1) := by decide +kernel
theorem dX8_init_348 : decode cX8_init 348 = .ok (.bipush 42, 2) := by decide +kernel
theorem dX8_init_350 : decode cX8_init 350 = .ok (.bipush 116, 2) := by decide +kernel
theorem dX8_init_352 : decode cX8_init 352 = .ok (.bastore, 1) := by decide +kernel
theorem dX8_init_353 : decode cX8_init 353 = .ok (.dup, 1) := by decide +kernel
theorem dX8_init_354 : decode cX8_init 354 = .ok (.bipush 43, 2) := by decide +kernel
theorem dX8_init_356 : decode cX8_init 356 = .ok (.iconst 0, 1) := by decide +kernel
theorem dX8_init_357 : decode cX8_init 357 = .ok (.bastore, 1) := by decide +kernel
theorem dX8_init_358 : decode cX8_init 358 = .ok (.putfield 50, 3) := by decide +kernel
theorem dX8_init_361 : decode cX8_init 361 = .ok (.aload_n 0, 1) := by decide +kernel
theorem dX8_init_362 : decode cX8_init 362 = .ok (.getfield 13, 3) := by decide +kernel
theorem dX8_init_365 : decode cX8_init 365 = .ok (.invokestatic 54, 3) := by decide +kernel
theorem dX8_init_368 : decode cX8_init 368 = .ok (.return_, 1) := by decide +kernel
theorem dX8_in_0 : decode cX8_in 0 = .ok (.iload_n 0, 1) := by decide +kernel
theorem dX8_in_1 : decode cX8_in 1 = .ok (.iload_n 1, 1) := by decide +kernel
theorem dX8_in_2 : decode cX8_in 2 = .ok (.if_icmp .lt 12, 3) := by decide +kernel
theorem dX8_in_5 : decode cX8_in 5 = .ok (.iload_n 0, 1) := by decide +kernel
theorem dX8_in_6 : decode cX8_in 6 = .ok (.iload_n 2, 1) := by decide +kernel
theorem dX8_in_7 : decode cX8_in 7 = .ok (.if_icmp .gt 7, 3) := by decide +kernel
theorem dX8_in_10 : decode cX8_in 10 = .ok (.iconst 1, 1) := by decide +kernel
theorem dX8_in_11 : decode cX8_in 11 = .ok (.goto 4, 3) := by decide +kernel
theorem dX8_in_14 : decode cX8_in 14 = .ok (.iconst 0, 1) := by decide +kernel
theorem dX8_in_15 : decode cX8_in 15 = .ok (.ireturn, 1) := by decide +kernel
theorem dX8_less_0 : decode cX8_less 0 = .ok (.iload_n 0, 1) := by decide +kernel
theorem dX8_less_1 : decode cX8_less 1 = .ok (.iload_n 1, 1) := by decide +kernel
theorem dX8_less_2 : decode cX8_less 2 = .ok (.if_icmp .ge 7, 3) := by decide +kernel
theorem dX8_less_5 : decode cX8_less 5 = .ok (.iload_n 0, 1) := by decide +kernel
theorem dX8_less_6 : decode cX8_less 6 = .ok (.goto 4, 3) := by decide +kernel
theorem dX8_less_9 : decode cX8_less 9 = .ok (.iload_n 1, 1) := by decide +kernel
theorem dX8_less_10 : decode cX8_less 10 = .ok (.ireturn, 1) := by decide +kernel
theorem dX8_starts_0 : decode cX8_starts 0 = .ok (.iconst 0, 1) := by decide +kernel
theorem dX8_starts_1 : decode cX8_starts 1 = .ok (.istore_n 1, 1) := by decide +kernel
theorem dX8_starts_2 : decode cX8_starts 2 = .ok (.iload_n 1, 1) := by decide +kernel
theorem dX8_starts_3 : decode cX8_starts 3 = .ok (.bipush 126, 2) := by decide +kernel
theorem dX8_starts_5 : decode cX8_starts 5 = .ok (.if_icmp .ge 13, 3) := by decide +kernel
theorem dX8_starts_8 : decode cX8_starts 8 = .ok (.aload_n 0, 1) := by decide +kernel
theorem dX8_starts_9 : decode cX8_starts 9 = .ok (.iload_n 1, 1) := by decide +kernel
theorem dX8_starts_10 : decode cX8_starts 10 = .ok (.iconst 0, 1) := by decide +kernel
theorem dX8_starts_11 : decode cX8_starts 11 = .ok (.iastore, 1) := by decide +kernel
theorem dX8_starts_12 : decode cX8_starts 12 = .ok (.iinc 1 1, 3) := by decide +kernel
theorem dX8_starts_15 : decode cX8_starts 15 = .ok (.goto (-13), 3) := by decide +kernel
theorem dX8_starts_18 : decode cX8_starts 18 = .ok (.aload_n 0, 1) := by decide +kernel
theorem dX8_starts_19 : decode cX8_starts 19 = .ok (.iconst 0, 1) := by decide +kernel
theorem dX8_starts_20 : decode cX8_starts 20 = .ok (.bipush 10, 2) := by decide +kernel
theorem dX8_starts_22 : decode cX8_starts 22 = .ok (.iastore, 1) := by decide +kernel
theorem dX8_starts_23 : decode cX8_starts 23 = .ok (.return_, 1) := by decide +kernel
theorem dX8_keeps_0 : decode cX8_keeps 0 = .ok (.aload_n 0, 1) := by decide +kernel
theorem dX8_keeps_1 : decode cX8_keeps 1 = .ok (.getfield 58, 3) := by decide +kernel
theorem dX8_keeps_4 : decode cX8_keeps 4 = .ok (.bipush 12, 2) := by decide +kernel
theorem dX8_keeps_6 : decode cX8_keeps 6 = .ok (.if_icmp .ne 44, 3) := by decide +kernel
theorem dX8_keeps_9 : decode cX8_keeps 9 = .ok (.bipush 126, 2) := by decide +kernel
theorem dX8_keeps_11 : decode cX8_keeps 11 = .ok (.istore_n 1, 1) := by decide +kernel
theorem dX8_keeps_12 : decode cX8_keeps 12 = .ok (.iload_n 1, 1) := by decide +kernel
theorem dX8_keeps_13 : decode cX8_keeps 13 = .ok (.sipush 1512, 3) := by decide +kernel
theorem dX8_keeps_16 : decode cX8_keeps 16 = .ok (.if_icmp .ge 24, 3) := by decide +kernel
theorem dX8_keeps_19 : decode cX8_keeps 19 = .ok (.aload_n 0, 1) := by decide +kernel
theorem dX8_keeps_20 : decode cX8_keeps 20 = .ok (.getfield 23, 3) := by decide +kernel
theorem dX8_keeps_23 : decode cX8_keeps 23 = .ok (.iload_n 1, 1) := by decide +kernel
theorem dX8_keeps_24 : decode cX8_keeps 24 = .ok (.bipush 126, 2) := by decide +kernel
theorem dX8_keeps_26 : decode cX8_keeps 26 = .ok (.isub, 1) := by decide +kernel
theorem dX8_keeps_27 : decode cX8_keeps 27 = .ok (.aload_n 0, 1) := by decide +kernel
theorem dX8_keeps_28 : decode cX8_keeps 28 = .ok (.getfield 23, 3) := by decide +kernel
theorem dX8_keeps_31 : decode cX8_keeps 31 = .ok (.iload_n 1, 1) := by decide +kernel
theorem dX8_keeps_32 : decode cX8_keeps 32 = .ok (.iaload, 1) := by decide +kernel
theorem dX8_keeps_33 : decode cX8_keeps 33 = .ok (.iastore, 1) := by decide +kernel
theorem dX8_keeps_34 : decode cX8_keeps 34 = .ok (.iinc 1 1, 3) := by decide +kernel
theorem dX8_keeps_37 : decode cX8_keeps 37 = .ok (.goto (-25), 3) := by decide +kernel
theorem dX8_keeps_40 : decode cX8_keeps 40 = .ok (.aload_n 0, 1) := by decide +kernel
theorem dX8_keeps_41 : decode cX8_keeps 41 = .ok (.dup, 1) := by decide +kernel
theorem dX8_keeps_42 : decode cX8_keeps 42 = .ok (.getfield 58, 3) := by decide +kernel
theorem dX8_keeps_45 : decode cX8_keeps 45 = .ok (.iconst 1, 1) := by decide +kernel
theorem dX8_keeps_46 : decode cX8_keeps 46 = .ok (.isub, 1) := by decide +kernel
theorem dX8_keeps_47 : decode cX8_keeps 47 = .ok (.putfield 58, 3) := by decide +kernel
theorem dX8_keeps_50 : decode cX8_keeps 50 = .ok (.iconst 0, 1) := by decide +kernel
theorem dX8_keeps_51 : decode cX8_keeps 51 = .ok (.istore_n 1, 1) := by decide +kernel
theorem dX8_keeps_52 : decode cX8_keeps 52 = .ok (.iload_n 1, 1) := by decide +kernel
theorem dX8_keeps_53 : decode cX8_keeps 53 = .ok (.bipush 126, 2) := by decide +kernel
theorem dX8_keeps_55 : decode cX8_keeps 55 = .ok (.if_icmp .ge 29, 3) := by decide +kernel
theorem dX8_keeps_58 : decode cX8_keeps 58 = .ok (.aload_n 0, 1) := by decide +kernel
theorem dX8_keeps_59 : decode cX8_keeps 59 = .ok (.getfield 23, 3) := by decide +kernel
theorem dX8_keeps_62 : decode cX8_keeps 62 = .ok (.bipush 126, 2) := by decide +kernel
theorem dX8_keeps_64 : decode cX8_keeps 64 = .ok (.aload_n 0, 1) := by decide +kernel
theorem dX8_keeps_65 : decode cX8_keeps 65 = .ok (.getfield 58, 3) := by decide +kernel
theorem dX8_keeps_68 : decode cX8_keeps 68 = .ok (.imul, 1) := by decide +kernel
theorem dX8_keeps_69 : decode cX8_keeps 69 = .ok (.iload_n 1, 1) := by decide +kernel
theorem dX8_keeps_70 : decode cX8_keeps 70 = .ok (.iadd, 1) := by decide +kernel
theorem dX8_keeps_71 : decode cX8_keeps 71 = .ok (.aload_n 0, 1) := by decide +kernel
theorem dX8_keeps_72 : decode cX8_keeps 72 = .ok (.getfield 13, 3) := by decide +kernel
theorem dX8_keeps_75 : decode cX8_keeps 75 = .ok (.iload_n 1, 1) := by decide +kernel
theorem dX8_keeps_76 : decode cX8_keeps 76 = .ok (.iaload, 1) := by decide +kernel
theorem dX8_keeps_77 : decode cX8_keeps 77 = .ok (.iastore, 1) := by decide +kernel
theorem dX8_keeps_78 : decode cX8_keeps 78 = .ok (.iinc 1 1, 3) := by decide +kernel
theorem dX8_keeps_81 : decode cX8_keeps 81 = .ok (.goto (-29), 3) := by decide +kernel
theorem dX8_keeps_84 : decode cX8_keeps 84 = .ok (.aload_n 0, 1) := by decide +kernel
theorem dX8_keeps_85 : decode cX8_keeps 85 = .ok (.dup, 1) := by decide +kernel
theorem dX8_keeps_86 : decode cX8_keeps 86 = .ok (.getfield 58, 3) := by decide +kernel
theorem dX8_keeps_89 : decode cX8_keeps 89 = .ok (.iconst 1, 1) := by decide +kernel
theorem dX8_keeps_90 : decode cX8_keeps 90 = .ok (.iadd, 1) := by decide +kernel
theorem dX8_keeps_91 : decode cX8_keeps 91 = .ok (.putfield 58, 3) := by decide +kernel
theorem dX8_keeps_94 : decode cX8_keeps 94 = .ok (.return_, 1) := by decide +kernel
theorem dX8_putsAside_0 : decode cX8_putsAside 0 = .ok (.iconst 0, 1) := by decide +kernel
theorem dX8_putsAside_1 : decode cX8_putsAside 1 = .ok (.istore_n 1, 1) := by decide +kernel
theorem dX8_putsAside_2 : decode cX8_putsAside 2 = .ok (.iload_n 1, 1) := by decide +kernel
theorem dX8_putsAside_3 : decode cX8_putsAside 3 = .ok (.bipush 126, 2) := by decide +kernel
theorem dX8_putsAside_5 : decode cX8_putsAside 5 = .ok (.if_icmp .ge 21, 3) := by decide +kernel
theorem dX8_putsAside_8 : decode cX8_putsAside 8 = .ok (.aload_n 0, 1) := by decide +kernel
theorem dX8_putsAside_9 : decode cX8_putsAside 9 = .ok (.getfield 20, 3) := by decide +kernel
theorem dX8_putsAside_12 : decode cX8_putsAside 12 = .ok (.iload_n 1, 1) := by decide +kernel
theorem dX8_putsAside_13 : decode cX8_putsAside 13 = .ok (.aload_n 0, 1) := by decide +kernel
theorem dX8_putsAside_14 : decode cX8_putsAside 14 = .ok (.getfield 13, 3) := by decide +kernel
theorem dX8_putsAside_17 : decode cX8_putsAside 17 = .ok (.iload_n 1, 1) := by decide +kernel
theorem dX8_putsAside_18 : decode cX8_putsAside 18 = .ok (.iaload, 1) := by decide +kernel
theorem dX8_putsAside_19 : decode cX8_putsAside 19 = .ok (.iastore, 1) := by decide +kernel
theorem dX8_putsAside_20 : decode cX8_putsAside 20 = .ok (.iinc 1 1, 3) := by decide +kernel
theorem dX8_putsAside_23 : decode cX8_putsAside 23 = .ok (.goto (-21), 3) := by decide +kernel
theorem dX8_putsAside_26 : decode cX8_putsAside 26 = .ok (.return_, 1) := by decide +kernel
theorem dX8_takesBack_0 : decode cX8_takesBack 0 = .ok (.iconst 0, 1) := by decide +kernel
theorem dX8_takesBack_1 : decode cX8_takesBack 1 = .ok (.istore_n 1, 1) := by decide +kernel
theorem dX8_takesBack_2 : decode cX8_takesBack 2 = .ok (.iload_n 1, 1) := by decide +kernel
theorem dX8_takesBack_3 : decode cX8_takesBack 3 = .ok (.bipush 126, 2) := by decide +kernel
theorem dX8_takesBack_5 : decode cX8_takesBack 5 = .ok (.if_icmp .ge 21, 3) := by decide +kernel
theorem dX8_takesBack_8 : decode cX8_takesBack 8 = .ok (.aload_n 0, 1) := by decide +kernel
theorem dX8_takesBack_9 : decode cX8_takesBack 9 = .ok (.getfield 13, 3) := by decide +kernel
theorem dX8_takesBack_12 : decode cX8_takesBack 12 = .ok (.iload_n 1, 1) := by decide +kernel
theorem dX8_takesBack_13 : decode cX8_takesBack 13 = .ok (.aload_n 0, 1) := by decide +kernel
theorem dX8_takesBack_14 : decode cX8_takesBack 14 = .ok (.getfield 20, 3) := by decide +kernel
theorem dX8_takesBack_17 : decode cX8_takesBack 17 = .ok (.iload_n 1, 1) := by decide +kernel
theorem dX8_takesBack_18 : decode cX8_takesBack 18 = .ok (.iaload, 1) := by decide +kernel
theorem dX8_takesBack_19 : decode cX8_takesBack 19 = .ok (.iastore, 1) := by decide +kernel
theorem dX8_takesBack_20 : decode cX8_takesBack 20 = .ok (.iinc 1 1, 3) := by decide +kernel
theorem dX8_takesBack_23 : decode cX8_takesBack 23 = .ok (.goto (-21), 3) := by decide +kernel
theorem dX8_takesBack_26 : decode cX8_takesBack 26 = .ok (.return_, 1) := by decide +kernel
theorem dX8_many_0 : decode cX8_many 0 = .ok (.aload_n 0, 1) := by decide +kernel
theorem dX8_many_1 : decode cX8_many 1 = .ok (.getfield 13, 3) := by decide +kernel
theorem dX8_many_4 : decode cX8_many 4 = .ok (.iconst 2, 1) := by decide +kernel
theorem dX8_many_5 : decode cX8_many 5 = .ok (.iaload, 1) := by decide +kernel
theorem dX8_many_6 : decode cX8_many 6 = .ok (.ireturn, 1) := by decide +kernel
theorem dX8_isBidder_0 : decode cX8_isBidder 0 = .ok (.iload_n 1, 1) := by decide +kernel
theorem dX8_isBidder_1 : decode cX8_isBidder 1 = .ok (.iconst 0, 1) := by decide +kernel
theorem dX8_isBidder_2 : decode cX8_isBidder 2 = .ok (.aload_n 0, 1) := by decide +kernel
theorem dX8_isBidder_3 : decode cX8_isBidder 3 = .ok (.invokevirtual 61, 3) := by decide +kernel
theorem dX8_isBidder_6 : decode cX8_isBidder 6 = .ok (.iconst 1, 1) := by decide +kernel
theorem dX8_isBidder_7 : decode cX8_isBidder 7 = .ok (.isub, 1) := by decide +kernel
theorem dX8_isBidder_8 : decode cX8_isBidder 8 = .ok (.invokestatic 65, 3) := by decide +kernel
theorem dX8_isBidder_11 : decode cX8_isBidder 11 = .ok (.ireturn, 1) := by decide +kernel
theorem dX8_isKind_0 : decode cX8_isKind 0 = .ok (.iload_n 0, 1) := by decide +kernel
theorem dX8_isKind_1 : decode cX8_isKind 1 = .ok (.iconst 0, 1) := by decide +kernel
theorem dX8_isKind_2 : decode cX8_isKind 2 = .ok (.iconst 3, 1) := by decide +kernel
theorem dX8_isKind_3 : decode cX8_isKind 3 = .ok (.invokestatic 65, 3) := by decide +kernel
theorem dX8_isKind_6 : decode cX8_isKind 6 = .ok (.ireturn, 1) := by decide +kernel
theorem dX8_isPrice_0 : decode cX8_isPrice 0 = .ok (.iload_n 0, 1) := by decide +kernel
theorem dX8_isPrice_1 : decode cX8_isPrice 1 = .ok (.iconst 0, 1) := by decide +kernel
theorem dX8_isPrice_2 : decode cX8_isPrice 2 = .ok (.bipush 99, 2) := by decide +kernel
theorem dX8_isPrice_4 : decode cX8_isPrice 4 = .ok (.invokestatic 65, 3) := by decide +kernel
theorem dX8_isPrice_7 : decode cX8_isPrice 7 = .ok (.ireturn, 1) := by decide +kernel
theorem dX8_capOf_0 : decode cX8_capOf 0 = .ok (.aload_n 0, 1) := by decide +kernel
theorem dX8_capOf_1 : decode cX8_capOf 1 = .ok (.getfield 13, 3) := by decide +kernel
theorem dX8_capOf_4 : decode cX8_capOf 4 = .ok (.iconst 3, 1) := by decide +kernel
theorem dX8_capOf_5 : decode cX8_capOf 5 = .ok (.bipush 10, 2) := by decide +kernel
theorem dX8_capOf_7 : decode cX8_capOf 7 = .ok (.iload_n 1, 1) := by decide +kernel
theorem dX8_capOf_8 : decode cX8_capOf 8 = .ok (.imul, 1) := by decide +kernel
theorem dX8_capOf_9 : decode cX8_capOf 9 = .ok (.iadd, 1) := by decide +kernel
theorem dX8_capOf_10 : decode cX8_capOf 10 = .ok (.iaload, 1) := by decide +kernel
theorem dX8_capOf_11 : decode cX8_capOf 11 = .ok (.ireturn, 1) := by decide +kernel
theorem dX8_valuesOf_0 : decode cX8_valuesOf 0 = .ok (.aload_n 0, 1) := by decide +kernel
theorem dX8_valuesOf_1 : decode cX8_valuesOf 1 = .ok (.getfield 13, 3) := by decide +kernel
theorem dX8_valuesOf_4 : decode cX8_valuesOf 4 = .ok (.iconst 3, 1) := by decide +kernel
theorem dX8_valuesOf_5 : decode cX8_valuesOf 5 = .ok (.bipush 10, 2) := by decide +kernel
theorem dX8_valuesOf_7 : decode cX8_valuesOf 7 = .ok (.iload_n 1, 1) := by decide +kernel
theorem dX8_valuesOf_8 : decode cX8_valuesOf 8 = .ok (.imul, 1) := by decide +kernel
theorem dX8_valuesOf_9 : decode cX8_valuesOf 9 = .ok (.iadd, 1) := by decide +kernel
theorem dX8_valuesOf_10 : decode cX8_valuesOf 10 = .ok (.iconst 1, 1) := by decide +kernel
theorem dX8_valuesOf_11 : decode cX8_valuesOf 11 = .ok (.iadd, 1) := by decide +kernel
theorem dX8_valuesOf_12 : decode cX8_valuesOf 12 = .ok (.iaload, 1) := by decide +kernel
theorem dX8_valuesOf_13 : decode cX8_valuesOf 13 = .ok (.ireturn, 1) := by decide +kernel
theorem dX8_valueAt_0 : decode cX8_valueAt 0 = .ok (.aload_n 0, 1) := by decide +kernel
theorem dX8_valueAt_1 : decode cX8_valueAt 1 = .ok (.getfield 13, 3) := by decide +kernel
theorem dX8_valueAt_4 : decode cX8_valueAt 4 = .ok (.iconst 3, 1) := by decide +kernel
theorem dX8_valueAt_5 : decode cX8_valueAt 5 = .ok (.bipush 10, 2) := by decide +kernel
theorem dX8_valueAt_7 : decode cX8_valueAt 7 = .ok (.iload_n 1, 1) := by decide +kernel
theorem dX8_valueAt_8 : decode cX8_valueAt 8 = .ok (.imul, 1) := by decide +kernel
theorem dX8_valueAt_9 : decode cX8_valueAt 9 = .ok (.iadd, 1) := by decide +kernel
theorem dX8_valueAt_10 : decode cX8_valueAt 10 = .ok (.iconst 2, 1) := by decide +kernel
theorem dX8_valueAt_11 : decode cX8_valueAt 11 = .ok (.iadd, 1) := by decide +kernel
theorem dX8_valueAt_12 : decode cX8_valueAt 12 = .ok (.iload_n 2, 1) := by decide +kernel
theorem dX8_valueAt_13 : decode cX8_valueAt 13 = .ok (.iadd, 1) := by decide +kernel
theorem dX8_valueAt_14 : decode cX8_valueAt 14 = .ok (.iaload, 1) := by decide +kernel
theorem dX8_valueAt_15 : decode cX8_valueAt 15 = .ok (.ireturn, 1) := by decide +kernel
theorem dX8_usedOf_0 : decode cX8_usedOf 0 = .ok (.aload_n 0, 1) := by decide +kernel
theorem dX8_usedOf_1 : decode cX8_usedOf 1 = .ok (.iload_n 1, 1) := by decide +kernel
theorem dX8_usedOf_2 : decode cX8_usedOf 2 = .ok (.invokevirtual 69, 3) := by decide +kernel
theorem dX8_usedOf_5 : decode cX8_usedOf 5 = .ok (.aload_n 0, 1) := by decide +kernel
theorem dX8_usedOf_6 : decode cX8_usedOf 6 = .ok (.iload_n 1, 1) := by decide +kernel
theorem dX8_usedOf_7 : decode cX8_usedOf 7 = .ok (.invokevirtual 73, 3) := by decide +kernel
theorem dX8_usedOf_10 : decode cX8_usedOf 10 = .ok (.invokestatic 76, 3) := by decide +kernel
theorem dX8_usedOf_13 : decode cX8_usedOf 13 = .ok (.ireturn, 1) := by decide +kernel
theorem dX8_lays_0 : decode cX8_lays 0 = .ok (.iconst 0, 1) := by decide +kernel
theorem dX8_lays_1 : decode cX8_lays 1 = .ok (.istore_n 3, 1) := by decide +kernel
theorem dX8_lays_2 : decode cX8_lays 2 = .ok (.iload_n 3, 1) := by decide +kernel
theorem dX8_lays_3 : decode cX8_lays 3 = .ok (.bipush 10, 2) := by decide +kernel
theorem dX8_lays_5 : decode cX8_lays 5 = .ok (.if_icmp .ge 35, 3) := by decide +kernel
theorem dX8_lays_8 : decode cX8_lays 8 = .ok (.aload_n 0, 1) := by decide +kernel
theorem dX8_lays_9 : decode cX8_lays 9 = .ok (.getfield 13, 3) := by decide +kernel
theorem dX8_lays_12 : decode cX8_lays 12 = .ok (.iconst 3, 1) := by decide +kernel
theorem dX8_lays_13 : decode cX8_lays 13 = .ok (.bipush 10, 2) := by decide +kernel
theorem dX8_lays_15 : decode cX8_lays 15 = .ok (.iload_n 2, 1) := by decide +kernel
theorem dX8_lays_16 : decode cX8_lays 16 = .ok (.imul, 1) := by decide +kernel
theorem dX8_lays_17 : decode cX8_lays 17 = .ok (.iadd, 1) := by decide +kernel
theorem dX8_lays_18 : decode cX8_lays 18 = .ok (.iload_n 3, 1) := by decide +kernel
theorem dX8_lays_19 : decode cX8_lays 19 = .ok (.iadd, 1) := by decide +kernel
theorem dX8_lays_20 : decode cX8_lays 20 = .ok (.aload_n 0, 1) := by decide +kernel
theorem dX8_lays_21 : decode cX8_lays 21 = .ok (.getfield 13, 3) := by decide +kernel
theorem dX8_lays_24 : decode cX8_lays 24 = .ok (.iconst 3, 1) := by decide +kernel
theorem dX8_lays_25 : decode cX8_lays 25 = .ok (.bipush 10, 2) := by decide +kernel
theorem dX8_lays_27 : decode cX8_lays 27 = .ok (.iload_n 1, 1) := by decide +kernel
theorem dX8_lays_28 : decode cX8_lays 28 = .ok (.imul, 1) := by decide +kernel
theorem dX8_lays_29 : decode cX8_lays 29 = .ok (.iadd, 1) := by decide +kernel
theorem dX8_lays_30 : decode cX8_lays 30 = .ok (.iload_n 3, 1) := by decide +kernel
theorem dX8_lays_31 : decode cX8_lays 31 = .ok (.iadd, 1) := by decide +kernel
theorem dX8_lays_32 : decode cX8_lays 32 = .ok (.iaload, 1) := by decide +kernel
theorem dX8_lays_33 : decode cX8_lays 33 = .ok (.iastore, 1) := by decide +kernel
theorem dX8_lays_34 : decode cX8_lays 34 = .ok (.iinc 3 1, 3) := by decide +kernel
theorem dX8_lays_37 : decode cX8_lays 37 = .ok (.goto (-35), 3) := by decide +kernel
theorem dX8_lays_40 : decode cX8_lays 40 = .ok (.return_, 1) := by decide +kernel
theorem dX8_addsOne_0 : decode cX8_addsOne 0 = .ok (.aload_n 0, 1) := by decide +kernel
theorem dX8_addsOne_1 : decode cX8_addsOne 1 = .ok (.invokevirtual 61, 3) := by decide +kernel
theorem dX8_addsOne_4 : decode cX8_addsOne 4 = .ok (.istore_n 2, 1) := by decide +kernel
theorem dX8_addsOne_5 : decode cX8_addsOne 5 = .ok (.iconst 0, 1) := by decide +kernel
theorem dX8_addsOne_6 : decode cX8_addsOne 6 = .ok (.istore_n 3, 1) := by decide +kernel
theorem dX8_addsOne_7 : decode cX8_addsOne 7 = .ok (.iload_n 3, 1) := by decide +kernel
theorem dX8_addsOne_8 : decode cX8_addsOne 8 = .ok (.bipush 10, 2) := by decide +kernel
theorem dX8_addsOne_10 : decode cX8_addsOne 10 = .ok (.if_icmp .ge 23, 3) := by decide +kernel
theorem dX8_addsOne_13 : decode cX8_addsOne 13 = .ok (.aload_n 0, 1) := by decide +kernel
theorem dX8_addsOne_14 : decode cX8_addsOne 14 = .ok (.getfield 13, 3) := by decide +kernel
theorem dX8_addsOne_17 : decode cX8_addsOne 17 = .ok (.iconst 3, 1) := by decide +kernel
theorem dX8_addsOne_18 : decode cX8_addsOne 18 = .ok (.bipush 10, 2) := by decide +kernel
theorem dX8_addsOne_20 : decode cX8_addsOne 20 = .ok (.iload_n 2, 1) := by decide +kernel
theorem dX8_addsOne_21 : decode cX8_addsOne 21 = .ok (.imul, 1) := by decide +kernel
theorem dX8_addsOne_22 : decode cX8_addsOne 22 = .ok (.iadd, 1) := by decide +kernel
theorem dX8_addsOne_23 : decode cX8_addsOne 23 = .ok (.iload_n 3, 1) := by decide +kernel
theorem dX8_addsOne_24 : decode cX8_addsOne 24 = .ok (.iadd, 1) := by decide +kernel
theorem dX8_addsOne_25 : decode cX8_addsOne 25 = .ok (.iconst 0, 1) := by decide +kernel
theorem dX8_addsOne_26 : decode cX8_addsOne 26 = .ok (.iastore, 1) := by decide +kernel
theorem dX8_addsOne_27 : decode cX8_addsOne 27 = .ok (.iinc 3 1, 3) := by decide +kernel
theorem dX8_addsOne_30 : decode cX8_addsOne 30 = .ok (.goto (-23), 3) := by decide +kernel
theorem dX8_addsOne_33 : decode cX8_addsOne 33 = .ok (.aload_n 0, 1) := by decide +kernel
theorem dX8_addsOne_34 : decode cX8_addsOne 34 = .ok (.getfield 13, 3) := by decide +kernel
theorem dX8_addsOne_37 : decode cX8_addsOne 37 = .ok (.iconst 3, 1) := by decide +kernel
theorem dX8_addsOne_38 : decode cX8_addsOne 38 = .ok (.bipush 10, 2) := by decide +kernel
theorem dX8_addsOne_40 : decode cX8_addsOne 40 = .ok (.iload_n 2, 1) := by decide +kernel
theorem dX8_addsOne_41 : decode cX8_addsOne 41 = .ok (.imul, 1) := by decide +kernel
theorem dX8_addsOne_42 : decode cX8_addsOne 42 = .ok (.iadd, 1) := by decide +kernel
theorem dX8_addsOne_43 : decode cX8_addsOne 43 = .ok (.iload_n 1, 1) := by decide +kernel
theorem dX8_addsOne_44 : decode cX8_addsOne 44 = .ok (.iastore, 1) := by decide +kernel
theorem dX8_addsOne_45 : decode cX8_addsOne 45 = .ok (.aload_n 0, 1) := by decide +kernel
theorem dX8_addsOne_46 : decode cX8_addsOne 46 = .ok (.getfield 13, 3) := by decide +kernel
theorem dX8_addsOne_49 : decode cX8_addsOne 49 = .ok (.iconst 2, 1) := by decide +kernel
theorem dX8_addsOne_50 : decode cX8_addsOne 50 = .ok (.dup2, 1) := by decide +kernel
theorem dX8_addsOne_51 : decode cX8_addsOne 51 = .ok (.iaload, 1) := by decide +kernel
theorem dX8_addsOne_52 : decode cX8_addsOne 52 = .ok (.iconst 1, 1) := by decide +kernel
theorem dX8_addsOne_53 : decode cX8_addsOne 53 = .ok (.iadd, 1) := by decide +kernel
theorem dX8_addsOne_54 : decode cX8_addsOne 54 = .ok (.iastore, 1) := by decide +kernel
theorem dX8_addsOne_55 : decode cX8_addsOne 55 = .ok (.iload_n 2, 1) := by decide +kernel
theorem dX8_addsOne_56 : decode cX8_addsOne 56 = .ok (.ireturn, 1) := by decide +kernel
theorem dX8_goes_0 : decode cX8_goes 0 = .ok (.iload_n 1, 1) := by decide +kernel
theorem dX8_goes_1 : decode cX8_goes 1 = .ok (.istore_n 2, 1) := by decide +kernel
theorem dX8_goes_2 : decode cX8_goes 2 = .ok (.iload_n 2, 1) := by decide +kernel
theorem dX8_goes_3 : decode cX8_goes 3 = .ok (.iconst 1, 1) := by decide +kernel
theorem dX8_goes_4 : decode cX8_goes 4 = .ok (.iadd, 1) := by decide +kernel
theorem dX8_goes_5 : decode cX8_goes 5 = .ok (.aload_n 0, 1) := by decide +kernel
theorem dX8_goes_6 : decode cX8_goes 6 = .ok (.invokevirtual 61, 3) := by decide +kernel
theorem dX8_goes_9 : decode cX8_goes 9 = .ok (.if_icmp .ge 17, 3) := by decide +kernel
theorem dX8_goes_12 : decode cX8_goes 12 = .ok (.aload_n 0, 1) := by decide +kernel
theorem dX8_goes_13 : decode cX8_goes 13 = .ok (.iload_n 2, 1) := by decide +kernel
theorem dX8_goes_14 : decode cX8_goes 14 = .ok (.iconst 1, 1) := by decide +kernel
theorem dX8_goes_15 : decode cX8_goes 15 = .ok (.iadd, 1) := by decide +kernel
theorem dX8_goes_16 : decode cX8_goes 16 = .ok (.iload_n 2, 1) := by decide +kernel
theorem dX8_goes_17 : decode cX8_goes 17 = .ok (.invokevirtual 80, 3) := by decide +kernel
theorem dX8_goes_20 : decode cX8_goes 20 = .ok (.iinc 2 1, 3) := by decide +kernel
theorem dX8_goes_23 : decode cX8_goes 23 = .ok (.goto (-21), 3) := by decide +kernel
theorem dX8_goes_26 : decode cX8_goes 26 = .ok (.aload_n 0, 1) := by decide +kernel
theorem dX8_goes_27 : decode cX8_goes 27 = .ok (.getfield 13, 3) := by decide +kernel
theorem dX8_goes_30 : decode cX8_goes 30 = .ok (.iconst 2, 1) := by decide +kernel
theorem dX8_goes_31 : decode cX8_goes 31 = .ok (.dup2, 1) := by decide +kernel
theorem dX8_goes_32 : decode cX8_goes 32 = .ok (.iaload, 1) := by decide +kernel
theorem dX8_goes_33 : decode cX8_goes 33 = .ok (.iconst 1, 1) := by decide +kernel
theorem dX8_goes_34 : decode cX8_goes 34 = .ok (.isub, 1) := by decide +kernel
theorem dX8_goes_35 : decode cX8_goes 35 = .ok (.iastore, 1) := by decide +kernel
theorem dX8_goes_36 : decode cX8_goes 36 = .ok (.return_, 1) := by decide +kernel
theorem dX8_comes_0 : decode cX8_comes 0 = .ok (.iconst 3, 1) := by decide +kernel
theorem dX8_comes_1 : decode cX8_comes 1 = .ok (.bipush 10, 2) := by decide +kernel
theorem dX8_comes_3 : decode cX8_comes 3 = .ok (.iload_n 1, 1) := by decide +kernel
theorem dX8_comes_4 : decode cX8_comes 4 = .ok (.imul, 1) := by decide +kernel
theorem dX8_comes_5 : decode cX8_comes 5 = .ok (.iadd, 1) := by decide +kernel
theorem dX8_comes_6 : decode cX8_comes 6 = .ok (.iconst 2, 1) := by decide +kernel
theorem dX8_comes_7 : decode cX8_comes 7 = .ok (.iadd, 1) := by decide +kernel
theorem dX8_comes_8 : decode cX8_comes 8 = .ok (.istore_n 3, 1) := by decide +kernel
theorem dX8_comes_9 : decode cX8_comes 9 = .ok (.aload_n 0, 1) := by decide +kernel
theorem dX8_comes_10 : decode cX8_comes 10 = .ok (.iload_n 1, 1) := by decide +kernel
theorem dX8_comes_11 : decode cX8_comes 11 = .ok (.invokevirtual 73, 3) := by decide +kernel
theorem dX8_comes_14 : decode cX8_comes 14 = .ok (.istore 4, 2) := by decide +kernel
theorem dX8_comes_16 : decode cX8_comes 16 = .ok (.iload 4, 2) := by decide +kernel
theorem dX8_comes_18 : decode cX8_comes 18 = .ok (.ifCond .le 44, 3) := by decide +kernel
theorem dX8_comes_21 : decode cX8_comes 21 = .ok (.aload_n 0, 1) := by decide +kernel
theorem dX8_comes_22 : decode cX8_comes 22 = .ok (.getfield 13, 3) := by decide +kernel
theorem dX8_comes_25 : decode cX8_comes 25 = .ok (.iload_n 3, 1) := by decide +kernel
theorem dX8_comes_26 : decode cX8_comes 26 = .ok (.iload 4, 2) := by decide +kernel
theorem dX8_comes_28 : decode cX8_comes 28 = .ok (.iadd, 1) := by decide +kernel
theorem dX8_comes_29 : decode cX8_comes 29 = .ok (.iconst 1, 1) := by decide +kernel
theorem dX8_comes_30 : decode cX8_comes 30 = .ok (.isub, 1) := by decide +kernel
theorem dX8_comes_31 : decode cX8_comes 31 = .ok (.iaload, 1) := by decide +kernel
theorem dX8_comes_32 : decode cX8_comes 32 = .ok (.iload_n 2, 1) := by decide +kernel
theorem dX8_comes_33 : decode cX8_comes 33 = .ok (.if_icmp .ge 29, 3) := by decide +kernel
theorem dX8_comes_36 : decode cX8_comes 36 = .ok (.aload_n 0, 1) := by decide +kernel
theorem dX8_comes_37 : decode cX8_comes 37 = .ok (.getfield 13, 3) := by decide +kernel
theorem dX8_comes_40 : decode cX8_comes 40 = .ok (.iload_n 3, 1) := by decide +kernel
theorem dX8_comes_41 : decode cX8_comes 41 = .ok (.iload 4, 2) := by decide +kernel
theorem dX8_comes_43 : decode cX8_comes 43 = .ok (.iadd, 1) := by decide +kernel
theorem dX8_comes_44 : decode cX8_comes 44 = .ok (.aload_n 0, 1) := by decide +kernel
theorem dX8_comes_45 : decode cX8_comes 45 = .ok (.getfield 13, 3) := by decide +kernel
theorem dX8_comes_48 : decode cX8_comes 48 = .ok (.iload_n 3, 1) := by decide +kernel
theorem dX8_comes_49 : decode cX8_comes 49 = .ok (.iload 4, 2) := by decide +kernel
theorem dX8_comes_51 : decode cX8_comes 51 = .ok (.iadd, 1) := by decide +kernel
theorem dX8_comes_52 : decode cX8_comes 52 = .ok (.iconst 1, 1) := by decide +kernel
theorem dX8_comes_53 : decode cX8_comes 53 = .ok (.isub, 1) := by decide +kernel
theorem dX8_comes_54 : decode cX8_comes 54 = .ok (.iaload, 1) := by decide +kernel
theorem dX8_comes_55 : decode cX8_comes 55 = .ok (.iastore, 1) := by decide +kernel
theorem dX8_comes_56 : decode cX8_comes 56 = .ok (.iinc 4 (-1), 3) := by decide +kernel
theorem dX8_comes_59 : decode cX8_comes 59 = .ok (.goto (-43), 3) := by decide +kernel
theorem dX8_comes_62 : decode cX8_comes 62 = .ok (.aload_n 0, 1) := by decide +kernel
theorem dX8_comes_63 : decode cX8_comes 63 = .ok (.getfield 13, 3) := by decide +kernel
theorem dX8_comes_66 : decode cX8_comes 66 = .ok (.iload_n 3, 1) := by decide +kernel
theorem dX8_comes_67 : decode cX8_comes 67 = .ok (.iload 4, 2) := by decide +kernel
theorem dX8_comes_69 : decode cX8_comes 69 = .ok (.iadd, 1) := by decide +kernel
theorem dX8_comes_70 : decode cX8_comes 70 = .ok (.iload_n 2, 1) := by decide +kernel
theorem dX8_comes_71 : decode cX8_comes 71 = .ok (.iastore, 1) := by decide +kernel
theorem dX8_comes_72 : decode cX8_comes 72 = .ok (.aload_n 0, 1) := by decide +kernel
theorem dX8_comes_73 : decode cX8_comes 73 = .ok (.getfield 13, 3) := by decide +kernel
theorem dX8_comes_76 : decode cX8_comes 76 = .ok (.iload_n 3, 1) := by decide +kernel
theorem dX8_comes_77 : decode cX8_comes 77 = .ok (.iconst 1, 1) := by decide +kernel
theorem dX8_comes_78 : decode cX8_comes 78 = .ok (.isub, 1) := by decide +kernel
theorem dX8_comes_79 : decode cX8_comes 79 = .ok (.dup2, 1) := by decide +kernel
theorem dX8_comes_80 : decode cX8_comes 80 = .ok (.iaload, 1) := by decide +kernel
theorem dX8_comes_81 : decode cX8_comes 81 = .ok (.iconst 1, 1) := by decide +kernel
theorem dX8_comes_82 : decode cX8_comes 82 = .ok (.iadd, 1) := by decide +kernel
theorem dX8_comes_83 : decode cX8_comes 83 = .ok (.iastore, 1) := by decide +kernel
theorem dX8_comes_84 : decode cX8_comes 84 = .ok (.return_, 1) := by decide +kernel
theorem dX8_drops_0 : decode cX8_drops 0 = .ok (.iconst 3, 1) := by decide +kernel
theorem dX8_drops_1 : decode cX8_drops 1 = .ok (.bipush 10, 2) := by decide +kernel
theorem dX8_drops_3 : decode cX8_drops 3 = .ok (.iload_n 1, 1) := by decide +kernel
theorem dX8_drops_4 : decode cX8_drops 4 = .ok (.imul, 1) := by decide +kernel
theorem dX8_drops_5 : decode cX8_drops 5 = .ok (.iadd, 1) := by decide +kernel
theorem dX8_drops_6 : decode cX8_drops 6 = .ok (.iconst 2, 1) := by decide +kernel
theorem dX8_drops_7 : decode cX8_drops 7 = .ok (.iadd, 1) := by decide +kernel
theorem dX8_drops_8 : decode cX8_drops 8 = .ok (.istore_n 3, 1) := by decide +kernel
theorem dX8_drops_9 : decode cX8_drops 9 = .ok (.iload_n 2, 1) := by decide +kernel
theorem dX8_drops_10 : decode cX8_drops 10 = .ok (.istore 4, 2) := by decide +kernel
theorem dX8_drops_12 : decode cX8_drops 12 = .ok (.iload 4, 2) := by decide +kernel
theorem dX8_drops_14 : decode cX8_drops 14 = .ok (.iconst 1, 1) := by decide +kernel
theorem dX8_drops_15 : decode cX8_drops 15 = .ok (.iadd, 1) := by decide +kernel
theorem dX8_drops_16 : decode cX8_drops 16 = .ok (.aload_n 0, 1) := by decide +kernel
theorem dX8_drops_17 : decode cX8_drops 17 = .ok (.iload_n 1, 1) := by decide +kernel
theorem dX8_drops_18 : decode cX8_drops 18 = .ok (.invokevirtual 73, 3) := by decide +kernel
theorem dX8_drops_21 : decode cX8_drops 21 = .ok (.if_icmp .ge 29, 3) := by decide +kernel
theorem dX8_drops_24 : decode cX8_drops 24 = .ok (.aload_n 0, 1) := by decide +kernel
theorem dX8_drops_25 : decode cX8_drops 25 = .ok (.getfield 13, 3) := by decide +kernel
theorem dX8_drops_28 : decode cX8_drops 28 = .ok (.iload_n 3, 1) := by decide +kernel
theorem dX8_drops_29 : decode cX8_drops 29 = .ok (.iload 4, 2) := by decide +kernel
theorem dX8_drops_31 : decode cX8_drops 31 = .ok (.iadd, 1) := by decide +kernel
theorem dX8_drops_32 : decode cX8_drops 32 = .ok (.aload_n 0, 1) := by decide +kernel
theorem dX8_drops_33 : decode cX8_drops 33 = .ok (.getfield 13, 3) := by decide +kernel
theorem dX8_drops_36 : decode cX8_drops 36 = .ok (.iload_n 3, 1) := by decide +kernel
theorem dX8_drops_37 : decode cX8_drops 37 = .ok (.iload 4, 2) := by decide +kernel
theorem dX8_drops_39 : decode cX8_drops 39 = .ok (.iadd, 1) := by decide +kernel
theorem dX8_drops_40 : decode cX8_drops 40 = .ok (.iconst 1, 1) := by decide +kernel
theorem dX8_drops_41 : decode cX8_drops 41 = .ok (.iadd, 1) := by decide +kernel
theorem dX8_drops_42 : decode cX8_drops 42 = .ok (.iaload, 1) := by decide +kernel
theorem dX8_drops_43 : decode cX8_drops 43 = .ok (.iastore, 1) := by decide +kernel
theorem dX8_drops_44 : decode cX8_drops 44 = .ok (.iinc 4 1, 3) := by decide +kernel
theorem dX8_drops_47 : decode cX8_drops 47 = .ok (.goto (-35), 3) := by decide +kernel
theorem dX8_drops_50 : decode cX8_drops 50 = .ok (.aload_n 0, 1) := by decide +kernel
theorem dX8_drops_51 : decode cX8_drops 51 = .ok (.getfield 13, 3) := by decide +kernel
theorem dX8_drops_54 : decode cX8_drops 54 = .ok (.iload_n 3, 1) := by decide +kernel
theorem dX8_drops_55 : decode cX8_drops 55 = .ok (.iconst 1, 1) := by decide +kernel
theorem dX8_drops_56 : decode cX8_drops 56 = .ok (.isub, 1) := by decide +kernel
theorem dX8_drops_57 : decode cX8_drops 57 = .ok (.dup2, 1) := by decide +kernel
theorem dX8_drops_58 : decode cX8_drops 58 = .ok (.iaload, 1) := by decide +kernel
theorem dX8_drops_59 : decode cX8_drops 59 = .ok (.iconst 1, 1) := by decide +kernel
theorem dX8_drops_60 : decode cX8_drops 60 = .ok (.isub, 1) := by decide +kernel
theorem dX8_drops_61 : decode cX8_drops 61 = .ok (.iastore, 1) := by decide +kernel
theorem dX8_drops_62 : decode cX8_drops 62 = .ok (.return_, 1) := by decide +kernel
theorem dX8_join_0 : decode cX8_join 0 = .ok (.aload_n 0, 1) := by decide +kernel
theorem dX8_join_1 : decode cX8_join 1 = .ok (.invokevirtual 61, 3) := by decide +kernel
theorem dX8_join_4 : decode cX8_join 4 = .ok (.bipush 8, 2) := by decide +kernel
theorem dX8_join_6 : decode cX8_join 6 = .ok (.if_icmp .ne 5, 3) := by decide +kernel
theorem dX8_join_9 : decode cX8_join 9 = .ok (.iconst (-1), 1) := by decide +kernel
theorem dX8_join_10 : decode cX8_join 10 = .ok (.ireturn, 1) := by decide +kernel
theorem dX8_join_11 : decode cX8_join 11 = .ok (.aload_n 0, 1) := by decide +kernel
theorem dX8_join_12 : decode cX8_join 12 = .ok (.invokevirtual 84, 3) := by decide +kernel
theorem dX8_join_15 : decode cX8_join 15 = .ok (.aload_n 0, 1) := by decide +kernel
theorem dX8_join_16 : decode cX8_join 16 = .ok (.bipush 8, 2) := by decide +kernel
theorem dX8_join_18 : decode cX8_join 18 = .ok (.invokevirtual 87, 3) := by decide +kernel
theorem dX8_join_21 : decode cX8_join 21 = .ok (.ireturn, 1) := by decide +kernel
theorem dX8_leave_0 : decode cX8_leave 0 = .ok (.aload_n 0, 1) := by decide +kernel
theorem dX8_leave_1 : decode cX8_leave 1 = .ok (.iload_n 1, 1) := by decide +kernel
theorem dX8_leave_2 : decode cX8_leave 2 = .ok (.invokevirtual 90, 3) := by decide +kernel
theorem dX8_leave_5 : decode cX8_leave 5 = .ok (.ifCond .ne 5, 3) := by decide +kernel
theorem dX8_leave_8 : decode cX8_leave 8 = .ok (.iconst 0, 1) := by decide +kernel
theorem dX8_leave_9 : decode cX8_leave 9 = .ok (.ireturn, 1) := by decide +kernel
theorem dX8_leave_10 : decode cX8_leave 10 = .ok (.aload_n 0, 1) := by decide +kernel
theorem dX8_leave_11 : decode cX8_leave 11 = .ok (.invokevirtual 84, 3) := by decide +kernel
theorem dX8_leave_14 : decode cX8_leave 14 = .ok (.aload_n 0, 1) := by decide +kernel
theorem dX8_leave_15 : decode cX8_leave 15 = .ok (.iload_n 1, 1) := by decide +kernel
theorem dX8_leave_16 : decode cX8_leave 16 = .ok (.invokevirtual 94, 3) := by decide +kernel
theorem dX8_leave_19 : decode cX8_leave 19 = .ok (.iconst 1, 1) := by decide +kernel
theorem dX8_leave_20 : decode cX8_leave 20 = .ok (.ireturn, 1) := by decide +kernel
theorem dX8_value_0 : decode cX8_value 0 = .ok (.aload_n 0, 1) := by decide +kernel
theorem dX8_value_1 : decode cX8_value 1 = .ok (.iload_n 1, 1) := by decide +kernel
theorem dX8_value_2 : decode cX8_value 2 = .ok (.invokevirtual 90, 3) := by decide +kernel
theorem dX8_value_5 : decode cX8_value 5 = .ok (.ifCond .eq 20, 3) := by decide +kernel
theorem dX8_value_8 : decode cX8_value 8 = .ok (.iload_n 2, 1) := by decide +kernel
theorem dX8_value_9 : decode cX8_value 9 = .ok (.invokestatic 98, 3) := by decide +kernel
theorem dX8_value_12 : decode cX8_value 12 = .ok (.ifCond .eq 13, 3) := by decide +kernel
theorem dX8_value_15 : decode cX8_value 15 = .ok (.aload_n 0, 1) := by decide +kernel
theorem dX8_value_16 : decode cX8_value 16 = .ok (.iload_n 1, 1) := by decide +kernel
theorem dX8_value_17 : decode cX8_value 17 = .ok (.invokevirtual 73, 3) := by decide +kernel
theorem dX8_value_20 : decode cX8_value 20 = .ok (.bipush 8, 2) := by decide +kernel
theorem dX8_value_22 : decode cX8_value 22 = .ok (.if_icmp .ne 5, 3) := by decide +kernel
theorem dX8_value_25 : decode cX8_value 25 = .ok (.iconst (-1), 1) := by decide +kernel
theorem dX8_value_26 : decode cX8_value 26 = .ok (.ireturn, 1) := by decide +kernel
theorem dX8_value_27 : decode cX8_value 27 = .ok (.aload_n 0, 1) := by decide +kernel
theorem dX8_value_28 : decode cX8_value 28 = .ok (.invokevirtual 84, 3) := by decide +kernel
theorem dX8_value_31 : decode cX8_value 31 = .ok (.aload_n 0, 1) := by decide +kernel
theorem dX8_value_32 : decode cX8_value 32 = .ok (.iload_n 1, 1) := by decide +kernel
theorem dX8_value_33 : decode cX8_value 33 = .ok (.iload_n 2, 1) := by decide +kernel
theorem dX8_value_34 : decode cX8_value 34 = .ok (.invokevirtual 101, 3) := by decide +kernel
theorem dX8_value_37 : decode cX8_value 37 = .ok (.aload_n 0, 1) := by decide +kernel
theorem dX8_value_38 : decode cX8_value 38 = .ok (.iload_n 1, 1) := by decide +kernel
theorem dX8_value_39 : decode cX8_value 39 = .ok (.invokevirtual 73, 3) := by decide +kernel
theorem dX8_value_42 : decode cX8_value 42 = .ok (.ireturn, 1) := by decide +kernel
theorem dX8_isValue_0 : decode cX8_isValue 0 = .ok (.aload_n 0, 1) := by decide +kernel
theorem dX8_isValue_1 : decode cX8_isValue 1 = .ok (.iload_n 1, 1) := by decide +kernel
theorem dX8_isValue_2 : decode cX8_isValue 2 = .ok (.invokevirtual 90, 3) := by decide +kernel
theorem dX8_isValue_5 : decode cX8_isValue 5 = .ok (.ifCond .eq 22, 3) := by decide +kernel
theorem dX8_isValue_8 : decode cX8_isValue 8 = .ok (.iload_n 2, 1) := by decide +kernel
theorem dX8_isValue_9 : decode cX8_isValue 9 = .ok (.iconst 0, 1) := by decide +kernel
theorem dX8_isValue_10 : decode cX8_isValue 10 = .ok (.aload_n 0, 1) := by decide +kernel
theorem dX8_isValue_11 : decode cX8_isValue 11 = .ok (.iload_n 1, 1) := by decide +kernel
theorem dX8_isValue_12 : decode cX8_isValue 12 = .ok (.invokevirtual 73, 3) := by decide +kernel
theorem dX8_isValue_15 : decode cX8_isValue 15 = .ok (.iconst 1, 1) := by decide +kernel
theorem dX8_isValue_16 : decode cX8_isValue 16 = .ok (.isub, 1) := by decide +kernel
theorem dX8_isValue_17 : decode cX8_isValue 17 = .ok (.invokestatic 65, 3) := by decide +kernel
theorem dX8_isValue_20 : decode cX8_isValue 20 = .ok (.ifCond .eq 7, 3) := by decide +kernel
theorem dX8_isValue_23 : decode cX8_isValue 23 = .ok (.iconst 1, 1) := by decide +kernel
theorem dX8_isValue_24 : decode cX8_isValue 24 = .ok (.goto 4, 3) := by decide +kernel
theorem dX8_isValue_27 : decode cX8_isValue 27 = .ok (.iconst 0, 1) := by decide +kernel
theorem dX8_isValue_28 : decode cX8_isValue 28 = .ok (.ireturn, 1) := by decide +kernel
theorem dX8_without_0 : decode cX8_without 0 = .ok (.aload_n 0, 1) := by decide +kernel
theorem dX8_without_1 : decode cX8_without 1 = .ok (.iload_n 1, 1) := by decide +kernel
theorem dX8_without_2 : decode cX8_without 2 = .ok (.iload_n 2, 1) := by decide +kernel
theorem dX8_without_3 : decode cX8_without 3 = .ok (.invokevirtual 104, 3) := by decide +kernel
theorem dX8_without_6 : decode cX8_without 6 = .ok (.ifCond .ne 5, 3) := by decide +kernel
theorem dX8_without_9 : decode cX8_without 9 = .ok (.iconst (-1), 1) := by decide +kernel
theorem dX8_without_10 : decode cX8_without 10 = .ok (.ireturn, 1) := by decide +kernel
theorem dX8_without_11 : decode cX8_without 11 = .ok (.aload_n 0, 1) := by decide +kernel
theorem dX8_without_12 : decode cX8_without 12 = .ok (.invokevirtual 84, 3) := by decide +kernel
theorem dX8_without_15 : decode cX8_without 15 = .ok (.aload_n 0, 1) := by decide +kernel
theorem dX8_without_16 : decode cX8_without 16 = .ok (.iload_n 1, 1) := by decide +kernel
theorem dX8_without_17 : decode cX8_without 17 = .ok (.iload_n 2, 1) := by decide +kernel
theorem dX8_without_18 : decode cX8_without 18 = .ok (.invokevirtual 108, 3) := by decide +kernel
theorem dX8_without_21 : decode cX8_without 21 = .ok (.aload_n 0, 1) := by decide +kernel
theorem dX8_without_22 : decode cX8_without 22 = .ok (.iload_n 1, 1) := by decide +kernel
theorem dX8_without_23 : decode cX8_without 23 = .ok (.invokevirtual 73, 3) := by decide +kernel
theorem dX8_without_26 : decode cX8_without 26 = .ok (.ireturn, 1) := by decide +kernel
theorem dX8_becomes_0 : decode cX8_becomes 0 = .ok (.aload_n 0, 1) := by decide +kernel
theorem dX8_becomes_1 : decode cX8_becomes 1 = .ok (.invokevirtual 84, 3) := by decide +kernel
theorem dX8_becomes_4 : decode cX8_becomes 4 = .ok (.aload_n 0, 1) := by decide +kernel
theorem dX8_becomes_5 : decode cX8_becomes 5 = .ok (.getfield 13, 3) := by decide +kernel
theorem dX8_becomes_8 : decode cX8_becomes 8 = .ok (.iload_n 1, 1) := by decide +kernel
theorem dX8_becomes_9 : decode cX8_becomes 9 = .ok (.iaload, 1) := by decide +kernel
theorem dX8_becomes_10 : decode cX8_becomes 10 = .ok (.istore_n 3, 1) := by decide +kernel
theorem dX8_becomes_11 : decode cX8_becomes 11 = .ok (.aload_n 0, 1) := by decide +kernel
theorem dX8_becomes_12 : decode cX8_becomes 12 = .ok (.getfield 13, 3) := by decide +kernel
theorem dX8_becomes_15 : decode cX8_becomes 15 = .ok (.iload_n 1, 1) := by decide +kernel
theorem dX8_becomes_16 : decode cX8_becomes 16 = .ok (.iload_n 2, 1) := by decide +kernel
theorem dX8_becomes_17 : decode cX8_becomes 17 = .ok (.iastore, 1) := by decide +kernel
theorem dX8_becomes_18 : decode cX8_becomes 18 = .ok (.iload_n 3, 1) := by decide +kernel
theorem dX8_becomes_19 : decode cX8_becomes 19 = .ok (.ireturn, 1) := by decide +kernel
theorem dX8_cap_0 : decode cX8_cap 0 = .ok (.aload_n 0, 1) := by decide +kernel
theorem dX8_cap_1 : decode cX8_cap 1 = .ok (.iload_n 1, 1) := by decide +kernel
theorem dX8_cap_2 : decode cX8_cap 2 = .ok (.invokevirtual 90, 3) := by decide +kernel
theorem dX8_cap_5 : decode cX8_cap 5 = .ok (.ifCond .eq 36, 3) := by decide +kernel
theorem dX8_cap_8 : decode cX8_cap 8 = .ok (.iload_n 2, 1) := by decide +kernel
theorem dX8_cap_9 : decode cX8_cap 9 = .ok (.iconst 0, 1) := by decide +kernel
theorem dX8_cap_10 : decode cX8_cap 10 = .ok (.bipush 8, 2) := by decide +kernel
theorem dX8_cap_12 : decode cX8_cap 12 = .ok (.invokestatic 65, 3) := by decide +kernel
theorem dX8_cap_15 : decode cX8_cap 15 = .ok (.ifCond .eq 26, 3) := by decide +kernel
theorem dX8_cap_18 : decode cX8_cap 18 = .ok (.aload_n 0, 1) := by decide +kernel
theorem dX8_cap_19 : decode cX8_cap 19 = .ok (.iload_n 1, 1) := by decide +kernel
theorem dX8_cap_20 : decode cX8_cap 20 = .ok (.invokevirtual 69, 3) := by decide +kernel
theorem dX8_cap_23 : decode cX8_cap 23 = .ok (.iload_n 2, 1) := by decide +kernel
theorem dX8_cap_24 : decode cX8_cap 24 = .ok (.if_icmp .eq 17, 3) := by decide +kernel
theorem dX8_cap_27 : decode cX8_cap 27 = .ok (.aload_n 0, 1) := by decide +kernel
theorem dX8_cap_28 : decode cX8_cap 28 = .ok (.iconst 3, 1) := by decide +kernel
theorem dX8_cap_29 : decode cX8_cap 29 = .ok (.bipush 10, 2) := by decide +kernel
theorem dX8_cap_31 : decode cX8_cap 31 = .ok (.iload_n 1, 1) := by decide +kernel
theorem dX8_cap_32 : decode cX8_cap 32 = .ok (.imul, 1) := by decide +kernel
theorem dX8_cap_33 : decode cX8_cap 33 = .ok (.iadd, 1) := by decide +kernel
theorem dX8_cap_34 : decode cX8_cap 34 = .ok (.iload_n 2, 1) := by decide +kernel
theorem dX8_cap_35 : decode cX8_cap 35 = .ok (.invokevirtual 111, 3) := by decide +kernel
theorem dX8_cap_38 : decode cX8_cap 38 = .ok (.goto 4, 3) := by decide +kernel
theorem dX8_cap_41 : decode cX8_cap 41 = .ok (.iconst (-1), 1) := by decide +kernel
theorem dX8_cap_42 : decode cX8_cap 42 = .ok (.ireturn, 1) := by decide +kernel
theorem dX8_change_0 : decode cX8_change 0 = .ok (.aload_n 0, 1) := by decide +kernel
theorem dX8_change_1 : decode cX8_change 1 = .ok (.iload_n 1, 1) := by decide +kernel
theorem dX8_change_2 : decode cX8_change 2 = .ok (.iload_n 2, 1) := by decide +kernel
theorem dX8_change_3 : decode cX8_change 3 = .ok (.invokevirtual 104, 3) := by decide +kernel
theorem dX8_change_6 : decode cX8_change 6 = .ok (.ifCond .eq 20, 3) := by decide +kernel
theorem dX8_change_9 : decode cX8_change 9 = .ok (.iload_n 3, 1) := by decide +kernel
theorem dX8_change_10 : decode cX8_change 10 = .ok (.invokestatic 98, 3) := by decide +kernel
theorem dX8_change_13 : decode cX8_change 13 = .ok (.ifCond .eq 13, 3) := by decide +kernel
theorem dX8_change_16 : decode cX8_change 16 = .ok (.aload_n 0, 1) := by decide +kernel
theorem dX8_change_17 : decode cX8_change 17 = .ok (.iload_n 1, 1) := by decide +kernel
theorem dX8_change_18 : decode cX8_change 18 = .ok (.iload_n 2, 1) := by decide +kernel
theorem dX8_change_19 : decode cX8_change 19 = .ok (.invokevirtual 114, 3) := by decide +kernel
theorem dX8_change_22 : decode cX8_change 22 = .ok (.iload_n 3, 1) := by decide +kernel
theorem dX8_change_23 : decode cX8_change 23 = .ok (.if_icmp .ne 5, 3) := by decide +kernel
theorem dX8_change_26 : decode cX8_change 26 = .ok (.iconst (-1), 1) := by decide +kernel
theorem dX8_change_27 : decode cX8_change 27 = .ok (.ireturn, 1) := by decide +kernel
theorem dX8_change_28 : decode cX8_change 28 = .ok (.aload_n 0, 1) := by decide +kernel
theorem dX8_change_29 : decode cX8_change 29 = .ok (.invokevirtual 84, 3) := by decide +kernel
theorem dX8_change_32 : decode cX8_change 32 = .ok (.aload_n 0, 1) := by decide +kernel
theorem dX8_change_33 : decode cX8_change 33 = .ok (.iload_n 1, 1) := by decide +kernel
theorem dX8_change_34 : decode cX8_change 34 = .ok (.iload_n 2, 1) := by decide +kernel
theorem dX8_change_35 : decode cX8_change 35 = .ok (.invokevirtual 114, 3) := by decide +kernel
theorem dX8_change_38 : decode cX8_change 38 = .ok (.istore 4, 2) := by decide +kernel
theorem dX8_change_40 : decode cX8_change 40 = .ok (.aload_n 0, 1) := by decide +kernel
theorem dX8_change_41 : decode cX8_change 41 = .ok (.iload_n 1, 1) := by decide +kernel
theorem dX8_change_42 : decode cX8_change 42 = .ok (.iload_n 2, 1) := by decide +kernel
theorem dX8_change_43 : decode cX8_change 43 = .ok (.invokevirtual 108, 3) := by decide +kernel
theorem dX8_change_46 : decode cX8_change 46 = .ok (.aload_n 0, 1) := by decide +kernel
theorem dX8_change_47 : decode cX8_change 47 = .ok (.iload_n 1, 1) := by decide +kernel
theorem dX8_change_48 : decode cX8_change 48 = .ok (.iload_n 3, 1) := by decide +kernel
theorem dX8_change_49 : decode cX8_change 49 = .ok (.invokevirtual 101, 3) := by decide +kernel
theorem dX8_change_52 : decode cX8_change 52 = .ok (.iload 4, 2) := by decide +kernel
theorem dX8_change_54 : decode cX8_change 54 = .ok (.ireturn, 1) := by decide +kernel
theorem dX8_parts_0 : decode cX8_parts 0 = .ok (.aload_n 0, 1) := by decide +kernel
theorem dX8_parts_1 : decode cX8_parts 1 = .ok (.aload_n 0, 1) := by decide +kernel
theorem dX8_parts_2 : decode cX8_parts 2 = .ok (.iload_n 1, 1) := by decide +kernel
theorem dX8_parts_3 : decode cX8_parts 3 = .ok (.invokevirtual 69, 3) := by decide +kernel
theorem dX8_parts_6 : decode cX8_parts 6 = .ok (.invokevirtual 87, 3) := by decide +kernel
theorem dX8_parts_9 : decode cX8_parts 9 = .ok (.istore_n 3, 1) := by decide +kernel
theorem dX8_parts_10 : decode cX8_parts 10 = .ok (.aload_n 0, 1) := by decide +kernel
theorem dX8_parts_11 : decode cX8_parts 11 = .ok (.iload_n 1, 1) := by decide +kernel
theorem dX8_parts_12 : decode cX8_parts 12 = .ok (.invokevirtual 73, 3) := by decide +kernel
theorem dX8_parts_15 : decode cX8_parts 15 = .ok (.iload_n 2, 1) := by decide +kernel
theorem dX8_parts_16 : decode cX8_parts 16 = .ok (.isub, 1) := by decide +kernel
theorem dX8_parts_17 : decode cX8_parts 17 = .ok (.istore 4, 2) := by decide +kernel
theorem dX8_parts_19 : decode cX8_parts 19 = .ok (.iconst 0, 1) := by decide +kernel
theorem dX8_parts_20 : decode cX8_parts 20 = .ok (.istore 5, 2) := by decide +kernel
theorem dX8_parts_22 : decode cX8_parts 22 = .ok (.iload 5, 2) := by decide +kernel
theorem dX8_parts_24 : decode cX8_parts 24 = .ok (.iload_n 2, 1) := by decide +kernel
theorem dX8_parts_25 : decode cX8_parts 25 = .ok (.if_icmp .ge 24, 3) := by decide +kernel
theorem dX8_parts_28 : decode cX8_parts 28 = .ok (.aload_n 0, 1) := by decide +kernel
theorem dX8_parts_29 : decode cX8_parts 29 = .ok (.iload_n 3, 1) := by decide +kernel
theorem dX8_parts_30 : decode cX8_parts 30 = .ok (.aload_n 0, 1) := by decide +kernel
theorem dX8_parts_31 : decode cX8_parts 31 = .ok (.iload_n 1, 1) := by decide +kernel
theorem dX8_parts_32 : decode cX8_parts 32 = .ok (.iload 4, 2) := by decide +kernel
theorem dX8_parts_34 : decode cX8_parts 34 = .ok (.iload 5, 2) := by decide +kernel
theorem dX8_parts_36 : decode cX8_parts 36 = .ok (.iadd, 1) := by decide +kernel
theorem dX8_parts_37 : decode cX8_parts 37 = .ok (.invokevirtual 114, 3) := by decide +kernel
theorem dX8_parts_40 : decode cX8_parts 40 = .ok (.invokevirtual 101, 3) := by decide +kernel
theorem dX8_parts_43 : decode cX8_parts 43 = .ok (.iinc 5 1, 3) := by decide +kernel
theorem dX8_parts_46 : decode cX8_parts 46 = .ok (.goto (-24), 3) := by decide +kernel
theorem dX8_parts_49 : decode cX8_parts 49 = .ok (.aload_n 0, 1) := by decide +kernel
theorem dX8_parts_50 : decode cX8_parts 50 = .ok (.getfield 13, 3) := by decide +kernel
theorem dX8_parts_53 : decode cX8_parts 53 = .ok (.iconst 3, 1) := by decide +kernel
theorem dX8_parts_54 : decode cX8_parts 54 = .ok (.bipush 10, 2) := by decide +kernel
theorem dX8_parts_56 : decode cX8_parts 56 = .ok (.iload_n 1, 1) := by decide +kernel
theorem dX8_parts_57 : decode cX8_parts 57 = .ok (.imul, 1) := by decide +kernel
theorem dX8_parts_58 : decode cX8_parts 58 = .ok (.iadd, 1) := by decide +kernel
theorem dX8_parts_59 : decode cX8_parts 59 = .ok (.iconst 1, 1) := by decide +kernel
theorem dX8_parts_60 : decode cX8_parts 60 = .ok (.iadd, 1) := by decide +kernel
theorem dX8_parts_61 : decode cX8_parts 61 = .ok (.iload 4, 2) := by decide +kernel
theorem dX8_parts_63 : decode cX8_parts 63 = .ok (.iastore, 1) := by decide +kernel
theorem dX8_parts_64 : decode cX8_parts 64 = .ok (.iload_n 3, 1) := by decide +kernel
theorem dX8_parts_65 : decode cX8_parts 65 = .ok (.ireturn, 1) := by decide +kernel
theorem dX8_split_0 : decode cX8_split 0 = .ok (.aload_n 0, 1) := by decide +kernel
theorem dX8_split_1 : decode cX8_split 1 = .ok (.iload_n 1, 1) := by decide +kernel
theorem dX8_split_2 : decode cX8_split 2 = .ok (.invokevirtual 90, 3) := by decide +kernel
theorem dX8_split_5 : decode cX8_split 5 = .ok (.ifCond .eq 27, 3) := by decide +kernel
theorem dX8_split_8 : decode cX8_split 8 = .ok (.iload_n 2, 1) := by decide +kernel
theorem dX8_split_9 : decode cX8_split 9 = .ok (.iconst 1, 1) := by decide +kernel
theorem dX8_split_10 : decode cX8_split 10 = .ok (.aload_n 0, 1) := by decide +kernel
theorem dX8_split_11 : decode cX8_split 11 = .ok (.iload_n 1, 1) := by decide +kernel
theorem dX8_split_12 : decode cX8_split 12 = .ok (.invokevirtual 73, 3) := by decide +kernel
theorem dX8_split_15 : decode cX8_split 15 = .ok (.iconst 1, 1) := by decide +kernel
theorem dX8_split_16 : decode cX8_split 16 = .ok (.isub, 1) := by decide +kernel
theorem dX8_split_17 : decode cX8_split 17 = .ok (.invokestatic 65, 3) := by decide +kernel
theorem dX8_split_20 : decode cX8_split 20 = .ok (.ifCond .eq 12, 3) := by decide +kernel
theorem dX8_split_23 : decode cX8_split 23 = .ok (.aload_n 0, 1) := by decide +kernel
theorem dX8_split_24 : decode cX8_split 24 = .ok (.invokevirtual 61, 3) := by decide +kernel
theorem dX8_split_27 : decode cX8_split 27 = .ok (.bipush 8, 2) := by decide +kernel
theorem dX8_split_29 : decode cX8_split 29 = .ok (.if_icmp .ne 5, 3) := by decide +kernel
theorem dX8_split_32 : decode cX8_split 32 = .ok (.iconst (-1), 1) := by decide +kernel
theorem dX8_split_33 : decode cX8_split 33 = .ok (.ireturn, 1) := by decide +kernel
theorem dX8_split_34 : decode cX8_split 34 = .ok (.aload_n 0, 1) := by decide +kernel
theorem dX8_split_35 : decode cX8_split 35 = .ok (.invokevirtual 84, 3) := by decide +kernel
theorem dX8_split_38 : decode cX8_split 38 = .ok (.aload_n 0, 1) := by decide +kernel
theorem dX8_split_39 : decode cX8_split 39 = .ok (.iload_n 1, 1) := by decide +kernel
theorem dX8_split_40 : decode cX8_split 40 = .ok (.iload_n 2, 1) := by decide +kernel
theorem dX8_split_41 : decode cX8_split 41 = .ok (.invokevirtual 117, 3) := by decide +kernel
theorem dX8_split_44 : decode cX8_split 44 = .ok (.ireturn, 1) := by decide +kernel
theorem dX8_move_0 : decode cX8_move 0 = .ok (.aload_n 0, 1) := by decide +kernel
theorem dX8_move_1 : decode cX8_move 1 = .ok (.iload_n 1, 1) := by decide +kernel
theorem dX8_move_2 : decode cX8_move 2 = .ok (.invokevirtual 90, 3) := by decide +kernel
theorem dX8_move_5 : decode cX8_move 5 = .ok (.ifCond .eq 16, 3) := by decide +kernel
theorem dX8_move_8 : decode cX8_move 8 = .ok (.aload_n 0, 1) := by decide +kernel
theorem dX8_move_9 : decode cX8_move 9 = .ok (.iload_n 2, 1) := by decide +kernel
theorem dX8_move_10 : decode cX8_move 10 = .ok (.invokevirtual 90, 3) := by decide +kernel
theorem dX8_move_13 : decode cX8_move 13 = .ok (.ifCond .eq 8, 3) := by decide +kernel
theorem dX8_move_16 : decode cX8_move 16 = .ok (.iload_n 1, 1) := by decide +kernel
theorem dX8_move_17 : decode cX8_move 17 = .ok (.iload_n 2, 1) := by decide +kernel
theorem dX8_move_18 : decode cX8_move 18 = .ok (.if_icmp .ne 5, 3) := by decide +kernel
theorem dX8_move_21 : decode cX8_move 21 = .ok (.iconst 0, 1) := by decide +kernel
theorem dX8_move_22 : decode cX8_move 22 = .ok (.ireturn, 1) := by decide +kernel
theorem dX8_move_23 : decode cX8_move 23 = .ok (.aload_n 0, 1) := by decide +kernel
theorem dX8_move_24 : decode cX8_move 24 = .ok (.invokevirtual 84, 3) := by decide +kernel
theorem dX8_move_27 : decode cX8_move 27 = .ok (.aload_n 0, 1) := by decide +kernel
theorem dX8_move_28 : decode cX8_move 28 = .ok (.invokevirtual 61, 3) := by decide +kernel
theorem dX8_move_31 : decode cX8_move 31 = .ok (.istore_n 3, 1) := by decide +kernel
theorem dX8_move_32 : decode cX8_move 32 = .ok (.aload_n 0, 1) := by decide +kernel
theorem dX8_move_33 : decode cX8_move 33 = .ok (.iload_n 1, 1) := by decide +kernel
theorem dX8_move_34 : decode cX8_move 34 = .ok (.iload_n 3, 1) := by decide +kernel
theorem dX8_move_35 : decode cX8_move 35 = .ok (.invokevirtual 80, 3) := by decide +kernel
theorem dX8_move_38 : decode cX8_move 38 = .ok (.iload_n 1, 1) := by decide +kernel
theorem dX8_move_39 : decode cX8_move 39 = .ok (.istore 4, 2) := by decide +kernel
theorem dX8_move_41 : decode cX8_move 41 = .ok (.iload 4, 2) := by decide +kernel
theorem dX8_move_43 : decode cX8_move 43 = .ok (.iload_n 2, 1) := by decide +kernel
theorem dX8_move_44 : decode cX8_move 44 = .ok (.if_icmp .ge 19, 3) := by decide +kernel
theorem dX8_move_47 : decode cX8_move 47 = .ok (.aload_n 0, 1) := by decide +kernel
theorem dX8_move_48 : decode cX8_move 48 = .ok (.iload 4, 2) := by decide +kernel
theorem dX8_move_50 : decode cX8_move 50 = .ok (.iconst 1, 1) := by decide +kernel
theorem dX8_move_51 : decode cX8_move 51 = .ok (.iadd, 1) := by decide +kernel
theorem dX8_move_52 : decode cX8_move 52 = .ok (.iload 4, 2) := by decide +kernel
theorem dX8_move_54 : decode cX8_move 54 = .ok (.invokevirtual 80, 3) := by decide +kernel
theorem dX8_move_57 : decode cX8_move 57 = .ok (.iinc 4 1, 3) := by decide +kernel
theorem dX8_move_60 : decode cX8_move 60 = .ok (.goto (-19), 3) := by decide +kernel
theorem dX8_move_63 : decode cX8_move 63 = .ok (.iload_n 1, 1) := by decide +kernel
theorem dX8_move_64 : decode cX8_move 64 = .ok (.istore 4, 2) := by decide +kernel
theorem dX8_move_66 : decode cX8_move 66 = .ok (.iload 4, 2) := by decide +kernel
theorem dX8_move_68 : decode cX8_move 68 = .ok (.iload_n 2, 1) := by decide +kernel
theorem dX8_move_69 : decode cX8_move 69 = .ok (.if_icmp .le 19, 3) := by decide +kernel
theorem dX8_move_72 : decode cX8_move 72 = .ok (.aload_n 0, 1) := by decide +kernel
theorem dX8_move_73 : decode cX8_move 73 = .ok (.iload 4, 2) := by decide +kernel
theorem dX8_move_75 : decode cX8_move 75 = .ok (.iconst 1, 1) := by decide +kernel
theorem dX8_move_76 : decode cX8_move 76 = .ok (.isub, 1) := by decide +kernel
theorem dX8_move_77 : decode cX8_move 77 = .ok (.iload 4, 2) := by decide +kernel
theorem dX8_move_79 : decode cX8_move 79 = .ok (.invokevirtual 80, 3) := by decide +kernel
theorem dX8_move_82 : decode cX8_move 82 = .ok (.iinc 4 (-1), 3) := by decide +kernel
theorem dX8_move_85 : decode cX8_move 85 = .ok (.goto (-19), 3) := by decide +kernel
theorem dX8_move_88 : decode cX8_move 88 = .ok (.aload_n 0, 1) := by decide +kernel
theorem dX8_move_89 : decode cX8_move 89 = .ok (.iload_n 3, 1) := by decide +kernel
theorem dX8_move_90 : decode cX8_move 90 = .ok (.iload_n 2, 1) := by decide +kernel
theorem dX8_move_91 : decode cX8_move 91 = .ok (.invokevirtual 80, 3) := by decide +kernel
theorem dX8_move_94 : decode cX8_move 94 = .ok (.iconst 1, 1) := by decide +kernel
theorem dX8_move_95 : decode cX8_move 95 = .ok (.ireturn, 1) := by decide +kernel
theorem dX8_copy_0 : decode cX8_copy 0 = .ok (.aload_n 0, 1) := by decide +kernel
theorem dX8_copy_1 : decode cX8_copy 1 = .ok (.iload_n 1, 1) := by decide +kernel
theorem dX8_copy_2 : decode cX8_copy 2 = .ok (.invokevirtual 90, 3) := by decide +kernel
theorem dX8_copy_5 : decode cX8_copy 5 = .ok (.ifCond .eq 12, 3) := by decide +kernel
theorem dX8_copy_8 : decode cX8_copy 8 = .ok (.aload_n 0, 1) := by decide +kernel
theorem dX8_copy_9 : decode cX8_copy 9 = .ok (.invokevirtual 61, 3) := by decide +kernel
theorem dX8_copy_12 : decode cX8_copy 12 = .ok (.bipush 8, 2) := by decide +kernel
theorem dX8_copy_14 : decode cX8_copy 14 = .ok (.if_icmp .ne 5, 3) := by decide +kernel
theorem dX8_copy_17 : decode cX8_copy 17 = .ok (.iconst (-1), 1) := by decide +kernel
theorem dX8_copy_18 : decode cX8_copy 18 = .ok (.ireturn, 1) := by decide +kernel
theorem dX8_copy_19 : decode cX8_copy 19 = .ok (.aload_n 0, 1) := by decide +kernel
theorem dX8_copy_20 : decode cX8_copy 20 = .ok (.invokevirtual 84, 3) := by decide +kernel
theorem dX8_copy_23 : decode cX8_copy 23 = .ok (.aload_n 0, 1) := by decide +kernel
theorem dX8_copy_24 : decode cX8_copy 24 = .ok (.iload_n 1, 1) := by decide +kernel
theorem dX8_copy_25 : decode cX8_copy 25 = .ok (.aload_n 0, 1) := by decide +kernel
theorem dX8_copy_26 : decode cX8_copy 26 = .ok (.invokevirtual 61, 3) := by decide +kernel
theorem dX8_copy_29 : decode cX8_copy 29 = .ok (.invokevirtual 80, 3) := by decide +kernel
theorem dX8_copy_32 : decode cX8_copy 32 = .ok (.aload_n 0, 1) := by decide +kernel
theorem dX8_copy_33 : decode cX8_copy 33 = .ok (.getfield 13, 3) := by decide +kernel
theorem dX8_copy_36 : decode cX8_copy 36 = .ok (.iconst 2, 1) := by decide +kernel
theorem dX8_copy_37 : decode cX8_copy 37 = .ok (.dup2, 1) := by decide +kernel
theorem dX8_copy_38 : decode cX8_copy 38 = .ok (.iaload, 1) := by decide +kernel
theorem dX8_copy_39 : decode cX8_copy 39 = .ok (.iconst 1, 1) := by decide +kernel
theorem dX8_copy_40 : decode cX8_copy 40 = .ok (.iadd, 1) := by decide +kernel
theorem dX8_copy_41 : decode cX8_copy 41 = .ok (.iastore, 1) := by decide +kernel
theorem dX8_copy_42 : decode cX8_copy 42 = .ok (.aload_n 0, 1) := by decide +kernel
theorem dX8_copy_43 : decode cX8_copy 43 = .ok (.invokevirtual 61, 3) := by decide +kernel
theorem dX8_copy_46 : decode cX8_copy 46 = .ok (.iconst 1, 1) := by decide +kernel
theorem dX8_copy_47 : decode cX8_copy 47 = .ok (.isub, 1) := by decide +kernel
theorem dX8_copy_48 : decode cX8_copy 48 = .ok (.ireturn, 1) := by decide +kernel
theorem dX8_clear_0 : decode cX8_clear 0 = .ok (.aload_n 0, 1) := by decide +kernel
theorem dX8_clear_1 : decode cX8_clear 1 = .ok (.iload_n 1, 1) := by decide +kernel
theorem dX8_clear_2 : decode cX8_clear 2 = .ok (.invokevirtual 90, 3) := by decide +kernel
theorem dX8_clear_5 : decode cX8_clear 5 = .ok (.ifCond .eq 11, 3) := by decide +kernel
theorem dX8_clear_8 : decode cX8_clear 8 = .ok (.aload_n 0, 1) := by decide +kernel
theorem dX8_clear_9 : decode cX8_clear 9 = .ok (.iload_n 1, 1) := by decide +kernel
theorem dX8_clear_10 : decode cX8_clear 10 = .ok (.invokevirtual 73, 3) := by decide +kernel
theorem dX8_clear_13 : decode cX8_clear 13 = .ok (.ifCond .ne 5, 3) := by decide +kernel
theorem dX8_clear_16 : decode cX8_clear 16 = .ok (.iconst (-1), 1) := by decide +kernel
theorem dX8_clear_17 : decode cX8_clear 17 = .ok (.ireturn, 1) := by decide +kernel
theorem dX8_clear_18 : decode cX8_clear 18 = .ok (.aload_n 0, 1) := by decide +kernel
theorem dX8_clear_19 : decode cX8_clear 19 = .ok (.iconst 3, 1) := by decide +kernel
theorem dX8_clear_20 : decode cX8_clear 20 = .ok (.bipush 10, 2) := by decide +kernel
theorem dX8_clear_22 : decode cX8_clear 22 = .ok (.iload_n 1, 1) := by decide +kernel
theorem dX8_clear_23 : decode cX8_clear 23 = .ok (.imul, 1) := by decide +kernel
theorem dX8_clear_24 : decode cX8_clear 24 = .ok (.iadd, 1) := by decide +kernel
theorem dX8_clear_25 : decode cX8_clear 25 = .ok (.iconst 1, 1) := by decide +kernel
theorem dX8_clear_26 : decode cX8_clear 26 = .ok (.iadd, 1) := by decide +kernel
theorem dX8_clear_27 : decode cX8_clear 27 = .ok (.iconst 0, 1) := by decide +kernel
theorem dX8_clear_28 : decode cX8_clear 28 = .ok (.invokevirtual 111, 3) := by decide +kernel
theorem dX8_clear_31 : decode cX8_clear 31 = .ok (.ireturn, 1) := by decide +kernel
theorem dX8_held_0 : decode cX8_held 0 = .ok (.iload_n 0, 1) := by decide +kernel
theorem dX8_held_1 : decode cX8_held 1 = .ok (.ifCond .ge 7, 3) := by decide +kernel
theorem dX8_held_4 : decode cX8_held 4 = .ok (.iconst 0, 1) := by decide +kernel
theorem dX8_held_5 : decode cX8_held 5 = .ok (.goto 15, 3) := by decide +kernel
theorem dX8_held_8 : decode cX8_held 8 = .ok (.iload_n 0, 1) := by decide +kernel
theorem dX8_held_9 : decode cX8_held 9 = .ok (.bipush 99, 2) := by decide +kernel
theorem dX8_held_11 : decode cX8_held 11 = .ok (.if_icmp .le 8, 3) := by decide +kernel
theorem dX8_held_14 : decode cX8_held 14 = .ok (.bipush 99, 2) := by decide +kernel
theorem dX8_held_16 : decode cX8_held 16 = .ok (.goto 4, 3) := by decide +kernel
theorem dX8_held_19 : decode cX8_held 19 = .ok (.iload_n 0, 1) := by decide +kernel
theorem dX8_held_20 : decode cX8_held 20 = .ok (.ireturn, 1) := by decide +kernel
theorem dX8_shades_0 : decode cX8_shades 0 = .ok (.iconst 0, 1) := by decide +kernel
theorem dX8_shades_1 : decode cX8_shades 1 = .ok (.istore_n 3, 1) := by decide +kernel
theorem dX8_shades_2 : decode cX8_shades 2 = .ok (.iconst 0, 1) := by decide +kernel
theorem dX8_shades_3 : decode cX8_shades 3 = .ok (.istore 4, 2) := by decide +kernel
theorem dX8_shades_5 : decode cX8_shades 5 = .ok (.iload 4, 2) := by decide +kernel
theorem dX8_shades_7 : decode cX8_shades 7 = .ok (.aload_n 0, 1) := by decide +kernel
theorem dX8_shades_8 : decode cX8_shades 8 = .ok (.iload_n 1, 1) := by decide +kernel
theorem dX8_shades_9 : decode cX8_shades 9 = .ok (.invokevirtual 73, 3) := by decide +kernel
theorem dX8_shades_12 : decode cX8_shades 12 = .ok (.if_icmp .ge 56, 3) := by decide +kernel
theorem dX8_shades_15 : decode cX8_shades 15 = .ok (.aload_n 0, 1) := by decide +kernel
theorem dX8_shades_16 : decode cX8_shades 16 = .ok (.iload_n 1, 1) := by decide +kernel
theorem dX8_shades_17 : decode cX8_shades 17 = .ok (.iload 4, 2) := by decide +kernel
theorem dX8_shades_19 : decode cX8_shades 19 = .ok (.invokevirtual 114, 3) := by decide +kernel
theorem dX8_shades_22 : decode cX8_shades 22 = .ok (.iload_n 2, 1) := by decide +kernel
theorem dX8_shades_23 : decode cX8_shades 23 = .ok (.iadd, 1) := by decide +kernel
theorem dX8_shades_24 : decode cX8_shades 24 = .ok (.invokestatic 120, 3) := by decide +kernel
theorem dX8_shades_27 : decode cX8_shades 27 = .ok (.istore 5, 2) := by decide +kernel
theorem dX8_shades_29 : decode cX8_shades 29 = .ok (.iload 5, 2) := by decide +kernel
theorem dX8_shades_31 : decode cX8_shades 31 = .ok (.aload_n 0, 1) := by decide +kernel
theorem dX8_shades_32 : decode cX8_shades 32 = .ok (.iload_n 1, 1) := by decide +kernel
theorem dX8_shades_33 : decode cX8_shades 33 = .ok (.iload 4, 2) := by decide +kernel
theorem dX8_shades_35 : decode cX8_shades 35 = .ok (.invokevirtual 114, 3) := by decide +kernel
theorem dX8_shades_38 : decode cX8_shades 38 = .ok (.if_icmp .eq 6, 3) := by decide +kernel
theorem dX8_shades_41 : decode cX8_shades 41 = .ok (.iinc 3 1, 3) := by decide +kernel
theorem dX8_shades_44 : decode cX8_shades 44 = .ok (.aload_n 0, 1) := by decide +kernel
theorem dX8_shades_45 : decode cX8_shades 45 = .ok (.getfield 13, 3) := by decide +kernel
theorem dX8_shades_48 : decode cX8_shades 48 = .ok (.iconst 3, 1) := by decide +kernel
theorem dX8_shades_49 : decode cX8_shades 49 = .ok (.bipush 10, 2) := by decide +kernel
theorem dX8_shades_51 : decode cX8_shades 51 = .ok (.iload_n 1, 1) := by decide +kernel
theorem dX8_shades_52 : decode cX8_shades 52 = .ok (.imul, 1) := by decide +kernel
theorem dX8_shades_53 : decode cX8_shades 53 = .ok (.iadd, 1) := by decide +kernel
theorem dX8_shades_54 : decode cX8_shades 54 = .ok (.iconst 2, 1) := by decide +kernel
theorem dX8_shades_55 : decode cX8_shades 55 = .ok (.iadd, 1) := by decide +kernel
theorem dX8_shades_56 : decode cX8_shades 56 = .ok (.iload 4, 2) := by decide +kernel
theorem dX8_shades_58 : decode cX8_shades 58 = .ok (.iadd, 1) := by decide +kernel
theorem dX8_shades_59 : decode cX8_shades 59 = .ok (.iload 5, 2) := by decide +kernel
theorem dX8_shades_61 : decode cX8_shades 61 = .ok (.iastore, 1) := by decide +kernel
theorem dX8_shades_62 : decode cX8_shades 62 = .ok (.iinc 4 1, 3) := by decide +kernel
theorem dX8_shades_65 : decode cX8_shades 65 = .ok (.goto (-60), 3) := by decide +kernel
theorem dX8_shades_68 : decode cX8_shades 68 = .ok (.iload_n 3, 1) := by decide +kernel
theorem dX8_shades_69 : decode cX8_shades 69 = .ok (.ireturn, 1) := by decide +kernel
theorem dX8_shade_0 : decode cX8_shade 0 = .ok (.aload_n 0, 1) := by decide +kernel
theorem dX8_shade_1 : decode cX8_shade 1 = .ok (.iload_n 1, 1) := by decide +kernel
theorem dX8_shade_2 : decode cX8_shade 2 = .ok (.invokevirtual 90, 3) := by decide +kernel
theorem dX8_shade_5 : decode cX8_shade 5 = .ok (.ifCond .eq 14, 3) := by decide +kernel
theorem dX8_shade_8 : decode cX8_shade 8 = .ok (.iload_n 2, 1) := by decide +kernel
theorem dX8_shade_9 : decode cX8_shade 9 = .ok (.bipush (-99), 2) := by decide +kernel
theorem dX8_shade_11 : decode cX8_shade 11 = .ok (.bipush 99, 2) := by decide +kernel
theorem dX8_shade_13 : decode cX8_shade 13 = .ok (.invokestatic 65, 3) := by decide +kernel
theorem dX8_shade_16 : decode cX8_shade 16 = .ok (.ifCond .ne 5, 3) := by decide +kernel
theorem dX8_shade_19 : decode cX8_shade 19 = .ok (.iconst (-1), 1) := by decide +kernel
theorem dX8_shade_20 : decode cX8_shade 20 = .ok (.ireturn, 1) := by decide +kernel
theorem dX8_shade_21 : decode cX8_shade 21 = .ok (.iconst 0, 1) := by decide +kernel
theorem dX8_shade_22 : decode cX8_shade 22 = .ok (.istore_n 3, 1) := by decide +kernel
theorem dX8_shade_23 : decode cX8_shade 23 = .ok (.iconst 0, 1) := by decide +kernel
theorem dX8_shade_24 : decode cX8_shade 24 = .ok (.istore 4, 2) := by decide +kernel
theorem dX8_shade_26 : decode cX8_shade 26 = .ok (.iload 4, 2) := by decide +kernel
theorem dX8_shade_28 : decode cX8_shade 28 = .ok (.aload_n 0, 1) := by decide +kernel
theorem dX8_shade_29 : decode cX8_shade 29 = .ok (.iload_n 1, 1) := by decide +kernel
theorem dX8_shade_30 : decode cX8_shade 30 = .ok (.invokevirtual 73, 3) := by decide +kernel
theorem dX8_shade_33 : decode cX8_shade 33 = .ok (.if_icmp .ge 34, 3) := by decide +kernel
theorem dX8_shade_36 : decode cX8_shade 36 = .ok (.aload_n 0, 1) := by decide +kernel
theorem dX8_shade_37 : decode cX8_shade 37 = .ok (.iload_n 1, 1) := by decide +kernel
theorem dX8_shade_38 : decode cX8_shade 38 = .ok (.iload 4, 2) := by decide +kernel
theorem dX8_shade_40 : decode cX8_shade 40 = .ok (.invokevirtual 114, 3) := by decide +kernel
theorem dX8_shade_43 : decode cX8_shade 43 = .ok (.iload_n 2, 1) := by decide +kernel
theorem dX8_shade_44 : decode cX8_shade 44 = .ok (.iadd, 1) := by decide +kernel
theorem dX8_shade_45 : decode cX8_shade 45 = .ok (.invokestatic 120, 3) := by decide +kernel
theorem dX8_shade_48 : decode cX8_shade 48 = .ok (.aload_n 0, 1) := by decide +kernel
theorem dX8_shade_49 : decode cX8_shade 49 = .ok (.iload_n 1, 1) := by decide +kernel
theorem dX8_shade_50 : decode cX8_shade 50 = .ok (.iload 4, 2) := by decide +kernel
theorem dX8_shade_52 : decode cX8_shade 52 = .ok (.invokevirtual 114, 3) := by decide +kernel
theorem dX8_shade_55 : decode cX8_shade 55 = .ok (.if_icmp .eq 6, 3) := by decide +kernel
theorem dX8_shade_58 : decode cX8_shade 58 = .ok (.iinc 3 1, 3) := by decide +kernel
theorem dX8_shade_61 : decode cX8_shade 61 = .ok (.iinc 4 1, 3) := by decide +kernel
theorem dX8_shade_64 : decode cX8_shade 64 = .ok (.goto (-38), 3) := by decide +kernel
theorem dX8_shade_67 : decode cX8_shade 67 = .ok (.iload_n 3, 1) := by decide +kernel
theorem dX8_shade_68 : decode cX8_shade 68 = .ok (.ifCond .ne 5, 3) := by decide +kernel
theorem dX8_shade_71 : decode cX8_shade 71 = .ok (.iconst (-1), 1) := by decide +kernel
theorem dX8_shade_72 : decode cX8_shade 72 = .ok (.ireturn, 1) := by decide +kernel
theorem dX8_shade_73 : decode cX8_shade 73 = .ok (.aload_n 0, 1) := by decide +kernel
theorem dX8_shade_74 : decode cX8_shade 74 = .ok (.invokevirtual 84, 3) := by decide +kernel
theorem dX8_shade_77 : decode cX8_shade 77 = .ok (.aload_n 0, 1) := by decide +kernel
theorem dX8_shade_78 : decode cX8_shade 78 = .ok (.iload_n 1, 1) := by decide +kernel
theorem dX8_shade_79 : decode cX8_shade 79 = .ok (.iload_n 2, 1) := by decide +kernel
theorem dX8_shade_80 : decode cX8_shade 80 = .ok (.invokevirtual 123, 3) := by decide +kernel
theorem dX8_shade_83 : decode cX8_shade 83 = .ok (.ireturn, 1) := by decide +kernel
theorem dX8_swap_0 : decode cX8_swap 0 = .ok (.aload_n 0, 1) := by decide +kernel
theorem dX8_swap_1 : decode cX8_swap 1 = .ok (.iload_n 1, 1) := by decide +kernel
theorem dX8_swap_2 : decode cX8_swap 2 = .ok (.invokevirtual 90, 3) := by decide +kernel
theorem dX8_swap_5 : decode cX8_swap 5 = .ok (.ifCond .eq 16, 3) := by decide +kernel
theorem dX8_swap_8 : decode cX8_swap 8 = .ok (.aload_n 0, 1) := by decide +kernel
theorem dX8_swap_9 : decode cX8_swap 9 = .ok (.iload_n 2, 1) := by decide +kernel
theorem dX8_swap_10 : decode cX8_swap 10 = .ok (.invokevirtual 90, 3) := by decide +kernel
theorem dX8_swap_13 : decode cX8_swap 13 = .ok (.ifCond .eq 8, 3) := by decide +kernel
theorem dX8_swap_16 : decode cX8_swap 16 = .ok (.iload_n 1, 1) := by decide +kernel
theorem dX8_swap_17 : decode cX8_swap 17 = .ok (.iload_n 2, 1) := by decide +kernel
theorem dX8_swap_18 : decode cX8_swap 18 = .ok (.if_icmp .ne 5, 3) := by decide +kernel
theorem dX8_swap_21 : decode cX8_swap 21 = .ok (.iconst 0, 1) := by decide +kernel
theorem dX8_swap_22 : decode cX8_swap 22 = .ok (.ireturn, 1) := by decide +kernel
theorem dX8_swap_23 : decode cX8_swap 23 = .ok (.aload_n 0, 1) := by decide +kernel
theorem dX8_swap_24 : decode cX8_swap 24 = .ok (.invokevirtual 84, 3) := by decide +kernel
theorem dX8_swap_27 : decode cX8_swap 27 = .ok (.aload_n 0, 1) := by decide +kernel
theorem dX8_swap_28 : decode cX8_swap 28 = .ok (.invokevirtual 61, 3) := by decide +kernel
theorem dX8_swap_31 : decode cX8_swap 31 = .ok (.istore_n 3, 1) := by decide +kernel
theorem dX8_swap_32 : decode cX8_swap 32 = .ok (.aload_n 0, 1) := by decide +kernel
theorem dX8_swap_33 : decode cX8_swap 33 = .ok (.iload_n 1, 1) := by decide +kernel
theorem dX8_swap_34 : decode cX8_swap 34 = .ok (.iload_n 3, 1) := by decide +kernel
theorem dX8_swap_35 : decode cX8_swap 35 = .ok (.invokevirtual 80, 3) := by decide +kernel
theorem dX8_swap_38 : decode cX8_swap 38 = .ok (.aload_n 0, 1) := by decide +kernel
theorem dX8_swap_39 : decode cX8_swap 39 = .ok (.iload_n 2, 1) := by decide +kernel
theorem dX8_swap_40 : decode cX8_swap 40 = .ok (.iload_n 1, 1) := by decide +kernel
theorem dX8_swap_41 : decode cX8_swap 41 = .ok (.invokevirtual 80, 3) := by decide +kernel
theorem dX8_swap_44 : decode cX8_swap 44 = .ok (.aload_n 0, 1) := by decide +kernel
theorem dX8_swap_45 : decode cX8_swap 45 = .ok (.iload_n 3, 1) := by decide +kernel
theorem dX8_swap_46 : decode cX8_swap 46 = .ok (.iload_n 2, 1) := by decide +kernel
theorem dX8_swap_47 : decode cX8_swap 47 = .ok (.invokevirtual 80, 3) := by decide +kernel
theorem dX8_swap_50 : decode cX8_swap 50 = .ok (.iconst 1, 1) := by decide +kernel
theorem dX8_swap_51 : decode cX8_swap 51 = .ok (.ireturn, 1) := by decide +kernel
theorem dX8_supply_0 : decode cX8_supply 0 = .ok (.iload_n 1, 1) := by decide +kernel
theorem dX8_supply_1 : decode cX8_supply 1 = .ok (.iconst 1, 1) := by decide +kernel
theorem dX8_supply_2 : decode cX8_supply 2 = .ok (.bipush 30, 2) := by decide +kernel
theorem dX8_supply_4 : decode cX8_supply 4 = .ok (.invokestatic 65, 3) := by decide +kernel
theorem dX8_supply_7 : decode cX8_supply 7 = .ok (.ifCond .eq 22, 3) := by decide +kernel
theorem dX8_supply_10 : decode cX8_supply 10 = .ok (.iload_n 1, 1) := by decide +kernel
theorem dX8_supply_11 : decode cX8_supply 11 = .ok (.aload_n 0, 1) := by decide +kernel
theorem dX8_supply_12 : decode cX8_supply 12 = .ok (.getfield 13, 3) := by decide +kernel
theorem dX8_supply_15 : decode cX8_supply 15 = .ok (.iconst 0, 1) := by decide +kernel
theorem dX8_supply_16 : decode cX8_supply 16 = .ok (.iaload, 1) := by decide +kernel
theorem dX8_supply_17 : decode cX8_supply 17 = .ok (.if_icmp .eq 12, 3) := by decide +kernel
theorem dX8_supply_20 : decode cX8_supply 20 = .ok (.aload_n 0, 1) := by decide +kernel
theorem dX8_supply_21 : decode cX8_supply 21 = .ok (.iconst 0, 1) := by decide +kernel
theorem dX8_supply_22 : decode cX8_supply 22 = .ok (.iload_n 1, 1) := by decide +kernel
theorem dX8_supply_23 : decode cX8_supply 23 = .ok (.invokevirtual 111, 3) := by decide +kernel
theorem dX8_supply_26 : decode cX8_supply 26 = .ok (.goto 4, 3) := by decide +kernel
theorem dX8_supply_29 : decode cX8_supply 29 = .ok (.iconst (-1), 1) := by decide +kernel
theorem dX8_supply_30 : decode cX8_supply 30 = .ok (.ireturn, 1) := by decide +kernel
theorem dX8_reserve_0 : decode cX8_reserve 0 = .ok (.iload_n 1, 1) := by decide +kernel
theorem dX8_reserve_1 : decode cX8_reserve 1 = .ok (.invokestatic 98, 3) := by decide +kernel
theorem dX8_reserve_4 : decode cX8_reserve 4 = .ok (.ifCond .eq 22, 3) := by decide +kernel
theorem dX8_reserve_7 : decode cX8_reserve 7 = .ok (.iload_n 1, 1) := by decide +kernel
theorem dX8_reserve_8 : decode cX8_reserve 8 = .ok (.aload_n 0, 1) := by decide +kernel
theorem dX8_reserve_9 : decode cX8_reserve 9 = .ok (.getfield 13, 3) := by decide +kernel
theorem dX8_reserve_12 : decode cX8_reserve 12 = .ok (.iconst 1, 1) := by decide +kernel
theorem dX8_reserve_13 : decode cX8_reserve 13 = .ok (.iaload, 1) := by decide +kernel
theorem dX8_reserve_14 : decode cX8_reserve 14 = .ok (.if_icmp .eq 12, 3) := by decide +kernel
theorem dX8_reserve_17 : decode cX8_reserve 17 = .ok (.aload_n 0, 1) := by decide +kernel
theorem dX8_reserve_18 : decode cX8_reserve 18 = .ok (.iconst 1, 1) := by decide +kernel
theorem dX8_reserve_19 : decode cX8_reserve 19 = .ok (.iload_n 1, 1) := by decide +kernel
theorem dX8_reserve_20 : decode cX8_reserve 20 = .ok (.invokevirtual 111, 3) := by decide +kernel
theorem dX8_reserve_23 : decode cX8_reserve 23 = .ok (.goto 4, 3) := by decide +kernel
theorem dX8_reserve_26 : decode cX8_reserve 26 = .ok (.iconst (-1), 1) := by decide +kernel
theorem dX8_reserve_27 : decode cX8_reserve 27 = .ok (.ireturn, 1) := by decide +kernel
theorem dX8_undo_0 : decode cX8_undo 0 = .ok (.aload_n 0, 1) := by decide +kernel
theorem dX8_undo_1 : decode cX8_undo 1 = .ok (.getfield 58, 3) := by decide +kernel
theorem dX8_undo_4 : decode cX8_undo 4 = .ok (.ifCond .ne 5, 3) := by decide +kernel
theorem dX8_undo_7 : decode cX8_undo 7 = .ok (.iconst (-1), 1) := by decide +kernel
theorem dX8_undo_8 : decode cX8_undo 8 = .ok (.ireturn, 1) := by decide +kernel
theorem dX8_undo_9 : decode cX8_undo 9 = .ok (.aload_n 0, 1) := by decide +kernel
theorem dX8_undo_10 : decode cX8_undo 10 = .ok (.dup, 1) := by decide +kernel
theorem dX8_undo_11 : decode cX8_undo 11 = .ok (.getfield 58, 3) := by decide +kernel
theorem dX8_undo_14 : decode cX8_undo 14 = .ok (.iconst 1, 1) := by decide +kernel
theorem dX8_undo_15 : decode cX8_undo 15 = .ok (.isub, 1) := by decide +kernel
theorem dX8_undo_16 : decode cX8_undo 16 = .ok (.putfield 58, 3) := by decide +kernel
theorem dX8_undo_19 : decode cX8_undo 19 = .ok (.iconst 0, 1) := by decide +kernel
theorem dX8_undo_20 : decode cX8_undo 20 = .ok (.istore_n 1, 1) := by decide +kernel
theorem dX8_undo_21 : decode cX8_undo 21 = .ok (.iload_n 1, 1) := by decide +kernel
theorem dX8_undo_22 : decode cX8_undo 22 = .ok (.bipush 126, 2) := by decide +kernel
theorem dX8_undo_24 : decode cX8_undo 24 = .ok (.if_icmp .ge 29, 3) := by decide +kernel
theorem dX8_undo_27 : decode cX8_undo 27 = .ok (.aload_n 0, 1) := by decide +kernel
theorem dX8_undo_28 : decode cX8_undo 28 = .ok (.getfield 13, 3) := by decide +kernel
theorem dX8_undo_31 : decode cX8_undo 31 = .ok (.iload_n 1, 1) := by decide +kernel
theorem dX8_undo_32 : decode cX8_undo 32 = .ok (.aload_n 0, 1) := by decide +kernel
theorem dX8_undo_33 : decode cX8_undo 33 = .ok (.getfield 23, 3) := by decide +kernel
theorem dX8_undo_36 : decode cX8_undo 36 = .ok (.bipush 126, 2) := by decide +kernel
theorem dX8_undo_38 : decode cX8_undo 38 = .ok (.aload_n 0, 1) := by decide +kernel
theorem dX8_undo_39 : decode cX8_undo 39 = .ok (.getfield 58, 3) := by decide +kernel
theorem dX8_undo_42 : decode cX8_undo 42 = .ok (.imul, 1) := by decide +kernel
theorem dX8_undo_43 : decode cX8_undo 43 = .ok (.iload_n 1, 1) := by decide +kernel
theorem dX8_undo_44 : decode cX8_undo 44 = .ok (.iadd, 1) := by decide +kernel
theorem dX8_undo_45 : decode cX8_undo 45 = .ok (.iaload, 1) := by decide +kernel
theorem dX8_undo_46 : decode cX8_undo 46 = .ok (.iastore, 1) := by decide +kernel
theorem dX8_undo_47 : decode cX8_undo 47 = .ok (.iinc 1 1, 3) := by decide +kernel
theorem dX8_undo_50 : decode cX8_undo 50 = .ok (.goto (-29), 3) := by decide +kernel
theorem dX8_undo_53 : decode cX8_undo 53 = .ok (.aload_n 0, 1) := by decide +kernel
theorem dX8_undo_54 : decode cX8_undo 54 = .ok (.getfield 58, 3) := by decide +kernel
theorem dX8_undo_57 : decode cX8_undo 57 = .ok (.ireturn, 1) := by decide +kernel
theorem dX8_aboveOf_0 : decode cX8_aboveOf 0 = .ok (.iconst 0, 1) := by decide +kernel
theorem dX8_aboveOf_1 : decode cX8_aboveOf 1 = .ok (.istore_n 3, 1) := by decide +kernel
theorem dX8_aboveOf_2 : decode cX8_aboveOf 2 = .ok (.iload_n 3, 1) := by decide +kernel
theorem dX8_aboveOf_3 : decode cX8_aboveOf 3 = .ok (.aload_n 0, 1) := by decide +kernel
theorem dX8_aboveOf_4 : decode cX8_aboveOf 4 = .ok (.iload_n 1, 1) := by decide +kernel
theorem dX8_aboveOf_5 : decode cX8_aboveOf 5 = .ok (.invokevirtual 126, 3) := by decide +kernel
theorem dX8_aboveOf_8 : decode cX8_aboveOf 8 = .ok (.if_icmp .ge 19, 3) := by decide +kernel
theorem dX8_aboveOf_11 : decode cX8_aboveOf 11 = .ok (.aload_n 0, 1) := by decide +kernel
theorem dX8_aboveOf_12 : decode cX8_aboveOf 12 = .ok (.iload_n 1, 1) := by decide +kernel
theorem dX8_aboveOf_13 : decode cX8_aboveOf 13 = .ok (.iload_n 3, 1) := by decide +kernel
theorem dX8_aboveOf_14 : decode cX8_aboveOf 14 = .ok (.invokevirtual 114, 3) := by decide +kernel
theorem dX8_aboveOf_17 : decode cX8_aboveOf 17 = .ok (.iload_n 2, 1) := by decide +kernel
theorem dX8_aboveOf_18 : decode cX8_aboveOf 18 = .ok (.if_icmp .le 9, 3) := by decide +kernel
theorem dX8_aboveOf_21 : decode cX8_aboveOf 21 = .ok (.iinc 3 1, 3) := by decide +kernel
theorem dX8_aboveOf_24 : decode cX8_aboveOf 24 = .ok (.goto (-22), 3) := by decide +kernel
theorem dX8_aboveOf_27 : decode cX8_aboveOf 27 = .ok (.iload_n 3, 1) := by decide +kernel
theorem dX8_aboveOf_28 : decode cX8_aboveOf 28 = .ok (.ireturn, 1) := by decide +kernel
theorem dX8_wantedAt_0 : decode cX8_wantedAt 0 = .ok (.iconst 0, 1) := by decide +kernel
theorem dX8_wantedAt_1 : decode cX8_wantedAt 1 = .ok (.istore_n 2, 1) := by decide +kernel
theorem dX8_wantedAt_2 : decode cX8_wantedAt 2 = .ok (.iconst 0, 1) := by decide +kernel
theorem dX8_wantedAt_3 : decode cX8_wantedAt 3 = .ok (.istore_n 3, 1) := by decide +kernel
theorem dX8_wantedAt_4 : decode cX8_wantedAt 4 = .ok (.iload_n 3, 1) := by decide +kernel
theorem dX8_wantedAt_5 : decode cX8_wantedAt 5 = .ok (.aload_n 0, 1) := by decide +kernel
theorem dX8_wantedAt_6 : decode cX8_wantedAt 6 = .ok (.invokevirtual 61, 3) := by decide +kernel
theorem dX8_wantedAt_9 : decode cX8_wantedAt 9 = .ok (.if_icmp .ge 18, 3) := by decide +kernel
theorem dX8_wantedAt_12 : decode cX8_wantedAt 12 = .ok (.iload_n 2, 1) := by decide +kernel
theorem dX8_wantedAt_13 : decode cX8_wantedAt 13 = .ok (.aload_n 0, 1) := by decide +kernel
theorem dX8_wantedAt_14 : decode cX8_wantedAt 14 = .ok (.iload_n 3, 1) := by decide +kernel
theorem dX8_wantedAt_15 : decode cX8_wantedAt 15 = .ok (.iload_n 1, 1) := by decide +kernel
theorem dX8_wantedAt_16 : decode cX8_wantedAt 16 = .ok (.invokevirtual 129, 3) := by decide +kernel
theorem dX8_wantedAt_19 : decode cX8_wantedAt 19 = .ok (.iadd, 1) := by decide +kernel
theorem dX8_wantedAt_20 : decode cX8_wantedAt 20 = .ok (.istore_n 2, 1) := by decide +kernel
theorem dX8_wantedAt_21 : decode cX8_wantedAt 21 = .ok (.iinc 3 1, 3) := by decide +kernel
theorem dX8_wantedAt_24 : decode cX8_wantedAt 24 = .ok (.goto (-20), 3) := by decide +kernel
theorem dX8_wantedAt_27 : decode cX8_wantedAt 27 = .ok (.iload_n 2, 1) := by decide +kernel
theorem dX8_wantedAt_28 : decode cX8_wantedAt 28 = .ok (.ireturn, 1) := by decide +kernel
theorem dX8_freeOf_0 : decode cX8_freeOf 0 = .ok (.aload_n 0, 1) := by decide +kernel
theorem dX8_freeOf_1 : decode cX8_freeOf 1 = .ok (.getfield 13, 3) := by decide +kernel
theorem dX8_freeOf_4 : decode cX8_freeOf 4 = .ok (.iconst 0, 1) := by decide +kernel
theorem dX8_freeOf_5 : decode cX8_freeOf 5 = .ok (.iaload, 1) := by decide +kernel
theorem dX8_freeOf_6 : decode cX8_freeOf 6 = .ok (.aload_n 0, 1) := by decide +kernel
theorem dX8_freeOf_7 : decode cX8_freeOf 7 = .ok (.iload_n 2, 1) := by decide +kernel
theorem dX8_freeOf_8 : decode cX8_freeOf 8 = .ok (.invokevirtual 132, 3) := by decide +kernel
theorem dX8_freeOf_11 : decode cX8_freeOf 11 = .ok (.isub, 1) := by decide +kernel
theorem dX8_freeOf_12 : decode cX8_freeOf 12 = .ok (.aload_n 0, 1) := by decide +kernel
theorem dX8_freeOf_13 : decode cX8_freeOf 13 = .ok (.iload_n 1, 1) := by decide +kernel
theorem dX8_freeOf_14 : decode cX8_freeOf 14 = .ok (.iload_n 2, 1) := by decide +kernel
theorem dX8_freeOf_15 : decode cX8_freeOf 15 = .ok (.invokevirtual 129, 3) := by decide +kernel
theorem dX8_freeOf_18 : decode cX8_freeOf 18 = .ok (.iadd, 1) := by decide +kernel
theorem dX8_freeOf_19 : decode cX8_freeOf 19 = .ok (.istore_n 3, 1) := by decide +kernel
theorem dX8_freeOf_20 : decode cX8_freeOf 20 = .ok (.iload_n 3, 1) := by decide +kernel
theorem dX8_freeOf_21 : decode cX8_freeOf 21 = .ok (.ifCond .ge 7, 3) := by decide +kernel
theorem dX8_freeOf_24 : decode cX8_freeOf 24 = .ok (.iconst 0, 1) := by decide +kernel
theorem dX8_freeOf_25 : decode cX8_freeOf 25 = .ok (.goto 4, 3) := by decide +kernel
theorem dX8_freeOf_28 : decode cX8_freeOf 28 = .ok (.iload_n 3, 1) := by decide +kernel
theorem dX8_freeOf_29 : decode cX8_freeOf 29 = .ok (.ireturn, 1) := by decide +kernel
theorem dX8_gets_0 : decode cX8_gets 0 = .ok (.aload_n 0, 1) := by decide +kernel
theorem dX8_gets_1 : decode cX8_gets 1 = .ok (.getfield 32, 3) := by decide +kernel
theorem dX8_gets_4 : decode cX8_gets 4 = .ok (.bipush 8, 2) := by decide +kernel
theorem dX8_gets_6 : decode cX8_gets 6 = .ok (.iload_n 1, 1) := by decide +kernel
theorem dX8_gets_7 : decode cX8_gets 7 = .ok (.imul, 1) := by decide +kernel
theorem dX8_gets_8 : decode cX8_gets 8 = .ok (.aload_n 0, 1) := by decide +kernel
theorem dX8_gets_9 : decode cX8_gets 9 = .ok (.getfield 26, 3) := by decide +kernel
theorem dX8_gets_12 : decode cX8_gets 12 = .ok (.iload_n 1, 1) := by decide +kernel
theorem dX8_gets_13 : decode cX8_gets 13 = .ok (.iaload, 1) := by decide +kernel
theorem dX8_gets_14 : decode cX8_gets 14 = .ok (.iadd, 1) := by decide +kernel
theorem dX8_gets_15 : decode cX8_gets 15 = .ok (.iload_n 2, 1) := by decide +kernel
theorem dX8_gets_16 : decode cX8_gets 16 = .ok (.iastore, 1) := by decide +kernel
theorem dX8_gets_17 : decode cX8_gets 17 = .ok (.aload_n 0, 1) := by decide +kernel
theorem dX8_gets_18 : decode cX8_gets 18 = .ok (.getfield 26, 3) := by decide +kernel
theorem dX8_gets_21 : decode cX8_gets 21 = .ok (.iload_n 1, 1) := by decide +kernel
theorem dX8_gets_22 : decode cX8_gets 22 = .ok (.dup2, 1) := by decide +kernel
theorem dX8_gets_23 : decode cX8_gets 23 = .ok (.iaload, 1) := by decide +kernel
theorem dX8_gets_24 : decode cX8_gets 24 = .ok (.iconst 1, 1) := by decide +kernel
theorem dX8_gets_25 : decode cX8_gets 25 = .ok (.iadd, 1) := by decide +kernel
theorem dX8_gets_26 : decode cX8_gets 26 = .ok (.iastore, 1) := by decide +kernel
theorem dX8_gets_27 : decode cX8_gets 27 = .ok (.aload_n 0, 1) := by decide +kernel
theorem dX8_gets_28 : decode cX8_gets 28 = .ok (.getfield 35, 3) := by decide +kernel
theorem dX8_gets_31 : decode cX8_gets 31 = .ok (.aload_n 0, 1) := by decide +kernel
theorem dX8_gets_32 : decode cX8_gets 32 = .ok (.getfield 135, 3) := by decide +kernel
theorem dX8_gets_35 : decode cX8_gets 35 = .ok (.iload_n 1, 1) := by decide +kernel
theorem dX8_gets_36 : decode cX8_gets 36 = .ok (.iastore, 1) := by decide +kernel
theorem dX8_gets_37 : decode cX8_gets 37 = .ok (.aload_n 0, 1) := by decide +kernel
theorem dX8_gets_38 : decode cX8_gets 38 = .ok (.getfield 38, 3) := by decide +kernel
theorem dX8_gets_41 : decode cX8_gets 41 = .ok (.aload_n 0, 1) := by decide +kernel
theorem dX8_gets_42 : decode cX8_gets 42 = .ok (.getfield 135, 3) := by decide +kernel
theorem dX8_gets_45 : decode cX8_gets 45 = .ok (.iload_n 2, 1) := by decide +kernel
theorem dX8_gets_46 : decode cX8_gets 46 = .ok (.iastore, 1) := by decide +kernel
theorem dX8_gets_47 : decode cX8_gets 47 = .ok (.aload_n 0, 1) := by decide +kernel
theorem dX8_gets_48 : decode cX8_gets 48 = .ok (.dup, 1) := by decide +kernel
theorem dX8_gets_49 : decode cX8_gets 49 = .ok (.getfield 135, 3) := by decide +kernel
theorem dX8_gets_52 : decode cX8_gets 52 = .ok (.iconst 1, 1) := by decide +kernel
theorem dX8_gets_53 : decode cX8_gets 53 = .ok (.iadd, 1) := by decide +kernel
theorem dX8_gets_54 : decode cX8_gets 54 = .ok (.putfield 135, 3) := by decide +kernel
theorem dX8_gets_57 : decode cX8_gets 57 = .ok (.return_, 1) := by decide +kernel
theorem dX8_shows_0 : decode cX8_shows 0 = .ok (.iconst 0, 1) := by decide +kernel
theorem dX8_shows_1 : decode cX8_shows 1 = .ok (.istore_n 2, 1) := by decide +kernel
theorem dX8_shows_2 : decode cX8_shows 2 = .ok (.iload_n 2, 1) := by decide +kernel
theorem dX8_shows_3 : decode cX8_shows 3 = .ok (.aload_n 0, 1) := by decide +kernel
theorem dX8_shows_4 : decode cX8_shows 4 = .ok (.invokevirtual 61, 3) := by decide +kernel
theorem dX8_shows_7 : decode cX8_shows 7 = .ok (.if_icmp .ge 44, 3) := by decide +kernel
theorem dX8_shows_10 : decode cX8_shows 10 = .ok (.aload_n 0, 1) := by decide +kernel
theorem dX8_shows_11 : decode cX8_shows 11 = .ok (.iload_n 2, 1) := by decide +kernel
theorem dX8_shows_12 : decode cX8_shows 12 = .ok (.iload_n 1, 1) := by decide +kernel
theorem dX8_shows_13 : decode cX8_shows 13 = .ok (.invokevirtual 129, 3) := by decide +kernel
theorem dX8_shows_16 : decode cX8_shows 16 = .ok (.aload_n 0, 1) := by decide +kernel
theorem dX8_shows_17 : decode cX8_shows 17 = .ok (.iload_n 2, 1) := by decide +kernel
theorem dX8_shows_18 : decode cX8_shows 18 = .ok (.iload_n 1, 1) := by decide +kernel
theorem dX8_shows_19 : decode cX8_shows 19 = .ok (.invokevirtual 138, 3) := by decide +kernel
theorem dX8_shows_22 : decode cX8_shows 22 = .ok (.invokestatic 76, 3) := by decide +kernel
theorem dX8_shows_25 : decode cX8_shows 25 = .ok (.istore_n 3, 1) := by decide +kernel
theorem dX8_shows_26 : decode cX8_shows 26 = .ok (.aload_n 0, 1) := by decide +kernel
theorem dX8_shows_27 : decode cX8_shows 27 = .ok (.getfield 26, 3) := by decide +kernel
theorem dX8_shows_30 : decode cX8_shows 30 = .ok (.iload_n 2, 1) := by decide +kernel
theorem dX8_shows_31 : decode cX8_shows 31 = .ok (.iaload, 1) := by decide +kernel
theorem dX8_shows_32 : decode cX8_shows 32 = .ok (.iload_n 3, 1) := by decide +kernel
theorem dX8_shows_33 : decode cX8_shows 33 = .ok (.if_icmp .ge 12, 3) := by decide +kernel
theorem dX8_shows_36 : decode cX8_shows 36 = .ok (.aload_n 0, 1) := by decide +kernel
theorem dX8_shows_37 : decode cX8_shows 37 = .ok (.iload_n 2, 1) := by decide +kernel
theorem dX8_shows_38 : decode cX8_shows 38 = .ok (.iload_n 1, 1) := by decide +kernel
theorem dX8_shows_39 : decode cX8_shows 39 = .ok (.invokevirtual 141, 3) := by decide +kernel
theorem dX8_shows_42 : decode cX8_shows 42 = .ok (.goto (-16), 3) := by decide +kernel
theorem dX8_shows_45 : decode cX8_shows 45 = .ok (.iinc 2 1, 3) := by decide +kernel
theorem dX8_shows_48 : decode cX8_shows 48 = .ok (.goto (-46), 3) := by decide +kernel
theorem dX8_shows_51 : decode cX8_shows 51 = .ok (.return_, 1) := by decide +kernel
theorem dX8_runs_0 : decode cX8_runs 0 = .ok (.aload_n 0, 1) := by decide +kernel
theorem dX8_runs_1 : decode cX8_runs 1 = .ok (.iconst 0, 1) := by decide +kernel
theorem dX8_runs_2 : decode cX8_runs 2 = .ok (.putfield 135, 3) := by decide +kernel
theorem dX8_runs_5 : decode cX8_runs 5 = .ok (.iconst 0, 1) := by decide +kernel
theorem dX8_runs_6 : decode cX8_runs 6 = .ok (.istore_n 1, 1) := by decide +kernel
theorem dX8_runs_7 : decode cX8_runs 7 = .ok (.iload_n 1, 1) := by decide +kernel
theorem dX8_runs_8 : decode cX8_runs 8 = .ok (.aload_n 0, 1) := by decide +kernel
theorem dX8_runs_9 : decode cX8_runs 9 = .ok (.invokevirtual 61, 3) := by decide +kernel
theorem dX8_runs_12 : decode cX8_runs 12 = .ok (.if_icmp .ge 16, 3) := by decide +kernel
theorem dX8_runs_15 : decode cX8_runs 15 = .ok (.aload_n 0, 1) := by decide +kernel
theorem dX8_runs_16 : decode cX8_runs 16 = .ok (.getfield 26, 3) := by decide +kernel
theorem dX8_runs_19 : decode cX8_runs 19 = .ok (.iload_n 1, 1) := by decide +kernel
theorem dX8_runs_20 : decode cX8_runs 20 = .ok (.iconst 0, 1) := by decide +kernel
theorem dX8_runs_21 : decode cX8_runs 21 = .ok (.iastore, 1) := by decide +kernel
theorem dX8_runs_22 : decode cX8_runs 22 = .ok (.iinc 1 1, 3) := by decide +kernel
theorem dX8_runs_25 : decode cX8_runs 25 = .ok (.goto (-18), 3) := by decide +kernel
theorem dX8_runs_28 : decode cX8_runs 28 = .ok (.aload_n 0, 1) := by decide +kernel
theorem dX8_runs_29 : decode cX8_runs 29 = .ok (.aload_n 0, 1) := by decide +kernel
theorem dX8_runs_30 : decode cX8_runs 30 = .ok (.getfield 13, 3) := by decide +kernel
theorem dX8_runs_33 : decode cX8_runs 33 = .ok (.iconst 1, 1) := by decide +kernel
theorem dX8_runs_34 : decode cX8_runs 34 = .ok (.iaload, 1) := by decide +kernel
theorem dX8_runs_35 : decode cX8_runs 35 = .ok (.putfield 144, 3) := by decide +kernel
theorem dX8_runs_38 : decode cX8_runs 38 = .ok (.aload_n 0, 1) := by decide +kernel
theorem dX8_runs_39 : decode cX8_runs 39 = .ok (.aload_n 0, 1) := by decide +kernel
theorem dX8_runs_40 : decode cX8_runs 40 = .ok (.getfield 144, 3) := by decide +kernel
theorem dX8_runs_43 : decode cX8_runs 43 = .ok (.invokevirtual 147, 3) := by decide +kernel
theorem dX8_runs_46 : decode cX8_runs 46 = .ok (.aload_n 0, 1) := by decide +kernel
theorem dX8_runs_47 : decode cX8_runs 47 = .ok (.aload_n 0, 1) := by decide +kernel
theorem dX8_runs_48 : decode cX8_runs 48 = .ok (.getfield 144, 3) := by decide +kernel
theorem dX8_runs_51 : decode cX8_runs 51 = .ok (.invokevirtual 132, 3) := by decide +kernel
theorem dX8_runs_54 : decode cX8_runs 54 = .ok (.aload_n 0, 1) := by decide +kernel
theorem dX8_runs_55 : decode cX8_runs 55 = .ok (.getfield 13, 3) := by decide +kernel
theorem dX8_runs_58 : decode cX8_runs 58 = .ok (.iconst 0, 1) := by decide +kernel
theorem dX8_runs_59 : decode cX8_runs 59 = .ok (.iaload, 1) := by decide +kernel
theorem dX8_runs_60 : decode cX8_runs 60 = .ok (.if_icmp .le 24, 3) := by decide +kernel
theorem dX8_runs_63 : decode cX8_runs 63 = .ok (.aload_n 0, 1) := by decide +kernel
theorem dX8_runs_64 : decode cX8_runs 64 = .ok (.dup, 1) := by decide +kernel
theorem dX8_runs_65 : decode cX8_runs 65 = .ok (.getfield 144, 3) := by decide +kernel
theorem dX8_runs_68 : decode cX8_runs 68 = .ok (.iconst 1, 1) := by decide +kernel
theorem dX8_runs_69 : decode cX8_runs 69 = .ok (.iadd, 1) := by decide +kernel
theorem dX8_runs_70 : decode cX8_runs 70 = .ok (.putfield 144, 3) := by decide +kernel
theorem dX8_runs_73 : decode cX8_runs 73 = .ok (.aload_n 0, 1) := by decide +kernel
theorem dX8_runs_74 : decode cX8_runs 74 = .ok (.aload_n 0, 1) := by decide +kernel
theorem dX8_runs_75 : decode cX8_runs 75 = .ok (.getfield 144, 3) := by decide +kernel
theorem dX8_runs_78 : decode cX8_runs 78 = .ok (.invokevirtual 147, 3) := by decide +kernel
theorem dX8_runs_81 : decode cX8_runs 81 = .ok (.goto (-35), 3) := by decide +kernel
theorem dX8_runs_84 : decode cX8_runs 84 = .ok (.iconst 0, 1) := by decide +kernel
theorem dX8_runs_85 : decode cX8_runs 85 = .ok (.istore_n 1, 1) := by decide +kernel
theorem dX8_runs_86 : decode cX8_runs 86 = .ok (.iload_n 1, 1) := by decide +kernel
theorem dX8_runs_87 : decode cX8_runs 87 = .ok (.aload_n 0, 1) := by decide +kernel
theorem dX8_runs_88 : decode cX8_runs 88 = .ok (.invokevirtual 61, 3) := by decide +kernel
theorem dX8_runs_91 : decode cX8_runs 91 = .ok (.if_icmp .ge 21, 3) := by decide +kernel
theorem dX8_runs_94 : decode cX8_runs 94 = .ok (.aload_n 0, 1) := by decide +kernel
theorem dX8_runs_95 : decode cX8_runs 95 = .ok (.getfield 29, 3) := by decide +kernel
theorem dX8_runs_98 : decode cX8_runs 98 = .ok (.iload_n 1, 1) := by decide +kernel
theorem dX8_runs_99 : decode cX8_runs 99 = .ok (.aload_n 0, 1) := by decide +kernel
theorem dX8_runs_100 : decode cX8_runs 100 = .ok (.getfield 26, 3) := by decide +kernel
theorem dX8_runs_103 : decode cX8_runs 103 = .ok (.iload_n 1, 1) := by decide +kernel
theorem dX8_runs_104 : decode cX8_runs 104 = .ok (.iaload, 1) := by decide +kernel
theorem dX8_runs_105 : decode cX8_runs 105 = .ok (.iastore, 1) := by decide +kernel
theorem dX8_runs_106 : decode cX8_runs 106 = .ok (.iinc 1 1, 3) := by decide +kernel
theorem dX8_runs_109 : decode cX8_runs 109 = .ok (.goto (-23), 3) := by decide +kernel
theorem dX8_runs_112 : decode cX8_runs 112 = .ok (.iconst 1, 1) := by decide +kernel
theorem dX8_runs_113 : decode cX8_runs 113 = .ok (.istore_n 1, 1) := by decide +kernel
theorem dX8_runs_114 : decode cX8_runs 114 = .ok (.iload_n 1, 1) := by decide +kernel
theorem dX8_runs_115 : decode cX8_runs 115 = .ok (.ifCond .eq 71, 3) := by decide +kernel
theorem dX8_runs_118 : decode cX8_runs 118 = .ok (.iconst 0, 1) := by decide +kernel
theorem dX8_runs_119 : decode cX8_runs 119 = .ok (.istore_n 1, 1) := by decide +kernel
theorem dX8_runs_120 : decode cX8_runs 120 = .ok (.iconst 0, 1) := by decide +kernel
theorem dX8_runs_121 : decode cX8_runs 121 = .ok (.istore_n 2, 1) := by decide +kernel
theorem dX8_runs_122 : decode cX8_runs 122 = .ok (.iload_n 2, 1) := by decide +kernel
theorem dX8_runs_123 : decode cX8_runs 123 = .ok (.aload_n 0, 1) := by decide +kernel
theorem dX8_runs_124 : decode cX8_runs 124 = .ok (.invokevirtual 61, 3) := by decide +kernel
theorem dX8_runs_127 : decode cX8_runs 127 = .ok (.if_icmp .ge 56, 3) := by decide +kernel
theorem dX8_runs_130 : decode cX8_runs 130 = .ok (.aload_n 0, 1) := by decide +kernel
theorem dX8_runs_131 : decode cX8_runs 131 = .ok (.getfield 135, 3) := by decide +kernel
theorem dX8_runs_134 : decode cX8_runs 134 = .ok (.aload_n 0, 1) := by decide +kernel
theorem dX8_runs_135 : decode cX8_runs 135 = .ok (.getfield 13, 3) := by decide +kernel
theorem dX8_runs_138 : decode cX8_runs 138 = .ok (.iconst 0, 1) := by decide +kernel
theorem dX8_runs_139 : decode cX8_runs 139 = .ok (.iaload, 1) := by decide +kernel
theorem dX8_runs_140 : decode cX8_runs 140 = .ok (.if_icmp .ge 43, 3) := by decide +kernel
theorem dX8_runs_143 : decode cX8_runs 143 = .ok (.aload_n 0, 1) := by decide +kernel
theorem dX8_runs_144 : decode cX8_runs 144 = .ok (.iload_n 2, 1) := by decide +kernel
theorem dX8_runs_145 : decode cX8_runs 145 = .ok (.aload_n 0, 1) := by decide +kernel
theorem dX8_runs_146 : decode cX8_runs 146 = .ok (.getfield 144, 3) := by decide +kernel
theorem dX8_runs_149 : decode cX8_runs 149 = .ok (.iconst 1, 1) := by decide +kernel
theorem dX8_runs_150 : decode cX8_runs 150 = .ok (.isub, 1) := by decide +kernel
theorem dX8_runs_151 : decode cX8_runs 151 = .ok (.invokevirtual 129, 3) := by decide +kernel
theorem dX8_runs_154 : decode cX8_runs 154 = .ok (.aload_n 0, 1) := by decide +kernel
theorem dX8_runs_155 : decode cX8_runs 155 = .ok (.getfield 26, 3) := by decide +kernel
theorem dX8_runs_158 : decode cX8_runs 158 = .ok (.iload_n 2, 1) := by decide +kernel
theorem dX8_runs_159 : decode cX8_runs 159 = .ok (.iaload, 1) := by decide +kernel
theorem dX8_runs_160 : decode cX8_runs 160 = .ok (.if_icmp .gt 6, 3) := by decide +kernel
theorem dX8_runs_163 : decode cX8_runs 163 = .ok (.goto 14, 3) := by decide +kernel
theorem dX8_runs_166 : decode cX8_runs 166 = .ok (.aload_n 0, 1) := by decide +kernel
theorem dX8_runs_167 : decode cX8_runs 167 = .ok (.iload_n 2, 1) := by decide +kernel
theorem dX8_runs_168 : decode cX8_runs 168 = .ok (.aload_n 0, 1) := by decide +kernel
theorem dX8_runs_169 : decode cX8_runs 169 = .ok (.getfield 144, 3) := by decide +kernel
theorem dX8_runs_172 : decode cX8_runs 172 = .ok (.invokevirtual 141, 3) := by decide +kernel
theorem dX8_runs_175 : decode cX8_runs 175 = .ok (.iconst 1, 1) := by decide +kernel
theorem dX8_runs_176 : decode cX8_runs 176 = .ok (.istore_n 1, 1) := by decide +kernel
theorem dX8_runs_177 : decode cX8_runs 177 = .ok (.iinc 2 1, 3) := by decide +kernel
theorem dX8_runs_180 : decode cX8_runs 180 = .ok (.goto (-58), 3) := by decide +kernel
theorem dX8_runs_183 : decode cX8_runs 183 = .ok (.goto (-69), 3) := by decide +kernel
theorem dX8_runs_186 : decode cX8_runs 186 = .ok (.return_, 1) := by decide +kernel
theorem dX8_firstOf_0 : decode cX8_firstOf 0 = .ok (.iconst 0, 1) := by decide +kernel
theorem dX8_firstOf_1 : decode cX8_firstOf 1 = .ok (.istore_n 3, 1) := by decide +kernel
theorem dX8_firstOf_2 : decode cX8_firstOf 2 = .ok (.iconst 0, 1) := by decide +kernel
theorem dX8_firstOf_3 : decode cX8_firstOf 3 = .ok (.istore 4, 2) := by decide +kernel
theorem dX8_firstOf_5 : decode cX8_firstOf 5 = .ok (.iload 4, 2) := by decide +kernel
theorem dX8_firstOf_7 : decode cX8_firstOf 7 = .ok (.iload_n 2, 1) := by decide +kernel
theorem dX8_firstOf_8 : decode cX8_firstOf 8 = .ok (.if_icmp .ge 19, 3) := by decide +kernel
theorem dX8_firstOf_11 : decode cX8_firstOf 11 = .ok (.iload_n 3, 1) := by decide +kernel
theorem dX8_firstOf_12 : decode cX8_firstOf 12 = .ok (.aload_n 0, 1) := by decide +kernel
theorem dX8_firstOf_13 : decode cX8_firstOf 13 = .ok (.iload_n 1, 1) := by decide +kernel
theorem dX8_firstOf_14 : decode cX8_firstOf 14 = .ok (.iload 4, 2) := by decide +kernel
theorem dX8_firstOf_16 : decode cX8_firstOf 16 = .ok (.invokevirtual 114, 3) := by decide +kernel
theorem dX8_firstOf_19 : decode cX8_firstOf 19 = .ok (.iadd, 1) := by decide +kernel
theorem dX8_firstOf_20 : decode cX8_firstOf 20 = .ok (.istore_n 3, 1) := by decide +kernel
theorem dX8_firstOf_21 : decode cX8_firstOf 21 = .ok (.iinc 4 1, 3) := by decide +kernel
theorem dX8_firstOf_24 : decode cX8_firstOf 24 = .ok (.goto (-19), 3) := by decide +kernel
theorem dX8_firstOf_27 : decode cX8_firstOf 27 = .ok (.iload_n 3, 1) := by decide +kernel
theorem dX8_firstOf_28 : decode cX8_firstOf 28 = .ok (.ireturn, 1) := by decide +kernel
theorem dX8_unsold_0 : decode cX8_unsold 0 = .ok (.aload_n 0, 1) := by decide +kernel
theorem dX8_unsold_1 : decode cX8_unsold 1 = .ok (.getfield 13, 3) := by decide +kernel
theorem dX8_unsold_4 : decode cX8_unsold 4 = .ok (.iconst 0, 1) := by decide +kernel
theorem dX8_unsold_5 : decode cX8_unsold 5 = .ok (.iaload, 1) := by decide +kernel
theorem dX8_unsold_6 : decode cX8_unsold 6 = .ok (.aload_n 0, 1) := by decide +kernel
theorem dX8_unsold_7 : decode cX8_unsold 7 = .ok (.getfield 135, 3) := by decide +kernel
theorem dX8_unsold_10 : decode cX8_unsold 10 = .ok (.isub, 1) := by decide +kernel
theorem dX8_unsold_11 : decode cX8_unsold 11 = .ok (.ireturn, 1) := by decide +kernel
theorem dX8_worthTo_0 : decode cX8_worthTo 0 = .ok (.iconst 0, 1) := by decide +kernel
theorem dX8_worthTo_1 : decode cX8_worthTo 1 = .ok (.istore_n 3, 1) := by decide +kernel
theorem dX8_worthTo_2 : decode cX8_worthTo 2 = .ok (.iload_n 3, 1) := by decide +kernel
theorem dX8_worthTo_3 : decode cX8_worthTo 3 = .ok (.bipush 99, 2) := by decide +kernel
theorem dX8_worthTo_5 : decode cX8_worthTo 5 = .ok (.if_icmp .gt 16, 3) := by decide +kernel
theorem dX8_worthTo_8 : decode cX8_worthTo 8 = .ok (.aload_n 0, 1) := by decide +kernel
theorem dX8_worthTo_9 : decode cX8_worthTo 9 = .ok (.getfield 41, 3) := by decide +kernel
theorem dX8_worthTo_12 : decode cX8_worthTo 12 = .ok (.iload_n 3, 1) := by decide +kernel
theorem dX8_worthTo_13 : decode cX8_worthTo 13 = .ok (.iconst 0, 1) := by decide +kernel
theorem dX8_worthTo_14 : decode cX8_worthTo 14 = .ok (.iastore, 1) := by decide +kernel
theorem dX8_worthTo_15 : decode cX8_worthTo 15 = .ok (.iinc 3 1, 3) := by decide +kernel
theorem dX8_worthTo_18 : decode cX8_worthTo 18 = .ok (.goto (-16), 3) := by decide +kernel
theorem dX8_worthTo_21 : decode cX8_worthTo 21 = .ok (.iconst 0, 1) := by decide +kernel
theorem dX8_worthTo_22 : decode cX8_worthTo 22 = .ok (.istore_n 3, 1) := by decide +kernel
theorem dX8_worthTo_23 : decode cX8_worthTo 23 = .ok (.iload_n 3, 1) := by decide +kernel
theorem dX8_worthTo_24 : decode cX8_worthTo 24 = .ok (.aload_n 0, 1) := by decide +kernel
theorem dX8_worthTo_25 : decode cX8_worthTo 25 = .ok (.invokevirtual 61, 3) := by decide +kernel
theorem dX8_worthTo_28 : decode cX8_worthTo 28 = .ok (.if_icmp .ge 55, 3) := by decide +kernel
theorem dX8_worthTo_31 : decode cX8_worthTo 31 = .ok (.iload_n 1, 1) := by decide +kernel
theorem dX8_worthTo_32 : decode cX8_worthTo 32 = .ok (.iload_n 3, 1) := by decide +kernel
theorem dX8_worthTo_33 : decode cX8_worthTo 33 = .ok (.ishr, 1) := by decide +kernel
theorem dX8_worthTo_34 : decode cX8_worthTo 34 = .ok (.iconst 1, 1) := by decide +kernel
theorem dX8_worthTo_35 : decode cX8_worthTo 35 = .ok (.iand, 1) := by decide +kernel
theorem dX8_worthTo_36 : decode cX8_worthTo 36 = .ok (.ifCond .ne 6, 3) := by decide +kernel
theorem dX8_worthTo_39 : decode cX8_worthTo 39 = .ok (.goto 38, 3) := by decide +kernel
theorem dX8_worthTo_42 : decode cX8_worthTo 42 = .ok (.iconst 0, 1) := by decide +kernel
theorem dX8_worthTo_43 : decode cX8_worthTo 43 = .ok (.istore 4, 2) := by decide +kernel
theorem dX8_worthTo_45 : decode cX8_worthTo 45 = .ok (.iload 4, 2) := by decide +kernel
theorem dX8_worthTo_47 : decode cX8_worthTo 47 = .ok (.aload_n 0, 1) := by decide +kernel
theorem dX8_worthTo_48 : decode cX8_worthTo 48 = .ok (.iload_n 3, 1) := by decide +kernel
theorem dX8_worthTo_49 : decode cX8_worthTo 49 = .ok (.invokevirtual 126, 3) := by decide +kernel
theorem dX8_worthTo_52 : decode cX8_worthTo 52 = .ok (.if_icmp .ge 25, 3) := by decide +kernel
theorem dX8_worthTo_55 : decode cX8_worthTo 55 = .ok (.aload_n 0, 1) := by decide +kernel
theorem dX8_worthTo_56 : decode cX8_worthTo 56 = .ok (.getfield 41, 3) := by decide +kernel
theorem dX8_worthTo_59 : decode cX8_worthTo 59 = .ok (.aload_n 0, 1) := by decide +kernel
theorem dX8_worthTo_60 : decode cX8_worthTo 60 = .ok (.iload_n 3, 1) := by decide +kernel
theorem dX8_worthTo_61 : decode cX8_worthTo 61 = .ok (.iload 4, 2) := by decide +kernel
theorem dX8_worthTo_63 : decode cX8_worthTo 63 = .ok (.invokevirtual 114, 3) := by decide +kernel
theorem dX8_worthTo_66 : decode cX8_worthTo 66 = .ok (.dup2, 1) := by decide +kernel
theorem dX8_worthTo_67 : decode cX8_worthTo 67 = .ok (.iaload, 1) := by decide +kernel
theorem dX8_worthTo_68 : decode cX8_worthTo 68 = .ok (.iconst 1, 1) := by decide +kernel
theorem dX8_worthTo_69 : decode cX8_worthTo 69 = .ok (.iadd, 1) := by decide +kernel
theorem dX8_worthTo_70 : decode cX8_worthTo 70 = .ok (.iastore, 1) := by decide +kernel
theorem dX8_worthTo_71 : decode cX8_worthTo 71 = .ok (.iinc 4 1, 3) := by decide +kernel
theorem dX8_worthTo_74 : decode cX8_worthTo 74 = .ok (.goto (-29), 3) := by decide +kernel
theorem dX8_worthTo_77 : decode cX8_worthTo 77 = .ok (.iinc 3 1, 3) := by decide +kernel
theorem dX8_worthTo_80 : decode cX8_worthTo 80 = .ok (.goto (-57), 3) := by decide +kernel
theorem dX8_worthTo_83 : decode cX8_worthTo 83 = .ok (.aload_n 0, 1) := by decide +kernel
theorem dX8_worthTo_84 : decode cX8_worthTo 84 = .ok (.getfield 41, 3) := by decide +kernel
theorem dX8_worthTo_87 : decode cX8_worthTo 87 = .ok (.aload_n 0, 1) := by decide +kernel
theorem dX8_worthTo_88 : decode cX8_worthTo 88 = .ok (.getfield 13, 3) := by decide +kernel
theorem dX8_worthTo_91 : decode cX8_worthTo 91 = .ok (.iconst 1, 1) := by decide +kernel
theorem dX8_worthTo_92 : decode cX8_worthTo 92 = .ok (.iaload, 1) := by decide +kernel
theorem dX8_worthTo_93 : decode cX8_worthTo 93 = .ok (.dup2, 1) := by decide +kernel
theorem dX8_worthTo_94 : decode cX8_worthTo 94 = .ok (.iaload, 1) := by decide +kernel
theorem dX8_worthTo_95 : decode cX8_worthTo 95 = .ok (.iload_n 2, 1) := by decide +kernel
theorem dX8_worthTo_96 : decode cX8_worthTo 96 = .ok (.iadd, 1) := by decide +kernel
theorem dX8_worthTo_97 : decode cX8_worthTo 97 = .ok (.iastore, 1) := by decide +kernel
theorem dX8_worthTo_98 : decode cX8_worthTo 98 = .ok (.iconst 0, 1) := by decide +kernel
theorem dX8_worthTo_99 : decode cX8_worthTo 99 = .ok (.istore_n 3, 1) := by decide +kernel
theorem dX8_worthTo_100 : decode cX8_worthTo 100 = .ok (.iload_n 2, 1) := by decide +kernel
theorem dX8_worthTo_101 : decode cX8_worthTo 101 = .ok (.istore 4, 2) := by decide +kernel
theorem dX8_worthTo_103 : decode cX8_worthTo 103 = .ok (.bipush 99, 2) := by decide +kernel
theorem dX8_worthTo_105 : decode cX8_worthTo 105 = .ok (.istore 5, 2) := by decide +kernel
theorem dX8_worthTo_107 : decode cX8_worthTo 107 = .ok (.iload 5, 2) := by decide +kernel
theorem dX8_worthTo_109 : decode cX8_worthTo 109 = .ok (.ifCond .lt 38, 3) := by decide +kernel
theorem dX8_worthTo_112 : decode cX8_worthTo 112 = .ok (.iload 4, 2) := by decide +kernel
theorem dX8_worthTo_114 : decode cX8_worthTo 114 = .ok (.aload_n 0, 1) := by decide +kernel
theorem dX8_worthTo_115 : decode cX8_worthTo 115 = .ok (.getfield 41, 3) := by decide +kernel
theorem dX8_worthTo_118 : decode cX8_worthTo 118 = .ok (.iload 5, 2) := by decide +kernel
theorem dX8_worthTo_120 : decode cX8_worthTo 120 = .ok (.iaload, 1) := by decide +kernel
theorem dX8_worthTo_121 : decode cX8_worthTo 121 = .ok (.invokestatic 76, 3) := by decide +kernel
theorem dX8_worthTo_124 : decode cX8_worthTo 124 = .ok (.istore 6, 2) := by decide +kernel
theorem dX8_worthTo_126 : decode cX8_worthTo 126 = .ok (.iload_n 3, 1) := by decide +kernel
theorem dX8_worthTo_127 : decode cX8_worthTo 127 = .ok (.iload 6, 2) := by decide +kernel
theorem dX8_worthTo_129 : decode cX8_worthTo 129 = .ok (.iload 5, 2) := by decide +kernel
theorem dX8_worthTo_131 : decode cX8_worthTo 131 = .ok (.imul, 1) := by decide +kernel
theorem dX8_worthTo_132 : decode cX8_worthTo 132 = .ok (.iadd, 1) := by decide +kernel
theorem dX8_worthTo_133 : decode cX8_worthTo 133 = .ok (.istore_n 3, 1) := by decide +kernel
theorem dX8_worthTo_134 : decode cX8_worthTo 134 = .ok (.iload 4, 2) := by decide +kernel
theorem dX8_worthTo_136 : decode cX8_worthTo 136 = .ok (.iload 6, 2) := by decide +kernel
theorem dX8_worthTo_138 : decode cX8_worthTo 138 = .ok (.isub, 1) := by decide +kernel
theorem dX8_worthTo_139 : decode cX8_worthTo 139 = .ok (.istore 4, 2) := by decide +kernel
theorem dX8_worthTo_141 : decode cX8_worthTo 141 = .ok (.iinc 5 (-1), 3) := by decide +kernel
theorem dX8_worthTo_144 : decode cX8_worthTo 144 = .ok (.goto (-37), 3) := by decide +kernel
theorem dX8_worthTo_147 : decode cX8_worthTo 147 = .ok (.iload_n 3, 1) := by decide +kernel
theorem dX8_worthTo_148 : decode cX8_worthTo 148 = .ok (.ireturn, 1) := by decide +kernel
theorem dX8_everybody_0 : decode cX8_everybody 0 = .ok (.iconst 1, 1) := by decide +kernel
theorem dX8_everybody_1 : decode cX8_everybody 1 = .ok (.aload_n 0, 1) := by decide +kernel
theorem dX8_everybody_2 : decode cX8_everybody 2 = .ok (.invokevirtual 61, 3) := by decide +kernel
theorem dX8_everybody_5 : decode cX8_everybody 5 = .ok (.ishl, 1) := by decide +kernel
theorem dX8_everybody_6 : decode cX8_everybody 6 = .ok (.iconst 1, 1) := by decide +kernel
theorem dX8_everybody_7 : decode cX8_everybody 7 = .ok (.isub, 1) := by decide +kernel
theorem dX8_everybody_8 : decode cX8_everybody 8 = .ok (.ireturn, 1) := by decide +kernel
theorem dX8_hadBut_0 : decode cX8_hadBut 0 = .ok (.iconst 0, 1) := by decide +kernel
theorem dX8_hadBut_1 : decode cX8_hadBut 1 = .ok (.istore_n 2, 1) := by decide +kernel
theorem dX8_hadBut_2 : decode cX8_hadBut 2 = .ok (.iconst 0, 1) := by decide +kernel
theorem dX8_hadBut_3 : decode cX8_hadBut 3 = .ok (.istore_n 3, 1) := by decide +kernel
theorem dX8_hadBut_4 : decode cX8_hadBut 4 = .ok (.iload_n 3, 1) := by decide +kernel
theorem dX8_hadBut_5 : decode cX8_hadBut 5 = .ok (.aload_n 0, 1) := by decide +kernel
theorem dX8_hadBut_6 : decode cX8_hadBut 6 = .ok (.invokevirtual 61, 3) := by decide +kernel
theorem dX8_hadBut_9 : decode cX8_hadBut 9 = .ok (.if_icmp .ge 28, 3) := by decide +kernel
theorem dX8_hadBut_12 : decode cX8_hadBut 12 = .ok (.iload_n 3, 1) := by decide +kernel
theorem dX8_hadBut_13 : decode cX8_hadBut 13 = .ok (.iload_n 1, 1) := by decide +kernel
theorem dX8_hadBut_14 : decode cX8_hadBut 14 = .ok (.if_icmp .eq 17, 3) := by decide +kernel
theorem dX8_hadBut_17 : decode cX8_hadBut 17 = .ok (.iload_n 2, 1) := by decide +kernel
theorem dX8_hadBut_18 : decode cX8_hadBut 18 = .ok (.aload_n 0, 1) := by decide +kernel
theorem dX8_hadBut_19 : decode cX8_hadBut 19 = .ok (.iload_n 3, 1) := by decide +kernel
theorem dX8_hadBut_20 : decode cX8_hadBut 20 = .ok (.aload_n 0, 1) := by decide +kernel
theorem dX8_hadBut_21 : decode cX8_hadBut 21 = .ok (.getfield 26, 3) := by decide +kernel
theorem dX8_hadBut_24 : decode cX8_hadBut 24 = .ok (.iload_n 3, 1) := by decide +kernel
theorem dX8_hadBut_25 : decode cX8_hadBut 25 = .ok (.iaload, 1) := by decide +kernel
theorem dX8_hadBut_26 : decode cX8_hadBut 26 = .ok (.invokevirtual 150, 3) := by decide +kernel
theorem dX8_hadBut_29 : decode cX8_hadBut 29 = .ok (.iadd, 1) := by decide +kernel
theorem dX8_hadBut_30 : decode cX8_hadBut 30 = .ok (.istore_n 2, 1) := by decide +kernel
theorem dX8_hadBut_31 : decode cX8_hadBut 31 = .ok (.iinc 3 1, 3) := by decide +kernel
theorem dX8_hadBut_34 : decode cX8_hadBut 34 = .ok (.goto (-30), 3) := by decide +kernel
theorem dX8_hadBut_37 : decode cX8_hadBut 37 = .ok (.iload_n 2, 1) := by decide +kernel
theorem dX8_hadBut_38 : decode cX8_hadBut 38 = .ok (.ireturn, 1) := by decide +kernel
theorem dX8_paysOf_0 : decode cX8_paysOf 0 = .ok (.iload_n 2, 1) := by decide +kernel
theorem dX8_paysOf_1 : decode cX8_paysOf 1 = .ok (.tableswitch 90 0 2 #[27, 66, 78], 27) := by decide +kernel
theorem dX8_paysOf_28 : decode cX8_paysOf 28 = .ok (.iconst 0, 1) := by decide +kernel
theorem dX8_paysOf_29 : decode cX8_paysOf 29 = .ok (.istore_n 3, 1) := by decide +kernel
theorem dX8_paysOf_30 : decode cX8_paysOf 30 = .ok (.iconst 0, 1) := by decide +kernel
theorem dX8_paysOf_31 : decode cX8_paysOf 31 = .ok (.istore 4, 2) := by decide +kernel
theorem dX8_paysOf_33 : decode cX8_paysOf 33 = .ok (.iload 4, 2) := by decide +kernel
theorem dX8_paysOf_35 : decode cX8_paysOf 35 = .ok (.aload_n 0, 1) := by decide +kernel
theorem dX8_paysOf_36 : decode cX8_paysOf 36 = .ok (.getfield 26, 3) := by decide +kernel
theorem dX8_paysOf_39 : decode cX8_paysOf 39 = .ok (.iload_n 1, 1) := by decide +kernel
theorem dX8_paysOf_40 : decode cX8_paysOf 40 = .ok (.iaload, 1) := by decide +kernel
theorem dX8_paysOf_41 : decode cX8_paysOf 41 = .ok (.if_icmp .ge 24, 3) := by decide +kernel
theorem dX8_paysOf_44 : decode cX8_paysOf 44 = .ok (.iload_n 3, 1) := by decide +kernel
theorem dX8_paysOf_45 : decode cX8_paysOf 45 = .ok (.aload_n 0, 1) := by decide +kernel
theorem dX8_paysOf_46 : decode cX8_paysOf 46 = .ok (.getfield 32, 3) := by decide +kernel
theorem dX8_paysOf_49 : decode cX8_paysOf 49 = .ok (.bipush 8, 2) := by decide +kernel
theorem dX8_paysOf_51 : decode cX8_paysOf 51 = .ok (.iload_n 1, 1) := by decide +kernel
theorem dX8_paysOf_52 : decode cX8_paysOf 52 = .ok (.imul, 1) := by decide +kernel
theorem dX8_paysOf_53 : decode cX8_paysOf 53 = .ok (.iload 4, 2) := by decide +kernel
theorem dX8_paysOf_55 : decode cX8_paysOf 55 = .ok (.iadd, 1) := by decide +kernel
theorem dX8_paysOf_56 : decode cX8_paysOf 56 = .ok (.iaload, 1) := by decide +kernel
theorem dX8_paysOf_57 : decode cX8_paysOf 57 = .ok (.iadd, 1) := by decide +kernel
theorem dX8_paysOf_58 : decode cX8_paysOf 58 = .ok (.istore_n 3, 1) := by decide +kernel
theorem dX8_paysOf_59 : decode cX8_paysOf 59 = .ok (.iinc 4 1, 3) := by decide +kernel
theorem dX8_paysOf_62 : decode cX8_paysOf 62 = .ok (.goto (-29), 3) := by decide +kernel
theorem dX8_paysOf_65 : decode cX8_paysOf 65 = .ok (.iload_n 3, 1) := by decide +kernel
theorem dX8_paysOf_66 : decode cX8_paysOf 66 = .ok (.ireturn, 1) := by decide +kernel
theorem dX8_paysOf_67 : decode cX8_paysOf 67 = .ok (.aload_n 0, 1) := by decide +kernel
theorem dX8_paysOf_68 : decode cX8_paysOf 68 = .ok (.getfield 144, 3) := by decide +kernel
theorem dX8_paysOf_71 : decode cX8_paysOf 71 = .ok (.aload_n 0, 1) := by decide +kernel
theorem dX8_paysOf_72 : decode cX8_paysOf 72 = .ok (.getfield 26, 3) := by decide +kernel
theorem dX8_paysOf_75 : decode cX8_paysOf 75 = .ok (.iload_n 1, 1) := by decide +kernel
theorem dX8_paysOf_76 : decode cX8_paysOf 76 = .ok (.iaload, 1) := by decide +kernel
theorem dX8_paysOf_77 : decode cX8_paysOf 77 = .ok (.imul, 1) := by decide +kernel
theorem dX8_paysOf_78 : decode cX8_paysOf 78 = .ok (.ireturn, 1) := by decide +kernel
theorem dX8_paysOf_79 : decode cX8_paysOf 79 = .ok (.aload_n 0, 1) := by decide +kernel
theorem dX8_paysOf_80 : decode cX8_paysOf 80 = .ok (.iload_n 1, 1) := by decide +kernel
theorem dX8_paysOf_81 : decode cX8_paysOf 81 = .ok (.aload_n 0, 1) := by decide +kernel
theorem dX8_paysOf_82 : decode cX8_paysOf 82 = .ok (.getfield 26, 3) := by decide +kernel
theorem dX8_paysOf_85 : decode cX8_paysOf 85 = .ok (.iload_n 1, 1) := by decide +kernel
theorem dX8_paysOf_86 : decode cX8_paysOf 86 = .ok (.iaload, 1) := by decide +kernel
theorem dX8_paysOf_87 : decode cX8_paysOf 87 = .ok (.invokevirtual 150, 3) := by decide +kernel
theorem dX8_paysOf_90 : decode cX8_paysOf 90 = .ok (.ireturn, 1) := by decide +kernel
theorem dX8_paysOf_91 : decode cX8_paysOf 91 = .ok (.aload_n 0, 1) := by decide +kernel
theorem dX8_paysOf_92 : decode cX8_paysOf 92 = .ok (.aload_n 0, 1) := by decide +kernel
theorem dX8_paysOf_93 : decode cX8_paysOf 93 = .ok (.invokevirtual 153, 3) := by decide +kernel
theorem dX8_paysOf_96 : decode cX8_paysOf 96 = .ok (.iconst 1, 1) := by decide +kernel
theorem dX8_paysOf_97 : decode cX8_paysOf 97 = .ok (.iload_n 1, 1) := by decide +kernel
theorem dX8_paysOf_98 : decode cX8_paysOf 98 = .ok (.ishl, 1) := by decide +kernel
theorem dX8_paysOf_99 : decode cX8_paysOf 99 = .ok (.ixor, 1) := by decide +kernel
theorem dX8_paysOf_100 : decode cX8_paysOf 100 = .ok (.aload_n 0, 1) := by decide +kernel
theorem dX8_paysOf_101 : decode cX8_paysOf 101 = .ok (.getfield 13, 3) := by decide +kernel
theorem dX8_paysOf_104 : decode cX8_paysOf 104 = .ok (.iconst 0, 1) := by decide +kernel
theorem dX8_paysOf_105 : decode cX8_paysOf 105 = .ok (.iaload, 1) := by decide +kernel
theorem dX8_paysOf_106 : decode cX8_paysOf 106 = .ok (.invokevirtual 156, 3) := by decide +kernel
theorem dX8_paysOf_109 : decode cX8_paysOf 109 = .ok (.aload_n 0, 1) := by decide +kernel
theorem dX8_paysOf_110 : decode cX8_paysOf 110 = .ok (.iload_n 1, 1) := by decide +kernel
theorem dX8_paysOf_111 : decode cX8_paysOf 111 = .ok (.invokevirtual 159, 3) := by decide +kernel
theorem dX8_paysOf_114 : decode cX8_paysOf 114 = .ok (.isub, 1) := by decide +kernel
theorem dX8_paysOf_115 : decode cX8_paysOf 115 = .ok (.aload_n 0, 1) := by decide +kernel
theorem dX8_paysOf_116 : decode cX8_paysOf 116 = .ok (.getfield 13, 3) := by decide +kernel
theorem dX8_paysOf_119 : decode cX8_paysOf 119 = .ok (.iconst 1, 1) := by decide +kernel
theorem dX8_paysOf_120 : decode cX8_paysOf 120 = .ok (.iaload, 1) := by decide +kernel
theorem dX8_paysOf_121 : decode cX8_paysOf 121 = .ok (.aload_n 0, 1) := by decide +kernel
theorem dX8_paysOf_122 : decode cX8_paysOf 122 = .ok (.invokevirtual 162, 3) := by decide +kernel
theorem dX8_paysOf_125 : decode cX8_paysOf 125 = .ok (.imul, 1) := by decide +kernel
theorem dX8_paysOf_126 : decode cX8_paysOf 126 = .ok (.isub, 1) := by decide +kernel
theorem dX8_paysOf_127 : decode cX8_paysOf 127 = .ok (.ireturn, 1) := by decide +kernel
theorem dX8_paidAll_0 : decode cX8_paidAll 0 = .ok (.iconst 0, 1) := by decide +kernel
theorem dX8_paidAll_1 : decode cX8_paidAll 1 = .ok (.istore_n 2, 1) := by decide +kernel
theorem dX8_paidAll_2 : decode cX8_paidAll 2 = .ok (.iconst 0, 1) := by decide +kernel
theorem dX8_paidAll_3 : decode cX8_paidAll 3 = .ok (.istore_n 3, 1) := by decide +kernel
theorem dX8_paidAll_4 : decode cX8_paidAll 4 = .ok (.iload_n 3, 1) := by decide +kernel
theorem dX8_paidAll_5 : decode cX8_paidAll 5 = .ok (.aload_n 0, 1) := by decide +kernel
theorem dX8_paidAll_6 : decode cX8_paidAll 6 = .ok (.invokevirtual 61, 3) := by decide +kernel
theorem dX8_paidAll_9 : decode cX8_paidAll 9 = .ok (.if_icmp .ge 18, 3) := by decide +kernel
theorem dX8_paidAll_12 : decode cX8_paidAll 12 = .ok (.iload_n 2, 1) := by decide +kernel
theorem dX8_paidAll_13 : decode cX8_paidAll 13 = .ok (.aload_n 0, 1) := by decide +kernel
theorem dX8_paidAll_14 : decode cX8_paidAll 14 = .ok (.iload_n 3, 1) := by decide +kernel
theorem dX8_paidAll_15 : decode cX8_paidAll 15 = .ok (.iload_n 1, 1) := by decide +kernel
theorem dX8_paidAll_16 : decode cX8_paidAll 16 = .ok (.invokevirtual 165, 3) := by decide +kernel
theorem dX8_paidAll_19 : decode cX8_paidAll 19 = .ok (.iadd, 1) := by decide +kernel
theorem dX8_paidAll_20 : decode cX8_paidAll 20 = .ok (.istore_n 2, 1) := by decide +kernel
theorem dX8_paidAll_21 : decode cX8_paidAll 21 = .ok (.iinc 3 1, 3) := by decide +kernel
theorem dX8_paidAll_24 : decode cX8_paidAll 24 = .ok (.goto (-20), 3) := by decide +kernel
theorem dX8_paidAll_27 : decode cX8_paidAll 27 = .ok (.iload_n 2, 1) := by decide +kernel
theorem dX8_paidAll_28 : decode cX8_paidAll 28 = .ok (.ireturn, 1) := by decide +kernel
theorem dX8_gainOf_0 : decode cX8_gainOf 0 = .ok (.aload_n 0, 1) := by decide +kernel
theorem dX8_gainOf_1 : decode cX8_gainOf 1 = .ok (.iload_n 1, 1) := by decide +kernel
theorem dX8_gainOf_2 : decode cX8_gainOf 2 = .ok (.aload_n 0, 1) := by decide +kernel
theorem dX8_gainOf_3 : decode cX8_gainOf 3 = .ok (.getfield 26, 3) := by decide +kernel
theorem dX8_gainOf_6 : decode cX8_gainOf 6 = .ok (.iload_n 1, 1) := by decide +kernel
theorem dX8_gainOf_7 : decode cX8_gainOf 7 = .ok (.iaload, 1) := by decide +kernel
theorem dX8_gainOf_8 : decode cX8_gainOf 8 = .ok (.invokevirtual 150, 3) := by decide +kernel
theorem dX8_gainOf_11 : decode cX8_gainOf 11 = .ok (.aload_n 0, 1) := by decide +kernel
theorem dX8_gainOf_12 : decode cX8_gainOf 12 = .ok (.iload_n 1, 1) := by decide +kernel
theorem dX8_gainOf_13 : decode cX8_gainOf 13 = .ok (.iload_n 2, 1) := by decide +kernel
theorem dX8_gainOf_14 : decode cX8_gainOf 14 = .ok (.invokevirtual 165, 3) := by decide +kernel
theorem dX8_gainOf_17 : decode cX8_gainOf 17 = .ok (.isub, 1) := by decide +kernel
theorem dX8_gainOf_18 : decode cX8_gainOf 18 = .ok (.ireturn, 1) := by decide +kernel
theorem dX8_settles_0 : decode cX8_settles 0 = .ok (.iconst 0, 1) := by decide +kernel
theorem dX8_settles_1 : decode cX8_settles 1 = .ok (.istore_n 1, 1) := by decide +kernel
theorem dX8_settles_2 : decode cX8_settles 2 = .ok (.iload_n 1, 1) := by decide +kernel
theorem dX8_settles_3 : decode cX8_settles 3 = .ok (.aload_n 0, 1) := by decide +kernel
theorem dX8_settles_4 : decode cX8_settles 4 = .ok (.invokevirtual 61, 3) := by decide +kernel
theorem dX8_settles_7 : decode cX8_settles 7 = .ok (.if_icmp .ge 53, 3) := by decide +kernel
theorem dX8_settles_10 : decode cX8_settles 10 = .ok (.iconst 0, 1) := by decide +kernel
theorem dX8_settles_11 : decode cX8_settles 11 = .ok (.istore_n 2, 1) := by decide +kernel
theorem dX8_settles_12 : decode cX8_settles 12 = .ok (.iload_n 2, 1) := by decide +kernel
theorem dX8_settles_13 : decode cX8_settles 13 = .ok (.aload_n 0, 1) := by decide +kernel
theorem dX8_settles_14 : decode cX8_settles 14 = .ok (.getfield 26, 3) := by decide +kernel
theorem dX8_settles_17 : decode cX8_settles 17 = .ok (.iload_n 1, 1) := by decide +kernel
theorem dX8_settles_18 : decode cX8_settles 18 = .ok (.iaload, 1) := by decide +kernel
theorem dX8_settles_19 : decode cX8_settles 19 = .ok (.if_icmp .ge 15, 3) := by decide +kernel
theorem dX8_settles_22 : decode cX8_settles 22 = .ok (.aload_n 0, 1) := by decide +kernel
theorem dX8_settles_23 : decode cX8_settles 23 = .ok (.iload_n 1, 1) := by decide +kernel
theorem dX8_settles_24 : decode cX8_settles 24 = .ok (.iconst 0, 1) := by decide +kernel
theorem dX8_settles_25 : decode cX8_settles 25 = .ok (.invokevirtual 108, 3) := by decide +kernel
theorem dX8_settles_28 : decode cX8_settles 28 = .ok (.iinc 2 1, 3) := by decide +kernel
theorem dX8_settles_31 : decode cX8_settles 31 = .ok (.goto (-19), 3) := by decide +kernel
theorem dX8_settles_34 : decode cX8_settles 34 = .ok (.aload_n 0, 1) := by decide +kernel
theorem dX8_settles_35 : decode cX8_settles 35 = .ok (.getfield 13, 3) := by decide +kernel
theorem dX8_settles_38 : decode cX8_settles 38 = .ok (.iconst 3, 1) := by decide +kernel
theorem dX8_settles_39 : decode cX8_settles 39 = .ok (.bipush 10, 2) := by decide +kernel
theorem dX8_settles_41 : decode cX8_settles 41 = .ok (.iload_n 1, 1) := by decide +kernel
theorem dX8_settles_42 : decode cX8_settles 42 = .ok (.imul, 1) := by decide +kernel
theorem dX8_settles_43 : decode cX8_settles 43 = .ok (.iadd, 1) := by decide +kernel
theorem dX8_settles_44 : decode cX8_settles 44 = .ok (.dup2, 1) := by decide +kernel
theorem dX8_settles_45 : decode cX8_settles 45 = .ok (.iaload, 1) := by decide +kernel
theorem dX8_settles_46 : decode cX8_settles 46 = .ok (.aload_n 0, 1) := by decide +kernel
theorem dX8_settles_47 : decode cX8_settles 47 = .ok (.getfield 26, 3) := by decide +kernel
theorem dX8_settles_50 : decode cX8_settles 50 = .ok (.iload_n 1, 1) := by decide +kernel
theorem dX8_settles_51 : decode cX8_settles 51 = .ok (.iaload, 1) := by decide +kernel
theorem dX8_settles_52 : decode cX8_settles 52 = .ok (.isub, 1) := by decide +kernel
theorem dX8_settles_53 : decode cX8_settles 53 = .ok (.iastore, 1) := by decide +kernel
theorem dX8_settles_54 : decode cX8_settles 54 = .ok (.iinc 1 1, 3) := by decide +kernel
theorem dX8_settles_57 : decode cX8_settles 57 = .ok (.goto (-55), 3) := by decide +kernel
theorem dX8_settles_60 : decode cX8_settles 60 = .ok (.return_, 1) := by decide +kernel
theorem dX8_hold_0 : decode cX8_hold 0 = .ok (.iload_n 1, 1) := by decide +kernel
theorem dX8_hold_1 : decode cX8_hold 1 = .ok (.invokestatic 168, 3) := by decide +kernel
theorem dX8_hold_4 : decode cX8_hold 4 = .ok (.ifCond .ne 5, 3) := by decide +kernel
theorem dX8_hold_7 : decode cX8_hold 7 = .ok (.iconst (-1), 1) := by decide +kernel
theorem dX8_hold_8 : decode cX8_hold 8 = .ok (.ireturn, 1) := by decide +kernel
theorem dX8_hold_9 : decode cX8_hold 9 = .ok (.aload_n 0, 1) := by decide +kernel
theorem dX8_hold_10 : decode cX8_hold 10 = .ok (.invokevirtual 84, 3) := by decide +kernel
theorem dX8_hold_13 : decode cX8_hold 13 = .ok (.aload_n 0, 1) := by decide +kernel
theorem dX8_hold_14 : decode cX8_hold 14 = .ok (.invokevirtual 171, 3) := by decide +kernel
theorem dX8_hold_17 : decode cX8_hold 17 = .ok (.aload_n 0, 1) := by decide +kernel
theorem dX8_hold_18 : decode cX8_hold 18 = .ok (.iload_n 1, 1) := by decide +kernel
theorem dX8_hold_19 : decode cX8_hold 19 = .ok (.invokevirtual 174, 3) := by decide +kernel
theorem dX8_hold_22 : decode cX8_hold 22 = .ok (.istore_n 2, 1) := by decide +kernel
theorem dX8_hold_23 : decode cX8_hold 23 = .ok (.aload_n 0, 1) := by decide +kernel
theorem dX8_hold_24 : decode cX8_hold 24 = .ok (.getfield 13, 3) := by decide +kernel
theorem dX8_hold_27 : decode cX8_hold 27 = .ok (.bipush 93, 2) := by decide +kernel
theorem dX8_hold_29 : decode cX8_hold 29 = .ok (.iaload, 1) := by decide +kernel
theorem dX8_hold_30 : decode cX8_hold 30 = .ok (.bipush 8, 2) := by decide +kernel
theorem dX8_hold_32 : decode cX8_hold 32 = .ok (.if_icmp .ne 48, 3) := by decide +kernel
theorem dX8_hold_35 : decode cX8_hold 35 = .ok (.iconst 4, 1) := by decide +kernel
theorem dX8_hold_36 : decode cX8_hold 36 = .ok (.istore_n 3, 1) := by decide +kernel
theorem dX8_hold_37 : decode cX8_hold 37 = .ok (.iload_n 3, 1) := by decide +kernel
theorem dX8_hold_38 : decode cX8_hold 38 = .ok (.bipush 32, 2) := by decide +kernel
theorem dX8_hold_40 : decode cX8_hold 40 = .ok (.if_icmp .ge 29, 3) := by decide +kernel
theorem dX8_hold_43 : decode cX8_hold 43 = .ok (.aload_n 0, 1) := by decide +kernel
theorem dX8_hold_44 : decode cX8_hold 44 = .ok (.getfield 13, 3) := by decide +kernel
theorem dX8_hold_47 : decode cX8_hold 47 = .ok (.bipush 94, 2) := by decide +kernel
theorem dX8_hold_49 : decode cX8_hold 49 = .ok (.iload_n 3, 1) := by decide +kernel
theorem dX8_hold_50 : decode cX8_hold 50 = .ok (.iadd, 1) := by decide +kernel
theorem dX8_hold_51 : decode cX8_hold 51 = .ok (.iconst 4, 1) := by decide +kernel
theorem dX8_hold_52 : decode cX8_hold 52 = .ok (.isub, 1) := by decide +kernel
theorem dX8_hold_53 : decode cX8_hold 53 = .ok (.aload_n 0, 1) := by decide +kernel
theorem dX8_hold_54 : decode cX8_hold 54 = .ok (.getfield 13, 3) := by decide +kernel
theorem dX8_hold_57 : decode cX8_hold 57 = .ok (.bipush 94, 2) := by decide +kernel
theorem dX8_hold_59 : decode cX8_hold 59 = .ok (.iload_n 3, 1) := by decide +kernel
theorem dX8_hold_60 : decode cX8_hold 60 = .ok (.iadd, 1) := by decide +kernel
theorem dX8_hold_61 : decode cX8_hold 61 = .ok (.iaload, 1) := by decide +kernel
theorem dX8_hold_62 : decode cX8_hold 62 = .ok (.iastore, 1) := by decide +kernel
theorem dX8_hold_63 : decode cX8_hold 63 = .ok (.iinc 3 1, 3) := by decide +kernel
theorem dX8_hold_66 : decode cX8_hold 66 = .ok (.goto (-29), 3) := by decide +kernel
theorem dX8_hold_69 : decode cX8_hold 69 = .ok (.aload_n 0, 1) := by decide +kernel
theorem dX8_hold_70 : decode cX8_hold 70 = .ok (.getfield 13, 3) := by decide +kernel
theorem dX8_hold_73 : decode cX8_hold 73 = .ok (.bipush 93, 2) := by decide +kernel
theorem dX8_hold_75 : decode cX8_hold 75 = .ok (.dup2, 1) := by decide +kernel
theorem dX8_hold_76 : decode cX8_hold 76 = .ok (.iaload, 1) := by decide +kernel
theorem dX8_hold_77 : decode cX8_hold 77 = .ok (.iconst 1, 1) := by decide +kernel
theorem dX8_hold_78 : decode cX8_hold 78 = .ok (.isub, 1) := by decide +kernel
theorem dX8_hold_79 : decode cX8_hold 79 = .ok (.iastore, 1) := by decide +kernel
theorem dX8_hold_80 : decode cX8_hold 80 = .ok (.bipush 94, 2) := by decide +kernel
theorem dX8_hold_82 : decode cX8_hold 82 = .ok (.iconst 4, 1) := by decide +kernel
theorem dX8_hold_83 : decode cX8_hold 83 = .ok (.aload_n 0, 1) := by decide +kernel
theorem dX8_hold_84 : decode cX8_hold 84 = .ok (.getfield 13, 3) := by decide +kernel
theorem dX8_hold_87 : decode cX8_hold 87 = .ok (.bipush 93, 2) := by decide +kernel
theorem dX8_hold_89 : decode cX8_hold 89 = .ok (.iaload, 1) := by decide +kernel
theorem dX8_hold_90 : decode cX8_hold 90 = .ok (.imul, 1) := by decide +kernel
theorem dX8_hold_91 : decode cX8_hold 91 = .ok (.iadd, 1) := by decide +kernel
theorem dX8_hold_92 : decode cX8_hold 92 = .ok (.istore_n 3, 1) := by decide +kernel
theorem dX8_hold_93 : decode cX8_hold 93 = .ok (.aload_n 0, 1) := by decide +kernel
theorem dX8_hold_94 : decode cX8_hold 94 = .ok (.getfield 13, 3) := by decide +kernel
theorem dX8_hold_97 : decode cX8_hold 97 = .ok (.iload_n 3, 1) := by decide +kernel
theorem dX8_hold_98 : decode cX8_hold 98 = .ok (.aload_n 0, 1) := by decide +kernel
theorem dX8_hold_99 : decode cX8_hold 99 = .ok (.getfield 144, 3) := by decide +kernel
theorem dX8_hold_102 : decode cX8_hold 102 = .ok (.iastore, 1) := by decide +kernel
theorem dX8_hold_103 : decode cX8_hold 103 = .ok (.aload_n 0, 1) := by decide +kernel
theorem dX8_hold_104 : decode cX8_hold 104 = .ok (.getfield 13, 3) := by decide +kernel
theorem dX8_hold_107 : decode cX8_hold 107 = .ok (.iload_n 3, 1) := by decide +kernel
theorem dX8_hold_108 : decode cX8_hold 108 = .ok (.iconst 1, 1) := by decide +kernel
theorem dX8_hold_109 : decode cX8_hold 109 = .ok (.iadd, 1) := by decide +kernel
theorem dX8_hold_110 : decode cX8_hold 110 = .ok (.aload_n 0, 1) := by decide +kernel
theorem dX8_hold_111 : decode cX8_hold 111 = .ok (.getfield 135, 3) := by decide +kernel
theorem dX8_hold_114 : decode cX8_hold 114 = .ok (.iastore, 1) := by decide +kernel
theorem dX8_hold_115 : decode cX8_hold 115 = .ok (.aload_n 0, 1) := by decide +kernel
theorem dX8_hold_116 : decode cX8_hold 116 = .ok (.getfield 13, 3) := by decide +kernel
theorem dX8_hold_119 : decode cX8_hold 119 = .ok (.iload_n 3, 1) := by decide +kernel
theorem dX8_hold_120 : decode cX8_hold 120 = .ok (.iconst 2, 1) := by decide +kernel
theorem dX8_hold_121 : decode cX8_hold 121 = .ok (.iadd, 1) := by decide +kernel
theorem dX8_hold_122 : decode cX8_hold 122 = .ok (.iload_n 2, 1) := by decide +kernel
theorem dX8_hold_123 : decode cX8_hold 123 = .ok (.iastore, 1) := by decide +kernel
theorem dX8_hold_124 : decode cX8_hold 124 = .ok (.aload_n 0, 1) := by decide +kernel
theorem dX8_hold_125 : decode cX8_hold 125 = .ok (.getfield 13, 3) := by decide +kernel
theorem dX8_hold_128 : decode cX8_hold 128 = .ok (.iload_n 3, 1) := by decide +kernel
theorem dX8_hold_129 : decode cX8_hold 129 = .ok (.iconst 3, 1) := by decide +kernel
theorem dX8_hold_130 : decode cX8_hold 130 = .ok (.iadd, 1) := by decide +kernel
theorem dX8_hold_131 : decode cX8_hold 131 = .ok (.iload_n 1, 1) := by decide +kernel
theorem dX8_hold_132 : decode cX8_hold 132 = .ok (.iastore, 1) := by decide +kernel
theorem dX8_hold_133 : decode cX8_hold 133 = .ok (.aload_n 0, 1) := by decide +kernel
theorem dX8_hold_134 : decode cX8_hold 134 = .ok (.getfield 13, 3) := by decide +kernel
theorem dX8_hold_137 : decode cX8_hold 137 = .ok (.bipush 93, 2) := by decide +kernel
theorem dX8_hold_139 : decode cX8_hold 139 = .ok (.dup2, 1) := by decide +kernel
theorem dX8_hold_140 : decode cX8_hold 140 = .ok (.iaload, 1) := by decide +kernel
theorem dX8_hold_141 : decode cX8_hold 141 = .ok (.iconst 1, 1) := by decide +kernel
theorem dX8_hold_142 : decode cX8_hold 142 = .ok (.iadd, 1) := by decide +kernel
theorem dX8_hold_143 : decode cX8_hold 143 = .ok (.iastore, 1) := by decide +kernel
theorem dX8_hold_144 : decode cX8_hold 144 = .ok (.aload_n 0, 1) := by decide +kernel
theorem dX8_hold_145 : decode cX8_hold 145 = .ok (.invokevirtual 177, 3) := by decide +kernel
theorem dX8_hold_148 : decode cX8_hold 148 = .ok (.aload_n 0, 1) := by decide +kernel
theorem dX8_hold_149 : decode cX8_hold 149 = .ok (.getfield 135, 3) := by decide +kernel
theorem dX8_hold_152 : decode cX8_hold 152 = .ok (.ireturn, 1) := by decide +kernel
theorem dX8_record_0 : decode cX8_record 0 = .ok (.iload_n 1, 1) := by decide +kernel
theorem dX8_record_1 : decode cX8_record 1 = .ok (.iconst 0, 1) := by decide +kernel
theorem dX8_record_2 : decode cX8_record 2 = .ok (.aload_n 0, 1) := by decide +kernel
theorem dX8_record_3 : decode cX8_record 3 = .ok (.getfield 13, 3) := by decide +kernel
theorem dX8_record_6 : decode cX8_record 6 = .ok (.bipush 93, 2) := by decide +kernel
theorem dX8_record_8 : decode cX8_record 8 = .ok (.iaload, 1) := by decide +kernel
theorem dX8_record_9 : decode cX8_record 9 = .ok (.iconst 1, 1) := by decide +kernel
theorem dX8_record_10 : decode cX8_record 10 = .ok (.isub, 1) := by decide +kernel
theorem dX8_record_11 : decode cX8_record 11 = .ok (.invokestatic 65, 3) := by decide +kernel
theorem dX8_record_14 : decode cX8_record 14 = .ok (.ifCond .eq 38, 3) := by decide +kernel
theorem dX8_record_17 : decode cX8_record 17 = .ok (.iload_n 2, 1) := by decide +kernel
theorem dX8_record_18 : decode cX8_record 18 = .ok (.iconst 0, 1) := by decide +kernel
theorem dX8_record_19 : decode cX8_record 19 = .ok (.iconst 3, 1) := by decide +kernel
theorem dX8_record_20 : decode cX8_record 20 = .ok (.invokestatic 65, 3) := by decide +kernel
theorem dX8_record_23 : decode cX8_record 23 = .ok (.ifCond .eq 29, 3) := by decide +kernel
theorem dX8_record_26 : decode cX8_record 26 = .ok (.aload_n 0, 1) := by decide +kernel
theorem dX8_record_27 : decode cX8_record 27 = .ok (.getfield 13, 3) := by decide +kernel
theorem dX8_record_30 : decode cX8_record 30 = .ok (.bipush 94, 2) := by decide +kernel
theorem dX8_record_32 : decode cX8_record 32 = .ok (.iconst 4, 1) := by decide +kernel
theorem dX8_record_33 : decode cX8_record 33 = .ok (.aload_n 0, 1) := by decide +kernel
theorem dX8_record_34 : decode cX8_record 34 = .ok (.getfield 13, 3) := by decide +kernel
theorem dX8_record_37 : decode cX8_record 37 = .ok (.bipush 93, 2) := by decide +kernel
theorem dX8_record_39 : decode cX8_record 39 = .ok (.iaload, 1) := by decide +kernel
theorem dX8_record_40 : decode cX8_record 40 = .ok (.iconst 1, 1) := by decide +kernel
theorem dX8_record_41 : decode cX8_record 41 = .ok (.isub, 1) := by decide +kernel
theorem dX8_record_42 : decode cX8_record 42 = .ok (.iload_n 1, 1) := by decide +kernel
theorem dX8_record_43 : decode cX8_record 43 = .ok (.isub, 1) := by decide +kernel
theorem dX8_record_44 : decode cX8_record 44 = .ok (.imul, 1) := by decide +kernel
theorem dX8_record_45 : decode cX8_record 45 = .ok (.iadd, 1) := by decide +kernel
theorem dX8_record_46 : decode cX8_record 46 = .ok (.iload_n 2, 1) := by decide +kernel
theorem dX8_record_47 : decode cX8_record 47 = .ok (.iadd, 1) := by decide +kernel
theorem dX8_record_48 : decode cX8_record 48 = .ok (.iaload, 1) := by decide +kernel
theorem dX8_record_49 : decode cX8_record 49 = .ok (.goto 4, 3) := by decide +kernel
theorem dX8_record_52 : decode cX8_record 52 = .ok (.iconst (-1), 1) := by decide +kernel
theorem dX8_record_53 : decode cX8_record 53 = .ok (.ireturn, 1) := by decide +kernel
theorem dX8_of_0 : decode cX8_of 0 = .ok (.aload_n 0, 1) := by decide +kernel
theorem dX8_of_1 : decode cX8_of 1 = .ok (.iload_n 1, 1) := by decide +kernel
theorem dX8_of_2 : decode cX8_of 2 = .ok (.invokevirtual 90, 3) := by decide +kernel
theorem dX8_of_5 : decode cX8_of 5 = .ok (.ifCond .eq 12, 3) := by decide +kernel
theorem dX8_of_8 : decode cX8_of 8 = .ok (.iload_n 2, 1) := by decide +kernel
theorem dX8_of_9 : decode cX8_of 9 = .ok (.iconst 0, 1) := by decide +kernel
theorem dX8_of_10 : decode cX8_of 10 = .ok (.iconst 5, 1) := by decide +kernel
theorem dX8_of_11 : decode cX8_of 11 = .ok (.invokestatic 65, 3) := by decide +kernel
theorem dX8_of_14 : decode cX8_of 14 = .ok (.ifCond .ne 5, 3) := by decide +kernel
theorem dX8_of_17 : decode cX8_of 17 = .ok (.iconst (-1), 1) := by decide +kernel
theorem dX8_of_18 : decode cX8_of 18 = .ok (.ireturn, 1) := by decide +kernel
theorem dX8_of_19 : decode cX8_of 19 = .ok (.aload_n 0, 1) := by decide +kernel
theorem dX8_of_20 : decode cX8_of 20 = .ok (.invokevirtual 171, 3) := by decide +kernel
theorem dX8_of_23 : decode cX8_of 23 = .ok (.iload_n 2, 1) := by decide +kernel
theorem dX8_of_24 : decode cX8_of 24 = .ok (.tableswitch 81 0 4 #[36, 42, 48, 55, 67], 36) := by decide +kernel
theorem dX8_of_60 : decode cX8_of 60 = .ok (.aload_n 0, 1) := by decide +kernel
theorem dX8_of_61 : decode cX8_of 61 = .ok (.iload_n 1, 1) := by decide +kernel
theorem dX8_of_62 : decode cX8_of 62 = .ok (.invokevirtual 73, 3) := by decide +kernel
theorem dX8_of_65 : decode cX8_of 65 = .ok (.ireturn, 1) := by decide +kernel
theorem dX8_of_66 : decode cX8_of 66 = .ok (.aload_n 0, 1) := by decide +kernel
theorem dX8_of_67 : decode cX8_of 67 = .ok (.iload_n 1, 1) := by decide +kernel
theorem dX8_of_68 : decode cX8_of 68 = .ok (.invokevirtual 69, 3) := by decide +kernel
theorem dX8_of_71 : decode cX8_of 71 = .ok (.ireturn, 1) := by decide +kernel
theorem dX8_of_72 : decode cX8_of 72 = .ok (.aload_n 0, 1) := by decide +kernel
theorem dX8_of_73 : decode cX8_of 73 = .ok (.getfield 26, 3) := by decide +kernel
theorem dX8_of_76 : decode cX8_of 76 = .ok (.iload_n 1, 1) := by decide +kernel
theorem dX8_of_77 : decode cX8_of 77 = .ok (.iaload, 1) := by decide +kernel
theorem dX8_of_78 : decode cX8_of 78 = .ok (.ireturn, 1) := by decide +kernel
theorem dX8_of_79 : decode cX8_of 79 = .ok (.aload_n 0, 1) := by decide +kernel
theorem dX8_of_80 : decode cX8_of 80 = .ok (.iload_n 1, 1) := by decide +kernel
theorem dX8_of_81 : decode cX8_of 81 = .ok (.aload_n 0, 1) := by decide +kernel
theorem dX8_of_82 : decode cX8_of 82 = .ok (.getfield 26, 3) := by decide +kernel
theorem dX8_of_85 : decode cX8_of 85 = .ok (.iload_n 1, 1) := by decide +kernel
theorem dX8_of_86 : decode cX8_of 86 = .ok (.iaload, 1) := by decide +kernel
theorem dX8_of_87 : decode cX8_of 87 = .ok (.invokevirtual 150, 3) := by decide +kernel
theorem dX8_of_90 : decode cX8_of 90 = .ok (.ireturn, 1) := by decide +kernel
theorem dX8_of_91 : decode cX8_of 91 = .ok (.aload_n 0, 1) := by decide +kernel
theorem dX8_of_92 : decode cX8_of 92 = .ok (.getfield 26, 3) := by decide +kernel
theorem dX8_of_95 : decode cX8_of 95 = .ok (.iload_n 1, 1) := by decide +kernel
theorem dX8_of_96 : decode cX8_of 96 = .ok (.iaload, 1) := by decide +kernel
theorem dX8_of_97 : decode cX8_of 97 = .ok (.aload_n 0, 1) := by decide +kernel
theorem dX8_of_98 : decode cX8_of 98 = .ok (.getfield 29, 3) := by decide +kernel
theorem dX8_of_101 : decode cX8_of 101 = .ok (.iload_n 1, 1) := by decide +kernel
theorem dX8_of_102 : decode cX8_of 102 = .ok (.iaload, 1) := by decide +kernel
theorem dX8_of_103 : decode cX8_of 103 = .ok (.isub, 1) := by decide +kernel
theorem dX8_of_104 : decode cX8_of 104 = .ok (.ireturn, 1) := by decide +kernel
theorem dX8_of_105 : decode cX8_of 105 = .ok (.aload_n 0, 1) := by decide +kernel
theorem dX8_of_106 : decode cX8_of 106 = .ok (.getfield 29, 3) := by decide +kernel
theorem dX8_of_109 : decode cX8_of 109 = .ok (.iload_n 1, 1) := by decide +kernel
theorem dX8_of_110 : decode cX8_of 110 = .ok (.iaload, 1) := by decide +kernel
theorem dX8_of_111 : decode cX8_of 111 = .ok (.ifCond .ne 8, 3) := by decide +kernel
theorem dX8_of_114 : decode cX8_of 114 = .ok (.bipush (-2), 2) := by decide +kernel
theorem dX8_of_116 : decode cX8_of 116 = .ok (.goto 12, 3) := by decide +kernel
theorem dX8_of_119 : decode cX8_of 119 = .ok (.aload_n 0, 1) := by decide +kernel
theorem dX8_of_120 : decode cX8_of 120 = .ok (.getfield 32, 3) := by decide +kernel
theorem dX8_of_123 : decode cX8_of 123 = .ok (.bipush 8, 2) := by decide +kernel
theorem dX8_of_125 : decode cX8_of 125 = .ok (.iload_n 1, 1) := by decide +kernel
theorem dX8_of_126 : decode cX8_of 126 = .ok (.imul, 1) := by decide +kernel
theorem dX8_of_127 : decode cX8_of 127 = .ok (.iaload, 1) := by decide +kernel
theorem dX8_of_128 : decode cX8_of 128 = .ok (.ireturn, 1) := by decide +kernel
theorem dX8_valueOf_0 : decode cX8_valueOf 0 = .ok (.aload_n 0, 1) := by decide +kernel
theorem dX8_valueOf_1 : decode cX8_valueOf 1 = .ok (.iload_n 1, 1) := by decide +kernel
theorem dX8_valueOf_2 : decode cX8_valueOf 2 = .ok (.iload_n 2, 1) := by decide +kernel
theorem dX8_valueOf_3 : decode cX8_valueOf 3 = .ok (.invokevirtual 104, 3) := by decide +kernel
theorem dX8_valueOf_6 : decode cX8_valueOf 6 = .ok (.ifCond .eq 12, 3) := by decide +kernel
theorem dX8_valueOf_9 : decode cX8_valueOf 9 = .ok (.aload_n 0, 1) := by decide +kernel
theorem dX8_valueOf_10 : decode cX8_valueOf 10 = .ok (.iload_n 1, 1) := by decide +kernel
theorem dX8_valueOf_11 : decode cX8_valueOf 11 = .ok (.iload_n 2, 1) := by decide +kernel
theorem dX8_valueOf_12 : decode cX8_valueOf 12 = .ok (.invokevirtual 114, 3) := by decide +kernel
theorem dX8_valueOf_15 : decode cX8_valueOf 15 = .ok (.goto 4, 3) := by decide +kernel
theorem dX8_valueOf_18 : decode cX8_valueOf 18 = .ok (.iconst (-1), 1) := by decide +kernel
theorem dX8_valueOf_19 : decode cX8_valueOf 19 = .ok (.ireturn, 1) := by decide +kernel
theorem dX8_unit_0 : decode cX8_unit 0 = .ok (.aload_n 0, 1) := by decide +kernel
theorem dX8_unit_1 : decode cX8_unit 1 = .ok (.iload_n 1, 1) := by decide +kernel
theorem dX8_unit_2 : decode cX8_unit 2 = .ok (.invokevirtual 90, 3) := by decide +kernel
theorem dX8_unit_5 : decode cX8_unit 5 = .ok (.ifCond .eq 7, 3) := by decide +kernel
theorem dX8_unit_8 : decode cX8_unit 8 = .ok (.iload_n 2, 1) := by decide +kernel
theorem dX8_unit_9 : decode cX8_unit 9 = .ok (.ifCond .ge 5, 3) := by decide +kernel
theorem dX8_unit_12 : decode cX8_unit 12 = .ok (.iconst (-1), 1) := by decide +kernel
theorem dX8_unit_13 : decode cX8_unit 13 = .ok (.ireturn, 1) := by decide +kernel
theorem dX8_unit_14 : decode cX8_unit 14 = .ok (.aload_n 0, 1) := by decide +kernel
theorem dX8_unit_15 : decode cX8_unit 15 = .ok (.invokevirtual 171, 3) := by decide +kernel
theorem dX8_unit_18 : decode cX8_unit 18 = .ok (.iload_n 2, 1) := by decide +kernel
theorem dX8_unit_19 : decode cX8_unit 19 = .ok (.aload_n 0, 1) := by decide +kernel
theorem dX8_unit_20 : decode cX8_unit 20 = .ok (.getfield 26, 3) := by decide +kernel
theorem dX8_unit_23 : decode cX8_unit 23 = .ok (.iload_n 1, 1) := by decide +kernel
theorem dX8_unit_24 : decode cX8_unit 24 = .ok (.iaload, 1) := by decide +kernel
theorem dX8_unit_25 : decode cX8_unit 25 = .ok (.if_icmp .ge 17, 3) := by decide +kernel
theorem dX8_unit_28 : decode cX8_unit 28 = .ok (.aload_n 0, 1) := by decide +kernel
theorem dX8_unit_29 : decode cX8_unit 29 = .ok (.getfield 32, 3) := by decide +kernel
theorem dX8_unit_32 : decode cX8_unit 32 = .ok (.bipush 8, 2) := by decide +kernel
theorem dX8_unit_34 : decode cX8_unit 34 = .ok (.iload_n 1, 1) := by decide +kernel
theorem dX8_unit_35 : decode cX8_unit 35 = .ok (.imul, 1) := by decide +kernel
theorem dX8_unit_36 : decode cX8_unit 36 = .ok (.iload_n 2, 1) := by decide +kernel
theorem dX8_unit_37 : decode cX8_unit 37 = .ok (.iadd, 1) := by decide +kernel
theorem dX8_unit_38 : decode cX8_unit 38 = .ok (.iaload, 1) := by decide +kernel
theorem dX8_unit_39 : decode cX8_unit 39 = .ok (.goto 5, 3) := by decide +kernel
theorem dX8_unit_42 : decode cX8_unit 42 = .ok (.bipush (-2), 2) := by decide +kernel
theorem dX8_unit_44 : decode cX8_unit 44 = .ok (.ireturn, 1) := by decide +kernel
theorem dX8_pays_0 : decode cX8_pays 0 = .ok (.aload_n 0, 1) := by decide +kernel
theorem dX8_pays_1 : decode cX8_pays 1 = .ok (.iload_n 1, 1) := by decide +kernel
theorem dX8_pays_2 : decode cX8_pays 2 = .ok (.invokevirtual 90, 3) := by decide +kernel
theorem dX8_pays_5 : decode cX8_pays 5 = .ok (.ifCond .eq 10, 3) := by decide +kernel
theorem dX8_pays_8 : decode cX8_pays 8 = .ok (.iload_n 2, 1) := by decide +kernel
theorem dX8_pays_9 : decode cX8_pays 9 = .ok (.invokestatic 168, 3) := by decide +kernel
theorem dX8_pays_12 : decode cX8_pays 12 = .ok (.ifCond .ne 5, 3) := by decide +kernel
theorem dX8_pays_15 : decode cX8_pays 15 = .ok (.iconst (-1), 1) := by decide +kernel
theorem dX8_pays_16 : decode cX8_pays 16 = .ok (.ireturn, 1) := by decide +kernel
theorem dX8_pays_17 : decode cX8_pays 17 = .ok (.aload_n 0, 1) := by decide +kernel
theorem dX8_pays_18 : decode cX8_pays 18 = .ok (.invokevirtual 171, 3) := by decide +kernel
theorem dX8_pays_21 : decode cX8_pays 21 = .ok (.aload_n 0, 1) := by decide +kernel
theorem dX8_pays_22 : decode cX8_pays 22 = .ok (.iload_n 1, 1) := by decide +kernel
theorem dX8_pays_23 : decode cX8_pays 23 = .ok (.iload_n 2, 1) := by decide +kernel
theorem dX8_pays_24 : decode cX8_pays 24 = .ok (.invokevirtual 165, 3) := by decide +kernel
theorem dX8_pays_27 : decode cX8_pays 27 = .ok (.ireturn, 1) := by decide +kernel
theorem dX8_gain_0 : decode cX8_gain 0 = .ok (.aload_n 0, 1) := by decide +kernel
theorem dX8_gain_1 : decode cX8_gain 1 = .ok (.iload_n 1, 1) := by decide +kernel
theorem dX8_gain_2 : decode cX8_gain 2 = .ok (.invokevirtual 90, 3) := by decide +kernel
theorem dX8_gain_5 : decode cX8_gain 5 = .ok (.ifCond .eq 10, 3) := by decide +kernel
theorem dX8_gain_8 : decode cX8_gain 8 = .ok (.iload_n 2, 1) := by decide +kernel
theorem dX8_gain_9 : decode cX8_gain 9 = .ok (.invokestatic 168, 3) := by decide +kernel
theorem dX8_gain_12 : decode cX8_gain 12 = .ok (.ifCond .ne 6, 3) := by decide +kernel
theorem dX8_gain_15 : decode cX8_gain 15 = .ok (.ldc 180, 2) := by decide +kernel
theorem dX8_gain_17 : decode cX8_gain 17 = .ok (.ireturn, 1) := by decide +kernel
theorem dX8_gain_18 : decode cX8_gain 18 = .ok (.aload_n 0, 1) := by decide +kernel
theorem dX8_gain_19 : decode cX8_gain 19 = .ok (.invokevirtual 171, 3) := by decide +kernel
theorem dX8_gain_22 : decode cX8_gain 22 = .ok (.aload_n 0, 1) := by decide +kernel
theorem dX8_gain_23 : decode cX8_gain 23 = .ok (.iload_n 1, 1) := by decide +kernel
theorem dX8_gain_24 : decode cX8_gain 24 = .ok (.iload_n 2, 1) := by decide +kernel
theorem dX8_gain_25 : decode cX8_gain 25 = .ok (.invokevirtual 181, 3) := by decide +kernel
theorem dX8_gain_28 : decode cX8_gain 28 = .ok (.ireturn, 1) := by decide +kernel
theorem dX8_at_0 : decode cX8_at 0 = .ok (.aload_n 0, 1) := by decide +kernel
theorem dX8_at_1 : decode cX8_at 1 = .ok (.iload_n 1, 1) := by decide +kernel
theorem dX8_at_2 : decode cX8_at 2 = .ok (.invokevirtual 90, 3) := by decide +kernel
theorem dX8_at_5 : decode cX8_at 5 = .ok (.ifCond .eq 19, 3) := by decide +kernel
theorem dX8_at_8 : decode cX8_at 8 = .ok (.iload_n 2, 1) := by decide +kernel
theorem dX8_at_9 : decode cX8_at 9 = .ok (.invokestatic 98, 3) := by decide +kernel
theorem dX8_at_12 : decode cX8_at 12 = .ok (.ifCond .eq 12, 3) := by decide +kernel
theorem dX8_at_15 : decode cX8_at 15 = .ok (.iload_n 3, 1) := by decide +kernel
theorem dX8_at_16 : decode cX8_at 16 = .ok (.iconst 0, 1) := by decide +kernel
theorem dX8_at_17 : decode cX8_at 17 = .ok (.iconst 3, 1) := by decide +kernel
theorem dX8_at_18 : decode cX8_at 18 = .ok (.invokestatic 65, 3) := by decide +kernel
theorem dX8_at_21 : decode cX8_at 21 = .ok (.ifCond .ne 5, 3) := by decide +kernel
theorem dX8_at_24 : decode cX8_at 24 = .ok (.iconst (-1), 1) := by decide +kernel
theorem dX8_at_25 : decode cX8_at 25 = .ok (.ireturn, 1) := by decide +kernel
theorem dX8_at_26 : decode cX8_at 26 = .ok (.iload_n 3, 1) := by decide +kernel
theorem dX8_at_27 : decode cX8_at 27 = .ok (.ifCond .ne 10, 3) := by decide +kernel
theorem dX8_at_30 : decode cX8_at 30 = .ok (.aload_n 0, 1) := by decide +kernel
theorem dX8_at_31 : decode cX8_at 31 = .ok (.iload_n 1, 1) := by decide +kernel
theorem dX8_at_32 : decode cX8_at 32 = .ok (.iload_n 2, 1) := by decide +kernel
theorem dX8_at_33 : decode cX8_at 33 = .ok (.invokevirtual 129, 3) := by decide +kernel
theorem dX8_at_36 : decode cX8_at 36 = .ok (.ireturn, 1) := by decide +kernel
theorem dX8_at_37 : decode cX8_at 37 = .ok (.iload_n 3, 1) := by decide +kernel
theorem dX8_at_38 : decode cX8_at 38 = .ok (.iconst 1, 1) := by decide +kernel
theorem dX8_at_39 : decode cX8_at 39 = .ok (.if_icmp .ne 12, 3) := by decide +kernel
theorem dX8_at_42 : decode cX8_at 42 = .ok (.aload_n 0, 1) := by decide +kernel
theorem dX8_at_43 : decode cX8_at 43 = .ok (.iload_n 1, 1) := by decide +kernel
theorem dX8_at_44 : decode cX8_at 44 = .ok (.iload_n 2, 1) := by decide +kernel
theorem dX8_at_45 : decode cX8_at 45 = .ok (.iconst 1, 1) := by decide +kernel
theorem dX8_at_46 : decode cX8_at 46 = .ok (.isub, 1) := by decide +kernel
theorem dX8_at_47 : decode cX8_at 47 = .ok (.invokevirtual 129, 3) := by decide +kernel
theorem dX8_at_50 : decode cX8_at 50 = .ok (.ireturn, 1) := by decide +kernel
theorem dX8_at_51 : decode cX8_at 51 = .ok (.iload_n 3, 1) := by decide +kernel
theorem dX8_at_52 : decode cX8_at 52 = .ok (.iconst 2, 1) := by decide +kernel
theorem dX8_at_53 : decode cX8_at 53 = .ok (.if_icmp .ne 10, 3) := by decide +kernel
theorem dX8_at_56 : decode cX8_at 56 = .ok (.aload_n 0, 1) := by decide +kernel
theorem dX8_at_57 : decode cX8_at 57 = .ok (.iload_n 1, 1) := by decide +kernel
theorem dX8_at_58 : decode cX8_at 58 = .ok (.iload_n 2, 1) := by decide +kernel
theorem dX8_at_59 : decode cX8_at 59 = .ok (.invokevirtual 138, 3) := by decide +kernel
theorem dX8_at_62 : decode cX8_at 62 = .ok (.ireturn, 1) := by decide +kernel
theorem dX8_at_63 : decode cX8_at 63 = .ok (.aload_n 0, 1) := by decide +kernel
theorem dX8_at_64 : decode cX8_at 64 = .ok (.invokevirtual 171, 3) := by decide +kernel
theorem dX8_at_67 : decode cX8_at 67 = .ok (.iconst 0, 1) := by decide +kernel
theorem dX8_at_68 : decode cX8_at 68 = .ok (.istore 4, 2) := by decide +kernel
theorem dX8_at_70 : decode cX8_at 70 = .ok (.iconst 0, 1) := by decide +kernel
theorem dX8_at_71 : decode cX8_at 71 = .ok (.istore 5, 2) := by decide +kernel
theorem dX8_at_73 : decode cX8_at 73 = .ok (.iload 5, 2) := by decide +kernel
theorem dX8_at_75 : decode cX8_at 75 = .ok (.aload_n 0, 1) := by decide +kernel
theorem dX8_at_76 : decode cX8_at 76 = .ok (.getfield 29, 3) := by decide +kernel
theorem dX8_at_79 : decode cX8_at 79 = .ok (.iload_n 1, 1) := by decide +kernel
theorem dX8_at_80 : decode cX8_at 80 = .ok (.iaload, 1) := by decide +kernel
theorem dX8_at_81 : decode cX8_at 81 = .ok (.if_icmp .ge 28, 3) := by decide +kernel
theorem dX8_at_84 : decode cX8_at 84 = .ok (.aload_n 0, 1) := by decide +kernel
theorem dX8_at_85 : decode cX8_at 85 = .ok (.getfield 32, 3) := by decide +kernel
theorem dX8_at_88 : decode cX8_at 88 = .ok (.bipush 8, 2) := by decide +kernel
theorem dX8_at_90 : decode cX8_at 90 = .ok (.iload_n 1, 1) := by decide +kernel
theorem dX8_at_91 : decode cX8_at 91 = .ok (.imul, 1) := by decide +kernel
theorem dX8_at_92 : decode cX8_at 92 = .ok (.iload 5, 2) := by decide +kernel
theorem dX8_at_94 : decode cX8_at 94 = .ok (.iadd, 1) := by decide +kernel
theorem dX8_at_95 : decode cX8_at 95 = .ok (.iaload, 1) := by decide +kernel
theorem dX8_at_96 : decode cX8_at 96 = .ok (.iload_n 2, 1) := by decide +kernel
theorem dX8_at_97 : decode cX8_at 97 = .ok (.if_icmp .gt 6, 3) := by decide +kernel
theorem dX8_at_100 : decode cX8_at 100 = .ok (.iinc 4 1, 3) := by decide +kernel
theorem dX8_at_103 : decode cX8_at 103 = .ok (.iinc 5 1, 3) := by decide +kernel
theorem dX8_at_106 : decode cX8_at 106 = .ok (.goto (-33), 3) := by decide +kernel
theorem dX8_at_109 : decode cX8_at 109 = .ok (.iload 4, 2) := by decide +kernel
theorem dX8_at_111 : decode cX8_at 111 = .ok (.ireturn, 1) := by decide +kernel
theorem dX8_clinchedPrices_0 : decode cX8_clinchedPrices 0 = .ok (.iconst 0, 1) := by decide +kernel
theorem dX8_clinchedPrices_1 : decode cX8_clinchedPrices 1 = .ok (.istore_n 1, 1) := by decide +kernel
theorem dX8_clinchedPrices_2 : decode cX8_clinchedPrices 2 = .ok (.iconst 0, 1) := by decide +kernel
theorem dX8_clinchedPrices_3 : decode cX8_clinchedPrices 3 = .ok (.istore_n 2, 1) := by decide +kernel
theorem dX8_clinchedPrices_4 : decode cX8_clinchedPrices 4 = .ok (.iload_n 2, 1) := by decide +kernel
theorem dX8_clinchedPrices_5 : decode cX8_clinchedPrices 5 = .ok (.aload_n 0, 1) := by decide +kernel
theorem dX8_clinchedPrices_6 : decode cX8_clinchedPrices 6 = .ok (.getfield 144, 3) := by decide +kernel
theorem dX8_clinchedPrices_9 : decode cX8_clinchedPrices 9 = .ok (.if_icmp .gt 84, 3) := by decide +kernel
theorem dX8_clinchedPrices_12 : decode cX8_clinchedPrices 12 = .ok (.iconst 0, 1) := by decide +kernel
theorem dX8_clinchedPrices_13 : decode cX8_clinchedPrices 13 = .ok (.istore_n 3, 1) := by decide +kernel
theorem dX8_clinchedPrices_14 : decode cX8_clinchedPrices 14 = .ok (.iconst 0, 1) := by decide +kernel
theorem dX8_clinchedPrices_15 : decode cX8_clinchedPrices 15 = .ok (.istore 4, 2) := by decide +kernel
theorem dX8_clinchedPrices_17 : decode cX8_clinchedPrices 17 = .ok (.iload 4, 2) := by decide +kernel
theorem dX8_clinchedPrices_19 : decode cX8_clinchedPrices 19 = .ok (.aload_n 0, 1) := by decide +kernel
theorem dX8_clinchedPrices_20 : decode cX8_clinchedPrices 20 = .ok (.invokevirtual 61, 3) := by decide +kernel
theorem dX8_clinchedPrices_23 : decode cX8_clinchedPrices 23 = .ok (.if_icmp .ge 57, 3) := by decide +kernel
theorem dX8_clinchedPrices_26 : decode cX8_clinchedPrices 26 = .ok (.iconst 0, 1) := by decide +kernel
theorem dX8_clinchedPrices_27 : decode cX8_clinchedPrices 27 = .ok (.istore 5, 2) := by decide +kernel
theorem dX8_clinchedPrices_29 : decode cX8_clinchedPrices 29 = .ok (.iload 5, 2) := by decide +kernel
theorem dX8_clinchedPrices_31 : decode cX8_clinchedPrices 31 = .ok (.aload_n 0, 1) := by decide +kernel
theorem dX8_clinchedPrices_32 : decode cX8_clinchedPrices 32 = .ok (.getfield 29, 3) := by decide +kernel
theorem dX8_clinchedPrices_35 : decode cX8_clinchedPrices 35 = .ok (.iload 4, 2) := by decide +kernel
theorem dX8_clinchedPrices_37 : decode cX8_clinchedPrices 37 = .ok (.iaload, 1) := by decide +kernel
theorem dX8_clinchedPrices_38 : decode cX8_clinchedPrices 38 = .ok (.if_icmp .ge 36, 3) := by decide +kernel
theorem dX8_clinchedPrices_41 : decode cX8_clinchedPrices 41 = .ok (.iload_n 3, 1) := by decide +kernel
theorem dX8_clinchedPrices_42 : decode cX8_clinchedPrices 42 = .ok (.ifCond .ne 20, 3) := by decide +kernel
theorem dX8_clinchedPrices_45 : decode cX8_clinchedPrices 45 = .ok (.aload_n 0, 1) := by decide +kernel
theorem dX8_clinchedPrices_46 : decode cX8_clinchedPrices 46 = .ok (.getfield 32, 3) := by decide +kernel
theorem dX8_clinchedPrices_49 : decode cX8_clinchedPrices 49 = .ok (.bipush 8, 2) := by decide +kernel
theorem dX8_clinchedPrices_51 : decode cX8_clinchedPrices 51 = .ok (.iload 4, 2) := by decide +kernel
theorem dX8_clinchedPrices_53 : decode cX8_clinchedPrices 53 = .ok (.imul, 1) := by decide +kernel
theorem dX8_clinchedPrices_54 : decode cX8_clinchedPrices 54 = .ok (.iload 5, 2) := by decide +kernel
theorem dX8_clinchedPrices_56 : decode cX8_clinchedPrices 56 = .ok (.iadd, 1) := by decide +kernel
theorem dX8_clinchedPrices_57 : decode cX8_clinchedPrices 57 = .ok (.iaload, 1) := by decide +kernel
theorem dX8_clinchedPrices_58 : decode cX8_clinchedPrices 58 = .ok (.iload_n 2, 1) := by decide +kernel
theorem dX8_clinchedPrices_59 : decode cX8_clinchedPrices 59 = .ok (.if_icmp .ne 7, 3) := by decide +kernel
theorem dX8_clinchedPrices_62 : decode cX8_clinchedPrices 62 = .ok (.iconst 1, 1) := by decide +kernel
theorem dX8_clinchedPrices_63 : decode cX8_clinchedPrices 63 = .ok (.goto 4, 3) := by decide +kernel
theorem dX8_clinchedPrices_66 : decode cX8_clinchedPrices 66 = .ok (.iconst 0, 1) := by decide +kernel
theorem dX8_clinchedPrices_67 : decode cX8_clinchedPrices 67 = .ok (.istore_n 3, 1) := by decide +kernel
theorem dX8_clinchedPrices_68 : decode cX8_clinchedPrices 68 = .ok (.iinc 5 1, 3) := by decide +kernel
theorem dX8_clinchedPrices_71 : decode cX8_clinchedPrices 71 = .ok (.goto (-42), 3) := by decide +kernel
theorem dX8_clinchedPrices_74 : decode cX8_clinchedPrices 74 = .ok (.iinc 4 1, 3) := by decide +kernel
theorem dX8_clinchedPrices_77 : decode cX8_clinchedPrices 77 = .ok (.goto (-60), 3) := by decide +kernel
theorem dX8_clinchedPrices_80 : decode cX8_clinchedPrices 80 = .ok (.iload_n 3, 1) := by decide +kernel
theorem dX8_clinchedPrices_81 : decode cX8_clinchedPrices 81 = .ok (.ifCond .eq 6, 3) := by decide +kernel
theorem dX8_clinchedPrices_84 : decode cX8_clinchedPrices 84 = .ok (.iinc 1 1, 3) := by decide +kernel
theorem dX8_clinchedPrices_87 : decode cX8_clinchedPrices 87 = .ok (.iinc 2 1, 3) := by decide +kernel
theorem dX8_clinchedPrices_90 : decode cX8_clinchedPrices 90 = .ok (.goto (-86), 3) := by decide +kernel
theorem dX8_clinchedPrices_93 : decode cX8_clinchedPrices 93 = .ok (.iload_n 1, 1) := by decide +kernel
theorem dX8_clinchedPrices_94 : decode cX8_clinchedPrices 94 = .ok (.ireturn, 1) := by decide +kernel
theorem dX8_isResult_0 : decode cX8_isResult 0 = .ok (.iload_n 0, 1) := by decide +kernel
theorem dX8_isResult_1 : decode cX8_isResult 1 = .ok (.iconst 0, 1) := by decide +kernel
theorem dX8_isResult_2 : decode cX8_isResult 2 = .ok (.bipush 9, 2) := by decide +kernel
theorem dX8_isResult_4 : decode cX8_isResult 4 = .ok (.invokestatic 65, 3) := by decide +kernel
theorem dX8_isResult_7 : decode cX8_isResult 7 = .ok (.ireturn, 1) := by decide +kernel
theorem dX8_told_0 : decode cX8_told 0 = .ok (.aload_n 0, 1) := by decide +kernel
theorem dX8_told_1 : decode cX8_told 1 = .ok (.invokevirtual 171, 3) := by decide +kernel
theorem dX8_told_4 : decode cX8_told 4 = .ok (.iconst 0, 1) := by decide +kernel
theorem dX8_told_5 : decode cX8_told 5 = .ok (.istore_n 2, 1) := by decide +kernel
theorem dX8_told_6 : decode cX8_told 6 = .ok (.iconst 0, 1) := by decide +kernel
theorem dX8_told_7 : decode cX8_told 7 = .ok (.istore_n 3, 1) := by decide +kernel
theorem dX8_told_8 : decode cX8_told 8 = .ok (.iconst 0, 1) := by decide +kernel
theorem dX8_told_9 : decode cX8_told 9 = .ok (.istore 4, 2) := by decide +kernel
theorem dX8_told_11 : decode cX8_told 11 = .ok (.iload 4, 2) := by decide +kernel
theorem dX8_told_13 : decode cX8_told 13 = .ok (.aload_n 0, 1) := by decide +kernel
theorem dX8_told_14 : decode cX8_told 14 = .ok (.invokevirtual 61, 3) := by decide +kernel
theorem dX8_told_17 : decode cX8_told 17 = .ok (.if_icmp .ge 32, 3) := by decide +kernel
theorem dX8_told_20 : decode cX8_told 20 = .ok (.iload_n 2, 1) := by decide +kernel
theorem dX8_told_21 : decode cX8_told 21 = .ok (.aload_n 0, 1) := by decide +kernel
theorem dX8_told_22 : decode cX8_told 22 = .ok (.getfield 29, 3) := by decide +kernel
theorem dX8_told_25 : decode cX8_told 25 = .ok (.iload 4, 2) := by decide +kernel
theorem dX8_told_27 : decode cX8_told 27 = .ok (.iaload, 1) := by decide +kernel
theorem dX8_told_28 : decode cX8_told 28 = .ok (.iadd, 1) := by decide +kernel
theorem dX8_told_29 : decode cX8_told 29 = .ok (.istore_n 2, 1) := by decide +kernel
theorem dX8_told_30 : decode cX8_told 30 = .ok (.aload_n 0, 1) := by decide +kernel
theorem dX8_told_31 : decode cX8_told 31 = .ok (.getfield 26, 3) := by decide +kernel
theorem dX8_told_34 : decode cX8_told 34 = .ok (.iload 4, 2) := by decide +kernel
theorem dX8_told_36 : decode cX8_told 36 = .ok (.iaload, 1) := by decide +kernel
theorem dX8_told_37 : decode cX8_told 37 = .ok (.ifCond .le 6, 3) := by decide +kernel
theorem dX8_told_40 : decode cX8_told 40 = .ok (.iinc 3 1, 3) := by decide +kernel
theorem dX8_told_43 : decode cX8_told 43 = .ok (.iinc 4 1, 3) := by decide +kernel
theorem dX8_told_46 : decode cX8_told 46 = .ok (.goto (-35), 3) := by decide +kernel
theorem dX8_told_49 : decode cX8_told 49 = .ok (.iload_n 1, 1) := by decide +kernel
theorem dX8_told_50 : decode cX8_told 50 = .ok (.tableswitch 119 0 8 #[50, 55, 60, 65, 67, 69, 75, 90, 95], 50) := by decide +kernel
theorem dX8_told_100 : decode cX8_told 100 = .ok (.aload_n 0, 1) := by decide +kernel
theorem dX8_told_101 : decode cX8_told 101 = .ok (.getfield 144, 3) := by decide +kernel
theorem dX8_told_104 : decode cX8_told 104 = .ok (.ireturn, 1) := by decide +kernel
theorem dX8_told_105 : decode cX8_told 105 = .ok (.aload_n 0, 1) := by decide +kernel
theorem dX8_told_106 : decode cX8_told 106 = .ok (.getfield 135, 3) := by decide +kernel
theorem dX8_told_109 : decode cX8_told 109 = .ok (.ireturn, 1) := by decide +kernel
theorem dX8_told_110 : decode cX8_told 110 = .ok (.aload_n 0, 1) := by decide +kernel
theorem dX8_told_111 : decode cX8_told 111 = .ok (.invokevirtual 162, 3) := by decide +kernel
theorem dX8_told_114 : decode cX8_told 114 = .ok (.ireturn, 1) := by decide +kernel
theorem dX8_told_115 : decode cX8_told 115 = .ok (.iload_n 2, 1) := by decide +kernel
theorem dX8_told_116 : decode cX8_told 116 = .ok (.ireturn, 1) := by decide +kernel
theorem dX8_told_117 : decode cX8_told 117 = .ok (.iload_n 3, 1) := by decide +kernel
theorem dX8_told_118 : decode cX8_told 118 = .ok (.ireturn, 1) := by decide +kernel
theorem dX8_told_119 : decode cX8_told 119 = .ok (.aload_n 0, 1) := by decide +kernel
theorem dX8_told_120 : decode cX8_told 120 = .ok (.iconst (-1), 1) := by decide +kernel
theorem dX8_told_121 : decode cX8_told 121 = .ok (.invokevirtual 159, 3) := by decide +kernel
theorem dX8_told_124 : decode cX8_told 124 = .ok (.ireturn, 1) := by decide +kernel
theorem dX8_told_125 : decode cX8_told 125 = .ok (.aload_n 0, 1) := by decide +kernel
theorem dX8_told_126 : decode cX8_told 126 = .ok (.aload_n 0, 1) := by decide +kernel
theorem dX8_told_127 : decode cX8_told 127 = .ok (.invokevirtual 153, 3) := by decide +kernel
theorem dX8_told_130 : decode cX8_told 130 = .ok (.aload_n 0, 1) := by decide +kernel
theorem dX8_told_131 : decode cX8_told 131 = .ok (.getfield 13, 3) := by decide +kernel
theorem dX8_told_134 : decode cX8_told 134 = .ok (.iconst 0, 1) := by decide +kernel
theorem dX8_told_135 : decode cX8_told 135 = .ok (.iaload, 1) := by decide +kernel
theorem dX8_told_136 : decode cX8_told 136 = .ok (.invokevirtual 156, 3) := by decide +kernel
theorem dX8_told_139 : decode cX8_told 139 = .ok (.ireturn, 1) := by decide +kernel
theorem dX8_told_140 : decode cX8_told 140 = .ok (.aload_n 0, 1) := by decide +kernel
theorem dX8_told_141 : decode cX8_told 141 = .ok (.invokevirtual 184, 3) := by decide +kernel
theorem dX8_told_144 : decode cX8_told 144 = .ok (.ireturn, 1) := by decide +kernel
theorem dX8_told_145 : decode cX8_told 145 = .ok (.aload_n 0, 1) := by decide +kernel
theorem dX8_told_146 : decode cX8_told 146 = .ok (.getfield 135, 3) := by decide +kernel
theorem dX8_told_149 : decode cX8_told 149 = .ok (.ifCond .ne 8, 3) := by decide +kernel
theorem dX8_told_152 : decode cX8_told 152 = .ok (.bipush (-2), 2) := by decide +kernel
theorem dX8_told_154 : decode cX8_told 154 = .ok (.goto 14, 3) := by decide +kernel
theorem dX8_told_157 : decode cX8_told 157 = .ok (.aload_n 0, 1) := by decide +kernel
theorem dX8_told_158 : decode cX8_told 158 = .ok (.getfield 38, 3) := by decide +kernel
theorem dX8_told_161 : decode cX8_told 161 = .ok (.aload_n 0, 1) := by decide +kernel
theorem dX8_told_162 : decode cX8_told 162 = .ok (.getfield 135, 3) := by decide +kernel
theorem dX8_told_165 : decode cX8_told 165 = .ok (.iconst 1, 1) := by decide +kernel
theorem dX8_told_166 : decode cX8_told 166 = .ok (.isub, 1) := by decide +kernel
theorem dX8_told_167 : decode cX8_told 167 = .ok (.iaload, 1) := by decide +kernel
theorem dX8_told_168 : decode cX8_told 168 = .ok (.ireturn, 1) := by decide +kernel
theorem dX8_told_169 : decode cX8_told 169 = .ok (.aload_n 0, 1) := by decide +kernel
theorem dX8_told_170 : decode cX8_told 170 = .ok (.getfield 135, 3) := by decide +kernel
theorem dX8_told_173 : decode cX8_told 173 = .ok (.ifCond .ne 8, 3) := by decide +kernel
theorem dX8_told_176 : decode cX8_told 176 = .ok (.bipush (-2), 2) := by decide +kernel
theorem dX8_told_178 : decode cX8_told 178 = .ok (.goto 9, 3) := by decide +kernel
theorem dX8_told_181 : decode cX8_told 181 = .ok (.aload_n 0, 1) := by decide +kernel
theorem dX8_told_182 : decode cX8_told 182 = .ok (.getfield 38, 3) := by decide +kernel
theorem dX8_told_185 : decode cX8_told 185 = .ok (.iconst 0, 1) := by decide +kernel
theorem dX8_told_186 : decode cX8_told 186 = .ok (.iaload, 1) := by decide +kernel
theorem dX8_told_187 : decode cX8_told 187 = .ok (.ireturn, 1) := by decide +kernel
theorem dX8_result_0 : decode cX8_result 0 = .ok (.iload_n 1, 1) := by decide +kernel
theorem dX8_result_1 : decode cX8_result 1 = .ok (.invokestatic 187, 3) := by decide +kernel
theorem dX8_result_4 : decode cX8_result 4 = .ok (.ifCond .eq 11, 3) := by decide +kernel
theorem dX8_result_7 : decode cX8_result 7 = .ok (.aload_n 0, 1) := by decide +kernel
theorem dX8_result_8 : decode cX8_result 8 = .ok (.iload_n 1, 1) := by decide +kernel
theorem dX8_result_9 : decode cX8_result 9 = .ok (.invokevirtual 190, 3) := by decide +kernel
theorem dX8_result_12 : decode cX8_result 12 = .ok (.goto 4, 3) := by decide +kernel
theorem dX8_result_15 : decode cX8_result 15 = .ok (.iconst (-1), 1) := by decide +kernel
theorem dX8_result_16 : decode cX8_result 16 = .ok (.ireturn, 1) := by decide +kernel
theorem dX8_paid_0 : decode cX8_paid 0 = .ok (.iload_n 1, 1) := by decide +kernel
theorem dX8_paid_1 : decode cX8_paid 1 = .ok (.invokestatic 168, 3) := by decide +kernel
theorem dX8_paid_4 : decode cX8_paid 4 = .ok (.ifCond .ne 5, 3) := by decide +kernel
theorem dX8_paid_7 : decode cX8_paid 7 = .ok (.iconst (-1), 1) := by decide +kernel
theorem dX8_paid_8 : decode cX8_paid 8 = .ok (.ireturn, 1) := by decide +kernel
theorem dX8_paid_9 : decode cX8_paid 9 = .ok (.aload_n 0, 1) := by decide +kernel
theorem dX8_paid_10 : decode cX8_paid 10 = .ok (.invokevirtual 171, 3) := by decide +kernel
theorem dX8_paid_13 : decode cX8_paid 13 = .ok (.aload_n 0, 1) := by decide +kernel
theorem dX8_paid_14 : decode cX8_paid 14 = .ok (.iload_n 1, 1) := by decide +kernel
theorem dX8_paid_15 : decode cX8_paid 15 = .ok (.invokevirtual 174, 3) := by decide +kernel
theorem dX8_paid_18 : decode cX8_paid 18 = .ok (.ireturn, 1) := by decide +kernel
theorem dX8_wanted_0 : decode cX8_wanted 0 = .ok (.iload_n 1, 1) := by decide +kernel
theorem dX8_wanted_1 : decode cX8_wanted 1 = .ok (.invokestatic 98, 3) := by decide +kernel
theorem dX8_wanted_4 : decode cX8_wanted 4 = .ok (.ifCond .eq 11, 3) := by decide +kernel
theorem dX8_wanted_7 : decode cX8_wanted 7 = .ok (.aload_n 0, 1) := by decide +kernel
theorem dX8_wanted_8 : decode cX8_wanted 8 = .ok (.iload_n 1, 1) := by decide +kernel
theorem dX8_wanted_9 : decode cX8_wanted 9 = .ok (.invokevirtual 132, 3) := by decide +kernel
theorem dX8_wanted_12 : decode cX8_wanted 12 = .ok (.goto 4, 3) := by decide +kernel
theorem dX8_wanted_15 : decode cX8_wanted 15 = .ok (.iconst (-1), 1) := by decide +kernel
theorem dX8_wanted_16 : decode cX8_wanted 16 = .ok (.ireturn, 1) := by decide +kernel
theorem dX8_sold_0 : decode cX8_sold 0 = .ok (.iload_n 1, 1) := by decide +kernel
theorem dX8_sold_1 : decode cX8_sold 1 = .ok (.ifCond .lt 12, 3) := by decide +kernel
theorem dX8_sold_4 : decode cX8_sold 4 = .ok (.iload_n 2, 1) := by decide +kernel
theorem dX8_sold_5 : decode cX8_sold 5 = .ok (.iconst 0, 1) := by decide +kernel
theorem dX8_sold_6 : decode cX8_sold 6 = .ok (.iconst 1, 1) := by decide +kernel
theorem dX8_sold_7 : decode cX8_sold 7 = .ok (.invokestatic 65, 3) := by decide +kernel
theorem dX8_sold_10 : decode cX8_sold 10 = .ok (.ifCond .ne 5, 3) := by decide +kernel
theorem dX8_sold_13 : decode cX8_sold 13 = .ok (.iconst (-1), 1) := by decide +kernel
theorem dX8_sold_14 : decode cX8_sold 14 = .ok (.ireturn, 1) := by decide +kernel
theorem dX8_sold_15 : decode cX8_sold 15 = .ok (.aload_n 0, 1) := by decide +kernel
theorem dX8_sold_16 : decode cX8_sold 16 = .ok (.invokevirtual 171, 3) := by decide +kernel
theorem dX8_sold_19 : decode cX8_sold 19 = .ok (.iload_n 1, 1) := by decide +kernel
theorem dX8_sold_20 : decode cX8_sold 20 = .ok (.aload_n 0, 1) := by decide +kernel
theorem dX8_sold_21 : decode cX8_sold 21 = .ok (.getfield 135, 3) := by decide +kernel
theorem dX8_sold_24 : decode cX8_sold 24 = .ok (.if_icmp .lt 5, 3) := by decide +kernel
theorem dX8_sold_27 : decode cX8_sold 27 = .ok (.iconst (-1), 1) := by decide +kernel
theorem dX8_sold_28 : decode cX8_sold 28 = .ok (.ireturn, 1) := by decide +kernel
theorem dX8_sold_29 : decode cX8_sold 29 = .ok (.iload_n 2, 1) := by decide +kernel
theorem dX8_sold_30 : decode cX8_sold 30 = .ok (.ifCond .ne 12, 3) := by decide +kernel
theorem dX8_sold_33 : decode cX8_sold 33 = .ok (.aload_n 0, 1) := by decide +kernel
theorem dX8_sold_34 : decode cX8_sold 34 = .ok (.getfield 35, 3) := by decide +kernel
theorem dX8_sold_37 : decode cX8_sold 37 = .ok (.iload_n 1, 1) := by decide +kernel
theorem dX8_sold_38 : decode cX8_sold 38 = .ok (.iaload, 1) := by decide +kernel
theorem dX8_sold_39 : decode cX8_sold 39 = .ok (.goto 9, 3) := by decide +kernel
theorem dX8_sold_42 : decode cX8_sold 42 = .ok (.aload_n 0, 1) := by decide +kernel
theorem dX8_sold_43 : decode cX8_sold 43 = .ok (.getfield 38, 3) := by decide +kernel
theorem dX8_sold_46 : decode cX8_sold 46 = .ok (.iload_n 1, 1) := by decide +kernel
theorem dX8_sold_47 : decode cX8_sold 47 = .ok (.iaload, 1) := by decide +kernel
theorem dX8_sold_48 : decode cX8_sold 48 = .ok (.ireturn, 1) := by decide +kernel
theorem dX8_worth_0 : decode cX8_worth 0 = .ok (.iload_n 1, 1) := by decide +kernel
theorem dX8_worth_1 : decode cX8_worth 1 = .ok (.iconst 0, 1) := by decide +kernel
theorem dX8_worth_2 : decode cX8_worth 2 = .ok (.aload_n 0, 1) := by decide +kernel
theorem dX8_worth_3 : decode cX8_worth 3 = .ok (.invokevirtual 153, 3) := by decide +kernel
theorem dX8_worth_6 : decode cX8_worth 6 = .ok (.invokestatic 65, 3) := by decide +kernel
theorem dX8_worth_9 : decode cX8_worth 9 = .ok (.ifCond .eq 22, 3) := by decide +kernel
theorem dX8_worth_12 : decode cX8_worth 12 = .ok (.iload_n 2, 1) := by decide +kernel
theorem dX8_worth_13 : decode cX8_worth 13 = .ok (.iconst 0, 1) := by decide +kernel
theorem dX8_worth_14 : decode cX8_worth 14 = .ok (.bipush 30, 2) := by decide +kernel
theorem dX8_worth_16 : decode cX8_worth 16 = .ok (.invokestatic 65, 3) := by decide +kernel
theorem dX8_worth_19 : decode cX8_worth 19 = .ok (.ifCond .eq 12, 3) := by decide +kernel
theorem dX8_worth_22 : decode cX8_worth 22 = .ok (.aload_n 0, 1) := by decide +kernel
theorem dX8_worth_23 : decode cX8_worth 23 = .ok (.iload_n 1, 1) := by decide +kernel
theorem dX8_worth_24 : decode cX8_worth 24 = .ok (.iload_n 2, 1) := by decide +kernel
theorem dX8_worth_25 : decode cX8_worth 25 = .ok (.invokevirtual 156, 3) := by decide +kernel
theorem dX8_worth_28 : decode cX8_worth 28 = .ok (.goto 4, 3) := by decide +kernel
theorem dX8_worth_31 : decode cX8_worth 31 = .ok (.iconst (-1), 1) := by decide +kernel
theorem dX8_worth_32 : decode cX8_worth 32 = .ok (.ireturn, 1) := by decide +kernel
theorem dX8_clinch_0 : decode cX8_clinch 0 = .ok (.aload_n 0, 1) := by decide +kernel
theorem dX8_clinch_1 : decode cX8_clinch 1 = .ok (.iload_n 1, 1) := by decide +kernel
theorem dX8_clinch_2 : decode cX8_clinch 2 = .ok (.invokevirtual 90, 3) := by decide +kernel
theorem dX8_clinch_5 : decode cX8_clinch 5 = .ok (.ifCond .eq 16, 3) := by decide +kernel
theorem dX8_clinch_8 : decode cX8_clinch 8 = .ok (.iload_n 2, 1) := by decide +kernel
theorem dX8_clinch_9 : decode cX8_clinch 9 = .ok (.ifCond .lt 12, 3) := by decide +kernel
theorem dX8_clinch_12 : decode cX8_clinch 12 = .ok (.iload_n 3, 1) := by decide +kernel
theorem dX8_clinch_13 : decode cX8_clinch 13 = .ok (.iconst 0, 1) := by decide +kernel
theorem dX8_clinch_14 : decode cX8_clinch 14 = .ok (.iconst 1, 1) := by decide +kernel
theorem dX8_clinch_15 : decode cX8_clinch 15 = .ok (.invokestatic 65, 3) := by decide +kernel
theorem dX8_clinch_18 : decode cX8_clinch 18 = .ok (.ifCond .ne 5, 3) := by decide +kernel
theorem dX8_clinch_21 : decode cX8_clinch 21 = .ok (.iconst (-1), 1) := by decide +kernel
theorem dX8_clinch_22 : decode cX8_clinch 22 = .ok (.ireturn, 1) := by decide +kernel
theorem dX8_clinch_23 : decode cX8_clinch 23 = .ok (.aload_n 0, 1) := by decide +kernel
theorem dX8_clinch_24 : decode cX8_clinch 24 = .ok (.invokevirtual 171, 3) := by decide +kernel
theorem dX8_clinch_27 : decode cX8_clinch 27 = .ok (.iconst 0, 1) := by decide +kernel
theorem dX8_clinch_28 : decode cX8_clinch 28 = .ok (.istore 4, 2) := by decide +kernel
theorem dX8_clinch_30 : decode cX8_clinch 30 = .ok (.iload_n 2, 1) := by decide +kernel
theorem dX8_clinch_31 : decode cX8_clinch 31 = .ok (.istore 5, 2) := by decide +kernel
theorem dX8_clinch_33 : decode cX8_clinch 33 = .ok (.iload 4, 2) := by decide +kernel
theorem dX8_clinch_35 : decode cX8_clinch 35 = .ok (.aload_n 0, 1) := by decide +kernel
theorem dX8_clinch_36 : decode cX8_clinch 36 = .ok (.getfield 29, 3) := by decide +kernel
theorem dX8_clinch_39 : decode cX8_clinch 39 = .ok (.iload_n 1, 1) := by decide +kernel
theorem dX8_clinch_40 : decode cX8_clinch 40 = .ok (.iaload, 1) := by decide +kernel
theorem dX8_clinch_41 : decode cX8_clinch 41 = .ok (.if_icmp .ge 90, 3) := by decide +kernel
theorem dX8_clinch_44 : decode cX8_clinch 44 = .ok (.aload_n 0, 1) := by decide +kernel
theorem dX8_clinch_45 : decode cX8_clinch 45 = .ok (.getfield 32, 3) := by decide +kernel
theorem dX8_clinch_48 : decode cX8_clinch 48 = .ok (.bipush 8, 2) := by decide +kernel
theorem dX8_clinch_50 : decode cX8_clinch 50 = .ok (.iload_n 1, 1) := by decide +kernel
theorem dX8_clinch_51 : decode cX8_clinch 51 = .ok (.imul, 1) := by decide +kernel
theorem dX8_clinch_52 : decode cX8_clinch 52 = .ok (.iload 4, 2) := by decide +kernel
theorem dX8_clinch_54 : decode cX8_clinch 54 = .ok (.iadd, 1) := by decide +kernel
theorem dX8_clinch_55 : decode cX8_clinch 55 = .ok (.iaload, 1) := by decide +kernel
theorem dX8_clinch_56 : decode cX8_clinch 56 = .ok (.istore 6, 2) := by decide +kernel
theorem dX8_clinch_58 : decode cX8_clinch 58 = .ok (.iconst 0, 1) := by decide +kernel
theorem dX8_clinch_59 : decode cX8_clinch 59 = .ok (.istore 7, 2) := by decide +kernel
theorem dX8_clinch_61 : decode cX8_clinch 61 = .ok (.iload 4, 2) := by decide +kernel
theorem dX8_clinch_63 : decode cX8_clinch 63 = .ok (.iload 7, 2) := by decide +kernel
theorem dX8_clinch_65 : decode cX8_clinch 65 = .ok (.iadd, 1) := by decide +kernel
theorem dX8_clinch_66 : decode cX8_clinch 66 = .ok (.aload_n 0, 1) := by decide +kernel
theorem dX8_clinch_67 : decode cX8_clinch 67 = .ok (.getfield 29, 3) := by decide +kernel
theorem dX8_clinch_70 : decode cX8_clinch 70 = .ok (.iload_n 1, 1) := by decide +kernel
theorem dX8_clinch_71 : decode cX8_clinch 71 = .ok (.iaload, 1) := by decide +kernel
theorem dX8_clinch_72 : decode cX8_clinch 72 = .ok (.if_icmp .ge 29, 3) := by decide +kernel
theorem dX8_clinch_75 : decode cX8_clinch 75 = .ok (.aload_n 0, 1) := by decide +kernel
theorem dX8_clinch_76 : decode cX8_clinch 76 = .ok (.getfield 32, 3) := by decide +kernel
theorem dX8_clinch_79 : decode cX8_clinch 79 = .ok (.bipush 8, 2) := by decide +kernel
theorem dX8_clinch_81 : decode cX8_clinch 81 = .ok (.iload_n 1, 1) := by decide +kernel
theorem dX8_clinch_82 : decode cX8_clinch 82 = .ok (.imul, 1) := by decide +kernel
theorem dX8_clinch_83 : decode cX8_clinch 83 = .ok (.iload 4, 2) := by decide +kernel
theorem dX8_clinch_85 : decode cX8_clinch 85 = .ok (.iadd, 1) := by decide +kernel
theorem dX8_clinch_86 : decode cX8_clinch 86 = .ok (.iload 7, 2) := by decide +kernel
theorem dX8_clinch_88 : decode cX8_clinch 88 = .ok (.iadd, 1) := by decide +kernel
theorem dX8_clinch_89 : decode cX8_clinch 89 = .ok (.iaload, 1) := by decide +kernel
theorem dX8_clinch_90 : decode cX8_clinch 90 = .ok (.iload 6, 2) := by decide +kernel
theorem dX8_clinch_92 : decode cX8_clinch 92 = .ok (.if_icmp .ne 9, 3) := by decide +kernel
theorem dX8_clinch_95 : decode cX8_clinch 95 = .ok (.iinc 7 1, 3) := by decide +kernel
theorem dX8_clinch_98 : decode cX8_clinch 98 = .ok (.goto (-37), 3) := by decide +kernel
theorem dX8_clinch_101 : decode cX8_clinch 101 = .ok (.iload 5, 2) := by decide +kernel
theorem dX8_clinch_103 : decode cX8_clinch 103 = .ok (.ifCond .ne 15, 3) := by decide +kernel
theorem dX8_clinch_106 : decode cX8_clinch 106 = .ok (.iload_n 3, 1) := by decide +kernel
theorem dX8_clinch_107 : decode cX8_clinch 107 = .ok (.ifCond .ne 8, 3) := by decide +kernel
theorem dX8_clinch_110 : decode cX8_clinch 110 = .ok (.iload 6, 2) := by decide +kernel
theorem dX8_clinch_112 : decode cX8_clinch 112 = .ok (.goto 5, 3) := by decide +kernel
theorem dX8_clinch_115 : decode cX8_clinch 115 = .ok (.iload 7, 2) := by decide +kernel
theorem dX8_clinch_117 : decode cX8_clinch 117 = .ok (.ireturn, 1) := by decide +kernel
theorem dX8_clinch_118 : decode cX8_clinch 118 = .ok (.iinc 5 (-1), 3) := by decide +kernel
theorem dX8_clinch_121 : decode cX8_clinch 121 = .ok (.iload 4, 2) := by decide +kernel
theorem dX8_clinch_123 : decode cX8_clinch 123 = .ok (.iload 7, 2) := by decide +kernel
theorem dX8_clinch_125 : decode cX8_clinch 125 = .ok (.iadd, 1) := by decide +kernel
theorem dX8_clinch_126 : decode cX8_clinch 126 = .ok (.istore 4, 2) := by decide +kernel
theorem dX8_clinch_128 : decode cX8_clinch 128 = .ok (.goto (-95), 3) := by decide +kernel
theorem dX8_clinch_131 : decode cX8_clinch 131 = .ok (.iconst (-1), 1) := by decide +kernel
theorem dX8_clinch_132 : decode cX8_clinch 132 = .ok (.ireturn, 1) := by decide +kernel
theorem dX8_dearest_0 : decode cX8_dearest 0 = .ok (.iload_n 1, 1) := by decide +kernel
theorem dX8_dearest_1 : decode cX8_dearest 1 = .ok (.invokestatic 168, 3) := by decide +kernel
theorem dX8_dearest_4 : decode cX8_dearest 4 = .ok (.ifCond .ne 5, 3) := by decide +kernel
theorem dX8_dearest_7 : decode cX8_dearest 7 = .ok (.iconst (-1), 1) := by decide +kernel
theorem dX8_dearest_8 : decode cX8_dearest 8 = .ok (.ireturn, 1) := by decide +kernel
theorem dX8_dearest_9 : decode cX8_dearest 9 = .ok (.aload_n 0, 1) := by decide +kernel
theorem dX8_dearest_10 : decode cX8_dearest 10 = .ok (.invokevirtual 171, 3) := by decide +kernel
theorem dX8_dearest_13 : decode cX8_dearest 13 = .ok (.bipush (-2), 2) := by decide +kernel
theorem dX8_dearest_15 : decode cX8_dearest 15 = .ok (.istore_n 2, 1) := by decide +kernel
theorem dX8_dearest_16 : decode cX8_dearest 16 = .ok (.iconst 0, 1) := by decide +kernel
theorem dX8_dearest_17 : decode cX8_dearest 17 = .ok (.istore_n 3, 1) := by decide +kernel
theorem dX8_dearest_18 : decode cX8_dearest 18 = .ok (.iload_n 3, 1) := by decide +kernel
theorem dX8_dearest_19 : decode cX8_dearest 19 = .ok (.aload_n 0, 1) := by decide +kernel
theorem dX8_dearest_20 : decode cX8_dearest 20 = .ok (.invokevirtual 61, 3) := by decide +kernel
theorem dX8_dearest_23 : decode cX8_dearest 23 = .ok (.if_icmp .ge 30, 3) := by decide +kernel
theorem dX8_dearest_26 : decode cX8_dearest 26 = .ok (.iload_n 2, 1) := by decide +kernel
theorem dX8_dearest_27 : decode cX8_dearest 27 = .ok (.ifCond .lt 18, 3) := by decide +kernel
theorem dX8_dearest_30 : decode cX8_dearest 30 = .ok (.aload_n 0, 1) := by decide +kernel
theorem dX8_dearest_31 : decode cX8_dearest 31 = .ok (.iload_n 3, 1) := by decide +kernel
theorem dX8_dearest_32 : decode cX8_dearest 32 = .ok (.iload_n 1, 1) := by decide +kernel
theorem dX8_dearest_33 : decode cX8_dearest 33 = .ok (.invokevirtual 165, 3) := by decide +kernel
theorem dX8_dearest_36 : decode cX8_dearest 36 = .ok (.aload_n 0, 1) := by decide +kernel
theorem dX8_dearest_37 : decode cX8_dearest 37 = .ok (.iload_n 2, 1) := by decide +kernel
theorem dX8_dearest_38 : decode cX8_dearest 38 = .ok (.iload_n 1, 1) := by decide +kernel
theorem dX8_dearest_39 : decode cX8_dearest 39 = .ok (.invokevirtual 165, 3) := by decide +kernel
theorem dX8_dearest_42 : decode cX8_dearest 42 = .ok (.if_icmp .le 5, 3) := by decide +kernel
theorem dX8_dearest_45 : decode cX8_dearest 45 = .ok (.iload_n 3, 1) := by decide +kernel
theorem dX8_dearest_46 : decode cX8_dearest 46 = .ok (.istore_n 2, 1) := by decide +kernel
theorem dX8_dearest_47 : decode cX8_dearest 47 = .ok (.iinc 3 1, 3) := by decide +kernel
theorem dX8_dearest_50 : decode cX8_dearest 50 = .ok (.goto (-32), 3) := by decide +kernel
theorem dX8_dearest_53 : decode cX8_dearest 53 = .ok (.iload_n 2, 1) := by decide +kernel
theorem dX8_dearest_54 : decode cX8_dearest 54 = .ok (.ireturn, 1) := by decide +kernel
theorem dX8_perUnit_0 : decode cX8_perUnit 0 = .ok (.aload_n 0, 1) := by decide +kernel
theorem dX8_perUnit_1 : decode cX8_perUnit 1 = .ok (.iload_n 1, 1) := by decide +kernel
theorem dX8_perUnit_2 : decode cX8_perUnit 2 = .ok (.invokevirtual 90, 3) := by decide +kernel
theorem dX8_perUnit_5 : decode cX8_perUnit 5 = .ok (.ifCond .eq 10, 3) := by decide +kernel
theorem dX8_perUnit_8 : decode cX8_perUnit 8 = .ok (.iload_n 2, 1) := by decide +kernel
theorem dX8_perUnit_9 : decode cX8_perUnit 9 = .ok (.invokestatic 168, 3) := by decide +kernel
theorem dX8_perUnit_12 : decode cX8_perUnit 12 = .ok (.ifCond .ne 5, 3) := by decide +kernel
theorem dX8_perUnit_15 : decode cX8_perUnit 15 = .ok (.iconst (-1), 1) := by decide +kernel
theorem dX8_perUnit_16 : decode cX8_perUnit 16 = .ok (.ireturn, 1) := by decide +kernel
theorem dX8_perUnit_17 : decode cX8_perUnit 17 = .ok (.aload_n 0, 1) := by decide +kernel
theorem dX8_perUnit_18 : decode cX8_perUnit 18 = .ok (.invokevirtual 171, 3) := by decide +kernel
theorem dX8_perUnit_21 : decode cX8_perUnit 21 = .ok (.aload_n 0, 1) := by decide +kernel
theorem dX8_perUnit_22 : decode cX8_perUnit 22 = .ok (.getfield 26, 3) := by decide +kernel
theorem dX8_perUnit_25 : decode cX8_perUnit 25 = .ok (.iload_n 1, 1) := by decide +kernel
theorem dX8_perUnit_26 : decode cX8_perUnit 26 = .ok (.iaload, 1) := by decide +kernel
theorem dX8_perUnit_27 : decode cX8_perUnit 27 = .ok (.ifCond .ne 8, 3) := by decide +kernel
theorem dX8_perUnit_30 : decode cX8_perUnit 30 = .ok (.bipush (-2), 2) := by decide +kernel
theorem dX8_perUnit_32 : decode cX8_perUnit 32 = .ok (.goto 16, 3) := by decide +kernel
theorem dX8_perUnit_35 : decode cX8_perUnit 35 = .ok (.aload_n 0, 1) := by decide +kernel
theorem dX8_perUnit_36 : decode cX8_perUnit 36 = .ok (.iload_n 1, 1) := by decide +kernel
theorem dX8_perUnit_37 : decode cX8_perUnit 37 = .ok (.iload_n 2, 1) := by decide +kernel
theorem dX8_perUnit_38 : decode cX8_perUnit 38 = .ok (.invokevirtual 165, 3) := by decide +kernel
theorem dX8_perUnit_41 : decode cX8_perUnit 41 = .ok (.aload_n 0, 1) := by decide +kernel
theorem dX8_perUnit_42 : decode cX8_perUnit 42 = .ok (.getfield 26, 3) := by decide +kernel
theorem dX8_perUnit_45 : decode cX8_perUnit 45 = .ok (.iload_n 1, 1) := by decide +kernel
theorem dX8_perUnit_46 : decode cX8_perUnit 46 = .ok (.iaload, 1) := by decide +kernel
theorem dX8_perUnit_47 : decode cX8_perUnit 47 = .ok (.idiv, 1) := by decide +kernel
theorem dX8_perUnit_48 : decode cX8_perUnit 48 = .ok (.ireturn, 1) := by decide +kernel
theorem dX8_alike_0 : decode cX8_alike 0 = .ok (.aload_n 0, 1) := by decide +kernel
theorem dX8_alike_1 : decode cX8_alike 1 = .ok (.iload_n 1, 1) := by decide +kernel
theorem dX8_alike_2 : decode cX8_alike 2 = .ok (.invokevirtual 90, 3) := by decide +kernel
theorem dX8_alike_5 : decode cX8_alike 5 = .ok (.ifCond .eq 11, 3) := by decide +kernel
theorem dX8_alike_8 : decode cX8_alike 8 = .ok (.aload_n 0, 1) := by decide +kernel
theorem dX8_alike_9 : decode cX8_alike 9 = .ok (.iload_n 2, 1) := by decide +kernel
theorem dX8_alike_10 : decode cX8_alike 10 = .ok (.invokevirtual 90, 3) := by decide +kernel
theorem dX8_alike_13 : decode cX8_alike 13 = .ok (.ifCond .ne 5, 3) := by decide +kernel
theorem dX8_alike_16 : decode cX8_alike 16 = .ok (.iconst (-1), 1) := by decide +kernel
theorem dX8_alike_17 : decode cX8_alike 17 = .ok (.ireturn, 1) := by decide +kernel
theorem dX8_alike_18 : decode cX8_alike 18 = .ok (.aload_n 0, 1) := by decide +kernel
theorem dX8_alike_19 : decode cX8_alike 19 = .ok (.iload_n 1, 1) := by decide +kernel
theorem dX8_alike_20 : decode cX8_alike 20 = .ok (.invokevirtual 69, 3) := by decide +kernel
theorem dX8_alike_23 : decode cX8_alike 23 = .ok (.aload_n 0, 1) := by decide +kernel
theorem dX8_alike_24 : decode cX8_alike 24 = .ok (.iload_n 2, 1) := by decide +kernel
theorem dX8_alike_25 : decode cX8_alike 25 = .ok (.invokevirtual 69, 3) := by decide +kernel
theorem dX8_alike_28 : decode cX8_alike 28 = .ok (.if_icmp .ne 16, 3) := by decide +kernel
theorem dX8_alike_31 : decode cX8_alike 31 = .ok (.aload_n 0, 1) := by decide +kernel
theorem dX8_alike_32 : decode cX8_alike 32 = .ok (.iload_n 1, 1) := by decide +kernel
theorem dX8_alike_33 : decode cX8_alike 33 = .ok (.invokevirtual 73, 3) := by decide +kernel
theorem dX8_alike_36 : decode cX8_alike 36 = .ok (.aload_n 0, 1) := by decide +kernel
theorem dX8_alike_37 : decode cX8_alike 37 = .ok (.iload_n 2, 1) := by decide +kernel
theorem dX8_alike_38 : decode cX8_alike 38 = .ok (.invokevirtual 73, 3) := by decide +kernel
theorem dX8_alike_41 : decode cX8_alike 41 = .ok (.if_icmp .eq 5, 3) := by decide +kernel
theorem dX8_alike_44 : decode cX8_alike 44 = .ok (.iconst 0, 1) := by decide +kernel
theorem dX8_alike_45 : decode cX8_alike 45 = .ok (.ireturn, 1) := by decide +kernel
theorem dX8_alike_46 : decode cX8_alike 46 = .ok (.iconst 0, 1) := by decide +kernel
theorem dX8_alike_47 : decode cX8_alike 47 = .ok (.istore_n 3, 1) := by decide +kernel
theorem dX8_alike_48 : decode cX8_alike 48 = .ok (.iload_n 3, 1) := by decide +kernel
theorem dX8_alike_49 : decode cX8_alike 49 = .ok (.aload_n 0, 1) := by decide +kernel
theorem dX8_alike_50 : decode cX8_alike 50 = .ok (.iload_n 1, 1) := by decide +kernel
theorem dX8_alike_51 : decode cX8_alike 51 = .ok (.invokevirtual 73, 3) := by decide +kernel
theorem dX8_alike_54 : decode cX8_alike 54 = .ok (.if_icmp .ge 26, 3) := by decide +kernel
theorem dX8_alike_57 : decode cX8_alike 57 = .ok (.aload_n 0, 1) := by decide +kernel
theorem dX8_alike_58 : decode cX8_alike 58 = .ok (.iload_n 1, 1) := by decide +kernel
theorem dX8_alike_59 : decode cX8_alike 59 = .ok (.iload_n 3, 1) := by decide +kernel
theorem dX8_alike_60 : decode cX8_alike 60 = .ok (.invokevirtual 114, 3) := by decide +kernel
theorem dX8_alike_63 : decode cX8_alike 63 = .ok (.aload_n 0, 1) := by decide +kernel
theorem dX8_alike_64 : decode cX8_alike 64 = .ok (.iload_n 2, 1) := by decide +kernel
theorem dX8_alike_65 : decode cX8_alike 65 = .ok (.iload_n 3, 1) := by decide +kernel
theorem dX8_alike_66 : decode cX8_alike 66 = .ok (.invokevirtual 114, 3) := by decide +kernel
theorem dX8_alike_69 : decode cX8_alike 69 = .ok (.if_icmp .eq 5, 3) := by decide +kernel
theorem dX8_alike_72 : decode cX8_alike 72 = .ok (.iconst 0, 1) := by decide +kernel
theorem dX8_alike_73 : decode cX8_alike 73 = .ok (.ireturn, 1) := by decide +kernel
theorem dX8_alike_74 : decode cX8_alike 74 = .ok (.iinc 3 1, 3) := by decide +kernel
theorem dX8_alike_77 : decode cX8_alike 77 = .ok (.goto (-29), 3) := by decide +kernel
theorem dX8_alike_80 : decode cX8_alike 80 = .ok (.iconst 1, 1) := by decide +kernel
theorem dX8_alike_81 : decode cX8_alike 81 = .ok (.ireturn, 1) := by decide +kernel
theorem dX8_ranked_0 : decode cX8_ranked 0 = .ok (.iload_n 1, 1) := by decide +kernel
theorem dX8_ranked_1 : decode cX8_ranked 1 = .ok (.ifCond .lt 12, 3) := by decide +kernel
theorem dX8_ranked_4 : decode cX8_ranked 4 = .ok (.iload_n 2, 1) := by decide +kernel
theorem dX8_ranked_5 : decode cX8_ranked 5 = .ok (.iconst 0, 1) := by decide +kernel
theorem dX8_ranked_6 : decode cX8_ranked 6 = .ok (.iconst 1, 1) := by decide +kernel
theorem dX8_ranked_7 : decode cX8_ranked 7 = .ok (.invokestatic 65, 3) := by decide +kernel
theorem dX8_ranked_10 : decode cX8_ranked 10 = .ok (.ifCond .ne 5, 3) := by decide +kernel
theorem dX8_ranked_13 : decode cX8_ranked 13 = .ok (.iconst (-1), 1) := by decide +kernel
theorem dX8_ranked_14 : decode cX8_ranked 14 = .ok (.ireturn, 1) := by decide +kernel
theorem dX8_ranked_15 : decode cX8_ranked 15 = .ok (.iload_n 1, 1) := by decide +kernel
theorem dX8_ranked_16 : decode cX8_ranked 16 = .ok (.istore_n 3, 1) := by decide +kernel
theorem dX8_ranked_17 : decode cX8_ranked 17 = .ok (.bipush 99, 2) := by decide +kernel
theorem dX8_ranked_19 : decode cX8_ranked 19 = .ok (.istore 4, 2) := by decide +kernel
theorem dX8_ranked_21 : decode cX8_ranked 21 = .ok (.iload 4, 2) := by decide +kernel
theorem dX8_ranked_23 : decode cX8_ranked 23 = .ok (.ifCond .lt 82, 3) := by decide +kernel
theorem dX8_ranked_26 : decode cX8_ranked 26 = .ok (.iconst 0, 1) := by decide +kernel
theorem dX8_ranked_27 : decode cX8_ranked 27 = .ok (.istore 5, 2) := by decide +kernel
theorem dX8_ranked_29 : decode cX8_ranked 29 = .ok (.iload 5, 2) := by decide +kernel
theorem dX8_ranked_31 : decode cX8_ranked 31 = .ok (.aload_n 0, 1) := by decide +kernel
theorem dX8_ranked_32 : decode cX8_ranked 32 = .ok (.invokevirtual 61, 3) := by decide +kernel
theorem dX8_ranked_35 : decode cX8_ranked 35 = .ok (.if_icmp .ge 64, 3) := by decide +kernel
theorem dX8_ranked_38 : decode cX8_ranked 38 = .ok (.iconst 0, 1) := by decide +kernel
theorem dX8_ranked_39 : decode cX8_ranked 39 = .ok (.istore 6, 2) := by decide +kernel
theorem dX8_ranked_41 : decode cX8_ranked 41 = .ok (.iload 6, 2) := by decide +kernel
theorem dX8_ranked_43 : decode cX8_ranked 43 = .ok (.aload_n 0, 1) := by decide +kernel
theorem dX8_ranked_44 : decode cX8_ranked 44 = .ok (.iload 5, 2) := by decide +kernel
theorem dX8_ranked_46 : decode cX8_ranked 46 = .ok (.invokevirtual 73, 3) := by decide +kernel
theorem dX8_ranked_49 : decode cX8_ranked 49 = .ok (.if_icmp .ge 44, 3) := by decide +kernel
theorem dX8_ranked_52 : decode cX8_ranked 52 = .ok (.aload_n 0, 1) := by decide +kernel
theorem dX8_ranked_53 : decode cX8_ranked 53 = .ok (.iload 5, 2) := by decide +kernel
theorem dX8_ranked_55 : decode cX8_ranked 55 = .ok (.iload 6, 2) := by decide +kernel
theorem dX8_ranked_57 : decode cX8_ranked 57 = .ok (.invokevirtual 114, 3) := by decide +kernel
theorem dX8_ranked_60 : decode cX8_ranked 60 = .ok (.iload 4, 2) := by decide +kernel
theorem dX8_ranked_62 : decode cX8_ranked 62 = .ok (.if_icmp .eq 6, 3) := by decide +kernel
theorem dX8_ranked_65 : decode cX8_ranked 65 = .ok (.goto 22, 3) := by decide +kernel
theorem dX8_ranked_68 : decode cX8_ranked 68 = .ok (.iload_n 3, 1) := by decide +kernel
theorem dX8_ranked_69 : decode cX8_ranked 69 = .ok (.ifCond .ne 15, 3) := by decide +kernel
theorem dX8_ranked_72 : decode cX8_ranked 72 = .ok (.iload_n 2, 1) := by decide +kernel
theorem dX8_ranked_73 : decode cX8_ranked 73 = .ok (.ifCond .ne 8, 3) := by decide +kernel
theorem dX8_ranked_76 : decode cX8_ranked 76 = .ok (.iload 5, 2) := by decide +kernel
theorem dX8_ranked_78 : decode cX8_ranked 78 = .ok (.goto 5, 3) := by decide +kernel
theorem dX8_ranked_81 : decode cX8_ranked 81 = .ok (.iload 4, 2) := by decide +kernel
theorem dX8_ranked_83 : decode cX8_ranked 83 = .ok (.ireturn, 1) := by decide +kernel
theorem dX8_ranked_84 : decode cX8_ranked 84 = .ok (.iinc 3 (-1), 3) := by decide +kernel
theorem dX8_ranked_87 : decode cX8_ranked 87 = .ok (.iinc 6 1, 3) := by decide +kernel
theorem dX8_ranked_90 : decode cX8_ranked 90 = .ok (.goto (-49), 3) := by decide +kernel
theorem dX8_ranked_93 : decode cX8_ranked 93 = .ok (.iinc 5 1, 3) := by decide +kernel
theorem dX8_ranked_96 : decode cX8_ranked 96 = .ok (.goto (-67), 3) := by decide +kernel
theorem dX8_ranked_99 : decode cX8_ranked 99 = .ok (.iinc 4 (-1), 3) := by decide +kernel
theorem dX8_ranked_102 : decode cX8_ranked 102 = .ok (.goto (-81), 3) := by decide +kernel
theorem dX8_ranked_105 : decode cX8_ranked 105 = .ok (.iconst (-1), 1) := by decide +kernel
theorem dX8_ranked_106 : decode cX8_ranked 106 = .ok (.ireturn, 1) := by decide +kernel
theorem dX8_priceFor_0 : decode cX8_priceFor 0 = .ok (.iload_n 1, 1) := by decide +kernel
theorem dX8_priceFor_1 : decode cX8_priceFor 1 = .ok (.ifCond .ge 5, 3) := by decide +kernel
theorem dX8_priceFor_4 : decode cX8_priceFor 4 = .ok (.iconst (-1), 1) := by decide +kernel
theorem dX8_priceFor_5 : decode cX8_priceFor 5 = .ok (.ireturn, 1) := by decide +kernel
theorem dX8_priceFor_6 : decode cX8_priceFor 6 = .ok (.iconst 0, 1) := by decide +kernel
theorem dX8_priceFor_7 : decode cX8_priceFor 7 = .ok (.istore_n 2, 1) := by decide +kernel
theorem dX8_priceFor_8 : decode cX8_priceFor 8 = .ok (.aload_n 0, 1) := by decide +kernel
theorem dX8_priceFor_9 : decode cX8_priceFor 9 = .ok (.iload_n 2, 1) := by decide +kernel
theorem dX8_priceFor_10 : decode cX8_priceFor 10 = .ok (.invokevirtual 132, 3) := by decide +kernel
theorem dX8_priceFor_13 : decode cX8_priceFor 13 = .ok (.iload_n 1, 1) := by decide +kernel
theorem dX8_priceFor_14 : decode cX8_priceFor 14 = .ok (.if_icmp .le 9, 3) := by decide +kernel
theorem dX8_priceFor_17 : decode cX8_priceFor 17 = .ok (.iinc 2 1, 3) := by decide +kernel
theorem dX8_priceFor_20 : decode cX8_priceFor 20 = .ok (.goto (-12), 3) := by decide +kernel
theorem dX8_priceFor_23 : decode cX8_priceFor 23 = .ok (.iload_n 2, 1) := by decide +kernel
theorem dX8_priceFor_24 : decode cX8_priceFor 24 = .ok (.ireturn, 1) := by decide +kernel
theorem dX8_step_0 : decode cX8_step 0 = .ok (.iload_n 1, 1) := by decide +kernel
theorem dX8_step_1 : decode cX8_step 1 = .ok (.ifCond .lt 12, 3) := by decide +kernel
theorem dX8_step_4 : decode cX8_step 4 = .ok (.iload_n 2, 1) := by decide +kernel
theorem dX8_step_5 : decode cX8_step 5 = .ok (.iconst 0, 1) := by decide +kernel
theorem dX8_step_6 : decode cX8_step 6 = .ok (.iconst 2, 1) := by decide +kernel
theorem dX8_step_7 : decode cX8_step 7 = .ok (.invokestatic 65, 3) := by decide +kernel
theorem dX8_step_10 : decode cX8_step 10 = .ok (.ifCond .ne 5, 3) := by decide +kernel
theorem dX8_step_13 : decode cX8_step 13 = .ok (.iconst (-1), 1) := by decide +kernel
theorem dX8_step_14 : decode cX8_step 14 = .ok (.ireturn, 1) := by decide +kernel
theorem dX8_step_15 : decode cX8_step 15 = .ok (.iload_n 1, 1) := by decide +kernel
theorem dX8_step_16 : decode cX8_step 16 = .ok (.istore_n 3, 1) := by decide +kernel
theorem dX8_step_17 : decode cX8_step 17 = .ok (.iconst 0, 1) := by decide +kernel
theorem dX8_step_18 : decode cX8_step 18 = .ok (.istore 4, 2) := by decide +kernel
theorem dX8_step_20 : decode cX8_step 20 = .ok (.iload 4, 2) := by decide +kernel
theorem dX8_step_22 : decode cX8_step 22 = .ok (.bipush 99, 2) := by decide +kernel
theorem dX8_step_24 : decode cX8_step 24 = .ok (.if_icmp .gt 100, 3) := by decide +kernel
theorem dX8_step_27 : decode cX8_step 27 = .ok (.aload_n 0, 1) := by decide +kernel
theorem dX8_step_28 : decode cX8_step 28 = .ok (.iload 4, 2) := by decide +kernel
theorem dX8_step_30 : decode cX8_step 30 = .ok (.invokevirtual 132, 3) := by decide +kernel
theorem dX8_step_33 : decode cX8_step 33 = .ok (.aload_n 0, 1) := by decide +kernel
theorem dX8_step_34 : decode cX8_step 34 = .ok (.iload 4, 2) := by decide +kernel
theorem dX8_step_36 : decode cX8_step 36 = .ok (.iconst 1, 1) := by decide +kernel
theorem dX8_step_37 : decode cX8_step 37 = .ok (.isub, 1) := by decide +kernel
theorem dX8_step_38 : decode cX8_step 38 = .ok (.invokevirtual 132, 3) := by decide +kernel
theorem dX8_step_41 : decode cX8_step 41 = .ok (.if_icmp .ne 6, 3) := by decide +kernel
theorem dX8_step_44 : decode cX8_step 44 = .ok (.goto 74, 3) := by decide +kernel
theorem dX8_step_47 : decode cX8_step 47 = .ok (.iload_n 3, 1) := by decide +kernel
theorem dX8_step_48 : decode cX8_step 48 = .ok (.ifCond .le 9, 3) := by decide +kernel
theorem dX8_step_51 : decode cX8_step 51 = .ok (.iinc 3 (-1), 3) := by decide +kernel
theorem dX8_step_54 : decode cX8_step 54 = .ok (.goto 64, 3) := by decide +kernel
theorem dX8_step_57 : decode cX8_step 57 = .ok (.iconst 0, 1) := by decide +kernel
theorem dX8_step_58 : decode cX8_step 58 = .ok (.istore 5, 2) := by decide +kernel
theorem dX8_step_60 : decode cX8_step 60 = .ok (.iconst 0, 1) := by decide +kernel
theorem dX8_step_61 : decode cX8_step 61 = .ok (.istore 6, 2) := by decide +kernel
theorem dX8_step_63 : decode cX8_step 63 = .ok (.iload 6, 2) := by decide +kernel
theorem dX8_step_65 : decode cX8_step 65 = .ok (.aload_n 0, 1) := by decide +kernel
theorem dX8_step_66 : decode cX8_step 66 = .ok (.invokevirtual 61, 3) := by decide +kernel
theorem dX8_step_69 : decode cX8_step 69 = .ok (.if_icmp .ge 23, 3) := by decide +kernel
theorem dX8_step_72 : decode cX8_step 72 = .ok (.aload_n 0, 1) := by decide +kernel
theorem dX8_step_73 : decode cX8_step 73 = .ok (.iload 6, 2) := by decide +kernel
theorem dX8_step_75 : decode cX8_step 75 = .ok (.iload 4, 2) := by decide +kernel
theorem dX8_step_77 : decode cX8_step 77 = .ok (.invokevirtual 129, 3) := by decide +kernel
theorem dX8_step_80 : decode cX8_step 80 = .ok (.ifCond .le 6, 3) := by decide +kernel
theorem dX8_step_83 : decode cX8_step 83 = .ok (.iinc 5 1, 3) := by decide +kernel
theorem dX8_step_86 : decode cX8_step 86 = .ok (.iinc 6 1, 3) := by decide +kernel
theorem dX8_step_89 : decode cX8_step 89 = .ok (.goto (-26), 3) := by decide +kernel
theorem dX8_step_92 : decode cX8_step 92 = .ok (.iload_n 2, 1) := by decide +kernel
theorem dX8_step_93 : decode cX8_step 93 = .ok (.ifCond .ne 8, 3) := by decide +kernel
theorem dX8_step_96 : decode cX8_step 96 = .ok (.iload 4, 2) := by decide +kernel
theorem dX8_step_98 : decode cX8_step 98 = .ok (.goto 19, 3) := by decide +kernel
theorem dX8_step_101 : decode cX8_step 101 = .ok (.iload_n 2, 1) := by decide +kernel
theorem dX8_step_102 : decode cX8_step 102 = .ok (.iconst 1, 1) := by decide +kernel
theorem dX8_step_103 : decode cX8_step 103 = .ok (.if_icmp .ne 12, 3) := by decide +kernel
theorem dX8_step_106 : decode cX8_step 106 = .ok (.aload_n 0, 1) := by decide +kernel
theorem dX8_step_107 : decode cX8_step 107 = .ok (.iload 4, 2) := by decide +kernel
theorem dX8_step_109 : decode cX8_step 109 = .ok (.invokevirtual 132, 3) := by decide +kernel
theorem dX8_step_112 : decode cX8_step 112 = .ok (.goto 5, 3) := by decide +kernel
theorem dX8_step_115 : decode cX8_step 115 = .ok (.iload 5, 2) := by decide +kernel
theorem dX8_step_117 : decode cX8_step 117 = .ok (.ireturn, 1) := by decide +kernel
theorem dX8_step_118 : decode cX8_step 118 = .ok (.iinc 4 1, 3) := by decide +kernel
theorem dX8_step_121 : decode cX8_step 121 = .ok (.goto (-101), 3) := by decide +kernel
theorem dX8_step_124 : decode cX8_step 124 = .ok (.iconst (-1), 1) := by decide +kernel
theorem dX8_step_125 : decode cX8_step 125 = .ok (.ireturn, 1) := by decide +kernel
theorem dX8_envies_0 : decode cX8_envies 0 = .ok (.aload_n 0, 1) := by decide +kernel
theorem dX8_envies_1 : decode cX8_envies 1 = .ok (.iload_n 1, 1) := by decide +kernel
theorem dX8_envies_2 : decode cX8_envies 2 = .ok (.invokevirtual 90, 3) := by decide +kernel
theorem dX8_envies_5 : decode cX8_envies 5 = .ok (.ifCond .eq 10, 3) := by decide +kernel
theorem dX8_envies_8 : decode cX8_envies 8 = .ok (.iload_n 2, 1) := by decide +kernel
theorem dX8_envies_9 : decode cX8_envies 9 = .ok (.invokestatic 168, 3) := by decide +kernel
theorem dX8_envies_12 : decode cX8_envies 12 = .ok (.ifCond .ne 5, 3) := by decide +kernel
theorem dX8_envies_15 : decode cX8_envies 15 = .ok (.iconst (-1), 1) := by decide +kernel
theorem dX8_envies_16 : decode cX8_envies 16 = .ok (.ireturn, 1) := by decide +kernel
theorem dX8_envies_17 : decode cX8_envies 17 = .ok (.aload_n 0, 1) := by decide +kernel
theorem dX8_envies_18 : decode cX8_envies 18 = .ok (.invokevirtual 171, 3) := by decide +kernel
theorem dX8_envies_21 : decode cX8_envies 21 = .ok (.aload_n 0, 1) := by decide +kernel
theorem dX8_envies_22 : decode cX8_envies 22 = .ok (.iload_n 1, 1) := by decide +kernel
theorem dX8_envies_23 : decode cX8_envies 23 = .ok (.iload_n 2, 1) := by decide +kernel
theorem dX8_envies_24 : decode cX8_envies 24 = .ok (.invokevirtual 181, 3) := by decide +kernel
theorem dX8_envies_27 : decode cX8_envies 27 = .ok (.istore_n 3, 1) := by decide +kernel
theorem dX8_envies_28 : decode cX8_envies 28 = .ok (.iconst 0, 1) := by decide +kernel
theorem dX8_envies_29 : decode cX8_envies 29 = .ok (.istore 4, 2) := by decide +kernel
theorem dX8_envies_31 : decode cX8_envies 31 = .ok (.iload 4, 2) := by decide +kernel
theorem dX8_envies_33 : decode cX8_envies 33 = .ok (.aload_n 0, 1) := by decide +kernel
theorem dX8_envies_34 : decode cX8_envies 34 = .ok (.invokevirtual 61, 3) := by decide +kernel
theorem dX8_envies_37 : decode cX8_envies 37 = .ok (.if_icmp .ge 54, 3) := by decide +kernel
theorem dX8_envies_40 : decode cX8_envies 40 = .ok (.aload_n 0, 1) := by decide +kernel
theorem dX8_envies_41 : decode cX8_envies 41 = .ok (.getfield 26, 3) := by decide +kernel
theorem dX8_envies_44 : decode cX8_envies 44 = .ok (.iload 4, 2) := by decide +kernel
theorem dX8_envies_46 : decode cX8_envies 46 = .ok (.iaload, 1) := by decide +kernel
theorem dX8_envies_47 : decode cX8_envies 47 = .ok (.aload_n 0, 1) := by decide +kernel
theorem dX8_envies_48 : decode cX8_envies 48 = .ok (.iload_n 1, 1) := by decide +kernel
theorem dX8_envies_49 : decode cX8_envies 49 = .ok (.invokevirtual 126, 3) := by decide +kernel
theorem dX8_envies_52 : decode cX8_envies 52 = .ok (.invokestatic 76, 3) := by decide +kernel
theorem dX8_envies_55 : decode cX8_envies 55 = .ok (.istore 5, 2) := by decide +kernel
theorem dX8_envies_57 : decode cX8_envies 57 = .ok (.iload 4, 2) := by decide +kernel
theorem dX8_envies_59 : decode cX8_envies 59 = .ok (.iload_n 1, 1) := by decide +kernel
theorem dX8_envies_60 : decode cX8_envies 60 = .ok (.if_icmp .eq 25, 3) := by decide +kernel
theorem dX8_envies_63 : decode cX8_envies 63 = .ok (.aload_n 0, 1) := by decide +kernel
theorem dX8_envies_64 : decode cX8_envies 64 = .ok (.iload_n 1, 1) := by decide +kernel
theorem dX8_envies_65 : decode cX8_envies 65 = .ok (.iload 5, 2) := by decide +kernel
theorem dX8_envies_67 : decode cX8_envies 67 = .ok (.invokevirtual 150, 3) := by decide +kernel
theorem dX8_envies_70 : decode cX8_envies 70 = .ok (.aload_n 0, 1) := by decide +kernel
theorem dX8_envies_71 : decode cX8_envies 71 = .ok (.iload 4, 2) := by decide +kernel
theorem dX8_envies_73 : decode cX8_envies 73 = .ok (.iload_n 2, 1) := by decide +kernel
theorem dX8_envies_74 : decode cX8_envies 74 = .ok (.invokevirtual 165, 3) := by decide +kernel
theorem dX8_envies_77 : decode cX8_envies 77 = .ok (.isub, 1) := by decide +kernel
theorem dX8_envies_78 : decode cX8_envies 78 = .ok (.iload_n 3, 1) := by decide +kernel
theorem dX8_envies_79 : decode cX8_envies 79 = .ok (.if_icmp .le 6, 3) := by decide +kernel
theorem dX8_envies_82 : decode cX8_envies 82 = .ok (.iload 4, 2) := by decide +kernel
theorem dX8_envies_84 : decode cX8_envies 84 = .ok (.ireturn, 1) := by decide +kernel
theorem dX8_envies_85 : decode cX8_envies 85 = .ok (.iinc 4 1, 3) := by decide +kernel
theorem dX8_envies_88 : decode cX8_envies 88 = .ok (.goto (-57), 3) := by decide +kernel
theorem dX8_envies_91 : decode cX8_envies 91 = .ok (.bipush (-2), 2) := by decide +kernel
theorem dX8_envies_93 : decode cX8_envies 93 = .ok (.ireturn, 1) := by decide +kernel
theorem dX8_blocks_0 : decode cX8_blocks 0 = .ok (.iload_n 1, 1) := by decide +kernel
theorem dX8_blocks_1 : decode cX8_blocks 1 = .ok (.invokestatic 168, 3) := by decide +kernel
theorem dX8_blocks_4 : decode cX8_blocks 4 = .ok (.ifCond .ne 5, 3) := by decide +kernel
theorem dX8_blocks_7 : decode cX8_blocks 7 = .ok (.iconst (-1), 1) := by decide +kernel
theorem dX8_blocks_8 : decode cX8_blocks 8 = .ok (.ireturn, 1) := by decide +kernel
theorem dX8_blocks_9 : decode cX8_blocks 9 = .ok (.aload_n 0, 1) := by decide +kernel
theorem dX8_blocks_10 : decode cX8_blocks 10 = .ok (.invokevirtual 171, 3) := by decide +kernel
theorem dX8_blocks_13 : decode cX8_blocks 13 = .ok (.aload_n 0, 1) := by decide +kernel
theorem dX8_blocks_14 : decode cX8_blocks 14 = .ok (.iload_n 1, 1) := by decide +kernel
theorem dX8_blocks_15 : decode cX8_blocks 15 = .ok (.invokevirtual 174, 3) := by decide +kernel
theorem dX8_blocks_18 : decode cX8_blocks 18 = .ok (.aload_n 0, 1) := by decide +kernel
theorem dX8_blocks_19 : decode cX8_blocks 19 = .ok (.getfield 13, 3) := by decide +kernel
theorem dX8_blocks_22 : decode cX8_blocks 22 = .ok (.iconst 1, 1) := by decide +kernel
theorem dX8_blocks_23 : decode cX8_blocks 23 = .ok (.iaload, 1) := by decide +kernel
theorem dX8_blocks_24 : decode cX8_blocks 24 = .ok (.aload_n 0, 1) := by decide +kernel
theorem dX8_blocks_25 : decode cX8_blocks 25 = .ok (.invokevirtual 162, 3) := by decide +kernel
theorem dX8_blocks_28 : decode cX8_blocks 28 = .ok (.imul, 1) := by decide +kernel
theorem dX8_blocks_29 : decode cX8_blocks 29 = .ok (.iadd, 1) := by decide +kernel
theorem dX8_blocks_30 : decode cX8_blocks 30 = .ok (.istore_n 2, 1) := by decide +kernel
theorem dX8_blocks_31 : decode cX8_blocks 31 = .ok (.iconst 1, 1) := by decide +kernel
theorem dX8_blocks_32 : decode cX8_blocks 32 = .ok (.istore_n 3, 1) := by decide +kernel
theorem dX8_blocks_33 : decode cX8_blocks 33 = .ok (.iload_n 3, 1) := by decide +kernel
theorem dX8_blocks_34 : decode cX8_blocks 34 = .ok (.aload_n 0, 1) := by decide +kernel
theorem dX8_blocks_35 : decode cX8_blocks 35 = .ok (.invokevirtual 153, 3) := by decide +kernel
theorem dX8_blocks_38 : decode cX8_blocks 38 = .ok (.if_icmp .gt 70, 3) := by decide +kernel
theorem dX8_blocks_41 : decode cX8_blocks 41 = .ok (.iload_n 2, 1) := by decide +kernel
theorem dX8_blocks_42 : decode cX8_blocks 42 = .ok (.istore 4, 2) := by decide +kernel
theorem dX8_blocks_44 : decode cX8_blocks 44 = .ok (.iconst 0, 1) := by decide +kernel
theorem dX8_blocks_45 : decode cX8_blocks 45 = .ok (.istore 5, 2) := by decide +kernel
theorem dX8_blocks_47 : decode cX8_blocks 47 = .ok (.iload 5, 2) := by decide +kernel
theorem dX8_blocks_49 : decode cX8_blocks 49 = .ok (.aload_n 0, 1) := by decide +kernel
theorem dX8_blocks_50 : decode cX8_blocks 50 = .ok (.invokevirtual 61, 3) := by decide +kernel
theorem dX8_blocks_53 : decode cX8_blocks 53 = .ok (.if_icmp .ge 31, 3) := by decide +kernel
theorem dX8_blocks_56 : decode cX8_blocks 56 = .ok (.iload_n 3, 1) := by decide +kernel
theorem dX8_blocks_57 : decode cX8_blocks 57 = .ok (.iload 5, 2) := by decide +kernel
theorem dX8_blocks_59 : decode cX8_blocks 59 = .ok (.ishr, 1) := by decide +kernel
theorem dX8_blocks_60 : decode cX8_blocks 60 = .ok (.iconst 1, 1) := by decide +kernel
theorem dX8_blocks_61 : decode cX8_blocks 61 = .ok (.iand, 1) := by decide +kernel
theorem dX8_blocks_62 : decode cX8_blocks 62 = .ok (.iconst 1, 1) := by decide +kernel
theorem dX8_blocks_63 : decode cX8_blocks 63 = .ok (.if_icmp .ne 15, 3) := by decide +kernel
theorem dX8_blocks_66 : decode cX8_blocks 66 = .ok (.iload 4, 2) := by decide +kernel
theorem dX8_blocks_68 : decode cX8_blocks 68 = .ok (.aload_n 0, 1) := by decide +kernel
theorem dX8_blocks_69 : decode cX8_blocks 69 = .ok (.iload 5, 2) := by decide +kernel
theorem dX8_blocks_71 : decode cX8_blocks 71 = .ok (.iload_n 1, 1) := by decide +kernel
theorem dX8_blocks_72 : decode cX8_blocks 72 = .ok (.invokevirtual 181, 3) := by decide +kernel
theorem dX8_blocks_75 : decode cX8_blocks 75 = .ok (.iadd, 1) := by decide +kernel
theorem dX8_blocks_76 : decode cX8_blocks 76 = .ok (.istore 4, 2) := by decide +kernel
theorem dX8_blocks_78 : decode cX8_blocks 78 = .ok (.iinc 5 1, 3) := by decide +kernel
theorem dX8_blocks_81 : decode cX8_blocks 81 = .ok (.goto (-34), 3) := by decide +kernel
theorem dX8_blocks_84 : decode cX8_blocks 84 = .ok (.aload_n 0, 1) := by decide +kernel
theorem dX8_blocks_85 : decode cX8_blocks 85 = .ok (.iload_n 3, 1) := by decide +kernel
theorem dX8_blocks_86 : decode cX8_blocks 86 = .ok (.aload_n 0, 1) := by decide +kernel
theorem dX8_blocks_87 : decode cX8_blocks 87 = .ok (.getfield 13, 3) := by decide +kernel
theorem dX8_blocks_90 : decode cX8_blocks 90 = .ok (.iconst 0, 1) := by decide +kernel
theorem dX8_blocks_91 : decode cX8_blocks 91 = .ok (.iaload, 1) := by decide +kernel
theorem dX8_blocks_92 : decode cX8_blocks 92 = .ok (.invokevirtual 156, 3) := by decide +kernel
theorem dX8_blocks_95 : decode cX8_blocks 95 = .ok (.iload 4, 2) := by decide +kernel
theorem dX8_blocks_97 : decode cX8_blocks 97 = .ok (.if_icmp .le 5, 3) := by decide +kernel
theorem dX8_blocks_100 : decode cX8_blocks 100 = .ok (.iload_n 3, 1) := by decide +kernel
theorem dX8_blocks_101 : decode cX8_blocks 101 = .ok (.ireturn, 1) := by decide +kernel
theorem dX8_blocks_102 : decode cX8_blocks 102 = .ok (.iinc 3 1, 3) := by decide +kernel
theorem dX8_blocks_105 : decode cX8_blocks 105 = .ok (.goto (-72), 3) := by decide +kernel
theorem dX8_blocks_108 : decode cX8_blocks 108 = .ok (.bipush (-2), 2) := by decide +kernel
theorem dX8_blocks_110 : decode cX8_blocks 110 = .ok (.ireturn, 1) := by decide +kernel
theorem dX8_toldBy_0 : decode cX8_toldBy 0 = .ok (.aload_n 0, 1) := by decide +kernel
theorem dX8_toldBy_1 : decode cX8_toldBy 1 = .ok (.getfield 13, 3) := by decide +kernel
theorem dX8_toldBy_4 : decode cX8_toldBy 4 = .ok (.iload_n 1, 1) := by decide +kernel
theorem dX8_toldBy_5 : decode cX8_toldBy 5 = .ok (.iaload, 1) := by decide +kernel
theorem dX8_toldBy_6 : decode cX8_toldBy 6 = .ok (.istore 4, 2) := by decide +kernel
theorem dX8_toldBy_8 : decode cX8_toldBy 8 = .ok (.aload_n 0, 1) := by decide +kernel
theorem dX8_toldBy_9 : decode cX8_toldBy 9 = .ok (.getfield 13, 3) := by decide +kernel
theorem dX8_toldBy_12 : decode cX8_toldBy 12 = .ok (.iload_n 1, 1) := by decide +kernel
theorem dX8_toldBy_13 : decode cX8_toldBy 13 = .ok (.iload_n 2, 1) := by decide +kernel
theorem dX8_toldBy_14 : decode cX8_toldBy 14 = .ok (.iastore, 1) := by decide +kernel
theorem dX8_toldBy_15 : decode cX8_toldBy 15 = .ok (.aload_n 0, 1) := by decide +kernel
theorem dX8_toldBy_16 : decode cX8_toldBy 16 = .ok (.iload_n 3, 1) := by decide +kernel
theorem dX8_toldBy_17 : decode cX8_toldBy 17 = .ok (.invokevirtual 190, 3) := by decide +kernel
theorem dX8_toldBy_20 : decode cX8_toldBy 20 = .ok (.istore 5, 2) := by decide +kernel
theorem dX8_toldBy_22 : decode cX8_toldBy 22 = .ok (.aload_n 0, 1) := by decide +kernel
theorem dX8_toldBy_23 : decode cX8_toldBy 23 = .ok (.getfield 13, 3) := by decide +kernel
theorem dX8_toldBy_26 : decode cX8_toldBy 26 = .ok (.iload_n 1, 1) := by decide +kernel
theorem dX8_toldBy_27 : decode cX8_toldBy 27 = .ok (.iload 4, 2) := by decide +kernel
theorem dX8_toldBy_29 : decode cX8_toldBy 29 = .ok (.iastore, 1) := by decide +kernel
theorem dX8_toldBy_30 : decode cX8_toldBy 30 = .ok (.iload 5, 2) := by decide +kernel
theorem dX8_toldBy_32 : decode cX8_toldBy 32 = .ok (.ireturn, 1) := by decide +kernel
theorem dX8_bySupply_0 : decode cX8_bySupply 0 = .ok (.iload_n 1, 1) := by decide +kernel
theorem dX8_bySupply_1 : decode cX8_bySupply 1 = .ok (.iconst 1, 1) := by decide +kernel
theorem dX8_bySupply_2 : decode cX8_bySupply 2 = .ok (.bipush 30, 2) := by decide +kernel
theorem dX8_bySupply_4 : decode cX8_bySupply 4 = .ok (.invokestatic 65, 3) := by decide +kernel
theorem dX8_bySupply_7 : decode cX8_bySupply 7 = .ok (.ifCond .eq 20, 3) := by decide +kernel
theorem dX8_bySupply_10 : decode cX8_bySupply 10 = .ok (.iload_n 2, 1) := by decide +kernel
theorem dX8_bySupply_11 : decode cX8_bySupply 11 = .ok (.invokestatic 187, 3) := by decide +kernel
theorem dX8_bySupply_14 : decode cX8_bySupply 14 = .ok (.ifCond .eq 13, 3) := by decide +kernel
theorem dX8_bySupply_17 : decode cX8_bySupply 17 = .ok (.aload_n 0, 1) := by decide +kernel
theorem dX8_bySupply_18 : decode cX8_bySupply 18 = .ok (.iconst 0, 1) := by decide +kernel
theorem dX8_bySupply_19 : decode cX8_bySupply 19 = .ok (.iload_n 1, 1) := by decide +kernel
theorem dX8_bySupply_20 : decode cX8_bySupply 20 = .ok (.iload_n 2, 1) := by decide +kernel
theorem dX8_bySupply_21 : decode cX8_bySupply 21 = .ok (.invokevirtual 193, 3) := by decide +kernel
theorem dX8_bySupply_24 : decode cX8_bySupply 24 = .ok (.goto 4, 3) := by decide +kernel
theorem dX8_bySupply_27 : decode cX8_bySupply 27 = .ok (.iconst (-1), 1) := by decide +kernel
theorem dX8_bySupply_28 : decode cX8_bySupply 28 = .ok (.ireturn, 1) := by decide +kernel
theorem dX8_byReserve_0 : decode cX8_byReserve 0 = .ok (.iload_n 1, 1) := by decide +kernel
theorem dX8_byReserve_1 : decode cX8_byReserve 1 = .ok (.invokestatic 98, 3) := by decide +kernel
theorem dX8_byReserve_4 : decode cX8_byReserve 4 = .ok (.ifCond .eq 20, 3) := by decide +kernel
theorem dX8_byReserve_7 : decode cX8_byReserve 7 = .ok (.iload_n 2, 1) := by decide +kernel
theorem dX8_byReserve_8 : decode cX8_byReserve 8 = .ok (.invokestatic 187, 3) := by decide +kernel
theorem dX8_byReserve_11 : decode cX8_byReserve 11 = .ok (.ifCond .eq 13, 3) := by decide +kernel
theorem dX8_byReserve_14 : decode cX8_byReserve 14 = .ok (.aload_n 0, 1) := by decide +kernel
theorem dX8_byReserve_15 : decode cX8_byReserve 15 = .ok (.iconst 1, 1) := by decide +kernel
theorem dX8_byReserve_16 : decode cX8_byReserve 16 = .ok (.iload_n 1, 1) := by decide +kernel
theorem dX8_byReserve_17 : decode cX8_byReserve 17 = .ok (.iload_n 2, 1) := by decide +kernel
theorem dX8_byReserve_18 : decode cX8_byReserve 18 = .ok (.invokevirtual 193, 3) := by decide +kernel
theorem dX8_byReserve_21 : decode cX8_byReserve 21 = .ok (.goto 4, 3) := by decide +kernel
theorem dX8_byReserve_24 : decode cX8_byReserve 24 = .ok (.iconst (-1), 1) := by decide +kernel
theorem dX8_byReserve_25 : decode cX8_byReserve 25 = .ok (.ireturn, 1) := by decide +kernel
theorem dX8_bestReserve_0 : decode cX8_bestReserve 0 = .ok (.iload_n 1, 1) := by decide +kernel
theorem dX8_bestReserve_1 : decode cX8_bestReserve 1 = .ok (.invokestatic 168, 3) := by decide +kernel
theorem dX8_bestReserve_4 : decode cX8_bestReserve 4 = .ok (.ifCond .ne 5, 3) := by decide +kernel
theorem dX8_bestReserve_7 : decode cX8_bestReserve 7 = .ok (.iconst (-1), 1) := by decide +kernel
theorem dX8_bestReserve_8 : decode cX8_bestReserve 8 = .ok (.ireturn, 1) := by decide +kernel
theorem dX8_bestReserve_9 : decode cX8_bestReserve 9 = .ok (.aload_n 0, 1) := by decide +kernel
theorem dX8_bestReserve_10 : decode cX8_bestReserve 10 = .ok (.getfield 13, 3) := by decide +kernel
theorem dX8_bestReserve_13 : decode cX8_bestReserve 13 = .ok (.iconst 1, 1) := by decide +kernel
theorem dX8_bestReserve_14 : decode cX8_bestReserve 14 = .ok (.iaload, 1) := by decide +kernel
theorem dX8_bestReserve_15 : decode cX8_bestReserve 15 = .ok (.istore_n 2, 1) := by decide +kernel
theorem dX8_bestReserve_16 : decode cX8_bestReserve 16 = .ok (.iconst 0, 1) := by decide +kernel
theorem dX8_bestReserve_17 : decode cX8_bestReserve 17 = .ok (.istore_n 3, 1) := by decide +kernel
theorem dX8_bestReserve_18 : decode cX8_bestReserve 18 = .ok (.iconst (-1), 1) := by decide +kernel
theorem dX8_bestReserve_19 : decode cX8_bestReserve 19 = .ok (.istore 4, 2) := by decide +kernel
theorem dX8_bestReserve_21 : decode cX8_bestReserve 21 = .ok (.iconst 0, 1) := by decide +kernel
theorem dX8_bestReserve_22 : decode cX8_bestReserve 22 = .ok (.istore 5, 2) := by decide +kernel
theorem dX8_bestReserve_24 : decode cX8_bestReserve 24 = .ok (.iload 5, 2) := by decide +kernel
theorem dX8_bestReserve_26 : decode cX8_bestReserve 26 = .ok (.bipush 99, 2) := by decide +kernel
theorem dX8_bestReserve_28 : decode cX8_bestReserve 28 = .ok (.if_icmp .gt 45, 3) := by decide +kernel
theorem dX8_bestReserve_31 : decode cX8_bestReserve 31 = .ok (.aload_n 0, 1) := by decide +kernel
theorem dX8_bestReserve_32 : decode cX8_bestReserve 32 = .ok (.getfield 13, 3) := by decide +kernel
theorem dX8_bestReserve_35 : decode cX8_bestReserve 35 = .ok (.iconst 1, 1) := by decide +kernel
theorem dX8_bestReserve_36 : decode cX8_bestReserve 36 = .ok (.iload 5, 2) := by decide +kernel
theorem dX8_bestReserve_38 : decode cX8_bestReserve 38 = .ok (.iastore, 1) := by decide +kernel
theorem dX8_bestReserve_39 : decode cX8_bestReserve 39 = .ok (.aload_n 0, 1) := by decide +kernel
theorem dX8_bestReserve_40 : decode cX8_bestReserve 40 = .ok (.invokevirtual 171, 3) := by decide +kernel
theorem dX8_bestReserve_43 : decode cX8_bestReserve 43 = .ok (.aload_n 0, 1) := by decide +kernel
theorem dX8_bestReserve_44 : decode cX8_bestReserve 44 = .ok (.iload_n 1, 1) := by decide +kernel
theorem dX8_bestReserve_45 : decode cX8_bestReserve 45 = .ok (.invokevirtual 174, 3) := by decide +kernel
theorem dX8_bestReserve_48 : decode cX8_bestReserve 48 = .ok (.istore 6, 2) := by decide +kernel
theorem dX8_bestReserve_50 : decode cX8_bestReserve 50 = .ok (.iload 6, 2) := by decide +kernel
theorem dX8_bestReserve_52 : decode cX8_bestReserve 52 = .ok (.iload 4, 2) := by decide +kernel
theorem dX8_bestReserve_54 : decode cX8_bestReserve 54 = .ok (.if_icmp .gt 6, 3) := by decide +kernel
theorem dX8_bestReserve_57 : decode cX8_bestReserve 57 = .ok (.goto 10, 3) := by decide +kernel
theorem dX8_bestReserve_60 : decode cX8_bestReserve 60 = .ok (.iload 6, 2) := by decide +kernel
theorem dX8_bestReserve_62 : decode cX8_bestReserve 62 = .ok (.istore 4, 2) := by decide +kernel
theorem dX8_bestReserve_64 : decode cX8_bestReserve 64 = .ok (.iload 5, 2) := by decide +kernel
theorem dX8_bestReserve_66 : decode cX8_bestReserve 66 = .ok (.istore_n 3, 1) := by decide +kernel
theorem dX8_bestReserve_67 : decode cX8_bestReserve 67 = .ok (.iinc 5 1, 3) := by decide +kernel
theorem dX8_bestReserve_70 : decode cX8_bestReserve 70 = .ok (.goto (-46), 3) := by decide +kernel
theorem dX8_bestReserve_73 : decode cX8_bestReserve 73 = .ok (.aload_n 0, 1) := by decide +kernel
theorem dX8_bestReserve_74 : decode cX8_bestReserve 74 = .ok (.getfield 13, 3) := by decide +kernel
theorem dX8_bestReserve_77 : decode cX8_bestReserve 77 = .ok (.iconst 1, 1) := by decide +kernel
theorem dX8_bestReserve_78 : decode cX8_bestReserve 78 = .ok (.iload_n 2, 1) := by decide +kernel
theorem dX8_bestReserve_79 : decode cX8_bestReserve 79 = .ok (.iastore, 1) := by decide +kernel
theorem dX8_bestReserve_80 : decode cX8_bestReserve 80 = .ok (.iload_n 3, 1) := by decide +kernel
theorem dX8_bestReserve_81 : decode cX8_bestReserve 81 = .ok (.ireturn, 1) := by decide +kernel
theorem dX8_unitsWithout_0 : decode cX8_unitsWithout 0 = .ok (.aload_n 0, 1) := by decide +kernel
theorem dX8_unitsWithout_1 : decode cX8_unitsWithout 1 = .ok (.iload_n 1, 1) := by decide +kernel
theorem dX8_unitsWithout_2 : decode cX8_unitsWithout 2 = .ok (.invokevirtual 90, 3) := by decide +kernel
theorem dX8_unitsWithout_5 : decode cX8_unitsWithout 5 = .ok (.ifCond .eq 16, 3) := by decide +kernel
theorem dX8_unitsWithout_8 : decode cX8_unitsWithout 8 = .ok (.aload_n 0, 1) := by decide +kernel
theorem dX8_unitsWithout_9 : decode cX8_unitsWithout 9 = .ok (.iload_n 2, 1) := by decide +kernel
theorem dX8_unitsWithout_10 : decode cX8_unitsWithout 10 = .ok (.invokevirtual 90, 3) := by decide +kernel
theorem dX8_unitsWithout_13 : decode cX8_unitsWithout 13 = .ok (.ifCond .eq 8, 3) := by decide +kernel
theorem dX8_unitsWithout_16 : decode cX8_unitsWithout 16 = .ok (.iload_n 1, 1) := by decide +kernel
theorem dX8_unitsWithout_17 : decode cX8_unitsWithout 17 = .ok (.iload_n 2, 1) := by decide +kernel
theorem dX8_unitsWithout_18 : decode cX8_unitsWithout 18 = .ok (.if_icmp .ne 5, 3) := by decide +kernel
theorem dX8_unitsWithout_21 : decode cX8_unitsWithout 21 = .ok (.iconst (-1), 1) := by decide +kernel
theorem dX8_unitsWithout_22 : decode cX8_unitsWithout 22 = .ok (.ireturn, 1) := by decide +kernel
theorem dX8_unitsWithout_23 : decode cX8_unitsWithout 23 = .ok (.aload_n 0, 1) := by decide +kernel
theorem dX8_unitsWithout_24 : decode cX8_unitsWithout 24 = .ok (.invokevirtual 197, 3) := by decide +kernel
theorem dX8_unitsWithout_27 : decode cX8_unitsWithout 27 = .ok (.aload_n 0, 1) := by decide +kernel
theorem dX8_unitsWithout_28 : decode cX8_unitsWithout 28 = .ok (.iload_n 2, 1) := by decide +kernel
theorem dX8_unitsWithout_29 : decode cX8_unitsWithout 29 = .ok (.invokevirtual 94, 3) := by decide +kernel
theorem dX8_unitsWithout_32 : decode cX8_unitsWithout 32 = .ok (.aload_n 0, 1) := by decide +kernel
theorem dX8_unitsWithout_33 : decode cX8_unitsWithout 33 = .ok (.invokevirtual 171, 3) := by decide +kernel
theorem dX8_unitsWithout_36 : decode cX8_unitsWithout 36 = .ok (.aload_n 0, 1) := by decide +kernel
theorem dX8_unitsWithout_37 : decode cX8_unitsWithout 37 = .ok (.invokevirtual 200, 3) := by decide +kernel
theorem dX8_unitsWithout_40 : decode cX8_unitsWithout 40 = .ok (.aload_n 0, 1) := by decide +kernel
theorem dX8_unitsWithout_41 : decode cX8_unitsWithout 41 = .ok (.getfield 26, 3) := by decide +kernel
theorem dX8_unitsWithout_44 : decode cX8_unitsWithout 44 = .ok (.iload_n 2, 1) := by decide +kernel
theorem dX8_unitsWithout_45 : decode cX8_unitsWithout 45 = .ok (.iload_n 1, 1) := by decide +kernel
theorem dX8_unitsWithout_46 : decode cX8_unitsWithout 46 = .ok (.if_icmp .ge 9, 3) := by decide +kernel
theorem dX8_unitsWithout_49 : decode cX8_unitsWithout 49 = .ok (.iload_n 1, 1) := by decide +kernel
theorem dX8_unitsWithout_50 : decode cX8_unitsWithout 50 = .ok (.iconst 1, 1) := by decide +kernel
theorem dX8_unitsWithout_51 : decode cX8_unitsWithout 51 = .ok (.isub, 1) := by decide +kernel
theorem dX8_unitsWithout_52 : decode cX8_unitsWithout 52 = .ok (.goto 4, 3) := by decide +kernel
theorem dX8_unitsWithout_55 : decode cX8_unitsWithout 55 = .ok (.iload_n 1, 1) := by decide +kernel
theorem dX8_unitsWithout_56 : decode cX8_unitsWithout 56 = .ok (.iaload, 1) := by decide +kernel
theorem dX8_unitsWithout_57 : decode cX8_unitsWithout 57 = .ok (.ireturn, 1) := by decide +kernel
theorem dX8_paidBut_0 : decode cX8_paidBut 0 = .ok (.aload_n 0, 1) := by decide +kernel
theorem dX8_paidBut_1 : decode cX8_paidBut 1 = .ok (.invokevirtual 197, 3) := by decide +kernel
theorem dX8_paidBut_4 : decode cX8_paidBut 4 = .ok (.aload_n 0, 1) := by decide +kernel
theorem dX8_paidBut_5 : decode cX8_paidBut 5 = .ok (.iload_n 1, 1) := by decide +kernel
theorem dX8_paidBut_6 : decode cX8_paidBut 6 = .ok (.invokevirtual 94, 3) := by decide +kernel
theorem dX8_paidBut_9 : decode cX8_paidBut 9 = .ok (.aload_n 0, 1) := by decide +kernel
theorem dX8_paidBut_10 : decode cX8_paidBut 10 = .ok (.invokevirtual 171, 3) := by decide +kernel
theorem dX8_paidBut_13 : decode cX8_paidBut 13 = .ok (.aload_n 0, 1) := by decide +kernel
theorem dX8_paidBut_14 : decode cX8_paidBut 14 = .ok (.iload_n 2, 1) := by decide +kernel
theorem dX8_paidBut_15 : decode cX8_paidBut 15 = .ok (.invokevirtual 174, 3) := by decide +kernel
theorem dX8_paidBut_18 : decode cX8_paidBut 18 = .ok (.istore_n 3, 1) := by decide +kernel
theorem dX8_paidBut_19 : decode cX8_paidBut 19 = .ok (.aload_n 0, 1) := by decide +kernel
theorem dX8_paidBut_20 : decode cX8_paidBut 20 = .ok (.invokevirtual 200, 3) := by decide +kernel
theorem dX8_paidBut_23 : decode cX8_paidBut 23 = .ok (.iload_n 3, 1) := by decide +kernel
theorem dX8_paidBut_24 : decode cX8_paidBut 24 = .ok (.ireturn, 1) := by decide +kernel
theorem dX8_paidWithout_0 : decode cX8_paidWithout 0 = .ok (.aload_n 0, 1) := by decide +kernel
theorem dX8_paidWithout_1 : decode cX8_paidWithout 1 = .ok (.iload_n 1, 1) := by decide +kernel
theorem dX8_paidWithout_2 : decode cX8_paidWithout 2 = .ok (.invokevirtual 90, 3) := by decide +kernel
theorem dX8_paidWithout_5 : decode cX8_paidWithout 5 = .ok (.ifCond .eq 19, 3) := by decide +kernel
theorem dX8_paidWithout_8 : decode cX8_paidWithout 8 = .ok (.iload_n 2, 1) := by decide +kernel
theorem dX8_paidWithout_9 : decode cX8_paidWithout 9 = .ok (.invokestatic 168, 3) := by decide +kernel
theorem dX8_paidWithout_12 : decode cX8_paidWithout 12 = .ok (.ifCond .eq 12, 3) := by decide +kernel
theorem dX8_paidWithout_15 : decode cX8_paidWithout 15 = .ok (.aload_n 0, 1) := by decide +kernel
theorem dX8_paidWithout_16 : decode cX8_paidWithout 16 = .ok (.iload_n 1, 1) := by decide +kernel
theorem dX8_paidWithout_17 : decode cX8_paidWithout 17 = .ok (.iload_n 2, 1) := by decide +kernel
theorem dX8_paidWithout_18 : decode cX8_paidWithout 18 = .ok (.invokevirtual 203, 3) := by decide +kernel
theorem dX8_paidWithout_21 : decode cX8_paidWithout 21 = .ok (.goto 4, 3) := by decide +kernel
theorem dX8_paidWithout_24 : decode cX8_paidWithout 24 = .ok (.iconst (-1), 1) := by decide +kernel
theorem dX8_paidWithout_25 : decode cX8_paidWithout 25 = .ok (.ireturn, 1) := by decide +kernel
theorem dX8_pivot_0 : decode cX8_pivot 0 = .ok (.bipush (-2), 2) := by decide +kernel
theorem dX8_pivot_2 : decode cX8_pivot 2 = .ok (.istore_n 1, 1) := by decide +kernel
theorem dX8_pivot_3 : decode cX8_pivot 3 = .ok (.iconst 0, 1) := by decide +kernel
theorem dX8_pivot_4 : decode cX8_pivot 4 = .ok (.istore_n 2, 1) := by decide +kernel
theorem dX8_pivot_5 : decode cX8_pivot 5 = .ok (.iconst 0, 1) := by decide +kernel
theorem dX8_pivot_6 : decode cX8_pivot 6 = .ok (.istore_n 3, 1) := by decide +kernel
theorem dX8_pivot_7 : decode cX8_pivot 7 = .ok (.iload_n 3, 1) := by decide +kernel
theorem dX8_pivot_8 : decode cX8_pivot 8 = .ok (.aload_n 0, 1) := by decide +kernel
theorem dX8_pivot_9 : decode cX8_pivot 9 = .ok (.invokevirtual 61, 3) := by decide +kernel
theorem dX8_pivot_12 : decode cX8_pivot 12 = .ok (.if_icmp .ge 35, 3) := by decide +kernel
theorem dX8_pivot_15 : decode cX8_pivot 15 = .ok (.aload_n 0, 1) := by decide +kernel
theorem dX8_pivot_16 : decode cX8_pivot 16 = .ok (.iload_n 3, 1) := by decide +kernel
theorem dX8_pivot_17 : decode cX8_pivot 17 = .ok (.iconst 0, 1) := by decide +kernel
theorem dX8_pivot_18 : decode cX8_pivot 18 = .ok (.invokevirtual 203, 3) := by decide +kernel
theorem dX8_pivot_21 : decode cX8_pivot 21 = .ok (.istore 4, 2) := by decide +kernel
theorem dX8_pivot_23 : decode cX8_pivot 23 = .ok (.iload_n 1, 1) := by decide +kernel
theorem dX8_pivot_24 : decode cX8_pivot 24 = .ok (.ifCond .lt 12, 3) := by decide +kernel
theorem dX8_pivot_27 : decode cX8_pivot 27 = .ok (.iload 4, 2) := by decide +kernel
theorem dX8_pivot_29 : decode cX8_pivot 29 = .ok (.iload_n 2, 1) := by decide +kernel
theorem dX8_pivot_30 : decode cX8_pivot 30 = .ok (.if_icmp .lt 6, 3) := by decide +kernel
theorem dX8_pivot_33 : decode cX8_pivot 33 = .ok (.goto 8, 3) := by decide +kernel
theorem dX8_pivot_36 : decode cX8_pivot 36 = .ok (.iload_n 3, 1) := by decide +kernel
theorem dX8_pivot_37 : decode cX8_pivot 37 = .ok (.istore_n 1, 1) := by decide +kernel
theorem dX8_pivot_38 : decode cX8_pivot 38 = .ok (.iload 4, 2) := by decide +kernel
theorem dX8_pivot_40 : decode cX8_pivot 40 = .ok (.istore_n 2, 1) := by decide +kernel
theorem dX8_pivot_41 : decode cX8_pivot 41 = .ok (.iinc 3 1, 3) := by decide +kernel
theorem dX8_pivot_44 : decode cX8_pivot 44 = .ok (.goto (-37), 3) := by decide +kernel
theorem dX8_pivot_47 : decode cX8_pivot 47 = .ok (.iload_n 1, 1) := by decide +kernel
theorem dX8_pivot_48 : decode cX8_pivot 48 = .ok (.ireturn, 1) := by decide +kernel
theorem dX8_truly_0 : decode cX8_truly 0 = .ok (.aload_n 0, 1) := by decide +kernel
theorem dX8_truly_1 : decode cX8_truly 1 = .ok (.invokevirtual 171, 3) := by decide +kernel
theorem dX8_truly_4 : decode cX8_truly 4 = .ok (.aload_n 0, 1) := by decide +kernel
theorem dX8_truly_5 : decode cX8_truly 5 = .ok (.iload_n 1, 1) := by decide +kernel
theorem dX8_truly_6 : decode cX8_truly 6 = .ok (.iload_n 2, 1) := by decide +kernel
theorem dX8_truly_7 : decode cX8_truly 7 = .ok (.invokevirtual 165, 3) := by decide +kernel
theorem dX8_truly_10 : decode cX8_truly 10 = .ok (.istore_n 3, 1) := by decide +kernel
theorem dX8_truly_11 : decode cX8_truly 11 = .ok (.aload_n 0, 1) := by decide +kernel
theorem dX8_truly_12 : decode cX8_truly 12 = .ok (.invokevirtual 200, 3) := by decide +kernel
theorem dX8_truly_15 : decode cX8_truly 15 = .ok (.aload_n 0, 1) := by decide +kernel
theorem dX8_truly_16 : decode cX8_truly 16 = .ok (.iload_n 1, 1) := by decide +kernel
theorem dX8_truly_17 : decode cX8_truly 17 = .ok (.aload_n 0, 1) := by decide +kernel
theorem dX8_truly_18 : decode cX8_truly 18 = .ok (.getfield 26, 3) := by decide +kernel
theorem dX8_truly_21 : decode cX8_truly 21 = .ok (.iload_n 1, 1) := by decide +kernel
theorem dX8_truly_22 : decode cX8_truly 22 = .ok (.iaload, 1) := by decide +kernel
theorem dX8_truly_23 : decode cX8_truly 23 = .ok (.invokevirtual 150, 3) := by decide +kernel
theorem dX8_truly_26 : decode cX8_truly 26 = .ok (.iload_n 3, 1) := by decide +kernel
theorem dX8_truly_27 : decode cX8_truly 27 = .ok (.isub, 1) := by decide +kernel
theorem dX8_truly_28 : decode cX8_truly 28 = .ok (.ireturn, 1) := by decide +kernel
theorem dX8_tellsFirst_0 : decode cX8_tellsFirst 0 = .ok (.aload_n 0, 1) := by decide +kernel
theorem dX8_tellsFirst_1 : decode cX8_tellsFirst 1 = .ok (.invokevirtual 197, 3) := by decide +kernel
theorem dX8_tellsFirst_4 : decode cX8_tellsFirst 4 = .ok (.aload_n 0, 1) := by decide +kernel
theorem dX8_tellsFirst_5 : decode cX8_tellsFirst 5 = .ok (.getfield 13, 3) := by decide +kernel
theorem dX8_tellsFirst_8 : decode cX8_tellsFirst 8 = .ok (.iconst 3, 1) := by decide +kernel
theorem dX8_tellsFirst_9 : decode cX8_tellsFirst 9 = .ok (.bipush 10, 2) := by decide +kernel
theorem dX8_tellsFirst_11 : decode cX8_tellsFirst 11 = .ok (.iload_n 1, 1) := by decide +kernel
theorem dX8_tellsFirst_12 : decode cX8_tellsFirst 12 = .ok (.imul, 1) := by decide +kernel
theorem dX8_tellsFirst_13 : decode cX8_tellsFirst 13 = .ok (.iadd, 1) := by decide +kernel
theorem dX8_tellsFirst_14 : decode cX8_tellsFirst 14 = .ok (.iconst 1, 1) := by decide +kernel
theorem dX8_tellsFirst_15 : decode cX8_tellsFirst 15 = .ok (.iadd, 1) := by decide +kernel
theorem dX8_tellsFirst_16 : decode cX8_tellsFirst 16 = .ok (.iload_n 3, 1) := by decide +kernel
theorem dX8_tellsFirst_17 : decode cX8_tellsFirst 17 = .ok (.iastore, 1) := by decide +kernel
theorem dX8_tellsFirst_18 : decode cX8_tellsFirst 18 = .ok (.aload_n 0, 1) := by decide +kernel
theorem dX8_tellsFirst_19 : decode cX8_tellsFirst 19 = .ok (.iload_n 1, 1) := by decide +kernel
theorem dX8_tellsFirst_20 : decode cX8_tellsFirst 20 = .ok (.iload_n 2, 1) := by decide +kernel
theorem dX8_tellsFirst_21 : decode cX8_tellsFirst 21 = .ok (.invokevirtual 206, 3) := by decide +kernel
theorem dX8_tellsFirst_24 : decode cX8_tellsFirst 24 = .ok (.ireturn, 1) := by decide +kernel
theorem dX8_tells_0 : decode cX8_tells 0 = .ok (.aload_n 0, 1) := by decide +kernel
theorem dX8_tells_1 : decode cX8_tells 1 = .ok (.iload_n 1, 1) := by decide +kernel
theorem dX8_tells_2 : decode cX8_tells 2 = .ok (.invokevirtual 90, 3) := by decide +kernel
theorem dX8_tells_5 : decode cX8_tells 5 = .ok (.ifCond .eq 33, 3) := by decide +kernel
theorem dX8_tells_8 : decode cX8_tells 8 = .ok (.iload_n 2, 1) := by decide +kernel
theorem dX8_tells_9 : decode cX8_tells 9 = .ok (.invokestatic 168, 3) := by decide +kernel
theorem dX8_tells_12 : decode cX8_tells 12 = .ok (.ifCond .eq 26, 3) := by decide +kernel
theorem dX8_tells_15 : decode cX8_tells 15 = .ok (.iload_n 3, 1) := by decide +kernel
theorem dX8_tells_16 : decode cX8_tells 16 = .ok (.iconst 0, 1) := by decide +kernel
theorem dX8_tells_17 : decode cX8_tells 17 = .ok (.aload_n 0, 1) := by decide +kernel
theorem dX8_tells_18 : decode cX8_tells 18 = .ok (.iload_n 1, 1) := by decide +kernel
theorem dX8_tells_19 : decode cX8_tells 19 = .ok (.invokevirtual 73, 3) := by decide +kernel
theorem dX8_tells_22 : decode cX8_tells 22 = .ok (.invokestatic 65, 3) := by decide +kernel
theorem dX8_tells_25 : decode cX8_tells 25 = .ok (.ifCond .eq 13, 3) := by decide +kernel
theorem dX8_tells_28 : decode cX8_tells 28 = .ok (.aload_n 0, 1) := by decide +kernel
theorem dX8_tells_29 : decode cX8_tells 29 = .ok (.iload_n 1, 1) := by decide +kernel
theorem dX8_tells_30 : decode cX8_tells 30 = .ok (.iload_n 2, 1) := by decide +kernel
theorem dX8_tells_31 : decode cX8_tells 31 = .ok (.iload_n 3, 1) := by decide +kernel
theorem dX8_tells_32 : decode cX8_tells 32 = .ok (.invokevirtual 209, 3) := by decide +kernel
theorem dX8_tells_35 : decode cX8_tells 35 = .ok (.goto 5, 3) := by decide +kernel
theorem dX8_tells_38 : decode cX8_tells 38 = .ok (.ldc 180, 2) := by decide +kernel
theorem dX8_tells_40 : decode cX8_tells 40 = .ok (.ireturn, 1) := by decide +kernel
theorem dX8_bestTells_0 : decode cX8_bestTells 0 = .ok (.aload_n 0, 1) := by decide +kernel
theorem dX8_bestTells_1 : decode cX8_bestTells 1 = .ok (.iload_n 1, 1) := by decide +kernel
theorem dX8_bestTells_2 : decode cX8_bestTells 2 = .ok (.invokevirtual 90, 3) := by decide +kernel
theorem dX8_bestTells_5 : decode cX8_bestTells 5 = .ok (.ifCond .eq 10, 3) := by decide +kernel
theorem dX8_bestTells_8 : decode cX8_bestTells 8 = .ok (.iload_n 2, 1) := by decide +kernel
theorem dX8_bestTells_9 : decode cX8_bestTells 9 = .ok (.invokestatic 168, 3) := by decide +kernel
theorem dX8_bestTells_12 : decode cX8_bestTells 12 = .ok (.ifCond .ne 5, 3) := by decide +kernel
theorem dX8_bestTells_15 : decode cX8_bestTells 15 = .ok (.iconst (-1), 1) := by decide +kernel
theorem dX8_bestTells_16 : decode cX8_bestTells 16 = .ok (.ireturn, 1) := by decide +kernel
theorem dX8_bestTells_17 : decode cX8_bestTells 17 = .ok (.iconst 0, 1) := by decide +kernel
theorem dX8_bestTells_18 : decode cX8_bestTells 18 = .ok (.istore_n 3, 1) := by decide +kernel
theorem dX8_bestTells_19 : decode cX8_bestTells 19 = .ok (.ldc 180, 2) := by decide +kernel
theorem dX8_bestTells_21 : decode cX8_bestTells 21 = .ok (.istore 4, 2) := by decide +kernel
theorem dX8_bestTells_23 : decode cX8_bestTells 23 = .ok (.iconst 0, 1) := by decide +kernel
theorem dX8_bestTells_24 : decode cX8_bestTells 24 = .ok (.istore 5, 2) := by decide +kernel
theorem dX8_bestTells_26 : decode cX8_bestTells 26 = .ok (.iload 5, 2) := by decide +kernel
theorem dX8_bestTells_28 : decode cX8_bestTells 28 = .ok (.aload_n 0, 1) := by decide +kernel
theorem dX8_bestTells_29 : decode cX8_bestTells 29 = .ok (.iload_n 1, 1) := by decide +kernel
theorem dX8_bestTells_30 : decode cX8_bestTells 30 = .ok (.invokevirtual 73, 3) := by decide +kernel
theorem dX8_bestTells_33 : decode cX8_bestTells 33 = .ok (.if_icmp .gt 36, 3) := by decide +kernel
theorem dX8_bestTells_36 : decode cX8_bestTells 36 = .ok (.aload_n 0, 1) := by decide +kernel
theorem dX8_bestTells_37 : decode cX8_bestTells 37 = .ok (.iload_n 1, 1) := by decide +kernel
theorem dX8_bestTells_38 : decode cX8_bestTells 38 = .ok (.iload_n 2, 1) := by decide +kernel
theorem dX8_bestTells_39 : decode cX8_bestTells 39 = .ok (.iload 5, 2) := by decide +kernel
theorem dX8_bestTells_41 : decode cX8_bestTells 41 = .ok (.invokevirtual 209, 3) := by decide +kernel
theorem dX8_bestTells_44 : decode cX8_bestTells 44 = .ok (.istore 6, 2) := by decide +kernel
theorem dX8_bestTells_46 : decode cX8_bestTells 46 = .ok (.iload 6, 2) := by decide +kernel
theorem dX8_bestTells_48 : decode cX8_bestTells 48 = .ok (.iload 4, 2) := by decide +kernel
theorem dX8_bestTells_50 : decode cX8_bestTells 50 = .ok (.if_icmp .ge 6, 3) := by decide +kernel
theorem dX8_bestTells_53 : decode cX8_bestTells 53 = .ok (.goto 10, 3) := by decide +kernel
theorem dX8_bestTells_56 : decode cX8_bestTells 56 = .ok (.iload 6, 2) := by decide +kernel
theorem dX8_bestTells_58 : decode cX8_bestTells 58 = .ok (.istore 4, 2) := by decide +kernel
theorem dX8_bestTells_60 : decode cX8_bestTells 60 = .ok (.iload 5, 2) := by decide +kernel
theorem dX8_bestTells_62 : decode cX8_bestTells 62 = .ok (.istore_n 3, 1) := by decide +kernel
theorem dX8_bestTells_63 : decode cX8_bestTells 63 = .ok (.iinc 5 1, 3) := by decide +kernel
theorem dX8_bestTells_66 : decode cX8_bestTells 66 = .ok (.goto (-40), 3) := by decide +kernel
theorem dX8_bestTells_69 : decode cX8_bestTells 69 = .ok (.iload_n 3, 1) := by decide +kernel
theorem dX8_bestTells_70 : decode cX8_bestTells 70 = .ok (.ireturn, 1) := by decide +kernel
theorem dX8_hidesAll_0 : decode cX8_hidesAll 0 = .ok (.aload_n 0, 1) := by decide +kernel
theorem dX8_hidesAll_1 : decode cX8_hidesAll 1 = .ok (.invokevirtual 197, 3) := by decide +kernel
theorem dX8_hidesAll_4 : decode cX8_hidesAll 4 = .ok (.aload_n 0, 1) := by decide +kernel
theorem dX8_hidesAll_5 : decode cX8_hidesAll 5 = .ok (.iload_n 1, 1) := by decide +kernel
theorem dX8_hidesAll_6 : decode cX8_hidesAll 6 = .ok (.iload_n 3, 1) := by decide +kernel
theorem dX8_hidesAll_7 : decode cX8_hidesAll 7 = .ok (.ineg, 1) := by decide +kernel
theorem dX8_hidesAll_8 : decode cX8_hidesAll 8 = .ok (.invokevirtual 123, 3) := by decide +kernel
theorem dX8_hidesAll_11 : decode cX8_hidesAll 11 = .ok (.pop, 1) := by decide +kernel
theorem dX8_hidesAll_12 : decode cX8_hidesAll 12 = .ok (.aload_n 0, 1) := by decide +kernel
theorem dX8_hidesAll_13 : decode cX8_hidesAll 13 = .ok (.iload_n 1, 1) := by decide +kernel
theorem dX8_hidesAll_14 : decode cX8_hidesAll 14 = .ok (.iload_n 2, 1) := by decide +kernel
theorem dX8_hidesAll_15 : decode cX8_hidesAll 15 = .ok (.invokevirtual 206, 3) := by decide +kernel
theorem dX8_hidesAll_18 : decode cX8_hidesAll 18 = .ok (.ireturn, 1) := by decide +kernel
theorem dX8_hides_0 : decode cX8_hides 0 = .ok (.aload_n 0, 1) := by decide +kernel
theorem dX8_hides_1 : decode cX8_hides 1 = .ok (.iload_n 1, 1) := by decide +kernel
theorem dX8_hides_2 : decode cX8_hides 2 = .ok (.invokevirtual 90, 3) := by decide +kernel
theorem dX8_hides_5 : decode cX8_hides 5 = .ok (.ifCond .eq 27, 3) := by decide +kernel
theorem dX8_hides_8 : decode cX8_hides 8 = .ok (.iload_n 2, 1) := by decide +kernel
theorem dX8_hides_9 : decode cX8_hides 9 = .ok (.invokestatic 168, 3) := by decide +kernel
theorem dX8_hides_12 : decode cX8_hides 12 = .ok (.ifCond .eq 20, 3) := by decide +kernel
theorem dX8_hides_15 : decode cX8_hides 15 = .ok (.iload_n 3, 1) := by decide +kernel
theorem dX8_hides_16 : decode cX8_hides 16 = .ok (.invokestatic 98, 3) := by decide +kernel
theorem dX8_hides_19 : decode cX8_hides 19 = .ok (.ifCond .eq 13, 3) := by decide +kernel
theorem dX8_hides_22 : decode cX8_hides 22 = .ok (.aload_n 0, 1) := by decide +kernel
theorem dX8_hides_23 : decode cX8_hides 23 = .ok (.iload_n 1, 1) := by decide +kernel
theorem dX8_hides_24 : decode cX8_hides 24 = .ok (.iload_n 2, 1) := by decide +kernel
theorem dX8_hides_25 : decode cX8_hides 25 = .ok (.iload_n 3, 1) := by decide +kernel
theorem dX8_hides_26 : decode cX8_hides 26 = .ok (.invokevirtual 212, 3) := by decide +kernel
theorem dX8_hides_29 : decode cX8_hides 29 = .ok (.goto 5, 3) := by decide +kernel
theorem dX8_hides_32 : decode cX8_hides 32 = .ok (.ldc 180, 2) := by decide +kernel
theorem dX8_hides_34 : decode cX8_hides 34 = .ok (.ireturn, 1) := by decide +kernel
theorem dX8_bestHides_0 : decode cX8_bestHides 0 = .ok (.aload_n 0, 1) := by decide +kernel
theorem dX8_bestHides_1 : decode cX8_bestHides 1 = .ok (.iload_n 1, 1) := by decide +kernel
theorem dX8_bestHides_2 : decode cX8_bestHides 2 = .ok (.invokevirtual 90, 3) := by decide +kernel
theorem dX8_bestHides_5 : decode cX8_bestHides 5 = .ok (.ifCond .eq 10, 3) := by decide +kernel
theorem dX8_bestHides_8 : decode cX8_bestHides 8 = .ok (.iload_n 2, 1) := by decide +kernel
theorem dX8_bestHides_9 : decode cX8_bestHides 9 = .ok (.invokestatic 168, 3) := by decide +kernel
theorem dX8_bestHides_12 : decode cX8_bestHides 12 = .ok (.ifCond .ne 5, 3) := by decide +kernel
theorem dX8_bestHides_15 : decode cX8_bestHides 15 = .ok (.iconst (-1), 1) := by decide +kernel
theorem dX8_bestHides_16 : decode cX8_bestHides 16 = .ok (.ireturn, 1) := by decide +kernel
theorem dX8_bestHides_17 : decode cX8_bestHides 17 = .ok (.iconst 0, 1) := by decide +kernel
theorem dX8_bestHides_18 : decode cX8_bestHides 18 = .ok (.istore_n 3, 1) := by decide +kernel
theorem dX8_bestHides_19 : decode cX8_bestHides 19 = .ok (.ldc 180, 2) := by decide +kernel
theorem dX8_bestHides_21 : decode cX8_bestHides 21 = .ok (.istore 4, 2) := by decide +kernel
theorem dX8_bestHides_23 : decode cX8_bestHides 23 = .ok (.iconst 0, 1) := by decide +kernel
theorem dX8_bestHides_24 : decode cX8_bestHides 24 = .ok (.istore 5, 2) := by decide +kernel
theorem dX8_bestHides_26 : decode cX8_bestHides 26 = .ok (.iload 5, 2) := by decide +kernel
theorem dX8_bestHides_28 : decode cX8_bestHides 28 = .ok (.bipush 20, 2) := by decide +kernel
theorem dX8_bestHides_30 : decode cX8_bestHides 30 = .ok (.if_icmp .gt 36, 3) := by decide +kernel
theorem dX8_bestHides_33 : decode cX8_bestHides 33 = .ok (.aload_n 0, 1) := by decide +kernel
theorem dX8_bestHides_34 : decode cX8_bestHides 34 = .ok (.iload_n 1, 1) := by decide +kernel
theorem dX8_bestHides_35 : decode cX8_bestHides 35 = .ok (.iload_n 2, 1) := by decide +kernel
theorem dX8_bestHides_36 : decode cX8_bestHides 36 = .ok (.iload 5, 2) := by decide +kernel
theorem dX8_bestHides_38 : decode cX8_bestHides 38 = .ok (.invokevirtual 212, 3) := by decide +kernel
theorem dX8_bestHides_41 : decode cX8_bestHides 41 = .ok (.istore 6, 2) := by decide +kernel
theorem dX8_bestHides_43 : decode cX8_bestHides 43 = .ok (.iload 6, 2) := by decide +kernel
theorem dX8_bestHides_45 : decode cX8_bestHides 45 = .ok (.iload 4, 2) := by decide +kernel
theorem dX8_bestHides_47 : decode cX8_bestHides 47 = .ok (.if_icmp .gt 6, 3) := by decide +kernel
theorem dX8_bestHides_50 : decode cX8_bestHides 50 = .ok (.goto 10, 3) := by decide +kernel
theorem dX8_bestHides_53 : decode cX8_bestHides 53 = .ok (.iload 6, 2) := by decide +kernel
theorem dX8_bestHides_55 : decode cX8_bestHides 55 = .ok (.istore 4, 2) := by decide +kernel
theorem dX8_bestHides_57 : decode cX8_bestHides 57 = .ok (.iload 5, 2) := by decide +kernel
theorem dX8_bestHides_59 : decode cX8_bestHides 59 = .ok (.istore_n 3, 1) := by decide +kernel
theorem dX8_bestHides_60 : decode cX8_bestHides 60 = .ok (.iinc 5 1, 3) := by decide +kernel
theorem dX8_bestHides_63 : decode cX8_bestHides 63 = .ok (.goto (-37), 3) := by decide +kernel
theorem dX8_bestHides_66 : decode cX8_bestHides 66 = .ok (.iload_n 3, 1) := by decide +kernel
theorem dX8_bestHides_67 : decode cX8_bestHides 67 = .ok (.ireturn, 1) := by decide +kernel
theorem dX8_inTwo_0 : decode cX8_inTwo 0 = .ok (.iload_n 1, 1) := by decide +kernel
theorem dX8_inTwo_1 : decode cX8_inTwo 1 = .ok (.iconst 1, 1) := by decide +kernel
theorem dX8_inTwo_2 : decode cX8_inTwo 2 = .ok (.aload_n 0, 1) := by decide +kernel
theorem dX8_inTwo_3 : decode cX8_inTwo 3 = .ok (.getfield 13, 3) := by decide +kernel
theorem dX8_inTwo_6 : decode cX8_inTwo 6 = .ok (.iconst 0, 1) := by decide +kernel
theorem dX8_inTwo_7 : decode cX8_inTwo 7 = .ok (.iaload, 1) := by decide +kernel
theorem dX8_inTwo_8 : decode cX8_inTwo 8 = .ok (.iconst 1, 1) := by decide +kernel
theorem dX8_inTwo_9 : decode cX8_inTwo 9 = .ok (.isub, 1) := by decide +kernel
theorem dX8_inTwo_10 : decode cX8_inTwo 10 = .ok (.invokestatic 65, 3) := by decide +kernel
theorem dX8_inTwo_13 : decode cX8_inTwo 13 = .ok (.ifCond .eq 10, 3) := by decide +kernel
theorem dX8_inTwo_16 : decode cX8_inTwo 16 = .ok (.iload_n 2, 1) := by decide +kernel
theorem dX8_inTwo_17 : decode cX8_inTwo 17 = .ok (.invokestatic 168, 3) := by decide +kernel
theorem dX8_inTwo_20 : decode cX8_inTwo 20 = .ok (.ifCond .ne 5, 3) := by decide +kernel
theorem dX8_inTwo_23 : decode cX8_inTwo 23 = .ok (.iconst (-1), 1) := by decide +kernel
theorem dX8_inTwo_24 : decode cX8_inTwo 24 = .ok (.ireturn, 1) := by decide +kernel
theorem dX8_inTwo_25 : decode cX8_inTwo 25 = .ok (.aload_n 0, 1) := by decide +kernel
theorem dX8_inTwo_26 : decode cX8_inTwo 26 = .ok (.invokevirtual 197, 3) := by decide +kernel
theorem dX8_inTwo_29 : decode cX8_inTwo 29 = .ok (.aload_n 0, 1) := by decide +kernel
theorem dX8_inTwo_30 : decode cX8_inTwo 30 = .ok (.getfield 13, 3) := by decide +kernel
theorem dX8_inTwo_33 : decode cX8_inTwo 33 = .ok (.iconst 0, 1) := by decide +kernel
theorem dX8_inTwo_34 : decode cX8_inTwo 34 = .ok (.iaload, 1) := by decide +kernel
theorem dX8_inTwo_35 : decode cX8_inTwo 35 = .ok (.iload_n 1, 1) := by decide +kernel
theorem dX8_inTwo_36 : decode cX8_inTwo 36 = .ok (.isub, 1) := by decide +kernel
theorem dX8_inTwo_37 : decode cX8_inTwo 37 = .ok (.istore_n 3, 1) := by decide +kernel
theorem dX8_inTwo_38 : decode cX8_inTwo 38 = .ok (.aload_n 0, 1) := by decide +kernel
theorem dX8_inTwo_39 : decode cX8_inTwo 39 = .ok (.getfield 13, 3) := by decide +kernel
theorem dX8_inTwo_42 : decode cX8_inTwo 42 = .ok (.iconst 0, 1) := by decide +kernel
theorem dX8_inTwo_43 : decode cX8_inTwo 43 = .ok (.iload_n 1, 1) := by decide +kernel
theorem dX8_inTwo_44 : decode cX8_inTwo 44 = .ok (.iastore, 1) := by decide +kernel
theorem dX8_inTwo_45 : decode cX8_inTwo 45 = .ok (.aload_n 0, 1) := by decide +kernel
theorem dX8_inTwo_46 : decode cX8_inTwo 46 = .ok (.invokevirtual 171, 3) := by decide +kernel
theorem dX8_inTwo_49 : decode cX8_inTwo 49 = .ok (.aload_n 0, 1) := by decide +kernel
theorem dX8_inTwo_50 : decode cX8_inTwo 50 = .ok (.iload_n 2, 1) := by decide +kernel
theorem dX8_inTwo_51 : decode cX8_inTwo 51 = .ok (.invokevirtual 174, 3) := by decide +kernel
theorem dX8_inTwo_54 : decode cX8_inTwo 54 = .ok (.istore 4, 2) := by decide +kernel
theorem dX8_inTwo_56 : decode cX8_inTwo 56 = .ok (.aload_n 0, 1) := by decide +kernel
theorem dX8_inTwo_57 : decode cX8_inTwo 57 = .ok (.invokevirtual 177, 3) := by decide +kernel
theorem dX8_inTwo_60 : decode cX8_inTwo 60 = .ok (.aload_n 0, 1) := by decide +kernel
theorem dX8_inTwo_61 : decode cX8_inTwo 61 = .ok (.getfield 13, 3) := by decide +kernel
theorem dX8_inTwo_64 : decode cX8_inTwo 64 = .ok (.iconst 0, 1) := by decide +kernel
theorem dX8_inTwo_65 : decode cX8_inTwo 65 = .ok (.iload_n 3, 1) := by decide +kernel
theorem dX8_inTwo_66 : decode cX8_inTwo 66 = .ok (.iastore, 1) := by decide +kernel
theorem dX8_inTwo_67 : decode cX8_inTwo 67 = .ok (.aload_n 0, 1) := by decide +kernel
theorem dX8_inTwo_68 : decode cX8_inTwo 68 = .ok (.invokevirtual 171, 3) := by decide +kernel
theorem dX8_inTwo_71 : decode cX8_inTwo 71 = .ok (.iload 4, 2) := by decide +kernel
theorem dX8_inTwo_73 : decode cX8_inTwo 73 = .ok (.aload_n 0, 1) := by decide +kernel
theorem dX8_inTwo_74 : decode cX8_inTwo 74 = .ok (.iload_n 2, 1) := by decide +kernel
theorem dX8_inTwo_75 : decode cX8_inTwo 75 = .ok (.invokevirtual 174, 3) := by decide +kernel
theorem dX8_inTwo_78 : decode cX8_inTwo 78 = .ok (.iadd, 1) := by decide +kernel
theorem dX8_inTwo_79 : decode cX8_inTwo 79 = .ok (.istore 4, 2) := by decide +kernel
theorem dX8_inTwo_81 : decode cX8_inTwo 81 = .ok (.aload_n 0, 1) := by decide +kernel
theorem dX8_inTwo_82 : decode cX8_inTwo 82 = .ok (.invokevirtual 200, 3) := by decide +kernel
theorem dX8_inTwo_85 : decode cX8_inTwo 85 = .ok (.iload 4, 2) := by decide +kernel
theorem dX8_inTwo_87 : decode cX8_inTwo 87 = .ok (.ireturn, 1) := by decide +kernel
theorem dX8_splitGain_0 : decode cX8_splitGain 0 = .ok (.aload_n 0, 1) := by decide +kernel
theorem dX8_splitGain_1 : decode cX8_splitGain 1 = .ok (.iload_n 1, 1) := by decide +kernel
theorem dX8_splitGain_2 : decode cX8_splitGain 2 = .ok (.invokevirtual 90, 3) := by decide +kernel
theorem dX8_splitGain_5 : decode cX8_splitGain 5 = .ok (.ifCond .eq 25, 3) := by decide +kernel
theorem dX8_splitGain_8 : decode cX8_splitGain 8 = .ok (.iload_n 3, 1) := by decide +kernel
theorem dX8_splitGain_9 : decode cX8_splitGain 9 = .ok (.invokestatic 168, 3) := by decide +kernel
theorem dX8_splitGain_12 : decode cX8_splitGain 12 = .ok (.ifCond .eq 18, 3) := by decide +kernel
theorem dX8_splitGain_15 : decode cX8_splitGain 15 = .ok (.iload_n 2, 1) := by decide +kernel
theorem dX8_splitGain_16 : decode cX8_splitGain 16 = .ok (.iconst 1, 1) := by decide +kernel
theorem dX8_splitGain_17 : decode cX8_splitGain 17 = .ok (.aload_n 0, 1) := by decide +kernel
theorem dX8_splitGain_18 : decode cX8_splitGain 18 = .ok (.iload_n 1, 1) := by decide +kernel
theorem dX8_splitGain_19 : decode cX8_splitGain 19 = .ok (.invokevirtual 73, 3) := by decide +kernel
theorem dX8_splitGain_22 : decode cX8_splitGain 22 = .ok (.iconst 1, 1) := by decide +kernel
theorem dX8_splitGain_23 : decode cX8_splitGain 23 = .ok (.isub, 1) := by decide +kernel
theorem dX8_splitGain_24 : decode cX8_splitGain 24 = .ok (.invokestatic 65, 3) := by decide +kernel
theorem dX8_splitGain_27 : decode cX8_splitGain 27 = .ok (.ifCond .ne 6, 3) := by decide +kernel
theorem dX8_splitGain_30 : decode cX8_splitGain 30 = .ok (.ldc 180, 2) := by decide +kernel
theorem dX8_splitGain_32 : decode cX8_splitGain 32 = .ok (.ireturn, 1) := by decide +kernel
theorem dX8_splitGain_33 : decode cX8_splitGain 33 = .ok (.aload_n 0, 1) := by decide +kernel
theorem dX8_splitGain_34 : decode cX8_splitGain 34 = .ok (.invokevirtual 171, 3) := by decide +kernel
theorem dX8_splitGain_37 : decode cX8_splitGain 37 = .ok (.aload_n 0, 1) := by decide +kernel
theorem dX8_splitGain_38 : decode cX8_splitGain 38 = .ok (.iload_n 1, 1) := by decide +kernel
theorem dX8_splitGain_39 : decode cX8_splitGain 39 = .ok (.iload_n 3, 1) := by decide +kernel
theorem dX8_splitGain_40 : decode cX8_splitGain 40 = .ok (.invokevirtual 165, 3) := by decide +kernel
theorem dX8_splitGain_43 : decode cX8_splitGain 43 = .ok (.istore 4, 2) := by decide +kernel
theorem dX8_splitGain_45 : decode cX8_splitGain 45 = .ok (.aload_n 0, 1) := by decide +kernel
theorem dX8_splitGain_46 : decode cX8_splitGain 46 = .ok (.invokevirtual 197, 3) := by decide +kernel
theorem dX8_splitGain_49 : decode cX8_splitGain 49 = .ok (.aload_n 0, 1) := by decide +kernel
theorem dX8_splitGain_50 : decode cX8_splitGain 50 = .ok (.iload_n 1, 1) := by decide +kernel
theorem dX8_splitGain_51 : decode cX8_splitGain 51 = .ok (.iload_n 2, 1) := by decide +kernel
theorem dX8_splitGain_52 : decode cX8_splitGain 52 = .ok (.invokevirtual 117, 3) := by decide +kernel
theorem dX8_splitGain_55 : decode cX8_splitGain 55 = .ok (.istore 5, 2) := by decide +kernel
theorem dX8_splitGain_57 : decode cX8_splitGain 57 = .ok (.aload_n 0, 1) := by decide +kernel
theorem dX8_splitGain_58 : decode cX8_splitGain 58 = .ok (.invokevirtual 171, 3) := by decide +kernel
theorem dX8_splitGain_61 : decode cX8_splitGain 61 = .ok (.aload_n 0, 1) := by decide +kernel
theorem dX8_splitGain_62 : decode cX8_splitGain 62 = .ok (.iload_n 1, 1) := by decide +kernel
theorem dX8_splitGain_63 : decode cX8_splitGain 63 = .ok (.iload_n 3, 1) := by decide +kernel
theorem dX8_splitGain_64 : decode cX8_splitGain 64 = .ok (.invokevirtual 165, 3) := by decide +kernel
theorem dX8_splitGain_67 : decode cX8_splitGain 67 = .ok (.aload_n 0, 1) := by decide +kernel
theorem dX8_splitGain_68 : decode cX8_splitGain 68 = .ok (.iload 5, 2) := by decide +kernel
theorem dX8_splitGain_70 : decode cX8_splitGain 70 = .ok (.iload_n 3, 1) := by decide +kernel
theorem dX8_splitGain_71 : decode cX8_splitGain 71 = .ok (.invokevirtual 165, 3) := by decide +kernel
theorem dX8_splitGain_74 : decode cX8_splitGain 74 = .ok (.iadd, 1) := by decide +kernel
theorem dX8_splitGain_75 : decode cX8_splitGain 75 = .ok (.istore 6, 2) := by decide +kernel
theorem dX8_splitGain_77 : decode cX8_splitGain 77 = .ok (.aload_n 0, 1) := by decide +kernel
theorem dX8_splitGain_78 : decode cX8_splitGain 78 = .ok (.invokevirtual 200, 3) := by decide +kernel
theorem dX8_splitGain_81 : decode cX8_splitGain 81 = .ok (.iload 4, 2) := by decide +kernel
theorem dX8_splitGain_83 : decode cX8_splitGain 83 = .ok (.iload 6, 2) := by decide +kernel
theorem dX8_splitGain_85 : decode cX8_splitGain 85 = .ok (.isub, 1) := by decide +kernel
theorem dX8_splitGain_86 : decode cX8_splitGain 86 = .ok (.ireturn, 1) := by decide +kernel
theorem dX8_reserveFor_0 : decode cX8_reserveFor 0 = .ok (.iload_n 1, 1) := by decide +kernel
theorem dX8_reserveFor_1 : decode cX8_reserveFor 1 = .ok (.iconst 1, 1) := by decide +kernel
theorem dX8_reserveFor_2 : decode cX8_reserveFor 2 = .ok (.if_icmp .ge 5, 3) := by decide +kernel
theorem dX8_reserveFor_5 : decode cX8_reserveFor 5 = .ok (.iconst (-1), 1) := by decide +kernel
theorem dX8_reserveFor_6 : decode cX8_reserveFor 6 = .ok (.ireturn, 1) := by decide +kernel
theorem dX8_reserveFor_7 : decode cX8_reserveFor 7 = .ok (.iconst 0, 1) := by decide +kernel
theorem dX8_reserveFor_8 : decode cX8_reserveFor 8 = .ok (.istore_n 2, 1) := by decide +kernel
theorem dX8_reserveFor_9 : decode cX8_reserveFor 9 = .ok (.iload_n 2, 1) := by decide +kernel
theorem dX8_reserveFor_10 : decode cX8_reserveFor 10 = .ok (.bipush 99, 2) := by decide +kernel
theorem dX8_reserveFor_12 : decode cX8_reserveFor 12 = .ok (.if_icmp .gt 22, 3) := by decide +kernel
theorem dX8_reserveFor_15 : decode cX8_reserveFor 15 = .ok (.aload_n 0, 1) := by decide +kernel
theorem dX8_reserveFor_16 : decode cX8_reserveFor 16 = .ok (.iconst 1, 1) := by decide +kernel
theorem dX8_reserveFor_17 : decode cX8_reserveFor 17 = .ok (.iload_n 2, 1) := by decide +kernel
theorem dX8_reserveFor_18 : decode cX8_reserveFor 18 = .ok (.iconst 2, 1) := by decide +kernel
theorem dX8_reserveFor_19 : decode cX8_reserveFor 19 = .ok (.invokevirtual 193, 3) := by decide +kernel
theorem dX8_reserveFor_22 : decode cX8_reserveFor 22 = .ok (.iload_n 1, 1) := by decide +kernel
theorem dX8_reserveFor_23 : decode cX8_reserveFor 23 = .ok (.if_icmp .lt 5, 3) := by decide +kernel
theorem dX8_reserveFor_26 : decode cX8_reserveFor 26 = .ok (.iload_n 2, 1) := by decide +kernel
theorem dX8_reserveFor_27 : decode cX8_reserveFor 27 = .ok (.ireturn, 1) := by decide +kernel
theorem dX8_reserveFor_28 : decode cX8_reserveFor 28 = .ok (.iinc 2 1, 3) := by decide +kernel
theorem dX8_reserveFor_31 : decode cX8_reserveFor 31 = .ok (.goto (-22), 3) := by decide +kernel
theorem dX8_reserveFor_34 : decode cX8_reserveFor 34 = .ok (.bipush (-2), 2) := by decide +kernel
theorem dX8_reserveFor_36 : decode cX8_reserveFor 36 = .ok (.ireturn, 1) := by decide +kernel
theorem dX8_collude_0 : decode cX8_collude 0 = .ok (.aload_n 0, 1) := by decide +kernel
theorem dX8_collude_1 : decode cX8_collude 1 = .ok (.iload_n 1, 1) := by decide +kernel
theorem dX8_collude_2 : decode cX8_collude 2 = .ok (.invokevirtual 90, 3) := by decide +kernel
theorem dX8_collude_5 : decode cX8_collude 5 = .ok (.ifCond .eq 23, 3) := by decide +kernel
theorem dX8_collude_8 : decode cX8_collude 8 = .ok (.aload_n 0, 1) := by decide +kernel
theorem dX8_collude_9 : decode cX8_collude 9 = .ok (.iload_n 2, 1) := by decide +kernel
theorem dX8_collude_10 : decode cX8_collude 10 = .ok (.invokevirtual 90, 3) := by decide +kernel
theorem dX8_collude_13 : decode cX8_collude 13 = .ok (.ifCond .eq 15, 3) := by decide +kernel
theorem dX8_collude_16 : decode cX8_collude 16 = .ok (.iload_n 1, 1) := by decide +kernel
theorem dX8_collude_17 : decode cX8_collude 17 = .ok (.iload_n 2, 1) := by decide +kernel
theorem dX8_collude_18 : decode cX8_collude 18 = .ok (.if_icmp .eq 10, 3) := by decide +kernel
theorem dX8_collude_21 : decode cX8_collude 21 = .ok (.iload_n 3, 1) := by decide +kernel
theorem dX8_collude_22 : decode cX8_collude 22 = .ok (.invokestatic 168, 3) := by decide +kernel
theorem dX8_collude_25 : decode cX8_collude 25 = .ok (.ifCond .ne 6, 3) := by decide +kernel
theorem dX8_collude_28 : decode cX8_collude 28 = .ok (.ldc 180, 2) := by decide +kernel
theorem dX8_collude_30 : decode cX8_collude 30 = .ok (.ireturn, 1) := by decide +kernel
theorem dX8_collude_31 : decode cX8_collude 31 = .ok (.aload_n 0, 1) := by decide +kernel
theorem dX8_collude_32 : decode cX8_collude 32 = .ok (.invokevirtual 171, 3) := by decide +kernel
theorem dX8_collude_35 : decode cX8_collude 35 = .ok (.aload_n 0, 1) := by decide +kernel
theorem dX8_collude_36 : decode cX8_collude 36 = .ok (.iload_n 1, 1) := by decide +kernel
theorem dX8_collude_37 : decode cX8_collude 37 = .ok (.iload_n 3, 1) := by decide +kernel
theorem dX8_collude_38 : decode cX8_collude 38 = .ok (.invokevirtual 165, 3) := by decide +kernel
theorem dX8_collude_41 : decode cX8_collude 41 = .ok (.aload_n 0, 1) := by decide +kernel
theorem dX8_collude_42 : decode cX8_collude 42 = .ok (.iload_n 2, 1) := by decide +kernel
theorem dX8_collude_43 : decode cX8_collude 43 = .ok (.iload_n 3, 1) := by decide +kernel
theorem dX8_collude_44 : decode cX8_collude 44 = .ok (.invokevirtual 165, 3) := by decide +kernel
theorem dX8_collude_47 : decode cX8_collude 47 = .ok (.iadd, 1) := by decide +kernel
theorem dX8_collude_48 : decode cX8_collude 48 = .ok (.istore 4, 2) := by decide +kernel
theorem dX8_collude_50 : decode cX8_collude 50 = .ok (.aload_n 0, 1) := by decide +kernel
theorem dX8_collude_51 : decode cX8_collude 51 = .ok (.invokevirtual 197, 3) := by decide +kernel
theorem dX8_collude_54 : decode cX8_collude 54 = .ok (.aload_n 0, 1) := by decide +kernel
theorem dX8_collude_55 : decode cX8_collude 55 = .ok (.getfield 13, 3) := by decide +kernel
theorem dX8_collude_58 : decode cX8_collude 58 = .ok (.iconst 3, 1) := by decide +kernel
theorem dX8_collude_59 : decode cX8_collude 59 = .ok (.bipush 10, 2) := by decide +kernel
theorem dX8_collude_61 : decode cX8_collude 61 = .ok (.iload_n 1, 1) := by decide +kernel
theorem dX8_collude_62 : decode cX8_collude 62 = .ok (.imul, 1) := by decide +kernel
theorem dX8_collude_63 : decode cX8_collude 63 = .ok (.iadd, 1) := by decide +kernel
theorem dX8_collude_64 : decode cX8_collude 64 = .ok (.bipush 8, 2) := by decide +kernel
theorem dX8_collude_66 : decode cX8_collude 66 = .ok (.aload_n 0, 1) := by decide +kernel
theorem dX8_collude_67 : decode cX8_collude 67 = .ok (.iload_n 1, 1) := by decide +kernel
theorem dX8_collude_68 : decode cX8_collude 68 = .ok (.invokevirtual 69, 3) := by decide +kernel
theorem dX8_collude_71 : decode cX8_collude 71 = .ok (.aload_n 0, 1) := by decide +kernel
theorem dX8_collude_72 : decode cX8_collude 72 = .ok (.iload_n 2, 1) := by decide +kernel
theorem dX8_collude_73 : decode cX8_collude 73 = .ok (.invokevirtual 69, 3) := by decide +kernel
theorem dX8_collude_76 : decode cX8_collude 76 = .ok (.iadd, 1) := by decide +kernel
theorem dX8_collude_77 : decode cX8_collude 77 = .ok (.invokestatic 76, 3) := by decide +kernel
theorem dX8_collude_80 : decode cX8_collude 80 = .ok (.iastore, 1) := by decide +kernel
theorem dX8_collude_81 : decode cX8_collude 81 = .ok (.iconst 0, 1) := by decide +kernel
theorem dX8_collude_82 : decode cX8_collude 82 = .ok (.istore 5, 2) := by decide +kernel
theorem dX8_collude_84 : decode cX8_collude 84 = .ok (.iload 5, 2) := by decide +kernel
theorem dX8_collude_86 : decode cX8_collude 86 = .ok (.aload_n 0, 1) := by decide +kernel
theorem dX8_collude_87 : decode cX8_collude 87 = .ok (.iload_n 2, 1) := by decide +kernel
theorem dX8_collude_88 : decode cX8_collude 88 = .ok (.invokevirtual 73, 3) := by decide +kernel
theorem dX8_collude_91 : decode cX8_collude 91 = .ok (.if_icmp .ge 67, 3) := by decide +kernel
theorem dX8_collude_94 : decode cX8_collude 94 = .ok (.aload_n 0, 1) := by decide +kernel
theorem dX8_collude_95 : decode cX8_collude 95 = .ok (.iload_n 2, 1) := by decide +kernel
theorem dX8_collude_96 : decode cX8_collude 96 = .ok (.iload 5, 2) := by decide +kernel
theorem dX8_collude_98 : decode cX8_collude 98 = .ok (.invokevirtual 114, 3) := by decide +kernel
theorem dX8_collude_101 : decode cX8_collude 101 = .ok (.istore 6, 2) := by decide +kernel
theorem dX8_collude_103 : decode cX8_collude 103 = .ok (.aload_n 0, 1) := by decide +kernel
theorem dX8_collude_104 : decode cX8_collude 104 = .ok (.iload_n 1, 1) := by decide +kernel
theorem dX8_collude_105 : decode cX8_collude 105 = .ok (.invokevirtual 73, 3) := by decide +kernel
theorem dX8_collude_108 : decode cX8_collude 108 = .ok (.bipush 8, 2) := by decide +kernel
theorem dX8_collude_110 : decode cX8_collude 110 = .ok (.if_icmp .ne 18, 3) := by decide +kernel
theorem dX8_collude_113 : decode cX8_collude 113 = .ok (.aload_n 0, 1) := by decide +kernel
theorem dX8_collude_114 : decode cX8_collude 114 = .ok (.iload_n 1, 1) := by decide +kernel
theorem dX8_collude_115 : decode cX8_collude 115 = .ok (.bipush 7, 2) := by decide +kernel
theorem dX8_collude_117 : decode cX8_collude 117 = .ok (.invokevirtual 114, 3) := by decide +kernel
theorem dX8_collude_120 : decode cX8_collude 120 = .ok (.iload 6, 2) := by decide +kernel
theorem dX8_collude_122 : decode cX8_collude 122 = .ok (.if_icmp .lt 6, 3) := by decide +kernel
theorem dX8_collude_125 : decode cX8_collude 125 = .ok (.goto 27, 3) := by decide +kernel
theorem dX8_collude_128 : decode cX8_collude 128 = .ok (.aload_n 0, 1) := by decide +kernel
theorem dX8_collude_129 : decode cX8_collude 129 = .ok (.iload_n 1, 1) := by decide +kernel
theorem dX8_collude_130 : decode cX8_collude 130 = .ok (.invokevirtual 73, 3) := by decide +kernel
theorem dX8_collude_133 : decode cX8_collude 133 = .ok (.bipush 8, 2) := by decide +kernel
theorem dX8_collude_135 : decode cX8_collude 135 = .ok (.if_icmp .ne 10, 3) := by decide +kernel
theorem dX8_collude_138 : decode cX8_collude 138 = .ok (.aload_n 0, 1) := by decide +kernel
theorem dX8_collude_139 : decode cX8_collude 139 = .ok (.iload_n 1, 1) := by decide +kernel
theorem dX8_collude_140 : decode cX8_collude 140 = .ok (.bipush 7, 2) := by decide +kernel
theorem dX8_collude_142 : decode cX8_collude 142 = .ok (.invokevirtual 108, 3) := by decide +kernel
theorem dX8_collude_145 : decode cX8_collude 145 = .ok (.aload_n 0, 1) := by decide +kernel
theorem dX8_collude_146 : decode cX8_collude 146 = .ok (.iload_n 1, 1) := by decide +kernel
theorem dX8_collude_147 : decode cX8_collude 147 = .ok (.iload 6, 2) := by decide +kernel
theorem dX8_collude_149 : decode cX8_collude 149 = .ok (.invokevirtual 101, 3) := by decide +kernel
theorem dX8_collude_152 : decode cX8_collude 152 = .ok (.iinc 5 1, 3) := by decide +kernel
theorem dX8_collude_155 : decode cX8_collude 155 = .ok (.goto (-71), 3) := by decide +kernel
theorem dX8_collude_158 : decode cX8_collude 158 = .ok (.aload_n 0, 1) := by decide +kernel
theorem dX8_collude_159 : decode cX8_collude 159 = .ok (.iload_n 2, 1) := by decide +kernel
theorem dX8_collude_160 : decode cX8_collude 160 = .ok (.invokevirtual 94, 3) := by decide +kernel
theorem dX8_collude_163 : decode cX8_collude 163 = .ok (.aload_n 0, 1) := by decide +kernel
theorem dX8_collude_164 : decode cX8_collude 164 = .ok (.invokevirtual 171, 3) := by decide +kernel
theorem dX8_collude_167 : decode cX8_collude 167 = .ok (.aload_n 0, 1) := by decide +kernel
theorem dX8_collude_168 : decode cX8_collude 168 = .ok (.iload_n 2, 1) := by decide +kernel
theorem dX8_collude_169 : decode cX8_collude 169 = .ok (.iload_n 1, 1) := by decide +kernel
theorem dX8_collude_170 : decode cX8_collude 170 = .ok (.if_icmp .ge 9, 3) := by decide +kernel
theorem dX8_collude_173 : decode cX8_collude 173 = .ok (.iload_n 1, 1) := by decide +kernel
theorem dX8_collude_174 : decode cX8_collude 174 = .ok (.iconst 1, 1) := by decide +kernel
theorem dX8_collude_175 : decode cX8_collude 175 = .ok (.isub, 1) := by decide +kernel
theorem dX8_collude_176 : decode cX8_collude 176 = .ok (.goto 4, 3) := by decide +kernel
theorem dX8_collude_179 : decode cX8_collude 179 = .ok (.iload_n 1, 1) := by decide +kernel
theorem dX8_collude_180 : decode cX8_collude 180 = .ok (.iload_n 3, 1) := by decide +kernel
theorem dX8_collude_181 : decode cX8_collude 181 = .ok (.invokevirtual 165, 3) := by decide +kernel
theorem dX8_collude_184 : decode cX8_collude 184 = .ok (.istore 5, 2) := by decide +kernel
theorem dX8_collude_186 : decode cX8_collude 186 = .ok (.aload_n 0, 1) := by decide +kernel
theorem dX8_collude_187 : decode cX8_collude 187 = .ok (.invokevirtual 200, 3) := by decide +kernel
theorem dX8_collude_190 : decode cX8_collude 190 = .ok (.iload 4, 2) := by decide +kernel
theorem dX8_collude_192 : decode cX8_collude 192 = .ok (.iload 5, 2) := by decide +kernel
theorem dX8_collude_194 : decode cX8_collude 194 = .ok (.isub, 1) := by decide +kernel
theorem dX8_collude_195 : decode cX8_collude 195 = .ok (.ireturn, 1) := by decide +kernel
theorem dX8_supplyFor_0 : decode cX8_supplyFor 0 = .ok (.iload_n 1, 1) := by decide +kernel
theorem dX8_supplyFor_1 : decode cX8_supplyFor 1 = .ok (.invokestatic 98, 3) := by decide +kernel
theorem dX8_supplyFor_4 : decode cX8_supplyFor 4 = .ok (.ifCond .ne 5, 3) := by decide +kernel
theorem dX8_supplyFor_7 : decode cX8_supplyFor 7 = .ok (.iconst (-1), 1) := by decide +kernel
theorem dX8_supplyFor_8 : decode cX8_supplyFor 8 = .ok (.ireturn, 1) := by decide +kernel
theorem dX8_supplyFor_9 : decode cX8_supplyFor 9 = .ok (.iconst 1, 1) := by decide +kernel
theorem dX8_supplyFor_10 : decode cX8_supplyFor 10 = .ok (.istore_n 2, 1) := by decide +kernel
theorem dX8_supplyFor_11 : decode cX8_supplyFor 11 = .ok (.iload_n 2, 1) := by decide +kernel
theorem dX8_supplyFor_12 : decode cX8_supplyFor 12 = .ok (.bipush 30, 2) := by decide +kernel
theorem dX8_supplyFor_14 : decode cX8_supplyFor 14 = .ok (.if_icmp .gt 22, 3) := by decide +kernel
theorem dX8_supplyFor_17 : decode cX8_supplyFor 17 = .ok (.aload_n 0, 1) := by decide +kernel
theorem dX8_supplyFor_18 : decode cX8_supplyFor 18 = .ok (.iconst 0, 1) := by decide +kernel
theorem dX8_supplyFor_19 : decode cX8_supplyFor 19 = .ok (.iload_n 2, 1) := by decide +kernel
theorem dX8_supplyFor_20 : decode cX8_supplyFor 20 = .ok (.iconst 0, 1) := by decide +kernel
theorem dX8_supplyFor_21 : decode cX8_supplyFor 21 = .ok (.invokevirtual 193, 3) := by decide +kernel
theorem dX8_supplyFor_24 : decode cX8_supplyFor 24 = .ok (.iload_n 1, 1) := by decide +kernel
theorem dX8_supplyFor_25 : decode cX8_supplyFor 25 = .ok (.if_icmp .gt 5, 3) := by decide +kernel
theorem dX8_supplyFor_28 : decode cX8_supplyFor 28 = .ok (.iload_n 2, 1) := by decide +kernel
theorem dX8_supplyFor_29 : decode cX8_supplyFor 29 = .ok (.ireturn, 1) := by decide +kernel
theorem dX8_supplyFor_30 : decode cX8_supplyFor 30 = .ok (.iinc 2 1, 3) := by decide +kernel
theorem dX8_supplyFor_33 : decode cX8_supplyFor 33 = .ok (.goto (-22), 3) := by decide +kernel
theorem dX8_supplyFor_36 : decode cX8_supplyFor 36 = .ok (.bipush (-2), 2) := by decide +kernel
theorem dX8_supplyFor_38 : decode cX8_supplyFor 38 = .ok (.ireturn, 1) := by decide +kernel
theorem dX8_valueFor_0 : decode cX8_valueFor 0 = .ok (.aload_n 0, 1) := by decide +kernel
theorem dX8_valueFor_1 : decode cX8_valueFor 1 = .ok (.iload_n 1, 1) := by decide +kernel
theorem dX8_valueFor_2 : decode cX8_valueFor 2 = .ok (.invokevirtual 90, 3) := by decide +kernel
theorem dX8_valueFor_5 : decode cX8_valueFor 5 = .ok (.ifCond .eq 13, 3) := by decide +kernel
theorem dX8_valueFor_8 : decode cX8_valueFor 8 = .ok (.aload_n 0, 1) := by decide +kernel
theorem dX8_valueFor_9 : decode cX8_valueFor 9 = .ok (.iload_n 1, 1) := by decide +kernel
theorem dX8_valueFor_10 : decode cX8_valueFor 10 = .ok (.invokevirtual 73, 3) := by decide +kernel
theorem dX8_valueFor_13 : decode cX8_valueFor 13 = .ok (.bipush 8, 2) := by decide +kernel
theorem dX8_valueFor_15 : decode cX8_valueFor 15 = .ok (.if_icmp .ne 5, 3) := by decide +kernel
theorem dX8_valueFor_18 : decode cX8_valueFor 18 = .ok (.iconst (-1), 1) := by decide +kernel
theorem dX8_valueFor_19 : decode cX8_valueFor 19 = .ok (.ireturn, 1) := by decide +kernel
theorem dX8_valueFor_20 : decode cX8_valueFor 20 = .ok (.aload_n 0, 1) := by decide +kernel
theorem dX8_valueFor_21 : decode cX8_valueFor 21 = .ok (.invokevirtual 171, 3) := by decide +kernel
theorem dX8_valueFor_24 : decode cX8_valueFor 24 = .ok (.aload_n 0, 1) := by decide +kernel
theorem dX8_valueFor_25 : decode cX8_valueFor 25 = .ok (.getfield 26, 3) := by decide +kernel
theorem dX8_valueFor_28 : decode cX8_valueFor 28 = .ok (.iload_n 1, 1) := by decide +kernel
theorem dX8_valueFor_29 : decode cX8_valueFor 29 = .ok (.iaload, 1) := by decide +kernel
theorem dX8_valueFor_30 : decode cX8_valueFor 30 = .ok (.istore_n 2, 1) := by decide +kernel
theorem dX8_valueFor_31 : decode cX8_valueFor 31 = .ok (.iconst 0, 1) := by decide +kernel
theorem dX8_valueFor_32 : decode cX8_valueFor 32 = .ok (.istore_n 3, 1) := by decide +kernel
theorem dX8_valueFor_33 : decode cX8_valueFor 33 = .ok (.iload_n 3, 1) := by decide +kernel
theorem dX8_valueFor_34 : decode cX8_valueFor 34 = .ok (.bipush 99, 2) := by decide +kernel
theorem dX8_valueFor_36 : decode cX8_valueFor 36 = .ok (.if_icmp .gt 39, 3) := by decide +kernel
theorem dX8_valueFor_39 : decode cX8_valueFor 39 = .ok (.aload_n 0, 1) := by decide +kernel
theorem dX8_valueFor_40 : decode cX8_valueFor 40 = .ok (.invokevirtual 197, 3) := by decide +kernel
theorem dX8_valueFor_43 : decode cX8_valueFor 43 = .ok (.aload_n 0, 1) := by decide +kernel
theorem dX8_valueFor_44 : decode cX8_valueFor 44 = .ok (.iload_n 1, 1) := by decide +kernel
theorem dX8_valueFor_45 : decode cX8_valueFor 45 = .ok (.iload_n 3, 1) := by decide +kernel
theorem dX8_valueFor_46 : decode cX8_valueFor 46 = .ok (.invokevirtual 101, 3) := by decide +kernel
theorem dX8_valueFor_49 : decode cX8_valueFor 49 = .ok (.aload_n 0, 1) := by decide +kernel
theorem dX8_valueFor_50 : decode cX8_valueFor 50 = .ok (.invokevirtual 171, 3) := by decide +kernel
theorem dX8_valueFor_53 : decode cX8_valueFor 53 = .ok (.aload_n 0, 1) := by decide +kernel
theorem dX8_valueFor_54 : decode cX8_valueFor 54 = .ok (.invokevirtual 200, 3) := by decide +kernel
theorem dX8_valueFor_57 : decode cX8_valueFor 57 = .ok (.aload_n 0, 1) := by decide +kernel
theorem dX8_valueFor_58 : decode cX8_valueFor 58 = .ok (.getfield 26, 3) := by decide +kernel
theorem dX8_valueFor_61 : decode cX8_valueFor 61 = .ok (.iload_n 1, 1) := by decide +kernel
theorem dX8_valueFor_62 : decode cX8_valueFor 62 = .ok (.iaload, 1) := by decide +kernel
theorem dX8_valueFor_63 : decode cX8_valueFor 63 = .ok (.iload_n 2, 1) := by decide +kernel
theorem dX8_valueFor_64 : decode cX8_valueFor 64 = .ok (.if_icmp .le 5, 3) := by decide +kernel
theorem dX8_valueFor_67 : decode cX8_valueFor 67 = .ok (.iload_n 3, 1) := by decide +kernel
theorem dX8_valueFor_68 : decode cX8_valueFor 68 = .ok (.ireturn, 1) := by decide +kernel
theorem dX8_valueFor_69 : decode cX8_valueFor 69 = .ok (.iinc 3 1, 3) := by decide +kernel
theorem dX8_valueFor_72 : decode cX8_valueFor 72 = .ok (.goto (-39), 3) := by decide +kernel
theorem dX8_valueFor_75 : decode cX8_valueFor 75 = .ok (.bipush (-2), 2) := by decide +kernel
theorem dX8_valueFor_77 : decode cX8_valueFor 77 = .ok (.ireturn, 1) := by decide +kernel
theorem dX8_writes_0 : decode cX8_writes 0 = .ok (.aload_n 0, 1) := by decide +kernel
theorem dX8_writes_1 : decode cX8_writes 1 = .ok (.getfield 44, 3) := by decide +kernel
theorem dX8_writes_4 : decode cX8_writes 4 = .ok (.aload_n 0, 1) := by decide +kernel
theorem dX8_writes_5 : decode cX8_writes 5 = .ok (.getfield 215, 3) := by decide +kernel
theorem dX8_writes_8 : decode cX8_writes 8 = .ok (.iload_n 1, 1) := by decide +kernel
theorem dX8_writes_9 : decode cX8_writes 9 = .ok (.iastore, 1) := by decide +kernel
theorem dX8_writes_10 : decode cX8_writes 10 = .ok (.aload_n 0, 1) := by decide +kernel
theorem dX8_writes_11 : decode cX8_writes 11 = .ok (.dup, 1) := by decide +kernel
theorem dX8_writes_12 : decode cX8_writes 12 = .ok (.getfield 215, 3) := by decide +kernel
theorem dX8_writes_15 : decode cX8_writes 15 = .ok (.iconst 1, 1) := by decide +kernel
theorem dX8_writes_16 : decode cX8_writes 16 = .ok (.iadd, 1) := by decide +kernel
theorem dX8_writes_17 : decode cX8_writes 17 = .ok (.putfield 215, 3) := by decide +kernel
theorem dX8_writes_20 : decode cX8_writes 20 = .ok (.return_, 1) := by decide +kernel
theorem dX8_writesWord_0 : decode cX8_writesWord 0 = .ok (.aload_n 0, 1) := by decide +kernel
theorem dX8_writesWord_1 : decode cX8_writesWord 1 = .ok (.iload_n 1, 1) := by decide +kernel
theorem dX8_writesWord_2 : decode cX8_writesWord 2 = .ok (.invokevirtual 218, 3) := by decide +kernel
theorem dX8_writesWord_5 : decode cX8_writesWord 5 = .ok (.istore_n 2, 1) := by decide +kernel
theorem dX8_writesWord_6 : decode cX8_writesWord 6 = .ok (.aload_n 0, 1) := by decide +kernel
theorem dX8_writesWord_7 : decode cX8_writesWord 7 = .ok (.getfield 50, 3) := by decide +kernel
theorem dX8_writesWord_10 : decode cX8_writesWord 10 = .ok (.iload_n 2, 1) := by decide +kernel
theorem dX8_writesWord_11 : decode cX8_writesWord 11 = .ok (.baload, 1) := by decide +kernel
theorem dX8_writesWord_12 : decode cX8_writesWord 12 = .ok (.ifCond .eq 19, 3) := by decide +kernel
theorem dX8_writesWord_15 : decode cX8_writesWord 15 = .ok (.aload_n 0, 1) := by decide +kernel
theorem dX8_writesWord_16 : decode cX8_writesWord 16 = .ok (.aload_n 0, 1) := by decide +kernel
theorem dX8_writesWord_17 : decode cX8_writesWord 17 = .ok (.getfield 50, 3) := by decide +kernel
theorem dX8_writesWord_20 : decode cX8_writesWord 20 = .ok (.iload_n 2, 1) := by decide +kernel
theorem dX8_writesWord_21 : decode cX8_writesWord 21 = .ok (.baload, 1) := by decide +kernel
theorem dX8_writesWord_22 : decode cX8_writesWord 22 = .ok (.invokevirtual 221, 3) := by decide +kernel
theorem dX8_writesWord_25 : decode cX8_writesWord 25 = .ok (.iinc 2 1, 3) := by decide +kernel
theorem dX8_writesWord_28 : decode cX8_writesWord 28 = .ok (.goto (-22), 3) := by decide +kernel
theorem dX8_writesWord_31 : decode cX8_writesWord 31 = .ok (.return_, 1) := by decide +kernel
theorem dX8_writesNumber_0 : decode cX8_writesNumber 0 = .ok (.iconst 1, 1) := by decide +kernel
theorem dX8_writesNumber_1 : decode cX8_writesNumber 1 = .ok (.istore_n 2, 1) := by decide +kernel
theorem dX8_writesNumber_2 : decode cX8_writesNumber 2 = .ok (.iload_n 1, 1) := by decide +kernel
theorem dX8_writesNumber_3 : decode cX8_writesNumber 3 = .ok (.iload_n 2, 1) := by decide +kernel
theorem dX8_writesNumber_4 : decode cX8_writesNumber 4 = .ok (.idiv, 1) := by decide +kernel
theorem dX8_writesNumber_5 : decode cX8_writesNumber 5 = .ok (.bipush 9, 2) := by decide +kernel
theorem dX8_writesNumber_7 : decode cX8_writesNumber 7 = .ok (.if_icmp .le 11, 3) := by decide +kernel
theorem dX8_writesNumber_10 : decode cX8_writesNumber 10 = .ok (.iload_n 2, 1) := by decide +kernel
theorem dX8_writesNumber_11 : decode cX8_writesNumber 11 = .ok (.bipush 10, 2) := by decide +kernel
theorem dX8_writesNumber_13 : decode cX8_writesNumber 13 = .ok (.imul, 1) := by decide +kernel
theorem dX8_writesNumber_14 : decode cX8_writesNumber 14 = .ok (.istore_n 2, 1) := by decide +kernel
theorem dX8_writesNumber_15 : decode cX8_writesNumber 15 = .ok (.goto (-13), 3) := by decide +kernel
theorem dX8_writesNumber_18 : decode cX8_writesNumber 18 = .ok (.iload_n 2, 1) := by decide +kernel
theorem dX8_writesNumber_19 : decode cX8_writesNumber 19 = .ok (.ifCond .le 24, 3) := by decide +kernel
theorem dX8_writesNumber_22 : decode cX8_writesNumber 22 = .ok (.aload_n 0, 1) := by decide +kernel
theorem dX8_writesNumber_23 : decode cX8_writesNumber 23 = .ok (.bipush 48, 2) := by decide +kernel
theorem dX8_writesNumber_25 : decode cX8_writesNumber 25 = .ok (.iload_n 1, 1) := by decide +kernel
theorem dX8_writesNumber_26 : decode cX8_writesNumber 26 = .ok (.iload_n 2, 1) := by decide +kernel
theorem dX8_writesNumber_27 : decode cX8_writesNumber 27 = .ok (.idiv, 1) := by decide +kernel
theorem dX8_writesNumber_28 : decode cX8_writesNumber 28 = .ok (.bipush 10, 2) := by decide +kernel
theorem dX8_writesNumber_30 : decode cX8_writesNumber 30 = .ok (.irem, 1) := by decide +kernel
theorem dX8_writesNumber_31 : decode cX8_writesNumber 31 = .ok (.iadd, 1) := by decide +kernel
theorem dX8_writesNumber_32 : decode cX8_writesNumber 32 = .ok (.invokevirtual 221, 3) := by decide +kernel
theorem dX8_writesNumber_35 : decode cX8_writesNumber 35 = .ok (.iload_n 2, 1) := by decide +kernel
theorem dX8_writesNumber_36 : decode cX8_writesNumber 36 = .ok (.bipush 10, 2) := by decide +kernel
theorem dX8_writesNumber_38 : decode cX8_writesNumber 38 = .ok (.idiv, 1) := by decide +kernel
theorem dX8_writesNumber_39 : decode cX8_writesNumber 39 = .ok (.istore_n 2, 1) := by decide +kernel
theorem dX8_writesNumber_40 : decode cX8_writesNumber 40 = .ok (.goto (-22), 3) := by decide +kernel
theorem dX8_writesNumber_43 : decode cX8_writesNumber 43 = .ok (.return_, 1) := by decide +kernel
theorem dX8_writesOne_0 : decode cX8_writesOne 0 = .ok (.aload_n 0, 1) := by decide +kernel
theorem dX8_writesOne_1 : decode cX8_writesOne 1 = .ok (.iload_n 1, 1) := by decide +kernel
theorem dX8_writesOne_2 : decode cX8_writesOne 2 = .ok (.invokevirtual 224, 3) := by decide +kernel
theorem dX8_writesOne_5 : decode cX8_writesOne 5 = .ok (.aload_n 0, 1) := by decide +kernel
theorem dX8_writesOne_6 : decode cX8_writesOne 6 = .ok (.bipush 32, 2) := by decide +kernel
theorem dX8_writesOne_8 : decode cX8_writesOne 8 = .ok (.invokevirtual 221, 3) := by decide +kernel
theorem dX8_writesOne_11 : decode cX8_writesOne 11 = .ok (.aload_n 0, 1) := by decide +kernel
theorem dX8_writesOne_12 : decode cX8_writesOne 12 = .ok (.iload_n 2, 1) := by decide +kernel
theorem dX8_writesOne_13 : decode cX8_writesOne 13 = .ok (.invokevirtual 227, 3) := by decide +kernel
theorem dX8_writesOne_16 : decode cX8_writesOne 16 = .ok (.aload_n 0, 1) := by decide +kernel
theorem dX8_writesOne_17 : decode cX8_writesOne 17 = .ok (.bipush 59, 2) := by decide +kernel
theorem dX8_writesOne_19 : decode cX8_writesOne 19 = .ok (.invokevirtual 221, 3) := by decide +kernel
theorem dX8_writesOne_22 : decode cX8_writesOne 22 = .ok (.return_, 1) := by decide +kernel
theorem dX8_toldText_0 : decode cX8_toldText 0 = .ok (.iload_n 1, 1) := by decide +kernel
theorem dX8_toldText_1 : decode cX8_toldText 1 = .ok (.iconst (-1), 1) := by decide +kernel
theorem dX8_toldText_2 : decode cX8_toldText 2 = .ok (.if_icmp .ne 10, 3) := by decide +kernel
theorem dX8_toldText_5 : decode cX8_toldText 5 = .ok (.aload_n 0, 1) := by decide +kernel
theorem dX8_toldText_6 : decode cX8_toldText 6 = .ok (.getfield 215, 3) := by decide +kernel
theorem dX8_toldText_9 : decode cX8_toldText 9 = .ok (.goto 22, 3) := by decide +kernel
theorem dX8_toldText_12 : decode cX8_toldText 12 = .ok (.iload_n 1, 1) := by decide +kernel
theorem dX8_toldText_13 : decode cX8_toldText 13 = .ok (.aload_n 0, 1) := by decide +kernel
theorem dX8_toldText_14 : decode cX8_toldText 14 = .ok (.getfield 215, 3) := by decide +kernel
theorem dX8_toldText_17 : decode cX8_toldText 17 = .ok (.if_icmp .ge 12, 3) := by decide +kernel
theorem dX8_toldText_20 : decode cX8_toldText 20 = .ok (.aload_n 0, 1) := by decide +kernel
theorem dX8_toldText_21 : decode cX8_toldText 21 = .ok (.getfield 44, 3) := by decide +kernel
theorem dX8_toldText_24 : decode cX8_toldText 24 = .ok (.iload_n 1, 1) := by decide +kernel
theorem dX8_toldText_25 : decode cX8_toldText 25 = .ok (.iaload, 1) := by decide +kernel
theorem dX8_toldText_26 : decode cX8_toldText 26 = .ok (.goto 5, 3) := by decide +kernel
theorem dX8_toldText_29 : decode cX8_toldText 29 = .ok (.bipush (-2), 2) := by decide +kernel
theorem dX8_toldText_31 : decode cX8_toldText 31 = .ok (.ireturn, 1) := by decide +kernel
theorem dX8_spell_0 : decode cX8_spell 0 = .ok (.iload_n 1, 1) := by decide +kernel
theorem dX8_spell_1 : decode cX8_spell 1 = .ok (.iconst (-1), 1) := by decide +kernel
theorem dX8_spell_2 : decode cX8_spell 2 = .ok (.if_icmp .ge 5, 3) := by decide +kernel
theorem dX8_spell_5 : decode cX8_spell 5 = .ok (.iconst (-1), 1) := by decide +kernel
theorem dX8_spell_6 : decode cX8_spell 6 = .ok (.ireturn, 1) := by decide +kernel
theorem dX8_spell_7 : decode cX8_spell 7 = .ok (.aload_n 0, 1) := by decide +kernel
theorem dX8_spell_8 : decode cX8_spell 8 = .ok (.iconst 0, 1) := by decide +kernel
theorem dX8_spell_9 : decode cX8_spell 9 = .ok (.putfield 215, 3) := by decide +kernel
theorem dX8_spell_12 : decode cX8_spell 12 = .ok (.aload_n 0, 1) := by decide +kernel
theorem dX8_spell_13 : decode cX8_spell 13 = .ok (.iconst 0, 1) := by decide +kernel
theorem dX8_spell_14 : decode cX8_spell 14 = .ok (.aload_n 0, 1) := by decide +kernel
theorem dX8_spell_15 : decode cX8_spell 15 = .ok (.getfield 13, 3) := by decide +kernel
theorem dX8_spell_18 : decode cX8_spell 18 = .ok (.iconst 0, 1) := by decide +kernel
theorem dX8_spell_19 : decode cX8_spell 19 = .ok (.iaload, 1) := by decide +kernel
theorem dX8_spell_20 : decode cX8_spell 20 = .ok (.invokevirtual 230, 3) := by decide +kernel
theorem dX8_spell_23 : decode cX8_spell 23 = .ok (.aload_n 0, 1) := by decide +kernel
theorem dX8_spell_24 : decode cX8_spell 24 = .ok (.iconst 1, 1) := by decide +kernel
theorem dX8_spell_25 : decode cX8_spell 25 = .ok (.aload_n 0, 1) := by decide +kernel
theorem dX8_spell_26 : decode cX8_spell 26 = .ok (.getfield 13, 3) := by decide +kernel
theorem dX8_spell_29 : decode cX8_spell 29 = .ok (.iconst 1, 1) := by decide +kernel
theorem dX8_spell_30 : decode cX8_spell 30 = .ok (.iaload, 1) := by decide +kernel
theorem dX8_spell_31 : decode cX8_spell 31 = .ok (.invokevirtual 230, 3) := by decide +kernel
theorem dX8_spell_34 : decode cX8_spell 34 = .ok (.iconst 0, 1) := by decide +kernel
theorem dX8_spell_35 : decode cX8_spell 35 = .ok (.istore_n 2, 1) := by decide +kernel
theorem dX8_spell_36 : decode cX8_spell 36 = .ok (.iload_n 2, 1) := by decide +kernel
theorem dX8_spell_37 : decode cX8_spell 37 = .ok (.aload_n 0, 1) := by decide +kernel
theorem dX8_spell_38 : decode cX8_spell 38 = .ok (.invokevirtual 61, 3) := by decide +kernel
theorem dX8_spell_41 : decode cX8_spell 41 = .ok (.if_icmp .ge 89, 3) := by decide +kernel
theorem dX8_spell_44 : decode cX8_spell 44 = .ok (.aload_n 0, 1) := by decide +kernel
theorem dX8_spell_45 : decode cX8_spell 45 = .ok (.iconst 2, 1) := by decide +kernel
theorem dX8_spell_46 : decode cX8_spell 46 = .ok (.invokevirtual 224, 3) := by decide +kernel
theorem dX8_spell_49 : decode cX8_spell 49 = .ok (.iconst 0, 1) := by decide +kernel
theorem dX8_spell_50 : decode cX8_spell 50 = .ok (.istore_n 3, 1) := by decide +kernel
theorem dX8_spell_51 : decode cX8_spell 51 = .ok (.iload_n 3, 1) := by decide +kernel
theorem dX8_spell_52 : decode cX8_spell 52 = .ok (.aload_n 0, 1) := by decide +kernel
theorem dX8_spell_53 : decode cX8_spell 53 = .ok (.iload_n 2, 1) := by decide +kernel
theorem dX8_spell_54 : decode cX8_spell 54 = .ok (.invokevirtual 73, 3) := by decide +kernel
theorem dX8_spell_57 : decode cX8_spell 57 = .ok (.if_icmp .ge 25, 3) := by decide +kernel
theorem dX8_spell_60 : decode cX8_spell 60 = .ok (.aload_n 0, 1) := by decide +kernel
theorem dX8_spell_61 : decode cX8_spell 61 = .ok (.bipush 32, 2) := by decide +kernel
theorem dX8_spell_63 : decode cX8_spell 63 = .ok (.invokevirtual 221, 3) := by decide +kernel
theorem dX8_spell_66 : decode cX8_spell 66 = .ok (.aload_n 0, 1) := by decide +kernel
theorem dX8_spell_67 : decode cX8_spell 67 = .ok (.aload_n 0, 1) := by decide +kernel
theorem dX8_spell_68 : decode cX8_spell 68 = .ok (.iload_n 2, 1) := by decide +kernel
theorem dX8_spell_69 : decode cX8_spell 69 = .ok (.iload_n 3, 1) := by decide +kernel
theorem dX8_spell_70 : decode cX8_spell 70 = .ok (.invokevirtual 114, 3) := by decide +kernel
theorem dX8_spell_73 : decode cX8_spell 73 = .ok (.invokevirtual 227, 3) := by decide +kernel
theorem dX8_spell_76 : decode cX8_spell 76 = .ok (.iinc 3 1, 3) := by decide +kernel
theorem dX8_spell_79 : decode cX8_spell 79 = .ok (.goto (-28), 3) := by decide +kernel
theorem dX8_spell_82 : decode cX8_spell 82 = .ok (.aload_n 0, 1) := by decide +kernel
theorem dX8_spell_83 : decode cX8_spell 83 = .ok (.iload_n 2, 1) := by decide +kernel
theorem dX8_spell_84 : decode cX8_spell 84 = .ok (.invokevirtual 69, 3) := by decide +kernel
theorem dX8_spell_87 : decode cX8_spell 87 = .ok (.bipush 8, 2) := by decide +kernel
theorem dX8_spell_89 : decode cX8_spell 89 = .ok (.if_icmp .eq 29, 3) := by decide +kernel
theorem dX8_spell_92 : decode cX8_spell 92 = .ok (.aload_n 0, 1) := by decide +kernel
theorem dX8_spell_93 : decode cX8_spell 93 = .ok (.bipush 32, 2) := by decide +kernel
theorem dX8_spell_95 : decode cX8_spell 95 = .ok (.invokevirtual 221, 3) := by decide +kernel
theorem dX8_spell_98 : decode cX8_spell 98 = .ok (.aload_n 0, 1) := by decide +kernel
theorem dX8_spell_99 : decode cX8_spell 99 = .ok (.iconst 3, 1) := by decide +kernel
theorem dX8_spell_100 : decode cX8_spell 100 = .ok (.invokevirtual 224, 3) := by decide +kernel
theorem dX8_spell_103 : decode cX8_spell 103 = .ok (.aload_n 0, 1) := by decide +kernel
theorem dX8_spell_104 : decode cX8_spell 104 = .ok (.bipush 32, 2) := by decide +kernel
theorem dX8_spell_106 : decode cX8_spell 106 = .ok (.invokevirtual 221, 3) := by decide +kernel
theorem dX8_spell_109 : decode cX8_spell 109 = .ok (.aload_n 0, 1) := by decide +kernel
theorem dX8_spell_110 : decode cX8_spell 110 = .ok (.aload_n 0, 1) := by decide +kernel
theorem dX8_spell_111 : decode cX8_spell 111 = .ok (.iload_n 2, 1) := by decide +kernel
theorem dX8_spell_112 : decode cX8_spell 112 = .ok (.invokevirtual 69, 3) := by decide +kernel
theorem dX8_spell_115 : decode cX8_spell 115 = .ok (.invokevirtual 227, 3) := by decide +kernel
theorem dX8_spell_118 : decode cX8_spell 118 = .ok (.aload_n 0, 1) := by decide +kernel
theorem dX8_spell_119 : decode cX8_spell 119 = .ok (.bipush 59, 2) := by decide +kernel
theorem dX8_spell_121 : decode cX8_spell 121 = .ok (.invokevirtual 221, 3) := by decide +kernel
theorem dX8_spell_124 : decode cX8_spell 124 = .ok (.iinc 2 1, 3) := by decide +kernel
theorem dX8_spell_127 : decode cX8_spell 127 = .ok (.goto (-91), 3) := by decide +kernel
theorem dX8_spell_130 : decode cX8_spell 130 = .ok (.aload_n 0, 1) := by decide +kernel
theorem dX8_spell_131 : decode cX8_spell 131 = .ok (.iload_n 1, 1) := by decide +kernel
theorem dX8_spell_132 : decode cX8_spell 132 = .ok (.invokevirtual 233, 3) := by decide +kernel
theorem dX8_spell_135 : decode cX8_spell 135 = .ok (.ireturn, 1) := by decide +kernel
theorem dX8_report_0 : decode cX8_report 0 = .ok (.iload_n 1, 1) := by decide +kernel
theorem dX8_report_1 : decode cX8_report 1 = .ok (.invokestatic 168, 3) := by decide +kernel
theorem dX8_report_4 : decode cX8_report 4 = .ok (.ifCond .eq 8, 3) := by decide +kernel
theorem dX8_report_7 : decode cX8_report 7 = .ok (.iload_n 2, 1) := by decide +kernel
theorem dX8_report_8 : decode cX8_report 8 = .ok (.iconst (-1), 1) := by decide +kernel
theorem dX8_report_9 : decode cX8_report 9 = .ok (.if_icmp .ge 5, 3) := by decide +kernel
theorem dX8_report_12 : decode cX8_report 12 = .ok (.iconst (-1), 1) := by decide +kernel
theorem dX8_report_13 : decode cX8_report 13 = .ok (.ireturn, 1) := by decide +kernel
theorem dX8_report_14 : decode cX8_report 14 = .ok (.aload_n 0, 1) := by decide +kernel
theorem dX8_report_15 : decode cX8_report 15 = .ok (.invokevirtual 171, 3) := by decide +kernel
theorem dX8_report_18 : decode cX8_report 18 = .ok (.aload_n 0, 1) := by decide +kernel
theorem dX8_report_19 : decode cX8_report 19 = .ok (.iconst 0, 1) := by decide +kernel
theorem dX8_report_20 : decode cX8_report 20 = .ok (.putfield 215, 3) := by decide +kernel
theorem dX8_report_23 : decode cX8_report 23 = .ok (.aload_n 0, 1) := by decide +kernel
theorem dX8_report_24 : decode cX8_report 24 = .ok (.iconst 4, 1) := by decide +kernel
theorem dX8_report_25 : decode cX8_report 25 = .ok (.aload_n 0, 1) := by decide +kernel
theorem dX8_report_26 : decode cX8_report 26 = .ok (.getfield 144, 3) := by decide +kernel
theorem dX8_report_29 : decode cX8_report 29 = .ok (.invokevirtual 230, 3) := by decide +kernel
theorem dX8_report_32 : decode cX8_report 32 = .ok (.iconst 0, 1) := by decide +kernel
theorem dX8_report_33 : decode cX8_report 33 = .ok (.istore_n 3, 1) := by decide +kernel
theorem dX8_report_34 : decode cX8_report 34 = .ok (.iload_n 3, 1) := by decide +kernel
theorem dX8_report_35 : decode cX8_report 35 = .ok (.aload_n 0, 1) := by decide +kernel
theorem dX8_report_36 : decode cX8_report 36 = .ok (.invokevirtual 61, 3) := by decide +kernel
theorem dX8_report_39 : decode cX8_report 39 = .ok (.if_icmp .ge 71, 3) := by decide +kernel
theorem dX8_report_42 : decode cX8_report 42 = .ok (.aload_n 0, 1) := by decide +kernel
theorem dX8_report_43 : decode cX8_report 43 = .ok (.getfield 26, 3) := by decide +kernel
theorem dX8_report_46 : decode cX8_report 46 = .ok (.iload_n 3, 1) := by decide +kernel
theorem dX8_report_47 : decode cX8_report 47 = .ok (.iaload, 1) := by decide +kernel
theorem dX8_report_48 : decode cX8_report 48 = .ok (.ifCond .ne 6, 3) := by decide +kernel
theorem dX8_report_51 : decode cX8_report 51 = .ok (.goto 53, 3) := by decide +kernel
theorem dX8_report_54 : decode cX8_report 54 = .ok (.aload_n 0, 1) := by decide +kernel
theorem dX8_report_55 : decode cX8_report 55 = .ok (.iload_n 3, 1) := by decide +kernel
theorem dX8_report_56 : decode cX8_report 56 = .ok (.invokevirtual 227, 3) := by decide +kernel
theorem dX8_report_59 : decode cX8_report 59 = .ok (.aload_n 0, 1) := by decide +kernel
theorem dX8_report_60 : decode cX8_report 60 = .ok (.bipush 32, 2) := by decide +kernel
theorem dX8_report_62 : decode cX8_report 62 = .ok (.invokevirtual 221, 3) := by decide +kernel
theorem dX8_report_65 : decode cX8_report 65 = .ok (.aload_n 0, 1) := by decide +kernel
theorem dX8_report_66 : decode cX8_report 66 = .ok (.iconst 5, 1) := by decide +kernel
theorem dX8_report_67 : decode cX8_report 67 = .ok (.invokevirtual 224, 3) := by decide +kernel
theorem dX8_report_70 : decode cX8_report 70 = .ok (.aload_n 0, 1) := by decide +kernel
theorem dX8_report_71 : decode cX8_report 71 = .ok (.bipush 32, 2) := by decide +kernel
theorem dX8_report_73 : decode cX8_report 73 = .ok (.invokevirtual 221, 3) := by decide +kernel
theorem dX8_report_76 : decode cX8_report 76 = .ok (.aload_n 0, 1) := by decide +kernel
theorem dX8_report_77 : decode cX8_report 77 = .ok (.aload_n 0, 1) := by decide +kernel
theorem dX8_report_78 : decode cX8_report 78 = .ok (.getfield 26, 3) := by decide +kernel
theorem dX8_report_81 : decode cX8_report 81 = .ok (.iload_n 3, 1) := by decide +kernel
theorem dX8_report_82 : decode cX8_report 82 = .ok (.iaload, 1) := by decide +kernel
theorem dX8_report_83 : decode cX8_report 83 = .ok (.invokevirtual 227, 3) := by decide +kernel
theorem dX8_report_86 : decode cX8_report 86 = .ok (.aload_n 0, 1) := by decide +kernel
theorem dX8_report_87 : decode cX8_report 87 = .ok (.bipush 32, 2) := by decide +kernel
theorem dX8_report_89 : decode cX8_report 89 = .ok (.invokevirtual 221, 3) := by decide +kernel
theorem dX8_report_92 : decode cX8_report 92 = .ok (.aload_n 0, 1) := by decide +kernel
theorem dX8_report_93 : decode cX8_report 93 = .ok (.bipush 6, 2) := by decide +kernel
theorem dX8_report_95 : decode cX8_report 95 = .ok (.aload_n 0, 1) := by decide +kernel
theorem dX8_report_96 : decode cX8_report 96 = .ok (.iload_n 3, 1) := by decide +kernel
theorem dX8_report_97 : decode cX8_report 97 = .ok (.iload_n 1, 1) := by decide +kernel
theorem dX8_report_98 : decode cX8_report 98 = .ok (.invokevirtual 165, 3) := by decide +kernel
theorem dX8_report_101 : decode cX8_report 101 = .ok (.invokevirtual 230, 3) := by decide +kernel
theorem dX8_report_104 : decode cX8_report 104 = .ok (.iinc 3 1, 3) := by decide +kernel
theorem dX8_report_107 : decode cX8_report 107 = .ok (.goto (-73), 3) := by decide +kernel
theorem dX8_report_110 : decode cX8_report 110 = .ok (.aload_n 0, 1) := by decide +kernel
theorem dX8_report_111 : decode cX8_report 111 = .ok (.bipush 7, 2) := by decide +kernel
theorem dX8_report_113 : decode cX8_report 113 = .ok (.aload_n 0, 1) := by decide +kernel
theorem dX8_report_114 : decode cX8_report 114 = .ok (.invokevirtual 162, 3) := by decide +kernel
theorem dX8_report_117 : decode cX8_report 117 = .ok (.invokevirtual 230, 3) := by decide +kernel
theorem dX8_report_120 : decode cX8_report 120 = .ok (.aload_n 0, 1) := by decide +kernel
theorem dX8_report_121 : decode cX8_report 121 = .ok (.iload_n 2, 1) := by decide +kernel
theorem dX8_report_122 : decode cX8_report 122 = .ok (.invokevirtual 233, 3) := by decide +kernel
theorem dX8_report_125 : decode cX8_report 125 = .ok (.ireturn, 1) := by decide +kernel
theorem dX8_valuesInAll_0 : decode cX8_valuesInAll 0 = .ok (.iconst 0, 1) := by decide +kernel
theorem dX8_valuesInAll_1 : decode cX8_valuesInAll 1 = .ok (.istore_n 1, 1) := by decide +kernel
theorem dX8_valuesInAll_2 : decode cX8_valuesInAll 2 = .ok (.iconst 0, 1) := by decide +kernel
theorem dX8_valuesInAll_3 : decode cX8_valuesInAll 3 = .ok (.istore_n 2, 1) := by decide +kernel
theorem dX8_valuesInAll_4 : decode cX8_valuesInAll 4 = .ok (.iload_n 2, 1) := by decide +kernel
theorem dX8_valuesInAll_5 : decode cX8_valuesInAll 5 = .ok (.aload_n 0, 1) := by decide +kernel
theorem dX8_valuesInAll_6 : decode cX8_valuesInAll 6 = .ok (.invokevirtual 61, 3) := by decide +kernel
theorem dX8_valuesInAll_9 : decode cX8_valuesInAll 9 = .ok (.if_icmp .ge 17, 3) := by decide +kernel
theorem dX8_valuesInAll_12 : decode cX8_valuesInAll 12 = .ok (.iload_n 1, 1) := by decide +kernel
theorem dX8_valuesInAll_13 : decode cX8_valuesInAll 13 = .ok (.aload_n 0, 1) := by decide +kernel
theorem dX8_valuesInAll_14 : decode cX8_valuesInAll 14 = .ok (.iload_n 2, 1) := by decide +kernel
theorem dX8_valuesInAll_15 : decode cX8_valuesInAll 15 = .ok (.invokevirtual 73, 3) := by decide +kernel
theorem dX8_valuesInAll_18 : decode cX8_valuesInAll 18 = .ok (.iadd, 1) := by decide +kernel
theorem dX8_valuesInAll_19 : decode cX8_valuesInAll 19 = .ok (.istore_n 1, 1) := by decide +kernel
theorem dX8_valuesInAll_20 : decode cX8_valuesInAll 20 = .ok (.iinc 2 1, 3) := by decide +kernel
theorem dX8_valuesInAll_23 : decode cX8_valuesInAll 23 = .ok (.goto (-19), 3) := by decide +kernel
theorem dX8_valuesInAll_26 : decode cX8_valuesInAll 26 = .ok (.iload_n 1, 1) := by decide +kernel
theorem dX8_valuesInAll_27 : decode cX8_valuesInAll 27 = .ok (.ireturn, 1) := by decide +kernel
theorem dX8_greatestValue_0 : decode cX8_greatestValue 0 = .ok (.bipush (-2), 2) := by decide +kernel
theorem dX8_greatestValue_2 : decode cX8_greatestValue 2 = .ok (.istore_n 1, 1) := by decide +kernel
theorem dX8_greatestValue_3 : decode cX8_greatestValue 3 = .ok (.iconst 0, 1) := by decide +kernel
theorem dX8_greatestValue_4 : decode cX8_greatestValue 4 = .ok (.istore_n 2, 1) := by decide +kernel
theorem dX8_greatestValue_5 : decode cX8_greatestValue 5 = .ok (.iload_n 2, 1) := by decide +kernel
theorem dX8_greatestValue_6 : decode cX8_greatestValue 6 = .ok (.aload_n 0, 1) := by decide +kernel
theorem dX8_greatestValue_7 : decode cX8_greatestValue 7 = .ok (.invokevirtual 61, 3) := by decide +kernel
theorem dX8_greatestValue_10 : decode cX8_greatestValue 10 = .ok (.if_icmp .ge 34, 3) := by decide +kernel
theorem dX8_greatestValue_13 : decode cX8_greatestValue 13 = .ok (.aload_n 0, 1) := by decide +kernel
theorem dX8_greatestValue_14 : decode cX8_greatestValue 14 = .ok (.iload_n 2, 1) := by decide +kernel
theorem dX8_greatestValue_15 : decode cX8_greatestValue 15 = .ok (.invokevirtual 73, 3) := by decide +kernel
theorem dX8_greatestValue_18 : decode cX8_greatestValue 18 = .ok (.ifCond .le 20, 3) := by decide +kernel
theorem dX8_greatestValue_21 : decode cX8_greatestValue 21 = .ok (.aload_n 0, 1) := by decide +kernel
theorem dX8_greatestValue_22 : decode cX8_greatestValue 22 = .ok (.iload_n 2, 1) := by decide +kernel
theorem dX8_greatestValue_23 : decode cX8_greatestValue 23 = .ok (.iconst 0, 1) := by decide +kernel
theorem dX8_greatestValue_24 : decode cX8_greatestValue 24 = .ok (.invokevirtual 114, 3) := by decide +kernel
theorem dX8_greatestValue_27 : decode cX8_greatestValue 27 = .ok (.iload_n 1, 1) := by decide +kernel
theorem dX8_greatestValue_28 : decode cX8_greatestValue 28 = .ok (.if_icmp .le 10, 3) := by decide +kernel
theorem dX8_greatestValue_31 : decode cX8_greatestValue 31 = .ok (.aload_n 0, 1) := by decide +kernel
theorem dX8_greatestValue_32 : decode cX8_greatestValue 32 = .ok (.iload_n 2, 1) := by decide +kernel
theorem dX8_greatestValue_33 : decode cX8_greatestValue 33 = .ok (.iconst 0, 1) := by decide +kernel
theorem dX8_greatestValue_34 : decode cX8_greatestValue 34 = .ok (.invokevirtual 114, 3) := by decide +kernel
theorem dX8_greatestValue_37 : decode cX8_greatestValue 37 = .ok (.istore_n 1, 1) := by decide +kernel
theorem dX8_greatestValue_38 : decode cX8_greatestValue 38 = .ok (.iinc 2 1, 3) := by decide +kernel
theorem dX8_greatestValue_41 : decode cX8_greatestValue 41 = .ok (.goto (-36), 3) := by decide +kernel
theorem dX8_greatestValue_44 : decode cX8_greatestValue 44 = .ok (.iload_n 1, 1) := by decide +kernel
theorem dX8_greatestValue_45 : decode cX8_greatestValue 45 = .ok (.ireturn, 1) := by decide +kernel
theorem dX8_withoutValues_0 : decode cX8_withoutValues 0 = .ok (.iconst 0, 1) := by decide +kernel
theorem dX8_withoutValues_1 : decode cX8_withoutValues 1 = .ok (.istore_n 1, 1) := by decide +kernel
theorem dX8_withoutValues_2 : decode cX8_withoutValues 2 = .ok (.iconst 0, 1) := by decide +kernel
theorem dX8_withoutValues_3 : decode cX8_withoutValues 3 = .ok (.istore_n 2, 1) := by decide +kernel
theorem dX8_withoutValues_4 : decode cX8_withoutValues 4 = .ok (.iload_n 2, 1) := by decide +kernel
theorem dX8_withoutValues_5 : decode cX8_withoutValues 5 = .ok (.aload_n 0, 1) := by decide +kernel
theorem dX8_withoutValues_6 : decode cX8_withoutValues 6 = .ok (.invokevirtual 61, 3) := by decide +kernel
theorem dX8_withoutValues_9 : decode cX8_withoutValues 9 = .ok (.if_icmp .ge 20, 3) := by decide +kernel
theorem dX8_withoutValues_12 : decode cX8_withoutValues 12 = .ok (.aload_n 0, 1) := by decide +kernel
theorem dX8_withoutValues_13 : decode cX8_withoutValues 13 = .ok (.iload_n 2, 1) := by decide +kernel
theorem dX8_withoutValues_14 : decode cX8_withoutValues 14 = .ok (.invokevirtual 73, 3) := by decide +kernel
theorem dX8_withoutValues_17 : decode cX8_withoutValues 17 = .ok (.ifCond .ne 6, 3) := by decide +kernel
theorem dX8_withoutValues_20 : decode cX8_withoutValues 20 = .ok (.iinc 1 1, 3) := by decide +kernel
theorem dX8_withoutValues_23 : decode cX8_withoutValues 23 = .ok (.iinc 2 1, 3) := by decide +kernel
theorem dX8_withoutValues_26 : decode cX8_withoutValues 26 = .ok (.goto (-22), 3) := by decide +kernel
theorem dX8_withoutValues_29 : decode cX8_withoutValues 29 = .ok (.iload_n 1, 1) := by decide +kernel
theorem dX8_withoutValues_30 : decode cX8_withoutValues 30 = .ok (.ireturn, 1) := by decide +kernel
theorem dX8_count_0 : decode cX8_count 0 = .ok (.iload_n 1, 1) := by decide +kernel
theorem dX8_count_1 : decode cX8_count 1 = .ok (.tableswitch 113 0 9 #[55, 60, 67, 74, 79, 84, 89, 94, 102, 107], 55) := by decide +kernel
theorem dX8_count_56 : decode cX8_count 56 = .ok (.aload_n 0, 1) := by decide +kernel
theorem dX8_count_57 : decode cX8_count 57 = .ok (.invokevirtual 61, 3) := by decide +kernel
theorem dX8_count_60 : decode cX8_count 60 = .ok (.ireturn, 1) := by decide +kernel
theorem dX8_count_61 : decode cX8_count 61 = .ok (.aload_n 0, 1) := by decide +kernel
theorem dX8_count_62 : decode cX8_count 62 = .ok (.getfield 13, 3) := by decide +kernel
theorem dX8_count_65 : decode cX8_count 65 = .ok (.iconst 0, 1) := by decide +kernel
theorem dX8_count_66 : decode cX8_count 66 = .ok (.iaload, 1) := by decide +kernel
theorem dX8_count_67 : decode cX8_count 67 = .ok (.ireturn, 1) := by decide +kernel
theorem dX8_count_68 : decode cX8_count 68 = .ok (.aload_n 0, 1) := by decide +kernel
theorem dX8_count_69 : decode cX8_count 69 = .ok (.getfield 13, 3) := by decide +kernel
theorem dX8_count_72 : decode cX8_count 72 = .ok (.iconst 1, 1) := by decide +kernel
theorem dX8_count_73 : decode cX8_count 73 = .ok (.iaload, 1) := by decide +kernel
theorem dX8_count_74 : decode cX8_count 74 = .ok (.ireturn, 1) := by decide +kernel
theorem dX8_count_75 : decode cX8_count 75 = .ok (.aload_n 0, 1) := by decide +kernel
theorem dX8_count_76 : decode cX8_count 76 = .ok (.invokevirtual 236, 3) := by decide +kernel
theorem dX8_count_79 : decode cX8_count 79 = .ok (.ireturn, 1) := by decide +kernel
theorem dX8_count_80 : decode cX8_count 80 = .ok (.aload_n 0, 1) := by decide +kernel
theorem dX8_count_81 : decode cX8_count 81 = .ok (.getfield 58, 3) := by decide +kernel
theorem dX8_count_84 : decode cX8_count 84 = .ok (.ireturn, 1) := by decide +kernel
theorem dX8_count_85 : decode cX8_count 85 = .ok (.aload_n 0, 1) := by decide +kernel
theorem dX8_count_86 : decode cX8_count 86 = .ok (.getfield 239, 3) := by decide +kernel
theorem dX8_count_89 : decode cX8_count 89 = .ok (.ireturn, 1) := by decide +kernel
theorem dX8_count_90 : decode cX8_count 90 = .ok (.aload_n 0, 1) := by decide +kernel
theorem dX8_count_91 : decode cX8_count 91 = .ok (.invokevirtual 242, 3) := by decide +kernel
theorem dX8_count_94 : decode cX8_count 94 = .ok (.ireturn, 1) := by decide +kernel
theorem dX8_count_95 : decode cX8_count 95 = .ok (.aload_n 0, 1) := by decide +kernel
theorem dX8_count_96 : decode cX8_count 96 = .ok (.getfield 13, 3) := by decide +kernel
theorem dX8_count_99 : decode cX8_count 99 = .ok (.bipush 93, 2) := by decide +kernel
theorem dX8_count_101 : decode cX8_count 101 = .ok (.iaload, 1) := by decide +kernel
theorem dX8_count_102 : decode cX8_count 102 = .ok (.ireturn, 1) := by decide +kernel
theorem dX8_count_103 : decode cX8_count 103 = .ok (.aload_n 0, 1) := by decide +kernel
theorem dX8_count_104 : decode cX8_count 104 = .ok (.invokevirtual 245, 3) := by decide +kernel
theorem dX8_count_107 : decode cX8_count 107 = .ok (.ireturn, 1) := by decide +kernel
theorem dX8_count_108 : decode cX8_count 108 = .ok (.aload_n 0, 1) := by decide +kernel
theorem dX8_count_109 : decode cX8_count 109 = .ok (.iconst (-1), 1) := by decide +kernel
theorem dX8_count_110 : decode cX8_count 110 = .ok (.invokevirtual 132, 3) := by decide +kernel
theorem dX8_count_113 : decode cX8_count 113 = .ok (.ireturn, 1) := by decide +kernel
theorem dX8_count_114 : decode cX8_count 114 = .ok (.iconst (-1), 1) := by decide +kernel
theorem dX8_count_115 : decode cX8_count 115 = .ok (.ireturn, 1) := by decide +kernel
theorem dX8_feed_0 : decode cX8_feed 0 = .ok (.aload_n 0, 1) := by decide +kernel
theorem dX8_feed_1 : decode cX8_feed 1 = .ok (.getfield 239, 3) := by decide +kernel
theorem dX8_feed_4 : decode cX8_feed 4 = .ok (.bipush 20, 2) := by decide +kernel
theorem dX8_feed_6 : decode cX8_feed 6 = .ok (.iadd, 1) := by decide +kernel
theorem dX8_feed_7 : decode cX8_feed 7 = .ok (.sipush 500, 3) := by decide +kernel
theorem dX8_feed_10 : decode cX8_feed 10 = .ok (.if_icmp .le 5, 3) := by decide +kernel
theorem dX8_feed_13 : decode cX8_feed 13 = .ok (.iconst (-1), 1) := by decide +kernel
theorem dX8_feed_14 : decode cX8_feed 14 = .ok (.ireturn, 1) := by decide +kernel
theorem dX8_feed_15 : decode cX8_feed 15 = .ok (.iconst 0, 1) := by decide +kernel
theorem dX8_feed_16 : decode cX8_feed 16 = .ok (.istore 6, 2) := by decide +kernel
theorem dX8_feed_18 : decode cX8_feed 18 = .ok (.iload 6, 2) := by decide +kernel
theorem dX8_feed_20 : decode cX8_feed 20 = .ok (.bipush 20, 2) := by decide +kernel
theorem dX8_feed_22 : decode cX8_feed 22 = .ok (.if_icmp .ge 93, 3) := by decide +kernel
theorem dX8_feed_25 : decode cX8_feed 25 = .ok (.iload 6, 2) := by decide +kernel
theorem dX8_feed_27 : decode cX8_feed 27 = .ok (.iconst 4, 1) := by decide +kernel
theorem dX8_feed_28 : decode cX8_feed 28 = .ok (.if_icmp .ge 7, 3) := by decide +kernel
theorem dX8_feed_31 : decode cX8_feed 31 = .ok (.iload_n 1, 1) := by decide +kernel
theorem dX8_feed_32 : decode cX8_feed 32 = .ok (.goto 39, 3) := by decide +kernel
theorem dX8_feed_35 : decode cX8_feed 35 = .ok (.iload 6, 2) := by decide +kernel
theorem dX8_feed_37 : decode cX8_feed 37 = .ok (.bipush 8, 2) := by decide +kernel
theorem dX8_feed_39 : decode cX8_feed 39 = .ok (.if_icmp .ge 7, 3) := by decide +kernel
theorem dX8_feed_42 : decode cX8_feed 42 = .ok (.iload_n 2, 1) := by decide +kernel
theorem dX8_feed_43 : decode cX8_feed 43 = .ok (.goto 28, 3) := by decide +kernel
theorem dX8_feed_46 : decode cX8_feed 46 = .ok (.iload 6, 2) := by decide +kernel
theorem dX8_feed_48 : decode cX8_feed 48 = .ok (.bipush 12, 2) := by decide +kernel
theorem dX8_feed_50 : decode cX8_feed 50 = .ok (.if_icmp .ge 7, 3) := by decide +kernel
theorem dX8_feed_53 : decode cX8_feed 53 = .ok (.iload_n 3, 1) := by decide +kernel
theorem dX8_feed_54 : decode cX8_feed 54 = .ok (.goto 17, 3) := by decide +kernel
theorem dX8_feed_57 : decode cX8_feed 57 = .ok (.iload 6, 2) := by decide +kernel
theorem dX8_feed_59 : decode cX8_feed 59 = .ok (.bipush 16, 2) := by decide +kernel
theorem dX8_feed_61 : decode cX8_feed 61 = .ok (.if_icmp .ge 8, 3) := by decide +kernel
theorem dX8_feed_64 : decode cX8_feed 64 = .ok (.iload 4, 2) := by decide +kernel
theorem dX8_feed_66 : decode cX8_feed 66 = .ok (.goto 5, 3) := by decide +kernel
theorem dX8_feed_69 : decode cX8_feed 69 = .ok (.iload 5, 2) := by decide +kernel
theorem dX8_feed_71 : decode cX8_feed 71 = .ok (.istore 7, 2) := by decide +kernel
theorem dX8_feed_73 : decode cX8_feed 73 = .ok (.aload_n 0, 1) := by decide +kernel
theorem dX8_feed_74 : decode cX8_feed 74 = .ok (.getfield 47, 3) := by decide +kernel
theorem dX8_feed_77 : decode cX8_feed 77 = .ok (.aload_n 0, 1) := by decide +kernel
theorem dX8_feed_78 : decode cX8_feed 78 = .ok (.getfield 239, 3) := by decide +kernel
theorem dX8_feed_81 : decode cX8_feed 81 = .ok (.iload 7, 2) := by decide +kernel
theorem dX8_feed_83 : decode cX8_feed 83 = .ok (.bipush 24, 2) := by decide +kernel
theorem dX8_feed_85 : decode cX8_feed 85 = .ok (.bipush 8, 2) := by decide +kernel
theorem dX8_feed_87 : decode cX8_feed 87 = .ok (.iload 6, 2) := by decide +kernel
theorem dX8_feed_89 : decode cX8_feed 89 = .ok (.iconst 4, 1) := by decide +kernel
theorem dX8_feed_90 : decode cX8_feed 90 = .ok (.irem, 1) := by decide +kernel
theorem dX8_feed_91 : decode cX8_feed 91 = .ok (.imul, 1) := by decide +kernel
theorem dX8_feed_92 : decode cX8_feed 92 = .ok (.isub, 1) := by decide +kernel
theorem dX8_feed_93 : decode cX8_feed 93 = .ok (.ishr, 1) := by decide +kernel
theorem dX8_feed_94 : decode cX8_feed 94 = .ok (.sipush 255, 3) := by decide +kernel
theorem dX8_feed_97 : decode cX8_feed 97 = .ok (.iand, 1) := by decide +kernel
theorem dX8_feed_98 : decode cX8_feed 98 = .ok (.iastore, 1) := by decide +kernel
theorem dX8_feed_99 : decode cX8_feed 99 = .ok (.aload_n 0, 1) := by decide +kernel
theorem dX8_feed_100 : decode cX8_feed 100 = .ok (.dup, 1) := by decide +kernel
theorem dX8_feed_101 : decode cX8_feed 101 = .ok (.getfield 239, 3) := by decide +kernel
theorem dX8_feed_104 : decode cX8_feed 104 = .ok (.iconst 1, 1) := by decide +kernel
theorem dX8_feed_105 : decode cX8_feed 105 = .ok (.iadd, 1) := by decide +kernel
theorem dX8_feed_106 : decode cX8_feed 106 = .ok (.putfield 239, 3) := by decide +kernel
theorem dX8_feed_109 : decode cX8_feed 109 = .ok (.iinc 6 1, 3) := by decide +kernel
theorem dX8_feed_112 : decode cX8_feed 112 = .ok (.goto (-94), 3) := by decide +kernel
theorem dX8_feed_115 : decode cX8_feed 115 = .ok (.aload_n 0, 1) := by decide +kernel
theorem dX8_feed_116 : decode cX8_feed 116 = .ok (.getfield 239, 3) := by decide +kernel
theorem dX8_feed_119 : decode cX8_feed 119 = .ok (.ireturn, 1) := by decide +kernel
theorem dX8_back_0 : decode cX8_back 0 = .ok (.iload_n 1, 1) := by decide +kernel
theorem dX8_back_1 : decode cX8_back 1 = .ok (.iconst 0, 1) := by decide +kernel
theorem dX8_back_2 : decode cX8_back 2 = .ok (.aload_n 0, 1) := by decide +kernel
theorem dX8_back_3 : decode cX8_back 3 = .ok (.getfield 239, 3) := by decide +kernel
theorem dX8_back_6 : decode cX8_back 6 = .ok (.invokestatic 65, 3) := by decide +kernel
theorem dX8_back_9 : decode cX8_back 9 = .ok (.ifCond .ne 5, 3) := by decide +kernel
theorem dX8_back_12 : decode cX8_back 12 = .ok (.iconst (-1), 1) := by decide +kernel
theorem dX8_back_13 : decode cX8_back 13 = .ok (.ireturn, 1) := by decide +kernel
theorem dX8_back_14 : decode cX8_back 14 = .ok (.aload_n 0, 1) := by decide +kernel
theorem dX8_back_15 : decode cX8_back 15 = .ok (.dup, 1) := by decide +kernel
theorem dX8_back_16 : decode cX8_back 16 = .ok (.getfield 239, 3) := by decide +kernel
theorem dX8_back_19 : decode cX8_back 19 = .ok (.iload_n 1, 1) := by decide +kernel
theorem dX8_back_20 : decode cX8_back 20 = .ok (.isub, 1) := by decide +kernel
theorem dX8_back_21 : decode cX8_back 21 = .ok (.putfield 239, 3) := by decide +kernel
theorem dX8_back_24 : decode cX8_back 24 = .ok (.aload_n 0, 1) := by decide +kernel
theorem dX8_back_25 : decode cX8_back 25 = .ok (.getfield 239, 3) := by decide +kernel
theorem dX8_back_28 : decode cX8_back 28 = .ok (.ireturn, 1) := by decide +kernel
theorem dX8_wordFrom_0 : decode cX8_wordFrom 0 = .ok (.iconst 0, 1) := by decide +kernel
theorem dX8_wordFrom_1 : decode cX8_wordFrom 1 = .ok (.istore_n 2, 1) := by decide +kernel
theorem dX8_wordFrom_2 : decode cX8_wordFrom 2 = .ok (.iload_n 1, 1) := by decide +kernel
theorem dX8_wordFrom_3 : decode cX8_wordFrom 3 = .ok (.istore_n 3, 1) := by decide +kernel
theorem dX8_wordFrom_4 : decode cX8_wordFrom 4 = .ok (.iload_n 3, 1) := by decide +kernel
theorem dX8_wordFrom_5 : decode cX8_wordFrom 5 = .ok (.ifCond .le 21, 3) := by decide +kernel
theorem dX8_wordFrom_8 : decode cX8_wordFrom 8 = .ok (.aload_n 0, 1) := by decide +kernel
theorem dX8_wordFrom_9 : decode cX8_wordFrom 9 = .ok (.getfield 50, 3) := by decide +kernel
theorem dX8_wordFrom_12 : decode cX8_wordFrom 12 = .ok (.iload_n 2, 1) := by decide +kernel
theorem dX8_wordFrom_13 : decode cX8_wordFrom 13 = .ok (.baload, 1) := by decide +kernel
theorem dX8_wordFrom_14 : decode cX8_wordFrom 14 = .ok (.ifCond .ne 6, 3) := by decide +kernel
theorem dX8_wordFrom_17 : decode cX8_wordFrom 17 = .ok (.iinc 3 (-1), 3) := by decide +kernel
theorem dX8_wordFrom_20 : decode cX8_wordFrom 20 = .ok (.iinc 2 1, 3) := by decide +kernel
theorem dX8_wordFrom_23 : decode cX8_wordFrom 23 = .ok (.goto (-19), 3) := by decide +kernel
theorem dX8_wordFrom_26 : decode cX8_wordFrom 26 = .ok (.iload_n 2, 1) := by decide +kernel
theorem dX8_wordFrom_27 : decode cX8_wordFrom 27 = .ok (.ireturn, 1) := by decide +kernel
theorem dX8_here_0 : decode cX8_here 0 = .ok (.aload_n 0, 1) := by decide +kernel
theorem dX8_here_1 : decode cX8_here 1 = .ok (.getfield 248, 3) := by decide +kernel
theorem dX8_here_4 : decode cX8_here 4 = .ok (.aload_n 0, 1) := by decide +kernel
theorem dX8_here_5 : decode cX8_here 5 = .ok (.getfield 239, 3) := by decide +kernel
theorem dX8_here_8 : decode cX8_here 8 = .ok (.if_icmp .ge 15, 3) := by decide +kernel
theorem dX8_here_11 : decode cX8_here 11 = .ok (.aload_n 0, 1) := by decide +kernel
theorem dX8_here_12 : decode cX8_here 12 = .ok (.getfield 47, 3) := by decide +kernel
theorem dX8_here_15 : decode cX8_here 15 = .ok (.aload_n 0, 1) := by decide +kernel
theorem dX8_here_16 : decode cX8_here 16 = .ok (.getfield 248, 3) := by decide +kernel
theorem dX8_here_19 : decode cX8_here 19 = .ok (.iaload, 1) := by decide +kernel
theorem dX8_here_20 : decode cX8_here 20 = .ok (.goto 4, 3) := by decide +kernel
theorem dX8_here_23 : decode cX8_here 23 = .ok (.iconst (-1), 1) := by decide +kernel
theorem dX8_here_24 : decode cX8_here 24 = .ok (.ireturn, 1) := by decide +kernel
theorem dX8_goesOn_0 : decode cX8_goesOn 0 = .ok (.aload_n 0, 1) := by decide +kernel
theorem dX8_goesOn_1 : decode cX8_goesOn 1 = .ok (.getfield 251, 3) := by decide +kernel
theorem dX8_goesOn_4 : decode cX8_goesOn 4 = .ok (.istore_n 1, 1) := by decide +kernel
theorem dX8_goesOn_5 : decode cX8_goesOn 5 = .ok (.aload_n 0, 1) := by decide +kernel
theorem dX8_goesOn_6 : decode cX8_goesOn 6 = .ok (.getfield 248, 3) := by decide +kernel
theorem dX8_goesOn_9 : decode cX8_goesOn 9 = .ok (.istore_n 2, 1) := by decide +kernel
theorem dX8_goesOn_10 : decode cX8_goesOn 10 = .ok (.aload_n 0, 1) := by decide +kernel
theorem dX8_goesOn_11 : decode cX8_goesOn 11 = .ok (.invokevirtual 254, 3) := by decide +kernel
theorem dX8_goesOn_14 : decode cX8_goesOn 14 = .ok (.bipush 32, 2) := by decide +kernel
theorem dX8_goesOn_16 : decode cX8_goesOn 16 = .ok (.if_icmp .eq 12, 3) := by decide +kernel
theorem dX8_goesOn_19 : decode cX8_goesOn 19 = .ok (.aload_n 0, 1) := by decide +kernel
theorem dX8_goesOn_20 : decode cX8_goesOn 20 = .ok (.invokevirtual 254, 3) := by decide +kernel
theorem dX8_goesOn_23 : decode cX8_goesOn 23 = .ok (.bipush 10, 2) := by decide +kernel
theorem dX8_goesOn_25 : decode cX8_goesOn 25 = .ok (.if_icmp .ne 16, 3) := by decide +kernel
theorem dX8_goesOn_28 : decode cX8_goesOn 28 = .ok (.aload_n 0, 1) := by decide +kernel
theorem dX8_goesOn_29 : decode cX8_goesOn 29 = .ok (.dup, 1) := by decide +kernel
theorem dX8_goesOn_30 : decode cX8_goesOn 30 = .ok (.getfield 248, 3) := by decide +kernel
theorem dX8_goesOn_33 : decode cX8_goesOn 33 = .ok (.iconst 1, 1) := by decide +kernel
theorem dX8_goesOn_34 : decode cX8_goesOn 34 = .ok (.iadd, 1) := by decide +kernel
theorem dX8_goesOn_35 : decode cX8_goesOn 35 = .ok (.putfield 248, 3) := by decide +kernel
theorem dX8_goesOn_38 : decode cX8_goesOn 38 = .ok (.goto (-28), 3) := by decide +kernel
theorem dX8_goesOn_41 : decode cX8_goesOn 41 = .ok (.aload_n 0, 1) := by decide +kernel
theorem dX8_goesOn_42 : decode cX8_goesOn 42 = .ok (.aload_n 0, 1) := by decide +kernel
theorem dX8_goesOn_43 : decode cX8_goesOn 43 = .ok (.getfield 248, 3) := by decide +kernel
theorem dX8_goesOn_46 : decode cX8_goesOn 46 = .ok (.putfield 257, 3) := by decide +kernel
theorem dX8_goesOn_49 : decode cX8_goesOn 49 = .ok (.aload_n 0, 1) := by decide +kernel
theorem dX8_goesOn_50 : decode cX8_goesOn 50 = .ok (.getfield 257, 3) := by decide +kernel
theorem dX8_goesOn_53 : decode cX8_goesOn 53 = .ok (.iload_n 2, 1) := by decide +kernel
theorem dX8_goesOn_54 : decode cX8_goesOn 54 = .ok (.if_icmp .ne 17, 3) := by decide +kernel
theorem dX8_goesOn_57 : decode cX8_goesOn 57 = .ok (.iload_n 1, 1) := by decide +kernel
theorem dX8_goesOn_58 : decode cX8_goesOn 58 = .ok (.iconst 1, 1) := by decide +kernel
theorem dX8_goesOn_59 : decode cX8_goesOn 59 = .ok (.if_icmp .eq 8, 3) := by decide +kernel
theorem dX8_goesOn_62 : decode cX8_goesOn 62 = .ok (.iload_n 1, 1) := by decide +kernel
theorem dX8_goesOn_63 : decode cX8_goesOn 63 = .ok (.iconst 2, 1) := by decide +kernel
theorem dX8_goesOn_64 : decode cX8_goesOn 64 = .ok (.if_icmp .ne 7, 3) := by decide +kernel
theorem dX8_goesOn_67 : decode cX8_goesOn 67 = .ok (.iconst 1, 1) := by decide +kernel
theorem dX8_goesOn_68 : decode cX8_goesOn 68 = .ok (.goto 4, 3) := by decide +kernel
theorem dX8_goesOn_71 : decode cX8_goesOn 71 = .ok (.iconst 0, 1) := by decide +kernel
theorem dX8_goesOn_72 : decode cX8_goesOn 72 = .ok (.istore_n 3, 1) := by decide +kernel
theorem dX8_goesOn_73 : decode cX8_goesOn 73 = .ok (.aload_n 0, 1) := by decide +kernel
theorem dX8_goesOn_74 : decode cX8_goesOn 74 = .ok (.invokevirtual 254, 3) := by decide +kernel
theorem dX8_goesOn_77 : decode cX8_goesOn 77 = .ok (.istore 4, 2) := by decide +kernel
theorem dX8_goesOn_79 : decode cX8_goesOn 79 = .ok (.iload 4, 2) := by decide +kernel
theorem dX8_goesOn_81 : decode cX8_goesOn 81 = .ok (.iconst (-1), 1) := by decide +kernel
theorem dX8_goesOn_82 : decode cX8_goesOn 82 = .ok (.if_icmp .ne 11, 3) := by decide +kernel
theorem dX8_goesOn_85 : decode cX8_goesOn 85 = .ok (.aload_n 0, 1) := by decide +kernel
theorem dX8_goesOn_86 : decode cX8_goesOn 86 = .ok (.iconst 0, 1) := by decide +kernel
theorem dX8_goesOn_87 : decode cX8_goesOn 87 = .ok (.putfield 251, 3) := by decide +kernel
theorem dX8_goesOn_90 : decode cX8_goesOn 90 = .ok (.goto 189, 3) := by decide +kernel
theorem dX8_goesOn_93 : decode cX8_goesOn 93 = .ok (.iload 4, 2) := by decide +kernel
theorem dX8_goesOn_95 : decode cX8_goesOn 95 = .ok (.bipush 97, 2) := by decide +kernel
theorem dX8_goesOn_97 : decode cX8_goesOn 97 = .ok (.bipush 122, 2) := by decide +kernel
theorem dX8_goesOn_99 : decode cX8_goesOn 99 = .ok (.invokestatic 65, 3) := by decide +kernel
theorem dX8_goesOn_102 : decode cX8_goesOn 102 = .ok (.ifCond .eq 46, 3) := by decide +kernel
theorem dX8_goesOn_105 : decode cX8_goesOn 105 = .ok (.aload_n 0, 1) := by decide +kernel
theorem dX8_goesOn_106 : decode cX8_goesOn 106 = .ok (.invokevirtual 254, 3) := by decide +kernel
theorem dX8_goesOn_109 : decode cX8_goesOn 109 = .ok (.bipush 97, 2) := by decide +kernel
theorem dX8_goesOn_111 : decode cX8_goesOn 111 = .ok (.bipush 122, 2) := by decide +kernel
theorem dX8_goesOn_113 : decode cX8_goesOn 113 = .ok (.invokestatic 65, 3) := by decide +kernel
theorem dX8_goesOn_116 : decode cX8_goesOn 116 = .ok (.ifCond .eq 16, 3) := by decide +kernel
theorem dX8_goesOn_119 : decode cX8_goesOn 119 = .ok (.aload_n 0, 1) := by decide +kernel
theorem dX8_goesOn_120 : decode cX8_goesOn 120 = .ok (.dup, 1) := by decide +kernel
theorem dX8_goesOn_121 : decode cX8_goesOn 121 = .ok (.getfield 248, 3) := by decide +kernel
theorem dX8_goesOn_124 : decode cX8_goesOn 124 = .ok (.iconst 1, 1) := by decide +kernel
theorem dX8_goesOn_125 : decode cX8_goesOn 125 = .ok (.iadd, 1) := by decide +kernel
theorem dX8_goesOn_126 : decode cX8_goesOn 126 = .ok (.putfield 248, 3) := by decide +kernel
theorem dX8_goesOn_129 : decode cX8_goesOn 129 = .ok (.goto (-24), 3) := by decide +kernel
theorem dX8_goesOn_132 : decode cX8_goesOn 132 = .ok (.aload_n 0, 1) := by decide +kernel
theorem dX8_goesOn_133 : decode cX8_goesOn 133 = .ok (.iload_n 3, 1) := by decide +kernel
theorem dX8_goesOn_134 : decode cX8_goesOn 134 = .ok (.ifCond .eq 7, 3) := by decide +kernel
theorem dX8_goesOn_137 : decode cX8_goesOn 137 = .ok (.iconst 4, 1) := by decide +kernel
theorem dX8_goesOn_138 : decode cX8_goesOn 138 = .ok (.goto 4, 3) := by decide +kernel
theorem dX8_goesOn_141 : decode cX8_goesOn 141 = .ok (.iconst 1, 1) := by decide +kernel
theorem dX8_goesOn_142 : decode cX8_goesOn 142 = .ok (.putfield 251, 3) := by decide +kernel
theorem dX8_goesOn_145 : decode cX8_goesOn 145 = .ok (.goto 134, 3) := by decide +kernel
theorem dX8_goesOn_148 : decode cX8_goesOn 148 = .ok (.iload 4, 2) := by decide +kernel
theorem dX8_goesOn_150 : decode cX8_goesOn 150 = .ok (.bipush 48, 2) := by decide +kernel
theorem dX8_goesOn_152 : decode cX8_goesOn 152 = .ok (.bipush 57, 2) := by decide +kernel
theorem dX8_goesOn_154 : decode cX8_goesOn 154 = .ok (.invokestatic 65, 3) := by decide +kernel
theorem dX8_goesOn_157 : decode cX8_goesOn 157 = .ok (.ifCond .eq 96, 3) := by decide +kernel
theorem dX8_goesOn_160 : decode cX8_goesOn 160 = .ok (.aload_n 0, 1) := by decide +kernel
theorem dX8_goesOn_161 : decode cX8_goesOn 161 = .ok (.iconst 0, 1) := by decide +kernel
theorem dX8_goesOn_162 : decode cX8_goesOn 162 = .ok (.putfield 260, 3) := by decide +kernel
theorem dX8_goesOn_165 : decode cX8_goesOn 165 = .ok (.aload_n 0, 1) := by decide +kernel
theorem dX8_goesOn_166 : decode cX8_goesOn 166 = .ok (.invokevirtual 254, 3) := by decide +kernel
theorem dX8_goesOn_169 : decode cX8_goesOn 169 = .ok (.bipush 48, 2) := by decide +kernel
theorem dX8_goesOn_171 : decode cX8_goesOn 171 = .ok (.bipush 57, 2) := by decide +kernel
theorem dX8_goesOn_173 : decode cX8_goesOn 173 = .ok (.invokestatic 65, 3) := by decide +kernel
theorem dX8_goesOn_176 : decode cX8_goesOn 176 = .ok (.ifCond .eq 48, 3) := by decide +kernel
theorem dX8_goesOn_179 : decode cX8_goesOn 179 = .ok (.aload_n 0, 1) := by decide +kernel
theorem dX8_goesOn_180 : decode cX8_goesOn 180 = .ok (.getfield 248, 3) := by decide +kernel
theorem dX8_goesOn_183 : decode cX8_goesOn 183 = .ok (.aload_n 0, 1) := by decide +kernel
theorem dX8_goesOn_184 : decode cX8_goesOn 184 = .ok (.getfield 257, 3) := by decide +kernel
theorem dX8_goesOn_187 : decode cX8_goesOn 187 = .ok (.isub, 1) := by decide +kernel
theorem dX8_goesOn_188 : decode cX8_goesOn 188 = .ok (.iconst 2, 1) := by decide +kernel
theorem dX8_goesOn_189 : decode cX8_goesOn 189 = .ok (.if_icmp .ge 22, 3) := by decide +kernel
theorem dX8_goesOn_192 : decode cX8_goesOn 192 = .ok (.aload_n 0, 1) := by decide +kernel
theorem dX8_goesOn_193 : decode cX8_goesOn 193 = .ok (.bipush 10, 2) := by decide +kernel
theorem dX8_goesOn_195 : decode cX8_goesOn 195 = .ok (.aload_n 0, 1) := by decide +kernel
theorem dX8_goesOn_196 : decode cX8_goesOn 196 = .ok (.getfield 260, 3) := by decide +kernel
theorem dX8_goesOn_199 : decode cX8_goesOn 199 = .ok (.imul, 1) := by decide +kernel
theorem dX8_goesOn_200 : decode cX8_goesOn 200 = .ok (.aload_n 0, 1) := by decide +kernel
theorem dX8_goesOn_201 : decode cX8_goesOn 201 = .ok (.invokevirtual 254, 3) := by decide +kernel
theorem dX8_goesOn_204 : decode cX8_goesOn 204 = .ok (.iadd, 1) := by decide +kernel
theorem dX8_goesOn_205 : decode cX8_goesOn 205 = .ok (.bipush 48, 2) := by decide +kernel
theorem dX8_goesOn_207 : decode cX8_goesOn 207 = .ok (.isub, 1) := by decide +kernel
theorem dX8_goesOn_208 : decode cX8_goesOn 208 = .ok (.putfield 260, 3) := by decide +kernel
theorem dX8_goesOn_211 : decode cX8_goesOn 211 = .ok (.aload_n 0, 1) := by decide +kernel
theorem dX8_goesOn_212 : decode cX8_goesOn 212 = .ok (.dup, 1) := by decide +kernel
theorem dX8_goesOn_213 : decode cX8_goesOn 213 = .ok (.getfield 248, 3) := by decide +kernel
theorem dX8_goesOn_216 : decode cX8_goesOn 216 = .ok (.iconst 1, 1) := by decide +kernel
theorem dX8_goesOn_217 : decode cX8_goesOn 217 = .ok (.iadd, 1) := by decide +kernel
theorem dX8_goesOn_218 : decode cX8_goesOn 218 = .ok (.putfield 248, 3) := by decide +kernel
theorem dX8_goesOn_221 : decode cX8_goesOn 221 = .ok (.goto (-56), 3) := by decide +kernel
theorem dX8_goesOn_224 : decode cX8_goesOn 224 = .ok (.aload_n 0, 1) := by decide +kernel
theorem dX8_goesOn_225 : decode cX8_goesOn 225 = .ok (.iload_n 3, 1) := by decide +kernel
theorem dX8_goesOn_226 : decode cX8_goesOn 226 = .ok (.ifCond .ne 16, 3) := by decide +kernel
theorem dX8_goesOn_229 : decode cX8_goesOn 229 = .ok (.aload_n 0, 1) := by decide +kernel
theorem dX8_goesOn_230 : decode cX8_goesOn 230 = .ok (.getfield 248, 3) := by decide +kernel
theorem dX8_goesOn_233 : decode cX8_goesOn 233 = .ok (.aload_n 0, 1) := by decide +kernel
theorem dX8_goesOn_234 : decode cX8_goesOn 234 = .ok (.getfield 257, 3) := by decide +kernel
theorem dX8_goesOn_237 : decode cX8_goesOn 237 = .ok (.isub, 1) := by decide +kernel
theorem dX8_goesOn_238 : decode cX8_goesOn 238 = .ok (.iconst 2, 1) := by decide +kernel
theorem dX8_goesOn_239 : decode cX8_goesOn 239 = .ok (.if_icmp .le 7, 3) := by decide +kernel
theorem dX8_goesOn_242 : decode cX8_goesOn 242 = .ok (.iconst 4, 1) := by decide +kernel
theorem dX8_goesOn_243 : decode cX8_goesOn 243 = .ok (.goto 4, 3) := by decide +kernel
theorem dX8_goesOn_246 : decode cX8_goesOn 246 = .ok (.iconst 2, 1) := by decide +kernel
theorem dX8_goesOn_247 : decode cX8_goesOn 247 = .ok (.putfield 251, 3) := by decide +kernel
theorem dX8_goesOn_250 : decode cX8_goesOn 250 = .ok (.goto 29, 3) := by decide +kernel
theorem dX8_goesOn_253 : decode cX8_goesOn 253 = .ok (.aload_n 0, 1) := by decide +kernel
theorem dX8_goesOn_254 : decode cX8_goesOn 254 = .ok (.dup, 1) := by decide +kernel
theorem dX8_goesOn_255 : decode cX8_goesOn 255 = .ok (.getfield 248, 3) := by decide +kernel
theorem dX8_goesOn_258 : decode cX8_goesOn 258 = .ok (.iconst 1, 1) := by decide +kernel
theorem dX8_goesOn_259 : decode cX8_goesOn 259 = .ok (.iadd, 1) := by decide +kernel
theorem dX8_goesOn_260 : decode cX8_goesOn 260 = .ok (.putfield 248, 3) := by decide +kernel
theorem dX8_goesOn_263 : decode cX8_goesOn 263 = .ok (.aload_n 0, 1) := by decide +kernel
theorem dX8_goesOn_264 : decode cX8_goesOn 264 = .ok (.iload 4, 2) := by decide +kernel
theorem dX8_goesOn_266 : decode cX8_goesOn 266 = .ok (.bipush 59, 2) := by decide +kernel
theorem dX8_goesOn_268 : decode cX8_goesOn 268 = .ok (.if_icmp .ne 7, 3) := by decide +kernel
theorem dX8_goesOn_271 : decode cX8_goesOn 271 = .ok (.iconst 3, 1) := by decide +kernel
theorem dX8_goesOn_272 : decode cX8_goesOn 272 = .ok (.goto 4, 3) := by decide +kernel
theorem dX8_goesOn_275 : decode cX8_goesOn 275 = .ok (.iconst 4, 1) := by decide +kernel
theorem dX8_goesOn_276 : decode cX8_goesOn 276 = .ok (.putfield 251, 3) := by decide +kernel
theorem dX8_goesOn_279 : decode cX8_goesOn 279 = .ok (.return_, 1) := by decide +kernel
theorem dX8_takesWord_0 : decode cX8_takesWord 0 = .ok (.aload_n 0, 1) := by decide +kernel
theorem dX8_takesWord_1 : decode cX8_takesWord 1 = .ok (.getfield 263, 3) := by decide +kernel
theorem dX8_takesWord_4 : decode cX8_takesWord 4 = .ok (.ifCond .ne 11, 3) := by decide +kernel
theorem dX8_takesWord_7 : decode cX8_takesWord 7 = .ok (.aload_n 0, 1) := by decide +kernel
theorem dX8_takesWord_8 : decode cX8_takesWord 8 = .ok (.getfield 251, 3) := by decide +kernel
theorem dX8_takesWord_11 : decode cX8_takesWord 11 = .ok (.iconst 1, 1) := by decide +kernel
theorem dX8_takesWord_12 : decode cX8_takesWord 12 = .ok (.if_icmp .eq 5, 3) := by decide +kernel
theorem dX8_takesWord_15 : decode cX8_takesWord 15 = .ok (.iconst 0, 1) := by decide +kernel
theorem dX8_takesWord_16 : decode cX8_takesWord 16 = .ok (.ireturn, 1) := by decide +kernel
theorem dX8_takesWord_17 : decode cX8_takesWord 17 = .ok (.aload_n 0, 1) := by decide +kernel
theorem dX8_takesWord_18 : decode cX8_takesWord 18 = .ok (.iload_n 1, 1) := by decide +kernel
theorem dX8_takesWord_19 : decode cX8_takesWord 19 = .ok (.invokevirtual 218, 3) := by decide +kernel
theorem dX8_takesWord_22 : decode cX8_takesWord 22 = .ok (.istore_n 2, 1) := by decide +kernel
theorem dX8_takesWord_23 : decode cX8_takesWord 23 = .ok (.iconst 0, 1) := by decide +kernel
theorem dX8_takesWord_24 : decode cX8_takesWord 24 = .ok (.istore_n 3, 1) := by decide +kernel
theorem dX8_takesWord_25 : decode cX8_takesWord 25 = .ok (.aload_n 0, 1) := by decide +kernel
theorem dX8_takesWord_26 : decode cX8_takesWord 26 = .ok (.getfield 257, 3) := by decide +kernel
theorem dX8_takesWord_29 : decode cX8_takesWord 29 = .ok (.iload_n 3, 1) := by decide +kernel
theorem dX8_takesWord_30 : decode cX8_takesWord 30 = .ok (.iadd, 1) := by decide +kernel
theorem dX8_takesWord_31 : decode cX8_takesWord 31 = .ok (.aload_n 0, 1) := by decide +kernel
theorem dX8_takesWord_32 : decode cX8_takesWord 32 = .ok (.getfield 248, 3) := by decide +kernel
theorem dX8_takesWord_35 : decode cX8_takesWord 35 = .ok (.if_icmp .ge 31, 3) := by decide +kernel
theorem dX8_takesWord_38 : decode cX8_takesWord 38 = .ok (.aload_n 0, 1) := by decide +kernel
theorem dX8_takesWord_39 : decode cX8_takesWord 39 = .ok (.getfield 50, 3) := by decide +kernel
theorem dX8_takesWord_42 : decode cX8_takesWord 42 = .ok (.iload_n 2, 1) := by decide +kernel
theorem dX8_takesWord_43 : decode cX8_takesWord 43 = .ok (.iload_n 3, 1) := by decide +kernel
theorem dX8_takesWord_44 : decode cX8_takesWord 44 = .ok (.iadd, 1) := by decide +kernel
theorem dX8_takesWord_45 : decode cX8_takesWord 45 = .ok (.baload, 1) := by decide +kernel
theorem dX8_takesWord_46 : decode cX8_takesWord 46 = .ok (.aload_n 0, 1) := by decide +kernel
theorem dX8_takesWord_47 : decode cX8_takesWord 47 = .ok (.getfield 47, 3) := by decide +kernel
theorem dX8_takesWord_50 : decode cX8_takesWord 50 = .ok (.aload_n 0, 1) := by decide +kernel
theorem dX8_takesWord_51 : decode cX8_takesWord 51 = .ok (.getfield 257, 3) := by decide +kernel
theorem dX8_takesWord_54 : decode cX8_takesWord 54 = .ok (.iload_n 3, 1) := by decide +kernel
theorem dX8_takesWord_55 : decode cX8_takesWord 55 = .ok (.iadd, 1) := by decide +kernel
theorem dX8_takesWord_56 : decode cX8_takesWord 56 = .ok (.iaload, 1) := by decide +kernel
theorem dX8_takesWord_57 : decode cX8_takesWord 57 = .ok (.if_icmp .ne 9, 3) := by decide +kernel
theorem dX8_takesWord_60 : decode cX8_takesWord 60 = .ok (.iinc 3 1, 3) := by decide +kernel
theorem dX8_takesWord_63 : decode cX8_takesWord 63 = .ok (.goto (-38), 3) := by decide +kernel
theorem dX8_takesWord_66 : decode cX8_takesWord 66 = .ok (.aload_n 0, 1) := by decide +kernel
theorem dX8_takesWord_67 : decode cX8_takesWord 67 = .ok (.getfield 257, 3) := by decide +kernel
theorem dX8_takesWord_70 : decode cX8_takesWord 70 = .ok (.iload_n 3, 1) := by decide +kernel
theorem dX8_takesWord_71 : decode cX8_takesWord 71 = .ok (.iadd, 1) := by decide +kernel
theorem dX8_takesWord_72 : decode cX8_takesWord 72 = .ok (.aload_n 0, 1) := by decide +kernel
theorem dX8_takesWord_73 : decode cX8_takesWord 73 = .ok (.getfield 248, 3) := by decide +kernel
theorem dX8_takesWord_76 : decode cX8_takesWord 76 = .ok (.if_icmp .ne 14, 3) := by decide +kernel
theorem dX8_takesWord_79 : decode cX8_takesWord 79 = .ok (.aload_n 0, 1) := by decide +kernel
theorem dX8_takesWord_80 : decode cX8_takesWord 80 = .ok (.getfield 50, 3) := by decide +kernel
theorem dX8_takesWord_83 : decode cX8_takesWord 83 = .ok (.iload_n 2, 1) := by decide +kernel
theorem dX8_takesWord_84 : decode cX8_takesWord 84 = .ok (.iload_n 3, 1) := by decide +kernel
theorem dX8_takesWord_85 : decode cX8_takesWord 85 = .ok (.iadd, 1) := by decide +kernel
theorem dX8_takesWord_86 : decode cX8_takesWord 86 = .ok (.baload, 1) := by decide +kernel
theorem dX8_takesWord_87 : decode cX8_takesWord 87 = .ok (.ifCond .eq 5, 3) := by decide +kernel
theorem dX8_takesWord_90 : decode cX8_takesWord 90 = .ok (.iconst 0, 1) := by decide +kernel
theorem dX8_takesWord_91 : decode cX8_takesWord 91 = .ok (.ireturn, 1) := by decide +kernel
theorem dX8_takesWord_92 : decode cX8_takesWord 92 = .ok (.aload_n 0, 1) := by decide +kernel
theorem dX8_takesWord_93 : decode cX8_takesWord 93 = .ok (.invokevirtual 267, 3) := by decide +kernel
theorem dX8_takesWord_96 : decode cX8_takesWord 96 = .ok (.iconst 1, 1) := by decide +kernel
theorem dX8_takesWord_97 : decode cX8_takesWord 97 = .ok (.ireturn, 1) := by decide +kernel
theorem dX8_needsNumber_0 : decode cX8_needsNumber 0 = .ok (.aload_n 0, 1) := by decide +kernel
theorem dX8_needsNumber_1 : decode cX8_needsNumber 1 = .ok (.getfield 263, 3) := by decide +kernel
theorem dX8_needsNumber_4 : decode cX8_needsNumber 4 = .ok (.ifCond .ne 23, 3) := by decide +kernel
theorem dX8_needsNumber_7 : decode cX8_needsNumber 7 = .ok (.aload_n 0, 1) := by decide +kernel
theorem dX8_needsNumber_8 : decode cX8_needsNumber 8 = .ok (.getfield 251, 3) := by decide +kernel
theorem dX8_needsNumber_11 : decode cX8_needsNumber 11 = .ok (.iconst 2, 1) := by decide +kernel
theorem dX8_needsNumber_12 : decode cX8_needsNumber 12 = .ok (.if_icmp .ne 15, 3) := by decide +kernel
theorem dX8_needsNumber_15 : decode cX8_needsNumber 15 = .ok (.aload_n 0, 1) := by decide +kernel
theorem dX8_needsNumber_16 : decode cX8_needsNumber 16 = .ok (.getfield 260, 3) := by decide +kernel
theorem dX8_needsNumber_19 : decode cX8_needsNumber 19 = .ok (.iload_n 1, 1) := by decide +kernel
theorem dX8_needsNumber_20 : decode cX8_needsNumber 20 = .ok (.iload_n 2, 1) := by decide +kernel
theorem dX8_needsNumber_21 : decode cX8_needsNumber 21 = .ok (.invokestatic 65, 3) := by decide +kernel
theorem dX8_needsNumber_24 : decode cX8_needsNumber 24 = .ok (.ifCond .ne 10, 3) := by decide +kernel
theorem dX8_needsNumber_27 : decode cX8_needsNumber 27 = .ok (.aload_n 0, 1) := by decide +kernel
theorem dX8_needsNumber_28 : decode cX8_needsNumber 28 = .ok (.iconst 1, 1) := by decide +kernel
theorem dX8_needsNumber_29 : decode cX8_needsNumber 29 = .ok (.putfield 263, 3) := by decide +kernel
theorem dX8_needsNumber_32 : decode cX8_needsNumber 32 = .ok (.iload_n 1, 1) := by decide +kernel
theorem dX8_needsNumber_33 : decode cX8_needsNumber 33 = .ok (.ireturn, 1) := by decide +kernel
theorem dX8_needsNumber_34 : decode cX8_needsNumber 34 = .ok (.aload_n 0, 1) := by decide +kernel
theorem dX8_needsNumber_35 : decode cX8_needsNumber 35 = .ok (.getfield 260, 3) := by decide +kernel
theorem dX8_needsNumber_38 : decode cX8_needsNumber 38 = .ok (.istore_n 3, 1) := by decide +kernel
theorem dX8_needsNumber_39 : decode cX8_needsNumber 39 = .ok (.aload_n 0, 1) := by decide +kernel
theorem dX8_needsNumber_40 : decode cX8_needsNumber 40 = .ok (.invokevirtual 267, 3) := by decide +kernel
theorem dX8_needsNumber_43 : decode cX8_needsNumber 43 = .ok (.iload_n 3, 1) := by decide +kernel
theorem dX8_needsNumber_44 : decode cX8_needsNumber 44 = .ok (.ireturn, 1) := by decide +kernel
theorem dX8_readsBidder_0 : decode cX8_readsBidder 0 = .ok (.aload_n 0, 1) := by decide +kernel
theorem dX8_readsBidder_1 : decode cX8_readsBidder 1 = .ok (.getfield 17, 3) := by decide +kernel
theorem dX8_readsBidder_4 : decode cX8_readsBidder 4 = .ok (.iconst 2, 1) := by decide +kernel
theorem dX8_readsBidder_5 : decode cX8_readsBidder 5 = .ok (.iaload, 1) := by decide +kernel
theorem dX8_readsBidder_6 : decode cX8_readsBidder 6 = .ok (.bipush 8, 2) := by decide +kernel
theorem dX8_readsBidder_8 : decode cX8_readsBidder 8 = .ok (.if_icmp .ne 14, 3) := by decide +kernel
theorem dX8_readsBidder_11 : decode cX8_readsBidder 11 = .ok (.aload_n 0, 1) := by decide +kernel
theorem dX8_readsBidder_12 : decode cX8_readsBidder 12 = .ok (.iload_n 1, 1) := by decide +kernel
theorem dX8_readsBidder_13 : decode cX8_readsBidder 13 = .ok (.putfield 257, 3) := by decide +kernel
theorem dX8_readsBidder_16 : decode cX8_readsBidder 16 = .ok (.aload_n 0, 1) := by decide +kernel
theorem dX8_readsBidder_17 : decode cX8_readsBidder 17 = .ok (.iconst 1, 1) := by decide +kernel
theorem dX8_readsBidder_18 : decode cX8_readsBidder 18 = .ok (.putfield 263, 3) := by decide +kernel
theorem dX8_readsBidder_21 : decode cX8_readsBidder 21 = .ok (.return_, 1) := by decide +kernel
theorem dX8_readsBidder_22 : decode cX8_readsBidder 22 = .ok (.iconst 3, 1) := by decide +kernel
theorem dX8_readsBidder_23 : decode cX8_readsBidder 23 = .ok (.bipush 10, 2) := by decide +kernel
theorem dX8_readsBidder_25 : decode cX8_readsBidder 25 = .ok (.aload_n 0, 1) := by decide +kernel
theorem dX8_readsBidder_26 : decode cX8_readsBidder 26 = .ok (.getfield 17, 3) := by decide +kernel
theorem dX8_readsBidder_29 : decode cX8_readsBidder 29 = .ok (.iconst 2, 1) := by decide +kernel
theorem dX8_readsBidder_30 : decode cX8_readsBidder 30 = .ok (.iaload, 1) := by decide +kernel
theorem dX8_readsBidder_31 : decode cX8_readsBidder 31 = .ok (.imul, 1) := by decide +kernel
theorem dX8_readsBidder_32 : decode cX8_readsBidder 32 = .ok (.iadd, 1) := by decide +kernel
theorem dX8_readsBidder_33 : decode cX8_readsBidder 33 = .ok (.istore_n 2, 1) := by decide +kernel
theorem dX8_readsBidder_34 : decode cX8_readsBidder 34 = .ok (.iconst 0, 1) := by decide +kernel
theorem dX8_readsBidder_35 : decode cX8_readsBidder 35 = .ok (.istore_n 3, 1) := by decide +kernel
theorem dX8_readsBidder_36 : decode cX8_readsBidder 36 = .ok (.bipush 99, 2) := by decide +kernel
theorem dX8_readsBidder_38 : decode cX8_readsBidder 38 = .ok (.istore 4, 2) := by decide +kernel
theorem dX8_readsBidder_40 : decode cX8_readsBidder 40 = .ok (.aload_n 0, 1) := by decide +kernel
theorem dX8_readsBidder_41 : decode cX8_readsBidder 41 = .ok (.getfield 263, 3) := by decide +kernel
theorem dX8_readsBidder_44 : decode cX8_readsBidder 44 = .ok (.ifCond .ne 50, 3) := by decide +kernel
theorem dX8_readsBidder_47 : decode cX8_readsBidder 47 = .ok (.aload_n 0, 1) := by decide +kernel
theorem dX8_readsBidder_48 : decode cX8_readsBidder 48 = .ok (.getfield 251, 3) := by decide +kernel
theorem dX8_readsBidder_51 : decode cX8_readsBidder 51 = .ok (.iconst 2, 1) := by decide +kernel
theorem dX8_readsBidder_52 : decode cX8_readsBidder 52 = .ok (.if_icmp .ne 42, 3) := by decide +kernel
theorem dX8_readsBidder_55 : decode cX8_readsBidder 55 = .ok (.iload_n 3, 1) := by decide +kernel
theorem dX8_readsBidder_56 : decode cX8_readsBidder 56 = .ok (.bipush 8, 2) := by decide +kernel
theorem dX8_readsBidder_58 : decode cX8_readsBidder 58 = .ok (.if_icmp .ne 9, 3) := by decide +kernel
theorem dX8_readsBidder_61 : decode cX8_readsBidder 61 = .ok (.aload_n 0, 1) := by decide +kernel
theorem dX8_readsBidder_62 : decode cX8_readsBidder 62 = .ok (.iconst 1, 1) := by decide +kernel
theorem dX8_readsBidder_63 : decode cX8_readsBidder 63 = .ok (.putfield 263, 3) := by decide +kernel
theorem dX8_readsBidder_66 : decode cX8_readsBidder 66 = .ok (.return_, 1) := by decide +kernel
theorem dX8_readsBidder_67 : decode cX8_readsBidder 67 = .ok (.aload_n 0, 1) := by decide +kernel
theorem dX8_readsBidder_68 : decode cX8_readsBidder 68 = .ok (.iconst 0, 1) := by decide +kernel
theorem dX8_readsBidder_69 : decode cX8_readsBidder 69 = .ok (.iload 4, 2) := by decide +kernel
theorem dX8_readsBidder_71 : decode cX8_readsBidder 71 = .ok (.invokevirtual 270, 3) := by decide +kernel
theorem dX8_readsBidder_74 : decode cX8_readsBidder 74 = .ok (.istore 4, 2) := by decide +kernel
theorem dX8_readsBidder_76 : decode cX8_readsBidder 76 = .ok (.aload_n 0, 1) := by decide +kernel
theorem dX8_readsBidder_77 : decode cX8_readsBidder 77 = .ok (.getfield 17, 3) := by decide +kernel
theorem dX8_readsBidder_80 : decode cX8_readsBidder 80 = .ok (.iload_n 2, 1) := by decide +kernel
theorem dX8_readsBidder_81 : decode cX8_readsBidder 81 = .ok (.iconst 2, 1) := by decide +kernel
theorem dX8_readsBidder_82 : decode cX8_readsBidder 82 = .ok (.iadd, 1) := by decide +kernel
theorem dX8_readsBidder_83 : decode cX8_readsBidder 83 = .ok (.iload_n 3, 1) := by decide +kernel
theorem dX8_readsBidder_84 : decode cX8_readsBidder 84 = .ok (.iadd, 1) := by decide +kernel
theorem dX8_readsBidder_85 : decode cX8_readsBidder 85 = .ok (.iload 4, 2) := by decide +kernel
theorem dX8_readsBidder_87 : decode cX8_readsBidder 87 = .ok (.iastore, 1) := by decide +kernel
theorem dX8_readsBidder_88 : decode cX8_readsBidder 88 = .ok (.iinc 3 1, 3) := by decide +kernel
theorem dX8_readsBidder_91 : decode cX8_readsBidder 91 = .ok (.goto (-51), 3) := by decide +kernel
theorem dX8_readsBidder_94 : decode cX8_readsBidder 94 = .ok (.aload_n 0, 1) := by decide +kernel
theorem dX8_readsBidder_95 : decode cX8_readsBidder 95 = .ok (.getfield 17, 3) := by decide +kernel
theorem dX8_readsBidder_98 : decode cX8_readsBidder 98 = .ok (.iload_n 2, 1) := by decide +kernel
theorem dX8_readsBidder_99 : decode cX8_readsBidder 99 = .ok (.iconst 1, 1) := by decide +kernel
theorem dX8_readsBidder_100 : decode cX8_readsBidder 100 = .ok (.iadd, 1) := by decide +kernel
theorem dX8_readsBidder_101 : decode cX8_readsBidder 101 = .ok (.iload_n 3, 1) := by decide +kernel
theorem dX8_readsBidder_102 : decode cX8_readsBidder 102 = .ok (.iastore, 1) := by decide +kernel
theorem dX8_readsBidder_103 : decode cX8_readsBidder 103 = .ok (.aload_n 0, 1) := by decide +kernel
theorem dX8_readsBidder_104 : decode cX8_readsBidder 104 = .ok (.getfield 17, 3) := by decide +kernel
theorem dX8_readsBidder_107 : decode cX8_readsBidder 107 = .ok (.iload_n 2, 1) := by decide +kernel
theorem dX8_readsBidder_108 : decode cX8_readsBidder 108 = .ok (.aload_n 0, 1) := by decide +kernel
theorem dX8_readsBidder_109 : decode cX8_readsBidder 109 = .ok (.iconst 3, 1) := by decide +kernel
theorem dX8_readsBidder_110 : decode cX8_readsBidder 110 = .ok (.invokevirtual 273, 3) := by decide +kernel
theorem dX8_readsBidder_113 : decode cX8_readsBidder 113 = .ok (.ifCond .eq 13, 3) := by decide +kernel
theorem dX8_readsBidder_116 : decode cX8_readsBidder 116 = .ok (.aload_n 0, 1) := by decide +kernel
theorem dX8_readsBidder_117 : decode cX8_readsBidder 117 = .ok (.iconst 0, 1) := by decide +kernel
theorem dX8_readsBidder_118 : decode cX8_readsBidder 118 = .ok (.bipush 8, 2) := by decide +kernel
theorem dX8_readsBidder_120 : decode cX8_readsBidder 120 = .ok (.invokevirtual 270, 3) := by decide +kernel
theorem dX8_readsBidder_123 : decode cX8_readsBidder 123 = .ok (.goto 5, 3) := by decide +kernel
theorem dX8_readsBidder_126 : decode cX8_readsBidder 126 = .ok (.bipush 8, 2) := by decide +kernel
theorem dX8_readsBidder_128 : decode cX8_readsBidder 128 = .ok (.iastore, 1) := by decide +kernel
theorem dX8_readsBidder_129 : decode cX8_readsBidder 129 = .ok (.aload_n 0, 1) := by decide +kernel
theorem dX8_readsBidder_130 : decode cX8_readsBidder 130 = .ok (.getfield 17, 3) := by decide +kernel
theorem dX8_readsBidder_133 : decode cX8_readsBidder 133 = .ok (.iconst 2, 1) := by decide +kernel
theorem dX8_readsBidder_134 : decode cX8_readsBidder 134 = .ok (.dup2, 1) := by decide +kernel
theorem dX8_readsBidder_135 : decode cX8_readsBidder 135 = .ok (.iaload, 1) := by decide +kernel
theorem dX8_readsBidder_136 : decode cX8_readsBidder 136 = .ok (.iconst 1, 1) := by decide +kernel
theorem dX8_readsBidder_137 : decode cX8_readsBidder 137 = .ok (.iadd, 1) := by decide +kernel
theorem dX8_readsBidder_138 : decode cX8_readsBidder 138 = .ok (.iastore, 1) := by decide +kernel
theorem dX8_readsBidder_139 : decode cX8_readsBidder 139 = .ok (.return_, 1) := by decide +kernel
theorem dX8_readsOne_0 : decode cX8_readsOne 0 = .ok (.aload_n 0, 1) := by decide +kernel
theorem dX8_readsOne_1 : decode cX8_readsOne 1 = .ok (.getfield 257, 3) := by decide +kernel
theorem dX8_readsOne_4 : decode cX8_readsOne 4 = .ok (.istore_n 1, 1) := by decide +kernel
theorem dX8_readsOne_5 : decode cX8_readsOne 5 = .ok (.aload_n 0, 1) := by decide +kernel
theorem dX8_readsOne_6 : decode cX8_readsOne 6 = .ok (.iconst 0, 1) := by decide +kernel
theorem dX8_readsOne_7 : decode cX8_readsOne 7 = .ok (.invokevirtual 273, 3) := by decide +kernel
theorem dX8_readsOne_10 : decode cX8_readsOne 10 = .ok (.ifCond .eq 19, 3) := by decide +kernel
theorem dX8_readsOne_13 : decode cX8_readsOne 13 = .ok (.aload_n 0, 1) := by decide +kernel
theorem dX8_readsOne_14 : decode cX8_readsOne 14 = .ok (.getfield 17, 3) := by decide +kernel
theorem dX8_readsOne_17 : decode cX8_readsOne 17 = .ok (.iconst 0, 1) := by decide +kernel
theorem dX8_readsOne_18 : decode cX8_readsOne 18 = .ok (.aload_n 0, 1) := by decide +kernel
theorem dX8_readsOne_19 : decode cX8_readsOne 19 = .ok (.iconst 1, 1) := by decide +kernel
theorem dX8_readsOne_20 : decode cX8_readsOne 20 = .ok (.bipush 30, 2) := by decide +kernel
theorem dX8_readsOne_22 : decode cX8_readsOne 22 = .ok (.invokevirtual 270, 3) := by decide +kernel
theorem dX8_readsOne_25 : decode cX8_readsOne 25 = .ok (.iastore, 1) := by decide +kernel
theorem dX8_readsOne_26 : decode cX8_readsOne 26 = .ok (.goto 48, 3) := by decide +kernel
theorem dX8_readsOne_29 : decode cX8_readsOne 29 = .ok (.aload_n 0, 1) := by decide +kernel
theorem dX8_readsOne_30 : decode cX8_readsOne 30 = .ok (.iconst 1, 1) := by decide +kernel
theorem dX8_readsOne_31 : decode cX8_readsOne 31 = .ok (.invokevirtual 273, 3) := by decide +kernel
theorem dX8_readsOne_34 : decode cX8_readsOne 34 = .ok (.ifCond .eq 19, 3) := by decide +kernel
theorem dX8_readsOne_37 : decode cX8_readsOne 37 = .ok (.aload_n 0, 1) := by decide +kernel
theorem dX8_readsOne_38 : decode cX8_readsOne 38 = .ok (.getfield 17, 3) := by decide +kernel
theorem dX8_readsOne_41 : decode cX8_readsOne 41 = .ok (.iconst 1, 1) := by decide +kernel
theorem dX8_readsOne_42 : decode cX8_readsOne 42 = .ok (.aload_n 0, 1) := by decide +kernel
theorem dX8_readsOne_43 : decode cX8_readsOne 43 = .ok (.iconst 0, 1) := by decide +kernel
theorem dX8_readsOne_44 : decode cX8_readsOne 44 = .ok (.bipush 99, 2) := by decide +kernel
theorem dX8_readsOne_46 : decode cX8_readsOne 46 = .ok (.invokevirtual 270, 3) := by decide +kernel
theorem dX8_readsOne_49 : decode cX8_readsOne 49 = .ok (.iastore, 1) := by decide +kernel
theorem dX8_readsOne_50 : decode cX8_readsOne 50 = .ok (.goto 24, 3) := by decide +kernel
theorem dX8_readsOne_53 : decode cX8_readsOne 53 = .ok (.aload_n 0, 1) := by decide +kernel
theorem dX8_readsOne_54 : decode cX8_readsOne 54 = .ok (.iconst 2, 1) := by decide +kernel
theorem dX8_readsOne_55 : decode cX8_readsOne 55 = .ok (.invokevirtual 273, 3) := by decide +kernel
theorem dX8_readsOne_58 : decode cX8_readsOne 58 = .ok (.ifCond .eq 11, 3) := by decide +kernel
theorem dX8_readsOne_61 : decode cX8_readsOne 61 = .ok (.aload_n 0, 1) := by decide +kernel
theorem dX8_readsOne_62 : decode cX8_readsOne 62 = .ok (.iload_n 1, 1) := by decide +kernel
theorem dX8_readsOne_63 : decode cX8_readsOne 63 = .ok (.invokevirtual 276, 3) := by decide +kernel
theorem dX8_readsOne_66 : decode cX8_readsOne 66 = .ok (.goto 8, 3) := by decide +kernel
theorem dX8_readsOne_69 : decode cX8_readsOne 69 = .ok (.aload_n 0, 1) := by decide +kernel
theorem dX8_readsOne_70 : decode cX8_readsOne 70 = .ok (.iconst 1, 1) := by decide +kernel
theorem dX8_readsOne_71 : decode cX8_readsOne 71 = .ok (.putfield 263, 3) := by decide +kernel
theorem dX8_readsOne_74 : decode cX8_readsOne 74 = .ok (.aload_n 0, 1) := by decide +kernel
theorem dX8_readsOne_75 : decode cX8_readsOne 75 = .ok (.getfield 263, 3) := by decide +kernel
theorem dX8_readsOne_78 : decode cX8_readsOne 78 = .ok (.ifCond .eq 4, 3) := by decide +kernel
theorem dX8_readsOne_81 : decode cX8_readsOne 81 = .ok (.return_, 1) := by decide +kernel
theorem dX8_readsOne_82 : decode cX8_readsOne 82 = .ok (.aload_n 0, 1) := by decide +kernel
theorem dX8_readsOne_83 : decode cX8_readsOne 83 = .ok (.getfield 251, 3) := by decide +kernel
theorem dX8_readsOne_86 : decode cX8_readsOne 86 = .ok (.iconst 3, 1) := by decide +kernel
theorem dX8_readsOne_87 : decode cX8_readsOne 87 = .ok (.if_icmp .ne 10, 3) := by decide +kernel
theorem dX8_readsOne_90 : decode cX8_readsOne 90 = .ok (.aload_n 0, 1) := by decide +kernel
theorem dX8_readsOne_91 : decode cX8_readsOne 91 = .ok (.invokevirtual 267, 3) := by decide +kernel
theorem dX8_readsOne_94 : decode cX8_readsOne 94 = .ok (.goto 8, 3) := by decide +kernel
theorem dX8_readsOne_97 : decode cX8_readsOne 97 = .ok (.aload_n 0, 1) := by decide +kernel
theorem dX8_readsOne_98 : decode cX8_readsOne 98 = .ok (.iconst 1, 1) := by decide +kernel
theorem dX8_readsOne_99 : decode cX8_readsOne 99 = .ok (.putfield 263, 3) := by decide +kernel
theorem dX8_readsOne_102 : decode cX8_readsOne 102 = .ok (.return_, 1) := by decide +kernel
theorem dX8_text_0 : decode cX8_text 0 = .ok (.aload_n 0, 1) := by decide +kernel
theorem dX8_text_1 : decode cX8_text 1 = .ok (.getfield 17, 3) := by decide +kernel
theorem dX8_text_4 : decode cX8_text 4 = .ok (.invokestatic 54, 3) := by decide +kernel
theorem dX8_text_7 : decode cX8_text 7 = .ok (.aload_n 0, 1) := by decide +kernel
theorem dX8_text_8 : decode cX8_text 8 = .ok (.iconst 0, 1) := by decide +kernel
theorem dX8_text_9 : decode cX8_text 9 = .ok (.putfield 248, 3) := by decide +kernel
theorem dX8_text_12 : decode cX8_text 12 = .ok (.aload_n 0, 1) := by decide +kernel
theorem dX8_text_13 : decode cX8_text 13 = .ok (.iconst 3, 1) := by decide +kernel
theorem dX8_text_14 : decode cX8_text 14 = .ok (.putfield 251, 3) := by decide +kernel
theorem dX8_text_17 : decode cX8_text 17 = .ok (.aload_n 0, 1) := by decide +kernel
theorem dX8_text_18 : decode cX8_text 18 = .ok (.iconst 0, 1) := by decide +kernel
theorem dX8_text_19 : decode cX8_text 19 = .ok (.putfield 263, 3) := by decide +kernel
theorem dX8_text_22 : decode cX8_text 22 = .ok (.aload_n 0, 1) := by decide +kernel
theorem dX8_text_23 : decode cX8_text 23 = .ok (.invokevirtual 267, 3) := by decide +kernel
theorem dX8_text_26 : decode cX8_text 26 = .ok (.aload_n 0, 1) := by decide +kernel
theorem dX8_text_27 : decode cX8_text 27 = .ok (.getfield 263, 3) := by decide +kernel
theorem dX8_text_30 : decode cX8_text 30 = .ok (.ifCond .ne 17, 3) := by decide +kernel
theorem dX8_text_33 : decode cX8_text 33 = .ok (.aload_n 0, 1) := by decide +kernel
theorem dX8_text_34 : decode cX8_text 34 = .ok (.getfield 251, 3) := by decide +kernel
theorem dX8_text_37 : decode cX8_text 37 = .ok (.ifCond .eq 10, 3) := by decide +kernel
theorem dX8_text_40 : decode cX8_text 40 = .ok (.aload_n 0, 1) := by decide +kernel
theorem dX8_text_41 : decode cX8_text 41 = .ok (.invokevirtual 279, 3) := by decide +kernel
theorem dX8_text_44 : decode cX8_text 44 = .ok (.goto (-18), 3) := by decide +kernel
theorem dX8_text_47 : decode cX8_text 47 = .ok (.aload_n 0, 1) := by decide +kernel
theorem dX8_text_48 : decode cX8_text 48 = .ok (.iconst 0, 1) := by decide +kernel
theorem dX8_text_49 : decode cX8_text 49 = .ok (.putfield 239, 3) := by decide +kernel
theorem dX8_text_52 : decode cX8_text 52 = .ok (.aload_n 0, 1) := by decide +kernel
theorem dX8_text_53 : decode cX8_text 53 = .ok (.getfield 263, 3) := by decide +kernel
theorem dX8_text_56 : decode cX8_text 56 = .ok (.ifCond .eq 11, 3) := by decide +kernel
theorem dX8_text_59 : decode cX8_text 59 = .ok (.bipush (-4), 2) := by decide +kernel
theorem dX8_text_61 : decode cX8_text 61 = .ok (.aload_n 0, 1) := by decide +kernel
theorem dX8_text_62 : decode cX8_text 62 = .ok (.getfield 257, 3) := by decide +kernel
theorem dX8_text_65 : decode cX8_text 65 = .ok (.isub, 1) := by decide +kernel
theorem dX8_text_66 : decode cX8_text 66 = .ok (.ireturn, 1) := by decide +kernel
theorem dX8_text_67 : decode cX8_text 67 = .ok (.iconst 0, 1) := by decide +kernel
theorem dX8_text_68 : decode cX8_text 68 = .ok (.istore_n 1, 1) := by decide +kernel
theorem dX8_text_69 : decode cX8_text 69 = .ok (.iload_n 1, 1) := by decide +kernel
theorem dX8_text_70 : decode cX8_text 70 = .ok (.bipush 126, 2) := by decide +kernel
theorem dX8_text_72 : decode cX8_text 72 = .ok (.if_icmp .ge 21, 3) := by decide +kernel
theorem dX8_text_75 : decode cX8_text 75 = .ok (.aload_n 0, 1) := by decide +kernel
theorem dX8_text_76 : decode cX8_text 76 = .ok (.getfield 13, 3) := by decide +kernel
theorem dX8_text_79 : decode cX8_text 79 = .ok (.iload_n 1, 1) := by decide +kernel
theorem dX8_text_80 : decode cX8_text 80 = .ok (.aload_n 0, 1) := by decide +kernel
theorem dX8_text_81 : decode cX8_text 81 = .ok (.getfield 17, 3) := by decide +kernel
theorem dX8_text_84 : decode cX8_text 84 = .ok (.iload_n 1, 1) := by decide +kernel
theorem dX8_text_85 : decode cX8_text 85 = .ok (.iaload, 1) := by decide +kernel
theorem dX8_text_86 : decode cX8_text 86 = .ok (.iastore, 1) := by decide +kernel
theorem dX8_text_87 : decode cX8_text 87 = .ok (.iinc 1 1, 3) := by decide +kernel
theorem dX8_text_90 : decode cX8_text 90 = .ok (.goto (-21), 3) := by decide +kernel
theorem dX8_text_93 : decode cX8_text 93 = .ok (.aload_n 0, 1) := by decide +kernel
theorem dX8_text_94 : decode cX8_text 94 = .ok (.iconst 0, 1) := by decide +kernel
theorem dX8_text_95 : decode cX8_text 95 = .ok (.putfield 58, 3) := by decide +kernel
theorem dX8_text_98 : decode cX8_text 98 = .ok (.aload_n 0, 1) := by decide +kernel
theorem dX8_text_99 : decode cX8_text 99 = .ok (.invokevirtual 61, 3) := by decide +kernel
theorem dX8_text_102 : decode cX8_text 102 = .ok (.ireturn, 1) := by decide +kernel
