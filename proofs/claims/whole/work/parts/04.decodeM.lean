theorem dX10_init_0 : decode cX10_init 0 = .ok (.aload_n 0, 1) := by decide +kernel
theorem dX10_init_1 : decode cX10_init 1 = .ok (.invokespecial 1, 3) := by decide +kernel
theorem dX10_init_4 : decode cX10_init 4 = .ok (.aload_n 0, 1) := by decide +kernel
theorem dX10_init_5 : decode cX10_init 5 = .ok (.bipush 77, 2) := by decide +kernel
theorem dX10_init_7 : decode cX10_init 7 = .ok (.newarray .int, 2) := by decide +kernel
theorem dX10_init_9 : decode cX10_init 9 = .ok (.putfield 7, 3) := by decide +kernel
theorem dX10_init_12 : decode cX10_init 12 = .ok (.aload_n 0, 1) := by decide +kernel
theorem dX10_init_13 : decode cX10_init 13 = .ok (.sipush 462, 3) := by decide +kernel
theorem dX10_init_16 : decode cX10_init 16 = .ok (.newarray .int, 2) := by decide +kernel
theorem dX10_init_18 : decode cX10_init 18 = .ok (.putfield 13, 3) := by decide +kernel
theorem dX10_init_21 : decode cX10_init 21 = .ok (.aload_n 0, 1) := by decide +kernel
theorem dX10_init_22 : decode cX10_init 22 = .ok (.bipush 77, 2) := by decide +kernel
theorem dX10_init_24 : decode cX10_init 24 = .ok (.newarray .int, 2) := by decide +kernel
theorem dX10_init_26 : decode cX10_init 26 = .ok (.putfield 16, 3) := by decide +kernel
theorem dX10_init_29 : decode cX10_init 29 = .ok (.aload_n 0, 1) := by decide +kernel
theorem dX10_init_30 : decode cX10_init 30 = .ok (.bipush 12, 2) := by decide +kernel
theorem dX10_init_32 : decode cX10_init 32 = .ok (.newarray .int, 2) := by decide +kernel
theorem dX10_init_34 : decode cX10_init 34 = .ok (.putfield 19, 3) := by decide +kernel
theorem dX10_init_37 : decode cX10_init 37 = .ok (.aload_n 0, 1) := by decide +kernel
theorem dX10_init_38 : decode cX10_init 38 = .ok (.bipush 12, 2) := by decide +kernel
theorem dX10_init_40 : decode cX10_init 40 = .ok (.newarray .int, 2) := by decide +kernel
theorem dX10_init_42 : decode cX10_init 42 = .ok (.putfield 22, 3) := by decide +kernel
theorem dX10_init_45 : decode cX10_init 45 = .ok (.aload_n 0, 1) := by decide +kernel
theorem dX10_init_46 : decode cX10_init 46 = .ok (.bipush 12, 2) := by decide +kernel
theorem dX10_init_48 : decode cX10_init 48 = .ok (.newarray .int, 2) := by decide +kernel
theorem dX10_init_50 : decode cX10_init 50 = .ok (.putfield 25, 3) := by decide +kernel
theorem dX10_init_53 : decode cX10_init 53 = .ok (.aload_n 0, 1) := by decide +kernel
theorem dX10_init_54 : decode cX10_init 54 = .ok (.bipush 12, 2) := by decide +kernel
theorem dX10_init_56 : decode cX10_init 56 = .ok (.newarray .int, 2) := by decide +kernel
theorem dX10_init_58 : decode cX10_init 58 = .ok (.putfield 28, 3) := by decide +kernel
theorem dX10_init_61 : decode cX10_init 61 = .ok (.aload_n 0, 1) := by decide +kernel
theorem dX10_init_62 : decode cX10_init 62 = .ok (.sipush 600, 3) := by decide +kernel
theorem dX10_init_65 : decode cX10_init 65 = .ok (.newarray .int, 2) := by decide +kernel
theorem dX10_init_67 : decode cX10_init 67 = .ok (.putfield 31, 3) := by decide +kernel
theorem dX10_init_70 : decode cX10_init 70 = .ok (.aload_n 0, 1) := by decide +kernel
theorem dX10_init_71 : decode cX10_init 71 = .ok (.sipush 400, 3) := by decide +kernel
theorem dX10_init_74 : decode cX10_init 74 = .ok (.newarray .int, 2) := by decide +kernel
theorem dX10_init_76 : decode cX10_init 76 = .ok (.putfield 34, 3) := by decide +kernel
theorem dX10_init_79 : decode cX10_init 79 = .ok (.aload_n 0, 1) := by decide +kernel
theorem dX10_init_80 : decode cX10_init 80 = .ok (.sipush 133, 3) := by decide +kernel
theorem dX10_init_83 : decode cX10_init 83 = .ok (.newarray .int, 2) := by decide +kernel
theorem dX10_init_85 : decode cX10_init 85 = .ok (.dup, 1) := by decide +kernel
theorem dX10_init_86 : decode cX10_init 86 = .ok (.iconst 0, 1) := by decide +kernel
theorem dX10_init_87 : decode cX10_init 87 = .ok (.bipush 32, 2) := by decide +kernel
theorem dX10_init_89 : decode cX10_init 89 = .ok (.iastore, 1) := by decide +kernel
theorem dX10_init_90 : decode cX10_init 90 = .ok (.dup, 1) := by decide +kernel
theorem dX10_init_91 : decode cX10_init 91 = .ok (.iconst 1, 1) := by decide +kernel
theorem dX10_init_92 : decode cX10_init 92 = .ok (.bipush 112, 2) := by decide +kernel
theorem dX10_init_94 : decode cX10_init 94 = .ok (.iastore, 1) := by decide +kernel
theorem dX10_init_95 : decode cX10_init 95 = .ok (.dup, 1) := by decide +kernel
theorem dX10_init_96 : decode cX10_init 96 = .ok (.iconst 2, 1) := by decide +kernel
theorem dX10_init_97 : decode cX10_init 97 = .ok (.bipush 114, 2) := by decide +kernel
theorem dX10_init_99 : decode cX10_init 99 = .ok (.iastore, 1) := by decide +kernel
theorem dX10_init_100 : decode cX10_init 100 = .ok (.dup, 1) := by decide +kernel
theorem dX10_init_101 : decode cX10_init 101 = .ok (.iconst 3, 1) := by decide +kernel
theorem dX10_init_102 : decode cX10_init 102 = .ok (.bipush 101, 2) := by decide +kernel
theorem dX10_init_104 : decode cX10_init 104 = .ok (.iastore, 1) := by decide +kernel
theorem dX10_init_105 : decode cX10_init 105 = .ok (.dup, 1) := by decide +kernel
theorem dX10_init_106 : decode cX10_init 106 = .ok (.iconst 4, 1) := by decide +kernel
theorem dX10_init_107 : decode cX10_init 107 = .ok (.bipush 115, 2) := by decide +kernel
theorem dX10_init_109 : decode cX10_init 109 = .ok (.iastore, 1) := by decide +kernel
theorem dX10_init_110 : decode cX10_init 110 = .ok (.dup, 1) := by decide +kernel
theorem dX10_init_111 : decode cX10_init 111 = .ok (.iconst 5, 1) := by decide +kernel
theorem dX10_init_112 : decode cX10_init 112 = .ok (.bipush 115, 2) := by decide +kernel
theorem dX10_init_114 : decode cX10_init 114 = .ok (.iastore, 1) := by decide +kernel
theorem dX10_init_115 : decode cX10_init 115 = .ok (.dup, 1) := by decide +kernel
theorem dX10_init_116 : decode cX10_init 116 = .ok (.bipush 6, 2) := by decide +kernel
theorem dX10_init_118 : decode cX10_init 118 = .ok (.bipush 101, 2) := by decide +kernel
theorem dX10_init_120 : decode cX10_init 120 = .ok (.iastore, 1) := by decide +kernel
theorem dX10_init_121 : decode cX10_init 121 = .ok (.dup, 1) := by decide +kernel
theorem dX10_init_122 : decode cX10_init 122 = .ok (.bipush 7, 2) := by decide +kernel
theorem dX10_init_124 : decode cX10_init 124 = .ok (.bipush 115, 2) := by decide +kernel
theorem dX10_init_126 : decode cX10_init 126 = .ok (.iastore, 1) := by decide +kernel
theorem dX10_init_127 : decode cX10_init 127 = .ok (.dup, 1) := by decide +kernel
theorem dX10_init_128 : decode cX10_init 128 = .ok (.bipush 8, 2) := by decide +kernel
theorem dX10_init_130 : decode cX10_init 130 = .ok (.bipush 32, 2) := by decide +kernel
theorem dX10_init_132 : decode cX10_init 132 = .ok (.iastore, 1) := by decide +kernel
theorem dX10_init_133 : decode cX10_init 133 = .ok (.dup, 1) := by decide +kernel
theorem dX10_init_134 : decode cX10_init 134 = .ok (.bipush 9, 2) := by decide +kernel
theorem dX10_init_136 : decode cX10_init 136 = .ok (.bipush 114, 2) := by decide +kernel
theorem dX10_init_138 : decode cX10_init 138 = .ok (.iastore, 1) := by decide +kernel
theorem dX10_init_139 : decode cX10_init 139 = .ok (.dup, 1) := by decide +kernel
theorem dX10_init_140 : decode cX10_init 140 = .ok (.bipush 10, 2) := by decide +kernel
theorem dX10_init_142 : decode cX10_init 142 = .ok (.bipush 101, 2) := by decide +kernel
theorem dX10_init_144 : decode cX10_init 144 = .ok (.iastore, 1) := by decide +kernel
theorem dX10_init_145 : decode cX10_init 145 = .ok (.dup, 1) := by decide +kernel
theorem dX10_init_146 : decode cX10_init 146 = .ok (.bipush 11, 2) := by decide +kernel
theorem dX10_init_148 : decode cX10_init 148 = .ok (.bipush 115, 2) := by decide +kernel
theorem dX10_init_150 : decode cX10_init 150 = .ok (.iastore, 1) := by decide +kernel
theorem dX10_init_151 : decode cX10_init 151 = .ok (.dup, 1) := by decide +kernel
theorem dX10_init_152 : decode cX10_init 152 = .ok (.bipush 12, 2) := by decide +kernel
theorem dX10_init_154 : decode cX10_init 154 = .ok (.bipush 116, 2) := by decide +kernel
theorem dX10_init_156 : decode cX10_init 156 = .ok (.iastore, 1) := by decide +kernel
theorem dX10_init_157 : decode cX10_init 157 = .ok (.dup, 1) := by decide +kernel
theorem dX10_init_158 : decode cX10_init 158 = .ok (.bipush 13, 2) := by decide +kernel
theorem dX10_init_160 : decode cX10_init 160 = .ok (.bipush 115, 2) := by decide +kernel
theorem dX10_init_162 : decode cX10_init 162 = .ok (.iastore, 1) := by decide +kernel
theorem dX10_init_163 : decode cX10_init 163 = .ok (.dup, 1) := by decide +kernel
theorem dX10_init_164 : decode cX10_init 164 = .ok (.bipush 14, 2) := by decide +kernel
theorem dX10_init_166 : decode cX10_init 166 = .ok (.bipush 32, 2) := by decide +kernel
theorem dX10_init_168 : decode cX10_init 168 = .ok (.iastore, 1) := by decide +kernel
theorem dX10_init_169 : decode cX10_init 169 = .ok (.dup, 1) := by decide +kernel
theorem dX10_init_170 : decode cX10_init 170 = .ok (.bipush 15, 2) := by decide +kernel
theorem dX10_init_172 : decode cX10_init 172 = .ok (.bipush 114, 2) := by decide +kernel
theorem dX10_init_174 : decode cX10_init 174 = .ok (.iastore, 1) := by decide +kernel
theorem dX10_init_175 : decode cX10_init 175 = .ok (.dup, 1) := by decide +kernel
theorem dX10_init_176 : decode cX10_init 176 = .ok (.bipush 16, 2) := by decide +kernel
theorem dX10_init_178 : decode cX10_init 178 = .ok (.bipush 101, 2) := by decide +kernel
theorem dX10_init_180 : decode cX10_init 180 = .ok (.iastore, 1) := by decide +kernel
theorem dX10_init_181 : decode cX10_init 181 = .ok (.dup, 1) := by decide +kernel
theorem dX10_init_182 : decode cX10_init 182 = .ok (.bipush 17, 2) := by decide +kernel
theorem dX10_init_184 : decode cX10_init 184 = .ok (.bipush 97, 2) := by decide +kernel
theorem dX10_init_186 : decode cX10_init 186 = .ok (.iastore, 1) := by decide +kernel
theorem dX10_init_187 : decode cX10_init 187 = .ok (.dup, 1) := by decide +kernel
theorem dX10_init_188 : decode cX10_init 188 = .ok (.bipush 18, 2) := by decide +kernel
theorem dX10_init_190 : decode cX10_init 190 = .ok (.bipush 100, 2) := by decide +kernel
theorem dX10_init_192 : decode cX10_init 192 = .ok (.iastore, 1) := by decide +kernel
theorem dX10_init_193 : decode cX10_init 193 = .ok (.dup, 1) := by decide +kernel
theorem dX10_init_194 : decode cX10_init 194 = .ok (.bipush 19, 2) := by decide +kernel
theorem dX10_init_196 : decode cX10_init 196 = .ok (.bipush 115, 2) := by decide +kernel
theorem dX10_init_198 : decode cX10_init 198 = .ok (.iastore, 1) := by decide +kernel
theorem dX10_init_199 : decode cX10_init 199 = .ok (.dup, 1) := by decide +kernel
theorem dX10_init_200 : decode cX10_init 200 = .ok (.bipush 20, 2) := by decide +kernel
theorem dX10_init_202 : decode cX10_init 202 = .ok (.bipush 32, 2) := by decide +kernel
theorem dX10_init_204 : decode cX10_init 204 = .ok (.iastore, 1) := by decide +kernel
theorem dX10_init_205 : decode cX10_init 205 = .ok (.dup, 1) := by decide +kernel
theorem dX10_init_206 : decode cX10_init 206 = .ok (.bipush 21, 2) := by decide +kernel
theorem dX10_init_208 : decode cX10_init 208 = .ok (.bipush 119, 2) := by decide +kernel
theorem dX10_init_210 : decode cX10_init 210 = .ok (.iastore, 1) := by decide +kernel
theorem dX10_init_211 : decode cX10_init 211 = .ok (.dup, 1) := by decide +kernel
theorem dX10_init_212 : decode cX10_init 212 = .ok (.bipush 22, 2) := by decide +kernel
theorem dX10_init_214 : decode cX10_init 214 = .ok (.bipush 104, 2) := by decide +kernel
theorem dX10_init_216 : decode cX10_init 216 = .ok (.iastore, 1) := by decide +kernel
theorem dX10_init_217 : decode cX10_init 217 = .ok (.dup, 1) := by decide +kernel
theorem dX10_init_218 : decode cX10_init 218 = .ok (.bipush 23, 2) := by decide +kernel
theorem dX10_init_220 : decode cX10_init 220 = .ok (.bipush 101, 2) := by decide +kernel
theorem dX10_init_222 : decode cX10_init 222 = .ok (.iastore, 1) := by decide +kernel
theorem dX10_init_223 : decode cX10_init 223 = .ok (.dup, 1) := by decide +kernel
theorem dX10_init_224 : decode cX10_init 224 = .ok (.bipush 24, 2) := by decide +kernel
theorem dX10_init_226 : decode cX10_init 226 = .ok (.bipush 110, 2) := by decide +kernel
theorem dX10_init_228 : decode cX10_init 228 = .ok (.iastore, 1) := by decide +kernel
theorem dX10_init_229 : decode cX10_init 229 = .ok (.dup, 1) := by decide +kernel
theorem dX10_init_230 : decode cX10_init 230 = .ok (.bipush 25, 2) := by decide +kernel
theorem dX10_init_232 : decode cX10_init 232 = .ok (.bipush 32, 2) := by decide +kernel
theorem dX10_init_234 : decode cX10_init 234 = .ok (.iastore, 1) := by decide +kernel
theorem dX10_init_235 : decode cX10_init 235 = .ok (.dup, 1) := by decide +kernel
theorem dX10_init_236 : decode cX10_init 236 = .ok (.bipush 26, 2) := by decide +kernel
theorem dX10_init_238 : decode cX10_init 238 = .ok (.bipush 111, 2) := by decide +kernel
theorem dX10_init_240 : decode cX10_init 240 = .ok (.iastore, 1) := by decide +kernel
theorem dX10_init_241 : decode cX10_init 241 = .ok (.dup, 1) := by decide +kernel
theorem dX10_init_242 : decode cX10_init 242 = .ok (.bipush 27, 2) := by decide +kernel
theorem dX10_init_244 : decode cX10_init 244 = .ok (.bipush 114, 2) := by decide +kernel
theorem dX10_init_246 : decode cX10_init 246 = .ok (.iastore, 1) := by decide +kernel
theorem dX10_init_247 : decode cX10_init 247 = .ok (.dup, 1) := by decide +kernel
theorem dX10_init_248 : decode cX10_init 248 = .ok (.bipush 28, 2) := by decide +kernel
theorem dX10_init_250 : decode cX10_init 250 = .ok (.bipush 32, 2) := by decide +kernel
theorem dX10_init_252 : decode cX10_init 252 = .ok (.iastore, 1) := by decide +kernel
theorem dX10_init_253 : decode cX10_init 253 = .ok (.dup, 1) := by decide +kernel
theorem dX10_init_254 : decode cX10_init 254 = .ok (.bipush 29, 2) := by decide +kernel
theorem dX10_init_256 : decode cX10_init 256 = .ok (.bipush 97, 2) := by decide +kernel
theorem dX10_init_258 : decode cX10_init 258 = .ok (.iastore, 1) := by decide +kernel
theorem dX10_init_259 : decode cX10_init 259 = .ok (.dup, 1) := by decide +kernel
theorem dX10_init_260 : decode cX10_init 260 = .ok (.bipush 30, 2) := by decide +kernel
theorem dX10_init_262 : decode cX10_init 262 = .ok (.bipush 110, 2) := by decide +kernel
theorem dX10_init_264 : decode cX10_init 264 = .ok (.iastore, 1) := by decide +kernel
theorem dX10_init_265 : decode cX10_init 265 = .ok (.dup, 1) := by decide +kernel
theorem dX10_init_266 : decode cX10_init 266 = .ok (.bipush 31, 2) := by decide +kernel
theorem dX10_init_268 : decode cX10_init 268 = .ok (.bipush 100, 2) := by decide +kernel
theorem dX10_init_270 : decode cX10_init 270 = .ok (.iastore, 1) := by decide +kernel
theorem dX10_init_271 : decode cX10_init 271 = .ok (.dup, 1) := by decide +kernel
theorem dX10_init_272 : decode cX10_init 272 = .ok (.bipush 32, 2) := by decide +kernel
theorem dX10_init_274 : decode cX10_init 274 = .ok (.bipush 32, 2) := by decide +kernel
theorem dX10_init_276 : decode cX10_init 276 = .ok (.iastore, 1) := by decide +kernel
theorem dX10_init_277 : decode cX10_init 277 = .ok (.dup, 1) := by decide +kernel
theorem dX10_init_278 : decode cX10_init 278 = .ok (.bipush 33, 2) := by decide +kernel
theorem dX10_init_280 : decode cX10_init 280 = .ok (.bipush 110, 2) := by decide +kernel
theorem dX10_init_282 : decode cX10_init 282 = .ok (.iastore, 1) := by decide +kernel
theorem dX10_init_283 : decode cX10_init 283 = .ok (.dup, 1) := by decide +kernel
theorem dX10_init_284 : decode cX10_init 284 = .ok (.bipush 34, 2) := by decide +kernel
theorem dX10_init_286 : decode cX10_init 286 = .ok (.bipush 111, 2) := by decide +kernel
theorem dX10_init_288 : decode cX10_init 288 = .ok (.iastore, 1) := by decide +kernel
theorem dX10_init_289 : decode cX10_init 289 = .ok (.dup, 1) := by decide +kernel
theorem dX10_init_290 : decode cX10_init 290 = .ok (.bipush 35, 2) := by decide +kernel
theorem dX10_init_292 : decode cX10_init 292 = .ok (.bipush 116, 2) := by decide +kernel
theorem dX10_init_294 : decode cX10_init 294 = .ok (.iastore, 1) := by decide +kernel
theorem dX10_init_295 : decode cX10_init 295 = .ok (.dup, 1) := by decide +kernel
theorem dX10_init_296 : decode cX10_init 296 = .ok (.bipush 36, 2) := by decide +kernel
theorem dX10_init_298 : decode cX10_init 298 = .ok (.bipush 32, 2) := by decide +kernel
theorem dX10_init_300 : decode cX10_init 300 = .ok (.iastore, 1) := by decide +kernel
theorem dX10_init_301 : decode cX10_init 301 = .ok (.dup, 1) := by decide +kernel
theorem dX10_init_302 : decode cX10_init 302 = .ok (.bipush 37, 2) := by decide +kernel
theorem dX10_init_304 : decode cX10_init 304 = .ok (.bipush 115, 2) := by decide +kernel
theorem dX10_init_306 : decode cX10_init 306 = .ok (.iastore, 1) := by decide +kernel
theorem dX10_init_307 : decode cX10_init 307 = .ok (.dup, 1) := by decide +kernel
theorem dX10_init_308 : decode cX10_init 308 = .ok (.bipush 38, 2) := by decide +kernel
theorem dX10_init_310 : decode cX10_init 310 = .ok (.bipush 107, 2) := by decide +kernel
theorem dX10_init_312 : decode cX10_init 312 = .ok (.iastore, 1) := by decide +kernel
theorem dX10_init_313 : decode cX10_init 313 = .ok (.dup, 1) := by decide +kernel
theorem dX10_init_314 : decode cX10_init 314 = .ok (.bipush 39, 2) := by decide +kernel
theorem dX10_init_316 : decode cX10_init 316 = .ok (.bipush 105, 2) := by decide +kernel
theorem dX10_init_318 : decode cX10_init 318 = .ok (.iastore, 1) := by decide +kernel
theorem dX10_init_319 : decode cX10_init 319 = .ok (.dup, 1) := by decide +kernel
theorem dX10_init_320 : decode cX10_init 320 = .ok (.bipush 40, 2) := by decide +kernel
theorem dX10_init_322 : decode cX10_init 322 = .ok (.bipush 108, 2) := by decide +kernel
theorem dX10_init_324 : decode cX10_init 324 = .ok (.iastore, 1) := by decide +kernel
theorem dX10_init_325 : decode cX10_init 325 = .ok (.dup, 1) := by decide +kernel
theorem dX10_init_326 : decode cX10_init 326 = .ok (.bipush 41, 2) := by decide +kernel
theorem dX10_init_328 : decode cX10_init 328 = .ok (.bipush 108, 2) := by decide +kernel
theorem dX10_init_330 : decode cX10_init 330 = .ok (.iastore, 1) := by decide +kernel
theorem dX10_init_331 : decode cX10_init 331 = .ok (.dup, 1) := by decide +kernel
theorem dX10_init_332 : decode cX10_init 332 = .ok (.bipush 42, 2) := by decide +kernel
theorem dX10_init_334 : decode cX10_init 334 = .ok (.bipush 32, 2) := by decide +kernel
theorem dX10_init_336 : decode cX10_init 336 = .ok (.iastore, 1) := by decide +kernel
theorem dX10_init_337 : decode cX10_init 337 = .ok (.dup, 1) := by decide +kernel
theorem dX10_init_338 : decode cX10_init 338 = .ok (.bipush 43, 2) := by decide +kernel
theorem dX10_init_340 : decode cX10_init 340 = .ok (.bipush 115, 2) := by decide +kernel
theorem dX10_init_342 : decode cX10_init 342 = .ok (.iastore, 1) := by decide +kernel
theorem dX10_init_343 : decode cX10_init 343 = .ok (.dup, 1) := by decide +kernel
theorem dX10_init_344 : decode cX10_init 344 = .ok (.bipush 44, 2) := by decide +kernel
theorem dX10_init_346 : decode cX10_init 346 = .ok (.bipush 108, 2) := by decide +kernel
theorem dX10_init_348 : decode cX10_init 348 = .ok (.iastore, 1) := by decide +kernel
theorem dX10_init_349 : decode cX10_init 349 = .ok (.dup, 1) := by decide +kernel
theorem dX10_init_350 : decode cX10_init 350 = .ok (.bipush 45, 2) := by decide +kernel
theorem dX10_init_352 : decode cX10_init 352 = .ok (.bipush 101, 2) := by decide +kernel
theorem dX10_init_354 : decode cX10_init 354 = .ok (.iastore, 1) := by decide +kernel
theorem dX10_init_355 : decode cX10_init 355 = .ok (.dup, 1) := by decide +kernel
theorem dX10_init_356 : decode cX10_init 356 = .ok (.bipush 46, 2) := by decide +kernel
theorem dX10_init_358 : decode cX10_init 358 = .ok (.bipush 101, 2) := by decide +kernel
theorem dX10_init_360 : decode cX10_init 360 = .ok (.iastore, 1) := by decide +kernel
theorem dX10_init_361 : decode cX10_init 361 = .ok (.dup, 1) := by decide +kernel
theorem dX10_init_362 : decode cX10_init 362 = .ok (.bipush 47, 2) := by decide +kernel
theorem dX10_init_364 : decode cX10_init 364 = .ok (.bipush 112, 2) := by decide +kernel
theorem dX10_init_366 : decode cX10_init 366 = .ok (.iastore, 1) := by decide +kernel
theorem dX10_init_367 : decode cX10_init 367 = .ok (.dup, 1) := by decide +kernel
theorem dX10_init_368 : decode cX10_init 368 = .ok (.bipush 48, 2) := by decide +kernel
theorem dX10_init_370 : decode cX10_init 370 = .ok (.bipush 32, 2) := by decide +kernel
theorem dX10_init_372 : decode cX10_init 372 = .ok (.iastore, 1) := by decide +kernel
theorem dX10_init_373 : decode cX10_init 373 = .ok (.dup, 1) := by decide +kernel
theorem dX10_init_374 : decode cX10_init 374 = .ok (.bipush 49, 2) := by decide +kernel
theorem dX10_init_376 : decode cX10_init 376 = .ok (.bipush 112, 2) := by decide +kernel
theorem dX10_init_378 : decode cX10_init 378 = .ok (.iastore, 1) := by decide +kernel
theorem dX10_init_379 : decode cX10_init 379 = .ok (.dup, 1) := by decide +kernel
theorem dX10_init_380 : decode cX10_init 380 = .ok (.bipush 50, 2) := by decide +kernel
theorem dX10_init_382 : decode cX10_init 382 = .ok (.bipush 108, 2) := by decide +kernel
theorem dX10_init_384 : decode cX10_init 384 = .ok (.iastore, 1) := by decide +kernel
theorem dX10_init_385 : decode cX10_init 385 = .ok (.dup, 1) := by decide +kernel
theorem dX10_init_386 : decode cX10_init 386 = .ok (.bipush 51, 2) := by decide +kernel
theorem dX10_init_388 : decode cX10_init 388 = .ok (.bipush 97, 2) := by decide +kernel
theorem dX10_init_390 : decode cX10_init 390 = .ok (.iastore, 1) := by decide +kernel
theorem dX10_init_391 : decode cX10_init 391 = .ok (.dup, 1) := by decide +kernel
theorem dX10_init_392 : decode cX10_init 392 = .ok (.bipush 52, 2) := by decide +kernel
theorem dX10_init_394 : decode cX10_init 394 = .ok (.bipush 110, 2) := by decide +kernel
theorem dX10_init_396 : decode cX10_init 396 = .ok (.iastore, 1) := by decide +kernel
theorem dX10_init_397 : decode cX10_init 397 = .ok (.dup, 1) := by decide +kernel
theorem dX10_init_398 : decode cX10_init 398 = .ok (.bipush 53, 2) := by decide +kernel
theorem dX10_init_400 : decode cX10_init 400 = .ok (.bipush 32, 2) := by decide +kernel
theorem dX10_init_402 : decode cX10_init 402 = .ok (.iastore, 1) := by decide +kernel
theorem dX10_init_403 : decode cX10_init 403 = .ok (.dup, 1) := by decide +kernel
theorem dX10_init_404 : decode cX10_init 404 = .ok (.bipush 54, 2) := by decide +kernel
theorem dX10_init_406 : decode cX10_init 406 = .ok (.bipush 104, 2) := by decide +kernel
theorem dX10_init_408 : decode cX10_init 408 = .ok (.iastore, 1) := by decide +kernel
theorem dX10_init_409 : decode cX10_init 409 = .ok (.dup, 1) := by decide +kernel
theorem dX10_init_410 : decode cX10_init 410 = .ok (.bipush 55, 2) := by decide +kernel
theorem dX10_init_412 : decode cX10_init 412 = .ok (.bipush 111, 2) := by decide +kernel
theorem dX10_init_414 : decode cX10_init 414 = .ok (.iastore, 1) := by decide +kernel
theorem dX10_init_415 : decode cX10_init 415 = .ok (.dup, 1) := by decide +kernel
theorem dX10_init_416 : decode cX10_init 416 = .ok (.bipush 56, 2) := by decide +kernel
theorem dX10_init_418 : decode cX10_init 418 = .ok (.bipush 108, 2) := by decide +kernel
theorem dX10_init_420 : decode cX10_init 420 = .ok (.iastore, 1) := by decide +kernel
theorem dX10_init_421 : decode cX10_init 421 = .ok (.dup, 1) := by decide +kernel
theorem dX10_init_422 : decode cX10_init 422 = .ok (.bipush 57, 2) := by decide +kernel
theorem dX10_init_424 : decode cX10_init 424 = .ok (.bipush 101, 2) := by decide +kernel
theorem dX10_init_426 : decode cX10_init 426 = .ok (.iastore, 1) := by decide +kernel
theorem dX10_init_427 : decode cX10_init 427 = .ok (.dup, 1) := by decide +kernel
theorem dX10_init_428 : decode cX10_init 428 = .ok (.bipush 58, 2) := by decide +kernel
theorem dX10_init_430 : decode cX10_init 430 = .ok (.bipush 32, 2) := by decide +kernel
theorem dX10_init_432 : decode cX10_init 432 = .ok (.iastore, 1) := by decide +kernel
theorem dX10_init_433 : decode cX10_init 433 = .ok (.dup, 1) := by decide +kernel
theorem dX10_init_434 : decode cX10_init 434 = .ok (.bipush 59, 2) := by decide +kernel
theorem dX10_init_436 : decode cX10_init 436 = .ok (.bipush 99, 2) := by decide +kernel
theorem dX10_init_438 : decode cX10_init 438 = .ok (.iastore, 1) := by decide +kernel
theorem dX10_init_439 : decode cX10_init 439 = .ok (.dup, 1) := by decide +kernel
theorem dX10_init_440 : decode cX10_init 440 = .ok (.bipush 60, 2) := by decide +kernel
theorem dX10_init_442 : decode cX10_init 442 = .ok (.bipush 97, 2) := by decide +kernel
theorem dX10_init_444 : decode cX10_init 444 = .ok (.iastore, 1) := by decide +kernel
theorem dX10_init_445 : decode cX10_init 445 = .ok (.dup, 1) := by decide +kernel
theorem dX10_init_446 : decode cX10_init 446 = .ok (.bipush 61, 2) := by decide +kernel
theorem dX10_init_448 : decode cX10_init 448 = .ok (.bipush 114, 2) := by decide +kernel
theorem dX10_init_450 : decode cX10_init 450 = .ok (.iastore, 1) := by decide +kernel
theorem dX10_init_451 : decode cX10_init 451 = .ok (.dup, 1) := by decide +kernel
theorem dX10_init_452 : decode cX10_init 452 = .ok (.bipush 62, 2) := by decide +kernel
theorem dX10_init_454 : decode cX10_init 454 = .ok (.bipush 101, 2) := by decide +kernel
theorem dX10_init_456 : decode cX10_init 456 = .ok (.iastore, 1) := by decide +kernel
theorem dX10_init_457 : decode cX10_init 457 = .ok (.dup, 1) := by decide +kernel
theorem dX10_init_458 : decode cX10_init 458 = .ok (.bipush 63, 2) := by decide +kernel
theorem dX10_init_460 : decode cX10_init 460 = .ok (.bipush 32, 2) := by decide +kernel
theorem dX10_init_462 : decode cX10_init 462 = .ok (.iastore, 1) := by decide +kernel
theorem dX10_init_463 : decode cX10_init 463 = .ok (.dup, 1) := by decide +kernel
theorem dX10_init_464 : decode cX10_init 464 = .ok (.bipush 64, 2) := by decide +kernel
theorem dX10_init_466 : decode cX10_init 466 = .ok (.bipush 119, 2) := by decide +kernel
theorem dX10_init_468 : decode cX10_init 468 = .ok (.iastore, 1) := by decide +kernel
theorem dX10_init_469 : decode cX10_init 469 = .ok (.dup, 1) := by decide +kernel
theorem dX10_init_470 : decode cX10_init 470 = .ok (.bipush 65, 2) := by decide +kernel
theorem dX10_init_472 : decode cX10_init 472 = .ok (.bipush 101, 2) := by decide +kernel
theorem dX10_init_474 : decode cX10_init 474 = .ok (.iastore, 1) := by decide +kernel
theorem dX10_init_475 : decode cX10_init 475 = .ok (.dup, 1) := by decide +kernel
theorem dX10_init_476 : decode cX10_init 476 = .ok (.bipush 66, 2) := by decide +kernel
theorem dX10_init_478 : decode cX10_init 478 = .ok (.bipush 97, 2) := by decide +kernel
theorem dX10_init_480 : decode cX10_init 480 = .ok (.iastore, 1) := by decide +kernel
theorem dX10_init_481 : decode cX10_init 481 = .ok (.dup, 1) := by decide +kernel
theorem dX10_init_482 : decode cX10_init 482 = .ok (.bipush 67, 2) := by decide +kernel
theorem dX10_init_484 : decode cX10_init 484 = .ok (.bipush 114, 2) := by decide +kernel
theorem dX10_init_486 : decode cX10_init 486 = .ok (.iastore, 1) := by decide +kernel
theorem dX10_init_487 : decode cX10_init 487 = .ok (.dup, 1) := by decide +kernel
theorem dX10_init_488 : decode cX10_init 488 = .ok (.bipush 68, 2) := by decide +kernel
theorem dX10_init_490 : decode cX10_init 490 = .ok (.bipush 32, 2) := by decide +kernel
theorem dX10_init_492 : decode cX10_init 492 = .ok (.iastore, 1) := by decide +kernel
theorem dX10_init_493 : decode cX10_init 493 = .ok (.dup, 1) := by decide +kernel
theorem dX10_init_494 : decode cX10_init 494 = .ok (.bipush 69, 2) := by decide +kernel
theorem dX10_init_496 : decode cX10_init 496 = .ok (.bipush 108, 2) := by decide +kernel
theorem dX10_init_498 : decode cX10_init 498 = .ok (.iastore, 1) := by decide +kernel
theorem dX10_init_499 : decode cX10_init 499 = .ok (.dup, 1) := by decide +kernel
theorem dX10_init_500 : decode cX10_init 500 = .ok (.bipush 70, 2) := by decide +kernel
theorem dX10_init_502 : decode cX10_init 502 = .ok (.bipush 105, 2) := by decide +kernel
theorem dX10_init_504 : decode cX10_init 504 = .ok (.iastore, 1) := by decide +kernel
theorem dX10_init_505 : decode cX10_init 505 = .ok (.dup, 1) := by decide +kernel
theorem dX10_init_506 : decode cX10_init 506 = .ok (.bipush 71, 2) := by decide +kernel
theorem dX10_init_508 : decode cX10_init 508 = .ok (.bipush 110, 2) := by decide +kernel
theorem dX10_init_510 : decode cX10_init 510 = .ok (.iastore, 1) := by decide +kernel
theorem dX10_init_511 : decode cX10_init 511 = .ok (.dup, 1) := by decide +kernel
theorem dX10_init_512 : decode cX10_init 512 = .ok (.bipush 72, 2) := by decide +kernel
theorem dX10_init_514 : decode cX10_init 514 = .ok (.bipush 101, 2) := by decide +kernel
theorem dX10_init_516 : decode cX10_init 516 = .ok (.iastore, 1) := by decide +kernel
theorem dX10_init_517 : decode cX10_init 517 = .ok (.dup, 1) := by decide +kernel
theorem dX10_init_518 : decode cX10_init 518 = .ok (.bipush 73, 2) := by decide +kernel
theorem dX10_init_520 : decode cX10_init 520 = .ok (.bipush 32, 2) := by decide +kernel
theorem dX10_init_522 : decode cX10_init 522 = .ok (.iastore, 1) := by decide +kernel
theorem dX10_init_523 : decode cX10_init 523 = .ok (.dup, 1) := by decide +kernel
theorem dX10_init_524 : decode cX10_init 524 = .ok (.bipush 74, 2) := by decide +kernel
theorem dX10_init_526 : decode cX10_init 526 = .ok (.bipush 115, 2) := by decide +kernel
theorem dX10_init_528 : decode cX10_init 528 = .ok (.iastore, 1) := by decide +kernel
theorem dX10_init_529 : decode cX10_init 529 = .ok (.dup, 1) := by decide +kernel
theorem dX10_init_530 : decode cX10_init 530 = .ok (.bipush 75, 2) := by decide +kernel
theorem dX10_init_532 : decode cX10_init 532 = .ok (.bipush 105, 2) := by decide +kernel
theorem dX10_init_534 : decode cX10_init 534 = .ok (.iastore, 1) := by decide +kernel
theorem dX10_init_535 : decode cX10_init 535 = .ok (.dup, 1) := by decide +kernel
theorem dX10_init_536 : decode cX10_init 536 = .ok (.bipush 76, 2) := by decide +kernel
theorem dX10_init_538 : decode cX10_init 538 = .ok (.bipush 100, 2) := by decide +kernel
theorem dX10_init_540 : decode cX10_init 540 = .ok (.iastore, 1) := by decide +kernel
theorem dX10_init_541 : decode cX10_init 541 = .ok (.dup, 1) := by decide +kernel
theorem dX10_init_542 : decode cX10_init 542 = .ok (.bipush 77, 2) := by decide +kernel
theorem dX10_init_544 : decode cX10_init 544 = .ok (.bipush 101, 2) := by decide +kernel
theorem dX10_init_546 : decode cX10_init 546 = .ok (.iastore, 1) := by decide +kernel
theorem dX10_init_547 : decode cX10_init 547 = .ok (.dup, 1) := by decide +kernel
theorem dX10_init_548 : decode cX10_init 548 = .ok (.bipush 78, 2) := by decide +kernel
theorem dX10_init_550 : decode cX10_init 550 = .ok (.bipush 32, 2) := by decide +kernel
theorem dX10_init_552 : decode cX10_init 552 = .ok (.iastore, 1) := by decide +kernel
theorem dX10_init_553 : decode cX10_init 553 = .ok (.dup, 1) := by decide +kernel
theorem dX10_init_554 : decode cX10_init 554 = .ok (.bipush 79, 2) := by decide +kernel
theorem dX10_init_556 : decode cX10_init 556 = .ok (.bipush 100, 2) := by decide +kernel
theorem dX10_init_558 : decode cX10_init 558 = .ok (.iastore, 1) := by decide +kernel
theorem dX10_init_559 : decode cX10_init 559 = .ok (.dup, 1) := by decide +kernel
theorem dX10_init_560 : decode cX10_init 560 = .ok (.bipush 80, 2) := by decide +kernel
theorem dX10_init_562 : decode cX10_init 562 = .ok (.bipush 111, 2) := by decide +kernel
theorem dX10_init_564 : decode cX10_init 564 = .ok (.iastore, 1) := by decide +kernel
theorem dX10_init_565 : decode cX10_init 565 = .ok (.dup, 1) := by decide +kernel
theorem dX10_init_566 : decode cX10_init 566 = .ok (.bipush 81, 2) := by decide +kernel
theorem dX10_init_568 : decode cX10_init 568 = .ok (.bipush 110, 2) := by decide +kernel
theorem dX10_init_570 : decode cX10_init 570 = .ok (.iastore, 1) := by decide +kernel
theorem dX10_init_571 : decode cX10_init 571 = .ok (.dup, 1) := by decide +kernel
theorem dX10_init_572 : decode cX10_init 572 = .ok (.bipush 82, 2) := by decide +kernel
theorem dX10_init_574 : decode cX10_init 574 = .ok (.bipush 101, 2) := by decide +kernel
theorem dX10_init_576 : decode cX10_init 576 = .ok (.iastore, 1) := by decide +kernel
theorem dX10_init_577 : decode cX10_init 577 = .ok (.dup, 1) := by decide +kernel
theorem dX10_init_578 : decode cX10_init 578 = .ok (.bipush 83, 2) := by decide +kernel
theorem dX10_init_580 : decode cX10_init 580 = .ok (.bipush 32, 2) := by decide +kernel
theorem dX10_init_582 : decode cX10_init 582 = .ok (.iastore, 1) := by decide +kernel
theorem dX10_init_583 : decode cX10_init 583 = .ok (.dup, 1) := by decide +kernel
theorem dX10_init_584 : decode cX10_init 584 = .ok (.bipush 84, 2) := by decide +kernel
theorem dX10_init_586 : decode cX10_init 586 = .ok (.bipush 100, 2) := by decide +kernel
theorem dX10_init_588 : decode cX10_init 588 = .ok (.iastore, 1) := by decide +kernel
theorem dX10_init_589 : decode cX10_init 589 = .ok (.dup, 1) := by decide +kernel
theorem dX10_init_590 : decode cX10_init 590 = .ok (.bipush 85, 2) := by decide +kernel
theorem dX10_init_592 : decode cX10_init 592 = .ok (.bipush 97, 2) := by decide +kernel
theorem dX10_init_594 : decode cX10_init 594 = .ok (.iastore, 1) := by decide +kernel
theorem dX10_init_595 : decode cX10_init 595 = .ok (.dup, 1) := by decide +kernel
theorem dX10_init_596 : decode cX10_init 596 = .ok (.bipush 86, 2) := by decide +kernel
theorem dX10_init_598 : decode cX10_init 598 = .ok (.bipush 121, 2) := by decide +kernel
theorem dX10_init_600 : decode cX10_init 600 = .ok (.iastore, 1) := by decide +kernel
theorem dX10_init_601 : decode cX10_init 601 = .ok (.dup, 1) := by decide +kernel
theorem dX10_init_602 : decode cX10_init 602 = .ok (.bipush 87, 2) := by decide +kernel
theorem dX10_init_604 : decode cX10_init 604 = .ok (.bipush 32, 2) := by decide +kernel
theorem dX10_init_606 : decode cX10_init 606 = .ok (.iastore, 1) := by decide +kernel
theorem dX10_init_607 : decode cX10_init 607 = .ok (.dup, 1) := by decide +kernel
theorem dX10_init_608 : decode cX10_init 608 = .ok (.bipush 88, 2) := by decide +kernel
theorem dX10_init_610 : decode cX10_init 610 = .ok (.bipush 111, 2) := by decide +kernel
theorem dX10_init_612 : decode cX10_init 612 = .ok (.iastore, 1) := by decide +kernel
theorem dX10_init_613 : decode cX10_init 613 = .ok (.dup, 1) := by decide +kernel
theorem dX10_init_614 : decode cX10_init 614 = .ok (.bipush 89, 2) := by decide +kernel
theorem dX10_init_616 : decode cX10_init 616 = .ok (.bipush 110, 2) := by decide +kernel
theorem dX10_init_618 : decode cX10_init 618 = .ok (.iastore, 1) := by decide +kernel
theorem dX10_init_619 : decode cX10_init 619 = .ok (.dup, 1) := by decide +kernel
theorem dX10_init_620 : decode cX10_init 620 = .ok (.bipush 90, 2) := by decide +kernel
theorem dX10_init_622 : decode cX10_init 622 = .ok (.bipush 32, 2) := by decide +kernel
theorem dX10_init_624 : decode cX10_init 624 = .ok (.iastore, 1) := by decide +kernel
theorem dX10_init_625 : decode cX10_init 625 = .ok (.dup, 1) := by decide +kernel
theorem dX10_init_626 : decode cX10_init 626 = .ok (.bipush 91, 2) := by decide +kernel
theorem dX10_init_628 : decode cX10_init 628 = .ok (.bipush 109, 2) := by decide +kernel
theorem dX10_init_630 : decode cX10_init 630 = .ok (.iastore, 1) := by decide +kernel
theorem dX10_init_631 : decode cX10_init 631 = .ok (.dup, 1) := by decide +kernel
theorem dX10_init_632 : decode cX10_init 632 = .ok (.bipush 92, 2) := by decide +kernel
theorem dX10_init_634 : decode cX10_init 634 = .ok (.bipush 97, 2) := by decide +kernel
theorem dX10_init_636 : decode cX10_init 636 = .ok (.iastore, 1) := by decide +kernel
theorem dX10_init_637 : decode cX10_init 637 = .ok (.dup, 1) := by decide +kernel
theorem dX10_init_638 : decode cX10_init 638 = .ok (.bipush 93, 2) := by decide +kernel
theorem dX10_init_640 : decode cX10_init 640 = .ok (.bipush 114, 2) := by decide +kernel
theorem dX10_init_642 : decode cX10_init 642 = .ok (.iastore, 1) := by decide +kernel
theorem dX10_init_643 : decode cX10_init 643 = .ok (.dup, 1) := by decide +kernel
theorem dX10_init_644 : decode cX10_init 644 = .ok (.bipush 94, 2) := by decide +kernel
theorem dX10_init_646 : decode cX10_init 646 = .ok (.bipush 99, 2) := by decide +kernel
theorem dX10_init_648 : decode cX10_init 648 = .ok (.iastore, 1) := by decide +kernel
theorem dX10_init_649 : decode cX10_init 649 = .ok (.dup, 1) := by decide +kernel
theorem dX10_init_650 : decode cX10_init 650 = .ok (.bipush 95, 2) := by decide +kernel
theorem dX10_init_652 : decode cX10_init 652 = .ok (.bipush 104, 2) := by decide +kernel
theorem dX10_init_654 : decode cX10_init 654 = .ok (.iastore, 1) := by decide +kernel
theorem dX10_init_655 : decode cX10_init 655 = .ok (.dup, 1) := by decide +kernel
theorem dX10_init_656 : decode cX10_init 656 = .ok (.bipush 96, 2) := by decide +kernel
theorem dX10_init_658 : decode cX10_init 658 = .ok (.bipush 32, 2) := by decide +kernel
theorem dX10_init_660 : decode cX10_init 660 = .ok (.iastore, 1) := by decide +kernel
theorem dX10_init_661 : decode cX10_init 661 = .ok (.dup, 1) := by decide +kernel
theorem dX10_init_662 : decode cX10_init 662 = .ok (.bipush 97, 2) := by decide +kernel
theorem dX10_init_664 : decode cX10_init 664 = .ok (.bipush 115, 2) := by decide +kernel
theorem dX10_init_666 : decode cX10_init 666 = .ok (.iastore, 1) := by decide +kernel
theorem dX10_init_667 : decode cX10_init 667 = .ok (.dup, 1) := by decide +kernel
theorem dX10_init_668 : decode cX10_init 668 = .ok (.bipush 98, 2) := by decide +kernel
theorem dX10_init_670 : decode cX10_init 670 = .ok (.bipush 111, 2) := by decide +kernel
theorem dX10_init_672 : decode cX10_init 672 = .ok (.iastore, 1) := by decide +kernel
theorem dX10_init_673 : decode cX10_init 673 = .ok (.dup, 1) := by decide +kernel
theorem dX10_init_674 : decode cX10_init 674 = .ok (.bipush 99, 2) := by decide +kernel
theorem dX10_init_676 : decode cX10_init 676 = .ok (.bipush 108, 2) := by decide +kernel
theorem dX10_init_678 : decode cX10_init 678 = .ok (.iastore, 1) := by decide +kernel
theorem dX10_init_679 : decode cX10_init 679 = .ok (.dup, 1) := by decide +kernel
theorem dX10_init_680 : decode cX10_init 680 = .ok (.bipush 100, 2) := by decide +kernel
theorem dX10_init_682 : decode cX10_init 682 = .ok (.bipush 101, 2) := by decide +kernel
theorem dX10_init_684 : decode cX10_init 684 = .ok (.iastore, 1) := by decide +kernel
theorem dX10_init_685 : decode cX10_init 685 = .ok (.dup, 1) := by decide +kernel
theorem dX10_init_686 : decode cX10_init 686 = .ok (.bipush 101, 2) := by decide +kernel
theorem dX10_init_688 : decode cX10_init 688 = .ok (.bipush 32, 2) := by decide +kernel
theorem dX10_init_690 : decode cX10_init 690 = .ok (.iastore, 1) := by decide +kernel
theorem dX10_init_691 : decode cX10_init 691 = .ok (.dup, 1) := by decide +kernel
theorem dX10_init_692 : decode cX10_init 692 = .ok (.bipush 102, 2) := by decide +kernel
theorem dX10_init_694 : decode cX10_init 694 = .ok (.bipush 110, 2) := by decide +kernel
theorem dX10_init_696 : decode cX10_init 696 = .ok (.iastore, 1) := by decide +kernel
theorem dX10_init_697 : decode cX10_init 697 = .ok (.dup, 1) := by decide +kernel
theorem dX10_init_698 : decode cX10_init 698 = .ok (.bipush 103, 2) := by decide +kernel
theorem dX10_init_700 : decode cX10_init 700 = .ok (.bipush 101, 2) := by decide +kernel
theorem dX10_init_702 : decode cX10_init 702 = .ok (.iastore, 1) := by decide +kernel
theorem dX10_init_703 : decode cX10_init 703 = .ok (.dup, 1) := by decide +kernel
theorem dX10_init_704 : decode cX10_init 704 = .ok (.bipush 104, 2) := by decide +kernel
theorem dX10_init_706 : decode cX10_init 706 = .ok (.bipush 119, 2) := by decide +kernel
theorem dX10_init_708 : decode cX10_init 708 = .ok (.iastore, 1) := by decide +kernel
theorem dX10_init_709 : decode cX10_init 709 = .ok (.dup, 1) := by decide +kernel
theorem dX10_init_710 : decode cX10_init 710 = .ok (.bipush 105, 2) := by decide +kernel
theorem dX10_init_712 : decode cX10_init 712 = .ok (.bipush 32, 2) := by decide +kernel
theorem dX10_init_714 : decode cX10_init 714 = .ok (.iastore, 1) := by decide +kernel
theorem dX10_init_715 : decode cX10_init 715 = .ok (.dup, 1) := by decide +kernel
theorem dX10_init_716 : decode cX10_init 716 = .ok (.bipush 106, 2) := by decide +kernel
theorem dX10_init_718 : decode cX10_init 718 = .ok (.bipush 116, 2) := by decide +kernel
theorem dX10_init_720 : decode cX10_init 720 = .ok (.iastore, 1) := by decide +kernel
theorem dX10_init_721 : decode cX10_init 721 = .ok (.dup, 1) := by decide +kernel
theorem dX10_init_722 : decode cX10_init 722 = .ok (.bipush 107, 2) := by decide +kernel
theorem dX10_init_724 : decode cX10_init 724 = .ok (.bipush 114, 2) := by decide +kernel
theorem dX10_init_726 : decode cX10_init 726 = .ok (.iastore, 1) := by decide +kernel
theorem dX10_init_727 : decode cX10_init 727 = .ok (.dup, 1) := by decide +kernel
theorem dX10_init_728 : decode cX10_init 728 = .ok (.bipush 108, 2) := by decide +kernel
theorem dX10_init_730 : decode cX10_init 730 = .ok (.bipush 117, 2) := by decide +kernel
theorem dX10_init_732 : decode cX10_init 732 = .ok (.iastore, 1) := by decide +kernel
theorem dX10_init_733 : decode cX10_init 733 = .ok (.dup, 1) := by decide +kernel
theorem dX10_init_734 : decode cX10_init 734 = .ok (.bipush 109, 2) := by decide +kernel
theorem dX10_init_736 : decode cX10_init 736 = .ok (.bipush 99, 2) := by decide +kernel
theorem dX10_init_738 : decode cX10_init 738 = .ok (.iastore, 1) := by decide +kernel
theorem dX10_init_739 : decode cX10_init 739 = .ok (.dup, 1) := by decide +kernel
theorem dX10_init_740 : decode cX10_init 740 = .ok (.bipush 110, 2) := by decide +kernel
theorem dX10_init_742 : decode cX10_init 742 = .ok (.bipush 101, 2) := by decide +kernel
theorem dX10_init_744 : decode cX10_init 744 = .ok (.iastore, 1) := by decide +kernel
theorem dX10_init_745 : decode cX10_init 745 = .ok (.dup, 1) := by decide +kernel
theorem dX10_init_746 : decode cX10_init 746 = .ok (.bipush 111, 2) := by decide +kernel
theorem dX10_init_748 : decode cX10_init 748 = .ok (.bipush 32, 2) := by decide +kernel
theorem dX10_init_750 : decode cX10_init 750 = .ok (.iastore, 1) := by decide +kernel
theorem dX10_init_751 : decode cX10_init 751 = .ok (.dup, 1) := by decide +kernel
theorem dX10_init_752 : decode cX10_init 752 = .ok (.bipush 112, 2) := by decide +kernel
theorem dX10_init_754 : decode cX10_init 754 = .ok (.bipush 111, 2) := by decide +kernel
theorem dX10_init_756 : decode cX10_init 756 = .ok (.iastore, 1) := by decide +kernel
theorem dX10_init_757 : decode cX10_init 757 = .ok (.dup, 1) := by decide +kernel
theorem dX10_init_758 : decode cX10_init 758 = .ok (.bipush 113, 2) := by decide +kernel
theorem dX10_init_760 : decode cX10_init 760 = .ok (.bipush 102, 2) := by decide +kernel
theorem dX10_init_762 : decode cX10_init 762 = .ok (.iastore, 1) := by decide +kernel
theorem dX10_init_763 : decode cX10_init 763 = .ok (.dup, 1) := by decide +kernel
theorem dX10_init_764 : decode cX10_init 764 = .ok (.bipush 114, 2) := by decide +kernel
theorem dX10_init_766 : decode cX10_init 766 = .ok (.bipush 102, 2) := by decide +kernel
theorem dX10_init_768 : decode cX10_init 768 = .ok (.iastore, 1) := by decide +kernel
theorem dX10_init_769 : decode cX10_init 769 = .ok (.dup, 1) := by decide +kernel
theorem dX10_init_770 : decode cX10_init 770 = .ok (.bipush 115, 2) := by decide +kernel
theorem dX10_init_772 : decode cX10_init 772 = .ok (.bipush 105, 2) := by decide +kernel
theorem dX10_init_774 : decode cX10_init 774 = .ok (.iastore, 1) := by decide +kernel
theorem dX10_init_775 : decode cX10_init 775 = .ok (.dup, 1) := by decide +kernel
theorem dX10_init_776 : decode cX10_init 776 = .ok (.bipush 116, 2) := by decide +kernel
theorem dX10_init_778 : decode cX10_init 778 = .ok (.bipush 99, 2) := by decide +kernel
theorem dX10_init_780 : decode cX10_init 780 = .ok (.iastore, 1) := by decide +kernel
theorem dX10_init_781 : decode cX10_init 781 = .ok (.dup, 1) := by decide +kernel
theorem dX10_init_782 : decode cX10_init 782 = .ok (.bipush 117, 2) := by decide +kernel
theorem dX10_init_784 : decode cX10_init 784 = .ok (.bipush 101, 2) := by decide +kernel
theorem dX10_init_786 : decode cX10_init 786 = .ok (.iastore, 1) := by decide +kernel
theorem dX10_init_787 : decode cX10_init 787 = .ok (.dup, 1) := by decide +kernel
theorem dX10_init_788 : decode cX10_init 788 = .ok (.bipush 118, 2) := by decide +kernel
theorem dX10_init_790 : decode cX10_init 790 = .ok (.bipush 114, 2) := by decide +kernel
theorem dX10_init_792 : decode cX10_init 792 = .ok (.iastore, 1) := by decide +kernel
theorem dX10_init_793 : decode cX10_init 793 = .ok (.dup, 1) := by decide +kernel
theorem dX10_init_794 : decode cX10_init 794 = .ok (.bipush 119, 2) := by decide +kernel
theorem dX10_init_796 : decode cX10_init 796 = .ok (.bipush 32, 2) := by decide +kernel
theorem dX10_init_798 : decode cX10_init 798 = .ok (.iastore, 1) := by decide +kernel
theorem dX10_init_799 : decode cX10_init 799 = .ok (.dup, 1) := by decide +kernel
theorem dX10_init_800 : decode cX10_init 800 = .ok (.bipush 120, 2) := by decide +kernel
theorem dX10_init_802 : decode cX10_init 802 = .ok (.bipush 98, 2) := by decide +kernel
theorem dX10_init_804 : decode cX10_init 804 = .ok (.iastore, 1) := by decide +kernel
theorem dX10_init_805 : decode cX10_init 805 = .ok (.dup, 1) := by decide +kernel
theorem dX10_init_806 : decode cX10_init 806 = .ok (.bipush 121, 2) := by decide +kernel
theorem dX10_init_808 : decode cX10_init 808 = .ok (.bipush 97, 2) := by decide +kernel
theorem dX10_init_810 : decode cX10_init 810 = .ok (.iastore, 1) := by decide +kernel
theorem dX10_init_811 : decode cX10_init 811 = .ok (.dup, 1) := by decide +kernel
theorem dX10_init_812 : decode cX10_init 812 = .ok (.bipush 122, 2) := by decide +kernel
theorem dX10_init_814 : decode cX10_init 814 = .ok (.bipush 116, 2) := by decide +kernel
theorem dX10_init_816 : decode cX10_init 816 = .ok (.iastore, 1) := by decide +kernel
theorem dX10_init_817 : decode cX10_init 817 = .ok (.dup, 1) := by decide +kernel
theorem dX10_init_818 : decode cX10_init 818 = .ok (.bipush 123, 2) := by decide +kernel
theorem dX10_init_820 : decode cX10_init 820 = .ok (.bipush 109, 2) := by decide +kernel
theorem dX10_init_822 : decode cX10_init 822 = .ok (.iastore, 1) := by decide +kernel
theorem dX10_init_823 : decode cX10_init 823 = .ok (.dup, 1) := by decide +kernel
theorem dX10_init_824 : decode cX10_init 824 = .ok (.bipush 124, 2) := by decide +kernel
theorem dX10_init_826 : decode cX10_init 826 = .ok (.bipush 97, 2) := by decide +kernel
theorem dX10_init_828 : decode cX10_init 828 = .ok (.iastore, 1) := by decide +kernel
theorem dX10_init_829 : decode cX10_init 829 = .ok (.dup, 1) := by decide +kernel
theorem dX10_init_830 : decode cX10_init 830 = .ok (.bipush 125, 2) := by decide +kernel
theorem dX10_init_832 : decode cX10_init 832 = .ok (.bipush 110, 2) := by decide +kernel
theorem dX10_init_834 : decode cX10_init 834 = .ok (.iastore, 1) := by decide +kernel
theorem dX10_init_835 : decode cX10_init 835 = .ok (.dup, 1) := by decide +kernel
theorem dX10_init_836 : decode cX10_init 836 = .ok (.bipush 126, 2) := by decide +kernel
theorem dX10_init_838 : decode cX10_init 838 = .ok (.bipush 32, 2) := by decide +kernel
theorem dX10_init_840 : decode cX10_init 840 = .ok (.iastore, 1) := by decide +kernel
theorem dX10_init_841 : decode cX10_init 841 = .ok (.dup, 1) := by decide +kernel
theorem dX10_init_842 : decode cX10_init 842 = .ok (.bipush 127, 2) := by decide +kernel
theorem dX10_init_844 : decode cX10_init 844 = .ok (.bipush 110, 2) := by decide +kernel
theorem dX10_init_846 : decode cX10_init 846 = .ok (.iastore, 1) := by decide +kernel
theorem dX10_init_847 : decode cX10_init 847 = .ok (.dup, 1) := by decide +kernel
theorem dX10_init_848 : decode cX10_init 848 = .ok (.sipush 128, 3) := by decide +kernel
theorem dX10_init_851 : decode cX10_init 851 = .ok (.bipush 101, 2) := by decide +kernel
theorem dX10_init_853 : decode cX10_init 853 = .ok (.iastore, 1) := by decide +kernel
theorem dX10_init_854 : decode cX10_init 854 = .ok (.dup, 1) := by decide +kernel
theorem dX10_init_855 : decode cX10_init 855 = .ok (.sipush 129, 3) := by decide +kernel
theorem dX10_init_858 : decode cX10_init 858 = .ok (.bipush 101, 2) := by decide +kernel
theorem dX10_init_860 : decode cX10_init 860 = .ok (.iastore, 1) := by decide +kernel
theorem dX10_init_861 : decode cX10_init 861 = .ok (.dup, 1) := by decide +kernel
theorem dX10_init_862 : decode cX10_init 862 = .ok (.sipush 130, 3) := by decide +kernel
theorem dX10_init_865 : decode cX10_init 865 = .ok (.bipush 100, 2) := by decide +kernel
theorem dX10_init_867 : decode cX10_init 867 = .ok (.iastore, 1) := by decide +kernel
theorem dX10_init_868 : decode cX10_init 868 = .ok (.dup, 1) := by decide +kernel
theorem dX10_init_869 : decode cX10_init 869 = .ok (.sipush 131, 3) := by decide +kernel
theorem dX10_init_872 : decode cX10_init 872 = .ok (.bipush 115, 2) := by decide +kernel
theorem dX10_init_874 : decode cX10_init 874 = .ok (.iastore, 1) := by decide +kernel
theorem dX10_init_875 : decode cX10_init 875 = .ok (.dup, 1) := by decide +kernel
theorem dX10_init_876 : decode cX10_init 876 = .ok (.sipush 132, 3) := by decide +kernel
theorem dX10_init_879 : decode cX10_init 879 = .ok (.bipush 32, 2) := by decide +kernel
theorem dX10_init_881 : decode cX10_init 881 = .ok (.iastore, 1) := by decide +kernel
theorem dX10_init_882 : decode cX10_init 882 = .ok (.putfield 37, 3) := by decide +kernel
theorem dX10_init_885 : decode cX10_init 885 = .ok (.aload_n 0, 1) := by decide +kernel
theorem dX10_init_886 : decode cX10_init 886 = .ok (.iconst 2, 1) := by decide +kernel
theorem dX10_init_887 : decode cX10_init 887 = .ok (.newarray .int, 2) := by decide +kernel
theorem dX10_init_889 : decode cX10_init 889 = .ok (.putfield 40, 3) := by decide +kernel
theorem dX10_init_892 : decode cX10_init 892 = .ok (.aload_n 0, 1) := by decide +kernel
theorem dX10_init_893 : decode cX10_init 893 = .ok (.bipush 48, 2) := by decide +kernel
theorem dX10_init_895 : decode cX10_init 895 = .ok (.newarray .int, 2) := by decide +kernel
theorem dX10_init_897 : decode cX10_init 897 = .ok (.putfield 43, 3) := by decide +kernel
theorem dX10_init_900 : decode cX10_init 900 = .ok (.aload_n 0, 1) := by decide +kernel
theorem dX10_init_901 : decode cX10_init 901 = .ok (.bipush 48, 2) := by decide +kernel
theorem dX10_init_903 : decode cX10_init 903 = .ok (.newarray .int, 2) := by decide +kernel
theorem dX10_init_905 : decode cX10_init 905 = .ok (.putfield 46, 3) := by decide +kernel
theorem dX10_init_908 : decode cX10_init 908 = .ok (.aload_n 0, 1) := by decide +kernel
theorem dX10_init_909 : decode cX10_init 909 = .ok (.bipush 48, 2) := by decide +kernel
theorem dX10_init_911 : decode cX10_init 911 = .ok (.newarray .int, 2) := by decide +kernel
theorem dX10_init_913 : decode cX10_init 913 = .ok (.putfield 49, 3) := by decide +kernel
theorem dX10_init_916 : decode cX10_init 916 = .ok (.aload_n 0, 1) := by decide +kernel
theorem dX10_init_917 : decode cX10_init 917 = .ok (.bipush 48, 2) := by decide +kernel
theorem dX10_init_919 : decode cX10_init 919 = .ok (.newarray .int, 2) := by decide +kernel
theorem dX10_init_921 : decode cX10_init 921 = .ok (.putfield 52, 3) := by decide +kernel
theorem dX10_init_924 : decode cX10_init 924 = .ok (.aload_n 0, 1) := by decide +kernel
theorem dX10_init_925 : decode cX10_init 925 = .ok (.sipush 1200, 3) := by decide +kernel
theorem dX10_init_928 : decode cX10_init 928 = .ok (.newarray .int, 2) := by decide +kernel
theorem dX10_init_930 : decode cX10_init 930 = .ok (.putfield 55, 3) := by decide +kernel
theorem dX10_init_933 : decode cX10_init 933 = .ok (.aload_n 0, 1) := by decide +kernel
theorem dX10_init_934 : decode cX10_init 934 = .ok (.sipush 1200, 3) := by decide +kernel
theorem dX10_init_937 : decode cX10_init 937 = .ok (.newarray .int, 2) := by decide +kernel
theorem dX10_init_939 : decode cX10_init 939 = .ok (.putfield 58, 3) := by decide +kernel
theorem dX10_init_942 : decode cX10_init 942 = .ok (.aload_n 0, 1) := by decide +kernel
theorem dX10_init_943 : decode cX10_init 943 = .ok (.bipush 40, 2) := by decide +kernel
theorem dX10_init_945 : decode cX10_init 945 = .ok (.newarray .int, 2) := by decide +kernel
theorem dX10_init_947 : decode cX10_init 947 = .ok (.putfield 61, 3) := by decide +kernel
theorem dX10_init_950 : decode cX10_init 950 = .ok (.aload_n 0, 1) := by decide +kernel
theorem dX10_init_951 : decode cX10_init 951 = .ok (.iconst (-1), 1) := by decide +kernel
theorem dX10_init_952 : decode cX10_init 952 = .ok (.putfield 64, 3) := by decide +kernel
theorem dX10_init_955 : decode cX10_init 955 = .ok (.aload_n 0, 1) := by decide +kernel
theorem dX10_init_956 : decode cX10_init 956 = .ok (.sipush 128, 3) := by decide +kernel
theorem dX10_init_959 : decode cX10_init 959 = .ok (.newarray .int, 2) := by decide +kernel
theorem dX10_init_961 : decode cX10_init 961 = .ok (.putfield 68, 3) := by decide +kernel
theorem dX10_init_964 : decode cX10_init 964 = .ok (.aload_n 0, 1) := by decide +kernel
theorem dX10_init_965 : decode cX10_init 965 = .ok (.bipush 24, 2) := by decide +kernel
theorem dX10_init_967 : decode cX10_init 967 = .ok (.newarray .int, 2) := by decide +kernel
theorem dX10_init_969 : decode cX10_init 969 = .ok (.putfield 71, 3) := by decide +kernel
theorem dX10_init_972 : decode cX10_init 972 = .ok (.aload_n 0, 1) := by decide +kernel
theorem dX10_init_973 : decode cX10_init 973 = .ok (.bipush 24, 2) := by decide +kernel
theorem dX10_init_975 : decode cX10_init 975 = .ok (.newarray .int, 2) := by decide +kernel
theorem dX10_init_977 : decode cX10_init 977 = .ok (.putfield 74, 3) := by decide +kernel
theorem dX10_init_980 : decode cX10_init 980 = .ok (.aload_n 0, 1) := by decide +kernel
theorem dX10_init_981 : decode cX10_init 981 = .ok (.bipush 10, 2) := by decide +kernel
theorem dX10_init_983 : decode cX10_init 983 = .ok (.newarray .int, 2) := by decide +kernel
theorem dX10_init_985 : decode cX10_init 985 = .ok (.putfield 77, 3) := by decide +kernel
theorem dX10_init_988 : decode cX10_init 988 = .ok (.aload_n 0, 1) := by decide +kernel
theorem dX10_init_989 : decode cX10_init 989 = .ok (.sipush 420, 3) := by decide +kernel
theorem dX10_init_992 : decode cX10_init 992 = .ok (.newarray .int, 2) := by decide +kernel
theorem dX10_init_994 : decode cX10_init 994 = .ok (.putfield 80, 3) := by decide +kernel
theorem dX10_init_997 : decode cX10_init 997 = .ok (.aload_n 0, 1) := by decide +kernel
theorem dX10_init_998 : decode cX10_init 998 = .ok (.bipush 8, 2) := by decide +kernel
theorem dX10_init_1000 : decode cX10_init 1000 = .ok (.newarray .int, 2) := by decide +kernel
theorem dX10_init_1002 : decode cX10_init 1002 = .ok (.putfield 83, 3) := by decide +kernel
theorem dX10_init_1005 : decode cX10_init 1005 = .ok (.aload_n 0, 1) := by decide +kernel
theorem dX10_init_1006 : decode cX10_init 1006 = .ok (.bipush 8, 2) := by decide +kernel
theorem dX10_init_1008 : decode cX10_init 1008 = .ok (.newarray .int, 2) := by decide +kernel
theorem dX10_init_1010 : decode cX10_init 1010 = .ok (.putfield 86, 3) := by decide +kernel
theorem dX10_init_1013 : decode cX10_init 1013 = .ok (.aload_n 0, 1) := by decide +kernel
theorem dX10_init_1014 : decode cX10_init 1014 = .ok (.bipush 8, 2) := by decide +kernel
theorem dX10_init_1016 : decode cX10_init 1016 = .ok (.newarray .int, 2) := by decide +kernel
theorem dX10_init_1018 : decode cX10_init 1018 = .ok (.putfield 89, 3) := by decide +kernel
theorem dX10_init_1021 : decode cX10_init 1021 = .ok (.aload_n 0, 1) := by decide +kernel
theorem dX10_init_1022 : decode cX10_init 1022 = .ok (.bipush 10, 2) := by decide +kernel
theorem dX10_init_1024 : decode cX10_init 1024 = .ok (.newarray .int, 2) := by decide +kernel
theorem dX10_init_1026 : decode cX10_init 1026 = .ok (.putfield 92, 3) := by decide +kernel
theorem dX10_init_1029 : decode cX10_init 1029 = .ok (.aload_n 0, 1) := by decide +kernel
theorem dX10_init_1030 : decode cX10_init 1030 = .ok (.bipush 121, 2) := by decide +kernel
theorem dX10_init_1032 : decode cX10_init 1032 = .ok (.newarray .int, 2) := by decide +kernel
theorem dX10_init_1034 : decode cX10_init 1034 = .ok (.putfield 95, 3) := by decide +kernel
theorem dX10_init_1037 : decode cX10_init 1037 = .ok (.aload_n 0, 1) := by decide +kernel
theorem dX10_init_1038 : decode cX10_init 1038 = .ok (.sipush 169, 3) := by decide +kernel
theorem dX10_init_1041 : decode cX10_init 1041 = .ok (.newarray .int, 2) := by decide +kernel
theorem dX10_init_1043 : decode cX10_init 1043 = .ok (.putfield 98, 3) := by decide +kernel
theorem dX10_init_1046 : decode cX10_init 1046 = .ok (.aload_n 0, 1) := by decide +kernel
theorem dX10_init_1047 : decode cX10_init 1047 = .ok (.iconst 2, 1) := by decide +kernel
theorem dX10_init_1048 : decode cX10_init 1048 = .ok (.newarray .int, 2) := by decide +kernel
theorem dX10_init_1050 : decode cX10_init 1050 = .ok (.putfield 101, 3) := by decide +kernel
theorem dX10_init_1053 : decode cX10_init 1053 = .ok (.aload_n 0, 1) := by decide +kernel
theorem dX10_init_1054 : decode cX10_init 1054 = .ok (.bipush 24, 2) := by decide +kernel
theorem dX10_init_1056 : decode cX10_init 1056 = .ok (.newarray .int, 2) := by decide +kernel
theorem dX10_init_1058 : decode cX10_init 1058 = .ok (.putfield 104, 3) := by decide +kernel
theorem dX10_init_1061 : decode cX10_init 1061 = .ok (.aload_n 0, 1) := by decide +kernel
theorem dX10_init_1062 : decode cX10_init 1062 = .ok (.bipush 16, 2) := by decide +kernel
theorem dX10_init_1064 : decode cX10_init 1064 = .ok (.newarray .int, 2) := by decide +kernel
theorem dX10_init_1066 : decode cX10_init 1066 = .ok (.putfield 107, 3) := by decide +kernel
theorem dX10_init_1069 : decode cX10_init 1069 = .ok (.aload_n 0, 1) := by decide +kernel
theorem dX10_init_1070 : decode cX10_init 1070 = .ok (.bipush 16, 2) := by decide +kernel
theorem dX10_init_1072 : decode cX10_init 1072 = .ok (.newarray .int, 2) := by decide +kernel
theorem dX10_init_1074 : decode cX10_init 1074 = .ok (.putfield 110, 3) := by decide +kernel
theorem dX10_init_1077 : decode cX10_init 1077 = .ok (.aload_n 0, 1) := by decide +kernel
theorem dX10_init_1078 : decode cX10_init 1078 = .ok (.bipush 7, 2) := by decide +kernel
theorem dX10_init_1080 : decode cX10_init 1080 = .ok (.newarray .int, 2) := by decide +kernel
theorem dX10_init_1082 : decode cX10_init 1082 = .ok (.putfield 113, 3) := by decide +kernel
theorem dX10_init_1085 : decode cX10_init 1085 = .ok (.aload_n 0, 1) := by decide +kernel
theorem dX10_init_1086 : decode cX10_init 1086 = .ok (.bipush 7, 2) := by decide +kernel
theorem dX10_init_1088 : decode cX10_init 1088 = .ok (.newarray .int, 2) := by decide +kernel
theorem dX10_init_1090 : decode cX10_init 1090 = .ok (.putfield 116, 3) := by decide +kernel
theorem dX10_init_1093 : decode cX10_init 1093 = .ok (.aload_n 0, 1) := by decide +kernel
theorem dX10_init_1094 : decode cX10_init 1094 = .ok (.bipush 8, 2) := by decide +kernel
theorem dX10_init_1096 : decode cX10_init 1096 = .ok (.newarray .int, 2) := by decide +kernel
theorem dX10_init_1098 : decode cX10_init 1098 = .ok (.putfield 119, 3) := by decide +kernel
theorem dX10_init_1101 : decode cX10_init 1101 = .ok (.aload_n 0, 1) := by decide +kernel
theorem dX10_init_1102 : decode cX10_init 1102 = .ok (.bipush 8, 2) := by decide +kernel
theorem dX10_init_1104 : decode cX10_init 1104 = .ok (.newarray .int, 2) := by decide +kernel
theorem dX10_init_1106 : decode cX10_init 1106 = .ok (.putfield 122, 3) := by decide +kernel
theorem dX10_init_1109 : decode cX10_init 1109 = .ok (.aload_n 0, 1) := by decide +kernel
theorem dX10_init_1110 : decode cX10_init 1110 = .ok (.bipush 121, 2) := by decide +kernel
theorem dX10_init_1112 : decode cX10_init 1112 = .ok (.newarray .int, 2) := by decide +kernel
theorem dX10_init_1114 : decode cX10_init 1114 = .ok (.putfield 125, 3) := by decide +kernel
theorem dX10_init_1117 : decode cX10_init 1117 = .ok (.aload_n 0, 1) := by decide +kernel
theorem dX10_init_1118 : decode cX10_init 1118 = .ok (.sipush 2200, 3) := by decide +kernel
theorem dX10_init_1121 : decode cX10_init 1121 = .ok (.newarray .int, 2) := by decide +kernel
theorem dX10_init_1123 : decode cX10_init 1123 = .ok (.putfield 128, 3) := by decide +kernel
theorem dX10_init_1126 : decode cX10_init 1126 = .ok (.return_, 1) := by decide +kernel
theorem dX10_isIn_0 : decode cX10_isIn 0 = .ok (.iload_n 1, 1) := by decide +kernel
theorem dX10_isIn_1 : decode cX10_isIn 1 = .ok (.iload_n 2, 1) := by decide +kernel
theorem dX10_isIn_2 : decode cX10_isIn 2 = .ok (.if_icmp .lt 12, 3) := by decide +kernel
theorem dX10_isIn_5 : decode cX10_isIn 5 = .ok (.iload_n 1, 1) := by decide +kernel
theorem dX10_isIn_6 : decode cX10_isIn 6 = .ok (.iload_n 3, 1) := by decide +kernel
theorem dX10_isIn_7 : decode cX10_isIn 7 = .ok (.if_icmp .gt 7, 3) := by decide +kernel
theorem dX10_isIn_10 : decode cX10_isIn 10 = .ok (.iconst 1, 1) := by decide +kernel
theorem dX10_isIn_11 : decode cX10_isIn 11 = .ok (.goto 4, 3) := by decide +kernel
theorem dX10_isIn_14 : decode cX10_isIn 14 = .ok (.iconst 0, 1) := by decide +kernel
theorem dX10_isIn_15 : decode cX10_isIn 15 = .ok (.ireturn, 1) := by decide +kernel
theorem dX10_held_0 : decode cX10_held 0 = .ok (.iload_n 1, 1) := by decide +kernel
theorem dX10_held_1 : decode cX10_held 1 = .ok (.iload_n 2, 1) := by decide +kernel
theorem dX10_held_2 : decode cX10_held 2 = .ok (.if_icmp .ge 7, 3) := by decide +kernel
theorem dX10_held_5 : decode cX10_held 5 = .ok (.iload_n 2, 1) := by decide +kernel
theorem dX10_held_6 : decode cX10_held 6 = .ok (.goto 13, 3) := by decide +kernel
theorem dX10_held_9 : decode cX10_held 9 = .ok (.iload_n 1, 1) := by decide +kernel
theorem dX10_held_10 : decode cX10_held 10 = .ok (.iload_n 3, 1) := by decide +kernel
theorem dX10_held_11 : decode cX10_held 11 = .ok (.if_icmp .le 7, 3) := by decide +kernel
theorem dX10_held_14 : decode cX10_held 14 = .ok (.iload_n 3, 1) := by decide +kernel
theorem dX10_held_15 : decode cX10_held 15 = .ok (.goto 4, 3) := by decide +kernel
theorem dX10_held_18 : decode cX10_held 18 = .ok (.iload_n 1, 1) := by decide +kernel
theorem dX10_held_19 : decode cX10_held 19 = .ok (.ireturn, 1) := by decide +kernel
theorem dX10_greater_0 : decode cX10_greater 0 = .ok (.iload_n 1, 1) := by decide +kernel
theorem dX10_greater_1 : decode cX10_greater 1 = .ok (.iload_n 2, 1) := by decide +kernel
theorem dX10_greater_2 : decode cX10_greater 2 = .ok (.if_icmp .le 7, 3) := by decide +kernel
theorem dX10_greater_5 : decode cX10_greater 5 = .ok (.iload_n 1, 1) := by decide +kernel
theorem dX10_greater_6 : decode cX10_greater 6 = .ok (.goto 4, 3) := by decide +kernel
theorem dX10_greater_9 : decode cX10_greater 9 = .ok (.iload_n 2, 1) := by decide +kernel
theorem dX10_greater_10 : decode cX10_greater 10 = .ok (.ireturn, 1) := by decide +kernel
theorem dX10_lesser_0 : decode cX10_lesser 0 = .ok (.iload_n 1, 1) := by decide +kernel
theorem dX10_lesser_1 : decode cX10_lesser 1 = .ok (.iload_n 2, 1) := by decide +kernel
theorem dX10_lesser_2 : decode cX10_lesser 2 = .ok (.if_icmp .ge 7, 3) := by decide +kernel
theorem dX10_lesser_5 : decode cX10_lesser 5 = .ok (.iload_n 1, 1) := by decide +kernel
theorem dX10_lesser_6 : decode cX10_lesser 6 = .ok (.goto 4, 3) := by decide +kernel
theorem dX10_lesser_9 : decode cX10_lesser 9 = .ok (.iload_n 2, 1) := by decide +kernel
theorem dX10_lesser_10 : decode cX10_lesser 10 = .ok (.ireturn, 1) := by decide +kernel
theorem dX10_common_0 : decode cX10_common 0 = .ok (.iload_n 1, 1) := by decide +kernel
theorem dX10_common_1 : decode cX10_common 1 = .ok (.istore_n 3, 1) := by decide +kernel
theorem dX10_common_2 : decode cX10_common 2 = .ok (.iload_n 2, 1) := by decide +kernel
theorem dX10_common_3 : decode cX10_common 3 = .ok (.istore 4, 2) := by decide +kernel
theorem dX10_common_5 : decode cX10_common 5 = .ok (.iload 4, 2) := by decide +kernel
theorem dX10_common_7 : decode cX10_common 7 = .ok (.ifCond .eq 19, 3) := by decide +kernel
theorem dX10_common_10 : decode cX10_common 10 = .ok (.iload_n 3, 1) := by decide +kernel
theorem dX10_common_11 : decode cX10_common 11 = .ok (.iload 4, 2) := by decide +kernel
theorem dX10_common_13 : decode cX10_common 13 = .ok (.irem, 1) := by decide +kernel
theorem dX10_common_14 : decode cX10_common 14 = .ok (.istore 5, 2) := by decide +kernel
theorem dX10_common_16 : decode cX10_common 16 = .ok (.iload 4, 2) := by decide +kernel
theorem dX10_common_18 : decode cX10_common 18 = .ok (.istore_n 3, 1) := by decide +kernel
theorem dX10_common_19 : decode cX10_common 19 = .ok (.iload 5, 2) := by decide +kernel
theorem dX10_common_21 : decode cX10_common 21 = .ok (.istore 4, 2) := by decide +kernel
theorem dX10_common_23 : decode cX10_common 23 = .ok (.goto (-18), 3) := by decide +kernel
theorem dX10_common_26 : decode cX10_common 26 = .ok (.iload_n 3, 1) := by decide +kernel
theorem dX10_common_27 : decode cX10_common 27 = .ok (.ireturn, 1) := by decide +kernel
theorem dX10_has_0 : decode cX10_has 0 = .ok (.iload_n 1, 1) := by decide +kernel
theorem dX10_has_1 : decode cX10_has 1 = .ok (.iload_n 2, 1) := by decide +kernel
theorem dX10_has_2 : decode cX10_has 2 = .ok (.ishr, 1) := by decide +kernel
theorem dX10_has_3 : decode cX10_has 3 = .ok (.iconst 1, 1) := by decide +kernel
theorem dX10_has_4 : decode cX10_has 4 = .ok (.iand, 1) := by decide +kernel
theorem dX10_has_5 : decode cX10_has 5 = .ok (.iconst 1, 1) := by decide +kernel
theorem dX10_has_6 : decode cX10_has 6 = .ok (.if_icmp .ne 7, 3) := by decide +kernel
theorem dX10_has_9 : decode cX10_has 9 = .ok (.iconst 1, 1) := by decide +kernel
theorem dX10_has_10 : decode cX10_has 10 = .ok (.goto 4, 3) := by decide +kernel
theorem dX10_has_13 : decode cX10_has 13 = .ok (.iconst 0, 1) := by decide +kernel
theorem dX10_has_14 : decode cX10_has 14 = .ok (.ireturn, 1) := by decide +kernel
theorem dX10_keepsAhead_0 : decode cX10_keepsAhead 0 = .ok (.aload_n 0, 1) := by decide +kernel
theorem dX10_keepsAhead_1 : decode cX10_keepsAhead 1 = .ok (.getfield 134, 3) := by decide +kernel
theorem dX10_keepsAhead_4 : decode cX10_keepsAhead 4 = .ok (.bipush 6, 2) := by decide +kernel
theorem dX10_keepsAhead_6 : decode cX10_keepsAhead 6 = .ok (.if_icmp .ne 47, 3) := by decide +kernel
theorem dX10_keepsAhead_9 : decode cX10_keepsAhead 9 = .ok (.aload_n 0, 1) := by decide +kernel
theorem dX10_keepsAhead_10 : decode cX10_keepsAhead 10 = .ok (.aload_n 0, 1) := by decide +kernel
theorem dX10_keepsAhead_11 : decode cX10_keepsAhead 11 = .ok (.getfield 134, 3) := by decide +kernel
theorem dX10_keepsAhead_14 : decode cX10_keepsAhead 14 = .ok (.iconst 1, 1) := by decide +kernel
theorem dX10_keepsAhead_15 : decode cX10_keepsAhead 15 = .ok (.isub, 1) := by decide +kernel
theorem dX10_keepsAhead_16 : decode cX10_keepsAhead 16 = .ok (.putfield 134, 3) := by decide +kernel
theorem dX10_keepsAhead_19 : decode cX10_keepsAhead 19 = .ok (.iconst 0, 1) := by decide +kernel
theorem dX10_keepsAhead_20 : decode cX10_keepsAhead 20 = .ok (.istore_n 1, 1) := by decide +kernel
theorem dX10_keepsAhead_21 : decode cX10_keepsAhead 21 = .ok (.iload_n 1, 1) := by decide +kernel
theorem dX10_keepsAhead_22 : decode cX10_keepsAhead 22 = .ok (.bipush 77, 2) := by decide +kernel
theorem dX10_keepsAhead_24 : decode cX10_keepsAhead 24 = .ok (.aload_n 0, 1) := by decide +kernel
theorem dX10_keepsAhead_25 : decode cX10_keepsAhead 25 = .ok (.getfield 134, 3) := by decide +kernel
theorem dX10_keepsAhead_28 : decode cX10_keepsAhead 28 = .ok (.imul, 1) := by decide +kernel
theorem dX10_keepsAhead_29 : decode cX10_keepsAhead 29 = .ok (.if_icmp .ge 24, 3) := by decide +kernel
theorem dX10_keepsAhead_32 : decode cX10_keepsAhead 32 = .ok (.aload_n 0, 1) := by decide +kernel
theorem dX10_keepsAhead_33 : decode cX10_keepsAhead 33 = .ok (.getfield 13, 3) := by decide +kernel
theorem dX10_keepsAhead_36 : decode cX10_keepsAhead 36 = .ok (.iload_n 1, 1) := by decide +kernel
theorem dX10_keepsAhead_37 : decode cX10_keepsAhead 37 = .ok (.aload_n 0, 1) := by decide +kernel
theorem dX10_keepsAhead_38 : decode cX10_keepsAhead 38 = .ok (.getfield 13, 3) := by decide +kernel
theorem dX10_keepsAhead_41 : decode cX10_keepsAhead 41 = .ok (.iload_n 1, 1) := by decide +kernel
theorem dX10_keepsAhead_42 : decode cX10_keepsAhead 42 = .ok (.bipush 77, 2) := by decide +kernel
theorem dX10_keepsAhead_44 : decode cX10_keepsAhead 44 = .ok (.iadd, 1) := by decide +kernel
theorem dX10_keepsAhead_45 : decode cX10_keepsAhead 45 = .ok (.iaload, 1) := by decide +kernel
theorem dX10_keepsAhead_46 : decode cX10_keepsAhead 46 = .ok (.iastore, 1) := by decide +kernel
theorem dX10_keepsAhead_47 : decode cX10_keepsAhead 47 = .ok (.iinc 1 1, 3) := by decide +kernel
theorem dX10_keepsAhead_50 : decode cX10_keepsAhead 50 = .ok (.goto (-29), 3) := by decide +kernel
theorem dX10_keepsAhead_53 : decode cX10_keepsAhead 53 = .ok (.iconst 0, 1) := by decide +kernel
theorem dX10_keepsAhead_54 : decode cX10_keepsAhead 54 = .ok (.istore_n 1, 1) := by decide +kernel
theorem dX10_keepsAhead_55 : decode cX10_keepsAhead 55 = .ok (.iload_n 1, 1) := by decide +kernel
theorem dX10_keepsAhead_56 : decode cX10_keepsAhead 56 = .ok (.bipush 77, 2) := by decide +kernel
theorem dX10_keepsAhead_58 : decode cX10_keepsAhead 58 = .ok (.if_icmp .ge 29, 3) := by decide +kernel
theorem dX10_keepsAhead_61 : decode cX10_keepsAhead 61 = .ok (.aload_n 0, 1) := by decide +kernel
theorem dX10_keepsAhead_62 : decode cX10_keepsAhead 62 = .ok (.getfield 13, 3) := by decide +kernel
theorem dX10_keepsAhead_65 : decode cX10_keepsAhead 65 = .ok (.bipush 77, 2) := by decide +kernel
theorem dX10_keepsAhead_67 : decode cX10_keepsAhead 67 = .ok (.aload_n 0, 1) := by decide +kernel
theorem dX10_keepsAhead_68 : decode cX10_keepsAhead 68 = .ok (.getfield 134, 3) := by decide +kernel
theorem dX10_keepsAhead_71 : decode cX10_keepsAhead 71 = .ok (.imul, 1) := by decide +kernel
theorem dX10_keepsAhead_72 : decode cX10_keepsAhead 72 = .ok (.iload_n 1, 1) := by decide +kernel
theorem dX10_keepsAhead_73 : decode cX10_keepsAhead 73 = .ok (.iadd, 1) := by decide +kernel
theorem dX10_keepsAhead_74 : decode cX10_keepsAhead 74 = .ok (.aload_n 0, 1) := by decide +kernel
theorem dX10_keepsAhead_75 : decode cX10_keepsAhead 75 = .ok (.getfield 7, 3) := by decide +kernel
theorem dX10_keepsAhead_78 : decode cX10_keepsAhead 78 = .ok (.iload_n 1, 1) := by decide +kernel
theorem dX10_keepsAhead_79 : decode cX10_keepsAhead 79 = .ok (.iaload, 1) := by decide +kernel
theorem dX10_keepsAhead_80 : decode cX10_keepsAhead 80 = .ok (.iastore, 1) := by decide +kernel
theorem dX10_keepsAhead_81 : decode cX10_keepsAhead 81 = .ok (.iinc 1 1, 3) := by decide +kernel
theorem dX10_keepsAhead_84 : decode cX10_keepsAhead 84 = .ok (.goto (-29), 3) := by decide +kernel
theorem dX10_keepsAhead_87 : decode cX10_keepsAhead 87 = .ok (.aload_n 0, 1) := by decide +kernel
theorem dX10_keepsAhead_88 : decode cX10_keepsAhead 88 = .ok (.aload_n 0, 1) := by decide +kernel
theorem dX10_keepsAhead_89 : decode cX10_keepsAhead 89 = .ok (.getfield 134, 3) := by decide +kernel
theorem dX10_keepsAhead_92 : decode cX10_keepsAhead 92 = .ok (.iconst 1, 1) := by decide +kernel
theorem dX10_keepsAhead_93 : decode cX10_keepsAhead 93 = .ok (.iadd, 1) := by decide +kernel
theorem dX10_keepsAhead_94 : decode cX10_keepsAhead 94 = .ok (.putfield 134, 3) := by decide +kernel
theorem dX10_keepsAhead_97 : decode cX10_keepsAhead 97 = .ok (.return_, 1) := by decide +kernel
theorem dX10_undo_0 : decode cX10_undo 0 = .ok (.aload_n 0, 1) := by decide +kernel
theorem dX10_undo_1 : decode cX10_undo 1 = .ok (.iconst 0, 1) := by decide +kernel
theorem dX10_undo_2 : decode cX10_undo 2 = .ok (.putfield 131, 3) := by decide +kernel
theorem dX10_undo_5 : decode cX10_undo 5 = .ok (.aload_n 0, 1) := by decide +kernel
theorem dX10_undo_6 : decode cX10_undo 6 = .ok (.getfield 134, 3) := by decide +kernel
theorem dX10_undo_9 : decode cX10_undo 9 = .ok (.ifCond .ne 5, 3) := by decide +kernel
theorem dX10_undo_12 : decode cX10_undo 12 = .ok (.iconst 0, 1) := by decide +kernel
theorem dX10_undo_13 : decode cX10_undo 13 = .ok (.ireturn, 1) := by decide +kernel
theorem dX10_undo_14 : decode cX10_undo 14 = .ok (.aload_n 0, 1) := by decide +kernel
theorem dX10_undo_15 : decode cX10_undo 15 = .ok (.aload_n 0, 1) := by decide +kernel
theorem dX10_undo_16 : decode cX10_undo 16 = .ok (.getfield 134, 3) := by decide +kernel
theorem dX10_undo_19 : decode cX10_undo 19 = .ok (.iconst 1, 1) := by decide +kernel
theorem dX10_undo_20 : decode cX10_undo 20 = .ok (.isub, 1) := by decide +kernel
theorem dX10_undo_21 : decode cX10_undo 21 = .ok (.putfield 134, 3) := by decide +kernel
theorem dX10_undo_24 : decode cX10_undo 24 = .ok (.iconst 0, 1) := by decide +kernel
theorem dX10_undo_25 : decode cX10_undo 25 = .ok (.istore_n 1, 1) := by decide +kernel
theorem dX10_undo_26 : decode cX10_undo 26 = .ok (.iload_n 1, 1) := by decide +kernel
theorem dX10_undo_27 : decode cX10_undo 27 = .ok (.bipush 77, 2) := by decide +kernel
theorem dX10_undo_29 : decode cX10_undo 29 = .ok (.if_icmp .ge 29, 3) := by decide +kernel
theorem dX10_undo_32 : decode cX10_undo 32 = .ok (.aload_n 0, 1) := by decide +kernel
theorem dX10_undo_33 : decode cX10_undo 33 = .ok (.getfield 7, 3) := by decide +kernel
theorem dX10_undo_36 : decode cX10_undo 36 = .ok (.iload_n 1, 1) := by decide +kernel
theorem dX10_undo_37 : decode cX10_undo 37 = .ok (.aload_n 0, 1) := by decide +kernel
theorem dX10_undo_38 : decode cX10_undo 38 = .ok (.getfield 13, 3) := by decide +kernel
theorem dX10_undo_41 : decode cX10_undo 41 = .ok (.bipush 77, 2) := by decide +kernel
theorem dX10_undo_43 : decode cX10_undo 43 = .ok (.aload_n 0, 1) := by decide +kernel
theorem dX10_undo_44 : decode cX10_undo 44 = .ok (.getfield 134, 3) := by decide +kernel
theorem dX10_undo_47 : decode cX10_undo 47 = .ok (.imul, 1) := by decide +kernel
theorem dX10_undo_48 : decode cX10_undo 48 = .ok (.iload_n 1, 1) := by decide +kernel
theorem dX10_undo_49 : decode cX10_undo 49 = .ok (.iadd, 1) := by decide +kernel
theorem dX10_undo_50 : decode cX10_undo 50 = .ok (.iaload, 1) := by decide +kernel
theorem dX10_undo_51 : decode cX10_undo 51 = .ok (.iastore, 1) := by decide +kernel
theorem dX10_undo_52 : decode cX10_undo 52 = .ok (.iinc 1 1, 3) := by decide +kernel
theorem dX10_undo_55 : decode cX10_undo 55 = .ok (.goto (-29), 3) := by decide +kernel
theorem dX10_undo_58 : decode cX10_undo 58 = .ok (.iconst 1, 1) := by decide +kernel
theorem dX10_undo_59 : decode cX10_undo 59 = .ok (.ireturn, 1) := by decide +kernel
theorem dX10_thinks_0 : decode cX10_thinks 0 = .ok (.iconst 0, 1) := by decide +kernel
theorem dX10_thinks_1 : decode cX10_thinks 1 = .ok (.istore_n 1, 1) := by decide +kernel
theorem dX10_thinks_2 : decode cX10_thinks 2 = .ok (.iload_n 1, 1) := by decide +kernel
theorem dX10_thinks_3 : decode cX10_thinks 3 = .ok (.bipush 77, 2) := by decide +kernel
theorem dX10_thinks_5 : decode cX10_thinks 5 = .ok (.if_icmp .ge 21, 3) := by decide +kernel
theorem dX10_thinks_8 : decode cX10_thinks 8 = .ok (.aload_n 0, 1) := by decide +kernel
theorem dX10_thinks_9 : decode cX10_thinks 9 = .ok (.getfield 16, 3) := by decide +kernel
theorem dX10_thinks_12 : decode cX10_thinks 12 = .ok (.iload_n 1, 1) := by decide +kernel
theorem dX10_thinks_13 : decode cX10_thinks 13 = .ok (.aload_n 0, 1) := by decide +kernel
theorem dX10_thinks_14 : decode cX10_thinks 14 = .ok (.getfield 7, 3) := by decide +kernel
theorem dX10_thinks_17 : decode cX10_thinks 17 = .ok (.iload_n 1, 1) := by decide +kernel
theorem dX10_thinks_18 : decode cX10_thinks 18 = .ok (.iaload, 1) := by decide +kernel
theorem dX10_thinks_19 : decode cX10_thinks 19 = .ok (.iastore, 1) := by decide +kernel
theorem dX10_thinks_20 : decode cX10_thinks 20 = .ok (.iinc 1 1, 3) := by decide +kernel
theorem dX10_thinks_23 : decode cX10_thinks 23 = .ok (.goto (-21), 3) := by decide +kernel
theorem dX10_thinks_26 : decode cX10_thinks 26 = .ok (.aload_n 0, 1) := by decide +kernel
theorem dX10_thinks_27 : decode cX10_thinks 27 = .ok (.iconst 1, 1) := by decide +kernel
theorem dX10_thinks_28 : decode cX10_thinks 28 = .ok (.putfield 137, 3) := by decide +kernel
theorem dX10_thinks_31 : decode cX10_thinks 31 = .ok (.return_, 1) := by decide +kernel
theorem dX10_endsThought_0 : decode cX10_endsThought 0 = .ok (.iconst 0, 1) := by decide +kernel
theorem dX10_endsThought_1 : decode cX10_endsThought 1 = .ok (.istore_n 1, 1) := by decide +kernel
theorem dX10_endsThought_2 : decode cX10_endsThought 2 = .ok (.iload_n 1, 1) := by decide +kernel
theorem dX10_endsThought_3 : decode cX10_endsThought 3 = .ok (.bipush 77, 2) := by decide +kernel
theorem dX10_endsThought_5 : decode cX10_endsThought 5 = .ok (.if_icmp .ge 21, 3) := by decide +kernel
theorem dX10_endsThought_8 : decode cX10_endsThought 8 = .ok (.aload_n 0, 1) := by decide +kernel
theorem dX10_endsThought_9 : decode cX10_endsThought 9 = .ok (.getfield 7, 3) := by decide +kernel
theorem dX10_endsThought_12 : decode cX10_endsThought 12 = .ok (.iload_n 1, 1) := by decide +kernel
theorem dX10_endsThought_13 : decode cX10_endsThought 13 = .ok (.aload_n 0, 1) := by decide +kernel
theorem dX10_endsThought_14 : decode cX10_endsThought 14 = .ok (.getfield 16, 3) := by decide +kernel
theorem dX10_endsThought_17 : decode cX10_endsThought 17 = .ok (.iload_n 1, 1) := by decide +kernel
theorem dX10_endsThought_18 : decode cX10_endsThought 18 = .ok (.iaload, 1) := by decide +kernel
theorem dX10_endsThought_19 : decode cX10_endsThought 19 = .ok (.iastore, 1) := by decide +kernel
theorem dX10_endsThought_20 : decode cX10_endsThought 20 = .ok (.iinc 1 1, 3) := by decide +kernel
theorem dX10_endsThought_23 : decode cX10_endsThought 23 = .ok (.goto (-21), 3) := by decide +kernel
theorem dX10_endsThought_26 : decode cX10_endsThought 26 = .ok (.aload_n 0, 1) := by decide +kernel
theorem dX10_endsThought_27 : decode cX10_endsThought 27 = .ok (.iconst 0, 1) := by decide +kernel
theorem dX10_endsThought_28 : decode cX10_endsThought 28 = .ok (.putfield 137, 3) := by decide +kernel
theorem dX10_endsThought_31 : decode cX10_endsThought 31 = .ok (.return_, 1) := by decide +kernel
theorem dX10_state_0 : decode cX10_state 0 = .ok (.aload_n 0, 1) := by decide +kernel
theorem dX10_state_1 : decode cX10_state 1 = .ok (.iconst 0, 1) := by decide +kernel
theorem dX10_state_2 : decode cX10_state 2 = .ok (.putfield 131, 3) := by decide +kernel
theorem dX10_state_5 : decode cX10_state 5 = .ok (.aload_n 0, 1) := by decide +kernel
theorem dX10_state_6 : decode cX10_state 6 = .ok (.getfield 7, 3) := by decide +kernel
theorem dX10_state_9 : decode cX10_state 9 = .ok (.iconst 1, 1) := by decide +kernel
theorem dX10_state_10 : decode cX10_state 10 = .ok (.iaload, 1) := by decide +kernel
theorem dX10_state_11 : decode cX10_state 11 = .ok (.istore_n 2, 1) := by decide +kernel
theorem dX10_state_12 : decode cX10_state 12 = .ok (.aload_n 0, 1) := by decide +kernel
theorem dX10_state_13 : decode cX10_state 13 = .ok (.getfield 7, 3) := by decide +kernel
theorem dX10_state_16 : decode cX10_state 16 = .ok (.iconst 1, 1) := by decide +kernel
theorem dX10_state_17 : decode cX10_state 17 = .ok (.iload_n 1, 1) := by decide +kernel
theorem dX10_state_18 : decode cX10_state 18 = .ok (.iastore, 1) := by decide +kernel
theorem dX10_state_19 : decode cX10_state 19 = .ok (.aload_n 0, 1) := by decide +kernel
theorem dX10_state_20 : decode cX10_state 20 = .ok (.iconst 0, 1) := by decide +kernel
theorem dX10_state_21 : decode cX10_state 21 = .ok (.putfield 134, 3) := by decide +kernel
theorem dX10_state_24 : decode cX10_state 24 = .ok (.iload_n 2, 1) := by decide +kernel
theorem dX10_state_25 : decode cX10_state 25 = .ok (.ireturn, 1) := by decide +kernel
theorem dX10_draw_0 : decode cX10_draw 0 = .ok (.aload_n 0, 1) := by decide +kernel
theorem dX10_draw_1 : decode cX10_draw 1 = .ok (.getfield 7, 3) := by decide +kernel
theorem dX10_draw_4 : decode cX10_draw 4 = .ok (.iconst 1, 1) := by decide +kernel
theorem dX10_draw_5 : decode cX10_draw 5 = .ok (.ldc 141, 2) := by decide +kernel
theorem dX10_draw_7 : decode cX10_draw 7 = .ok (.aload_n 0, 1) := by decide +kernel
theorem dX10_draw_8 : decode cX10_draw 8 = .ok (.getfield 7, 3) := by decide +kernel
theorem dX10_draw_11 : decode cX10_draw 11 = .ok (.iconst 1, 1) := by decide +kernel
theorem dX10_draw_12 : decode cX10_draw 12 = .ok (.iaload, 1) := by decide +kernel
theorem dX10_draw_13 : decode cX10_draw 13 = .ok (.imul, 1) := by decide +kernel
theorem dX10_draw_14 : decode cX10_draw 14 = .ok (.ldc 142, 2) := by decide +kernel
theorem dX10_draw_16 : decode cX10_draw 16 = .ok (.iadd, 1) := by decide +kernel
theorem dX10_draw_17 : decode cX10_draw 17 = .ok (.iastore, 1) := by decide +kernel
theorem dX10_draw_18 : decode cX10_draw 18 = .ok (.aload_n 0, 1) := by decide +kernel
theorem dX10_draw_19 : decode cX10_draw 19 = .ok (.getfield 7, 3) := by decide +kernel
theorem dX10_draw_22 : decode cX10_draw 22 = .ok (.iconst 1, 1) := by decide +kernel
theorem dX10_draw_23 : decode cX10_draw 23 = .ok (.iaload, 1) := by decide +kernel
theorem dX10_draw_24 : decode cX10_draw 24 = .ok (.bipush 8, 2) := by decide +kernel
theorem dX10_draw_26 : decode cX10_draw 26 = .ok (.iushr, 1) := by decide +kernel
theorem dX10_draw_27 : decode cX10_draw 27 = .ok (.iload_n 1, 1) := by decide +kernel
theorem dX10_draw_28 : decode cX10_draw 28 = .ok (.irem, 1) := by decide +kernel
theorem dX10_draw_29 : decode cX10_draw 29 = .ok (.ireturn, 1) := by decide +kernel
theorem dX10_isOfficer_0 : decode cX10_isOfficer 0 = .ok (.iload_n 1, 1) := by decide +kernel
theorem dX10_isOfficer_1 : decode cX10_isOfficer 1 = .ok (.ifCond .lt 15, 3) := by decide +kernel
theorem dX10_isOfficer_4 : decode cX10_isOfficer 4 = .ok (.iload_n 1, 1) := by decide +kernel
theorem dX10_isOfficer_5 : decode cX10_isOfficer 5 = .ok (.aload_n 0, 1) := by decide +kernel
theorem dX10_isOfficer_6 : decode cX10_isOfficer 6 = .ok (.getfield 143, 3) := by decide +kernel
theorem dX10_isOfficer_9 : decode cX10_isOfficer 9 = .ok (.if_icmp .ge 7, 3) := by decide +kernel
theorem dX10_isOfficer_12 : decode cX10_isOfficer 12 = .ok (.iconst 1, 1) := by decide +kernel
theorem dX10_isOfficer_13 : decode cX10_isOfficer 13 = .ok (.goto 4, 3) := by decide +kernel
theorem dX10_isOfficer_16 : decode cX10_isOfficer 16 = .ok (.iconst 0, 1) := by decide +kernel
theorem dX10_isOfficer_17 : decode cX10_isOfficer 17 = .ok (.ireturn, 1) := by decide +kernel
theorem dX10_isBatman_0 : decode cX10_isBatman 0 = .ok (.iload_n 1, 1) := by decide +kernel
theorem dX10_isBatman_1 : decode cX10_isBatman 1 = .ok (.ifCond .lt 15, 3) := by decide +kernel
theorem dX10_isBatman_4 : decode cX10_isBatman 4 = .ok (.iload_n 1, 1) := by decide +kernel
theorem dX10_isBatman_5 : decode cX10_isBatman 5 = .ok (.aload_n 0, 1) := by decide +kernel
theorem dX10_isBatman_6 : decode cX10_isBatman 6 = .ok (.getfield 146, 3) := by decide +kernel
theorem dX10_isBatman_9 : decode cX10_isBatman 9 = .ok (.if_icmp .ge 7, 3) := by decide +kernel
theorem dX10_isBatman_12 : decode cX10_isBatman 12 = .ok (.iconst 1, 1) := by decide +kernel
theorem dX10_isBatman_13 : decode cX10_isBatman 13 = .ok (.goto 4, 3) := by decide +kernel
theorem dX10_isBatman_16 : decode cX10_isBatman 16 = .ok (.iconst 0, 1) := by decide +kernel
theorem dX10_isBatman_17 : decode cX10_isBatman 17 = .ok (.ireturn, 1) := by decide +kernel
theorem dX10_isWon_0 : decode cX10_isWon 0 = .ok (.aload_n 0, 1) := by decide +kernel
theorem dX10_isWon_1 : decode cX10_isWon 1 = .ok (.getfield 7, 3) := by decide +kernel
theorem dX10_isWon_4 : decode cX10_isWon 4 = .ok (.iconst 4, 1) := by decide +kernel
theorem dX10_isWon_5 : decode cX10_isWon 5 = .ok (.iaload, 1) := by decide +kernel
theorem dX10_isWon_6 : decode cX10_isWon 6 = .ok (.ifCond .le 7, 3) := by decide +kernel
theorem dX10_isWon_9 : decode cX10_isWon 9 = .ok (.iconst 1, 1) := by decide +kernel
theorem dX10_isWon_10 : decode cX10_isWon 10 = .ok (.goto 4, 3) := by decide +kernel
theorem dX10_isWon_13 : decode cX10_isWon 13 = .ok (.iconst 0, 1) := by decide +kernel
theorem dX10_isWon_14 : decode cX10_isWon 14 = .ok (.ireturn, 1) := by decide +kernel
theorem dX10_officer_0 : decode cX10_officer 0 = .ok (.aload_n 0, 1) := by decide +kernel
theorem dX10_officer_1 : decode cX10_officer 1 = .ok (.iconst 0, 1) := by decide +kernel
theorem dX10_officer_2 : decode cX10_officer 2 = .ok (.putfield 131, 3) := by decide +kernel
theorem dX10_officer_5 : decode cX10_officer 5 = .ok (.aload_n 0, 1) := by decide +kernel
theorem dX10_officer_6 : decode cX10_officer 6 = .ok (.iload_n 1, 1) := by decide +kernel
theorem dX10_officer_7 : decode cX10_officer 7 = .ok (.iconst 0, 1) := by decide +kernel
theorem dX10_officer_8 : decode cX10_officer 8 = .ok (.iconst 1, 1) := by decide +kernel
theorem dX10_officer_9 : decode cX10_officer 9 = .ok (.invokevirtual 149, 3) := by decide +kernel
theorem dX10_officer_12 : decode cX10_officer 12 = .ok (.ifCond .eq 23, 3) := by decide +kernel
theorem dX10_officer_15 : decode cX10_officer 15 = .ok (.aload_n 0, 1) := by decide +kernel
theorem dX10_officer_16 : decode cX10_officer 16 = .ok (.iload_n 2, 1) := by decide +kernel
theorem dX10_officer_17 : decode cX10_officer 17 = .ok (.iconst 0, 1) := by decide +kernel
theorem dX10_officer_18 : decode cX10_officer 18 = .ok (.bipush 9, 2) := by decide +kernel
theorem dX10_officer_20 : decode cX10_officer 20 = .ok (.invokevirtual 149, 3) := by decide +kernel
theorem dX10_officer_23 : decode cX10_officer 23 = .ok (.ifCond .eq 12, 3) := by decide +kernel
theorem dX10_officer_26 : decode cX10_officer 26 = .ok (.aload_n 0, 1) := by decide +kernel
theorem dX10_officer_27 : decode cX10_officer 27 = .ok (.getfield 143, 3) := by decide +kernel
theorem dX10_officer_30 : decode cX10_officer 30 = .ok (.bipush 12, 2) := by decide +kernel
theorem dX10_officer_32 : decode cX10_officer 32 = .ok (.if_icmp .ne 5, 3) := by decide +kernel
theorem dX10_officer_35 : decode cX10_officer 35 = .ok (.iconst (-1), 1) := by decide +kernel
theorem dX10_officer_36 : decode cX10_officer 36 = .ok (.ireturn, 1) := by decide +kernel
theorem dX10_officer_37 : decode cX10_officer 37 = .ok (.aload_n 0, 1) := by decide +kernel
theorem dX10_officer_38 : decode cX10_officer 38 = .ok (.getfield 19, 3) := by decide +kernel
theorem dX10_officer_41 : decode cX10_officer 41 = .ok (.aload_n 0, 1) := by decide +kernel
theorem dX10_officer_42 : decode cX10_officer 42 = .ok (.getfield 143, 3) := by decide +kernel
theorem dX10_officer_45 : decode cX10_officer 45 = .ok (.iload_n 1, 1) := by decide +kernel
theorem dX10_officer_46 : decode cX10_officer 46 = .ok (.iastore, 1) := by decide +kernel
theorem dX10_officer_47 : decode cX10_officer 47 = .ok (.aload_n 0, 1) := by decide +kernel
theorem dX10_officer_48 : decode cX10_officer 48 = .ok (.getfield 22, 3) := by decide +kernel
theorem dX10_officer_51 : decode cX10_officer 51 = .ok (.aload_n 0, 1) := by decide +kernel
theorem dX10_officer_52 : decode cX10_officer 52 = .ok (.getfield 143, 3) := by decide +kernel
theorem dX10_officer_55 : decode cX10_officer 55 = .ok (.iload_n 2, 1) := by decide +kernel
theorem dX10_officer_56 : decode cX10_officer 56 = .ok (.iastore, 1) := by decide +kernel
theorem dX10_officer_57 : decode cX10_officer 57 = .ok (.iconst 5, 1) := by decide +kernel
theorem dX10_officer_58 : decode cX10_officer 58 = .ok (.istore_n 3, 1) := by decide +kernel
theorem dX10_officer_59 : decode cX10_officer 59 = .ok (.iload_n 3, 1) := by decide +kernel
theorem dX10_officer_60 : decode cX10_officer 60 = .ok (.bipush 65, 2) := by decide +kernel
theorem dX10_officer_62 : decode cX10_officer 62 = .ok (.if_icmp .ge 33, 3) := by decide +kernel
theorem dX10_officer_65 : decode cX10_officer 65 = .ok (.aload_n 0, 1) := by decide +kernel
theorem dX10_officer_66 : decode cX10_officer 66 = .ok (.getfield 7, 3) := by decide +kernel
theorem dX10_officer_69 : decode cX10_officer 69 = .ok (.iload_n 3, 1) := by decide +kernel
theorem dX10_officer_70 : decode cX10_officer 70 = .ok (.aload_n 0, 1) := by decide +kernel
theorem dX10_officer_71 : decode cX10_officer 71 = .ok (.getfield 143, 3) := by decide +kernel
theorem dX10_officer_74 : decode cX10_officer 74 = .ok (.iadd, 1) := by decide +kernel
theorem dX10_officer_75 : decode cX10_officer 75 = .ok (.iload_n 3, 1) := by decide +kernel
theorem dX10_officer_76 : decode cX10_officer 76 = .ok (.iconst 5, 1) := by decide +kernel
theorem dX10_officer_77 : decode cX10_officer 77 = .ok (.if_icmp .ne 8, 3) := by decide +kernel
theorem dX10_officer_80 : decode cX10_officer 80 = .ok (.bipush 50, 2) := by decide +kernel
theorem dX10_officer_82 : decode cX10_officer 82 = .ok (.goto 4, 3) := by decide +kernel
theorem dX10_officer_85 : decode cX10_officer 85 = .ok (.iconst 0, 1) := by decide +kernel
theorem dX10_officer_86 : decode cX10_officer 86 = .ok (.iastore, 1) := by decide +kernel
theorem dX10_officer_87 : decode cX10_officer 87 = .ok (.iload_n 3, 1) := by decide +kernel
theorem dX10_officer_88 : decode cX10_officer 88 = .ok (.bipush 12, 2) := by decide +kernel
theorem dX10_officer_90 : decode cX10_officer 90 = .ok (.iadd, 1) := by decide +kernel
theorem dX10_officer_91 : decode cX10_officer 91 = .ok (.istore_n 3, 1) := by decide +kernel
theorem dX10_officer_92 : decode cX10_officer 92 = .ok (.goto (-33), 3) := by decide +kernel
theorem dX10_officer_95 : decode cX10_officer 95 = .ok (.aload_n 0, 1) := by decide +kernel
theorem dX10_officer_96 : decode cX10_officer 96 = .ok (.aload_n 0, 1) := by decide +kernel
theorem dX10_officer_97 : decode cX10_officer 97 = .ok (.getfield 143, 3) := by decide +kernel
theorem dX10_officer_100 : decode cX10_officer 100 = .ok (.iconst 1, 1) := by decide +kernel
theorem dX10_officer_101 : decode cX10_officer 101 = .ok (.iadd, 1) := by decide +kernel
theorem dX10_officer_102 : decode cX10_officer 102 = .ok (.putfield 143, 3) := by decide +kernel
theorem dX10_officer_105 : decode cX10_officer 105 = .ok (.aload_n 0, 1) := by decide +kernel
theorem dX10_officer_106 : decode cX10_officer 106 = .ok (.iconst 0, 1) := by decide +kernel
theorem dX10_officer_107 : decode cX10_officer 107 = .ok (.putfield 134, 3) := by decide +kernel
theorem dX10_officer_110 : decode cX10_officer 110 = .ok (.aload_n 0, 1) := by decide +kernel
theorem dX10_officer_111 : decode cX10_officer 111 = .ok (.getfield 143, 3) := by decide +kernel
theorem dX10_officer_114 : decode cX10_officer 114 = .ok (.iconst 1, 1) := by decide +kernel
theorem dX10_officer_115 : decode cX10_officer 115 = .ok (.isub, 1) := by decide +kernel
theorem dX10_officer_116 : decode cX10_officer 116 = .ok (.ireturn, 1) := by decide +kernel
theorem dX10_batman_0 : decode cX10_batman 0 = .ok (.aload_n 0, 1) := by decide +kernel
theorem dX10_batman_1 : decode cX10_batman 1 = .ok (.iconst 0, 1) := by decide +kernel
theorem dX10_batman_2 : decode cX10_batman 2 = .ok (.putfield 131, 3) := by decide +kernel
theorem dX10_batman_5 : decode cX10_batman 5 = .ok (.aload_n 0, 1) := by decide +kernel
theorem dX10_batman_6 : decode cX10_batman 6 = .ok (.iload_n 1, 1) := by decide +kernel
theorem dX10_batman_7 : decode cX10_batman 7 = .ok (.iconst 0, 1) := by decide +kernel
theorem dX10_batman_8 : decode cX10_batman 8 = .ok (.iconst 1, 1) := by decide +kernel
theorem dX10_batman_9 : decode cX10_batman 9 = .ok (.invokevirtual 149, 3) := by decide +kernel
theorem dX10_batman_12 : decode cX10_batman 12 = .ok (.ifCond .eq 23, 3) := by decide +kernel
theorem dX10_batman_15 : decode cX10_batman 15 = .ok (.aload_n 0, 1) := by decide +kernel
theorem dX10_batman_16 : decode cX10_batman 16 = .ok (.iload_n 2, 1) := by decide +kernel
theorem dX10_batman_17 : decode cX10_batman 17 = .ok (.iconst 0, 1) := by decide +kernel
theorem dX10_batman_18 : decode cX10_batman 18 = .ok (.bipush 9, 2) := by decide +kernel
theorem dX10_batman_20 : decode cX10_batman 20 = .ok (.invokevirtual 149, 3) := by decide +kernel
theorem dX10_batman_23 : decode cX10_batman 23 = .ok (.ifCond .eq 12, 3) := by decide +kernel
theorem dX10_batman_26 : decode cX10_batman 26 = .ok (.aload_n 0, 1) := by decide +kernel
theorem dX10_batman_27 : decode cX10_batman 27 = .ok (.getfield 146, 3) := by decide +kernel
theorem dX10_batman_30 : decode cX10_batman 30 = .ok (.bipush 12, 2) := by decide +kernel
theorem dX10_batman_32 : decode cX10_batman 32 = .ok (.if_icmp .ne 5, 3) := by decide +kernel
theorem dX10_batman_35 : decode cX10_batman 35 = .ok (.iconst (-1), 1) := by decide +kernel
theorem dX10_batman_36 : decode cX10_batman 36 = .ok (.ireturn, 1) := by decide +kernel
theorem dX10_batman_37 : decode cX10_batman 37 = .ok (.aload_n 0, 1) := by decide +kernel
theorem dX10_batman_38 : decode cX10_batman 38 = .ok (.getfield 25, 3) := by decide +kernel
theorem dX10_batman_41 : decode cX10_batman 41 = .ok (.aload_n 0, 1) := by decide +kernel
theorem dX10_batman_42 : decode cX10_batman 42 = .ok (.getfield 146, 3) := by decide +kernel
theorem dX10_batman_45 : decode cX10_batman 45 = .ok (.iload_n 1, 1) := by decide +kernel
theorem dX10_batman_46 : decode cX10_batman 46 = .ok (.iastore, 1) := by decide +kernel
theorem dX10_batman_47 : decode cX10_batman 47 = .ok (.aload_n 0, 1) := by decide +kernel
theorem dX10_batman_48 : decode cX10_batman 48 = .ok (.getfield 28, 3) := by decide +kernel
theorem dX10_batman_51 : decode cX10_batman 51 = .ok (.aload_n 0, 1) := by decide +kernel
theorem dX10_batman_52 : decode cX10_batman 52 = .ok (.getfield 146, 3) := by decide +kernel
theorem dX10_batman_55 : decode cX10_batman 55 = .ok (.iload_n 2, 1) := by decide +kernel
theorem dX10_batman_56 : decode cX10_batman 56 = .ok (.iastore, 1) := by decide +kernel
theorem dX10_batman_57 : decode cX10_batman 57 = .ok (.aload_n 0, 1) := by decide +kernel
theorem dX10_batman_58 : decode cX10_batman 58 = .ok (.getfield 7, 3) := by decide +kernel
theorem dX10_batman_61 : decode cX10_batman 61 = .ok (.bipush 65, 2) := by decide +kernel
theorem dX10_batman_63 : decode cX10_batman 63 = .ok (.aload_n 0, 1) := by decide +kernel
theorem dX10_batman_64 : decode cX10_batman 64 = .ok (.getfield 146, 3) := by decide +kernel
theorem dX10_batman_67 : decode cX10_batman 67 = .ok (.iadd, 1) := by decide +kernel
theorem dX10_batman_68 : decode cX10_batman 68 = .ok (.iconst 0, 1) := by decide +kernel
theorem dX10_batman_69 : decode cX10_batman 69 = .ok (.iastore, 1) := by decide +kernel
theorem dX10_batman_70 : decode cX10_batman 70 = .ok (.aload_n 0, 1) := by decide +kernel
theorem dX10_batman_71 : decode cX10_batman 71 = .ok (.aload_n 0, 1) := by decide +kernel
theorem dX10_batman_72 : decode cX10_batman 72 = .ok (.getfield 146, 3) := by decide +kernel
theorem dX10_batman_75 : decode cX10_batman 75 = .ok (.iconst 1, 1) := by decide +kernel
theorem dX10_batman_76 : decode cX10_batman 76 = .ok (.iadd, 1) := by decide +kernel
theorem dX10_batman_77 : decode cX10_batman 77 = .ok (.putfield 146, 3) := by decide +kernel
theorem dX10_batman_80 : decode cX10_batman 80 = .ok (.aload_n 0, 1) := by decide +kernel
theorem dX10_batman_81 : decode cX10_batman 81 = .ok (.iconst 0, 1) := by decide +kernel
theorem dX10_batman_82 : decode cX10_batman 82 = .ok (.putfield 134, 3) := by decide +kernel
theorem dX10_batman_85 : decode cX10_batman 85 = .ok (.aload_n 0, 1) := by decide +kernel
theorem dX10_batman_86 : decode cX10_batman 86 = .ok (.getfield 146, 3) := by decide +kernel
theorem dX10_batman_89 : decode cX10_batman 89 = .ok (.iconst 1, 1) := by decide +kernel
theorem dX10_batman_90 : decode cX10_batman 90 = .ok (.isub, 1) := by decide +kernel
theorem dX10_batman_91 : decode cX10_batman 91 = .ok (.ireturn, 1) := by decide +kernel
theorem dX10_canSet_0 : decode cX10_canSet 0 = .ok (.iload_n 1, 1) := by decide +kernel
theorem dX10_canSet_1 : decode cX10_canSet 1 = .ok (.iconst 5, 1) := by decide +kernel
theorem dX10_canSet_2 : decode cX10_canSet 2 = .ok (.if_icmp .ne 28, 3) := by decide +kernel
theorem dX10_canSet_5 : decode cX10_canSet 5 = .ok (.aload_n 0, 1) := by decide +kernel
theorem dX10_canSet_6 : decode cX10_canSet 6 = .ok (.invokevirtual 153, 3) := by decide +kernel
theorem dX10_canSet_9 : decode cX10_canSet 9 = .ok (.ifCond .ne 19, 3) := by decide +kernel
theorem dX10_canSet_12 : decode cX10_canSet 12 = .ok (.aload_n 0, 1) := by decide +kernel
theorem dX10_canSet_13 : decode cX10_canSet 13 = .ok (.iload_n 3, 1) := by decide +kernel
theorem dX10_canSet_14 : decode cX10_canSet 14 = .ok (.bipush (-98), 2) := by decide +kernel
theorem dX10_canSet_16 : decode cX10_canSet 16 = .ok (.bipush 98, 2) := by decide +kernel
theorem dX10_canSet_18 : decode cX10_canSet 18 = .ok (.invokevirtual 149, 3) := by decide +kernel
theorem dX10_canSet_21 : decode cX10_canSet 21 = .ok (.ifCond .eq 7, 3) := by decide +kernel
theorem dX10_canSet_24 : decode cX10_canSet 24 = .ok (.iconst 1, 1) := by decide +kernel
theorem dX10_canSet_25 : decode cX10_canSet 25 = .ok (.goto 4, 3) := by decide +kernel
theorem dX10_canSet_28 : decode cX10_canSet 28 = .ok (.iconst 0, 1) := by decide +kernel
theorem dX10_canSet_29 : decode cX10_canSet 29 = .ok (.ireturn, 1) := by decide +kernel
theorem dX10_canSet_30 : decode cX10_canSet 30 = .ok (.aload_n 0, 1) := by decide +kernel
theorem dX10_canSet_31 : decode cX10_canSet 31 = .ok (.iload_n 1, 1) := by decide +kernel
theorem dX10_canSet_32 : decode cX10_canSet 32 = .ok (.iconst 0, 1) := by decide +kernel
theorem dX10_canSet_33 : decode cX10_canSet 33 = .ok (.iconst 2, 1) := by decide +kernel
theorem dX10_canSet_34 : decode cX10_canSet 34 = .ok (.invokevirtual 149, 3) := by decide +kernel
theorem dX10_canSet_37 : decode cX10_canSet 37 = .ok (.ifCond .eq 37, 3) := by decide +kernel
theorem dX10_canSet_40 : decode cX10_canSet 40 = .ok (.aload_n 0, 1) := by decide +kernel
theorem dX10_canSet_41 : decode cX10_canSet 41 = .ok (.iload_n 2, 1) := by decide +kernel
theorem dX10_canSet_42 : decode cX10_canSet 42 = .ok (.invokevirtual 157, 3) := by decide +kernel
theorem dX10_canSet_45 : decode cX10_canSet 45 = .ok (.ifCond .eq 27, 3) := by decide +kernel
theorem dX10_canSet_48 : decode cX10_canSet 48 = .ok (.aload_n 0, 1) := by decide +kernel
theorem dX10_canSet_49 : decode cX10_canSet 49 = .ok (.iload_n 3, 1) := by decide +kernel
theorem dX10_canSet_50 : decode cX10_canSet 50 = .ok (.iconst 0, 1) := by decide +kernel
theorem dX10_canSet_51 : decode cX10_canSet 51 = .ok (.iload_n 1, 1) := by decide +kernel
theorem dX10_canSet_52 : decode cX10_canSet 52 = .ok (.ifCond .ne 8, 3) := by decide +kernel
theorem dX10_canSet_55 : decode cX10_canSet 55 = .ok (.bipush 9, 2) := by decide +kernel
theorem dX10_canSet_57 : decode cX10_canSet 57 = .ok (.goto 5, 3) := by decide +kernel
theorem dX10_canSet_60 : decode cX10_canSet 60 = .ok (.bipush 99, 2) := by decide +kernel
theorem dX10_canSet_62 : decode cX10_canSet 62 = .ok (.invokevirtual 149, 3) := by decide +kernel
theorem dX10_canSet_65 : decode cX10_canSet 65 = .ok (.ifCond .eq 7, 3) := by decide +kernel
theorem dX10_canSet_68 : decode cX10_canSet 68 = .ok (.iconst 1, 1) := by decide +kernel
theorem dX10_canSet_69 : decode cX10_canSet 69 = .ok (.goto 4, 3) := by decide +kernel
theorem dX10_canSet_72 : decode cX10_canSet 72 = .ok (.iconst 0, 1) := by decide +kernel
theorem dX10_canSet_73 : decode cX10_canSet 73 = .ok (.ireturn, 1) := by decide +kernel
theorem dX10_canSet_74 : decode cX10_canSet 74 = .ok (.aload_n 0, 1) := by decide +kernel
theorem dX10_canSet_75 : decode cX10_canSet 75 = .ok (.iload_n 1, 1) := by decide +kernel
theorem dX10_canSet_76 : decode cX10_canSet 76 = .ok (.iconst 3, 1) := by decide +kernel
theorem dX10_canSet_77 : decode cX10_canSet 77 = .ok (.iconst 4, 1) := by decide +kernel
theorem dX10_canSet_78 : decode cX10_canSet 78 = .ok (.invokevirtual 149, 3) := by decide +kernel
theorem dX10_canSet_81 : decode cX10_canSet 81 = .ok (.ifCond .eq 36, 3) := by decide +kernel
theorem dX10_canSet_84 : decode cX10_canSet 84 = .ok (.aload_n 0, 1) := by decide +kernel
theorem dX10_canSet_85 : decode cX10_canSet 85 = .ok (.iload_n 2, 1) := by decide +kernel
theorem dX10_canSet_86 : decode cX10_canSet 86 = .ok (.invokevirtual 161, 3) := by decide +kernel
theorem dX10_canSet_89 : decode cX10_canSet 89 = .ok (.ifCond .eq 28, 3) := by decide +kernel
theorem dX10_canSet_92 : decode cX10_canSet 92 = .ok (.aload_n 0, 1) := by decide +kernel
theorem dX10_canSet_93 : decode cX10_canSet 93 = .ok (.iload_n 3, 1) := by decide +kernel
theorem dX10_canSet_94 : decode cX10_canSet 94 = .ok (.iconst 0, 1) := by decide +kernel
theorem dX10_canSet_95 : decode cX10_canSet 95 = .ok (.iload_n 1, 1) := by decide +kernel
theorem dX10_canSet_96 : decode cX10_canSet 96 = .ok (.iconst 3, 1) := by decide +kernel
theorem dX10_canSet_97 : decode cX10_canSet 97 = .ok (.if_icmp .ne 8, 3) := by decide +kernel
theorem dX10_canSet_100 : decode cX10_canSet 100 = .ok (.bipush 9, 2) := by decide +kernel
theorem dX10_canSet_102 : decode cX10_canSet 102 = .ok (.goto 5, 3) := by decide +kernel
theorem dX10_canSet_105 : decode cX10_canSet 105 = .ok (.bipush 99, 2) := by decide +kernel
theorem dX10_canSet_107 : decode cX10_canSet 107 = .ok (.invokevirtual 149, 3) := by decide +kernel
theorem dX10_canSet_110 : decode cX10_canSet 110 = .ok (.ifCond .eq 7, 3) := by decide +kernel
theorem dX10_canSet_113 : decode cX10_canSet 113 = .ok (.iconst 1, 1) := by decide +kernel
theorem dX10_canSet_114 : decode cX10_canSet 114 = .ok (.goto 4, 3) := by decide +kernel
theorem dX10_canSet_117 : decode cX10_canSet 117 = .ok (.iconst 0, 1) := by decide +kernel
theorem dX10_canSet_118 : decode cX10_canSet 118 = .ok (.ireturn, 1) := by decide +kernel
theorem dX10_set_0 : decode cX10_set 0 = .ok (.aload_n 0, 1) := by decide +kernel
theorem dX10_set_1 : decode cX10_set 1 = .ok (.iconst 0, 1) := by decide +kernel
theorem dX10_set_2 : decode cX10_set 2 = .ok (.putfield 131, 3) := by decide +kernel
theorem dX10_set_5 : decode cX10_set 5 = .ok (.aload_n 0, 1) := by decide +kernel
theorem dX10_set_6 : decode cX10_set 6 = .ok (.iload_n 1, 1) := by decide +kernel
theorem dX10_set_7 : decode cX10_set 7 = .ok (.iload_n 2, 1) := by decide +kernel
theorem dX10_set_8 : decode cX10_set 8 = .ok (.iload_n 3, 1) := by decide +kernel
theorem dX10_set_9 : decode cX10_set 9 = .ok (.invokevirtual 164, 3) := by decide +kernel
theorem dX10_set_12 : decode cX10_set 12 = .ok (.ifCond .ne 5, 3) := by decide +kernel
theorem dX10_set_15 : decode cX10_set 15 = .ok (.iconst 0, 1) := by decide +kernel
theorem dX10_set_16 : decode cX10_set 16 = .ok (.ireturn, 1) := by decide +kernel
theorem dX10_set_17 : decode cX10_set 17 = .ok (.iload_n 1, 1) := by decide +kernel
theorem dX10_set_18 : decode cX10_set 18 = .ok (.ifCond .ne 10, 3) := by decide +kernel
theorem dX10_set_21 : decode cX10_set 21 = .ok (.aload_n 0, 1) := by decide +kernel
theorem dX10_set_22 : decode cX10_set 22 = .ok (.getfield 22, 3) := by decide +kernel
theorem dX10_set_25 : decode cX10_set 25 = .ok (.iload_n 2, 1) := by decide +kernel
theorem dX10_set_26 : decode cX10_set 26 = .ok (.iload_n 3, 1) := by decide +kernel
theorem dX10_set_27 : decode cX10_set 27 = .ok (.iastore, 1) := by decide +kernel
theorem dX10_set_28 : decode cX10_set 28 = .ok (.iload_n 1, 1) := by decide +kernel
theorem dX10_set_29 : decode cX10_set 29 = .ok (.iconst 1, 1) := by decide +kernel
theorem dX10_set_30 : decode cX10_set 30 = .ok (.if_icmp .ne 12, 3) := by decide +kernel
theorem dX10_set_33 : decode cX10_set 33 = .ok (.aload_n 0, 1) := by decide +kernel
theorem dX10_set_34 : decode cX10_set 34 = .ok (.getfield 7, 3) := by decide +kernel
theorem dX10_set_37 : decode cX10_set 37 = .ok (.iconst 5, 1) := by decide +kernel
theorem dX10_set_38 : decode cX10_set 38 = .ok (.iload_n 2, 1) := by decide +kernel
theorem dX10_set_39 : decode cX10_set 39 = .ok (.iadd, 1) := by decide +kernel
theorem dX10_set_40 : decode cX10_set 40 = .ok (.iload_n 3, 1) := by decide +kernel
theorem dX10_set_41 : decode cX10_set 41 = .ok (.iastore, 1) := by decide +kernel
theorem dX10_set_42 : decode cX10_set 42 = .ok (.iload_n 1, 1) := by decide +kernel
theorem dX10_set_43 : decode cX10_set 43 = .ok (.iconst 2, 1) := by decide +kernel
theorem dX10_set_44 : decode cX10_set 44 = .ok (.if_icmp .ne 13, 3) := by decide +kernel
theorem dX10_set_47 : decode cX10_set 47 = .ok (.aload_n 0, 1) := by decide +kernel
theorem dX10_set_48 : decode cX10_set 48 = .ok (.getfield 7, 3) := by decide +kernel
theorem dX10_set_51 : decode cX10_set 51 = .ok (.bipush 17, 2) := by decide +kernel
theorem dX10_set_53 : decode cX10_set 53 = .ok (.iload_n 2, 1) := by decide +kernel
theorem dX10_set_54 : decode cX10_set 54 = .ok (.iadd, 1) := by decide +kernel
theorem dX10_set_55 : decode cX10_set 55 = .ok (.iload_n 3, 1) := by decide +kernel
theorem dX10_set_56 : decode cX10_set 56 = .ok (.iastore, 1) := by decide +kernel
theorem dX10_set_57 : decode cX10_set 57 = .ok (.iload_n 1, 1) := by decide +kernel
theorem dX10_set_58 : decode cX10_set 58 = .ok (.iconst 3, 1) := by decide +kernel
theorem dX10_set_59 : decode cX10_set 59 = .ok (.if_icmp .ne 10, 3) := by decide +kernel
theorem dX10_set_62 : decode cX10_set 62 = .ok (.aload_n 0, 1) := by decide +kernel
theorem dX10_set_63 : decode cX10_set 63 = .ok (.getfield 28, 3) := by decide +kernel
theorem dX10_set_66 : decode cX10_set 66 = .ok (.iload_n 2, 1) := by decide +kernel
theorem dX10_set_67 : decode cX10_set 67 = .ok (.iload_n 3, 1) := by decide +kernel
theorem dX10_set_68 : decode cX10_set 68 = .ok (.iastore, 1) := by decide +kernel
theorem dX10_set_69 : decode cX10_set 69 = .ok (.iload_n 1, 1) := by decide +kernel
theorem dX10_set_70 : decode cX10_set 70 = .ok (.iconst 4, 1) := by decide +kernel
theorem dX10_set_71 : decode cX10_set 71 = .ok (.if_icmp .ne 13, 3) := by decide +kernel
theorem dX10_set_74 : decode cX10_set 74 = .ok (.aload_n 0, 1) := by decide +kernel
theorem dX10_set_75 : decode cX10_set 75 = .ok (.getfield 7, 3) := by decide +kernel
theorem dX10_set_78 : decode cX10_set 78 = .ok (.bipush 65, 2) := by decide +kernel
theorem dX10_set_80 : decode cX10_set 80 = .ok (.iload_n 2, 1) := by decide +kernel
theorem dX10_set_81 : decode cX10_set 81 = .ok (.iadd, 1) := by decide +kernel
theorem dX10_set_82 : decode cX10_set 82 = .ok (.iload_n 3, 1) := by decide +kernel
theorem dX10_set_83 : decode cX10_set 83 = .ok (.iastore, 1) := by decide +kernel
theorem dX10_set_84 : decode cX10_set 84 = .ok (.iload_n 1, 1) := by decide +kernel
theorem dX10_set_85 : decode cX10_set 85 = .ok (.iconst 5, 1) := by decide +kernel
theorem dX10_set_86 : decode cX10_set 86 = .ok (.if_icmp .ne 10, 3) := by decide +kernel
theorem dX10_set_89 : decode cX10_set 89 = .ok (.aload_n 0, 1) := by decide +kernel
theorem dX10_set_90 : decode cX10_set 90 = .ok (.getfield 7, 3) := by decide +kernel
theorem dX10_set_93 : decode cX10_set 93 = .ok (.iconst 3, 1) := by decide +kernel
theorem dX10_set_94 : decode cX10_set 94 = .ok (.iload_n 3, 1) := by decide +kernel
theorem dX10_set_95 : decode cX10_set 95 = .ok (.iastore, 1) := by decide +kernel
theorem dX10_set_96 : decode cX10_set 96 = .ok (.aload_n 0, 1) := by decide +kernel
theorem dX10_set_97 : decode cX10_set 97 = .ok (.iconst 0, 1) := by decide +kernel
theorem dX10_set_98 : decode cX10_set 98 = .ok (.putfield 134, 3) := by decide +kernel
theorem dX10_set_101 : decode cX10_set 101 = .ok (.iconst 1, 1) := by decide +kernel
theorem dX10_set_102 : decode cX10_set 102 = .ok (.ireturn, 1) := by decide +kernel
theorem dX10_types_0 : decode cX10_types 0 = .ok (.bipush 24, 2) := by decide +kernel
theorem dX10_types_2 : decode cX10_types 2 = .ok (.istore_n 2, 1) := by decide +kernel
theorem dX10_types_3 : decode cX10_types 3 = .ok (.iload_n 2, 1) := by decide +kernel
theorem dX10_types_4 : decode cX10_types 4 = .ok (.ifCond .lt 35, 3) := by decide +kernel
theorem dX10_types_7 : decode cX10_types 7 = .ok (.aload_n 0, 1) := by decide +kernel
theorem dX10_types_8 : decode cX10_types 8 = .ok (.getfield 34, 3) := by decide +kernel
theorem dX10_types_11 : decode cX10_types 11 = .ok (.aload_n 0, 1) := by decide +kernel
theorem dX10_types_12 : decode cX10_types 12 = .ok (.getfield 167, 3) := by decide +kernel
theorem dX10_types_15 : decode cX10_types 15 = .ok (.iload_n 1, 1) := by decide +kernel
theorem dX10_types_16 : decode cX10_types 16 = .ok (.iload_n 2, 1) := by decide +kernel
theorem dX10_types_17 : decode cX10_types 17 = .ok (.ishr, 1) := by decide +kernel
theorem dX10_types_18 : decode cX10_types 18 = .ok (.sipush 255, 3) := by decide +kernel
theorem dX10_types_21 : decode cX10_types 21 = .ok (.iand, 1) := by decide +kernel
theorem dX10_types_22 : decode cX10_types 22 = .ok (.iastore, 1) := by decide +kernel
theorem dX10_types_23 : decode cX10_types 23 = .ok (.aload_n 0, 1) := by decide +kernel
theorem dX10_types_24 : decode cX10_types 24 = .ok (.aload_n 0, 1) := by decide +kernel
theorem dX10_types_25 : decode cX10_types 25 = .ok (.getfield 167, 3) := by decide +kernel
theorem dX10_types_28 : decode cX10_types 28 = .ok (.iconst 1, 1) := by decide +kernel
theorem dX10_types_29 : decode cX10_types 29 = .ok (.iadd, 1) := by decide +kernel
theorem dX10_types_30 : decode cX10_types 30 = .ok (.putfield 167, 3) := by decide +kernel
theorem dX10_types_33 : decode cX10_types 33 = .ok (.iinc 2 (-8), 3) := by decide +kernel
theorem dX10_types_36 : decode cX10_types 36 = .ok (.goto (-33), 3) := by decide +kernel
theorem dX10_types_39 : decode cX10_types 39 = .ok (.return_, 1) := by decide +kernel
theorem dX10_feed_0 : decode cX10_feed 0 = .ok (.aload_n 0, 1) := by decide +kernel
theorem dX10_feed_1 : decode cX10_feed 1 = .ok (.iconst 0, 1) := by decide +kernel
theorem dX10_feed_2 : decode cX10_feed 2 = .ok (.putfield 131, 3) := by decide +kernel
theorem dX10_feed_5 : decode cX10_feed 5 = .ok (.aload_n 0, 1) := by decide +kernel
theorem dX10_feed_6 : decode cX10_feed 6 = .ok (.getfield 167, 3) := by decide +kernel
theorem dX10_feed_9 : decode cX10_feed 9 = .ok (.sipush 380, 3) := by decide +kernel
theorem dX10_feed_12 : decode cX10_feed 12 = .ok (.if_icmp .le 5, 3) := by decide +kernel
theorem dX10_feed_15 : decode cX10_feed 15 = .ok (.iconst (-1), 1) := by decide +kernel
theorem dX10_feed_16 : decode cX10_feed 16 = .ok (.ireturn, 1) := by decide +kernel
theorem dX10_feed_17 : decode cX10_feed 17 = .ok (.aload_n 0, 1) := by decide +kernel
theorem dX10_feed_18 : decode cX10_feed 18 = .ok (.iload_n 1, 1) := by decide +kernel
theorem dX10_feed_19 : decode cX10_feed 19 = .ok (.invokevirtual 170, 3) := by decide +kernel
theorem dX10_feed_22 : decode cX10_feed 22 = .ok (.aload_n 0, 1) := by decide +kernel
theorem dX10_feed_23 : decode cX10_feed 23 = .ok (.iload_n 2, 1) := by decide +kernel
theorem dX10_feed_24 : decode cX10_feed 24 = .ok (.invokevirtual 170, 3) := by decide +kernel
theorem dX10_feed_27 : decode cX10_feed 27 = .ok (.aload_n 0, 1) := by decide +kernel
theorem dX10_feed_28 : decode cX10_feed 28 = .ok (.iload_n 3, 1) := by decide +kernel
theorem dX10_feed_29 : decode cX10_feed 29 = .ok (.invokevirtual 170, 3) := by decide +kernel
theorem dX10_feed_32 : decode cX10_feed 32 = .ok (.aload_n 0, 1) := by decide +kernel
theorem dX10_feed_33 : decode cX10_feed 33 = .ok (.iload 4, 2) := by decide +kernel
theorem dX10_feed_35 : decode cX10_feed 35 = .ok (.invokevirtual 170, 3) := by decide +kernel
theorem dX10_feed_38 : decode cX10_feed 38 = .ok (.aload_n 0, 1) := by decide +kernel
theorem dX10_feed_39 : decode cX10_feed 39 = .ok (.iload 5, 2) := by decide +kernel
theorem dX10_feed_41 : decode cX10_feed 41 = .ok (.invokevirtual 170, 3) := by decide +kernel
theorem dX10_feed_44 : decode cX10_feed 44 = .ok (.aload_n 0, 1) := by decide +kernel
theorem dX10_feed_45 : decode cX10_feed 45 = .ok (.getfield 167, 3) := by decide +kernel
theorem dX10_feed_48 : decode cX10_feed 48 = .ok (.ireturn, 1) := by decide +kernel
theorem dX10_end_0 : decode cX10_end 0 = .ok (.aload_n 0, 1) := by decide +kernel
theorem dX10_end_1 : decode cX10_end 1 = .ok (.iconst 0, 1) := by decide +kernel
theorem dX10_end_2 : decode cX10_end 2 = .ok (.putfield 131, 3) := by decide +kernel
theorem dX10_end_5 : decode cX10_end 5 = .ok (.aload_n 0, 1) := by decide +kernel
theorem dX10_end_6 : decode cX10_end 6 = .ok (.iload_n 1, 1) := by decide +kernel
theorem dX10_end_7 : decode cX10_end 7 = .ok (.iconst 0, 1) := by decide +kernel
theorem dX10_end_8 : decode cX10_end 8 = .ok (.aload_n 0, 1) := by decide +kernel
theorem dX10_end_9 : decode cX10_end 9 = .ok (.getfield 167, 3) := by decide +kernel
theorem dX10_end_12 : decode cX10_end 12 = .ok (.invokevirtual 149, 3) := by decide +kernel
theorem dX10_end_15 : decode cX10_end 15 = .ok (.ifCond .ne 5, 3) := by decide +kernel
theorem dX10_end_18 : decode cX10_end 18 = .ok (.iconst 0, 1) := by decide +kernel
theorem dX10_end_19 : decode cX10_end 19 = .ok (.ireturn, 1) := by decide +kernel
theorem dX10_end_20 : decode cX10_end 20 = .ok (.aload_n 0, 1) := by decide +kernel
theorem dX10_end_21 : decode cX10_end 21 = .ok (.iload_n 1, 1) := by decide +kernel
theorem dX10_end_22 : decode cX10_end 22 = .ok (.putfield 167, 3) := by decide +kernel
theorem dX10_end_25 : decode cX10_end 25 = .ok (.iconst 1, 1) := by decide +kernel
theorem dX10_end_26 : decode cX10_end 26 = .ok (.ireturn, 1) := by decide +kernel
theorem dX10_raw_0 : decode cX10_raw 0 = .ok (.iload_n 1, 1) := by decide +kernel
theorem dX10_raw_1 : decode cX10_raw 1 = .ok (.aload_n 0, 1) := by decide +kernel
theorem dX10_raw_2 : decode cX10_raw 2 = .ok (.getfield 167, 3) := by decide +kernel
theorem dX10_raw_5 : decode cX10_raw 5 = .ok (.if_icmp .ge 12, 3) := by decide +kernel
theorem dX10_raw_8 : decode cX10_raw 8 = .ok (.aload_n 0, 1) := by decide +kernel
theorem dX10_raw_9 : decode cX10_raw 9 = .ok (.getfield 34, 3) := by decide +kernel
theorem dX10_raw_12 : decode cX10_raw 12 = .ok (.iload_n 1, 1) := by decide +kernel
theorem dX10_raw_13 : decode cX10_raw 13 = .ok (.iaload, 1) := by decide +kernel
theorem dX10_raw_14 : decode cX10_raw 14 = .ok (.goto 4, 3) := by decide +kernel
theorem dX10_raw_17 : decode cX10_raw 17 = .ok (.iconst (-1), 1) := by decide +kernel
theorem dX10_raw_18 : decode cX10_raw 18 = .ok (.ireturn, 1) := by decide +kernel
theorem dX10_isLetter_0 : decode cX10_isLetter 0 = .ok (.aload_n 0, 1) := by decide +kernel
theorem dX10_isLetter_1 : decode cX10_isLetter 1 = .ok (.iload_n 1, 1) := by decide +kernel
theorem dX10_isLetter_2 : decode cX10_isLetter 2 = .ok (.bipush 97, 2) := by decide +kernel
theorem dX10_isLetter_4 : decode cX10_isLetter 4 = .ok (.bipush 122, 2) := by decide +kernel
theorem dX10_isLetter_6 : decode cX10_isLetter 6 = .ok (.invokevirtual 149, 3) := by decide +kernel
theorem dX10_isLetter_9 : decode cX10_isLetter 9 = .ok (.ifCond .ne 15, 3) := by decide +kernel
theorem dX10_isLetter_12 : decode cX10_isLetter 12 = .ok (.aload_n 0, 1) := by decide +kernel
theorem dX10_isLetter_13 : decode cX10_isLetter 13 = .ok (.iload_n 1, 1) := by decide +kernel
theorem dX10_isLetter_14 : decode cX10_isLetter 14 = .ok (.bipush 65, 2) := by decide +kernel
theorem dX10_isLetter_16 : decode cX10_isLetter 16 = .ok (.bipush 90, 2) := by decide +kernel
theorem dX10_isLetter_18 : decode cX10_isLetter 18 = .ok (.invokevirtual 149, 3) := by decide +kernel
theorem dX10_isLetter_21 : decode cX10_isLetter 21 = .ok (.ifCond .eq 7, 3) := by decide +kernel
theorem dX10_isLetter_24 : decode cX10_isLetter 24 = .ok (.iconst 1, 1) := by decide +kernel
theorem dX10_isLetter_25 : decode cX10_isLetter 25 = .ok (.goto 4, 3) := by decide +kernel
theorem dX10_isLetter_28 : decode cX10_isLetter 28 = .ok (.iconst 0, 1) := by decide +kernel
theorem dX10_isLetter_29 : decode cX10_isLetter 29 = .ok (.ireturn, 1) := by decide +kernel
theorem dX10_isDigit_0 : decode cX10_isDigit 0 = .ok (.aload_n 0, 1) := by decide +kernel
theorem dX10_isDigit_1 : decode cX10_isDigit 1 = .ok (.iload_n 1, 1) := by decide +kernel
theorem dX10_isDigit_2 : decode cX10_isDigit 2 = .ok (.bipush 48, 2) := by decide +kernel
theorem dX10_isDigit_4 : decode cX10_isDigit 4 = .ok (.bipush 57, 2) := by decide +kernel
theorem dX10_isDigit_6 : decode cX10_isDigit 6 = .ok (.invokevirtual 149, 3) := by decide +kernel
theorem dX10_isDigit_9 : decode cX10_isDigit 9 = .ok (.ireturn, 1) := by decide +kernel
theorem dX10_isMarkSign_0 : decode cX10_isMarkSign 0 = .ok (.iload_n 1, 1) := by decide +kernel
theorem dX10_isMarkSign_1 : decode cX10_isMarkSign 1 = .ok (.bipush 59, 2) := by decide +kernel
theorem dX10_isMarkSign_3 : decode cX10_isMarkSign 3 = .ok (.if_icmp .eq 57, 3) := by decide +kernel
theorem dX10_isMarkSign_6 : decode cX10_isMarkSign 6 = .ok (.iload_n 1, 1) := by decide +kernel
theorem dX10_isMarkSign_7 : decode cX10_isMarkSign 7 = .ok (.bipush 43, 2) := by decide +kernel
theorem dX10_isMarkSign_9 : decode cX10_isMarkSign 9 = .ok (.if_icmp .eq 51, 3) := by decide +kernel
theorem dX10_isMarkSign_12 : decode cX10_isMarkSign 12 = .ok (.iload_n 1, 1) := by decide +kernel
theorem dX10_isMarkSign_13 : decode cX10_isMarkSign 13 = .ok (.bipush 45, 2) := by decide +kernel
theorem dX10_isMarkSign_15 : decode cX10_isMarkSign 15 = .ok (.if_icmp .eq 45, 3) := by decide +kernel
theorem dX10_isMarkSign_18 : decode cX10_isMarkSign 18 = .ok (.iload_n 1, 1) := by decide +kernel
theorem dX10_isMarkSign_19 : decode cX10_isMarkSign 19 = .ok (.bipush 42, 2) := by decide +kernel
theorem dX10_isMarkSign_21 : decode cX10_isMarkSign 21 = .ok (.if_icmp .eq 39, 3) := by decide +kernel
theorem dX10_isMarkSign_24 : decode cX10_isMarkSign 24 = .ok (.iload_n 1, 1) := by decide +kernel
theorem dX10_isMarkSign_25 : decode cX10_isMarkSign 25 = .ok (.bipush 47, 2) := by decide +kernel
theorem dX10_isMarkSign_27 : decode cX10_isMarkSign 27 = .ok (.if_icmp .eq 33, 3) := by decide +kernel
theorem dX10_isMarkSign_30 : decode cX10_isMarkSign 30 = .ok (.iload_n 1, 1) := by decide +kernel
theorem dX10_isMarkSign_31 : decode cX10_isMarkSign 31 = .ok (.bipush 40, 2) := by decide +kernel
theorem dX10_isMarkSign_33 : decode cX10_isMarkSign 33 = .ok (.if_icmp .eq 27, 3) := by decide +kernel
theorem dX10_isMarkSign_36 : decode cX10_isMarkSign 36 = .ok (.iload_n 1, 1) := by decide +kernel
theorem dX10_isMarkSign_37 : decode cX10_isMarkSign 37 = .ok (.bipush 41, 2) := by decide +kernel
theorem dX10_isMarkSign_39 : decode cX10_isMarkSign 39 = .ok (.if_icmp .eq 21, 3) := by decide +kernel
theorem dX10_isMarkSign_42 : decode cX10_isMarkSign 42 = .ok (.iload_n 1, 1) := by decide +kernel
theorem dX10_isMarkSign_43 : decode cX10_isMarkSign 43 = .ok (.bipush 60, 2) := by decide +kernel
theorem dX10_isMarkSign_45 : decode cX10_isMarkSign 45 = .ok (.if_icmp .eq 15, 3) := by decide +kernel
theorem dX10_isMarkSign_48 : decode cX10_isMarkSign 48 = .ok (.iload_n 1, 1) := by decide +kernel
theorem dX10_isMarkSign_49 : decode cX10_isMarkSign 49 = .ok (.bipush 61, 2) := by decide +kernel
theorem dX10_isMarkSign_51 : decode cX10_isMarkSign 51 = .ok (.if_icmp .eq 9, 3) := by decide +kernel
theorem dX10_isMarkSign_54 : decode cX10_isMarkSign 54 = .ok (.iload_n 1, 1) := by decide +kernel
theorem dX10_isMarkSign_55 : decode cX10_isMarkSign 55 = .ok (.bipush 62, 2) := by decide +kernel
theorem dX10_isMarkSign_57 : decode cX10_isMarkSign 57 = .ok (.if_icmp .ne 7, 3) := by decide +kernel
theorem dX10_isMarkSign_60 : decode cX10_isMarkSign 60 = .ok (.iconst 1, 1) := by decide +kernel
theorem dX10_isMarkSign_61 : decode cX10_isMarkSign 61 = .ok (.goto 4, 3) := by decide +kernel
theorem dX10_isMarkSign_64 : decode cX10_isMarkSign 64 = .ok (.iconst 0, 1) := by decide +kernel
theorem dX10_isMarkSign_65 : decode cX10_isMarkSign 65 = .ok (.ireturn, 1) := by decide +kernel
theorem dX10_wordAt_0 : decode cX10_wordAt 0 = .ok (.iconst (-1), 1) := by decide +kernel
theorem dX10_wordAt_1 : decode cX10_wordAt 1 = .ok (.istore_n 3, 1) := by decide +kernel
theorem dX10_wordAt_2 : decode cX10_wordAt 2 = .ok (.iconst 0, 1) := by decide +kernel
theorem dX10_wordAt_3 : decode cX10_wordAt 3 = .ok (.istore 4, 2) := by decide +kernel
theorem dX10_wordAt_5 : decode cX10_wordAt 5 = .ok (.iload 4, 2) := by decide +kernel
theorem dX10_wordAt_7 : decode cX10_wordAt 7 = .ok (.sipush 132, 3) := by decide +kernel
theorem dX10_wordAt_10 : decode cX10_wordAt 10 = .ok (.if_icmp .ge 108, 3) := by decide +kernel
theorem dX10_wordAt_13 : decode cX10_wordAt 13 = .ok (.iconst 0, 1) := by decide +kernel
theorem dX10_wordAt_14 : decode cX10_wordAt 14 = .ok (.istore 5, 2) := by decide +kernel
theorem dX10_wordAt_16 : decode cX10_wordAt 16 = .ok (.iload_n 3, 1) := by decide +kernel
theorem dX10_wordAt_17 : decode cX10_wordAt 17 = .ok (.iconst 1, 1) := by decide +kernel
theorem dX10_wordAt_18 : decode cX10_wordAt 18 = .ok (.iadd, 1) := by decide +kernel
theorem dX10_wordAt_19 : decode cX10_wordAt 19 = .ok (.istore_n 3, 1) := by decide +kernel
theorem dX10_wordAt_20 : decode cX10_wordAt 20 = .ok (.iload_n 1, 1) := by decide +kernel
theorem dX10_wordAt_21 : decode cX10_wordAt 21 = .ok (.iload 5, 2) := by decide +kernel
theorem dX10_wordAt_23 : decode cX10_wordAt 23 = .ok (.iadd, 1) := by decide +kernel
theorem dX10_wordAt_24 : decode cX10_wordAt 24 = .ok (.iload_n 2, 1) := by decide +kernel
theorem dX10_wordAt_25 : decode cX10_wordAt 25 = .ok (.if_icmp .ge 36, 3) := by decide +kernel
theorem dX10_wordAt_28 : decode cX10_wordAt 28 = .ok (.aload_n 0, 1) := by decide +kernel
theorem dX10_wordAt_29 : decode cX10_wordAt 29 = .ok (.getfield 37, 3) := by decide +kernel
theorem dX10_wordAt_32 : decode cX10_wordAt 32 = .ok (.iload 4, 2) := by decide +kernel
theorem dX10_wordAt_34 : decode cX10_wordAt 34 = .ok (.iconst 1, 1) := by decide +kernel
theorem dX10_wordAt_35 : decode cX10_wordAt 35 = .ok (.iadd, 1) := by decide +kernel
theorem dX10_wordAt_36 : decode cX10_wordAt 36 = .ok (.iload 5, 2) := by decide +kernel
theorem dX10_wordAt_38 : decode cX10_wordAt 38 = .ok (.iadd, 1) := by decide +kernel
theorem dX10_wordAt_39 : decode cX10_wordAt 39 = .ok (.iaload, 1) := by decide +kernel
theorem dX10_wordAt_40 : decode cX10_wordAt 40 = .ok (.aload_n 0, 1) := by decide +kernel
theorem dX10_wordAt_41 : decode cX10_wordAt 41 = .ok (.getfield 34, 3) := by decide +kernel
theorem dX10_wordAt_44 : decode cX10_wordAt 44 = .ok (.iload_n 1, 1) := by decide +kernel
theorem dX10_wordAt_45 : decode cX10_wordAt 45 = .ok (.iload 5, 2) := by decide +kernel
theorem dX10_wordAt_47 : decode cX10_wordAt 47 = .ok (.iadd, 1) := by decide +kernel
theorem dX10_wordAt_48 : decode cX10_wordAt 48 = .ok (.iaload, 1) := by decide +kernel
theorem dX10_wordAt_49 : decode cX10_wordAt 49 = .ok (.if_icmp .ne 12, 3) := by decide +kernel
theorem dX10_wordAt_52 : decode cX10_wordAt 52 = .ok (.iload 5, 2) := by decide +kernel
theorem dX10_wordAt_54 : decode cX10_wordAt 54 = .ok (.iconst 1, 1) := by decide +kernel
theorem dX10_wordAt_55 : decode cX10_wordAt 55 = .ok (.iadd, 1) := by decide +kernel
theorem dX10_wordAt_56 : decode cX10_wordAt 56 = .ok (.istore 5, 2) := by decide +kernel
theorem dX10_wordAt_58 : decode cX10_wordAt 58 = .ok (.goto (-38), 3) := by decide +kernel
theorem dX10_wordAt_61 : decode cX10_wordAt 61 = .ok (.iload_n 1, 1) := by decide +kernel
theorem dX10_wordAt_62 : decode cX10_wordAt 62 = .ok (.iload 5, 2) := by decide +kernel
theorem dX10_wordAt_64 : decode cX10_wordAt 64 = .ok (.iadd, 1) := by decide +kernel
theorem dX10_wordAt_65 : decode cX10_wordAt 65 = .ok (.iload_n 2, 1) := by decide +kernel
theorem dX10_wordAt_66 : decode cX10_wordAt 66 = .ok (.if_icmp .ne 22, 3) := by decide +kernel
theorem dX10_wordAt_69 : decode cX10_wordAt 69 = .ok (.aload_n 0, 1) := by decide +kernel
theorem dX10_wordAt_70 : decode cX10_wordAt 70 = .ok (.getfield 37, 3) := by decide +kernel
theorem dX10_wordAt_73 : decode cX10_wordAt 73 = .ok (.iload 4, 2) := by decide +kernel
theorem dX10_wordAt_75 : decode cX10_wordAt 75 = .ok (.iconst 1, 1) := by decide +kernel
theorem dX10_wordAt_76 : decode cX10_wordAt 76 = .ok (.iadd, 1) := by decide +kernel
theorem dX10_wordAt_77 : decode cX10_wordAt 77 = .ok (.iload 5, 2) := by decide +kernel
theorem dX10_wordAt_79 : decode cX10_wordAt 79 = .ok (.iadd, 1) := by decide +kernel
theorem dX10_wordAt_80 : decode cX10_wordAt 80 = .ok (.iaload, 1) := by decide +kernel
theorem dX10_wordAt_81 : decode cX10_wordAt 81 = .ok (.bipush 32, 2) := by decide +kernel
theorem dX10_wordAt_83 : decode cX10_wordAt 83 = .ok (.if_icmp .ne 5, 3) := by decide +kernel
theorem dX10_wordAt_86 : decode cX10_wordAt 86 = .ok (.iload_n 3, 1) := by decide +kernel
theorem dX10_wordAt_87 : decode cX10_wordAt 87 = .ok (.ireturn, 1) := by decide +kernel
theorem dX10_wordAt_88 : decode cX10_wordAt 88 = .ok (.iload 4, 2) := by decide +kernel
theorem dX10_wordAt_90 : decode cX10_wordAt 90 = .ok (.iconst 1, 1) := by decide +kernel
theorem dX10_wordAt_91 : decode cX10_wordAt 91 = .ok (.iadd, 1) := by decide +kernel
theorem dX10_wordAt_92 : decode cX10_wordAt 92 = .ok (.istore 4, 2) := by decide +kernel
theorem dX10_wordAt_94 : decode cX10_wordAt 94 = .ok (.aload_n 0, 1) := by decide +kernel
theorem dX10_wordAt_95 : decode cX10_wordAt 95 = .ok (.getfield 37, 3) := by decide +kernel
theorem dX10_wordAt_98 : decode cX10_wordAt 98 = .ok (.iload 4, 2) := by decide +kernel
theorem dX10_wordAt_100 : decode cX10_wordAt 100 = .ok (.iaload, 1) := by decide +kernel
theorem dX10_wordAt_101 : decode cX10_wordAt 101 = .ok (.bipush 32, 2) := by decide +kernel
theorem dX10_wordAt_103 : decode cX10_wordAt 103 = .ok (.if_icmp .eq 12, 3) := by decide +kernel
theorem dX10_wordAt_106 : decode cX10_wordAt 106 = .ok (.iload 4, 2) := by decide +kernel
theorem dX10_wordAt_108 : decode cX10_wordAt 108 = .ok (.iconst 1, 1) := by decide +kernel
theorem dX10_wordAt_109 : decode cX10_wordAt 109 = .ok (.iadd, 1) := by decide +kernel
theorem dX10_wordAt_110 : decode cX10_wordAt 110 = .ok (.istore 4, 2) := by decide +kernel
theorem dX10_wordAt_112 : decode cX10_wordAt 112 = .ok (.goto (-18), 3) := by decide +kernel
theorem dX10_wordAt_115 : decode cX10_wordAt 115 = .ok (.goto (-110), 3) := by decide +kernel
theorem dX10_wordAt_118 : decode cX10_wordAt 118 = .ok (.iconst (-1), 1) := by decide +kernel
theorem dX10_wordAt_119 : decode cX10_wordAt 119 = .ok (.ireturn, 1) := by decide +kernel
theorem dX10_reads_0 : decode cX10_reads 0 = .ok (.aload_n 0, 1) := by decide +kernel
theorem dX10_reads_1 : decode cX10_reads 1 = .ok (.aload_n 0, 1) := by decide +kernel
theorem dX10_reads_2 : decode cX10_reads 2 = .ok (.getfield 174, 3) := by decide +kernel
theorem dX10_reads_5 : decode cX10_reads 5 = .ok (.invokevirtual 177, 3) := by decide +kernel
theorem dX10_reads_8 : decode cX10_reads 8 = .ok (.bipush 32, 2) := by decide +kernel
theorem dX10_reads_10 : decode cX10_reads 10 = .ok (.if_icmp .eq 16, 3) := by decide +kernel
theorem dX10_reads_13 : decode cX10_reads 13 = .ok (.aload_n 0, 1) := by decide +kernel
theorem dX10_reads_14 : decode cX10_reads 14 = .ok (.aload_n 0, 1) := by decide +kernel
theorem dX10_reads_15 : decode cX10_reads 15 = .ok (.getfield 174, 3) := by decide +kernel
theorem dX10_reads_18 : decode cX10_reads 18 = .ok (.invokevirtual 177, 3) := by decide +kernel
theorem dX10_reads_21 : decode cX10_reads 21 = .ok (.bipush 10, 2) := by decide +kernel
theorem dX10_reads_23 : decode cX10_reads 23 = .ok (.if_icmp .ne 16, 3) := by decide +kernel
theorem dX10_reads_26 : decode cX10_reads 26 = .ok (.aload_n 0, 1) := by decide +kernel
theorem dX10_reads_27 : decode cX10_reads 27 = .ok (.aload_n 0, 1) := by decide +kernel
theorem dX10_reads_28 : decode cX10_reads 28 = .ok (.getfield 174, 3) := by decide +kernel
theorem dX10_reads_31 : decode cX10_reads 31 = .ok (.iconst 1, 1) := by decide +kernel
theorem dX10_reads_32 : decode cX10_reads 32 = .ok (.iadd, 1) := by decide +kernel
theorem dX10_reads_33 : decode cX10_reads 33 = .ok (.putfield 174, 3) := by decide +kernel
theorem dX10_reads_36 : decode cX10_reads 36 = .ok (.goto (-36), 3) := by decide +kernel
theorem dX10_reads_39 : decode cX10_reads 39 = .ok (.aload_n 0, 1) := by decide +kernel
theorem dX10_reads_40 : decode cX10_reads 40 = .ok (.aload_n 0, 1) := by decide +kernel
theorem dX10_reads_41 : decode cX10_reads 41 = .ok (.getfield 174, 3) := by decide +kernel
theorem dX10_reads_44 : decode cX10_reads 44 = .ok (.putfield 181, 3) := by decide +kernel
theorem dX10_reads_47 : decode cX10_reads 47 = .ok (.aload_n 0, 1) := by decide +kernel
theorem dX10_reads_48 : decode cX10_reads 48 = .ok (.iconst 1, 1) := by decide +kernel
theorem dX10_reads_49 : decode cX10_reads 49 = .ok (.putfield 184, 3) := by decide +kernel
theorem dX10_reads_52 : decode cX10_reads 52 = .ok (.aload_n 0, 1) := by decide +kernel
theorem dX10_reads_53 : decode cX10_reads 53 = .ok (.aload_n 0, 1) := by decide +kernel
theorem dX10_reads_54 : decode cX10_reads 54 = .ok (.getfield 174, 3) := by decide +kernel
theorem dX10_reads_57 : decode cX10_reads 57 = .ok (.invokevirtual 177, 3) := by decide +kernel
theorem dX10_reads_60 : decode cX10_reads 60 = .ok (.istore_n 1, 1) := by decide +kernel
theorem dX10_reads_61 : decode cX10_reads 61 = .ok (.iload_n 1, 1) := by decide +kernel
theorem dX10_reads_62 : decode cX10_reads 62 = .ok (.iconst (-1), 1) := by decide +kernel
theorem dX10_reads_63 : decode cX10_reads 63 = .ok (.if_icmp .ne 9, 3) := by decide +kernel
theorem dX10_reads_66 : decode cX10_reads 66 = .ok (.aload_n 0, 1) := by decide +kernel
theorem dX10_reads_67 : decode cX10_reads 67 = .ok (.iconst 0, 1) := by decide +kernel
theorem dX10_reads_68 : decode cX10_reads 68 = .ok (.putfield 184, 3) := by decide +kernel
theorem dX10_reads_71 : decode cX10_reads 71 = .ok (.return_, 1) := by decide +kernel
theorem dX10_reads_72 : decode cX10_reads 72 = .ok (.aload_n 0, 1) := by decide +kernel
theorem dX10_reads_73 : decode cX10_reads 73 = .ok (.aload_n 0, 1) := by decide +kernel
theorem dX10_reads_74 : decode cX10_reads 74 = .ok (.getfield 174, 3) := by decide +kernel
theorem dX10_reads_77 : decode cX10_reads 77 = .ok (.iconst 1, 1) := by decide +kernel
theorem dX10_reads_78 : decode cX10_reads 78 = .ok (.iadd, 1) := by decide +kernel
theorem dX10_reads_79 : decode cX10_reads 79 = .ok (.putfield 174, 3) := by decide +kernel
theorem dX10_reads_82 : decode cX10_reads 82 = .ok (.aload_n 0, 1) := by decide +kernel
theorem dX10_reads_83 : decode cX10_reads 83 = .ok (.iload_n 1, 1) := by decide +kernel
theorem dX10_reads_84 : decode cX10_reads 84 = .ok (.putfield 187, 3) := by decide +kernel
theorem dX10_reads_87 : decode cX10_reads 87 = .ok (.aload_n 0, 1) := by decide +kernel
theorem dX10_reads_88 : decode cX10_reads 88 = .ok (.iload_n 1, 1) := by decide +kernel
theorem dX10_reads_89 : decode cX10_reads 89 = .ok (.invokevirtual 190, 3) := by decide +kernel
theorem dX10_reads_92 : decode cX10_reads 92 = .ok (.ifCond .eq 63, 3) := by decide +kernel
theorem dX10_reads_95 : decode cX10_reads 95 = .ok (.aload_n 0, 1) := by decide +kernel
theorem dX10_reads_96 : decode cX10_reads 96 = .ok (.aload_n 0, 1) := by decide +kernel
theorem dX10_reads_97 : decode cX10_reads 97 = .ok (.aload_n 0, 1) := by decide +kernel
theorem dX10_reads_98 : decode cX10_reads 98 = .ok (.getfield 174, 3) := by decide +kernel
theorem dX10_reads_101 : decode cX10_reads 101 = .ok (.invokevirtual 177, 3) := by decide +kernel
theorem dX10_reads_104 : decode cX10_reads 104 = .ok (.invokevirtual 190, 3) := by decide +kernel
theorem dX10_reads_107 : decode cX10_reads 107 = .ok (.ifCond .eq 16, 3) := by decide +kernel
theorem dX10_reads_110 : decode cX10_reads 110 = .ok (.aload_n 0, 1) := by decide +kernel
theorem dX10_reads_111 : decode cX10_reads 111 = .ok (.aload_n 0, 1) := by decide +kernel
theorem dX10_reads_112 : decode cX10_reads 112 = .ok (.getfield 174, 3) := by decide +kernel
theorem dX10_reads_115 : decode cX10_reads 115 = .ok (.iconst 1, 1) := by decide +kernel
theorem dX10_reads_116 : decode cX10_reads 116 = .ok (.iadd, 1) := by decide +kernel
theorem dX10_reads_117 : decode cX10_reads 117 = .ok (.putfield 174, 3) := by decide +kernel
theorem dX10_reads_120 : decode cX10_reads 120 = .ok (.goto (-25), 3) := by decide +kernel
theorem dX10_reads_123 : decode cX10_reads 123 = .ok (.aload_n 0, 1) := by decide +kernel
theorem dX10_reads_124 : decode cX10_reads 124 = .ok (.aload_n 0, 1) := by decide +kernel
theorem dX10_reads_125 : decode cX10_reads 125 = .ok (.aload_n 0, 1) := by decide +kernel
theorem dX10_reads_126 : decode cX10_reads 126 = .ok (.getfield 181, 3) := by decide +kernel
theorem dX10_reads_129 : decode cX10_reads 129 = .ok (.aload_n 0, 1) := by decide +kernel
theorem dX10_reads_130 : decode cX10_reads 130 = .ok (.getfield 174, 3) := by decide +kernel
theorem dX10_reads_133 : decode cX10_reads 133 = .ok (.invokevirtual 193, 3) := by decide +kernel
theorem dX10_reads_136 : decode cX10_reads 136 = .ok (.putfield 187, 3) := by decide +kernel
theorem dX10_reads_139 : decode cX10_reads 139 = .ok (.aload_n 0, 1) := by decide +kernel
theorem dX10_reads_140 : decode cX10_reads 140 = .ok (.getfield 187, 3) := by decide +kernel
theorem dX10_reads_143 : decode cX10_reads 143 = .ok (.iconst (-1), 1) := by decide +kernel
theorem dX10_reads_144 : decode cX10_reads 144 = .ok (.if_icmp .eq 129, 3) := by decide +kernel
theorem dX10_reads_147 : decode cX10_reads 147 = .ok (.aload_n 0, 1) := by decide +kernel
theorem dX10_reads_148 : decode cX10_reads 148 = .ok (.iconst 2, 1) := by decide +kernel
theorem dX10_reads_149 : decode cX10_reads 149 = .ok (.putfield 184, 3) := by decide +kernel
theorem dX10_reads_152 : decode cX10_reads 152 = .ok (.goto 121, 3) := by decide +kernel
theorem dX10_reads_155 : decode cX10_reads 155 = .ok (.aload_n 0, 1) := by decide +kernel
theorem dX10_reads_156 : decode cX10_reads 156 = .ok (.iload_n 1, 1) := by decide +kernel
theorem dX10_reads_157 : decode cX10_reads 157 = .ok (.invokevirtual 197, 3) := by decide +kernel
theorem dX10_reads_160 : decode cX10_reads 160 = .ok (.ifCond .eq 100, 3) := by decide +kernel
theorem dX10_reads_163 : decode cX10_reads 163 = .ok (.aload_n 0, 1) := by decide +kernel
theorem dX10_reads_164 : decode cX10_reads 164 = .ok (.iload_n 1, 1) := by decide +kernel
theorem dX10_reads_165 : decode cX10_reads 165 = .ok (.bipush 48, 2) := by decide +kernel
theorem dX10_reads_167 : decode cX10_reads 167 = .ok (.isub, 1) := by decide +kernel
theorem dX10_reads_168 : decode cX10_reads 168 = .ok (.putfield 187, 3) := by decide +kernel
theorem dX10_reads_171 : decode cX10_reads 171 = .ok (.aload_n 0, 1) := by decide +kernel
theorem dX10_reads_172 : decode cX10_reads 172 = .ok (.aload_n 0, 1) := by decide +kernel
theorem dX10_reads_173 : decode cX10_reads 173 = .ok (.aload_n 0, 1) := by decide +kernel
theorem dX10_reads_174 : decode cX10_reads 174 = .ok (.getfield 174, 3) := by decide +kernel
theorem dX10_reads_177 : decode cX10_reads 177 = .ok (.invokevirtual 177, 3) := by decide +kernel
theorem dX10_reads_180 : decode cX10_reads 180 = .ok (.invokevirtual 197, 3) := by decide +kernel
theorem dX10_reads_183 : decode cX10_reads 183 = .ok (.ifCond .eq 56, 3) := by decide +kernel
theorem dX10_reads_186 : decode cX10_reads 186 = .ok (.aload_n 0, 1) := by decide +kernel
theorem dX10_reads_187 : decode cX10_reads 187 = .ok (.aload_n 0, 1) := by decide +kernel
theorem dX10_reads_188 : decode cX10_reads 188 = .ok (.getfield 187, 3) := by decide +kernel
theorem dX10_reads_191 : decode cX10_reads 191 = .ok (.sipush 10000, 3) := by decide +kernel
theorem dX10_reads_194 : decode cX10_reads 194 = .ok (.if_icmp .ge 25, 3) := by decide +kernel
theorem dX10_reads_197 : decode cX10_reads 197 = .ok (.bipush 10, 2) := by decide +kernel
theorem dX10_reads_199 : decode cX10_reads 199 = .ok (.aload_n 0, 1) := by decide +kernel
theorem dX10_reads_200 : decode cX10_reads 200 = .ok (.getfield 187, 3) := by decide +kernel
theorem dX10_reads_203 : decode cX10_reads 203 = .ok (.imul, 1) := by decide +kernel
theorem dX10_reads_204 : decode cX10_reads 204 = .ok (.aload_n 0, 1) := by decide +kernel
theorem dX10_reads_205 : decode cX10_reads 205 = .ok (.aload_n 0, 1) := by decide +kernel
theorem dX10_reads_206 : decode cX10_reads 206 = .ok (.getfield 174, 3) := by decide +kernel
theorem dX10_reads_209 : decode cX10_reads 209 = .ok (.invokevirtual 177, 3) := by decide +kernel
theorem dX10_reads_212 : decode cX10_reads 212 = .ok (.iadd, 1) := by decide +kernel
theorem dX10_reads_213 : decode cX10_reads 213 = .ok (.bipush 48, 2) := by decide +kernel
theorem dX10_reads_215 : decode cX10_reads 215 = .ok (.isub, 1) := by decide +kernel
theorem dX10_reads_216 : decode cX10_reads 216 = .ok (.goto 7, 3) := by decide +kernel
theorem dX10_reads_219 : decode cX10_reads 219 = .ok (.aload_n 0, 1) := by decide +kernel
theorem dX10_reads_220 : decode cX10_reads 220 = .ok (.getfield 187, 3) := by decide +kernel
theorem dX10_reads_223 : decode cX10_reads 223 = .ok (.putfield 187, 3) := by decide +kernel
theorem dX10_reads_226 : decode cX10_reads 226 = .ok (.aload_n 0, 1) := by decide +kernel
theorem dX10_reads_227 : decode cX10_reads 227 = .ok (.aload_n 0, 1) := by decide +kernel
theorem dX10_reads_228 : decode cX10_reads 228 = .ok (.getfield 174, 3) := by decide +kernel
theorem dX10_reads_231 : decode cX10_reads 231 = .ok (.iconst 1, 1) := by decide +kernel
theorem dX10_reads_232 : decode cX10_reads 232 = .ok (.iadd, 1) := by decide +kernel
theorem dX10_reads_233 : decode cX10_reads 233 = .ok (.putfield 174, 3) := by decide +kernel
theorem dX10_reads_236 : decode cX10_reads 236 = .ok (.goto (-65), 3) := by decide +kernel
theorem dX10_reads_239 : decode cX10_reads 239 = .ok (.aload_n 0, 1) := by decide +kernel
theorem dX10_reads_240 : decode cX10_reads 240 = .ok (.getfield 174, 3) := by decide +kernel
theorem dX10_reads_243 : decode cX10_reads 243 = .ok (.aload_n 0, 1) := by decide +kernel
theorem dX10_reads_244 : decode cX10_reads 244 = .ok (.getfield 181, 3) := by decide +kernel
theorem dX10_reads_247 : decode cX10_reads 247 = .ok (.isub, 1) := by decide +kernel
theorem dX10_reads_248 : decode cX10_reads 248 = .ok (.iconst 5, 1) := by decide +kernel
theorem dX10_reads_249 : decode cX10_reads 249 = .ok (.if_icmp .ge 24, 3) := by decide +kernel
theorem dX10_reads_252 : decode cX10_reads 252 = .ok (.aload_n 0, 1) := by decide +kernel
theorem dX10_reads_253 : decode cX10_reads 253 = .ok (.iconst 3, 1) := by decide +kernel
theorem dX10_reads_254 : decode cX10_reads 254 = .ok (.putfield 184, 3) := by decide +kernel
theorem dX10_reads_257 : decode cX10_reads 257 = .ok (.goto 16, 3) := by decide +kernel
theorem dX10_reads_260 : decode cX10_reads 260 = .ok (.aload_n 0, 1) := by decide +kernel
theorem dX10_reads_261 : decode cX10_reads 261 = .ok (.iload_n 1, 1) := by decide +kernel
theorem dX10_reads_262 : decode cX10_reads 262 = .ok (.invokevirtual 200, 3) := by decide +kernel
theorem dX10_reads_265 : decode cX10_reads 265 = .ok (.ifCond .eq 8, 3) := by decide +kernel
theorem dX10_reads_268 : decode cX10_reads 268 = .ok (.aload_n 0, 1) := by decide +kernel
theorem dX10_reads_269 : decode cX10_reads 269 = .ok (.iconst 4, 1) := by decide +kernel
theorem dX10_reads_270 : decode cX10_reads 270 = .ok (.putfield 184, 3) := by decide +kernel
theorem dX10_reads_273 : decode cX10_reads 273 = .ok (.return_, 1) := by decide +kernel
theorem dX10_errs_0 : decode cX10_errs 0 = .ok (.aload_n 0, 1) := by decide +kernel
theorem dX10_errs_1 : decode cX10_errs 1 = .ok (.iload_n 1, 1) := by decide +kernel
theorem dX10_errs_2 : decode cX10_errs 2 = .ok (.putfield 203, 3) := by decide +kernel
theorem dX10_errs_5 : decode cX10_errs 5 = .ok (.aload_n 0, 1) := by decide +kernel
theorem dX10_errs_6 : decode cX10_errs 6 = .ok (.aload_n 0, 1) := by decide +kernel
theorem dX10_errs_7 : decode cX10_errs 7 = .ok (.getfield 181, 3) := by decide +kernel
theorem dX10_errs_10 : decode cX10_errs 10 = .ok (.putfield 206, 3) := by decide +kernel
theorem dX10_errs_13 : decode cX10_errs 13 = .ok (.iconst (-1), 1) := by decide +kernel
theorem dX10_errs_14 : decode cX10_errs 14 = .ok (.ireturn, 1) := by decide +kernel
theorem dX10_isWord_0 : decode cX10_isWord 0 = .ok (.aload_n 0, 1) := by decide +kernel
theorem dX10_isWord_1 : decode cX10_isWord 1 = .ok (.getfield 184, 3) := by decide +kernel
theorem dX10_isWord_4 : decode cX10_isWord 4 = .ok (.iconst 2, 1) := by decide +kernel
theorem dX10_isWord_5 : decode cX10_isWord 5 = .ok (.if_icmp .ne 15, 3) := by decide +kernel
theorem dX10_isWord_8 : decode cX10_isWord 8 = .ok (.aload_n 0, 1) := by decide +kernel
theorem dX10_isWord_9 : decode cX10_isWord 9 = .ok (.getfield 187, 3) := by decide +kernel
theorem dX10_isWord_12 : decode cX10_isWord 12 = .ok (.iload_n 1, 1) := by decide +kernel
theorem dX10_isWord_13 : decode cX10_isWord 13 = .ok (.if_icmp .ne 7, 3) := by decide +kernel
theorem dX10_isWord_16 : decode cX10_isWord 16 = .ok (.iconst 1, 1) := by decide +kernel
theorem dX10_isWord_17 : decode cX10_isWord 17 = .ok (.goto 4, 3) := by decide +kernel
theorem dX10_isWord_20 : decode cX10_isWord 20 = .ok (.iconst 0, 1) := by decide +kernel
theorem dX10_isWord_21 : decode cX10_isWord 21 = .ok (.ireturn, 1) := by decide +kernel
theorem dX10_isSign_0 : decode cX10_isSign 0 = .ok (.aload_n 0, 1) := by decide +kernel
theorem dX10_isSign_1 : decode cX10_isSign 1 = .ok (.getfield 184, 3) := by decide +kernel
theorem dX10_isSign_4 : decode cX10_isSign 4 = .ok (.iconst 4, 1) := by decide +kernel
theorem dX10_isSign_5 : decode cX10_isSign 5 = .ok (.if_icmp .ne 15, 3) := by decide +kernel
theorem dX10_isSign_8 : decode cX10_isSign 8 = .ok (.aload_n 0, 1) := by decide +kernel
theorem dX10_isSign_9 : decode cX10_isSign 9 = .ok (.getfield 187, 3) := by decide +kernel
theorem dX10_isSign_12 : decode cX10_isSign 12 = .ok (.iload_n 1, 1) := by decide +kernel
theorem dX10_isSign_13 : decode cX10_isSign 13 = .ok (.if_icmp .ne 7, 3) := by decide +kernel
theorem dX10_isSign_16 : decode cX10_isSign 16 = .ok (.iconst 1, 1) := by decide +kernel
theorem dX10_isSign_17 : decode cX10_isSign 17 = .ok (.goto 4, 3) := by decide +kernel
theorem dX10_isSign_20 : decode cX10_isSign 20 = .ok (.iconst 0, 1) := by decide +kernel
theorem dX10_isSign_21 : decode cX10_isSign 21 = .ok (.ireturn, 1) := by decide +kernel
theorem dX10_emits_0 : decode cX10_emits 0 = .ok (.aload_n 0, 1) := by decide +kernel
theorem dX10_emits_1 : decode cX10_emits 1 = .ok (.getfield 55, 3) := by decide +kernel
theorem dX10_emits_4 : decode cX10_emits 4 = .ok (.sipush 800, 3) := by decide +kernel
theorem dX10_emits_7 : decode cX10_emits 7 = .ok (.aload_n 0, 1) := by decide +kernel
theorem dX10_emits_8 : decode cX10_emits 8 = .ok (.getfield 209, 3) := by decide +kernel
theorem dX10_emits_11 : decode cX10_emits 11 = .ok (.iadd, 1) := by decide +kernel
theorem dX10_emits_12 : decode cX10_emits 12 = .ok (.iload_n 1, 1) := by decide +kernel
theorem dX10_emits_13 : decode cX10_emits 13 = .ok (.iastore, 1) := by decide +kernel
theorem dX10_emits_14 : decode cX10_emits 14 = .ok (.aload_n 0, 1) := by decide +kernel
theorem dX10_emits_15 : decode cX10_emits 15 = .ok (.getfield 58, 3) := by decide +kernel
theorem dX10_emits_18 : decode cX10_emits 18 = .ok (.sipush 800, 3) := by decide +kernel
theorem dX10_emits_21 : decode cX10_emits 21 = .ok (.aload_n 0, 1) := by decide +kernel
theorem dX10_emits_22 : decode cX10_emits 22 = .ok (.getfield 209, 3) := by decide +kernel
theorem dX10_emits_25 : decode cX10_emits 25 = .ok (.iadd, 1) := by decide +kernel
theorem dX10_emits_26 : decode cX10_emits 26 = .ok (.iload_n 2, 1) := by decide +kernel
theorem dX10_emits_27 : decode cX10_emits 27 = .ok (.iastore, 1) := by decide +kernel
theorem dX10_emits_28 : decode cX10_emits 28 = .ok (.aload_n 0, 1) := by decide +kernel
theorem dX10_emits_29 : decode cX10_emits 29 = .ok (.aload_n 0, 1) := by decide +kernel
theorem dX10_emits_30 : decode cX10_emits 30 = .ok (.getfield 209, 3) := by decide +kernel
theorem dX10_emits_33 : decode cX10_emits 33 = .ok (.iconst 1, 1) := by decide +kernel
theorem dX10_emits_34 : decode cX10_emits 34 = .ok (.iadd, 1) := by decide +kernel
theorem dX10_emits_35 : decode cX10_emits 35 = .ok (.putfield 209, 3) := by decide +kernel
theorem dX10_emits_38 : decode cX10_emits 38 = .ok (.return_, 1) := by decide +kernel
theorem dX10_canAsk_0 : decode cX10_canAsk 0 = .ok (.aload_n 0, 1) := by decide +kernel
theorem dX10_canAsk_1 : decode cX10_canAsk 1 = .ok (.iload_n 1, 1) := by decide +kernel
theorem dX10_canAsk_2 : decode cX10_canAsk 2 = .ok (.bipush 7, 2) := by decide +kernel
theorem dX10_canAsk_4 : decode cX10_canAsk 4 = .ok (.bipush 16, 2) := by decide +kernel
theorem dX10_canAsk_6 : decode cX10_canAsk 6 = .ok (.invokevirtual 149, 3) := by decide +kernel
theorem dX10_canAsk_9 : decode cX10_canAsk 9 = .ok (.ireturn, 1) := by decide +kernel
theorem dX10_readUnit_0 : decode cX10_readUnit 0 = .ok (.aload_n 0, 1) := by decide +kernel
theorem dX10_readUnit_1 : decode cX10_readUnit 1 = .ok (.getfield 184, 3) := by decide +kernel
theorem dX10_readUnit_4 : decode cX10_readUnit 4 = .ok (.iconst 2, 1) := by decide +kernel
theorem dX10_readUnit_5 : decode cX10_readUnit 5 = .ok (.if_icmp .ne 18, 3) := by decide +kernel
theorem dX10_readUnit_8 : decode cX10_readUnit 8 = .ok (.aload_n 0, 1) := by decide +kernel
theorem dX10_readUnit_9 : decode cX10_readUnit 9 = .ok (.aload_n 0, 1) := by decide +kernel
theorem dX10_readUnit_10 : decode cX10_readUnit 10 = .ok (.getfield 187, 3) := by decide +kernel
theorem dX10_readUnit_13 : decode cX10_readUnit 13 = .ok (.invokevirtual 212, 3) := by decide +kernel
theorem dX10_readUnit_16 : decode cX10_readUnit 16 = .ok (.ifCond .eq 7, 3) := by decide +kernel
theorem dX10_readUnit_19 : decode cX10_readUnit 19 = .ok (.iconst 1, 1) := by decide +kernel
theorem dX10_readUnit_20 : decode cX10_readUnit 20 = .ok (.goto 4, 3) := by decide +kernel
theorem dX10_readUnit_23 : decode cX10_readUnit 23 = .ok (.iconst 0, 1) := by decide +kernel
theorem dX10_readUnit_24 : decode cX10_readUnit 24 = .ok (.istore_n 1, 1) := by decide +kernel
theorem dX10_readUnit_25 : decode cX10_readUnit 25 = .ok (.iload_n 1, 1) := by decide +kernel
theorem dX10_readUnit_26 : decode cX10_readUnit 26 = .ok (.ifCond .ne 17, 3) := by decide +kernel
theorem dX10_readUnit_29 : decode cX10_readUnit 29 = .ok (.aload_n 0, 1) := by decide +kernel
theorem dX10_readUnit_30 : decode cX10_readUnit 30 = .ok (.getfield 184, 3) := by decide +kernel
theorem dX10_readUnit_33 : decode cX10_readUnit 33 = .ok (.iconst 3, 1) := by decide +kernel
theorem dX10_readUnit_34 : decode cX10_readUnit 34 = .ok (.if_icmp .eq 9, 3) := by decide +kernel
theorem dX10_readUnit_37 : decode cX10_readUnit 37 = .ok (.aload_n 0, 1) := by decide +kernel
theorem dX10_readUnit_38 : decode cX10_readUnit 38 = .ok (.iconst 1, 1) := by decide +kernel
theorem dX10_readUnit_39 : decode cX10_readUnit 39 = .ok (.invokevirtual 215, 3) := by decide +kernel
theorem dX10_readUnit_42 : decode cX10_readUnit 42 = .ok (.ireturn, 1) := by decide +kernel
theorem dX10_readUnit_43 : decode cX10_readUnit 43 = .ok (.aload_n 0, 1) := by decide +kernel
theorem dX10_readUnit_44 : decode cX10_readUnit 44 = .ok (.iload_n 1, 1) := by decide +kernel
theorem dX10_readUnit_45 : decode cX10_readUnit 45 = .ok (.ifCond .eq 7, 3) := by decide +kernel
theorem dX10_readUnit_48 : decode cX10_readUnit 48 = .ok (.iconst 1, 1) := by decide +kernel
theorem dX10_readUnit_49 : decode cX10_readUnit 49 = .ok (.goto 4, 3) := by decide +kernel
theorem dX10_readUnit_52 : decode cX10_readUnit 52 = .ok (.iconst 0, 1) := by decide +kernel
theorem dX10_readUnit_53 : decode cX10_readUnit 53 = .ok (.iload_n 1, 1) := by decide +kernel
theorem dX10_readUnit_54 : decode cX10_readUnit 54 = .ok (.ifCond .eq 13, 3) := by decide +kernel
theorem dX10_readUnit_57 : decode cX10_readUnit 57 = .ok (.aload_n 0, 1) := by decide +kernel
theorem dX10_readUnit_58 : decode cX10_readUnit 58 = .ok (.getfield 187, 3) := by decide +kernel
theorem dX10_readUnit_61 : decode cX10_readUnit 61 = .ok (.bipush 7, 2) := by decide +kernel
theorem dX10_readUnit_63 : decode cX10_readUnit 63 = .ok (.isub, 1) := by decide +kernel
theorem dX10_readUnit_64 : decode cX10_readUnit 64 = .ok (.goto 7, 3) := by decide +kernel
theorem dX10_readUnit_67 : decode cX10_readUnit 67 = .ok (.aload_n 0, 1) := by decide +kernel
theorem dX10_readUnit_68 : decode cX10_readUnit 68 = .ok (.getfield 187, 3) := by decide +kernel
theorem dX10_readUnit_71 : decode cX10_readUnit 71 = .ok (.invokevirtual 218, 3) := by decide +kernel
theorem dX10_readUnit_74 : decode cX10_readUnit 74 = .ok (.aload_n 0, 1) := by decide +kernel
theorem dX10_readUnit_75 : decode cX10_readUnit 75 = .ok (.invokevirtual 222, 3) := by decide +kernel
theorem dX10_readUnit_78 : decode cX10_readUnit 78 = .ok (.iconst 0, 1) := by decide +kernel
theorem dX10_readUnit_79 : decode cX10_readUnit 79 = .ok (.ireturn, 1) := by decide +kernel
theorem dX10_readProduct_0 : decode cX10_readProduct 0 = .ok (.aload_n 0, 1) := by decide +kernel
theorem dX10_readProduct_1 : decode cX10_readProduct 1 = .ok (.invokevirtual 225, 3) := by decide +kernel
theorem dX10_readProduct_4 : decode cX10_readProduct 4 = .ok (.iconst (-1), 1) := by decide +kernel
theorem dX10_readProduct_5 : decode cX10_readProduct 5 = .ok (.if_icmp .ne 5, 3) := by decide +kernel
theorem dX10_readProduct_8 : decode cX10_readProduct 8 = .ok (.iconst (-1), 1) := by decide +kernel
theorem dX10_readProduct_9 : decode cX10_readProduct 9 = .ok (.ireturn, 1) := by decide +kernel
theorem dX10_readProduct_10 : decode cX10_readProduct 10 = .ok (.aload_n 0, 1) := by decide +kernel
theorem dX10_readProduct_11 : decode cX10_readProduct 11 = .ok (.bipush 42, 2) := by decide +kernel
theorem dX10_readProduct_13 : decode cX10_readProduct 13 = .ok (.invokevirtual 229, 3) := by decide +kernel
theorem dX10_readProduct_16 : decode cX10_readProduct 16 = .ok (.ifCond .ne 12, 3) := by decide +kernel
theorem dX10_readProduct_19 : decode cX10_readProduct 19 = .ok (.aload_n 0, 1) := by decide +kernel
theorem dX10_readProduct_20 : decode cX10_readProduct 20 = .ok (.bipush 47, 2) := by decide +kernel
theorem dX10_readProduct_22 : decode cX10_readProduct 22 = .ok (.invokevirtual 229, 3) := by decide +kernel
theorem dX10_readProduct_25 : decode cX10_readProduct 25 = .ok (.ifCond .eq 76, 3) := by decide +kernel
theorem dX10_readProduct_28 : decode cX10_readProduct 28 = .ok (.aload_n 0, 1) := by decide +kernel
theorem dX10_readProduct_29 : decode cX10_readProduct 29 = .ok (.bipush 42, 2) := by decide +kernel
theorem dX10_readProduct_31 : decode cX10_readProduct 31 = .ok (.invokevirtual 229, 3) := by decide +kernel
theorem dX10_readProduct_34 : decode cX10_readProduct 34 = .ok (.istore_n 1, 1) := by decide +kernel
theorem dX10_readProduct_35 : decode cX10_readProduct 35 = .ok (.aload_n 0, 1) := by decide +kernel
theorem dX10_readProduct_36 : decode cX10_readProduct 36 = .ok (.invokevirtual 222, 3) := by decide +kernel
theorem dX10_readProduct_39 : decode cX10_readProduct 39 = .ok (.iload_n 1, 1) := by decide +kernel
theorem dX10_readProduct_40 : decode cX10_readProduct 40 = .ok (.ifCond .ne 17, 3) := by decide +kernel
theorem dX10_readProduct_43 : decode cX10_readProduct 43 = .ok (.aload_n 0, 1) := by decide +kernel
theorem dX10_readProduct_44 : decode cX10_readProduct 44 = .ok (.getfield 184, 3) := by decide +kernel
theorem dX10_readProduct_47 : decode cX10_readProduct 47 = .ok (.iconst 3, 1) := by decide +kernel
theorem dX10_readProduct_48 : decode cX10_readProduct 48 = .ok (.if_icmp .eq 9, 3) := by decide +kernel
theorem dX10_readProduct_51 : decode cX10_readProduct 51 = .ok (.aload_n 0, 1) := by decide +kernel
theorem dX10_readProduct_52 : decode cX10_readProduct 52 = .ok (.iconst 1, 1) := by decide +kernel
theorem dX10_readProduct_53 : decode cX10_readProduct 53 = .ok (.invokevirtual 215, 3) := by decide +kernel
theorem dX10_readProduct_56 : decode cX10_readProduct 56 = .ok (.ireturn, 1) := by decide +kernel
theorem dX10_readProduct_57 : decode cX10_readProduct 57 = .ok (.iload_n 1, 1) := by decide +kernel
theorem dX10_readProduct_58 : decode cX10_readProduct 58 = .ok (.ifCond .ne 16, 3) := by decide +kernel
theorem dX10_readProduct_61 : decode cX10_readProduct 61 = .ok (.aload_n 0, 1) := by decide +kernel
theorem dX10_readProduct_62 : decode cX10_readProduct 62 = .ok (.getfield 187, 3) := by decide +kernel
theorem dX10_readProduct_65 : decode cX10_readProduct 65 = .ok (.ifCond .ne 9, 3) := by decide +kernel
theorem dX10_readProduct_68 : decode cX10_readProduct 68 = .ok (.aload_n 0, 1) := by decide +kernel
theorem dX10_readProduct_69 : decode cX10_readProduct 69 = .ok (.iconst 2, 1) := by decide +kernel
theorem dX10_readProduct_70 : decode cX10_readProduct 70 = .ok (.invokevirtual 215, 3) := by decide +kernel
theorem dX10_readProduct_73 : decode cX10_readProduct 73 = .ok (.ireturn, 1) := by decide +kernel
theorem dX10_readProduct_74 : decode cX10_readProduct 74 = .ok (.aload_n 0, 1) := by decide +kernel
theorem dX10_readProduct_75 : decode cX10_readProduct 75 = .ok (.invokevirtual 225, 3) := by decide +kernel
theorem dX10_readProduct_78 : decode cX10_readProduct 78 = .ok (.iconst (-1), 1) := by decide +kernel
theorem dX10_readProduct_79 : decode cX10_readProduct 79 = .ok (.if_icmp .ne 5, 3) := by decide +kernel
theorem dX10_readProduct_82 : decode cX10_readProduct 82 = .ok (.iconst (-1), 1) := by decide +kernel
theorem dX10_readProduct_83 : decode cX10_readProduct 83 = .ok (.ireturn, 1) := by decide +kernel
theorem dX10_readProduct_84 : decode cX10_readProduct 84 = .ok (.aload_n 0, 1) := by decide +kernel
theorem dX10_readProduct_85 : decode cX10_readProduct 85 = .ok (.iload_n 1, 1) := by decide +kernel
theorem dX10_readProduct_86 : decode cX10_readProduct 86 = .ok (.ifCond .eq 7, 3) := by decide +kernel
theorem dX10_readProduct_89 : decode cX10_readProduct 89 = .ok (.iconst 4, 1) := by decide +kernel
theorem dX10_readProduct_90 : decode cX10_readProduct 90 = .ok (.goto 4, 3) := by decide +kernel
theorem dX10_readProduct_93 : decode cX10_readProduct 93 = .ok (.iconst 5, 1) := by decide +kernel
theorem dX10_readProduct_94 : decode cX10_readProduct 94 = .ok (.iconst 0, 1) := by decide +kernel
theorem dX10_readProduct_95 : decode cX10_readProduct 95 = .ok (.invokevirtual 218, 3) := by decide +kernel
theorem dX10_readProduct_98 : decode cX10_readProduct 98 = .ok (.goto (-88), 3) := by decide +kernel
theorem dX10_readProduct_101 : decode cX10_readProduct 101 = .ok (.iconst 0, 1) := by decide +kernel
theorem dX10_readProduct_102 : decode cX10_readProduct 102 = .ok (.ireturn, 1) := by decide +kernel
theorem dX10_readSum_0 : decode cX10_readSum 0 = .ok (.aload_n 0, 1) := by decide +kernel
theorem dX10_readSum_1 : decode cX10_readSum 1 = .ok (.invokevirtual 232, 3) := by decide +kernel
theorem dX10_readSum_4 : decode cX10_readSum 4 = .ok (.iconst (-1), 1) := by decide +kernel
theorem dX10_readSum_5 : decode cX10_readSum 5 = .ok (.if_icmp .ne 5, 3) := by decide +kernel
theorem dX10_readSum_8 : decode cX10_readSum 8 = .ok (.iconst (-1), 1) := by decide +kernel
theorem dX10_readSum_9 : decode cX10_readSum 9 = .ok (.ireturn, 1) := by decide +kernel
theorem dX10_readSum_10 : decode cX10_readSum 10 = .ok (.aload_n 0, 1) := by decide +kernel
theorem dX10_readSum_11 : decode cX10_readSum 11 = .ok (.bipush 43, 2) := by decide +kernel
theorem dX10_readSum_13 : decode cX10_readSum 13 = .ok (.invokevirtual 229, 3) := by decide +kernel
theorem dX10_readSum_16 : decode cX10_readSum 16 = .ok (.ifCond .ne 12, 3) := by decide +kernel
theorem dX10_readSum_19 : decode cX10_readSum 19 = .ok (.aload_n 0, 1) := by decide +kernel
theorem dX10_readSum_20 : decode cX10_readSum 20 = .ok (.bipush 45, 2) := by decide +kernel
theorem dX10_readSum_22 : decode cX10_readSum 22 = .ok (.invokevirtual 229, 3) := by decide +kernel
theorem dX10_readSum_25 : decode cX10_readSum 25 = .ok (.ifCond .eq 41, 3) := by decide +kernel
theorem dX10_readSum_28 : decode cX10_readSum 28 = .ok (.aload_n 0, 1) := by decide +kernel
theorem dX10_readSum_29 : decode cX10_readSum 29 = .ok (.getfield 187, 3) := by decide +kernel
theorem dX10_readSum_32 : decode cX10_readSum 32 = .ok (.bipush 43, 2) := by decide +kernel
theorem dX10_readSum_34 : decode cX10_readSum 34 = .ok (.if_icmp .ne 7, 3) := by decide +kernel
theorem dX10_readSum_37 : decode cX10_readSum 37 = .ok (.iconst 2, 1) := by decide +kernel
theorem dX10_readSum_38 : decode cX10_readSum 38 = .ok (.goto 4, 3) := by decide +kernel
theorem dX10_readSum_41 : decode cX10_readSum 41 = .ok (.iconst 3, 1) := by decide +kernel
theorem dX10_readSum_42 : decode cX10_readSum 42 = .ok (.istore_n 1, 1) := by decide +kernel
theorem dX10_readSum_43 : decode cX10_readSum 43 = .ok (.aload_n 0, 1) := by decide +kernel
theorem dX10_readSum_44 : decode cX10_readSum 44 = .ok (.invokevirtual 222, 3) := by decide +kernel
theorem dX10_readSum_47 : decode cX10_readSum 47 = .ok (.aload_n 0, 1) := by decide +kernel
theorem dX10_readSum_48 : decode cX10_readSum 48 = .ok (.invokevirtual 232, 3) := by decide +kernel
theorem dX10_readSum_51 : decode cX10_readSum 51 = .ok (.iconst (-1), 1) := by decide +kernel
theorem dX10_readSum_52 : decode cX10_readSum 52 = .ok (.if_icmp .ne 5, 3) := by decide +kernel
theorem dX10_readSum_55 : decode cX10_readSum 55 = .ok (.iconst (-1), 1) := by decide +kernel
theorem dX10_readSum_56 : decode cX10_readSum 56 = .ok (.ireturn, 1) := by decide +kernel
theorem dX10_readSum_57 : decode cX10_readSum 57 = .ok (.aload_n 0, 1) := by decide +kernel
theorem dX10_readSum_58 : decode cX10_readSum 58 = .ok (.iload_n 1, 1) := by decide +kernel
theorem dX10_readSum_59 : decode cX10_readSum 59 = .ok (.iconst 0, 1) := by decide +kernel
theorem dX10_readSum_60 : decode cX10_readSum 60 = .ok (.invokevirtual 218, 3) := by decide +kernel
theorem dX10_readSum_63 : decode cX10_readSum 63 = .ok (.goto (-53), 3) := by decide +kernel
theorem dX10_readSum_66 : decode cX10_readSum 66 = .ok (.iconst 0, 1) := by decide +kernel
theorem dX10_readSum_67 : decode cX10_readSum 67 = .ok (.ireturn, 1) := by decide +kernel
theorem dX10_readCompared_0 : decode cX10_readCompared 0 = .ok (.aload_n 0, 1) := by decide +kernel
theorem dX10_readCompared_1 : decode cX10_readCompared 1 = .ok (.invokevirtual 235, 3) := by decide +kernel
theorem dX10_readCompared_4 : decode cX10_readCompared 4 = .ok (.iconst (-1), 1) := by decide +kernel
theorem dX10_readCompared_5 : decode cX10_readCompared 5 = .ok (.if_icmp .ne 5, 3) := by decide +kernel
theorem dX10_readCompared_8 : decode cX10_readCompared 8 = .ok (.iconst (-1), 1) := by decide +kernel
theorem dX10_readCompared_9 : decode cX10_readCompared 9 = .ok (.ireturn, 1) := by decide +kernel
theorem dX10_readCompared_10 : decode cX10_readCompared 10 = .ok (.aload_n 0, 1) := by decide +kernel
theorem dX10_readCompared_11 : decode cX10_readCompared 11 = .ok (.bipush 60, 2) := by decide +kernel
theorem dX10_readCompared_13 : decode cX10_readCompared 13 = .ok (.invokevirtual 229, 3) := by decide +kernel
theorem dX10_readCompared_16 : decode cX10_readCompared 16 = .ok (.ifCond .ne 27, 3) := by decide +kernel
theorem dX10_readCompared_19 : decode cX10_readCompared 19 = .ok (.aload_n 0, 1) := by decide +kernel
theorem dX10_readCompared_20 : decode cX10_readCompared 20 = .ok (.bipush 61, 2) := by decide +kernel
theorem dX10_readCompared_22 : decode cX10_readCompared 22 = .ok (.invokevirtual 229, 3) := by decide +kernel
theorem dX10_readCompared_25 : decode cX10_readCompared 25 = .ok (.ifCond .ne 18, 3) := by decide +kernel
theorem dX10_readCompared_28 : decode cX10_readCompared 28 = .ok (.aload_n 0, 1) := by decide +kernel
theorem dX10_readCompared_29 : decode cX10_readCompared 29 = .ok (.bipush 62, 2) := by decide +kernel
theorem dX10_readCompared_31 : decode cX10_readCompared 31 = .ok (.invokevirtual 229, 3) := by decide +kernel
theorem dX10_readCompared_34 : decode cX10_readCompared 34 = .ok (.ifCond .ne 9, 3) := by decide +kernel
theorem dX10_readCompared_37 : decode cX10_readCompared 37 = .ok (.aload_n 0, 1) := by decide +kernel
theorem dX10_readCompared_38 : decode cX10_readCompared 38 = .ok (.iconst 1, 1) := by decide +kernel
theorem dX10_readCompared_39 : decode cX10_readCompared 39 = .ok (.invokevirtual 215, 3) := by decide +kernel
theorem dX10_readCompared_42 : decode cX10_readCompared 42 = .ok (.ireturn, 1) := by decide +kernel
theorem dX10_readCompared_43 : decode cX10_readCompared 43 = .ok (.aload_n 0, 1) := by decide +kernel
theorem dX10_readCompared_44 : decode cX10_readCompared 44 = .ok (.getfield 187, 3) := by decide +kernel
theorem dX10_readCompared_47 : decode cX10_readCompared 47 = .ok (.bipush 60, 2) := by decide +kernel
theorem dX10_readCompared_49 : decode cX10_readCompared 49 = .ok (.if_icmp .ne 8, 3) := by decide +kernel
theorem dX10_readCompared_52 : decode cX10_readCompared 52 = .ok (.bipush 6, 2) := by decide +kernel
theorem dX10_readCompared_54 : decode cX10_readCompared 54 = .ok (.goto 19, 3) := by decide +kernel
theorem dX10_readCompared_57 : decode cX10_readCompared 57 = .ok (.aload_n 0, 1) := by decide +kernel
theorem dX10_readCompared_58 : decode cX10_readCompared 58 = .ok (.getfield 187, 3) := by decide +kernel
theorem dX10_readCompared_61 : decode cX10_readCompared 61 = .ok (.bipush 61, 2) := by decide +kernel
theorem dX10_readCompared_63 : decode cX10_readCompared 63 = .ok (.if_icmp .ne 8, 3) := by decide +kernel
theorem dX10_readCompared_66 : decode cX10_readCompared 66 = .ok (.bipush 7, 2) := by decide +kernel
theorem dX10_readCompared_68 : decode cX10_readCompared 68 = .ok (.goto 5, 3) := by decide +kernel
theorem dX10_readCompared_71 : decode cX10_readCompared 71 = .ok (.bipush 8, 2) := by decide +kernel
theorem dX10_readCompared_73 : decode cX10_readCompared 73 = .ok (.istore_n 1, 1) := by decide +kernel
theorem dX10_readCompared_74 : decode cX10_readCompared 74 = .ok (.aload_n 0, 1) := by decide +kernel
theorem dX10_readCompared_75 : decode cX10_readCompared 75 = .ok (.invokevirtual 222, 3) := by decide +kernel
theorem dX10_readCompared_78 : decode cX10_readCompared 78 = .ok (.aload_n 0, 1) := by decide +kernel
theorem dX10_readCompared_79 : decode cX10_readCompared 79 = .ok (.invokevirtual 235, 3) := by decide +kernel
theorem dX10_readCompared_82 : decode cX10_readCompared 82 = .ok (.iconst (-1), 1) := by decide +kernel
theorem dX10_readCompared_83 : decode cX10_readCompared 83 = .ok (.if_icmp .ne 5, 3) := by decide +kernel
theorem dX10_readCompared_86 : decode cX10_readCompared 86 = .ok (.iconst (-1), 1) := by decide +kernel
theorem dX10_readCompared_87 : decode cX10_readCompared 87 = .ok (.ireturn, 1) := by decide +kernel
theorem dX10_readCompared_88 : decode cX10_readCompared 88 = .ok (.aload_n 0, 1) := by decide +kernel
theorem dX10_readCompared_89 : decode cX10_readCompared 89 = .ok (.iload_n 1, 1) := by decide +kernel
theorem dX10_readCompared_90 : decode cX10_readCompared 90 = .ok (.iconst 0, 1) := by decide +kernel
theorem dX10_readCompared_91 : decode cX10_readCompared 91 = .ok (.invokevirtual 218, 3) := by decide +kernel
theorem dX10_readCompared_94 : decode cX10_readCompared 94 = .ok (.iconst 0, 1) := by decide +kernel
theorem dX10_readCompared_95 : decode cX10_readCompared 95 = .ok (.ireturn, 1) := by decide +kernel
theorem dX10_waits_0 : decode cX10_waits 0 = .ok (.aload_n 0, 1) := by decide +kernel
theorem dX10_waits_1 : decode cX10_waits 1 = .ok (.getfield 61, 3) := by decide +kernel
theorem dX10_waits_4 : decode cX10_waits 4 = .ok (.aload_n 0, 1) := by decide +kernel
theorem dX10_waits_5 : decode cX10_waits 5 = .ok (.getfield 238, 3) := by decide +kernel
theorem dX10_waits_8 : decode cX10_waits 8 = .ok (.iload_n 1, 1) := by decide +kernel
theorem dX10_waits_9 : decode cX10_waits 9 = .ok (.iastore, 1) := by decide +kernel
theorem dX10_waits_10 : decode cX10_waits 10 = .ok (.aload_n 0, 1) := by decide +kernel
theorem dX10_waits_11 : decode cX10_waits 11 = .ok (.aload_n 0, 1) := by decide +kernel
theorem dX10_waits_12 : decode cX10_waits 12 = .ok (.getfield 238, 3) := by decide +kernel
theorem dX10_waits_15 : decode cX10_waits 15 = .ok (.iconst 1, 1) := by decide +kernel
theorem dX10_waits_16 : decode cX10_waits 16 = .ok (.iadd, 1) := by decide +kernel
theorem dX10_waits_17 : decode cX10_waits 17 = .ok (.putfield 238, 3) := by decide +kernel
theorem dX10_waits_20 : decode cX10_waits 20 = .ok (.return_, 1) := by decide +kernel
theorem dX10_settles_0 : decode cX10_settles 0 = .ok (.aload_n 0, 1) := by decide +kernel
theorem dX10_settles_1 : decode cX10_settles 1 = .ok (.getfield 238, 3) := by decide +kernel
theorem dX10_settles_4 : decode cX10_settles 4 = .ok (.ifCond .le 53, 3) := by decide +kernel
theorem dX10_settles_7 : decode cX10_settles 7 = .ok (.aload_n 0, 1) := by decide +kernel
theorem dX10_settles_8 : decode cX10_settles 8 = .ok (.getfield 61, 3) := by decide +kernel
theorem dX10_settles_11 : decode cX10_settles 11 = .ok (.aload_n 0, 1) := by decide +kernel
theorem dX10_settles_12 : decode cX10_settles 12 = .ok (.getfield 238, 3) := by decide +kernel
theorem dX10_settles_15 : decode cX10_settles 15 = .ok (.iconst 1, 1) := by decide +kernel
theorem dX10_settles_16 : decode cX10_settles 16 = .ok (.isub, 1) := by decide +kernel
theorem dX10_settles_17 : decode cX10_settles 17 = .ok (.iaload, 1) := by decide +kernel
theorem dX10_settles_18 : decode cX10_settles 18 = .ok (.iload_n 1, 1) := by decide +kernel
theorem dX10_settles_19 : decode cX10_settles 19 = .ok (.if_icmp .ne 38, 3) := by decide +kernel
theorem dX10_settles_22 : decode cX10_settles 22 = .ok (.aload_n 0, 1) := by decide +kernel
theorem dX10_settles_23 : decode cX10_settles 23 = .ok (.aload_n 0, 1) := by decide +kernel
theorem dX10_settles_24 : decode cX10_settles 24 = .ok (.getfield 238, 3) := by decide +kernel
theorem dX10_settles_27 : decode cX10_settles 27 = .ok (.iconst 1, 1) := by decide +kernel
theorem dX10_settles_28 : decode cX10_settles 28 = .ok (.isub, 1) := by decide +kernel
theorem dX10_settles_29 : decode cX10_settles 29 = .ok (.putfield 238, 3) := by decide +kernel
theorem dX10_settles_32 : decode cX10_settles 32 = .ok (.aload_n 0, 1) := by decide +kernel
theorem dX10_settles_33 : decode cX10_settles 33 = .ok (.iload_n 1, 1) := by decide +kernel
theorem dX10_settles_34 : decode cX10_settles 34 = .ok (.iconst 0, 1) := by decide +kernel
theorem dX10_settles_35 : decode cX10_settles 35 = .ok (.invokevirtual 218, 3) := by decide +kernel
theorem dX10_settles_38 : decode cX10_settles 38 = .ok (.iload_n 1, 1) := by decide +kernel
theorem dX10_settles_39 : decode cX10_settles 39 = .ok (.bipush 9, 2) := by decide +kernel
theorem dX10_settles_41 : decode cX10_settles 41 = .ok (.if_icmp .ne (-41), 3) := by decide +kernel
theorem dX10_settles_44 : decode cX10_settles 44 = .ok (.aload_n 0, 1) := by decide +kernel
theorem dX10_settles_45 : decode cX10_settles 45 = .ok (.aload_n 0, 1) := by decide +kernel
theorem dX10_settles_46 : decode cX10_settles 46 = .ok (.getfield 241, 3) := by decide +kernel
theorem dX10_settles_49 : decode cX10_settles 49 = .ok (.iconst 1, 1) := by decide +kernel
theorem dX10_settles_50 : decode cX10_settles 50 = .ok (.isub, 1) := by decide +kernel
theorem dX10_settles_51 : decode cX10_settles 51 = .ok (.putfield 241, 3) := by decide +kernel
theorem dX10_settles_54 : decode cX10_settles 54 = .ok (.goto (-54), 3) := by decide +kernel
theorem dX10_settles_57 : decode cX10_settles 57 = .ok (.return_, 1) := by decide +kernel
theorem dX10_readAny_0 : decode cX10_readAny 0 = .ok (.iconst 0, 1) := by decide +kernel
theorem dX10_readAny_1 : decode cX10_readAny 1 = .ok (.istore_n 1, 1) := by decide +kernel
theorem dX10_readAny_2 : decode cX10_readAny 2 = .ok (.aload_n 0, 1) := by decide +kernel
theorem dX10_readAny_3 : decode cX10_readAny 3 = .ok (.iconst 0, 1) := by decide +kernel
theorem dX10_readAny_4 : decode cX10_readAny 4 = .ok (.putfield 238, 3) := by decide +kernel
theorem dX10_readAny_7 : decode cX10_readAny 7 = .ok (.iconst 1, 1) := by decide +kernel
theorem dX10_readAny_8 : decode cX10_readAny 8 = .ok (.istore_n 2, 1) := by decide +kernel
theorem dX10_readAny_9 : decode cX10_readAny 9 = .ok (.iload_n 2, 1) := by decide +kernel
theorem dX10_readAny_10 : decode cX10_readAny 10 = .ok (.ifCond .eq 99, 3) := by decide +kernel
theorem dX10_readAny_13 : decode cX10_readAny 13 = .ok (.aload_n 0, 1) := by decide +kernel
theorem dX10_readAny_14 : decode cX10_readAny 14 = .ok (.bipush 6, 2) := by decide +kernel
theorem dX10_readAny_16 : decode cX10_readAny 16 = .ok (.invokevirtual 244, 3) := by decide +kernel
theorem dX10_readAny_19 : decode cX10_readAny 19 = .ok (.istore_n 3, 1) := by decide +kernel
theorem dX10_readAny_20 : decode cX10_readAny 20 = .ok (.iload_n 3, 1) := by decide +kernel
theorem dX10_readAny_21 : decode cX10_readAny 21 = .ok (.ifCond .ne 12, 3) := by decide +kernel
theorem dX10_readAny_24 : decode cX10_readAny 24 = .ok (.aload_n 0, 1) := by decide +kernel
theorem dX10_readAny_25 : decode cX10_readAny 25 = .ok (.bipush 40, 2) := by decide +kernel
theorem dX10_readAny_27 : decode cX10_readAny 27 = .ok (.invokevirtual 229, 3) := by decide +kernel
theorem dX10_readAny_30 : decode cX10_readAny 30 = .ok (.ifCond .eq 58, 3) := by decide +kernel
theorem dX10_readAny_33 : decode cX10_readAny 33 = .ok (.aload_n 0, 1) := by decide +kernel
theorem dX10_readAny_34 : decode cX10_readAny 34 = .ok (.getfield 241, 3) := by decide +kernel
theorem dX10_readAny_37 : decode cX10_readAny 37 = .ok (.bipush 8, 2) := by decide +kernel
theorem dX10_readAny_39 : decode cX10_readAny 39 = .ok (.if_icmp .ne 9, 3) := by decide +kernel
theorem dX10_readAny_42 : decode cX10_readAny 42 = .ok (.aload_n 0, 1) := by decide +kernel
theorem dX10_readAny_43 : decode cX10_readAny 43 = .ok (.iconst 3, 1) := by decide +kernel
theorem dX10_readAny_44 : decode cX10_readAny 44 = .ok (.invokevirtual 215, 3) := by decide +kernel
theorem dX10_readAny_47 : decode cX10_readAny 47 = .ok (.ireturn, 1) := by decide +kernel
theorem dX10_readAny_48 : decode cX10_readAny 48 = .ok (.aload_n 0, 1) := by decide +kernel
theorem dX10_readAny_49 : decode cX10_readAny 49 = .ok (.aload_n 0, 1) := by decide +kernel
theorem dX10_readAny_50 : decode cX10_readAny 50 = .ok (.getfield 241, 3) := by decide +kernel
theorem dX10_readAny_53 : decode cX10_readAny 53 = .ok (.iconst 1, 1) := by decide +kernel
theorem dX10_readAny_54 : decode cX10_readAny 54 = .ok (.iadd, 1) := by decide +kernel
theorem dX10_readAny_55 : decode cX10_readAny 55 = .ok (.putfield 241, 3) := by decide +kernel
theorem dX10_readAny_58 : decode cX10_readAny 58 = .ok (.iload_n 3, 1) := by decide +kernel
theorem dX10_readAny_59 : decode cX10_readAny 59 = .ok (.ifCond .ne 7, 3) := by decide +kernel
theorem dX10_readAny_62 : decode cX10_readAny 62 = .ok (.iload_n 1, 1) := by decide +kernel
theorem dX10_readAny_63 : decode cX10_readAny 63 = .ok (.iconst 1, 1) := by decide +kernel
theorem dX10_readAny_64 : decode cX10_readAny 64 = .ok (.iadd, 1) := by decide +kernel
theorem dX10_readAny_65 : decode cX10_readAny 65 = .ok (.istore_n 1, 1) := by decide +kernel
theorem dX10_readAny_66 : decode cX10_readAny 66 = .ok (.aload_n 0, 1) := by decide +kernel
theorem dX10_readAny_67 : decode cX10_readAny 67 = .ok (.iload_n 3, 1) := by decide +kernel
theorem dX10_readAny_68 : decode cX10_readAny 68 = .ok (.ifCond .eq 8, 3) := by decide +kernel
theorem dX10_readAny_71 : decode cX10_readAny 71 = .ok (.bipush 9, 2) := by decide +kernel
theorem dX10_readAny_73 : decode cX10_readAny 73 = .ok (.goto 5, 3) := by decide +kernel
theorem dX10_readAny_76 : decode cX10_readAny 76 = .ok (.bipush 12, 2) := by decide +kernel
theorem dX10_readAny_78 : decode cX10_readAny 78 = .ok (.invokevirtual 247, 3) := by decide +kernel
theorem dX10_readAny_81 : decode cX10_readAny 81 = .ok (.aload_n 0, 1) := by decide +kernel
theorem dX10_readAny_82 : decode cX10_readAny 82 = .ok (.invokevirtual 222, 3) := by decide +kernel
theorem dX10_readAny_85 : decode cX10_readAny 85 = .ok (.goto (-76), 3) := by decide +kernel
theorem dX10_readAny_88 : decode cX10_readAny 88 = .ok (.aload_n 0, 1) := by decide +kernel
theorem dX10_readAny_89 : decode cX10_readAny 89 = .ok (.invokevirtual 250, 3) := by decide +kernel
theorem dX10_readAny_92 : decode cX10_readAny 92 = .ok (.iconst (-1), 1) := by decide +kernel
theorem dX10_readAny_93 : decode cX10_readAny 93 = .ok (.if_icmp .ne 5, 3) := by decide +kernel
theorem dX10_readAny_96 : decode cX10_readAny 96 = .ok (.iconst (-1), 1) := by decide +kernel
theorem dX10_readAny_97 : decode cX10_readAny 97 = .ok (.ireturn, 1) := by decide +kernel
theorem dX10_readAny_98 : decode cX10_readAny 98 = .ok (.aload_n 0, 1) := by decide +kernel
theorem dX10_readAny_99 : decode cX10_readAny 99 = .ok (.bipush 9, 2) := by decide +kernel
theorem dX10_readAny_101 : decode cX10_readAny 101 = .ok (.invokevirtual 253, 3) := by decide +kernel
theorem dX10_readAny_104 : decode cX10_readAny 104 = .ok (.iconst 0, 1) := by decide +kernel
theorem dX10_readAny_105 : decode cX10_readAny 105 = .ok (.istore_n 2, 1) := by decide +kernel
theorem dX10_readAny_106 : decode cX10_readAny 106 = .ok (.goto (-97), 3) := by decide +kernel
theorem dX10_readAny_109 : decode cX10_readAny 109 = .ok (.aload_n 0, 1) := by decide +kernel
theorem dX10_readAny_110 : decode cX10_readAny 110 = .ok (.iconst 5, 1) := by decide +kernel
theorem dX10_readAny_111 : decode cX10_readAny 111 = .ok (.invokevirtual 244, 3) := by decide +kernel
theorem dX10_readAny_114 : decode cX10_readAny 114 = .ok (.ifCond .eq 24, 3) := by decide +kernel
theorem dX10_readAny_117 : decode cX10_readAny 117 = .ok (.aload_n 0, 1) := by decide +kernel
theorem dX10_readAny_118 : decode cX10_readAny 118 = .ok (.bipush 10, 2) := by decide +kernel
theorem dX10_readAny_120 : decode cX10_readAny 120 = .ok (.invokevirtual 253, 3) := by decide +kernel
theorem dX10_readAny_123 : decode cX10_readAny 123 = .ok (.aload_n 0, 1) := by decide +kernel
theorem dX10_readAny_124 : decode cX10_readAny 124 = .ok (.bipush 10, 2) := by decide +kernel
theorem dX10_readAny_126 : decode cX10_readAny 126 = .ok (.invokevirtual 247, 3) := by decide +kernel
theorem dX10_readAny_129 : decode cX10_readAny 129 = .ok (.aload_n 0, 1) := by decide +kernel
theorem dX10_readAny_130 : decode cX10_readAny 130 = .ok (.invokevirtual 222, 3) := by decide +kernel
theorem dX10_readAny_133 : decode cX10_readAny 133 = .ok (.iconst 1, 1) := by decide +kernel
theorem dX10_readAny_134 : decode cX10_readAny 134 = .ok (.istore_n 2, 1) := by decide +kernel
theorem dX10_readAny_135 : decode cX10_readAny 135 = .ok (.goto (-126), 3) := by decide +kernel
theorem dX10_readAny_138 : decode cX10_readAny 138 = .ok (.aload_n 0, 1) := by decide +kernel
theorem dX10_readAny_139 : decode cX10_readAny 139 = .ok (.iconst 4, 1) := by decide +kernel
theorem dX10_readAny_140 : decode cX10_readAny 140 = .ok (.invokevirtual 244, 3) := by decide +kernel
theorem dX10_readAny_143 : decode cX10_readAny 143 = .ok (.ifCond .eq 30, 3) := by decide +kernel
theorem dX10_readAny_146 : decode cX10_readAny 146 = .ok (.aload_n 0, 1) := by decide +kernel
theorem dX10_readAny_147 : decode cX10_readAny 147 = .ok (.bipush 10, 2) := by decide +kernel
theorem dX10_readAny_149 : decode cX10_readAny 149 = .ok (.invokevirtual 253, 3) := by decide +kernel
theorem dX10_readAny_152 : decode cX10_readAny 152 = .ok (.aload_n 0, 1) := by decide +kernel
theorem dX10_readAny_153 : decode cX10_readAny 153 = .ok (.bipush 11, 2) := by decide +kernel
theorem dX10_readAny_155 : decode cX10_readAny 155 = .ok (.invokevirtual 253, 3) := by decide +kernel
theorem dX10_readAny_158 : decode cX10_readAny 158 = .ok (.aload_n 0, 1) := by decide +kernel
theorem dX10_readAny_159 : decode cX10_readAny 159 = .ok (.bipush 11, 2) := by decide +kernel
theorem dX10_readAny_161 : decode cX10_readAny 161 = .ok (.invokevirtual 247, 3) := by decide +kernel
theorem dX10_readAny_164 : decode cX10_readAny 164 = .ok (.aload_n 0, 1) := by decide +kernel
theorem dX10_readAny_165 : decode cX10_readAny 165 = .ok (.invokevirtual 222, 3) := by decide +kernel
theorem dX10_readAny_168 : decode cX10_readAny 168 = .ok (.iconst 1, 1) := by decide +kernel
theorem dX10_readAny_169 : decode cX10_readAny 169 = .ok (.istore_n 2, 1) := by decide +kernel
theorem dX10_readAny_170 : decode cX10_readAny 170 = .ok (.goto (-161), 3) := by decide +kernel
theorem dX10_readAny_173 : decode cX10_readAny 173 = .ok (.aload_n 0, 1) := by decide +kernel
theorem dX10_readAny_174 : decode cX10_readAny 174 = .ok (.bipush 10, 2) := by decide +kernel
theorem dX10_readAny_176 : decode cX10_readAny 176 = .ok (.invokevirtual 253, 3) := by decide +kernel
theorem dX10_readAny_179 : decode cX10_readAny 179 = .ok (.aload_n 0, 1) := by decide +kernel
theorem dX10_readAny_180 : decode cX10_readAny 180 = .ok (.bipush 11, 2) := by decide +kernel
theorem dX10_readAny_182 : decode cX10_readAny 182 = .ok (.invokevirtual 253, 3) := by decide +kernel
theorem dX10_readAny_185 : decode cX10_readAny 185 = .ok (.iload_n 1, 1) := by decide +kernel
theorem dX10_readAny_186 : decode cX10_readAny 186 = .ok (.ifCond .ne 5, 3) := by decide +kernel
theorem dX10_readAny_189 : decode cX10_readAny 189 = .ok (.iconst 0, 1) := by decide +kernel
theorem dX10_readAny_190 : decode cX10_readAny 190 = .ok (.ireturn, 1) := by decide +kernel
theorem dX10_readAny_191 : decode cX10_readAny 191 = .ok (.aload_n 0, 1) := by decide +kernel
theorem dX10_readAny_192 : decode cX10_readAny 192 = .ok (.bipush 41, 2) := by decide +kernel
theorem dX10_readAny_194 : decode cX10_readAny 194 = .ok (.invokevirtual 229, 3) := by decide +kernel
theorem dX10_readAny_197 : decode cX10_readAny 197 = .ok (.ifCond .ne 9, 3) := by decide +kernel
theorem dX10_readAny_200 : decode cX10_readAny 200 = .ok (.aload_n 0, 1) := by decide +kernel
theorem dX10_readAny_201 : decode cX10_readAny 201 = .ok (.iconst 1, 1) := by decide +kernel
theorem dX10_readAny_202 : decode cX10_readAny 202 = .ok (.invokevirtual 215, 3) := by decide +kernel
theorem dX10_readAny_205 : decode cX10_readAny 205 = .ok (.ireturn, 1) := by decide +kernel
theorem dX10_readAny_206 : decode cX10_readAny 206 = .ok (.aload_n 0, 1) := by decide +kernel
theorem dX10_readAny_207 : decode cX10_readAny 207 = .ok (.aload_n 0, 1) := by decide +kernel
theorem dX10_readAny_208 : decode cX10_readAny 208 = .ok (.getfield 238, 3) := by decide +kernel
theorem dX10_readAny_211 : decode cX10_readAny 211 = .ok (.iconst 1, 1) := by decide +kernel
theorem dX10_readAny_212 : decode cX10_readAny 212 = .ok (.isub, 1) := by decide +kernel
theorem dX10_readAny_213 : decode cX10_readAny 213 = .ok (.putfield 238, 3) := by decide +kernel
theorem dX10_readAny_216 : decode cX10_readAny 216 = .ok (.iload_n 1, 1) := by decide +kernel
theorem dX10_readAny_217 : decode cX10_readAny 217 = .ok (.iconst 1, 1) := by decide +kernel
theorem dX10_readAny_218 : decode cX10_readAny 218 = .ok (.isub, 1) := by decide +kernel
theorem dX10_readAny_219 : decode cX10_readAny 219 = .ok (.istore_n 1, 1) := by decide +kernel
theorem dX10_readAny_220 : decode cX10_readAny 220 = .ok (.aload_n 0, 1) := by decide +kernel
theorem dX10_readAny_221 : decode cX10_readAny 221 = .ok (.aload_n 0, 1) := by decide +kernel
theorem dX10_readAny_222 : decode cX10_readAny 222 = .ok (.getfield 241, 3) := by decide +kernel
theorem dX10_readAny_225 : decode cX10_readAny 225 = .ok (.iconst 1, 1) := by decide +kernel
theorem dX10_readAny_226 : decode cX10_readAny 226 = .ok (.isub, 1) := by decide +kernel
theorem dX10_readAny_227 : decode cX10_readAny 227 = .ok (.putfield 241, 3) := by decide +kernel
theorem dX10_readAny_230 : decode cX10_readAny 230 = .ok (.aload_n 0, 1) := by decide +kernel
theorem dX10_readAny_231 : decode cX10_readAny 231 = .ok (.bipush 9, 2) := by decide +kernel
theorem dX10_readAny_233 : decode cX10_readAny 233 = .ok (.invokevirtual 253, 3) := by decide +kernel
theorem dX10_readAny_236 : decode cX10_readAny 236 = .ok (.aload_n 0, 1) := by decide +kernel
theorem dX10_readAny_237 : decode cX10_readAny 237 = .ok (.invokevirtual 222, 3) := by decide +kernel
theorem dX10_readAny_240 : decode cX10_readAny 240 = .ok (.goto (-231), 3) := by decide +kernel
theorem dX10_isLineWord_0 : decode cX10_isLineWord 0 = .ok (.aload_n 0, 1) := by decide +kernel
theorem dX10_isLineWord_1 : decode cX10_isLineWord 1 = .ok (.getfield 184, 3) := by decide +kernel
theorem dX10_isLineWord_4 : decode cX10_isLineWord 4 = .ok (.iconst 2, 1) := by decide +kernel
theorem dX10_isLineWord_5 : decode cX10_isLineWord 5 = .ok (.if_icmp .ne 20, 3) := by decide +kernel
theorem dX10_isLineWord_8 : decode cX10_isLineWord 8 = .ok (.aload_n 0, 1) := by decide +kernel
theorem dX10_isLineWord_9 : decode cX10_isLineWord 9 = .ok (.aload_n 0, 1) := by decide +kernel
theorem dX10_isLineWord_10 : decode cX10_isLineWord 10 = .ok (.getfield 187, 3) := by decide +kernel
theorem dX10_isLineWord_13 : decode cX10_isLineWord 13 = .ok (.iconst 0, 1) := by decide +kernel
theorem dX10_isLineWord_14 : decode cX10_isLineWord 14 = .ok (.iconst 2, 1) := by decide +kernel
theorem dX10_isLineWord_15 : decode cX10_isLineWord 15 = .ok (.invokevirtual 149, 3) := by decide +kernel
theorem dX10_isLineWord_18 : decode cX10_isLineWord 18 = .ok (.ifCond .eq 7, 3) := by decide +kernel
theorem dX10_isLineWord_21 : decode cX10_isLineWord 21 = .ok (.iconst 1, 1) := by decide +kernel
theorem dX10_isLineWord_22 : decode cX10_isLineWord 22 = .ok (.goto 4, 3) := by decide +kernel
theorem dX10_isLineWord_25 : decode cX10_isLineWord 25 = .ok (.iconst 0, 1) := by decide +kernel
theorem dX10_isLineWord_26 : decode cX10_isLineWord 26 = .ok (.ireturn, 1) := by decide +kernel
theorem dX10_readLaw_0 : decode cX10_readLaw 0 = .ok (.iconst 0, 1) := by decide +kernel
theorem dX10_readLaw_1 : decode cX10_readLaw 1 = .ok (.istore_n 1, 1) := by decide +kernel
theorem dX10_readLaw_2 : decode cX10_readLaw 2 = .ok (.aload_n 0, 1) := by decide +kernel
theorem dX10_readLaw_3 : decode cX10_readLaw 3 = .ok (.invokevirtual 256, 3) := by decide +kernel
theorem dX10_readLaw_6 : decode cX10_readLaw 6 = .ok (.ifCond .eq 122, 3) := by decide +kernel
theorem dX10_readLaw_9 : decode cX10_readLaw 9 = .ok (.iload_n 1, 1) := by decide +kernel
theorem dX10_readLaw_10 : decode cX10_readLaw 10 = .ok (.bipush 16, 2) := by decide +kernel
theorem dX10_readLaw_12 : decode cX10_readLaw 12 = .ok (.if_icmp .ne 9, 3) := by decide +kernel
theorem dX10_readLaw_15 : decode cX10_readLaw 15 = .ok (.aload_n 0, 1) := by decide +kernel
theorem dX10_readLaw_16 : decode cX10_readLaw 16 = .ok (.iconst 3, 1) := by decide +kernel
theorem dX10_readLaw_17 : decode cX10_readLaw 17 = .ok (.invokevirtual 215, 3) := by decide +kernel
theorem dX10_readLaw_20 : decode cX10_readLaw 20 = .ok (.ireturn, 1) := by decide +kernel
theorem dX10_readLaw_21 : decode cX10_readLaw 21 = .ok (.bipush 32, 2) := by decide +kernel
theorem dX10_readLaw_23 : decode cX10_readLaw 23 = .ok (.iload_n 1, 1) := by decide +kernel
theorem dX10_readLaw_24 : decode cX10_readLaw 24 = .ok (.iadd, 1) := by decide +kernel
theorem dX10_readLaw_25 : decode cX10_readLaw 25 = .ok (.istore_n 2, 1) := by decide +kernel
theorem dX10_readLaw_26 : decode cX10_readLaw 26 = .ok (.aload_n 0, 1) := by decide +kernel
theorem dX10_readLaw_27 : decode cX10_readLaw 27 = .ok (.getfield 43, 3) := by decide +kernel
theorem dX10_readLaw_30 : decode cX10_readLaw 30 = .ok (.iload_n 2, 1) := by decide +kernel
theorem dX10_readLaw_31 : decode cX10_readLaw 31 = .ok (.aload_n 0, 1) := by decide +kernel
theorem dX10_readLaw_32 : decode cX10_readLaw 32 = .ok (.getfield 187, 3) := by decide +kernel
theorem dX10_readLaw_35 : decode cX10_readLaw 35 = .ok (.iastore, 1) := by decide +kernel
theorem dX10_readLaw_36 : decode cX10_readLaw 36 = .ok (.aload_n 0, 1) := by decide +kernel
theorem dX10_readLaw_37 : decode cX10_readLaw 37 = .ok (.invokevirtual 222, 3) := by decide +kernel
theorem dX10_readLaw_40 : decode cX10_readLaw 40 = .ok (.aload_n 0, 1) := by decide +kernel
theorem dX10_readLaw_41 : decode cX10_readLaw 41 = .ok (.getfield 46, 3) := by decide +kernel
theorem dX10_readLaw_44 : decode cX10_readLaw 44 = .ok (.iload_n 2, 1) := by decide +kernel
theorem dX10_readLaw_45 : decode cX10_readLaw 45 = .ok (.aload_n 0, 1) := by decide +kernel
theorem dX10_readLaw_46 : decode cX10_readLaw 46 = .ok (.getfield 209, 3) := by decide +kernel
theorem dX10_readLaw_49 : decode cX10_readLaw 49 = .ok (.iastore, 1) := by decide +kernel
theorem dX10_readLaw_50 : decode cX10_readLaw 50 = .ok (.aload_n 0, 1) := by decide +kernel
theorem dX10_readLaw_51 : decode cX10_readLaw 51 = .ok (.invokevirtual 235, 3) := by decide +kernel
theorem dX10_readLaw_54 : decode cX10_readLaw 54 = .ok (.iconst (-1), 1) := by decide +kernel
theorem dX10_readLaw_55 : decode cX10_readLaw 55 = .ok (.if_icmp .ne 5, 3) := by decide +kernel
theorem dX10_readLaw_58 : decode cX10_readLaw 58 = .ok (.iconst (-1), 1) := by decide +kernel
theorem dX10_readLaw_59 : decode cX10_readLaw 59 = .ok (.ireturn, 1) := by decide +kernel
theorem dX10_readLaw_60 : decode cX10_readLaw 60 = .ok (.aload_n 0, 1) := by decide +kernel
theorem dX10_readLaw_61 : decode cX10_readLaw 61 = .ok (.getfield 49, 3) := by decide +kernel
theorem dX10_readLaw_64 : decode cX10_readLaw 64 = .ok (.iload_n 2, 1) := by decide +kernel
theorem dX10_readLaw_65 : decode cX10_readLaw 65 = .ok (.aload_n 0, 1) := by decide +kernel
theorem dX10_readLaw_66 : decode cX10_readLaw 66 = .ok (.getfield 209, 3) := by decide +kernel
theorem dX10_readLaw_69 : decode cX10_readLaw 69 = .ok (.iastore, 1) := by decide +kernel
theorem dX10_readLaw_70 : decode cX10_readLaw 70 = .ok (.aload_n 0, 1) := by decide +kernel
theorem dX10_readLaw_71 : decode cX10_readLaw 71 = .ok (.iconst 3, 1) := by decide +kernel
theorem dX10_readLaw_72 : decode cX10_readLaw 72 = .ok (.invokevirtual 244, 3) := by decide +kernel
theorem dX10_readLaw_75 : decode cX10_readLaw 75 = .ok (.ifCond .eq 17, 3) := by decide +kernel
theorem dX10_readLaw_78 : decode cX10_readLaw 78 = .ok (.aload_n 0, 1) := by decide +kernel
theorem dX10_readLaw_79 : decode cX10_readLaw 79 = .ok (.invokevirtual 222, 3) := by decide +kernel
theorem dX10_readLaw_82 : decode cX10_readLaw 82 = .ok (.aload_n 0, 1) := by decide +kernel
theorem dX10_readLaw_83 : decode cX10_readLaw 83 = .ok (.invokevirtual 259, 3) := by decide +kernel
theorem dX10_readLaw_86 : decode cX10_readLaw 86 = .ok (.iconst (-1), 1) := by decide +kernel
theorem dX10_readLaw_87 : decode cX10_readLaw 87 = .ok (.if_icmp .ne 5, 3) := by decide +kernel
theorem dX10_readLaw_90 : decode cX10_readLaw 90 = .ok (.iconst (-1), 1) := by decide +kernel
theorem dX10_readLaw_91 : decode cX10_readLaw 91 = .ok (.ireturn, 1) := by decide +kernel
theorem dX10_readLaw_92 : decode cX10_readLaw 92 = .ok (.aload_n 0, 1) := by decide +kernel
theorem dX10_readLaw_93 : decode cX10_readLaw 93 = .ok (.getfield 52, 3) := by decide +kernel
theorem dX10_readLaw_96 : decode cX10_readLaw 96 = .ok (.iload_n 2, 1) := by decide +kernel
theorem dX10_readLaw_97 : decode cX10_readLaw 97 = .ok (.aload_n 0, 1) := by decide +kernel
theorem dX10_readLaw_98 : decode cX10_readLaw 98 = .ok (.getfield 209, 3) := by decide +kernel
theorem dX10_readLaw_101 : decode cX10_readLaw 101 = .ok (.iastore, 1) := by decide +kernel
theorem dX10_readLaw_102 : decode cX10_readLaw 102 = .ok (.aload_n 0, 1) := by decide +kernel
theorem dX10_readLaw_103 : decode cX10_readLaw 103 = .ok (.bipush 59, 2) := by decide +kernel
theorem dX10_readLaw_105 : decode cX10_readLaw 105 = .ok (.invokevirtual 229, 3) := by decide +kernel
theorem dX10_readLaw_108 : decode cX10_readLaw 108 = .ok (.ifCond .ne 9, 3) := by decide +kernel
theorem dX10_readLaw_111 : decode cX10_readLaw 111 = .ok (.aload_n 0, 1) := by decide +kernel
theorem dX10_readLaw_112 : decode cX10_readLaw 112 = .ok (.iconst 1, 1) := by decide +kernel
theorem dX10_readLaw_113 : decode cX10_readLaw 113 = .ok (.invokevirtual 215, 3) := by decide +kernel
theorem dX10_readLaw_116 : decode cX10_readLaw 116 = .ok (.ireturn, 1) := by decide +kernel
theorem dX10_readLaw_117 : decode cX10_readLaw 117 = .ok (.aload_n 0, 1) := by decide +kernel
theorem dX10_readLaw_118 : decode cX10_readLaw 118 = .ok (.invokevirtual 222, 3) := by decide +kernel
theorem dX10_readLaw_121 : decode cX10_readLaw 121 = .ok (.iload_n 1, 1) := by decide +kernel
theorem dX10_readLaw_122 : decode cX10_readLaw 122 = .ok (.iconst 1, 1) := by decide +kernel
theorem dX10_readLaw_123 : decode cX10_readLaw 123 = .ok (.iadd, 1) := by decide +kernel
theorem dX10_readLaw_124 : decode cX10_readLaw 124 = .ok (.istore_n 1, 1) := by decide +kernel
theorem dX10_readLaw_125 : decode cX10_readLaw 125 = .ok (.goto (-123), 3) := by decide +kernel
theorem dX10_readLaw_128 : decode cX10_readLaw 128 = .ok (.aload_n 0, 1) := by decide +kernel
theorem dX10_readLaw_129 : decode cX10_readLaw 129 = .ok (.getfield 184, 3) := by decide +kernel
theorem dX10_readLaw_132 : decode cX10_readLaw 132 = .ok (.ifCond .ne 7, 3) := by decide +kernel
theorem dX10_readLaw_135 : decode cX10_readLaw 135 = .ok (.iload_n 1, 1) := by decide +kernel
theorem dX10_readLaw_136 : decode cX10_readLaw 136 = .ok (.goto 8, 3) := by decide +kernel
theorem dX10_readLaw_139 : decode cX10_readLaw 139 = .ok (.aload_n 0, 1) := by decide +kernel
theorem dX10_readLaw_140 : decode cX10_readLaw 140 = .ok (.iconst 1, 1) := by decide +kernel
theorem dX10_readLaw_141 : decode cX10_readLaw 141 = .ok (.invokevirtual 215, 3) := by decide +kernel
theorem dX10_readLaw_144 : decode cX10_readLaw 144 = .ok (.ireturn, 1) := by decide +kernel
theorem dX10_takesLaw_0 : decode cX10_takesLaw 0 = .ok (.iconst 0, 1) := by decide +kernel
theorem dX10_takesLaw_1 : decode cX10_takesLaw 1 = .ok (.istore_n 2, 1) := by decide +kernel
theorem dX10_takesLaw_2 : decode cX10_takesLaw 2 = .ok (.iload_n 2, 1) := by decide +kernel
theorem dX10_takesLaw_3 : decode cX10_takesLaw 3 = .ok (.iload_n 1, 1) := by decide +kernel
theorem dX10_takesLaw_4 : decode cX10_takesLaw 4 = .ok (.if_icmp .ge 101, 3) := by decide +kernel
theorem dX10_takesLaw_7 : decode cX10_takesLaw 7 = .ok (.aload_n 0, 1) := by decide +kernel
theorem dX10_takesLaw_8 : decode cX10_takesLaw 8 = .ok (.getfield 43, 3) := by decide +kernel
theorem dX10_takesLaw_11 : decode cX10_takesLaw 11 = .ok (.bipush 16, 2) := by decide +kernel
theorem dX10_takesLaw_13 : decode cX10_takesLaw 13 = .ok (.aload_n 0, 1) := by decide +kernel
theorem dX10_takesLaw_14 : decode cX10_takesLaw 14 = .ok (.getfield 262, 3) := by decide +kernel
theorem dX10_takesLaw_17 : decode cX10_takesLaw 17 = .ok (.imul, 1) := by decide +kernel
theorem dX10_takesLaw_18 : decode cX10_takesLaw 18 = .ok (.iload_n 2, 1) := by decide +kernel
theorem dX10_takesLaw_19 : decode cX10_takesLaw 19 = .ok (.iadd, 1) := by decide +kernel
theorem dX10_takesLaw_20 : decode cX10_takesLaw 20 = .ok (.aload_n 0, 1) := by decide +kernel
theorem dX10_takesLaw_21 : decode cX10_takesLaw 21 = .ok (.getfield 43, 3) := by decide +kernel
theorem dX10_takesLaw_24 : decode cX10_takesLaw 24 = .ok (.bipush 32, 2) := by decide +kernel
theorem dX10_takesLaw_26 : decode cX10_takesLaw 26 = .ok (.iload_n 2, 1) := by decide +kernel
theorem dX10_takesLaw_27 : decode cX10_takesLaw 27 = .ok (.iadd, 1) := by decide +kernel
theorem dX10_takesLaw_28 : decode cX10_takesLaw 28 = .ok (.iaload, 1) := by decide +kernel
theorem dX10_takesLaw_29 : decode cX10_takesLaw 29 = .ok (.iastore, 1) := by decide +kernel
theorem dX10_takesLaw_30 : decode cX10_takesLaw 30 = .ok (.aload_n 0, 1) := by decide +kernel
theorem dX10_takesLaw_31 : decode cX10_takesLaw 31 = .ok (.getfield 46, 3) := by decide +kernel
theorem dX10_takesLaw_34 : decode cX10_takesLaw 34 = .ok (.bipush 16, 2) := by decide +kernel
theorem dX10_takesLaw_36 : decode cX10_takesLaw 36 = .ok (.aload_n 0, 1) := by decide +kernel
theorem dX10_takesLaw_37 : decode cX10_takesLaw 37 = .ok (.getfield 262, 3) := by decide +kernel
theorem dX10_takesLaw_40 : decode cX10_takesLaw 40 = .ok (.imul, 1) := by decide +kernel
theorem dX10_takesLaw_41 : decode cX10_takesLaw 41 = .ok (.iload_n 2, 1) := by decide +kernel
theorem dX10_takesLaw_42 : decode cX10_takesLaw 42 = .ok (.iadd, 1) := by decide +kernel
theorem dX10_takesLaw_43 : decode cX10_takesLaw 43 = .ok (.aload_n 0, 1) := by decide +kernel
theorem dX10_takesLaw_44 : decode cX10_takesLaw 44 = .ok (.getfield 46, 3) := by decide +kernel
theorem dX10_takesLaw_47 : decode cX10_takesLaw 47 = .ok (.bipush 32, 2) := by decide +kernel
theorem dX10_takesLaw_49 : decode cX10_takesLaw 49 = .ok (.iload_n 2, 1) := by decide +kernel
theorem dX10_takesLaw_50 : decode cX10_takesLaw 50 = .ok (.iadd, 1) := by decide +kernel
theorem dX10_takesLaw_51 : decode cX10_takesLaw 51 = .ok (.iaload, 1) := by decide +kernel
theorem dX10_takesLaw_52 : decode cX10_takesLaw 52 = .ok (.iastore, 1) := by decide +kernel
theorem dX10_takesLaw_53 : decode cX10_takesLaw 53 = .ok (.aload_n 0, 1) := by decide +kernel
theorem dX10_takesLaw_54 : decode cX10_takesLaw 54 = .ok (.getfield 49, 3) := by decide +kernel
theorem dX10_takesLaw_57 : decode cX10_takesLaw 57 = .ok (.bipush 16, 2) := by decide +kernel
theorem dX10_takesLaw_59 : decode cX10_takesLaw 59 = .ok (.aload_n 0, 1) := by decide +kernel
theorem dX10_takesLaw_60 : decode cX10_takesLaw 60 = .ok (.getfield 262, 3) := by decide +kernel
theorem dX10_takesLaw_63 : decode cX10_takesLaw 63 = .ok (.imul, 1) := by decide +kernel
theorem dX10_takesLaw_64 : decode cX10_takesLaw 64 = .ok (.iload_n 2, 1) := by decide +kernel
theorem dX10_takesLaw_65 : decode cX10_takesLaw 65 = .ok (.iadd, 1) := by decide +kernel
theorem dX10_takesLaw_66 : decode cX10_takesLaw 66 = .ok (.aload_n 0, 1) := by decide +kernel
theorem dX10_takesLaw_67 : decode cX10_takesLaw 67 = .ok (.getfield 49, 3) := by decide +kernel
theorem dX10_takesLaw_70 : decode cX10_takesLaw 70 = .ok (.bipush 32, 2) := by decide +kernel
theorem dX10_takesLaw_72 : decode cX10_takesLaw 72 = .ok (.iload_n 2, 1) := by decide +kernel
theorem dX10_takesLaw_73 : decode cX10_takesLaw 73 = .ok (.iadd, 1) := by decide +kernel
theorem dX10_takesLaw_74 : decode cX10_takesLaw 74 = .ok (.iaload, 1) := by decide +kernel
theorem dX10_takesLaw_75 : decode cX10_takesLaw 75 = .ok (.iastore, 1) := by decide +kernel
theorem dX10_takesLaw_76 : decode cX10_takesLaw 76 = .ok (.aload_n 0, 1) := by decide +kernel
theorem dX10_takesLaw_77 : decode cX10_takesLaw 77 = .ok (.getfield 52, 3) := by decide +kernel
theorem dX10_takesLaw_80 : decode cX10_takesLaw 80 = .ok (.bipush 16, 2) := by decide +kernel
theorem dX10_takesLaw_82 : decode cX10_takesLaw 82 = .ok (.aload_n 0, 1) := by decide +kernel
theorem dX10_takesLaw_83 : decode cX10_takesLaw 83 = .ok (.getfield 262, 3) := by decide +kernel
theorem dX10_takesLaw_86 : decode cX10_takesLaw 86 = .ok (.imul, 1) := by decide +kernel
theorem dX10_takesLaw_87 : decode cX10_takesLaw 87 = .ok (.iload_n 2, 1) := by decide +kernel
theorem dX10_takesLaw_88 : decode cX10_takesLaw 88 = .ok (.iadd, 1) := by decide +kernel
theorem dX10_takesLaw_89 : decode cX10_takesLaw 89 = .ok (.aload_n 0, 1) := by decide +kernel
theorem dX10_takesLaw_90 : decode cX10_takesLaw 90 = .ok (.getfield 52, 3) := by decide +kernel
theorem dX10_takesLaw_93 : decode cX10_takesLaw 93 = .ok (.bipush 32, 2) := by decide +kernel
theorem dX10_takesLaw_95 : decode cX10_takesLaw 95 = .ok (.iload_n 2, 1) := by decide +kernel
theorem dX10_takesLaw_96 : decode cX10_takesLaw 96 = .ok (.iadd, 1) := by decide +kernel
theorem dX10_takesLaw_97 : decode cX10_takesLaw 97 = .ok (.iaload, 1) := by decide +kernel
theorem dX10_takesLaw_98 : decode cX10_takesLaw 98 = .ok (.iastore, 1) := by decide +kernel
theorem dX10_takesLaw_99 : decode cX10_takesLaw 99 = .ok (.iinc 2 1, 3) := by decide +kernel
theorem dX10_takesLaw_102 : decode cX10_takesLaw 102 = .ok (.goto (-100), 3) := by decide +kernel
theorem dX10_takesLaw_105 : decode cX10_takesLaw 105 = .ok (.iconst 0, 1) := by decide +kernel
theorem dX10_takesLaw_106 : decode cX10_takesLaw 106 = .ok (.istore_n 2, 1) := by decide +kernel
theorem dX10_takesLaw_107 : decode cX10_takesLaw 107 = .ok (.iload_n 2, 1) := by decide +kernel
theorem dX10_takesLaw_108 : decode cX10_takesLaw 108 = .ok (.aload_n 0, 1) := by decide +kernel
theorem dX10_takesLaw_109 : decode cX10_takesLaw 109 = .ok (.getfield 209, 3) := by decide +kernel
theorem dX10_takesLaw_112 : decode cX10_takesLaw 112 = .ok (.if_icmp .ge 59, 3) := by decide +kernel
theorem dX10_takesLaw_115 : decode cX10_takesLaw 115 = .ok (.aload_n 0, 1) := by decide +kernel
theorem dX10_takesLaw_116 : decode cX10_takesLaw 116 = .ok (.getfield 55, 3) := by decide +kernel
theorem dX10_takesLaw_119 : decode cX10_takesLaw 119 = .ok (.sipush 400, 3) := by decide +kernel
theorem dX10_takesLaw_122 : decode cX10_takesLaw 122 = .ok (.aload_n 0, 1) := by decide +kernel
theorem dX10_takesLaw_123 : decode cX10_takesLaw 123 = .ok (.getfield 262, 3) := by decide +kernel
theorem dX10_takesLaw_126 : decode cX10_takesLaw 126 = .ok (.imul, 1) := by decide +kernel
theorem dX10_takesLaw_127 : decode cX10_takesLaw 127 = .ok (.iload_n 2, 1) := by decide +kernel
theorem dX10_takesLaw_128 : decode cX10_takesLaw 128 = .ok (.iadd, 1) := by decide +kernel
theorem dX10_takesLaw_129 : decode cX10_takesLaw 129 = .ok (.aload_n 0, 1) := by decide +kernel
theorem dX10_takesLaw_130 : decode cX10_takesLaw 130 = .ok (.getfield 55, 3) := by decide +kernel
theorem dX10_takesLaw_133 : decode cX10_takesLaw 133 = .ok (.sipush 800, 3) := by decide +kernel
theorem dX10_takesLaw_136 : decode cX10_takesLaw 136 = .ok (.iload_n 2, 1) := by decide +kernel
theorem dX10_takesLaw_137 : decode cX10_takesLaw 137 = .ok (.iadd, 1) := by decide +kernel
theorem dX10_takesLaw_138 : decode cX10_takesLaw 138 = .ok (.iaload, 1) := by decide +kernel
theorem dX10_takesLaw_139 : decode cX10_takesLaw 139 = .ok (.iastore, 1) := by decide +kernel
theorem dX10_takesLaw_140 : decode cX10_takesLaw 140 = .ok (.aload_n 0, 1) := by decide +kernel
theorem dX10_takesLaw_141 : decode cX10_takesLaw 141 = .ok (.getfield 58, 3) := by decide +kernel
theorem dX10_takesLaw_144 : decode cX10_takesLaw 144 = .ok (.sipush 400, 3) := by decide +kernel
theorem dX10_takesLaw_147 : decode cX10_takesLaw 147 = .ok (.aload_n 0, 1) := by decide +kernel
theorem dX10_takesLaw_148 : decode cX10_takesLaw 148 = .ok (.getfield 262, 3) := by decide +kernel
theorem dX10_takesLaw_151 : decode cX10_takesLaw 151 = .ok (.imul, 1) := by decide +kernel
theorem dX10_takesLaw_152 : decode cX10_takesLaw 152 = .ok (.iload_n 2, 1) := by decide +kernel
theorem dX10_takesLaw_153 : decode cX10_takesLaw 153 = .ok (.iadd, 1) := by decide +kernel
theorem dX10_takesLaw_154 : decode cX10_takesLaw 154 = .ok (.aload_n 0, 1) := by decide +kernel
theorem dX10_takesLaw_155 : decode cX10_takesLaw 155 = .ok (.getfield 58, 3) := by decide +kernel
theorem dX10_takesLaw_158 : decode cX10_takesLaw 158 = .ok (.sipush 800, 3) := by decide +kernel
theorem dX10_takesLaw_161 : decode cX10_takesLaw 161 = .ok (.iload_n 2, 1) := by decide +kernel
theorem dX10_takesLaw_162 : decode cX10_takesLaw 162 = .ok (.iadd, 1) := by decide +kernel
theorem dX10_takesLaw_163 : decode cX10_takesLaw 163 = .ok (.iaload, 1) := by decide +kernel
theorem dX10_takesLaw_164 : decode cX10_takesLaw 164 = .ok (.iastore, 1) := by decide +kernel
theorem dX10_takesLaw_165 : decode cX10_takesLaw 165 = .ok (.iinc 2 1, 3) := by decide +kernel
theorem dX10_takesLaw_168 : decode cX10_takesLaw 168 = .ok (.goto (-61), 3) := by decide +kernel
theorem dX10_takesLaw_171 : decode cX10_takesLaw 171 = .ok (.aload_n 0, 1) := by decide +kernel
theorem dX10_takesLaw_172 : decode cX10_takesLaw 172 = .ok (.getfield 40, 3) := by decide +kernel
theorem dX10_takesLaw_175 : decode cX10_takesLaw 175 = .ok (.aload_n 0, 1) := by decide +kernel
theorem dX10_takesLaw_176 : decode cX10_takesLaw 176 = .ok (.getfield 262, 3) := by decide +kernel
theorem dX10_takesLaw_179 : decode cX10_takesLaw 179 = .ok (.iload_n 1, 1) := by decide +kernel
theorem dX10_takesLaw_180 : decode cX10_takesLaw 180 = .ok (.iastore, 1) := by decide +kernel
theorem dX10_takesLaw_181 : decode cX10_takesLaw 181 = .ok (.return_, 1) := by decide +kernel
theorem dX10_readNumber_0 : decode cX10_readNumber 0 = .ok (.aload_n 0, 1) := by decide +kernel
theorem dX10_readNumber_1 : decode cX10_readNumber 1 = .ok (.getfield 184, 3) := by decide +kernel
theorem dX10_readNumber_4 : decode cX10_readNumber 4 = .ok (.iconst 3, 1) := by decide +kernel
theorem dX10_readNumber_5 : decode cX10_readNumber 5 = .ok (.if_icmp .eq 9, 3) := by decide +kernel
theorem dX10_readNumber_8 : decode cX10_readNumber 8 = .ok (.aload_n 0, 1) := by decide +kernel
theorem dX10_readNumber_9 : decode cX10_readNumber 9 = .ok (.iconst 1, 1) := by decide +kernel
theorem dX10_readNumber_10 : decode cX10_readNumber 10 = .ok (.invokevirtual 215, 3) := by decide +kernel
theorem dX10_readNumber_13 : decode cX10_readNumber 13 = .ok (.ireturn, 1) := by decide +kernel
theorem dX10_readNumber_14 : decode cX10_readNumber 14 = .ok (.aload_n 0, 1) := by decide +kernel
theorem dX10_readNumber_15 : decode cX10_readNumber 15 = .ok (.aload_n 0, 1) := by decide +kernel
theorem dX10_readNumber_16 : decode cX10_readNumber 16 = .ok (.getfield 187, 3) := by decide +kernel
theorem dX10_readNumber_19 : decode cX10_readNumber 19 = .ok (.iload_n 1, 1) := by decide +kernel
theorem dX10_readNumber_20 : decode cX10_readNumber 20 = .ok (.iload_n 2, 1) := by decide +kernel
theorem dX10_readNumber_21 : decode cX10_readNumber 21 = .ok (.invokevirtual 149, 3) := by decide +kernel
theorem dX10_readNumber_24 : decode cX10_readNumber 24 = .ok (.ifCond .ne 9, 3) := by decide +kernel
theorem dX10_readNumber_27 : decode cX10_readNumber 27 = .ok (.aload_n 0, 1) := by decide +kernel
theorem dX10_readNumber_28 : decode cX10_readNumber 28 = .ok (.iconst 2, 1) := by decide +kernel
theorem dX10_readNumber_29 : decode cX10_readNumber 29 = .ok (.invokevirtual 215, 3) := by decide +kernel
theorem dX10_readNumber_32 : decode cX10_readNumber 32 = .ok (.ireturn, 1) := by decide +kernel
theorem dX10_readNumber_33 : decode cX10_readNumber 33 = .ok (.aload_n 0, 1) := by decide +kernel
theorem dX10_readNumber_34 : decode cX10_readNumber 34 = .ok (.getfield 187, 3) := by decide +kernel
theorem dX10_readNumber_37 : decode cX10_readNumber 37 = .ok (.istore_n 3, 1) := by decide +kernel
theorem dX10_readNumber_38 : decode cX10_readNumber 38 = .ok (.aload_n 0, 1) := by decide +kernel
theorem dX10_readNumber_39 : decode cX10_readNumber 39 = .ok (.invokevirtual 222, 3) := by decide +kernel
theorem dX10_readNumber_42 : decode cX10_readNumber 42 = .ok (.iload_n 3, 1) := by decide +kernel
theorem dX10_readNumber_43 : decode cX10_readNumber 43 = .ok (.ireturn, 1) := by decide +kernel
theorem dX10_readMark_0 : decode cX10_readMark 0 = .ok (.aload_n 0, 1) := by decide +kernel
theorem dX10_readMark_1 : decode cX10_readMark 1 = .ok (.iload_n 1, 1) := by decide +kernel
theorem dX10_readMark_2 : decode cX10_readMark 2 = .ok (.invokevirtual 229, 3) := by decide +kernel
theorem dX10_readMark_5 : decode cX10_readMark 5 = .ok (.ifCond .ne 9, 3) := by decide +kernel
theorem dX10_readMark_8 : decode cX10_readMark 8 = .ok (.aload_n 0, 1) := by decide +kernel
theorem dX10_readMark_9 : decode cX10_readMark 9 = .ok (.iconst 1, 1) := by decide +kernel
theorem dX10_readMark_10 : decode cX10_readMark 10 = .ok (.invokevirtual 215, 3) := by decide +kernel
theorem dX10_readMark_13 : decode cX10_readMark 13 = .ok (.ireturn, 1) := by decide +kernel
theorem dX10_readMark_14 : decode cX10_readMark 14 = .ok (.aload_n 0, 1) := by decide +kernel
theorem dX10_readMark_15 : decode cX10_readMark 15 = .ok (.invokevirtual 222, 3) := by decide +kernel
theorem dX10_readMark_18 : decode cX10_readMark 18 = .ok (.iconst 0, 1) := by decide +kernel
theorem dX10_readMark_19 : decode cX10_readMark 19 = .ok (.ireturn, 1) := by decide +kernel
theorem dX10_readTold_0 : decode cX10_readTold 0 = .ok (.aload_n 0, 1) := by decide +kernel
theorem dX10_readTold_1 : decode cX10_readTold 1 = .ok (.iload_n 1, 1) := by decide +kernel
theorem dX10_readTold_2 : decode cX10_readTold 2 = .ok (.invokevirtual 244, 3) := by decide +kernel
theorem dX10_readTold_5 : decode cX10_readTold 5 = .ok (.ifCond .ne 9, 3) := by decide +kernel
theorem dX10_readTold_8 : decode cX10_readTold 8 = .ok (.aload_n 0, 1) := by decide +kernel
theorem dX10_readTold_9 : decode cX10_readTold 9 = .ok (.iconst 1, 1) := by decide +kernel
theorem dX10_readTold_10 : decode cX10_readTold 10 = .ok (.invokevirtual 215, 3) := by decide +kernel
theorem dX10_readTold_13 : decode cX10_readTold 13 = .ok (.ireturn, 1) := by decide +kernel
theorem dX10_readTold_14 : decode cX10_readTold 14 = .ok (.aload_n 0, 1) := by decide +kernel
theorem dX10_readTold_15 : decode cX10_readTold 15 = .ok (.invokevirtual 222, 3) := by decide +kernel
theorem dX10_readTold_18 : decode cX10_readTold 18 = .ok (.aload_n 0, 1) := by decide +kernel
theorem dX10_readTold_19 : decode cX10_readTold 19 = .ok (.iload_n 2, 1) := by decide +kernel
theorem dX10_readTold_20 : decode cX10_readTold 20 = .ok (.iload_n 3, 1) := by decide +kernel
theorem dX10_readTold_21 : decode cX10_readTold 21 = .ok (.invokevirtual 265, 3) := by decide +kernel
theorem dX10_readTold_24 : decode cX10_readTold 24 = .ok (.ireturn, 1) := by decide +kernel
theorem dX10_kindOfOrder_0 : decode cX10_kindOfOrder 0 = .ok (.aload_n 0, 1) := by decide +kernel
theorem dX10_kindOfOrder_1 : decode cX10_kindOfOrder 1 = .ok (.bipush 10, 2) := by decide +kernel
theorem dX10_kindOfOrder_3 : decode cX10_kindOfOrder 3 = .ok (.invokevirtual 244, 3) := by decide +kernel
theorem dX10_kindOfOrder_6 : decode cX10_kindOfOrder 6 = .ok (.ifCond .eq 5, 3) := by decide +kernel
theorem dX10_kindOfOrder_9 : decode cX10_kindOfOrder 9 = .ok (.iconst 1, 1) := by decide +kernel
theorem dX10_kindOfOrder_10 : decode cX10_kindOfOrder 10 = .ok (.ireturn, 1) := by decide +kernel
theorem dX10_kindOfOrder_11 : decode cX10_kindOfOrder 11 = .ok (.aload_n 0, 1) := by decide +kernel
theorem dX10_kindOfOrder_12 : decode cX10_kindOfOrder 12 = .ok (.bipush 18, 2) := by decide +kernel
theorem dX10_kindOfOrder_14 : decode cX10_kindOfOrder 14 = .ok (.invokevirtual 244, 3) := by decide +kernel
theorem dX10_kindOfOrder_17 : decode cX10_kindOfOrder 17 = .ok (.ifCond .eq 5, 3) := by decide +kernel
theorem dX10_kindOfOrder_20 : decode cX10_kindOfOrder 20 = .ok (.iconst 0, 1) := by decide +kernel
theorem dX10_kindOfOrder_21 : decode cX10_kindOfOrder 21 = .ok (.ireturn, 1) := by decide +kernel
theorem dX10_kindOfOrder_22 : decode cX10_kindOfOrder 22 = .ok (.aload_n 0, 1) := by decide +kernel
theorem dX10_kindOfOrder_23 : decode cX10_kindOfOrder 23 = .ok (.getfield 184, 3) := by decide +kernel
theorem dX10_kindOfOrder_26 : decode cX10_kindOfOrder 26 = .ok (.iconst 2, 1) := by decide +kernel
theorem dX10_kindOfOrder_27 : decode cX10_kindOfOrder 27 = .ok (.if_icmp .ne 30, 3) := by decide +kernel
theorem dX10_kindOfOrder_30 : decode cX10_kindOfOrder 30 = .ok (.aload_n 0, 1) := by decide +kernel
theorem dX10_kindOfOrder_31 : decode cX10_kindOfOrder 31 = .ok (.aload_n 0, 1) := by decide +kernel
theorem dX10_kindOfOrder_32 : decode cX10_kindOfOrder 32 = .ok (.getfield 187, 3) := by decide +kernel
theorem dX10_kindOfOrder_35 : decode cX10_kindOfOrder 35 = .ok (.bipush 19, 2) := by decide +kernel
theorem dX10_kindOfOrder_37 : decode cX10_kindOfOrder 37 = .ok (.bipush 21, 2) := by decide +kernel
theorem dX10_kindOfOrder_39 : decode cX10_kindOfOrder 39 = .ok (.invokevirtual 149, 3) := by decide +kernel
theorem dX10_kindOfOrder_42 : decode cX10_kindOfOrder 42 = .ok (.ifCond .eq 15, 3) := by decide +kernel
theorem dX10_kindOfOrder_45 : decode cX10_kindOfOrder 45 = .ok (.iconst 2, 1) := by decide +kernel
theorem dX10_kindOfOrder_46 : decode cX10_kindOfOrder 46 = .ok (.aload_n 0, 1) := by decide +kernel
theorem dX10_kindOfOrder_47 : decode cX10_kindOfOrder 47 = .ok (.getfield 187, 3) := by decide +kernel
theorem dX10_kindOfOrder_50 : decode cX10_kindOfOrder 50 = .ok (.iadd, 1) := by decide +kernel
theorem dX10_kindOfOrder_51 : decode cX10_kindOfOrder 51 = .ok (.bipush 19, 2) := by decide +kernel
theorem dX10_kindOfOrder_53 : decode cX10_kindOfOrder 53 = .ok (.isub, 1) := by decide +kernel
theorem dX10_kindOfOrder_54 : decode cX10_kindOfOrder 54 = .ok (.goto 4, 3) := by decide +kernel
theorem dX10_kindOfOrder_57 : decode cX10_kindOfOrder 57 = .ok (.iconst (-1), 1) := by decide +kernel
theorem dX10_kindOfOrder_58 : decode cX10_kindOfOrder 58 = .ok (.ireturn, 1) := by decide +kernel
theorem dX10_readOrder_0 : decode cX10_readOrder 0 = .ok (.aload_n 0, 1) := by decide +kernel
theorem dX10_readOrder_1 : decode cX10_readOrder 1 = .ok (.getfield 68, 3) := by decide +kernel
theorem dX10_readOrder_4 : decode cX10_readOrder 4 = .ok (.iload_n 1, 1) := by decide +kernel
theorem dX10_readOrder_5 : decode cX10_readOrder 5 = .ok (.aload_n 0, 1) := by decide +kernel
theorem dX10_readOrder_6 : decode cX10_readOrder 6 = .ok (.bipush 17, 2) := by decide +kernel
theorem dX10_readOrder_8 : decode cX10_readOrder 8 = .ok (.iconst 0, 1) := by decide +kernel
theorem dX10_readOrder_9 : decode cX10_readOrder 9 = .ok (.sipush 999, 3) := by decide +kernel
theorem dX10_readOrder_12 : decode cX10_readOrder 12 = .ok (.invokevirtual 268, 3) := by decide +kernel
theorem dX10_readOrder_15 : decode cX10_readOrder 15 = .ok (.iastore, 1) := by decide +kernel
theorem dX10_readOrder_16 : decode cX10_readOrder 16 = .ok (.aload_n 0, 1) := by decide +kernel
theorem dX10_readOrder_17 : decode cX10_readOrder 17 = .ok (.getfield 68, 3) := by decide +kernel
theorem dX10_readOrder_20 : decode cX10_readOrder 20 = .ok (.iload_n 1, 1) := by decide +kernel
theorem dX10_readOrder_21 : decode cX10_readOrder 21 = .ok (.iaload, 1) := by decide +kernel
theorem dX10_readOrder_22 : decode cX10_readOrder 22 = .ok (.iconst (-1), 1) := by decide +kernel
theorem dX10_readOrder_23 : decode cX10_readOrder 23 = .ok (.if_icmp .ne 5, 3) := by decide +kernel
theorem dX10_readOrder_26 : decode cX10_readOrder 26 = .ok (.iconst (-1), 1) := by decide +kernel
theorem dX10_readOrder_27 : decode cX10_readOrder 27 = .ok (.ireturn, 1) := by decide +kernel
theorem dX10_readOrder_28 : decode cX10_readOrder 28 = .ok (.aload_n 0, 1) := by decide +kernel
theorem dX10_readOrder_29 : decode cX10_readOrder 29 = .ok (.invokevirtual 272, 3) := by decide +kernel
theorem dX10_readOrder_32 : decode cX10_readOrder 32 = .ok (.istore_n 2, 1) := by decide +kernel
theorem dX10_readOrder_33 : decode cX10_readOrder 33 = .ok (.iload_n 2, 1) := by decide +kernel
theorem dX10_readOrder_34 : decode cX10_readOrder 34 = .ok (.iconst (-1), 1) := by decide +kernel
theorem dX10_readOrder_35 : decode cX10_readOrder 35 = .ok (.if_icmp .ne 9, 3) := by decide +kernel
theorem dX10_readOrder_38 : decode cX10_readOrder 38 = .ok (.aload_n 0, 1) := by decide +kernel
theorem dX10_readOrder_39 : decode cX10_readOrder 39 = .ok (.iconst 1, 1) := by decide +kernel
theorem dX10_readOrder_40 : decode cX10_readOrder 40 = .ok (.invokevirtual 215, 3) := by decide +kernel
theorem dX10_readOrder_43 : decode cX10_readOrder 43 = .ok (.ireturn, 1) := by decide +kernel
theorem dX10_readOrder_44 : decode cX10_readOrder 44 = .ok (.aload_n 0, 1) := by decide +kernel
theorem dX10_readOrder_45 : decode cX10_readOrder 45 = .ok (.invokevirtual 222, 3) := by decide +kernel
theorem dX10_readOrder_48 : decode cX10_readOrder 48 = .ok (.aload_n 0, 1) := by decide +kernel
theorem dX10_readOrder_49 : decode cX10_readOrder 49 = .ok (.getfield 68, 3) := by decide +kernel
theorem dX10_readOrder_52 : decode cX10_readOrder 52 = .ok (.iload_n 1, 1) := by decide +kernel
theorem dX10_readOrder_53 : decode cX10_readOrder 53 = .ok (.iconst 1, 1) := by decide +kernel
theorem dX10_readOrder_54 : decode cX10_readOrder 54 = .ok (.iadd, 1) := by decide +kernel
theorem dX10_readOrder_55 : decode cX10_readOrder 55 = .ok (.iload_n 2, 1) := by decide +kernel
theorem dX10_readOrder_56 : decode cX10_readOrder 56 = .ok (.iastore, 1) := by decide +kernel
theorem dX10_readOrder_57 : decode cX10_readOrder 57 = .ok (.aload_n 0, 1) := by decide +kernel
theorem dX10_readOrder_58 : decode cX10_readOrder 58 = .ok (.getfield 68, 3) := by decide +kernel
theorem dX10_readOrder_61 : decode cX10_readOrder 61 = .ok (.iload_n 1, 1) := by decide +kernel
theorem dX10_readOrder_62 : decode cX10_readOrder 62 = .ok (.iconst 2, 1) := by decide +kernel
theorem dX10_readOrder_63 : decode cX10_readOrder 63 = .ok (.iadd, 1) := by decide +kernel
theorem dX10_readOrder_64 : decode cX10_readOrder 64 = .ok (.iload_n 2, 1) := by decide +kernel
theorem dX10_readOrder_65 : decode cX10_readOrder 65 = .ok (.iconst 4, 1) := by decide +kernel
theorem dX10_readOrder_66 : decode cX10_readOrder 66 = .ok (.if_icmp .ne 7, 3) := by decide +kernel
theorem dX10_readOrder_69 : decode cX10_readOrder 69 = .ok (.iconst 0, 1) := by decide +kernel
theorem dX10_readOrder_70 : decode cX10_readOrder 70 = .ok (.goto 26, 3) := by decide +kernel
theorem dX10_readOrder_73 : decode cX10_readOrder 73 = .ok (.aload_n 0, 1) := by decide +kernel
theorem dX10_readOrder_74 : decode cX10_readOrder 74 = .ok (.iconst 0, 1) := by decide +kernel
theorem dX10_readOrder_75 : decode cX10_readOrder 75 = .ok (.iload_n 2, 1) := by decide +kernel
theorem dX10_readOrder_76 : decode cX10_readOrder 76 = .ok (.iconst 3, 1) := by decide +kernel
theorem dX10_readOrder_77 : decode cX10_readOrder 77 = .ok (.if_icmp .ne 10, 3) := by decide +kernel
theorem dX10_readOrder_80 : decode cX10_readOrder 80 = .ok (.aload_n 0, 1) := by decide +kernel
theorem dX10_readOrder_81 : decode cX10_readOrder 81 = .ok (.getfield 146, 3) := by decide +kernel
theorem dX10_readOrder_84 : decode cX10_readOrder 84 = .ok (.goto 7, 3) := by decide +kernel
theorem dX10_readOrder_87 : decode cX10_readOrder 87 = .ok (.aload_n 0, 1) := by decide +kernel
theorem dX10_readOrder_88 : decode cX10_readOrder 88 = .ok (.getfield 143, 3) := by decide +kernel
theorem dX10_readOrder_91 : decode cX10_readOrder 91 = .ok (.iconst 1, 1) := by decide +kernel
theorem dX10_readOrder_92 : decode cX10_readOrder 92 = .ok (.isub, 1) := by decide +kernel
theorem dX10_readOrder_93 : decode cX10_readOrder 93 = .ok (.invokevirtual 265, 3) := by decide +kernel
theorem dX10_readOrder_96 : decode cX10_readOrder 96 = .ok (.iastore, 1) := by decide +kernel
theorem dX10_readOrder_97 : decode cX10_readOrder 97 = .ok (.aload_n 0, 1) := by decide +kernel
theorem dX10_readOrder_98 : decode cX10_readOrder 98 = .ok (.getfield 68, 3) := by decide +kernel
theorem dX10_readOrder_101 : decode cX10_readOrder 101 = .ok (.iload_n 1, 1) := by decide +kernel
theorem dX10_readOrder_102 : decode cX10_readOrder 102 = .ok (.iconst 2, 1) := by decide +kernel
theorem dX10_readOrder_103 : decode cX10_readOrder 103 = .ok (.iadd, 1) := by decide +kernel
theorem dX10_readOrder_104 : decode cX10_readOrder 104 = .ok (.iaload, 1) := by decide +kernel
theorem dX10_readOrder_105 : decode cX10_readOrder 105 = .ok (.iconst (-1), 1) := by decide +kernel
theorem dX10_readOrder_106 : decode cX10_readOrder 106 = .ok (.if_icmp .ne 5, 3) := by decide +kernel
theorem dX10_readOrder_109 : decode cX10_readOrder 109 = .ok (.iconst (-1), 1) := by decide +kernel
theorem dX10_readOrder_110 : decode cX10_readOrder 110 = .ok (.ireturn, 1) := by decide +kernel
theorem dX10_readOrder_111 : decode cX10_readOrder 111 = .ok (.aload_n 0, 1) := by decide +kernel
theorem dX10_readOrder_112 : decode cX10_readOrder 112 = .ok (.getfield 68, 3) := by decide +kernel
theorem dX10_readOrder_115 : decode cX10_readOrder 115 = .ok (.iload_n 1, 1) := by decide +kernel
theorem dX10_readOrder_116 : decode cX10_readOrder 116 = .ok (.iconst 3, 1) := by decide +kernel
theorem dX10_readOrder_117 : decode cX10_readOrder 117 = .ok (.iadd, 1) := by decide +kernel
theorem dX10_readOrder_118 : decode cX10_readOrder 118 = .ok (.iload_n 2, 1) := by decide +kernel
theorem dX10_readOrder_119 : decode cX10_readOrder 119 = .ok (.ifCond .ne 13, 3) := by decide +kernel
theorem dX10_readOrder_122 : decode cX10_readOrder 122 = .ok (.aload_n 0, 1) := by decide +kernel
theorem dX10_readOrder_123 : decode cX10_readOrder 123 = .ok (.iconst 1, 1) := by decide +kernel
theorem dX10_readOrder_124 : decode cX10_readOrder 124 = .ok (.bipush 99, 2) := by decide +kernel
theorem dX10_readOrder_126 : decode cX10_readOrder 126 = .ok (.invokevirtual 265, 3) := by decide +kernel
theorem dX10_readOrder_129 : decode cX10_readOrder 129 = .ok (.goto 4, 3) := by decide +kernel
theorem dX10_readOrder_132 : decode cX10_readOrder 132 = .ok (.iconst 0, 1) := by decide +kernel
theorem dX10_readOrder_133 : decode cX10_readOrder 133 = .ok (.iastore, 1) := by decide +kernel
theorem dX10_readOrder_134 : decode cX10_readOrder 134 = .ok (.aload_n 0, 1) := by decide +kernel
theorem dX10_readOrder_135 : decode cX10_readOrder 135 = .ok (.getfield 68, 3) := by decide +kernel
theorem dX10_readOrder_138 : decode cX10_readOrder 138 = .ok (.iload_n 1, 1) := by decide +kernel
theorem dX10_readOrder_139 : decode cX10_readOrder 139 = .ok (.iconst 3, 1) := by decide +kernel
theorem dX10_readOrder_140 : decode cX10_readOrder 140 = .ok (.iadd, 1) := by decide +kernel
theorem dX10_readOrder_141 : decode cX10_readOrder 141 = .ok (.iaload, 1) := by decide +kernel
theorem dX10_readOrder_142 : decode cX10_readOrder 142 = .ok (.iconst (-1), 1) := by decide +kernel
theorem dX10_readOrder_143 : decode cX10_readOrder 143 = .ok (.if_icmp .ne 7, 3) := by decide +kernel
theorem dX10_readOrder_146 : decode cX10_readOrder 146 = .ok (.iconst (-1), 1) := by decide +kernel
theorem dX10_readOrder_147 : decode cX10_readOrder 147 = .ok (.goto 9, 3) := by decide +kernel
theorem dX10_readOrder_150 : decode cX10_readOrder 150 = .ok (.aload_n 0, 1) := by decide +kernel
theorem dX10_readOrder_151 : decode cX10_readOrder 151 = .ok (.bipush 59, 2) := by decide +kernel
theorem dX10_readOrder_153 : decode cX10_readOrder 153 = .ok (.invokevirtual 275, 3) := by decide +kernel
theorem dX10_readOrder_156 : decode cX10_readOrder 156 = .ok (.ireturn, 1) := by decide +kernel
theorem dX10_readOrders_0 : decode cX10_readOrders 0 = .ok (.iconst 0, 1) := by decide +kernel
theorem dX10_readOrders_1 : decode cX10_readOrders 1 = .ok (.istore_n 1, 1) := by decide +kernel
theorem dX10_readOrders_2 : decode cX10_readOrders 2 = .ok (.aload_n 0, 1) := by decide +kernel
theorem dX10_readOrders_3 : decode cX10_readOrders 3 = .ok (.bipush 17, 2) := by decide +kernel
theorem dX10_readOrders_5 : decode cX10_readOrders 5 = .ok (.invokevirtual 244, 3) := by decide +kernel
theorem dX10_readOrders_8 : decode cX10_readOrders 8 = .ok (.ifCond .eq 38, 3) := by decide +kernel
theorem dX10_readOrders_11 : decode cX10_readOrders 11 = .ok (.iload_n 1, 1) := by decide +kernel
theorem dX10_readOrders_12 : decode cX10_readOrders 12 = .ok (.bipush 16, 2) := by decide +kernel
theorem dX10_readOrders_14 : decode cX10_readOrders 14 = .ok (.if_icmp .ne 9, 3) := by decide +kernel
theorem dX10_readOrders_17 : decode cX10_readOrders 17 = .ok (.aload_n 0, 1) := by decide +kernel
theorem dX10_readOrders_18 : decode cX10_readOrders 18 = .ok (.iconst 3, 1) := by decide +kernel
theorem dX10_readOrders_19 : decode cX10_readOrders 19 = .ok (.invokevirtual 215, 3) := by decide +kernel
theorem dX10_readOrders_22 : decode cX10_readOrders 22 = .ok (.ireturn, 1) := by decide +kernel
theorem dX10_readOrders_23 : decode cX10_readOrders 23 = .ok (.aload_n 0, 1) := by decide +kernel
theorem dX10_readOrders_24 : decode cX10_readOrders 24 = .ok (.bipush 64, 2) := by decide +kernel
theorem dX10_readOrders_26 : decode cX10_readOrders 26 = .ok (.iconst 4, 1) := by decide +kernel
theorem dX10_readOrders_27 : decode cX10_readOrders 27 = .ok (.iload_n 1, 1) := by decide +kernel
theorem dX10_readOrders_28 : decode cX10_readOrders 28 = .ok (.imul, 1) := by decide +kernel
theorem dX10_readOrders_29 : decode cX10_readOrders 29 = .ok (.iadd, 1) := by decide +kernel
theorem dX10_readOrders_30 : decode cX10_readOrders 30 = .ok (.invokevirtual 278, 3) := by decide +kernel
theorem dX10_readOrders_33 : decode cX10_readOrders 33 = .ok (.iconst (-1), 1) := by decide +kernel
theorem dX10_readOrders_34 : decode cX10_readOrders 34 = .ok (.if_icmp .ne 5, 3) := by decide +kernel
theorem dX10_readOrders_37 : decode cX10_readOrders 37 = .ok (.iconst (-1), 1) := by decide +kernel
theorem dX10_readOrders_38 : decode cX10_readOrders 38 = .ok (.ireturn, 1) := by decide +kernel
theorem dX10_readOrders_39 : decode cX10_readOrders 39 = .ok (.iload_n 1, 1) := by decide +kernel
theorem dX10_readOrders_40 : decode cX10_readOrders 40 = .ok (.iconst 1, 1) := by decide +kernel
theorem dX10_readOrders_41 : decode cX10_readOrders 41 = .ok (.iadd, 1) := by decide +kernel
theorem dX10_readOrders_42 : decode cX10_readOrders 42 = .ok (.istore_n 1, 1) := by decide +kernel
theorem dX10_readOrders_43 : decode cX10_readOrders 43 = .ok (.goto (-41), 3) := by decide +kernel
theorem dX10_readOrders_46 : decode cX10_readOrders 46 = .ok (.aload_n 0, 1) := by decide +kernel
theorem dX10_readOrders_47 : decode cX10_readOrders 47 = .ok (.getfield 184, 3) := by decide +kernel
theorem dX10_readOrders_50 : decode cX10_readOrders 50 = .ok (.ifCond .ne 7, 3) := by decide +kernel
theorem dX10_readOrders_53 : decode cX10_readOrders 53 = .ok (.iload_n 1, 1) := by decide +kernel
theorem dX10_readOrders_54 : decode cX10_readOrders 54 = .ok (.goto 8, 3) := by decide +kernel
theorem dX10_readOrders_57 : decode cX10_readOrders 57 = .ok (.aload_n 0, 1) := by decide +kernel
theorem dX10_readOrders_58 : decode cX10_readOrders 58 = .ok (.iconst 1, 1) := by decide +kernel
theorem dX10_readOrders_59 : decode cX10_readOrders 59 = .ok (.invokevirtual 215, 3) := by decide +kernel
theorem dX10_readOrders_62 : decode cX10_readOrders 62 = .ok (.ireturn, 1) := by decide +kernel
theorem dX10_readService_0 : decode cX10_readService 0 = .ok (.aload_n 0, 1) := by decide +kernel
theorem dX10_readService_1 : decode cX10_readService 1 = .ok (.bipush 22, 2) := by decide +kernel
theorem dX10_readService_3 : decode cX10_readService 3 = .ok (.iconst 0, 1) := by decide +kernel
theorem dX10_readService_4 : decode cX10_readService 4 = .ok (.aload_n 0, 1) := by decide +kernel
theorem dX10_readService_5 : decode cX10_readService 5 = .ok (.getfield 143, 3) := by decide +kernel
theorem dX10_readService_8 : decode cX10_readService 8 = .ok (.iconst 1, 1) := by decide +kernel
theorem dX10_readService_9 : decode cX10_readService 9 = .ok (.isub, 1) := by decide +kernel
theorem dX10_readService_10 : decode cX10_readService 10 = .ok (.invokevirtual 268, 3) := by decide +kernel
theorem dX10_readService_13 : decode cX10_readService 13 = .ok (.istore_n 1, 1) := by decide +kernel
theorem dX10_readService_14 : decode cX10_readService 14 = .ok (.iload_n 1, 1) := by decide +kernel
theorem dX10_readService_15 : decode cX10_readService 15 = .ok (.iconst (-1), 1) := by decide +kernel
theorem dX10_readService_16 : decode cX10_readService 16 = .ok (.if_icmp .ne 5, 3) := by decide +kernel
theorem dX10_readService_19 : decode cX10_readService 19 = .ok (.iconst (-1), 1) := by decide +kernel
theorem dX10_readService_20 : decode cX10_readService 20 = .ok (.ireturn, 1) := by decide +kernel
theorem dX10_readService_21 : decode cX10_readService 21 = .ok (.aload_n 0, 1) := by decide +kernel
theorem dX10_readService_22 : decode cX10_readService 22 = .ok (.bipush 23, 2) := by decide +kernel
theorem dX10_readService_24 : decode cX10_readService 24 = .ok (.invokevirtual 244, 3) := by decide +kernel
theorem dX10_readService_27 : decode cX10_readService 27 = .ok (.ifCond .ne 9, 3) := by decide +kernel
theorem dX10_readService_30 : decode cX10_readService 30 = .ok (.aload_n 0, 1) := by decide +kernel
theorem dX10_readService_31 : decode cX10_readService 31 = .ok (.iconst 1, 1) := by decide +kernel
theorem dX10_readService_32 : decode cX10_readService 32 = .ok (.invokevirtual 215, 3) := by decide +kernel
theorem dX10_readService_35 : decode cX10_readService 35 = .ok (.ireturn, 1) := by decide +kernel
theorem dX10_readService_36 : decode cX10_readService 36 = .ok (.aload_n 0, 1) := by decide +kernel
theorem dX10_readService_37 : decode cX10_readService 37 = .ok (.invokevirtual 222, 3) := by decide +kernel
theorem dX10_readService_40 : decode cX10_readService 40 = .ok (.aload_n 0, 1) := by decide +kernel
theorem dX10_readService_41 : decode cX10_readService 41 = .ok (.getfield 184, 3) := by decide +kernel
theorem dX10_readService_44 : decode cX10_readService 44 = .ok (.iconst 3, 1) := by decide +kernel
theorem dX10_readService_45 : decode cX10_readService 45 = .ok (.if_icmp .ne 38, 3) := by decide +kernel
theorem dX10_readService_48 : decode cX10_readService 48 = .ok (.aload_n 0, 1) := by decide +kernel
theorem dX10_readService_49 : decode cX10_readService 49 = .ok (.getfield 187, 3) := by decide +kernel
theorem dX10_readService_52 : decode cX10_readService 52 = .ok (.aload_n 0, 1) := by decide +kernel
theorem dX10_readService_53 : decode cX10_readService 53 = .ok (.getfield 146, 3) := by decide +kernel
theorem dX10_readService_56 : decode cX10_readService 56 = .ok (.if_icmp .ge 27, 3) := by decide +kernel
theorem dX10_readService_59 : decode cX10_readService 59 = .ok (.aload_n 0, 1) := by decide +kernel
theorem dX10_readService_60 : decode cX10_readService 60 = .ok (.getfield 25, 3) := by decide +kernel
theorem dX10_readService_63 : decode cX10_readService 63 = .ok (.aload_n 0, 1) := by decide +kernel
theorem dX10_readService_64 : decode cX10_readService 64 = .ok (.getfield 187, 3) := by decide +kernel
theorem dX10_readService_67 : decode cX10_readService 67 = .ok (.iaload, 1) := by decide +kernel
theorem dX10_readService_68 : decode cX10_readService 68 = .ok (.aload_n 0, 1) := by decide +kernel
theorem dX10_readService_69 : decode cX10_readService 69 = .ok (.getfield 19, 3) := by decide +kernel
theorem dX10_readService_72 : decode cX10_readService 72 = .ok (.iload_n 1, 1) := by decide +kernel
theorem dX10_readService_73 : decode cX10_readService 73 = .ok (.iaload, 1) := by decide +kernel
theorem dX10_readService_74 : decode cX10_readService 74 = .ok (.if_icmp .ne 9, 3) := by decide +kernel
theorem dX10_readService_77 : decode cX10_readService 77 = .ok (.aload_n 0, 1) := by decide +kernel
theorem dX10_readService_78 : decode cX10_readService 78 = .ok (.iconst 2, 1) := by decide +kernel
theorem dX10_readService_79 : decode cX10_readService 79 = .ok (.invokevirtual 215, 3) := by decide +kernel
theorem dX10_readService_82 : decode cX10_readService 82 = .ok (.ireturn, 1) := by decide +kernel
theorem dX10_readService_83 : decode cX10_readService 83 = .ok (.aload_n 0, 1) := by decide +kernel
theorem dX10_readService_84 : decode cX10_readService 84 = .ok (.iconst 0, 1) := by decide +kernel
theorem dX10_readService_85 : decode cX10_readService 85 = .ok (.aload_n 0, 1) := by decide +kernel
theorem dX10_readService_86 : decode cX10_readService 86 = .ok (.getfield 146, 3) := by decide +kernel
theorem dX10_readService_89 : decode cX10_readService 89 = .ok (.iconst 1, 1) := by decide +kernel
theorem dX10_readService_90 : decode cX10_readService 90 = .ok (.isub, 1) := by decide +kernel
theorem dX10_readService_91 : decode cX10_readService 91 = .ok (.invokevirtual 265, 3) := by decide +kernel
theorem dX10_readService_94 : decode cX10_readService 94 = .ok (.istore_n 2, 1) := by decide +kernel
theorem dX10_readService_95 : decode cX10_readService 95 = .ok (.iload_n 2, 1) := by decide +kernel
theorem dX10_readService_96 : decode cX10_readService 96 = .ok (.iconst (-1), 1) := by decide +kernel
theorem dX10_readService_97 : decode cX10_readService 97 = .ok (.if_icmp .ne 5, 3) := by decide +kernel
theorem dX10_readService_100 : decode cX10_readService 100 = .ok (.iconst (-1), 1) := by decide +kernel
theorem dX10_readService_101 : decode cX10_readService 101 = .ok (.ireturn, 1) := by decide +kernel
theorem dX10_readService_102 : decode cX10_readService 102 = .ok (.aload_n 0, 1) := by decide +kernel
theorem dX10_readService_103 : decode cX10_readService 103 = .ok (.getfield 71, 3) := by decide +kernel
theorem dX10_readService_106 : decode cX10_readService 106 = .ok (.bipush 12, 2) := by decide +kernel
theorem dX10_readService_108 : decode cX10_readService 108 = .ok (.iload_n 1, 1) := by decide +kernel
theorem dX10_readService_109 : decode cX10_readService 109 = .ok (.iadd, 1) := by decide +kernel
theorem dX10_readService_110 : decode cX10_readService 110 = .ok (.iload_n 2, 1) := by decide +kernel
theorem dX10_readService_111 : decode cX10_readService 111 = .ok (.iconst 1, 1) := by decide +kernel
theorem dX10_readService_112 : decode cX10_readService 112 = .ok (.iadd, 1) := by decide +kernel
theorem dX10_readService_113 : decode cX10_readService 113 = .ok (.iastore, 1) := by decide +kernel
theorem dX10_readService_114 : decode cX10_readService 114 = .ok (.aload_n 0, 1) := by decide +kernel
theorem dX10_readService_115 : decode cX10_readService 115 = .ok (.bipush 59, 2) := by decide +kernel
theorem dX10_readService_117 : decode cX10_readService 117 = .ok (.invokevirtual 275, 3) := by decide +kernel
theorem dX10_readService_120 : decode cX10_readService 120 = .ok (.ireturn, 1) := by decide +kernel
theorem dX10_readNeed_0 : decode cX10_readNeed 0 = .ok (.aload_n 0, 1) := by decide +kernel
theorem dX10_readNeed_1 : decode cX10_readNeed 1 = .ok (.bipush 22, 2) := by decide +kernel
theorem dX10_readNeed_3 : decode cX10_readNeed 3 = .ok (.iconst 0, 1) := by decide +kernel
theorem dX10_readNeed_4 : decode cX10_readNeed 4 = .ok (.aload_n 0, 1) := by decide +kernel
theorem dX10_readNeed_5 : decode cX10_readNeed 5 = .ok (.getfield 143, 3) := by decide +kernel
theorem dX10_readNeed_8 : decode cX10_readNeed 8 = .ok (.iconst 1, 1) := by decide +kernel
theorem dX10_readNeed_9 : decode cX10_readNeed 9 = .ok (.isub, 1) := by decide +kernel
theorem dX10_readNeed_10 : decode cX10_readNeed 10 = .ok (.invokevirtual 268, 3) := by decide +kernel
theorem dX10_readNeed_13 : decode cX10_readNeed 13 = .ok (.istore_n 1, 1) := by decide +kernel
theorem dX10_readNeed_14 : decode cX10_readNeed 14 = .ok (.iload_n 1, 1) := by decide +kernel
theorem dX10_readNeed_15 : decode cX10_readNeed 15 = .ok (.iconst (-1), 1) := by decide +kernel
theorem dX10_readNeed_16 : decode cX10_readNeed 16 = .ok (.if_icmp .ne 5, 3) := by decide +kernel
theorem dX10_readNeed_19 : decode cX10_readNeed 19 = .ok (.iconst (-1), 1) := by decide +kernel
theorem dX10_readNeed_20 : decode cX10_readNeed 20 = .ok (.ireturn, 1) := by decide +kernel
theorem dX10_readNeed_21 : decode cX10_readNeed 21 = .ok (.aload_n 0, 1) := by decide +kernel
theorem dX10_readNeed_22 : decode cX10_readNeed 22 = .ok (.bipush 24, 2) := by decide +kernel
theorem dX10_readNeed_24 : decode cX10_readNeed 24 = .ok (.invokevirtual 244, 3) := by decide +kernel
theorem dX10_readNeed_27 : decode cX10_readNeed 27 = .ok (.ifCond .ne 9, 3) := by decide +kernel
theorem dX10_readNeed_30 : decode cX10_readNeed 30 = .ok (.aload_n 0, 1) := by decide +kernel
theorem dX10_readNeed_31 : decode cX10_readNeed 31 = .ok (.iconst 1, 1) := by decide +kernel
theorem dX10_readNeed_32 : decode cX10_readNeed 32 = .ok (.invokevirtual 215, 3) := by decide +kernel
theorem dX10_readNeed_35 : decode cX10_readNeed 35 = .ok (.ireturn, 1) := by decide +kernel
theorem dX10_readNeed_36 : decode cX10_readNeed 36 = .ok (.aload_n 0, 1) := by decide +kernel
theorem dX10_readNeed_37 : decode cX10_readNeed 37 = .ok (.invokevirtual 222, 3) := by decide +kernel
theorem dX10_readNeed_40 : decode cX10_readNeed 40 = .ok (.aload_n 0, 1) := by decide +kernel
theorem dX10_readNeed_41 : decode cX10_readNeed 41 = .ok (.getfield 184, 3) := by decide +kernel
theorem dX10_readNeed_44 : decode cX10_readNeed 44 = .ok (.iconst 3, 1) := by decide +kernel
theorem dX10_readNeed_45 : decode cX10_readNeed 45 = .ok (.if_icmp .ne 46, 3) := by decide +kernel
theorem dX10_readNeed_48 : decode cX10_readNeed 48 = .ok (.aload_n 0, 1) := by decide +kernel
theorem dX10_readNeed_49 : decode cX10_readNeed 49 = .ok (.getfield 187, 3) := by decide +kernel
theorem dX10_readNeed_52 : decode cX10_readNeed 52 = .ok (.aload_n 0, 1) := by decide +kernel
theorem dX10_readNeed_53 : decode cX10_readNeed 53 = .ok (.getfield 143, 3) := by decide +kernel
theorem dX10_readNeed_56 : decode cX10_readNeed 56 = .ok (.if_icmp .ge 35, 3) := by decide +kernel
theorem dX10_readNeed_59 : decode cX10_readNeed 59 = .ok (.aload_n 0, 1) := by decide +kernel
theorem dX10_readNeed_60 : decode cX10_readNeed 60 = .ok (.getfield 187, 3) := by decide +kernel
theorem dX10_readNeed_63 : decode cX10_readNeed 63 = .ok (.iload_n 1, 1) := by decide +kernel
theorem dX10_readNeed_64 : decode cX10_readNeed 64 = .ok (.if_icmp .eq 21, 3) := by decide +kernel
theorem dX10_readNeed_67 : decode cX10_readNeed 67 = .ok (.aload_n 0, 1) := by decide +kernel
theorem dX10_readNeed_68 : decode cX10_readNeed 68 = .ok (.getfield 19, 3) := by decide +kernel
theorem dX10_readNeed_71 : decode cX10_readNeed 71 = .ok (.aload_n 0, 1) := by decide +kernel
theorem dX10_readNeed_72 : decode cX10_readNeed 72 = .ok (.getfield 187, 3) := by decide +kernel
theorem dX10_readNeed_75 : decode cX10_readNeed 75 = .ok (.iaload, 1) := by decide +kernel
theorem dX10_readNeed_76 : decode cX10_readNeed 76 = .ok (.aload_n 0, 1) := by decide +kernel
theorem dX10_readNeed_77 : decode cX10_readNeed 77 = .ok (.getfield 19, 3) := by decide +kernel
theorem dX10_readNeed_80 : decode cX10_readNeed 80 = .ok (.iload_n 1, 1) := by decide +kernel
theorem dX10_readNeed_81 : decode cX10_readNeed 81 = .ok (.iaload, 1) := by decide +kernel
theorem dX10_readNeed_82 : decode cX10_readNeed 82 = .ok (.if_icmp .eq 9, 3) := by decide +kernel
theorem dX10_readNeed_85 : decode cX10_readNeed 85 = .ok (.aload_n 0, 1) := by decide +kernel
theorem dX10_readNeed_86 : decode cX10_readNeed 86 = .ok (.iconst 2, 1) := by decide +kernel
theorem dX10_readNeed_87 : decode cX10_readNeed 87 = .ok (.invokevirtual 215, 3) := by decide +kernel
theorem dX10_readNeed_90 : decode cX10_readNeed 90 = .ok (.ireturn, 1) := by decide +kernel
theorem dX10_readNeed_91 : decode cX10_readNeed 91 = .ok (.aload_n 0, 1) := by decide +kernel
theorem dX10_readNeed_92 : decode cX10_readNeed 92 = .ok (.iconst 0, 1) := by decide +kernel
theorem dX10_readNeed_93 : decode cX10_readNeed 93 = .ok (.aload_n 0, 1) := by decide +kernel
theorem dX10_readNeed_94 : decode cX10_readNeed 94 = .ok (.getfield 143, 3) := by decide +kernel
theorem dX10_readNeed_97 : decode cX10_readNeed 97 = .ok (.iconst 1, 1) := by decide +kernel
theorem dX10_readNeed_98 : decode cX10_readNeed 98 = .ok (.isub, 1) := by decide +kernel
theorem dX10_readNeed_99 : decode cX10_readNeed 99 = .ok (.invokevirtual 265, 3) := by decide +kernel
theorem dX10_readNeed_102 : decode cX10_readNeed 102 = .ok (.istore_n 2, 1) := by decide +kernel
theorem dX10_readNeed_103 : decode cX10_readNeed 103 = .ok (.iload_n 2, 1) := by decide +kernel
theorem dX10_readNeed_104 : decode cX10_readNeed 104 = .ok (.iconst (-1), 1) := by decide +kernel
theorem dX10_readNeed_105 : decode cX10_readNeed 105 = .ok (.if_icmp .ne 5, 3) := by decide +kernel
theorem dX10_readNeed_108 : decode cX10_readNeed 108 = .ok (.iconst (-1), 1) := by decide +kernel
theorem dX10_readNeed_109 : decode cX10_readNeed 109 = .ok (.ireturn, 1) := by decide +kernel
theorem dX10_readNeed_110 : decode cX10_readNeed 110 = .ok (.aload_n 0, 1) := by decide +kernel
theorem dX10_readNeed_111 : decode cX10_readNeed 111 = .ok (.getfield 74, 3) := by decide +kernel
theorem dX10_readNeed_114 : decode cX10_readNeed 114 = .ok (.bipush 12, 2) := by decide +kernel
theorem dX10_readNeed_116 : decode cX10_readNeed 116 = .ok (.iload_n 1, 1) := by decide +kernel
theorem dX10_readNeed_117 : decode cX10_readNeed 117 = .ok (.iadd, 1) := by decide +kernel
theorem dX10_readNeed_118 : decode cX10_readNeed 118 = .ok (.aload_n 0, 1) := by decide +kernel
theorem dX10_readNeed_119 : decode cX10_readNeed 119 = .ok (.getfield 74, 3) := by decide +kernel
theorem dX10_readNeed_122 : decode cX10_readNeed 122 = .ok (.bipush 12, 2) := by decide +kernel
theorem dX10_readNeed_124 : decode cX10_readNeed 124 = .ok (.iload_n 1, 1) := by decide +kernel
theorem dX10_readNeed_125 : decode cX10_readNeed 125 = .ok (.iadd, 1) := by decide +kernel
theorem dX10_readNeed_126 : decode cX10_readNeed 126 = .ok (.iaload, 1) := by decide +kernel
theorem dX10_readNeed_127 : decode cX10_readNeed 127 = .ok (.iconst 1, 1) := by decide +kernel
theorem dX10_readNeed_128 : decode cX10_readNeed 128 = .ok (.iload_n 2, 1) := by decide +kernel
theorem dX10_readNeed_129 : decode cX10_readNeed 129 = .ok (.ishl, 1) := by decide +kernel
theorem dX10_readNeed_130 : decode cX10_readNeed 130 = .ok (.ior, 1) := by decide +kernel
theorem dX10_readNeed_131 : decode cX10_readNeed 131 = .ok (.iastore, 1) := by decide +kernel
theorem dX10_readNeed_132 : decode cX10_readNeed 132 = .ok (.aload_n 0, 1) := by decide +kernel
theorem dX10_readNeed_133 : decode cX10_readNeed 133 = .ok (.bipush 59, 2) := by decide +kernel
theorem dX10_readNeed_135 : decode cX10_readNeed 135 = .ok (.invokevirtual 275, 3) := by decide +kernel
theorem dX10_readNeed_138 : decode cX10_readNeed 138 = .ok (.ireturn, 1) := by decide +kernel
theorem dX10_readOfficers_0 : decode cX10_readOfficers 0 = .ok (.iconst 0, 1) := by decide +kernel
theorem dX10_readOfficers_1 : decode cX10_readOfficers 1 = .ok (.istore_n 2, 1) := by decide +kernel
theorem dX10_readOfficers_2 : decode cX10_readOfficers 2 = .ok (.iload_n 2, 1) := by decide +kernel
theorem dX10_readOfficers_3 : decode cX10_readOfficers 3 = .ok (.bipush 12, 2) := by decide +kernel
theorem dX10_readOfficers_5 : decode cX10_readOfficers 5 = .ok (.if_icmp .ge 29, 3) := by decide +kernel
theorem dX10_readOfficers_8 : decode cX10_readOfficers 8 = .ok (.aload_n 0, 1) := by decide +kernel
theorem dX10_readOfficers_9 : decode cX10_readOfficers 9 = .ok (.getfield 71, 3) := by decide +kernel
theorem dX10_readOfficers_12 : decode cX10_readOfficers 12 = .ok (.bipush 12, 2) := by decide +kernel
theorem dX10_readOfficers_14 : decode cX10_readOfficers 14 = .ok (.iload_n 2, 1) := by decide +kernel
theorem dX10_readOfficers_15 : decode cX10_readOfficers 15 = .ok (.iadd, 1) := by decide +kernel
theorem dX10_readOfficers_16 : decode cX10_readOfficers 16 = .ok (.iconst 0, 1) := by decide +kernel
theorem dX10_readOfficers_17 : decode cX10_readOfficers 17 = .ok (.iastore, 1) := by decide +kernel
theorem dX10_readOfficers_18 : decode cX10_readOfficers 18 = .ok (.aload_n 0, 1) := by decide +kernel
theorem dX10_readOfficers_19 : decode cX10_readOfficers 19 = .ok (.getfield 74, 3) := by decide +kernel
theorem dX10_readOfficers_22 : decode cX10_readOfficers 22 = .ok (.bipush 12, 2) := by decide +kernel
theorem dX10_readOfficers_24 : decode cX10_readOfficers 24 = .ok (.iload_n 2, 1) := by decide +kernel
theorem dX10_readOfficers_25 : decode cX10_readOfficers 25 = .ok (.iadd, 1) := by decide +kernel
theorem dX10_readOfficers_26 : decode cX10_readOfficers 26 = .ok (.iconst 0, 1) := by decide +kernel
theorem dX10_readOfficers_27 : decode cX10_readOfficers 27 = .ok (.iastore, 1) := by decide +kernel
theorem dX10_readOfficers_28 : decode cX10_readOfficers 28 = .ok (.iinc 2 1, 3) := by decide +kernel
theorem dX10_readOfficers_31 : decode cX10_readOfficers 31 = .ok (.goto (-29), 3) := by decide +kernel
theorem dX10_readOfficers_34 : decode cX10_readOfficers 34 = .ok (.iconst 0, 1) := by decide +kernel
theorem dX10_readOfficers_35 : decode cX10_readOfficers 35 = .ok (.istore_n 2, 1) := by decide +kernel
theorem dX10_readOfficers_36 : decode cX10_readOfficers 36 = .ok (.aload_n 0, 1) := by decide +kernel
theorem dX10_readOfficers_37 : decode cX10_readOfficers 37 = .ok (.bipush 22, 2) := by decide +kernel
theorem dX10_readOfficers_39 : decode cX10_readOfficers 39 = .ok (.invokevirtual 244, 3) := by decide +kernel
theorem dX10_readOfficers_42 : decode cX10_readOfficers 42 = .ok (.ifCond .eq 45, 3) := by decide +kernel
theorem dX10_readOfficers_45 : decode cX10_readOfficers 45 = .ok (.iload_n 2, 1) := by decide +kernel
theorem dX10_readOfficers_46 : decode cX10_readOfficers 46 = .ok (.bipush 16, 2) := by decide +kernel
theorem dX10_readOfficers_48 : decode cX10_readOfficers 48 = .ok (.if_icmp .ne 9, 3) := by decide +kernel
theorem dX10_readOfficers_51 : decode cX10_readOfficers 51 = .ok (.aload_n 0, 1) := by decide +kernel
theorem dX10_readOfficers_52 : decode cX10_readOfficers 52 = .ok (.iconst 3, 1) := by decide +kernel
theorem dX10_readOfficers_53 : decode cX10_readOfficers 53 = .ok (.invokevirtual 215, 3) := by decide +kernel
theorem dX10_readOfficers_56 : decode cX10_readOfficers 56 = .ok (.ireturn, 1) := by decide +kernel
theorem dX10_readOfficers_57 : decode cX10_readOfficers 57 = .ok (.iload_n 1, 1) := by decide +kernel
theorem dX10_readOfficers_58 : decode cX10_readOfficers 58 = .ok (.ifCond .eq 10, 3) := by decide +kernel
theorem dX10_readOfficers_61 : decode cX10_readOfficers 61 = .ok (.aload_n 0, 1) := by decide +kernel
theorem dX10_readOfficers_62 : decode cX10_readOfficers 62 = .ok (.invokevirtual 281, 3) := by decide +kernel
theorem dX10_readOfficers_65 : decode cX10_readOfficers 65 = .ok (.goto 7, 3) := by decide +kernel
theorem dX10_readOfficers_68 : decode cX10_readOfficers 68 = .ok (.aload_n 0, 1) := by decide +kernel
theorem dX10_readOfficers_69 : decode cX10_readOfficers 69 = .ok (.invokevirtual 284, 3) := by decide +kernel
theorem dX10_readOfficers_72 : decode cX10_readOfficers 72 = .ok (.istore_n 3, 1) := by decide +kernel
theorem dX10_readOfficers_73 : decode cX10_readOfficers 73 = .ok (.iload_n 3, 1) := by decide +kernel
theorem dX10_readOfficers_74 : decode cX10_readOfficers 74 = .ok (.iconst (-1), 1) := by decide +kernel
theorem dX10_readOfficers_75 : decode cX10_readOfficers 75 = .ok (.if_icmp .ne 5, 3) := by decide +kernel
theorem dX10_readOfficers_78 : decode cX10_readOfficers 78 = .ok (.iconst (-1), 1) := by decide +kernel
theorem dX10_readOfficers_79 : decode cX10_readOfficers 79 = .ok (.ireturn, 1) := by decide +kernel
theorem dX10_readOfficers_80 : decode cX10_readOfficers 80 = .ok (.iload_n 2, 1) := by decide +kernel
theorem dX10_readOfficers_81 : decode cX10_readOfficers 81 = .ok (.iconst 1, 1) := by decide +kernel
theorem dX10_readOfficers_82 : decode cX10_readOfficers 82 = .ok (.iadd, 1) := by decide +kernel
theorem dX10_readOfficers_83 : decode cX10_readOfficers 83 = .ok (.istore_n 2, 1) := by decide +kernel
theorem dX10_readOfficers_84 : decode cX10_readOfficers 84 = .ok (.goto (-48), 3) := by decide +kernel
theorem dX10_readOfficers_87 : decode cX10_readOfficers 87 = .ok (.aload_n 0, 1) := by decide +kernel
theorem dX10_readOfficers_88 : decode cX10_readOfficers 88 = .ok (.getfield 184, 3) := by decide +kernel
theorem dX10_readOfficers_91 : decode cX10_readOfficers 91 = .ok (.ifCond .ne 7, 3) := by decide +kernel
theorem dX10_readOfficers_94 : decode cX10_readOfficers 94 = .ok (.iload_n 2, 1) := by decide +kernel
theorem dX10_readOfficers_95 : decode cX10_readOfficers 95 = .ok (.goto 8, 3) := by decide +kernel
theorem dX10_readOfficers_98 : decode cX10_readOfficers 98 = .ok (.aload_n 0, 1) := by decide +kernel
theorem dX10_readOfficers_99 : decode cX10_readOfficers 99 = .ok (.iconst 1, 1) := by decide +kernel
theorem dX10_readOfficers_100 : decode cX10_readOfficers 100 = .ok (.invokevirtual 215, 3) := by decide +kernel
theorem dX10_readOfficers_103 : decode cX10_readOfficers 103 = .ok (.ireturn, 1) := by decide +kernel
theorem dX10_readsText_0 : decode cX10_readsText 0 = .ok (.aload_n 0, 1) := by decide +kernel
theorem dX10_readsText_1 : decode cX10_readsText 1 = .ok (.iconst 0, 1) := by decide +kernel
theorem dX10_readsText_2 : decode cX10_readsText 2 = .ok (.putfield 262, 3) := by decide +kernel
theorem dX10_readsText_5 : decode cX10_readsText 5 = .ok (.aload_n 0, 1) := by decide +kernel
theorem dX10_readsText_6 : decode cX10_readsText 6 = .ok (.invokevirtual 222, 3) := by decide +kernel
theorem dX10_readsText_9 : decode cX10_readsText 9 = .ok (.iload_n 1, 1) := by decide +kernel
theorem dX10_readsText_10 : decode cX10_readsText 10 = .ok (.iconst 1, 1) := by decide +kernel
theorem dX10_readsText_11 : decode cX10_readsText 11 = .ok (.if_icmp .ne 8, 3) := by decide +kernel
theorem dX10_readsText_14 : decode cX10_readsText 14 = .ok (.aload_n 0, 1) := by decide +kernel
theorem dX10_readsText_15 : decode cX10_readsText 15 = .ok (.invokevirtual 287, 3) := by decide +kernel
theorem dX10_readsText_18 : decode cX10_readsText 18 = .ok (.ireturn, 1) := by decide +kernel
theorem dX10_readsText_19 : decode cX10_readsText 19 = .ok (.iload_n 1, 1) := by decide +kernel
theorem dX10_readsText_20 : decode cX10_readsText 20 = .ok (.ifCond .ne 10, 3) := by decide +kernel
theorem dX10_readsText_23 : decode cX10_readsText 23 = .ok (.aload_n 0, 1) := by decide +kernel
theorem dX10_readsText_24 : decode cX10_readsText 24 = .ok (.invokevirtual 290, 3) := by decide +kernel
theorem dX10_readsText_27 : decode cX10_readsText 27 = .ok (.goto 17, 3) := by decide +kernel
theorem dX10_readsText_30 : decode cX10_readsText 30 = .ok (.aload_n 0, 1) := by decide +kernel
theorem dX10_readsText_31 : decode cX10_readsText 31 = .ok (.iload_n 1, 1) := by decide +kernel
theorem dX10_readsText_32 : decode cX10_readsText 32 = .ok (.iconst 2, 1) := by decide +kernel
theorem dX10_readsText_33 : decode cX10_readsText 33 = .ok (.if_icmp .ne 7, 3) := by decide +kernel
theorem dX10_readsText_36 : decode cX10_readsText 36 = .ok (.iconst 1, 1) := by decide +kernel
theorem dX10_readsText_37 : decode cX10_readsText 37 = .ok (.goto 4, 3) := by decide +kernel
theorem dX10_readsText_40 : decode cX10_readsText 40 = .ok (.iconst 0, 1) := by decide +kernel
theorem dX10_readsText_41 : decode cX10_readsText 41 = .ok (.invokevirtual 293, 3) := by decide +kernel
theorem dX10_readsText_44 : decode cX10_readsText 44 = .ok (.ireturn, 1) := by decide +kernel
theorem dX10_takesOther_0 : decode cX10_takesOther 0 = .ok (.iload_n 1, 1) := by decide +kernel
theorem dX10_takesOther_1 : decode cX10_takesOther 1 = .ok (.iconst 1, 1) := by decide +kernel
theorem dX10_takesOther_2 : decode cX10_takesOther 2 = .ok (.if_icmp .ne 38, 3) := by decide +kernel
theorem dX10_takesOther_5 : decode cX10_takesOther 5 = .ok (.iconst 0, 1) := by decide +kernel
theorem dX10_takesOther_6 : decode cX10_takesOther 6 = .ok (.istore_n 3, 1) := by decide +kernel
theorem dX10_takesOther_7 : decode cX10_takesOther 7 = .ok (.iload_n 3, 1) := by decide +kernel
theorem dX10_takesOther_8 : decode cX10_takesOther 8 = .ok (.iconst 4, 1) := by decide +kernel
theorem dX10_takesOther_9 : decode cX10_takesOther 9 = .ok (.iload_n 2, 1) := by decide +kernel
theorem dX10_takesOther_10 : decode cX10_takesOther 10 = .ok (.imul, 1) := by decide +kernel
theorem dX10_takesOther_11 : decode cX10_takesOther 11 = .ok (.if_icmp .ge 24, 3) := by decide +kernel
theorem dX10_takesOther_14 : decode cX10_takesOther 14 = .ok (.aload_n 0, 1) := by decide +kernel
theorem dX10_takesOther_15 : decode cX10_takesOther 15 = .ok (.getfield 68, 3) := by decide +kernel
theorem dX10_takesOther_18 : decode cX10_takesOther 18 = .ok (.iload_n 3, 1) := by decide +kernel
theorem dX10_takesOther_19 : decode cX10_takesOther 19 = .ok (.aload_n 0, 1) := by decide +kernel
theorem dX10_takesOther_20 : decode cX10_takesOther 20 = .ok (.getfield 68, 3) := by decide +kernel
theorem dX10_takesOther_23 : decode cX10_takesOther 23 = .ok (.bipush 64, 2) := by decide +kernel
theorem dX10_takesOther_25 : decode cX10_takesOther 25 = .ok (.iload_n 3, 1) := by decide +kernel
theorem dX10_takesOther_26 : decode cX10_takesOther 26 = .ok (.iadd, 1) := by decide +kernel
theorem dX10_takesOther_27 : decode cX10_takesOther 27 = .ok (.iaload, 1) := by decide +kernel
theorem dX10_takesOther_28 : decode cX10_takesOther 28 = .ok (.iastore, 1) := by decide +kernel
theorem dX10_takesOther_29 : decode cX10_takesOther 29 = .ok (.iinc 3 1, 3) := by decide +kernel
theorem dX10_takesOther_32 : decode cX10_takesOther 32 = .ok (.goto (-25), 3) := by decide +kernel
theorem dX10_takesOther_35 : decode cX10_takesOther 35 = .ok (.aload_n 0, 1) := by decide +kernel
theorem dX10_takesOther_36 : decode cX10_takesOther 36 = .ok (.iload_n 2, 1) := by decide +kernel
theorem dX10_takesOther_37 : decode cX10_takesOther 37 = .ok (.putfield 297, 3) := by decide +kernel
theorem dX10_takesOther_40 : decode cX10_takesOther 40 = .ok (.iconst 0, 1) := by decide +kernel
theorem dX10_takesOther_41 : decode cX10_takesOther 41 = .ok (.istore_n 3, 1) := by decide +kernel
theorem dX10_takesOther_42 : decode cX10_takesOther 42 = .ok (.iload_n 3, 1) := by decide +kernel
theorem dX10_takesOther_43 : decode cX10_takesOther 43 = .ok (.bipush 12, 2) := by decide +kernel
theorem dX10_takesOther_45 : decode cX10_takesOther 45 = .ok (.if_icmp .ge 49, 3) := by decide +kernel
theorem dX10_takesOther_48 : decode cX10_takesOther 48 = .ok (.iload_n 1, 1) := by decide +kernel
theorem dX10_takesOther_49 : decode cX10_takesOther 49 = .ok (.iconst 2, 1) := by decide +kernel
theorem dX10_takesOther_50 : decode cX10_takesOther 50 = .ok (.if_icmp .ne 18, 3) := by decide +kernel
theorem dX10_takesOther_53 : decode cX10_takesOther 53 = .ok (.aload_n 0, 1) := by decide +kernel
theorem dX10_takesOther_54 : decode cX10_takesOther 54 = .ok (.getfield 71, 3) := by decide +kernel
theorem dX10_takesOther_57 : decode cX10_takesOther 57 = .ok (.iload_n 3, 1) := by decide +kernel
theorem dX10_takesOther_58 : decode cX10_takesOther 58 = .ok (.aload_n 0, 1) := by decide +kernel
theorem dX10_takesOther_59 : decode cX10_takesOther 59 = .ok (.getfield 71, 3) := by decide +kernel
theorem dX10_takesOther_62 : decode cX10_takesOther 62 = .ok (.bipush 12, 2) := by decide +kernel
theorem dX10_takesOther_64 : decode cX10_takesOther 64 = .ok (.iload_n 3, 1) := by decide +kernel
theorem dX10_takesOther_65 : decode cX10_takesOther 65 = .ok (.iadd, 1) := by decide +kernel
theorem dX10_takesOther_66 : decode cX10_takesOther 66 = .ok (.iaload, 1) := by decide +kernel
theorem dX10_takesOther_67 : decode cX10_takesOther 67 = .ok (.iastore, 1) := by decide +kernel
theorem dX10_takesOther_68 : decode cX10_takesOther 68 = .ok (.iload_n 1, 1) := by decide +kernel
theorem dX10_takesOther_69 : decode cX10_takesOther 69 = .ok (.iconst 3, 1) := by decide +kernel
theorem dX10_takesOther_70 : decode cX10_takesOther 70 = .ok (.if_icmp .ne 18, 3) := by decide +kernel
theorem dX10_takesOther_73 : decode cX10_takesOther 73 = .ok (.aload_n 0, 1) := by decide +kernel
theorem dX10_takesOther_74 : decode cX10_takesOther 74 = .ok (.getfield 74, 3) := by decide +kernel
theorem dX10_takesOther_77 : decode cX10_takesOther 77 = .ok (.iload_n 3, 1) := by decide +kernel
theorem dX10_takesOther_78 : decode cX10_takesOther 78 = .ok (.aload_n 0, 1) := by decide +kernel
theorem dX10_takesOther_79 : decode cX10_takesOther 79 = .ok (.getfield 74, 3) := by decide +kernel
theorem dX10_takesOther_82 : decode cX10_takesOther 82 = .ok (.bipush 12, 2) := by decide +kernel
theorem dX10_takesOther_84 : decode cX10_takesOther 84 = .ok (.iload_n 3, 1) := by decide +kernel
theorem dX10_takesOther_85 : decode cX10_takesOther 85 = .ok (.iadd, 1) := by decide +kernel
theorem dX10_takesOther_86 : decode cX10_takesOther 86 = .ok (.iaload, 1) := by decide +kernel
theorem dX10_takesOther_87 : decode cX10_takesOther 87 = .ok (.iastore, 1) := by decide +kernel
theorem dX10_takesOther_88 : decode cX10_takesOther 88 = .ok (.iinc 3 1, 3) := by decide +kernel
theorem dX10_takesOther_91 : decode cX10_takesOther 91 = .ok (.goto (-49), 3) := by decide +kernel
theorem dX10_takesOther_94 : decode cX10_takesOther 94 = .ok (.iload_n 1, 1) := by decide +kernel
theorem dX10_takesOther_95 : decode cX10_takesOther 95 = .ok (.iconst 2, 1) := by decide +kernel
theorem dX10_takesOther_96 : decode cX10_takesOther 96 = .ok (.if_icmp .ne 8, 3) := by decide +kernel
theorem dX10_takesOther_99 : decode cX10_takesOther 99 = .ok (.aload_n 0, 1) := by decide +kernel
theorem dX10_takesOther_100 : decode cX10_takesOther 100 = .ok (.iload_n 2, 1) := by decide +kernel
theorem dX10_takesOther_101 : decode cX10_takesOther 101 = .ok (.putfield 300, 3) := by decide +kernel
theorem dX10_takesOther_104 : decode cX10_takesOther 104 = .ok (.iload_n 1, 1) := by decide +kernel
theorem dX10_takesOther_105 : decode cX10_takesOther 105 = .ok (.iconst 3, 1) := by decide +kernel
theorem dX10_takesOther_106 : decode cX10_takesOther 106 = .ok (.if_icmp .ne 11, 3) := by decide +kernel
theorem dX10_takesOther_109 : decode cX10_takesOther 109 = .ok (.aload_n 0, 1) := by decide +kernel
theorem dX10_takesOther_110 : decode cX10_takesOther 110 = .ok (.iload_n 2, 1) := by decide +kernel
theorem dX10_takesOther_111 : decode cX10_takesOther 111 = .ok (.putfield 303, 3) := by decide +kernel
theorem dX10_takesOther_114 : decode cX10_takesOther 114 = .ok (.goto 8, 3) := by decide +kernel
theorem dX10_takesOther_117 : decode cX10_takesOther 117 = .ok (.aload_n 0, 1) := by decide +kernel
theorem dX10_takesOther_118 : decode cX10_takesOther 118 = .ok (.iconst 0, 1) := by decide +kernel
theorem dX10_takesOther_119 : decode cX10_takesOther 119 = .ok (.putfield 134, 3) := by decide +kernel
theorem dX10_takesOther_122 : decode cX10_takesOther 122 = .ok (.return_, 1) := by decide +kernel
theorem dX10_text_0 : decode cX10_text 0 = .ok (.aload_n 0, 1) := by decide +kernel
theorem dX10_text_1 : decode cX10_text 1 = .ok (.iconst 0, 1) := by decide +kernel
theorem dX10_text_2 : decode cX10_text 2 = .ok (.putfield 131, 3) := by decide +kernel
theorem dX10_text_5 : decode cX10_text 5 = .ok (.aload_n 0, 1) := by decide +kernel
theorem dX10_text_6 : decode cX10_text 6 = .ok (.iconst 0, 1) := by decide +kernel
theorem dX10_text_7 : decode cX10_text 7 = .ok (.putfield 306, 3) := by decide +kernel
theorem dX10_text_10 : decode cX10_text 10 = .ok (.aload_n 0, 1) := by decide +kernel
theorem dX10_text_11 : decode cX10_text 11 = .ok (.iconst (-1), 1) := by decide +kernel
theorem dX10_text_12 : decode cX10_text 12 = .ok (.putfield 64, 3) := by decide +kernel
theorem dX10_text_15 : decode cX10_text 15 = .ok (.aload_n 0, 1) := by decide +kernel
theorem dX10_text_16 : decode cX10_text 16 = .ok (.iconst 0, 1) := by decide +kernel
theorem dX10_text_17 : decode cX10_text 17 = .ok (.putfield 174, 3) := by decide +kernel
theorem dX10_text_20 : decode cX10_text 20 = .ok (.aload_n 0, 1) := by decide +kernel
theorem dX10_text_21 : decode cX10_text 21 = .ok (.iconst 0, 1) := by decide +kernel
theorem dX10_text_22 : decode cX10_text 22 = .ok (.putfield 209, 3) := by decide +kernel
theorem dX10_text_25 : decode cX10_text 25 = .ok (.aload_n 0, 1) := by decide +kernel
theorem dX10_text_26 : decode cX10_text 26 = .ok (.iconst 0, 1) := by decide +kernel
theorem dX10_text_27 : decode cX10_text 27 = .ok (.putfield 241, 3) := by decide +kernel
theorem dX10_text_30 : decode cX10_text 30 = .ok (.iconst (-1), 1) := by decide +kernel
theorem dX10_text_31 : decode cX10_text 31 = .ok (.istore_n 2, 1) := by decide +kernel
theorem dX10_text_32 : decode cX10_text 32 = .ok (.aload_n 0, 1) := by decide +kernel
theorem dX10_text_33 : decode cX10_text 33 = .ok (.iload_n 1, 1) := by decide +kernel
theorem dX10_text_34 : decode cX10_text 34 = .ok (.iconst 0, 1) := by decide +kernel
theorem dX10_text_35 : decode cX10_text 35 = .ok (.iconst 3, 1) := by decide +kernel
theorem dX10_text_36 : decode cX10_text 36 = .ok (.invokevirtual 149, 3) := by decide +kernel
theorem dX10_text_39 : decode cX10_text 39 = .ok (.ifCond .eq 30, 3) := by decide +kernel
theorem dX10_text_42 : decode cX10_text 42 = .ok (.aload_n 0, 1) := by decide +kernel
theorem dX10_text_43 : decode cX10_text 43 = .ok (.iload_n 1, 1) := by decide +kernel
theorem dX10_text_44 : decode cX10_text 44 = .ok (.invokevirtual 309, 3) := by decide +kernel
theorem dX10_text_47 : decode cX10_text 47 = .ok (.istore_n 2, 1) := by decide +kernel
theorem dX10_text_48 : decode cX10_text 48 = .ok (.iload_n 2, 1) := by decide +kernel
theorem dX10_text_49 : decode cX10_text 49 = .ok (.iconst (-1), 1) := by decide +kernel
theorem dX10_text_50 : decode cX10_text 50 = .ok (.if_icmp .ne 19, 3) := by decide +kernel
theorem dX10_text_53 : decode cX10_text 53 = .ok (.aload_n 0, 1) := by decide +kernel
theorem dX10_text_54 : decode cX10_text 54 = .ok (.aload_n 0, 1) := by decide +kernel
theorem dX10_text_55 : decode cX10_text 55 = .ok (.getfield 203, 3) := by decide +kernel
theorem dX10_text_58 : decode cX10_text 58 = .ok (.putfield 306, 3) := by decide +kernel
theorem dX10_text_61 : decode cX10_text 61 = .ok (.aload_n 0, 1) := by decide +kernel
theorem dX10_text_62 : decode cX10_text 62 = .ok (.aload_n 0, 1) := by decide +kernel
theorem dX10_text_63 : decode cX10_text 63 = .ok (.getfield 206, 3) := by decide +kernel
theorem dX10_text_66 : decode cX10_text 66 = .ok (.putfield 64, 3) := by decide +kernel
theorem dX10_text_69 : decode cX10_text 69 = .ok (.aload_n 0, 1) := by decide +kernel
theorem dX10_text_70 : decode cX10_text 70 = .ok (.iconst 0, 1) := by decide +kernel
theorem dX10_text_71 : decode cX10_text 71 = .ok (.putfield 167, 3) := by decide +kernel
theorem dX10_text_74 : decode cX10_text 74 = .ok (.iload_n 2, 1) := by decide +kernel
theorem dX10_text_75 : decode cX10_text 75 = .ok (.iconst (-1), 1) := by decide +kernel
theorem dX10_text_76 : decode cX10_text 76 = .ok (.if_icmp .ne 5, 3) := by decide +kernel
theorem dX10_text_79 : decode cX10_text 79 = .ok (.iconst (-1), 1) := by decide +kernel
theorem dX10_text_80 : decode cX10_text 80 = .ok (.ireturn, 1) := by decide +kernel
theorem dX10_text_81 : decode cX10_text 81 = .ok (.iload_n 1, 1) := by decide +kernel
theorem dX10_text_82 : decode cX10_text 82 = .ok (.ifCond .ne 11, 3) := by decide +kernel
theorem dX10_text_85 : decode cX10_text 85 = .ok (.aload_n 0, 1) := by decide +kernel
theorem dX10_text_86 : decode cX10_text 86 = .ok (.iload_n 2, 1) := by decide +kernel
theorem dX10_text_87 : decode cX10_text 87 = .ok (.invokevirtual 312, 3) := by decide +kernel
theorem dX10_text_90 : decode cX10_text 90 = .ok (.goto 9, 3) := by decide +kernel
theorem dX10_text_93 : decode cX10_text 93 = .ok (.aload_n 0, 1) := by decide +kernel
theorem dX10_text_94 : decode cX10_text 94 = .ok (.iload_n 1, 1) := by decide +kernel
theorem dX10_text_95 : decode cX10_text 95 = .ok (.iload_n 2, 1) := by decide +kernel
theorem dX10_text_96 : decode cX10_text 96 = .ok (.invokevirtual 315, 3) := by decide +kernel
theorem dX10_text_99 : decode cX10_text 99 = .ok (.iload_n 2, 1) := by decide +kernel
theorem dX10_text_100 : decode cX10_text 100 = .ok (.ireturn, 1) := by decide +kernel
theorem dX10_fault_0 : decode cX10_fault 0 = .ok (.aload_n 0, 1) := by decide +kernel
theorem dX10_fault_1 : decode cX10_fault 1 = .ok (.iconst 0, 1) := by decide +kernel
theorem dX10_fault_2 : decode cX10_fault 2 = .ok (.putfield 131, 3) := by decide +kernel
theorem dX10_fault_5 : decode cX10_fault 5 = .ok (.iload_n 1, 1) := by decide +kernel
theorem dX10_fault_6 : decode cX10_fault 6 = .ok (.ifCond .ne 10, 3) := by decide +kernel
theorem dX10_fault_9 : decode cX10_fault 9 = .ok (.aload_n 0, 1) := by decide +kernel
theorem dX10_fault_10 : decode cX10_fault 10 = .ok (.getfield 306, 3) := by decide +kernel
theorem dX10_fault_13 : decode cX10_fault 13 = .ok (.goto 16, 3) := by decide +kernel
theorem dX10_fault_16 : decode cX10_fault 16 = .ok (.iload_n 1, 1) := by decide +kernel
theorem dX10_fault_17 : decode cX10_fault 17 = .ok (.iconst 1, 1) := by decide +kernel
theorem dX10_fault_18 : decode cX10_fault 18 = .ok (.if_icmp .ne 10, 3) := by decide +kernel
theorem dX10_fault_21 : decode cX10_fault 21 = .ok (.aload_n 0, 1) := by decide +kernel
theorem dX10_fault_22 : decode cX10_fault 22 = .ok (.getfield 64, 3) := by decide +kernel
theorem dX10_fault_25 : decode cX10_fault 25 = .ok (.goto 4, 3) := by decide +kernel
theorem dX10_fault_28 : decode cX10_fault 28 = .ok (.iconst (-1), 1) := by decide +kernel
theorem dX10_fault_29 : decode cX10_fault 29 = .ok (.ireturn, 1) := by decide +kernel
theorem dX10_twoOf_0 : decode cX10_twoOf 0 = .ok (.iload_n 1, 1) := by decide +kernel
theorem dX10_twoOf_1 : decode cX10_twoOf 1 = .ok (.iconst 2, 1) := by decide +kernel
theorem dX10_twoOf_2 : decode cX10_twoOf 2 = .ok (.if_icmp .ne 7, 3) := by decide +kernel
theorem dX10_twoOf_5 : decode cX10_twoOf 5 = .ok (.iload_n 2, 1) := by decide +kernel
theorem dX10_twoOf_6 : decode cX10_twoOf 6 = .ok (.iload_n 3, 1) := by decide +kernel
theorem dX10_twoOf_7 : decode cX10_twoOf 7 = .ok (.iadd, 1) := by decide +kernel
theorem dX10_twoOf_8 : decode cX10_twoOf 8 = .ok (.ireturn, 1) := by decide +kernel
theorem dX10_twoOf_9 : decode cX10_twoOf 9 = .ok (.iload_n 1, 1) := by decide +kernel
theorem dX10_twoOf_10 : decode cX10_twoOf 10 = .ok (.iconst 3, 1) := by decide +kernel
theorem dX10_twoOf_11 : decode cX10_twoOf 11 = .ok (.if_icmp .ne 7, 3) := by decide +kernel
theorem dX10_twoOf_14 : decode cX10_twoOf 14 = .ok (.iload_n 2, 1) := by decide +kernel
theorem dX10_twoOf_15 : decode cX10_twoOf 15 = .ok (.iload_n 3, 1) := by decide +kernel
theorem dX10_twoOf_16 : decode cX10_twoOf 16 = .ok (.isub, 1) := by decide +kernel
theorem dX10_twoOf_17 : decode cX10_twoOf 17 = .ok (.ireturn, 1) := by decide +kernel
theorem dX10_twoOf_18 : decode cX10_twoOf 18 = .ok (.iload_n 1, 1) := by decide +kernel
theorem dX10_twoOf_19 : decode cX10_twoOf 19 = .ok (.iconst 4, 1) := by decide +kernel
theorem dX10_twoOf_20 : decode cX10_twoOf 20 = .ok (.if_icmp .ne 7, 3) := by decide +kernel
theorem dX10_twoOf_23 : decode cX10_twoOf 23 = .ok (.iload_n 2, 1) := by decide +kernel
theorem dX10_twoOf_24 : decode cX10_twoOf 24 = .ok (.iload_n 3, 1) := by decide +kernel
theorem dX10_twoOf_25 : decode cX10_twoOf 25 = .ok (.imul, 1) := by decide +kernel
theorem dX10_twoOf_26 : decode cX10_twoOf 26 = .ok (.ireturn, 1) := by decide +kernel
theorem dX10_twoOf_27 : decode cX10_twoOf 27 = .ok (.iload_n 1, 1) := by decide +kernel
theorem dX10_twoOf_28 : decode cX10_twoOf 28 = .ok (.iconst 5, 1) := by decide +kernel
theorem dX10_twoOf_29 : decode cX10_twoOf 29 = .ok (.if_icmp .ne 7, 3) := by decide +kernel
theorem dX10_twoOf_32 : decode cX10_twoOf 32 = .ok (.iload_n 2, 1) := by decide +kernel
theorem dX10_twoOf_33 : decode cX10_twoOf 33 = .ok (.iload_n 3, 1) := by decide +kernel
theorem dX10_twoOf_34 : decode cX10_twoOf 34 = .ok (.idiv, 1) := by decide +kernel
theorem dX10_twoOf_35 : decode cX10_twoOf 35 = .ok (.ireturn, 1) := by decide +kernel
theorem dX10_twoOf_36 : decode cX10_twoOf 36 = .ok (.iload_n 1, 1) := by decide +kernel
theorem dX10_twoOf_37 : decode cX10_twoOf 37 = .ok (.bipush 6, 2) := by decide +kernel
theorem dX10_twoOf_39 : decode cX10_twoOf 39 = .ok (.if_icmp .ne 14, 3) := by decide +kernel
theorem dX10_twoOf_42 : decode cX10_twoOf 42 = .ok (.iload_n 2, 1) := by decide +kernel
theorem dX10_twoOf_43 : decode cX10_twoOf 43 = .ok (.iload_n 3, 1) := by decide +kernel
theorem dX10_twoOf_44 : decode cX10_twoOf 44 = .ok (.if_icmp .ge 7, 3) := by decide +kernel
theorem dX10_twoOf_47 : decode cX10_twoOf 47 = .ok (.iconst 1, 1) := by decide +kernel
theorem dX10_twoOf_48 : decode cX10_twoOf 48 = .ok (.goto 4, 3) := by decide +kernel
theorem dX10_twoOf_51 : decode cX10_twoOf 51 = .ok (.iconst 0, 1) := by decide +kernel
theorem dX10_twoOf_52 : decode cX10_twoOf 52 = .ok (.ireturn, 1) := by decide +kernel
theorem dX10_twoOf_53 : decode cX10_twoOf 53 = .ok (.iload_n 1, 1) := by decide +kernel
theorem dX10_twoOf_54 : decode cX10_twoOf 54 = .ok (.bipush 7, 2) := by decide +kernel
theorem dX10_twoOf_56 : decode cX10_twoOf 56 = .ok (.if_icmp .ne 14, 3) := by decide +kernel
theorem dX10_twoOf_59 : decode cX10_twoOf 59 = .ok (.iload_n 2, 1) := by decide +kernel
theorem dX10_twoOf_60 : decode cX10_twoOf 60 = .ok (.iload_n 3, 1) := by decide +kernel
theorem dX10_twoOf_61 : decode cX10_twoOf 61 = .ok (.if_icmp .ne 7, 3) := by decide +kernel
theorem dX10_twoOf_64 : decode cX10_twoOf 64 = .ok (.iconst 1, 1) := by decide +kernel
theorem dX10_twoOf_65 : decode cX10_twoOf 65 = .ok (.goto 4, 3) := by decide +kernel
theorem dX10_twoOf_68 : decode cX10_twoOf 68 = .ok (.iconst 0, 1) := by decide +kernel
theorem dX10_twoOf_69 : decode cX10_twoOf 69 = .ok (.ireturn, 1) := by decide +kernel
theorem dX10_twoOf_70 : decode cX10_twoOf 70 = .ok (.iload_n 1, 1) := by decide +kernel
theorem dX10_twoOf_71 : decode cX10_twoOf 71 = .ok (.bipush 8, 2) := by decide +kernel
theorem dX10_twoOf_73 : decode cX10_twoOf 73 = .ok (.if_icmp .ne 14, 3) := by decide +kernel
theorem dX10_twoOf_76 : decode cX10_twoOf 76 = .ok (.iload_n 2, 1) := by decide +kernel
theorem dX10_twoOf_77 : decode cX10_twoOf 77 = .ok (.iload_n 3, 1) := by decide +kernel
theorem dX10_twoOf_78 : decode cX10_twoOf 78 = .ok (.if_icmp .le 7, 3) := by decide +kernel
theorem dX10_twoOf_81 : decode cX10_twoOf 81 = .ok (.iconst 1, 1) := by decide +kernel
theorem dX10_twoOf_82 : decode cX10_twoOf 82 = .ok (.goto 4, 3) := by decide +kernel
theorem dX10_twoOf_85 : decode cX10_twoOf 85 = .ok (.iconst 0, 1) := by decide +kernel
theorem dX10_twoOf_86 : decode cX10_twoOf 86 = .ok (.ireturn, 1) := by decide +kernel
theorem dX10_twoOf_87 : decode cX10_twoOf 87 = .ok (.iload_n 1, 1) := by decide +kernel
theorem dX10_twoOf_88 : decode cX10_twoOf 88 = .ok (.bipush 10, 2) := by decide +kernel
theorem dX10_twoOf_90 : decode cX10_twoOf 90 = .ok (.if_icmp .ne 9, 3) := by decide +kernel
theorem dX10_twoOf_93 : decode cX10_twoOf 93 = .ok (.iload_n 2, 1) := by decide +kernel
theorem dX10_twoOf_94 : decode cX10_twoOf 94 = .ok (.iload_n 3, 1) := by decide +kernel
theorem dX10_twoOf_95 : decode cX10_twoOf 95 = .ok (.imul, 1) := by decide +kernel
theorem dX10_twoOf_96 : decode cX10_twoOf 96 = .ok (.goto 14, 3) := by decide +kernel
theorem dX10_twoOf_99 : decode cX10_twoOf 99 = .ok (.iload_n 2, 1) := by decide +kernel
theorem dX10_twoOf_100 : decode cX10_twoOf 100 = .ok (.iload_n 3, 1) := by decide +kernel
theorem dX10_twoOf_101 : decode cX10_twoOf 101 = .ok (.iadd, 1) := by decide +kernel
theorem dX10_twoOf_102 : decode cX10_twoOf 102 = .ok (.ifCond .le 7, 3) := by decide +kernel
theorem dX10_twoOf_105 : decode cX10_twoOf 105 = .ok (.iconst 1, 1) := by decide +kernel
theorem dX10_twoOf_106 : decode cX10_twoOf 106 = .ok (.goto 4, 3) := by decide +kernel
theorem dX10_twoOf_109 : decode cX10_twoOf 109 = .ok (.iconst 0, 1) := by decide +kernel
theorem dX10_twoOf_110 : decode cX10_twoOf 110 = .ok (.ireturn, 1) := by decide +kernel
theorem dX10_runs_0 : decode cX10_runs 0 = .ok (.iconst 0, 1) := by decide +kernel
theorem dX10_runs_1 : decode cX10_runs 1 = .ok (.istore 4, 2) := by decide +kernel
theorem dX10_runs_3 : decode cX10_runs 3 = .ok (.sipush 400, 3) := by decide +kernel
theorem dX10_runs_6 : decode cX10_runs 6 = .ok (.iload_n 1, 1) := by decide +kernel
theorem dX10_runs_7 : decode cX10_runs 7 = .ok (.imul, 1) := by decide +kernel
theorem dX10_runs_8 : decode cX10_runs 8 = .ok (.iload_n 2, 1) := by decide +kernel
theorem dX10_runs_9 : decode cX10_runs 9 = .ok (.iadd, 1) := by decide +kernel
theorem dX10_runs_10 : decode cX10_runs 10 = .ok (.istore 5, 2) := by decide +kernel
theorem dX10_runs_12 : decode cX10_runs 12 = .ok (.iload 5, 2) := by decide +kernel
theorem dX10_runs_14 : decode cX10_runs 14 = .ok (.sipush 400, 3) := by decide +kernel
theorem dX10_runs_17 : decode cX10_runs 17 = .ok (.iload_n 1, 1) := by decide +kernel
theorem dX10_runs_18 : decode cX10_runs 18 = .ok (.imul, 1) := by decide +kernel
theorem dX10_runs_19 : decode cX10_runs 19 = .ok (.iload_n 3, 1) := by decide +kernel
theorem dX10_runs_20 : decode cX10_runs 20 = .ok (.iadd, 1) := by decide +kernel
theorem dX10_runs_21 : decode cX10_runs 21 = .ok (.if_icmp .ge 155, 3) := by decide +kernel
theorem dX10_runs_24 : decode cX10_runs 24 = .ok (.aload_n 0, 1) := by decide +kernel
theorem dX10_runs_25 : decode cX10_runs 25 = .ok (.getfield 55, 3) := by decide +kernel
theorem dX10_runs_28 : decode cX10_runs 28 = .ok (.iload 5, 2) := by decide +kernel
theorem dX10_runs_30 : decode cX10_runs 30 = .ok (.iaload, 1) := by decide +kernel
theorem dX10_runs_31 : decode cX10_runs 31 = .ok (.ifCond .eq 14, 3) := by decide +kernel
theorem dX10_runs_34 : decode cX10_runs 34 = .ok (.aload_n 0, 1) := by decide +kernel
theorem dX10_runs_35 : decode cX10_runs 35 = .ok (.getfield 55, 3) := by decide +kernel
theorem dX10_runs_38 : decode cX10_runs 38 = .ok (.iload 5, 2) := by decide +kernel
theorem dX10_runs_40 : decode cX10_runs 40 = .ok (.iaload, 1) := by decide +kernel
theorem dX10_runs_41 : decode cX10_runs 41 = .ok (.iconst 1, 1) := by decide +kernel
theorem dX10_runs_42 : decode cX10_runs 42 = .ok (.if_icmp .ne 51, 3) := by decide +kernel
theorem dX10_runs_45 : decode cX10_runs 45 = .ok (.aload_n 0, 1) := by decide +kernel
theorem dX10_runs_46 : decode cX10_runs 46 = .ok (.getfield 80, 3) := by decide +kernel
theorem dX10_runs_49 : decode cX10_runs 49 = .ok (.iload 4, 2) := by decide +kernel
theorem dX10_runs_51 : decode cX10_runs 51 = .ok (.aload_n 0, 1) := by decide +kernel
theorem dX10_runs_52 : decode cX10_runs 52 = .ok (.getfield 55, 3) := by decide +kernel
theorem dX10_runs_55 : decode cX10_runs 55 = .ok (.iload 5, 2) := by decide +kernel
theorem dX10_runs_57 : decode cX10_runs 57 = .ok (.iaload, 1) := by decide +kernel
theorem dX10_runs_58 : decode cX10_runs 58 = .ok (.ifCond .ne 13, 3) := by decide +kernel
theorem dX10_runs_61 : decode cX10_runs 61 = .ok (.aload_n 0, 1) := by decide +kernel
theorem dX10_runs_62 : decode cX10_runs 62 = .ok (.getfield 58, 3) := by decide +kernel
theorem dX10_runs_65 : decode cX10_runs 65 = .ok (.iload 5, 2) := by decide +kernel
theorem dX10_runs_67 : decode cX10_runs 67 = .ok (.iaload, 1) := by decide +kernel
theorem dX10_runs_68 : decode cX10_runs 68 = .ok (.goto 15, 3) := by decide +kernel
theorem dX10_runs_71 : decode cX10_runs 71 = .ok (.aload_n 0, 1) := by decide +kernel
theorem dX10_runs_72 : decode cX10_runs 72 = .ok (.getfield 77, 3) := by decide +kernel
theorem dX10_runs_75 : decode cX10_runs 75 = .ok (.aload_n 0, 1) := by decide +kernel
theorem dX10_runs_76 : decode cX10_runs 76 = .ok (.getfield 58, 3) := by decide +kernel
theorem dX10_runs_79 : decode cX10_runs 79 = .ok (.iload 5, 2) := by decide +kernel
theorem dX10_runs_81 : decode cX10_runs 81 = .ok (.iaload, 1) := by decide +kernel
theorem dX10_runs_82 : decode cX10_runs 82 = .ok (.iaload, 1) := by decide +kernel
theorem dX10_runs_83 : decode cX10_runs 83 = .ok (.iastore, 1) := by decide +kernel
theorem dX10_runs_84 : decode cX10_runs 84 = .ok (.iload 4, 2) := by decide +kernel
theorem dX10_runs_86 : decode cX10_runs 86 = .ok (.iconst 1, 1) := by decide +kernel
theorem dX10_runs_87 : decode cX10_runs 87 = .ok (.iadd, 1) := by decide +kernel
theorem dX10_runs_88 : decode cX10_runs 88 = .ok (.istore 4, 2) := by decide +kernel
theorem dX10_runs_90 : decode cX10_runs 90 = .ok (.goto 80, 3) := by decide +kernel
theorem dX10_runs_93 : decode cX10_runs 93 = .ok (.aload_n 0, 1) := by decide +kernel
theorem dX10_runs_94 : decode cX10_runs 94 = .ok (.getfield 55, 3) := by decide +kernel
theorem dX10_runs_97 : decode cX10_runs 97 = .ok (.iload 5, 2) := by decide +kernel
theorem dX10_runs_99 : decode cX10_runs 99 = .ok (.iaload, 1) := by decide +kernel
theorem dX10_runs_100 : decode cX10_runs 100 = .ok (.bipush 9, 2) := by decide +kernel
theorem dX10_runs_102 : decode cX10_runs 102 = .ok (.if_icmp .ne 26, 3) := by decide +kernel
theorem dX10_runs_105 : decode cX10_runs 105 = .ok (.aload_n 0, 1) := by decide +kernel
theorem dX10_runs_106 : decode cX10_runs 106 = .ok (.getfield 80, 3) := by decide +kernel
theorem dX10_runs_109 : decode cX10_runs 109 = .ok (.iload 4, 2) := by decide +kernel
theorem dX10_runs_111 : decode cX10_runs 111 = .ok (.iconst 1, 1) := by decide +kernel
theorem dX10_runs_112 : decode cX10_runs 112 = .ok (.isub, 1) := by decide +kernel
theorem dX10_runs_113 : decode cX10_runs 113 = .ok (.iconst 1, 1) := by decide +kernel
theorem dX10_runs_114 : decode cX10_runs 114 = .ok (.aload_n 0, 1) := by decide +kernel
theorem dX10_runs_115 : decode cX10_runs 115 = .ok (.getfield 80, 3) := by decide +kernel
theorem dX10_runs_118 : decode cX10_runs 118 = .ok (.iload 4, 2) := by decide +kernel
theorem dX10_runs_120 : decode cX10_runs 120 = .ok (.iconst 1, 1) := by decide +kernel
theorem dX10_runs_121 : decode cX10_runs 121 = .ok (.isub, 1) := by decide +kernel
theorem dX10_runs_122 : decode cX10_runs 122 = .ok (.iaload, 1) := by decide +kernel
theorem dX10_runs_123 : decode cX10_runs 123 = .ok (.isub, 1) := by decide +kernel
theorem dX10_runs_124 : decode cX10_runs 124 = .ok (.iastore, 1) := by decide +kernel
theorem dX10_runs_125 : decode cX10_runs 125 = .ok (.goto 45, 3) := by decide +kernel
theorem dX10_runs_128 : decode cX10_runs 128 = .ok (.iload 4, 2) := by decide +kernel
theorem dX10_runs_130 : decode cX10_runs 130 = .ok (.iconst 1, 1) := by decide +kernel
theorem dX10_runs_131 : decode cX10_runs 131 = .ok (.isub, 1) := by decide +kernel
theorem dX10_runs_132 : decode cX10_runs 132 = .ok (.istore 4, 2) := by decide +kernel
theorem dX10_runs_134 : decode cX10_runs 134 = .ok (.aload_n 0, 1) := by decide +kernel
theorem dX10_runs_135 : decode cX10_runs 135 = .ok (.getfield 80, 3) := by decide +kernel
theorem dX10_runs_138 : decode cX10_runs 138 = .ok (.iload 4, 2) := by decide +kernel
theorem dX10_runs_140 : decode cX10_runs 140 = .ok (.iconst 1, 1) := by decide +kernel
theorem dX10_runs_141 : decode cX10_runs 141 = .ok (.isub, 1) := by decide +kernel
theorem dX10_runs_142 : decode cX10_runs 142 = .ok (.aload_n 0, 1) := by decide +kernel
theorem dX10_runs_143 : decode cX10_runs 143 = .ok (.aload_n 0, 1) := by decide +kernel
theorem dX10_runs_144 : decode cX10_runs 144 = .ok (.getfield 55, 3) := by decide +kernel
theorem dX10_runs_147 : decode cX10_runs 147 = .ok (.iload 5, 2) := by decide +kernel
theorem dX10_runs_149 : decode cX10_runs 149 = .ok (.iaload, 1) := by decide +kernel
theorem dX10_runs_150 : decode cX10_runs 150 = .ok (.aload_n 0, 1) := by decide +kernel
theorem dX10_runs_151 : decode cX10_runs 151 = .ok (.getfield 80, 3) := by decide +kernel
theorem dX10_runs_154 : decode cX10_runs 154 = .ok (.iload 4, 2) := by decide +kernel
theorem dX10_runs_156 : decode cX10_runs 156 = .ok (.iconst 1, 1) := by decide +kernel
theorem dX10_runs_157 : decode cX10_runs 157 = .ok (.isub, 1) := by decide +kernel
theorem dX10_runs_158 : decode cX10_runs 158 = .ok (.iaload, 1) := by decide +kernel
theorem dX10_runs_159 : decode cX10_runs 159 = .ok (.aload_n 0, 1) := by decide +kernel
theorem dX10_runs_160 : decode cX10_runs 160 = .ok (.getfield 80, 3) := by decide +kernel
theorem dX10_runs_163 : decode cX10_runs 163 = .ok (.iload 4, 2) := by decide +kernel
theorem dX10_runs_165 : decode cX10_runs 165 = .ok (.iaload, 1) := by decide +kernel
theorem dX10_runs_166 : decode cX10_runs 166 = .ok (.invokevirtual 318, 3) := by decide +kernel
theorem dX10_runs_169 : decode cX10_runs 169 = .ok (.iastore, 1) := by decide +kernel
theorem dX10_runs_170 : decode cX10_runs 170 = .ok (.iinc 5 1, 3) := by decide +kernel
theorem dX10_runs_173 : decode cX10_runs 173 = .ok (.goto (-161), 3) := by decide +kernel
theorem dX10_runs_176 : decode cX10_runs 176 = .ok (.aload_n 0, 1) := by decide +kernel
theorem dX10_runs_177 : decode cX10_runs 177 = .ok (.getfield 80, 3) := by decide +kernel
theorem dX10_runs_180 : decode cX10_runs 180 = .ok (.iconst 0, 1) := by decide +kernel
theorem dX10_runs_181 : decode cX10_runs 181 = .ok (.iaload, 1) := by decide +kernel
theorem dX10_runs_182 : decode cX10_runs 182 = .ok (.ireturn, 1) := by decide +kernel
theorem dX10_lineOf_0 : decode cX10_lineOf 0 = .ok (.iconst 0, 1) := by decide +kernel
theorem dX10_lineOf_1 : decode cX10_lineOf 1 = .ok (.istore_n 2, 1) := by decide +kernel
theorem dX10_lineOf_2 : decode cX10_lineOf 2 = .ok (.iload_n 2, 1) := by decide +kernel
theorem dX10_lineOf_3 : decode cX10_lineOf 3 = .ok (.aload_n 0, 1) := by decide +kernel
theorem dX10_lineOf_4 : decode cX10_lineOf 4 = .ok (.getfield 40, 3) := by decide +kernel
theorem dX10_lineOf_7 : decode cX10_lineOf 7 = .ok (.iconst 0, 1) := by decide +kernel
theorem dX10_lineOf_8 : decode cX10_lineOf 8 = .ok (.iaload, 1) := by decide +kernel
theorem dX10_lineOf_9 : decode cX10_lineOf 9 = .ok (.if_icmp .ge 56, 3) := by decide +kernel
theorem dX10_lineOf_12 : decode cX10_lineOf 12 = .ok (.aload_n 0, 1) := by decide +kernel
theorem dX10_lineOf_13 : decode cX10_lineOf 13 = .ok (.getfield 43, 3) := by decide +kernel
theorem dX10_lineOf_16 : decode cX10_lineOf 16 = .ok (.iload_n 2, 1) := by decide +kernel
theorem dX10_lineOf_17 : decode cX10_lineOf 17 = .ok (.iaload, 1) := by decide +kernel
theorem dX10_lineOf_18 : decode cX10_lineOf 18 = .ok (.iload_n 1, 1) := by decide +kernel
theorem dX10_lineOf_19 : decode cX10_lineOf 19 = .ok (.if_icmp .ne 40, 3) := by decide +kernel
theorem dX10_lineOf_22 : decode cX10_lineOf 22 = .ok (.aload_n 0, 1) := by decide +kernel
theorem dX10_lineOf_23 : decode cX10_lineOf 23 = .ok (.getfield 49, 3) := by decide +kernel
theorem dX10_lineOf_26 : decode cX10_lineOf 26 = .ok (.iload_n 2, 1) := by decide +kernel
theorem dX10_lineOf_27 : decode cX10_lineOf 27 = .ok (.iaload, 1) := by decide +kernel
theorem dX10_lineOf_28 : decode cX10_lineOf 28 = .ok (.aload_n 0, 1) := by decide +kernel
theorem dX10_lineOf_29 : decode cX10_lineOf 29 = .ok (.getfield 52, 3) := by decide +kernel
theorem dX10_lineOf_32 : decode cX10_lineOf 32 = .ok (.iload_n 2, 1) := by decide +kernel
theorem dX10_lineOf_33 : decode cX10_lineOf 33 = .ok (.iaload, 1) := by decide +kernel
theorem dX10_lineOf_34 : decode cX10_lineOf 34 = .ok (.if_icmp .eq 23, 3) := by decide +kernel
theorem dX10_lineOf_37 : decode cX10_lineOf 37 = .ok (.aload_n 0, 1) := by decide +kernel
theorem dX10_lineOf_38 : decode cX10_lineOf 38 = .ok (.iconst 0, 1) := by decide +kernel
theorem dX10_lineOf_39 : decode cX10_lineOf 39 = .ok (.aload_n 0, 1) := by decide +kernel
theorem dX10_lineOf_40 : decode cX10_lineOf 40 = .ok (.getfield 49, 3) := by decide +kernel
theorem dX10_lineOf_43 : decode cX10_lineOf 43 = .ok (.iload_n 2, 1) := by decide +kernel
theorem dX10_lineOf_44 : decode cX10_lineOf 44 = .ok (.iaload, 1) := by decide +kernel
theorem dX10_lineOf_45 : decode cX10_lineOf 45 = .ok (.aload_n 0, 1) := by decide +kernel
theorem dX10_lineOf_46 : decode cX10_lineOf 46 = .ok (.getfield 52, 3) := by decide +kernel
theorem dX10_lineOf_49 : decode cX10_lineOf 49 = .ok (.iload_n 2, 1) := by decide +kernel
theorem dX10_lineOf_50 : decode cX10_lineOf 50 = .ok (.iaload, 1) := by decide +kernel
theorem dX10_lineOf_51 : decode cX10_lineOf 51 = .ok (.invokevirtual 321, 3) := by decide +kernel
theorem dX10_lineOf_54 : decode cX10_lineOf 54 = .ok (.ifCond .eq 5, 3) := by decide +kernel
theorem dX10_lineOf_57 : decode cX10_lineOf 57 = .ok (.iload_n 2, 1) := by decide +kernel
theorem dX10_lineOf_58 : decode cX10_lineOf 58 = .ok (.ireturn, 1) := by decide +kernel
theorem dX10_lineOf_59 : decode cX10_lineOf 59 = .ok (.iinc 2 1, 3) := by decide +kernel
theorem dX10_lineOf_62 : decode cX10_lineOf 62 = .ok (.goto (-60), 3) := by decide +kernel
theorem dX10_lineOf_65 : decode cX10_lineOf 65 = .ok (.iconst (-1), 1) := by decide +kernel
theorem dX10_lineOf_66 : decode cX10_lineOf 66 = .ok (.ireturn, 1) := by decide +kernel
theorem dX10_asks_0 : decode cX10_asks 0 = .ok (.aload_n 0, 1) := by decide +kernel
theorem dX10_asks_1 : decode cX10_asks 1 = .ok (.getfield 71, 3) := by decide +kernel
theorem dX10_asks_4 : decode cX10_asks 4 = .ok (.iload_n 1, 1) := by decide +kernel
theorem dX10_asks_5 : decode cX10_asks 5 = .ok (.iaload, 1) := by decide +kernel
theorem dX10_asks_6 : decode cX10_asks 6 = .ok (.iconst 1, 1) := by decide +kernel
theorem dX10_asks_7 : decode cX10_asks 7 = .ok (.isub, 1) := by decide +kernel
theorem dX10_asks_8 : decode cX10_asks 8 = .ok (.istore_n 2, 1) := by decide +kernel
theorem dX10_asks_9 : decode cX10_asks 9 = .ok (.aload_n 0, 1) := by decide +kernel
theorem dX10_asks_10 : decode cX10_asks 10 = .ok (.getfield 77, 3) := by decide +kernel
theorem dX10_asks_13 : decode cX10_asks 13 = .ok (.iconst 0, 1) := by decide +kernel
theorem dX10_asks_14 : decode cX10_asks 14 = .ok (.aload_n 0, 1) := by decide +kernel
theorem dX10_asks_15 : decode cX10_asks 15 = .ok (.getfield 22, 3) := by decide +kernel
theorem dX10_asks_18 : decode cX10_asks 18 = .ok (.iload_n 1, 1) := by decide +kernel
theorem dX10_asks_19 : decode cX10_asks 19 = .ok (.iaload, 1) := by decide +kernel
theorem dX10_asks_20 : decode cX10_asks 20 = .ok (.iastore, 1) := by decide +kernel
theorem dX10_asks_21 : decode cX10_asks 21 = .ok (.aload_n 0, 1) := by decide +kernel
theorem dX10_asks_22 : decode cX10_asks 22 = .ok (.getfield 77, 3) := by decide +kernel
theorem dX10_asks_25 : decode cX10_asks 25 = .ok (.iconst 1, 1) := by decide +kernel
theorem dX10_asks_26 : decode cX10_asks 26 = .ok (.aload_n 0, 1) := by decide +kernel
theorem dX10_asks_27 : decode cX10_asks 27 = .ok (.getfield 7, 3) := by decide +kernel
theorem dX10_asks_30 : decode cX10_asks 30 = .ok (.iconst 5, 1) := by decide +kernel
theorem dX10_asks_31 : decode cX10_asks 31 = .ok (.iload_n 1, 1) := by decide +kernel
theorem dX10_asks_32 : decode cX10_asks 32 = .ok (.iadd, 1) := by decide +kernel
theorem dX10_asks_33 : decode cX10_asks 33 = .ok (.iaload, 1) := by decide +kernel
theorem dX10_asks_34 : decode cX10_asks 34 = .ok (.iastore, 1) := by decide +kernel
theorem dX10_asks_35 : decode cX10_asks 35 = .ok (.aload_n 0, 1) := by decide +kernel
theorem dX10_asks_36 : decode cX10_asks 36 = .ok (.getfield 77, 3) := by decide +kernel
theorem dX10_asks_39 : decode cX10_asks 39 = .ok (.iconst 2, 1) := by decide +kernel
theorem dX10_asks_40 : decode cX10_asks 40 = .ok (.aload_n 0, 1) := by decide +kernel
theorem dX10_asks_41 : decode cX10_asks 41 = .ok (.getfield 7, 3) := by decide +kernel
theorem dX10_asks_44 : decode cX10_asks 44 = .ok (.bipush 17, 2) := by decide +kernel
theorem dX10_asks_46 : decode cX10_asks 46 = .ok (.iload_n 1, 1) := by decide +kernel
theorem dX10_asks_47 : decode cX10_asks 47 = .ok (.iadd, 1) := by decide +kernel
theorem dX10_asks_48 : decode cX10_asks 48 = .ok (.iaload, 1) := by decide +kernel
theorem dX10_asks_49 : decode cX10_asks 49 = .ok (.iastore, 1) := by decide +kernel
theorem dX10_asks_50 : decode cX10_asks 50 = .ok (.aload_n 0, 1) := by decide +kernel
theorem dX10_asks_51 : decode cX10_asks 51 = .ok (.getfield 77, 3) := by decide +kernel
theorem dX10_asks_54 : decode cX10_asks 54 = .ok (.iconst 3, 1) := by decide +kernel
theorem dX10_asks_55 : decode cX10_asks 55 = .ok (.aload_n 0, 1) := by decide +kernel
theorem dX10_asks_56 : decode cX10_asks 56 = .ok (.getfield 7, 3) := by decide +kernel
theorem dX10_asks_59 : decode cX10_asks 59 = .ok (.bipush 41, 2) := by decide +kernel
theorem dX10_asks_61 : decode cX10_asks 61 = .ok (.iload_n 1, 1) := by decide +kernel
theorem dX10_asks_62 : decode cX10_asks 62 = .ok (.iadd, 1) := by decide +kernel
theorem dX10_asks_63 : decode cX10_asks 63 = .ok (.iaload, 1) := by decide +kernel
theorem dX10_asks_64 : decode cX10_asks 64 = .ok (.iastore, 1) := by decide +kernel
theorem dX10_asks_65 : decode cX10_asks 65 = .ok (.aload_n 0, 1) := by decide +kernel
theorem dX10_asks_66 : decode cX10_asks 66 = .ok (.getfield 77, 3) := by decide +kernel
theorem dX10_asks_69 : decode cX10_asks 69 = .ok (.iconst 4, 1) := by decide +kernel
theorem dX10_asks_70 : decode cX10_asks 70 = .ok (.iload_n 2, 1) := by decide +kernel
theorem dX10_asks_71 : decode cX10_asks 71 = .ok (.iconst (-1), 1) := by decide +kernel
theorem dX10_asks_72 : decode cX10_asks 72 = .ok (.if_icmp .ne 7, 3) := by decide +kernel
theorem dX10_asks_75 : decode cX10_asks 75 = .ok (.iconst 0, 1) := by decide +kernel
theorem dX10_asks_76 : decode cX10_asks 76 = .ok (.goto 9, 3) := by decide +kernel
theorem dX10_asks_79 : decode cX10_asks 79 = .ok (.aload_n 0, 1) := by decide +kernel
theorem dX10_asks_80 : decode cX10_asks 80 = .ok (.getfield 28, 3) := by decide +kernel
theorem dX10_asks_83 : decode cX10_asks 83 = .ok (.iload_n 2, 1) := by decide +kernel
theorem dX10_asks_84 : decode cX10_asks 84 = .ok (.iaload, 1) := by decide +kernel
theorem dX10_asks_85 : decode cX10_asks 85 = .ok (.iastore, 1) := by decide +kernel
theorem dX10_asks_86 : decode cX10_asks 86 = .ok (.aload_n 0, 1) := by decide +kernel
theorem dX10_asks_87 : decode cX10_asks 87 = .ok (.getfield 77, 3) := by decide +kernel
theorem dX10_asks_90 : decode cX10_asks 90 = .ok (.iconst 5, 1) := by decide +kernel
theorem dX10_asks_91 : decode cX10_asks 91 = .ok (.iload_n 2, 1) := by decide +kernel
theorem dX10_asks_92 : decode cX10_asks 92 = .ok (.iconst (-1), 1) := by decide +kernel
theorem dX10_asks_93 : decode cX10_asks 93 = .ok (.if_icmp .ne 7, 3) := by decide +kernel
theorem dX10_asks_96 : decode cX10_asks 96 = .ok (.iconst 0, 1) := by decide +kernel
theorem dX10_asks_97 : decode cX10_asks 97 = .ok (.goto 12, 3) := by decide +kernel
theorem dX10_asks_100 : decode cX10_asks 100 = .ok (.aload_n 0, 1) := by decide +kernel
theorem dX10_asks_101 : decode cX10_asks 101 = .ok (.getfield 7, 3) := by decide +kernel
theorem dX10_asks_104 : decode cX10_asks 104 = .ok (.bipush 65, 2) := by decide +kernel
theorem dX10_asks_106 : decode cX10_asks 106 = .ok (.iload_n 2, 1) := by decide +kernel
theorem dX10_asks_107 : decode cX10_asks 107 = .ok (.iadd, 1) := by decide +kernel
theorem dX10_asks_108 : decode cX10_asks 108 = .ok (.iaload, 1) := by decide +kernel
theorem dX10_asks_109 : decode cX10_asks 109 = .ok (.iastore, 1) := by decide +kernel
theorem dX10_asks_110 : decode cX10_asks 110 = .ok (.aload_n 0, 1) := by decide +kernel
theorem dX10_asks_111 : decode cX10_asks 111 = .ok (.getfield 77, 3) := by decide +kernel
theorem dX10_asks_114 : decode cX10_asks 114 = .ok (.bipush 6, 2) := by decide +kernel
theorem dX10_asks_116 : decode cX10_asks 116 = .ok (.aload_n 0, 1) := by decide +kernel
theorem dX10_asks_117 : decode cX10_asks 117 = .ok (.getfield 7, 3) := by decide +kernel
theorem dX10_asks_120 : decode cX10_asks 120 = .ok (.iconst 3, 1) := by decide +kernel
theorem dX10_asks_121 : decode cX10_asks 121 = .ok (.iaload, 1) := by decide +kernel
theorem dX10_asks_122 : decode cX10_asks 122 = .ok (.iastore, 1) := by decide +kernel
theorem dX10_asks_123 : decode cX10_asks 123 = .ok (.aload_n 0, 1) := by decide +kernel
theorem dX10_asks_124 : decode cX10_asks 124 = .ok (.getfield 77, 3) := by decide +kernel
theorem dX10_asks_127 : decode cX10_asks 127 = .ok (.bipush 7, 2) := by decide +kernel
theorem dX10_asks_129 : decode cX10_asks 129 = .ok (.aload_n 0, 1) := by decide +kernel
theorem dX10_asks_130 : decode cX10_asks 130 = .ok (.getfield 19, 3) := by decide +kernel
theorem dX10_asks_133 : decode cX10_asks 133 = .ok (.iload_n 1, 1) := by decide +kernel
theorem dX10_asks_134 : decode cX10_asks 134 = .ok (.iaload, 1) := by decide +kernel
theorem dX10_asks_135 : decode cX10_asks 135 = .ok (.iastore, 1) := by decide +kernel
theorem dX10_asks_136 : decode cX10_asks 136 = .ok (.aload_n 0, 1) := by decide +kernel
theorem dX10_asks_137 : decode cX10_asks 137 = .ok (.getfield 77, 3) := by decide +kernel
theorem dX10_asks_140 : decode cX10_asks 140 = .ok (.bipush 8, 2) := by decide +kernel
theorem dX10_asks_142 : decode cX10_asks 142 = .ok (.aload_n 0, 1) := by decide +kernel
theorem dX10_asks_143 : decode cX10_asks 143 = .ok (.getfield 7, 3) := by decide +kernel
theorem dX10_asks_146 : decode cX10_asks 146 = .ok (.bipush 53, 2) := by decide +kernel
theorem dX10_asks_148 : decode cX10_asks 148 = .ok (.iload_n 1, 1) := by decide +kernel
theorem dX10_asks_149 : decode cX10_asks 149 = .ok (.iadd, 1) := by decide +kernel
theorem dX10_asks_150 : decode cX10_asks 150 = .ok (.iaload, 1) := by decide +kernel
theorem dX10_asks_151 : decode cX10_asks 151 = .ok (.iastore, 1) := by decide +kernel
theorem dX10_asks_152 : decode cX10_asks 152 = .ok (.aload_n 0, 1) := by decide +kernel
theorem dX10_asks_153 : decode cX10_asks 153 = .ok (.getfield 77, 3) := by decide +kernel
theorem dX10_asks_156 : decode cX10_asks 156 = .ok (.bipush 9, 2) := by decide +kernel
theorem dX10_asks_158 : decode cX10_asks 158 = .ok (.aload_n 0, 1) := by decide +kernel
theorem dX10_asks_159 : decode cX10_asks 159 = .ok (.getfield 7, 3) := by decide +kernel
theorem dX10_asks_162 : decode cX10_asks 162 = .ok (.iconst 0, 1) := by decide +kernel
theorem dX10_asks_163 : decode cX10_asks 163 = .ok (.iaload, 1) := by decide +kernel
theorem dX10_asks_164 : decode cX10_asks 164 = .ok (.iastore, 1) := by decide +kernel
theorem dX10_asks_165 : decode cX10_asks 165 = .ok (.return_, 1) := by decide +kernel
theorem dX10_lawTells_0 : decode cX10_lawTells 0 = .ok (.aload_n 0, 1) := by decide +kernel
theorem dX10_lawTells_1 : decode cX10_lawTells 1 = .ok (.iload_n 1, 1) := by decide +kernel
theorem dX10_lawTells_2 : decode cX10_lawTells 2 = .ok (.invokevirtual 324, 3) := by decide +kernel
theorem dX10_lawTells_5 : decode cX10_lawTells 5 = .ok (.istore 4, 2) := by decide +kernel
theorem dX10_lawTells_7 : decode cX10_lawTells 7 = .ok (.aload_n 0, 1) := by decide +kernel
theorem dX10_lawTells_8 : decode cX10_lawTells 8 = .ok (.iload 4, 2) := by decide +kernel
theorem dX10_lawTells_10 : decode cX10_lawTells 10 = .ok (.iconst (-1), 1) := by decide +kernel
theorem dX10_lawTells_11 : decode cX10_lawTells 11 = .ok (.if_icmp .ne 7, 3) := by decide +kernel
theorem dX10_lawTells_14 : decode cX10_lawTells 14 = .ok (.iload_n 2, 1) := by decide +kernel
theorem dX10_lawTells_15 : decode cX10_lawTells 15 = .ok (.goto 22, 3) := by decide +kernel
theorem dX10_lawTells_18 : decode cX10_lawTells 18 = .ok (.aload_n 0, 1) := by decide +kernel
theorem dX10_lawTells_19 : decode cX10_lawTells 19 = .ok (.iconst 0, 1) := by decide +kernel
theorem dX10_lawTells_20 : decode cX10_lawTells 20 = .ok (.aload_n 0, 1) := by decide +kernel
theorem dX10_lawTells_21 : decode cX10_lawTells 21 = .ok (.getfield 46, 3) := by decide +kernel
theorem dX10_lawTells_24 : decode cX10_lawTells 24 = .ok (.iload 4, 2) := by decide +kernel
theorem dX10_lawTells_26 : decode cX10_lawTells 26 = .ok (.iaload, 1) := by decide +kernel
theorem dX10_lawTells_27 : decode cX10_lawTells 27 = .ok (.aload_n 0, 1) := by decide +kernel
theorem dX10_lawTells_28 : decode cX10_lawTells 28 = .ok (.getfield 49, 3) := by decide +kernel
theorem dX10_lawTells_31 : decode cX10_lawTells 31 = .ok (.iload 4, 2) := by decide +kernel
theorem dX10_lawTells_33 : decode cX10_lawTells 33 = .ok (.iaload, 1) := by decide +kernel
theorem dX10_lawTells_34 : decode cX10_lawTells 34 = .ok (.invokevirtual 321, 3) := by decide +kernel
theorem dX10_lawTells_37 : decode cX10_lawTells 37 = .ok (.iconst 0, 1) := by decide +kernel
theorem dX10_lawTells_38 : decode cX10_lawTells 38 = .ok (.iload_n 3, 1) := by decide +kernel
theorem dX10_lawTells_39 : decode cX10_lawTells 39 = .ok (.invokevirtual 327, 3) := by decide +kernel
theorem dX10_lawTells_42 : decode cX10_lawTells 42 = .ok (.ireturn, 1) := by decide +kernel
theorem dX10_pressesOf_0 : decode cX10_pressesOf 0 = .ok (.aload_n 0, 1) := by decide +kernel
theorem dX10_pressesOf_1 : decode cX10_pressesOf 1 = .ok (.iload_n 1, 1) := by decide +kernel
theorem dX10_pressesOf_2 : decode cX10_pressesOf 2 = .ok (.invokevirtual 330, 3) := by decide +kernel
theorem dX10_pressesOf_5 : decode cX10_pressesOf 5 = .ok (.aload_n 0, 1) := by decide +kernel
theorem dX10_pressesOf_6 : decode cX10_pressesOf 6 = .ok (.iconst 0, 1) := by decide +kernel
theorem dX10_pressesOf_7 : decode cX10_pressesOf 7 = .ok (.aload_n 0, 1) := by decide +kernel
theorem dX10_pressesOf_8 : decode cX10_pressesOf 8 = .ok (.getfield 77, 3) := by decide +kernel
theorem dX10_pressesOf_11 : decode cX10_pressesOf 11 = .ok (.iconst 0, 1) := by decide +kernel
theorem dX10_pressesOf_12 : decode cX10_pressesOf 12 = .ok (.iaload, 1) := by decide +kernel
theorem dX10_pressesOf_13 : decode cX10_pressesOf 13 = .ok (.bipush 20, 2) := by decide +kernel
theorem dX10_pressesOf_15 : decode cX10_pressesOf 15 = .ok (.invokevirtual 333, 3) := by decide +kernel
theorem dX10_pressesOf_18 : decode cX10_pressesOf 18 = .ok (.ireturn, 1) := by decide +kernel
theorem dX10_restsOf_0 : decode cX10_restsOf 0 = .ok (.aload_n 0, 1) := by decide +kernel
theorem dX10_restsOf_1 : decode cX10_restsOf 1 = .ok (.iload_n 1, 1) := by decide +kernel
theorem dX10_restsOf_2 : decode cX10_restsOf 2 = .ok (.invokevirtual 330, 3) := by decide +kernel
theorem dX10_restsOf_5 : decode cX10_restsOf 5 = .ok (.aload_n 0, 1) := by decide +kernel
theorem dX10_restsOf_6 : decode cX10_restsOf 6 = .ok (.iconst 1, 1) := by decide +kernel
theorem dX10_restsOf_7 : decode cX10_restsOf 7 = .ok (.bipush 10, 2) := by decide +kernel
theorem dX10_restsOf_9 : decode cX10_restsOf 9 = .ok (.iconst 5, 1) := by decide +kernel
theorem dX10_restsOf_10 : decode cX10_restsOf 10 = .ok (.aload_n 0, 1) := by decide +kernel
theorem dX10_restsOf_11 : decode cX10_restsOf 11 = .ok (.getfield 77, 3) := by decide +kernel
theorem dX10_restsOf_14 : decode cX10_restsOf 14 = .ok (.iconst 4, 1) := by decide +kernel
theorem dX10_restsOf_15 : decode cX10_restsOf 15 = .ok (.iaload, 1) := by decide +kernel
theorem dX10_restsOf_16 : decode cX10_restsOf 16 = .ok (.imul, 1) := by decide +kernel
theorem dX10_restsOf_17 : decode cX10_restsOf 17 = .ok (.iadd, 1) := by decide +kernel
theorem dX10_restsOf_18 : decode cX10_restsOf 18 = .ok (.bipush 99, 2) := by decide +kernel
theorem dX10_restsOf_20 : decode cX10_restsOf 20 = .ok (.invokevirtual 333, 3) := by decide +kernel
theorem dX10_restsOf_23 : decode cX10_restsOf 23 = .ok (.ireturn, 1) := by decide +kernel
theorem dX10_readsOf_0 : decode cX10_readsOf 0 = .ok (.aload_n 0, 1) := by decide +kernel
theorem dX10_readsOf_1 : decode cX10_readsOf 1 = .ok (.iload_n 1, 1) := by decide +kernel
theorem dX10_readsOf_2 : decode cX10_readsOf 2 = .ok (.invokevirtual 330, 3) := by decide +kernel
theorem dX10_readsOf_5 : decode cX10_readsOf 5 = .ok (.aload_n 0, 1) := by decide +kernel
theorem dX10_readsOf_6 : decode cX10_readsOf 6 = .ok (.iconst 2, 1) := by decide +kernel
theorem dX10_readsOf_7 : decode cX10_readsOf 7 = .ok (.bipush 40, 2) := by decide +kernel
theorem dX10_readsOf_9 : decode cX10_readsOf 9 = .ok (.aload_n 0, 1) := by decide +kernel
theorem dX10_readsOf_10 : decode cX10_readsOf 10 = .ok (.getfield 77, 3) := by decide +kernel
theorem dX10_readsOf_13 : decode cX10_readsOf 13 = .ok (.iconst 4, 1) := by decide +kernel
theorem dX10_readsOf_14 : decode cX10_readsOf 14 = .ok (.iaload, 1) := by decide +kernel
theorem dX10_readsOf_15 : decode cX10_readsOf 15 = .ok (.imul, 1) := by decide +kernel
theorem dX10_readsOf_16 : decode cX10_readsOf 16 = .ok (.aload_n 0, 1) := by decide +kernel
theorem dX10_readsOf_17 : decode cX10_readsOf 17 = .ok (.getfield 77, 3) := by decide +kernel
theorem dX10_readsOf_20 : decode cX10_readsOf 20 = .ok (.iconst 5, 1) := by decide +kernel
theorem dX10_readsOf_21 : decode cX10_readsOf 21 = .ok (.iaload, 1) := by decide +kernel
theorem dX10_readsOf_22 : decode cX10_readsOf 22 = .ok (.iadd, 1) := by decide +kernel
theorem dX10_readsOf_23 : decode cX10_readsOf 23 = .ok (.sipush 1000, 3) := by decide +kernel
theorem dX10_readsOf_26 : decode cX10_readsOf 26 = .ok (.invokevirtual 333, 3) := by decide +kernel
theorem dX10_readsOf_29 : decode cX10_readsOf 29 = .ok (.ireturn, 1) := by decide +kernel
theorem dX10_notes_0 : decode cX10_notes 0 = .ok (.aload_n 0, 1) := by decide +kernel
theorem dX10_notes_1 : decode cX10_notes 1 = .ok (.getfield 137, 3) := by decide +kernel
theorem dX10_notes_4 : decode cX10_notes 4 = .ok (.ifCond .ne 15, 3) := by decide +kernel
theorem dX10_notes_7 : decode cX10_notes 7 = .ok (.aload_n 0, 1) := by decide +kernel
theorem dX10_notes_8 : decode cX10_notes 8 = .ok (.getfield 7, 3) := by decide +kernel
theorem dX10_notes_11 : decode cX10_notes 11 = .ok (.iconst 2, 1) := by decide +kernel
theorem dX10_notes_12 : decode cX10_notes 12 = .ok (.iaload, 1) := by decide +kernel
theorem dX10_notes_13 : decode cX10_notes 13 = .ok (.sipush 150, 3) := by decide +kernel
theorem dX10_notes_16 : decode cX10_notes 16 = .ok (.if_icmp .ne 4, 3) := by decide +kernel
theorem dX10_notes_19 : decode cX10_notes 19 = .ok (.return_, 1) := by decide +kernel
theorem dX10_notes_20 : decode cX10_notes 20 = .ok (.iconst 4, 1) := by decide +kernel
theorem dX10_notes_21 : decode cX10_notes 21 = .ok (.aload_n 0, 1) := by decide +kernel
theorem dX10_notes_22 : decode cX10_notes 22 = .ok (.getfield 7, 3) := by decide +kernel
theorem dX10_notes_25 : decode cX10_notes 25 = .ok (.iconst 2, 1) := by decide +kernel
theorem dX10_notes_26 : decode cX10_notes 26 = .ok (.iaload, 1) := by decide +kernel
theorem dX10_notes_27 : decode cX10_notes 27 = .ok (.imul, 1) := by decide +kernel
theorem dX10_notes_28 : decode cX10_notes 28 = .ok (.istore 4, 2) := by decide +kernel
theorem dX10_notes_30 : decode cX10_notes 30 = .ok (.aload_n 0, 1) := by decide +kernel
theorem dX10_notes_31 : decode cX10_notes 31 = .ok (.getfield 31, 3) := by decide +kernel
theorem dX10_notes_34 : decode cX10_notes 34 = .ok (.iload 4, 2) := by decide +kernel
theorem dX10_notes_36 : decode cX10_notes 36 = .ok (.aload_n 0, 1) := by decide +kernel
theorem dX10_notes_37 : decode cX10_notes 37 = .ok (.getfield 7, 3) := by decide +kernel
theorem dX10_notes_40 : decode cX10_notes 40 = .ok (.iconst 0, 1) := by decide +kernel
theorem dX10_notes_41 : decode cX10_notes 41 = .ok (.iaload, 1) := by decide +kernel
theorem dX10_notes_42 : decode cX10_notes 42 = .ok (.iastore, 1) := by decide +kernel
theorem dX10_notes_43 : decode cX10_notes 43 = .ok (.aload_n 0, 1) := by decide +kernel
theorem dX10_notes_44 : decode cX10_notes 44 = .ok (.getfield 31, 3) := by decide +kernel
theorem dX10_notes_47 : decode cX10_notes 47 = .ok (.iload 4, 2) := by decide +kernel
theorem dX10_notes_49 : decode cX10_notes 49 = .ok (.iconst 1, 1) := by decide +kernel
theorem dX10_notes_50 : decode cX10_notes 50 = .ok (.iadd, 1) := by decide +kernel
theorem dX10_notes_51 : decode cX10_notes 51 = .ok (.iload_n 1, 1) := by decide +kernel
theorem dX10_notes_52 : decode cX10_notes 52 = .ok (.iastore, 1) := by decide +kernel
theorem dX10_notes_53 : decode cX10_notes 53 = .ok (.aload_n 0, 1) := by decide +kernel
theorem dX10_notes_54 : decode cX10_notes 54 = .ok (.getfield 31, 3) := by decide +kernel
theorem dX10_notes_57 : decode cX10_notes 57 = .ok (.iload 4, 2) := by decide +kernel
theorem dX10_notes_59 : decode cX10_notes 59 = .ok (.iconst 2, 1) := by decide +kernel
theorem dX10_notes_60 : decode cX10_notes 60 = .ok (.iadd, 1) := by decide +kernel
theorem dX10_notes_61 : decode cX10_notes 61 = .ok (.iload_n 2, 1) := by decide +kernel
theorem dX10_notes_62 : decode cX10_notes 62 = .ok (.iastore, 1) := by decide +kernel
theorem dX10_notes_63 : decode cX10_notes 63 = .ok (.aload_n 0, 1) := by decide +kernel
theorem dX10_notes_64 : decode cX10_notes 64 = .ok (.getfield 31, 3) := by decide +kernel
theorem dX10_notes_67 : decode cX10_notes 67 = .ok (.iload 4, 2) := by decide +kernel
theorem dX10_notes_69 : decode cX10_notes 69 = .ok (.iconst 3, 1) := by decide +kernel
theorem dX10_notes_70 : decode cX10_notes 70 = .ok (.iadd, 1) := by decide +kernel
theorem dX10_notes_71 : decode cX10_notes 71 = .ok (.iload_n 3, 1) := by decide +kernel
theorem dX10_notes_72 : decode cX10_notes 72 = .ok (.iastore, 1) := by decide +kernel
theorem dX10_notes_73 : decode cX10_notes 73 = .ok (.aload_n 0, 1) := by decide +kernel
theorem dX10_notes_74 : decode cX10_notes 74 = .ok (.getfield 7, 3) := by decide +kernel
theorem dX10_notes_77 : decode cX10_notes 77 = .ok (.iconst 2, 1) := by decide +kernel
theorem dX10_notes_78 : decode cX10_notes 78 = .ok (.aload_n 0, 1) := by decide +kernel
theorem dX10_notes_79 : decode cX10_notes 79 = .ok (.getfield 7, 3) := by decide +kernel
theorem dX10_notes_82 : decode cX10_notes 82 = .ok (.iconst 2, 1) := by decide +kernel
theorem dX10_notes_83 : decode cX10_notes 83 = .ok (.iaload, 1) := by decide +kernel
theorem dX10_notes_84 : decode cX10_notes 84 = .ok (.iconst 1, 1) := by decide +kernel
theorem dX10_notes_85 : decode cX10_notes 85 = .ok (.iadd, 1) := by decide +kernel
theorem dX10_notes_86 : decode cX10_notes 86 = .ok (.iastore, 1) := by decide +kernel
theorem dX10_notes_87 : decode cX10_notes 87 = .ok (.return_, 1) := by decide +kernel
theorem dX10_isGivenUp_0 : decode cX10_isGivenUp 0 = .ok (.aload_n 0, 1) := by decide +kernel
theorem dX10_isGivenUp_1 : decode cX10_isGivenUp 1 = .ok (.getfield 7, 3) := by decide +kernel
theorem dX10_isGivenUp_4 : decode cX10_isGivenUp 4 = .ok (.bipush 41, 2) := by decide +kernel
theorem dX10_isGivenUp_6 : decode cX10_isGivenUp 6 = .ok (.iload_n 1, 1) := by decide +kernel
theorem dX10_isGivenUp_7 : decode cX10_isGivenUp 7 = .ok (.iadd, 1) := by decide +kernel
theorem dX10_isGivenUp_8 : decode cX10_isGivenUp 8 = .ok (.iaload, 1) := by decide +kernel
theorem dX10_isGivenUp_9 : decode cX10_isGivenUp 9 = .ok (.iconst 1, 1) := by decide +kernel
theorem dX10_isGivenUp_10 : decode cX10_isGivenUp 10 = .ok (.if_icmp .eq 16, 3) := by decide +kernel
theorem dX10_isGivenUp_13 : decode cX10_isGivenUp 13 = .ok (.aload_n 0, 1) := by decide +kernel
theorem dX10_isGivenUp_14 : decode cX10_isGivenUp 14 = .ok (.getfield 7, 3) := by decide +kernel
theorem dX10_isGivenUp_17 : decode cX10_isGivenUp 17 = .ok (.bipush 29, 2) := by decide +kernel
theorem dX10_isGivenUp_19 : decode cX10_isGivenUp 19 = .ok (.iload_n 1, 1) := by decide +kernel
theorem dX10_isGivenUp_20 : decode cX10_isGivenUp 20 = .ok (.iadd, 1) := by decide +kernel
theorem dX10_isGivenUp_21 : decode cX10_isGivenUp 21 = .ok (.iaload, 1) := by decide +kernel
theorem dX10_isGivenUp_22 : decode cX10_isGivenUp 22 = .ok (.iconst 1, 1) := by decide +kernel
theorem dX10_isGivenUp_23 : decode cX10_isGivenUp 23 = .ok (.if_icmp .ne 7, 3) := by decide +kernel
theorem dX10_isGivenUp_26 : decode cX10_isGivenUp 26 = .ok (.iconst 1, 1) := by decide +kernel
theorem dX10_isGivenUp_27 : decode cX10_isGivenUp 27 = .ok (.goto 4, 3) := by decide +kernel
theorem dX10_isGivenUp_30 : decode cX10_isGivenUp 30 = .ok (.iconst 0, 1) := by decide +kernel
theorem dX10_isGivenUp_31 : decode cX10_isGivenUp 31 = .ok (.ireturn, 1) := by decide +kernel
theorem dX10_hasNeeds_0 : decode cX10_hasNeeds 0 = .ok (.iconst 0, 1) := by decide +kernel
theorem dX10_hasNeeds_1 : decode cX10_hasNeeds 1 = .ok (.istore_n 2, 1) := by decide +kernel
theorem dX10_hasNeeds_2 : decode cX10_hasNeeds 2 = .ok (.iload_n 2, 1) := by decide +kernel
theorem dX10_hasNeeds_3 : decode cX10_hasNeeds 3 = .ok (.aload_n 0, 1) := by decide +kernel
theorem dX10_hasNeeds_4 : decode cX10_hasNeeds 4 = .ok (.getfield 143, 3) := by decide +kernel
theorem dX10_hasNeeds_7 : decode cX10_hasNeeds 7 = .ok (.if_icmp .ge 39, 3) := by decide +kernel
theorem dX10_hasNeeds_10 : decode cX10_hasNeeds 10 = .ok (.aload_n 0, 1) := by decide +kernel
theorem dX10_hasNeeds_11 : decode cX10_hasNeeds 11 = .ok (.aload_n 0, 1) := by decide +kernel
theorem dX10_hasNeeds_12 : decode cX10_hasNeeds 12 = .ok (.getfield 74, 3) := by decide +kernel
theorem dX10_hasNeeds_15 : decode cX10_hasNeeds 15 = .ok (.iload_n 1, 1) := by decide +kernel
theorem dX10_hasNeeds_16 : decode cX10_hasNeeds 16 = .ok (.iaload, 1) := by decide +kernel
theorem dX10_hasNeeds_17 : decode cX10_hasNeeds 17 = .ok (.iload_n 2, 1) := by decide +kernel
theorem dX10_hasNeeds_18 : decode cX10_hasNeeds 18 = .ok (.invokevirtual 336, 3) := by decide +kernel
theorem dX10_hasNeeds_21 : decode cX10_hasNeeds 21 = .ok (.ifCond .eq 19, 3) := by decide +kernel
theorem dX10_hasNeeds_24 : decode cX10_hasNeeds 24 = .ok (.aload_n 0, 1) := by decide +kernel
theorem dX10_hasNeeds_25 : decode cX10_hasNeeds 25 = .ok (.getfield 7, 3) := by decide +kernel
theorem dX10_hasNeeds_28 : decode cX10_hasNeeds 28 = .ok (.bipush 17, 2) := by decide +kernel
theorem dX10_hasNeeds_30 : decode cX10_hasNeeds 30 = .ok (.iload_n 2, 1) := by decide +kernel
theorem dX10_hasNeeds_31 : decode cX10_hasNeeds 31 = .ok (.iadd, 1) := by decide +kernel
theorem dX10_hasNeeds_32 : decode cX10_hasNeeds 32 = .ok (.iaload, 1) := by decide +kernel
theorem dX10_hasNeeds_33 : decode cX10_hasNeeds 33 = .ok (.bipush 10, 2) := by decide +kernel
theorem dX10_hasNeeds_35 : decode cX10_hasNeeds 35 = .ok (.if_icmp .ge 5, 3) := by decide +kernel
theorem dX10_hasNeeds_38 : decode cX10_hasNeeds 38 = .ok (.iconst 0, 1) := by decide +kernel
theorem dX10_hasNeeds_39 : decode cX10_hasNeeds 39 = .ok (.ireturn, 1) := by decide +kernel
theorem dX10_hasNeeds_40 : decode cX10_hasNeeds 40 = .ok (.iinc 2 1, 3) := by decide +kernel
theorem dX10_hasNeeds_43 : decode cX10_hasNeeds 43 = .ok (.goto (-41), 3) := by decide +kernel
theorem dX10_hasNeeds_46 : decode cX10_hasNeeds 46 = .ok (.iconst 1, 1) := by decide +kernel
theorem dX10_hasNeeds_47 : decode cX10_hasNeeds 47 = .ok (.ireturn, 1) := by decide +kernel
theorem dX10_marches_0 : decode cX10_marches 0 = .ok (.aload_n 0, 1) := by decide +kernel
theorem dX10_marches_1 : decode cX10_marches 1 = .ok (.iload_n 1, 1) := by decide +kernel
theorem dX10_marches_2 : decode cX10_marches 2 = .ok (.invokevirtual 340, 3) := by decide +kernel
theorem dX10_marches_5 : decode cX10_marches 5 = .ok (.ifCond .eq 39, 3) := by decide +kernel
theorem dX10_marches_8 : decode cX10_marches 8 = .ok (.aload_n 0, 1) := by decide +kernel
theorem dX10_marches_9 : decode cX10_marches 9 = .ok (.iconst 1, 1) := by decide +kernel
theorem dX10_marches_10 : decode cX10_marches 10 = .ok (.iload_n 1, 1) := by decide +kernel
theorem dX10_marches_11 : decode cX10_marches 11 = .ok (.aload_n 0, 1) := by decide +kernel
theorem dX10_marches_12 : decode cX10_marches 12 = .ok (.getfield 7, 3) := by decide +kernel
theorem dX10_marches_15 : decode cX10_marches 15 = .ok (.bipush 17, 2) := by decide +kernel
theorem dX10_marches_17 : decode cX10_marches 17 = .ok (.iload_n 1, 1) := by decide +kernel
theorem dX10_marches_18 : decode cX10_marches 18 = .ok (.iadd, 1) := by decide +kernel
theorem dX10_marches_19 : decode cX10_marches 19 = .ok (.iaload, 1) := by decide +kernel
theorem dX10_marches_20 : decode cX10_marches 20 = .ok (.invokevirtual 343, 3) := by decide +kernel
theorem dX10_marches_23 : decode cX10_marches 23 = .ok (.aload_n 0, 1) := by decide +kernel
theorem dX10_marches_24 : decode cX10_marches 24 = .ok (.getfield 7, 3) := by decide +kernel
theorem dX10_marches_27 : decode cX10_marches 27 = .ok (.bipush 17, 2) := by decide +kernel
theorem dX10_marches_29 : decode cX10_marches 29 = .ok (.iload_n 1, 1) := by decide +kernel
theorem dX10_marches_30 : decode cX10_marches 30 = .ok (.iadd, 1) := by decide +kernel
theorem dX10_marches_31 : decode cX10_marches 31 = .ok (.iconst 0, 1) := by decide +kernel
theorem dX10_marches_32 : decode cX10_marches 32 = .ok (.iastore, 1) := by decide +kernel
theorem dX10_marches_33 : decode cX10_marches 33 = .ok (.aload_n 0, 1) := by decide +kernel
theorem dX10_marches_34 : decode cX10_marches 34 = .ok (.getfield 7, 3) := by decide +kernel
theorem dX10_marches_37 : decode cX10_marches 37 = .ok (.bipush 29, 2) := by decide +kernel
theorem dX10_marches_39 : decode cX10_marches 39 = .ok (.iload_n 1, 1) := by decide +kernel
theorem dX10_marches_40 : decode cX10_marches 40 = .ok (.iadd, 1) := by decide +kernel
theorem dX10_marches_41 : decode cX10_marches 41 = .ok (.iconst 0, 1) := by decide +kernel
theorem dX10_marches_42 : decode cX10_marches 42 = .ok (.iastore, 1) := by decide +kernel
theorem dX10_marches_43 : decode cX10_marches 43 = .ok (.return_, 1) := by decide +kernel
theorem dX10_marches_44 : decode cX10_marches 44 = .ok (.aload_n 0, 1) := by decide +kernel
theorem dX10_marches_45 : decode cX10_marches 45 = .ok (.iload_n 1, 1) := by decide +kernel
theorem dX10_marches_46 : decode cX10_marches 46 = .ok (.invokevirtual 347, 3) := by decide +kernel
theorem dX10_marches_49 : decode cX10_marches 49 = .ok (.ifCond .ne 19, 3) := by decide +kernel
theorem dX10_marches_52 : decode cX10_marches 52 = .ok (.aload_n 0, 1) := by decide +kernel
theorem dX10_marches_53 : decode cX10_marches 53 = .ok (.iconst 2, 1) := by decide +kernel
theorem dX10_marches_54 : decode cX10_marches 54 = .ok (.iload_n 1, 1) := by decide +kernel
theorem dX10_marches_55 : decode cX10_marches 55 = .ok (.aload_n 0, 1) := by decide +kernel
theorem dX10_marches_56 : decode cX10_marches 56 = .ok (.getfield 7, 3) := by decide +kernel
theorem dX10_marches_59 : decode cX10_marches 59 = .ok (.bipush 17, 2) := by decide +kernel
theorem dX10_marches_61 : decode cX10_marches 61 = .ok (.iload_n 1, 1) := by decide +kernel
theorem dX10_marches_62 : decode cX10_marches 62 = .ok (.iadd, 1) := by decide +kernel
theorem dX10_marches_63 : decode cX10_marches 63 = .ok (.iaload, 1) := by decide +kernel
theorem dX10_marches_64 : decode cX10_marches 64 = .ok (.invokevirtual 343, 3) := by decide +kernel
theorem dX10_marches_67 : decode cX10_marches 67 = .ok (.return_, 1) := by decide +kernel
theorem dX10_marches_68 : decode cX10_marches 68 = .ok (.aload_n 0, 1) := by decide +kernel
theorem dX10_marches_69 : decode cX10_marches 69 = .ok (.getfield 7, 3) := by decide +kernel
theorem dX10_marches_72 : decode cX10_marches 72 = .ok (.bipush 17, 2) := by decide +kernel
theorem dX10_marches_74 : decode cX10_marches 74 = .ok (.iload_n 1, 1) := by decide +kernel
theorem dX10_marches_75 : decode cX10_marches 75 = .ok (.iadd, 1) := by decide +kernel
theorem dX10_marches_76 : decode cX10_marches 76 = .ok (.aload_n 0, 1) := by decide +kernel
theorem dX10_marches_77 : decode cX10_marches 77 = .ok (.bipush 99, 2) := by decide +kernel
theorem dX10_marches_79 : decode cX10_marches 79 = .ok (.aload_n 0, 1) := by decide +kernel
theorem dX10_marches_80 : decode cX10_marches 80 = .ok (.getfield 7, 3) := by decide +kernel
theorem dX10_marches_83 : decode cX10_marches 83 = .ok (.bipush 17, 2) := by decide +kernel
theorem dX10_marches_85 : decode cX10_marches 85 = .ok (.iload_n 1, 1) := by decide +kernel
theorem dX10_marches_86 : decode cX10_marches 86 = .ok (.iadd, 1) := by decide +kernel
theorem dX10_marches_87 : decode cX10_marches 87 = .ok (.iaload, 1) := by decide +kernel
theorem dX10_marches_88 : decode cX10_marches 88 = .ok (.iload_n 2, 1) := by decide +kernel
theorem dX10_marches_89 : decode cX10_marches 89 = .ok (.iadd, 1) := by decide +kernel
theorem dX10_marches_90 : decode cX10_marches 90 = .ok (.invokevirtual 350, 3) := by decide +kernel
theorem dX10_marches_93 : decode cX10_marches 93 = .ok (.iastore, 1) := by decide +kernel
theorem dX10_marches_94 : decode cX10_marches 94 = .ok (.aload_n 0, 1) := by decide +kernel
theorem dX10_marches_95 : decode cX10_marches 95 = .ok (.iconst 0, 1) := by decide +kernel
theorem dX10_marches_96 : decode cX10_marches 96 = .ok (.iload_n 1, 1) := by decide +kernel
theorem dX10_marches_97 : decode cX10_marches 97 = .ok (.aload_n 0, 1) := by decide +kernel
theorem dX10_marches_98 : decode cX10_marches 98 = .ok (.getfield 7, 3) := by decide +kernel
theorem dX10_marches_101 : decode cX10_marches 101 = .ok (.bipush 17, 2) := by decide +kernel
theorem dX10_marches_103 : decode cX10_marches 103 = .ok (.iload_n 1, 1) := by decide +kernel
theorem dX10_marches_104 : decode cX10_marches 104 = .ok (.iadd, 1) := by decide +kernel
theorem dX10_marches_105 : decode cX10_marches 105 = .ok (.iaload, 1) := by decide +kernel
theorem dX10_marches_106 : decode cX10_marches 106 = .ok (.invokevirtual 343, 3) := by decide +kernel
theorem dX10_marches_109 : decode cX10_marches 109 = .ok (.return_, 1) := by decide +kernel
theorem dX10_canAct_0 : decode cX10_canAct 0 = .ok (.aload_n 0, 1) := by decide +kernel
theorem dX10_canAct_1 : decode cX10_canAct 1 = .ok (.invokevirtual 153, 3) := by decide +kernel
theorem dX10_canAct_4 : decode cX10_canAct 4 = .ok (.ifCond .eq 5, 3) := by decide +kernel
theorem dX10_canAct_7 : decode cX10_canAct 7 = .ok (.iconst 0, 1) := by decide +kernel
theorem dX10_canAct_8 : decode cX10_canAct 8 = .ok (.ireturn, 1) := by decide +kernel
theorem dX10_canAct_9 : decode cX10_canAct 9 = .ok (.iload_n 1, 1) := by decide +kernel
theorem dX10_canAct_10 : decode cX10_canAct 10 = .ok (.ifCond .ne 28, 3) := by decide +kernel
theorem dX10_canAct_13 : decode cX10_canAct 13 = .ok (.aload_n 0, 1) := by decide +kernel
theorem dX10_canAct_14 : decode cX10_canAct 14 = .ok (.iload_n 2, 1) := by decide +kernel
theorem dX10_canAct_15 : decode cX10_canAct 15 = .ok (.invokevirtual 157, 3) := by decide +kernel
theorem dX10_canAct_18 : decode cX10_canAct 18 = .ok (.ifCond .eq 18, 3) := by decide +kernel
theorem dX10_canAct_21 : decode cX10_canAct 21 = .ok (.aload_n 0, 1) := by decide +kernel
theorem dX10_canAct_22 : decode cX10_canAct 22 = .ok (.iload_n 3, 1) := by decide +kernel
theorem dX10_canAct_23 : decode cX10_canAct 23 = .ok (.iconst 1, 1) := by decide +kernel
theorem dX10_canAct_24 : decode cX10_canAct 24 = .ok (.bipush 99, 2) := by decide +kernel
theorem dX10_canAct_26 : decode cX10_canAct 26 = .ok (.invokevirtual 149, 3) := by decide +kernel
theorem dX10_canAct_29 : decode cX10_canAct 29 = .ok (.ifCond .eq 7, 3) := by decide +kernel
theorem dX10_canAct_32 : decode cX10_canAct 32 = .ok (.iconst 1, 1) := by decide +kernel
theorem dX10_canAct_33 : decode cX10_canAct 33 = .ok (.goto 4, 3) := by decide +kernel
theorem dX10_canAct_36 : decode cX10_canAct 36 = .ok (.iconst 0, 1) := by decide +kernel
theorem dX10_canAct_37 : decode cX10_canAct 37 = .ok (.ireturn, 1) := by decide +kernel
theorem dX10_canAct_38 : decode cX10_canAct 38 = .ok (.iload_n 1, 1) := by decide +kernel
theorem dX10_canAct_39 : decode cX10_canAct 39 = .ok (.iconst 1, 1) := by decide +kernel
theorem dX10_canAct_40 : decode cX10_canAct 40 = .ok (.if_icmp .eq 8, 3) := by decide +kernel
theorem dX10_canAct_43 : decode cX10_canAct 43 = .ok (.iload_n 1, 1) := by decide +kernel
theorem dX10_canAct_44 : decode cX10_canAct 44 = .ok (.iconst 2, 1) := by decide +kernel
theorem dX10_canAct_45 : decode cX10_canAct 45 = .ok (.if_icmp .ne 32, 3) := by decide +kernel
theorem dX10_canAct_48 : decode cX10_canAct 48 = .ok (.aload_n 0, 1) := by decide +kernel
theorem dX10_canAct_49 : decode cX10_canAct 49 = .ok (.iload_n 2, 1) := by decide +kernel
theorem dX10_canAct_50 : decode cX10_canAct 50 = .ok (.invokevirtual 157, 3) := by decide +kernel
theorem dX10_canAct_53 : decode cX10_canAct 53 = .ok (.ifCond .eq 22, 3) := by decide +kernel
theorem dX10_canAct_56 : decode cX10_canAct 56 = .ok (.aload_n 0, 1) := by decide +kernel
theorem dX10_canAct_57 : decode cX10_canAct 57 = .ok (.getfield 7, 3) := by decide +kernel
theorem dX10_canAct_60 : decode cX10_canAct 60 = .ok (.bipush 41, 2) := by decide +kernel
theorem dX10_canAct_62 : decode cX10_canAct 62 = .ok (.iload_n 2, 1) := by decide +kernel
theorem dX10_canAct_63 : decode cX10_canAct 63 = .ok (.iadd, 1) := by decide +kernel
theorem dX10_canAct_64 : decode cX10_canAct 64 = .ok (.iaload, 1) := by decide +kernel
theorem dX10_canAct_65 : decode cX10_canAct 65 = .ok (.iload_n 1, 1) := by decide +kernel
theorem dX10_canAct_66 : decode cX10_canAct 66 = .ok (.iconst 1, 1) := by decide +kernel
theorem dX10_canAct_67 : decode cX10_canAct 67 = .ok (.isub, 1) := by decide +kernel
theorem dX10_canAct_68 : decode cX10_canAct 68 = .ok (.if_icmp .ne 7, 3) := by decide +kernel
theorem dX10_canAct_71 : decode cX10_canAct 71 = .ok (.iconst 1, 1) := by decide +kernel
theorem dX10_canAct_72 : decode cX10_canAct 72 = .ok (.goto 4, 3) := by decide +kernel
theorem dX10_canAct_75 : decode cX10_canAct 75 = .ok (.iconst 0, 1) := by decide +kernel
theorem dX10_canAct_76 : decode cX10_canAct 76 = .ok (.ireturn, 1) := by decide +kernel
theorem dX10_canAct_77 : decode cX10_canAct 77 = .ok (.iload_n 1, 1) := by decide +kernel
theorem dX10_canAct_78 : decode cX10_canAct 78 = .ok (.iconst 3, 1) := by decide +kernel
theorem dX10_canAct_79 : decode cX10_canAct 79 = .ok (.if_icmp .ne 27, 3) := by decide +kernel
theorem dX10_canAct_82 : decode cX10_canAct 82 = .ok (.aload_n 0, 1) := by decide +kernel
theorem dX10_canAct_83 : decode cX10_canAct 83 = .ok (.iload_n 2, 1) := by decide +kernel
theorem dX10_canAct_84 : decode cX10_canAct 84 = .ok (.invokevirtual 161, 3) := by decide +kernel
theorem dX10_canAct_87 : decode cX10_canAct 87 = .ok (.ifCond .eq 19, 3) := by decide +kernel
theorem dX10_canAct_90 : decode cX10_canAct 90 = .ok (.aload_n 0, 1) := by decide +kernel
theorem dX10_canAct_91 : decode cX10_canAct 91 = .ok (.getfield 7, 3) := by decide +kernel
theorem dX10_canAct_94 : decode cX10_canAct 94 = .ok (.bipush 65, 2) := by decide +kernel
theorem dX10_canAct_96 : decode cX10_canAct 96 = .ok (.iload_n 2, 1) := by decide +kernel
theorem dX10_canAct_97 : decode cX10_canAct 97 = .ok (.iadd, 1) := by decide +kernel
theorem dX10_canAct_98 : decode cX10_canAct 98 = .ok (.iaload, 1) := by decide +kernel
theorem dX10_canAct_99 : decode cX10_canAct 99 = .ok (.ifCond .le 7, 3) := by decide +kernel
theorem dX10_canAct_102 : decode cX10_canAct 102 = .ok (.iconst 1, 1) := by decide +kernel
theorem dX10_canAct_103 : decode cX10_canAct 103 = .ok (.goto 4, 3) := by decide +kernel
theorem dX10_canAct_106 : decode cX10_canAct 106 = .ok (.iconst 0, 1) := by decide +kernel
theorem dX10_canAct_107 : decode cX10_canAct 107 = .ok (.ireturn, 1) := by decide +kernel
theorem dX10_act_0 : decode cX10_act 0 = .ok (.aload_n 0, 1) := by decide +kernel
theorem dX10_act_1 : decode cX10_act 1 = .ok (.iconst 0, 1) := by decide +kernel
theorem dX10_act_2 : decode cX10_act 2 = .ok (.putfield 131, 3) := by decide +kernel
theorem dX10_act_5 : decode cX10_act 5 = .ok (.aload_n 0, 1) := by decide +kernel
theorem dX10_act_6 : decode cX10_act 6 = .ok (.iload_n 1, 1) := by decide +kernel
theorem dX10_act_7 : decode cX10_act 7 = .ok (.iload_n 2, 1) := by decide +kernel
theorem dX10_act_8 : decode cX10_act 8 = .ok (.iload_n 3, 1) := by decide +kernel
theorem dX10_act_9 : decode cX10_act 9 = .ok (.invokevirtual 353, 3) := by decide +kernel
theorem dX10_act_12 : decode cX10_act 12 = .ok (.ifCond .ne 5, 3) := by decide +kernel
theorem dX10_act_15 : decode cX10_act 15 = .ok (.iconst 0, 1) := by decide +kernel
theorem dX10_act_16 : decode cX10_act 16 = .ok (.ireturn, 1) := by decide +kernel
theorem dX10_act_17 : decode cX10_act 17 = .ok (.aload_n 0, 1) := by decide +kernel
theorem dX10_act_18 : decode cX10_act 18 = .ok (.invokevirtual 356, 3) := by decide +kernel
theorem dX10_act_21 : decode cX10_act 21 = .ok (.iload_n 1, 1) := by decide +kernel
theorem dX10_act_22 : decode cX10_act 22 = .ok (.ifCond .ne 9, 3) := by decide +kernel
theorem dX10_act_25 : decode cX10_act 25 = .ok (.aload_n 0, 1) := by decide +kernel
theorem dX10_act_26 : decode cX10_act 26 = .ok (.iload_n 2, 1) := by decide +kernel
theorem dX10_act_27 : decode cX10_act 27 = .ok (.iload_n 3, 1) := by decide +kernel
theorem dX10_act_28 : decode cX10_act 28 = .ok (.invokevirtual 359, 3) := by decide +kernel
theorem dX10_act_31 : decode cX10_act 31 = .ok (.iload_n 1, 1) := by decide +kernel
theorem dX10_act_32 : decode cX10_act 32 = .ok (.iconst 1, 1) := by decide +kernel
theorem dX10_act_33 : decode cX10_act 33 = .ok (.if_icmp .ne 13, 3) := by decide +kernel
theorem dX10_act_36 : decode cX10_act 36 = .ok (.aload_n 0, 1) := by decide +kernel
theorem dX10_act_37 : decode cX10_act 37 = .ok (.getfield 7, 3) := by decide +kernel
theorem dX10_act_40 : decode cX10_act 40 = .ok (.bipush 41, 2) := by decide +kernel
theorem dX10_act_42 : decode cX10_act 42 = .ok (.iload_n 2, 1) := by decide +kernel
theorem dX10_act_43 : decode cX10_act 43 = .ok (.iadd, 1) := by decide +kernel
theorem dX10_act_44 : decode cX10_act 44 = .ok (.iconst 1, 1) := by decide +kernel
theorem dX10_act_45 : decode cX10_act 45 = .ok (.iastore, 1) := by decide +kernel
theorem dX10_act_46 : decode cX10_act 46 = .ok (.iload_n 1, 1) := by decide +kernel
theorem dX10_act_47 : decode cX10_act 47 = .ok (.iconst 2, 1) := by decide +kernel
theorem dX10_act_48 : decode cX10_act 48 = .ok (.if_icmp .ne 13, 3) := by decide +kernel
theorem dX10_act_51 : decode cX10_act 51 = .ok (.aload_n 0, 1) := by decide +kernel
theorem dX10_act_52 : decode cX10_act 52 = .ok (.getfield 7, 3) := by decide +kernel
theorem dX10_act_55 : decode cX10_act 55 = .ok (.bipush 41, 2) := by decide +kernel
theorem dX10_act_57 : decode cX10_act 57 = .ok (.iload_n 2, 1) := by decide +kernel
theorem dX10_act_58 : decode cX10_act 58 = .ok (.iadd, 1) := by decide +kernel
theorem dX10_act_59 : decode cX10_act 59 = .ok (.iconst 0, 1) := by decide +kernel
theorem dX10_act_60 : decode cX10_act 60 = .ok (.iastore, 1) := by decide +kernel
theorem dX10_act_61 : decode cX10_act 61 = .ok (.iload_n 1, 1) := by decide +kernel
theorem dX10_act_62 : decode cX10_act 62 = .ok (.iconst 3, 1) := by decide +kernel
theorem dX10_act_63 : decode cX10_act 63 = .ok (.if_icmp .ne 13, 3) := by decide +kernel
theorem dX10_act_66 : decode cX10_act 66 = .ok (.aload_n 0, 1) := by decide +kernel
theorem dX10_act_67 : decode cX10_act 67 = .ok (.getfield 7, 3) := by decide +kernel
theorem dX10_act_70 : decode cX10_act 70 = .ok (.bipush 65, 2) := by decide +kernel
theorem dX10_act_72 : decode cX10_act 72 = .ok (.iload_n 2, 1) := by decide +kernel
theorem dX10_act_73 : decode cX10_act 73 = .ok (.iadd, 1) := by decide +kernel
theorem dX10_act_74 : decode cX10_act 74 = .ok (.iconst 0, 1) := by decide +kernel
theorem dX10_act_75 : decode cX10_act 75 = .ok (.iastore, 1) := by decide +kernel
theorem dX10_act_76 : decode cX10_act 76 = .ok (.iconst 1, 1) := by decide +kernel
theorem dX10_act_77 : decode cX10_act 77 = .ok (.ireturn, 1) := by decide +kernel
theorem dX10_happens_0 : decode cX10_happens 0 = .ok (.aload_n 0, 1) := by decide +kernel
theorem dX10_happens_1 : decode cX10_happens 1 = .ok (.getfield 137, 3) := by decide +kernel
theorem dX10_happens_4 : decode cX10_happens 4 = .ok (.ifCond .eq 20, 3) := by decide +kernel
theorem dX10_happens_7 : decode cX10_happens 7 = .ok (.iconst 2, 1) := by decide +kernel
theorem dX10_happens_8 : decode cX10_happens 8 = .ok (.iload_n 1, 1) := by decide +kernel
theorem dX10_happens_9 : decode cX10_happens 9 = .ok (.imul, 1) := by decide +kernel
theorem dX10_happens_10 : decode cX10_happens 10 = .ok (.sipush 1000, 3) := by decide +kernel
theorem dX10_happens_13 : decode cX10_happens 13 = .ok (.if_icmp .lt 7, 3) := by decide +kernel
theorem dX10_happens_16 : decode cX10_happens 16 = .ok (.iconst 1, 1) := by decide +kernel
theorem dX10_happens_17 : decode cX10_happens 17 = .ok (.goto 27, 3) := by decide +kernel
theorem dX10_happens_20 : decode cX10_happens 20 = .ok (.iconst 0, 1) := by decide +kernel
theorem dX10_happens_21 : decode cX10_happens 21 = .ok (.goto 23, 3) := by decide +kernel
theorem dX10_happens_24 : decode cX10_happens 24 = .ok (.iload_n 1, 1) := by decide +kernel
theorem dX10_happens_25 : decode cX10_happens 25 = .ok (.ifCond .le 18, 3) := by decide +kernel
theorem dX10_happens_28 : decode cX10_happens 28 = .ok (.aload_n 0, 1) := by decide +kernel
theorem dX10_happens_29 : decode cX10_happens 29 = .ok (.sipush 1000, 3) := by decide +kernel
theorem dX10_happens_32 : decode cX10_happens 32 = .ok (.invokevirtual 362, 3) := by decide +kernel
theorem dX10_happens_35 : decode cX10_happens 35 = .ok (.iload_n 1, 1) := by decide +kernel
theorem dX10_happens_36 : decode cX10_happens 36 = .ok (.if_icmp .ge 7, 3) := by decide +kernel
theorem dX10_happens_39 : decode cX10_happens 39 = .ok (.iconst 1, 1) := by decide +kernel
theorem dX10_happens_40 : decode cX10_happens 40 = .ok (.goto 4, 3) := by decide +kernel
theorem dX10_happens_43 : decode cX10_happens 43 = .ok (.iconst 0, 1) := by decide +kernel
theorem dX10_happens_44 : decode cX10_happens 44 = .ok (.ireturn, 1) := by decide +kernel
theorem dX10_does_0 : decode cX10_does 0 = .ok (.aload_n 0, 1) := by decide +kernel
theorem dX10_does_1 : decode cX10_does 1 = .ok (.getfield 68, 3) := by decide +kernel
theorem dX10_does_4 : decode cX10_does 4 = .ok (.iload_n 1, 1) := by decide +kernel
theorem dX10_does_5 : decode cX10_does 5 = .ok (.iconst 1, 1) := by decide +kernel
theorem dX10_does_6 : decode cX10_does 6 = .ok (.iadd, 1) := by decide +kernel
theorem dX10_does_7 : decode cX10_does 7 = .ok (.iaload, 1) := by decide +kernel
theorem dX10_does_8 : decode cX10_does 8 = .ok (.istore_n 2, 1) := by decide +kernel
theorem dX10_does_9 : decode cX10_does 9 = .ok (.aload_n 0, 1) := by decide +kernel
theorem dX10_does_10 : decode cX10_does 10 = .ok (.getfield 68, 3) := by decide +kernel
theorem dX10_does_13 : decode cX10_does 13 = .ok (.iload_n 1, 1) := by decide +kernel
theorem dX10_does_14 : decode cX10_does 14 = .ok (.iconst 2, 1) := by decide +kernel
theorem dX10_does_15 : decode cX10_does 15 = .ok (.iadd, 1) := by decide +kernel
theorem dX10_does_16 : decode cX10_does 16 = .ok (.iaload, 1) := by decide +kernel
theorem dX10_does_17 : decode cX10_does 17 = .ok (.istore_n 3, 1) := by decide +kernel
theorem dX10_does_18 : decode cX10_does 18 = .ok (.iload_n 2, 1) := by decide +kernel
theorem dX10_does_19 : decode cX10_does 19 = .ok (.ifCond .ne 16, 3) := by decide +kernel
theorem dX10_does_22 : decode cX10_does 22 = .ok (.aload_n 0, 1) := by decide +kernel
theorem dX10_does_23 : decode cX10_does 23 = .ok (.iload_n 3, 1) := by decide +kernel
theorem dX10_does_24 : decode cX10_does 24 = .ok (.aload_n 0, 1) := by decide +kernel
theorem dX10_does_25 : decode cX10_does 25 = .ok (.getfield 68, 3) := by decide +kernel
theorem dX10_does_28 : decode cX10_does 28 = .ok (.iload_n 1, 1) := by decide +kernel
theorem dX10_does_29 : decode cX10_does 29 = .ok (.iconst 3, 1) := by decide +kernel
theorem dX10_does_30 : decode cX10_does 30 = .ok (.iadd, 1) := by decide +kernel
theorem dX10_does_31 : decode cX10_does 31 = .ok (.iaload, 1) := by decide +kernel
theorem dX10_does_32 : decode cX10_does 32 = .ok (.invokevirtual 359, 3) := by decide +kernel
theorem dX10_does_35 : decode cX10_does 35 = .ok (.iload_n 2, 1) := by decide +kernel
theorem dX10_does_36 : decode cX10_does 36 = .ok (.iconst 1, 1) := by decide +kernel
theorem dX10_does_37 : decode cX10_does 37 = .ok (.if_icmp .eq 8, 3) := by decide +kernel
theorem dX10_does_40 : decode cX10_does 40 = .ok (.iload_n 2, 1) := by decide +kernel
theorem dX10_does_41 : decode cX10_does 41 = .ok (.iconst 2, 1) := by decide +kernel
theorem dX10_does_42 : decode cX10_does 42 = .ok (.if_icmp .ne 22, 3) := by decide +kernel
theorem dX10_does_45 : decode cX10_does 45 = .ok (.aload_n 0, 1) := by decide +kernel
theorem dX10_does_46 : decode cX10_does 46 = .ok (.getfield 7, 3) := by decide +kernel
theorem dX10_does_49 : decode cX10_does 49 = .ok (.bipush 41, 2) := by decide +kernel
theorem dX10_does_51 : decode cX10_does 51 = .ok (.iload_n 3, 1) := by decide +kernel
theorem dX10_does_52 : decode cX10_does 52 = .ok (.iadd, 1) := by decide +kernel
theorem dX10_does_53 : decode cX10_does 53 = .ok (.iload_n 2, 1) := by decide +kernel
theorem dX10_does_54 : decode cX10_does 54 = .ok (.iconst 1, 1) := by decide +kernel
theorem dX10_does_55 : decode cX10_does 55 = .ok (.if_icmp .ne 7, 3) := by decide +kernel
theorem dX10_does_58 : decode cX10_does 58 = .ok (.iconst 1, 1) := by decide +kernel
theorem dX10_does_59 : decode cX10_does 59 = .ok (.goto 4, 3) := by decide +kernel
theorem dX10_does_62 : decode cX10_does 62 = .ok (.iconst 0, 1) := by decide +kernel
theorem dX10_does_63 : decode cX10_does 63 = .ok (.iastore, 1) := by decide +kernel
theorem dX10_does_64 : decode cX10_does 64 = .ok (.iload_n 2, 1) := by decide +kernel
theorem dX10_does_65 : decode cX10_does 65 = .ok (.iconst 3, 1) := by decide +kernel
theorem dX10_does_66 : decode cX10_does 66 = .ok (.if_icmp .ne 13, 3) := by decide +kernel
theorem dX10_does_69 : decode cX10_does 69 = .ok (.aload_n 0, 1) := by decide +kernel
theorem dX10_does_70 : decode cX10_does 70 = .ok (.getfield 7, 3) := by decide +kernel
theorem dX10_does_73 : decode cX10_does 73 = .ok (.bipush 65, 2) := by decide +kernel
theorem dX10_does_75 : decode cX10_does 75 = .ok (.iload_n 3, 1) := by decide +kernel
theorem dX10_does_76 : decode cX10_does 76 = .ok (.iadd, 1) := by decide +kernel
theorem dX10_does_77 : decode cX10_does 77 = .ok (.iconst 0, 1) := by decide +kernel
theorem dX10_does_78 : decode cX10_does 78 = .ok (.iastore, 1) := by decide +kernel
theorem dX10_does_79 : decode cX10_does 79 = .ok (.return_, 1) := by decide +kernel
theorem dX10_presses_0 : decode cX10_presses 0 = .ok (.aload_n 0, 1) := by decide +kernel
theorem dX10_presses_1 : decode cX10_presses 1 = .ok (.iload_n 1, 1) := by decide +kernel
theorem dX10_presses_2 : decode cX10_presses 2 = .ok (.invokevirtual 365, 3) := by decide +kernel
theorem dX10_presses_5 : decode cX10_presses 5 = .ok (.istore_n 2, 1) := by decide +kernel
theorem dX10_presses_6 : decode cX10_presses 6 = .ok (.aload_n 0, 1) := by decide +kernel
theorem dX10_presses_7 : decode cX10_presses 7 = .ok (.getfield 7, 3) := by decide +kernel
theorem dX10_presses_10 : decode cX10_presses 10 = .ok (.iconst 5, 1) := by decide +kernel
theorem dX10_presses_11 : decode cX10_presses 11 = .ok (.iload_n 1, 1) := by decide +kernel
theorem dX10_presses_12 : decode cX10_presses 12 = .ok (.iadd, 1) := by decide +kernel
theorem dX10_presses_13 : decode cX10_presses 13 = .ok (.iaload, 1) := by decide +kernel
theorem dX10_presses_14 : decode cX10_presses 14 = .ok (.bipush 50, 2) := by decide +kernel
theorem dX10_presses_16 : decode cX10_presses 16 = .ok (.if_icmp .ge 25, 3) := by decide +kernel
theorem dX10_presses_19 : decode cX10_presses 19 = .ok (.aload_n 0, 1) := by decide +kernel
theorem dX10_presses_20 : decode cX10_presses 20 = .ok (.iconst 0, 1) := by decide +kernel
theorem dX10_presses_21 : decode cX10_presses 21 = .ok (.iload_n 2, 1) := by decide +kernel
theorem dX10_presses_22 : decode cX10_presses 22 = .ok (.bipush 50, 2) := by decide +kernel
theorem dX10_presses_24 : decode cX10_presses 24 = .ok (.aload_n 0, 1) := by decide +kernel
theorem dX10_presses_25 : decode cX10_presses 25 = .ok (.getfield 7, 3) := by decide +kernel
theorem dX10_presses_28 : decode cX10_presses 28 = .ok (.iconst 5, 1) := by decide +kernel
theorem dX10_presses_29 : decode cX10_presses 29 = .ok (.iload_n 1, 1) := by decide +kernel
theorem dX10_presses_30 : decode cX10_presses 30 = .ok (.iadd, 1) := by decide +kernel
theorem dX10_presses_31 : decode cX10_presses 31 = .ok (.iaload, 1) := by decide +kernel
theorem dX10_presses_32 : decode cX10_presses 32 = .ok (.isub, 1) := by decide +kernel
theorem dX10_presses_33 : decode cX10_presses 33 = .ok (.bipush 10, 2) := by decide +kernel
theorem dX10_presses_35 : decode cX10_presses 35 = .ok (.idiv, 1) := by decide +kernel
theorem dX10_presses_36 : decode cX10_presses 36 = .ok (.isub, 1) := by decide +kernel
theorem dX10_presses_37 : decode cX10_presses 37 = .ok (.invokevirtual 368, 3) := by decide +kernel
theorem dX10_presses_40 : decode cX10_presses 40 = .ok (.istore_n 2, 1) := by decide +kernel
theorem dX10_presses_41 : decode cX10_presses 41 = .ok (.aload_n 0, 1) := by decide +kernel
theorem dX10_presses_42 : decode cX10_presses 42 = .ok (.getfield 7, 3) := by decide +kernel
theorem dX10_presses_45 : decode cX10_presses 45 = .ok (.bipush 17, 2) := by decide +kernel
theorem dX10_presses_47 : decode cX10_presses 47 = .ok (.iload_n 1, 1) := by decide +kernel
theorem dX10_presses_48 : decode cX10_presses 48 = .ok (.iadd, 1) := by decide +kernel
theorem dX10_presses_49 : decode cX10_presses 49 = .ok (.iaload, 1) := by decide +kernel
theorem dX10_presses_50 : decode cX10_presses 50 = .ok (.bipush 99, 2) := by decide +kernel
theorem dX10_presses_52 : decode cX10_presses 52 = .ok (.if_icmp .ne 7, 3) := by decide +kernel
theorem dX10_presses_55 : decode cX10_presses 55 = .ok (.iconst 1, 1) := by decide +kernel
theorem dX10_presses_56 : decode cX10_presses 56 = .ok (.goto 4, 3) := by decide +kernel
theorem dX10_presses_59 : decode cX10_presses 59 = .ok (.iconst 0, 1) := by decide +kernel
theorem dX10_presses_60 : decode cX10_presses 60 = .ok (.istore_n 3, 1) := by decide +kernel
theorem dX10_presses_61 : decode cX10_presses 61 = .ok (.iload_n 3, 1) := by decide +kernel
theorem dX10_presses_62 : decode cX10_presses 62 = .ok (.ifCond .eq 38, 3) := by decide +kernel
theorem dX10_presses_65 : decode cX10_presses 65 = .ok (.iload_n 2, 1) := by decide +kernel
theorem dX10_presses_66 : decode cX10_presses 66 = .ok (.bipush 10, 2) := by decide +kernel
theorem dX10_presses_68 : decode cX10_presses 68 = .ok (.iadd, 1) := by decide +kernel
theorem dX10_presses_69 : decode cX10_presses 69 = .ok (.istore_n 2, 1) := by decide +kernel
theorem dX10_presses_70 : decode cX10_presses 70 = .ok (.aload_n 0, 1) := by decide +kernel
theorem dX10_presses_71 : decode cX10_presses 71 = .ok (.getfield 7, 3) := by decide +kernel
theorem dX10_presses_74 : decode cX10_presses 74 = .ok (.bipush 53, 2) := by decide +kernel
theorem dX10_presses_76 : decode cX10_presses 76 = .ok (.iload_n 1, 1) := by decide +kernel
theorem dX10_presses_77 : decode cX10_presses 77 = .ok (.iadd, 1) := by decide +kernel
theorem dX10_presses_78 : decode cX10_presses 78 = .ok (.aload_n 0, 1) := by decide +kernel
theorem dX10_presses_79 : decode cX10_presses 79 = .ok (.getfield 7, 3) := by decide +kernel
theorem dX10_presses_82 : decode cX10_presses 82 = .ok (.bipush 53, 2) := by decide +kernel
theorem dX10_presses_84 : decode cX10_presses 84 = .ok (.iload_n 1, 1) := by decide +kernel
theorem dX10_presses_85 : decode cX10_presses 85 = .ok (.iadd, 1) := by decide +kernel
theorem dX10_presses_86 : decode cX10_presses 86 = .ok (.iaload, 1) := by decide +kernel
theorem dX10_presses_87 : decode cX10_presses 87 = .ok (.iconst 1, 1) := by decide +kernel
theorem dX10_presses_88 : decode cX10_presses 88 = .ok (.iadd, 1) := by decide +kernel
theorem dX10_presses_89 : decode cX10_presses 89 = .ok (.iastore, 1) := by decide +kernel
theorem dX10_presses_90 : decode cX10_presses 90 = .ok (.aload_n 0, 1) := by decide +kernel
theorem dX10_presses_91 : decode cX10_presses 91 = .ok (.getfield 7, 3) := by decide +kernel
theorem dX10_presses_94 : decode cX10_presses 94 = .ok (.bipush 17, 2) := by decide +kernel
theorem dX10_presses_96 : decode cX10_presses 96 = .ok (.iload_n 1, 1) := by decide +kernel
theorem dX10_presses_97 : decode cX10_presses 97 = .ok (.iadd, 1) := by decide +kernel
theorem dX10_presses_98 : decode cX10_presses 98 = .ok (.iconst 0, 1) := by decide +kernel
theorem dX10_presses_99 : decode cX10_presses 99 = .ok (.iastore, 1) := by decide +kernel
theorem dX10_presses_100 : decode cX10_presses 100 = .ok (.aload_n 0, 1) := by decide +kernel
theorem dX10_presses_101 : decode cX10_presses 101 = .ok (.getfield 7, 3) := by decide +kernel
theorem dX10_presses_104 : decode cX10_presses 104 = .ok (.iconst 3, 1) := by decide +kernel
theorem dX10_presses_105 : decode cX10_presses 105 = .ok (.aload_n 0, 1) := by decide +kernel
theorem dX10_presses_106 : decode cX10_presses 106 = .ok (.aload_n 0, 1) := by decide +kernel
theorem dX10_presses_107 : decode cX10_presses 107 = .ok (.getfield 7, 3) := by decide +kernel
theorem dX10_presses_110 : decode cX10_presses 110 = .ok (.iconst 3, 1) := by decide +kernel
theorem dX10_presses_111 : decode cX10_presses 111 = .ok (.iaload, 1) := by decide +kernel
theorem dX10_presses_112 : decode cX10_presses 112 = .ok (.aload_n 0, 1) := by decide +kernel
theorem dX10_presses_113 : decode cX10_presses 113 = .ok (.getfield 19, 3) := by decide +kernel
theorem dX10_presses_116 : decode cX10_presses 116 = .ok (.iload_n 1, 1) := by decide +kernel
theorem dX10_presses_117 : decode cX10_presses 117 = .ok (.iaload, 1) := by decide +kernel
theorem dX10_presses_118 : decode cX10_presses 118 = .ok (.ifCond .ne 7, 3) := by decide +kernel
theorem dX10_presses_121 : decode cX10_presses 121 = .ok (.iload_n 2, 1) := by decide +kernel
theorem dX10_presses_122 : decode cX10_presses 122 = .ok (.goto 5, 3) := by decide +kernel
theorem dX10_presses_125 : decode cX10_presses 125 = .ok (.iload_n 2, 1) := by decide +kernel
theorem dX10_presses_126 : decode cX10_presses 126 = .ok (.ineg, 1) := by decide +kernel
theorem dX10_presses_127 : decode cX10_presses 127 = .ok (.iadd, 1) := by decide +kernel
theorem dX10_presses_128 : decode cX10_presses 128 = .ok (.bipush (-99), 2) := by decide +kernel
theorem dX10_presses_130 : decode cX10_presses 130 = .ok (.bipush 99, 2) := by decide +kernel
theorem dX10_presses_132 : decode cX10_presses 132 = .ok (.invokevirtual 327, 3) := by decide +kernel
theorem dX10_presses_135 : decode cX10_presses 135 = .ok (.iastore, 1) := by decide +kernel
theorem dX10_presses_136 : decode cX10_presses 136 = .ok (.iload_n 3, 1) := by decide +kernel
theorem dX10_presses_137 : decode cX10_presses 137 = .ok (.ifCond .eq 10, 3) := by decide +kernel
theorem dX10_presses_140 : decode cX10_presses 140 = .ok (.aload_n 0, 1) := by decide +kernel
theorem dX10_presses_141 : decode cX10_presses 141 = .ok (.iconst 3, 1) := by decide +kernel
theorem dX10_presses_142 : decode cX10_presses 142 = .ok (.iload_n 1, 1) := by decide +kernel
theorem dX10_presses_143 : decode cX10_presses 143 = .ok (.iload_n 2, 1) := by decide +kernel
theorem dX10_presses_144 : decode cX10_presses 144 = .ok (.invokevirtual 343, 3) := by decide +kernel
theorem dX10_presses_147 : decode cX10_presses 147 = .ok (.aload_n 0, 1) := by decide +kernel
theorem dX10_presses_148 : decode cX10_presses 148 = .ok (.getfield 7, 3) := by decide +kernel
theorem dX10_presses_151 : decode cX10_presses 151 = .ok (.iconst 3, 1) := by decide +kernel
theorem dX10_presses_152 : decode cX10_presses 152 = .ok (.iaload, 1) := by decide +kernel
theorem dX10_presses_153 : decode cX10_presses 153 = .ok (.bipush 99, 2) := by decide +kernel
theorem dX10_presses_155 : decode cX10_presses 155 = .ok (.if_icmp .eq 14, 3) := by decide +kernel
theorem dX10_presses_158 : decode cX10_presses 158 = .ok (.aload_n 0, 1) := by decide +kernel
theorem dX10_presses_159 : decode cX10_presses 159 = .ok (.getfield 7, 3) := by decide +kernel
theorem dX10_presses_162 : decode cX10_presses 162 = .ok (.iconst 3, 1) := by decide +kernel
theorem dX10_presses_163 : decode cX10_presses 163 = .ok (.iaload, 1) := by decide +kernel
theorem dX10_presses_164 : decode cX10_presses 164 = .ok (.bipush (-99), 2) := by decide +kernel
theorem dX10_presses_166 : decode cX10_presses 166 = .ok (.if_icmp .ne 39, 3) := by decide +kernel
theorem dX10_presses_169 : decode cX10_presses 169 = .ok (.aload_n 0, 1) := by decide +kernel
theorem dX10_presses_170 : decode cX10_presses 170 = .ok (.getfield 7, 3) := by decide +kernel
theorem dX10_presses_173 : decode cX10_presses 173 = .ok (.iconst 4, 1) := by decide +kernel
theorem dX10_presses_174 : decode cX10_presses 174 = .ok (.aload_n 0, 1) := by decide +kernel
theorem dX10_presses_175 : decode cX10_presses 175 = .ok (.getfield 7, 3) := by decide +kernel
theorem dX10_presses_178 : decode cX10_presses 178 = .ok (.iconst 3, 1) := by decide +kernel
theorem dX10_presses_179 : decode cX10_presses 179 = .ok (.iaload, 1) := by decide +kernel
theorem dX10_presses_180 : decode cX10_presses 180 = .ok (.bipush 99, 2) := by decide +kernel
theorem dX10_presses_182 : decode cX10_presses 182 = .ok (.if_icmp .ne 7, 3) := by decide +kernel
theorem dX10_presses_185 : decode cX10_presses 185 = .ok (.iconst 1, 1) := by decide +kernel
theorem dX10_presses_186 : decode cX10_presses 186 = .ok (.goto 4, 3) := by decide +kernel
theorem dX10_presses_189 : decode cX10_presses 189 = .ok (.iconst 2, 1) := by decide +kernel
theorem dX10_presses_190 : decode cX10_presses 190 = .ok (.iastore, 1) := by decide +kernel
theorem dX10_presses_191 : decode cX10_presses 191 = .ok (.aload_n 0, 1) := by decide +kernel
theorem dX10_presses_192 : decode cX10_presses 192 = .ok (.iconst 5, 1) := by decide +kernel
theorem dX10_presses_193 : decode cX10_presses 193 = .ok (.iload_n 1, 1) := by decide +kernel
theorem dX10_presses_194 : decode cX10_presses 194 = .ok (.aload_n 0, 1) := by decide +kernel
theorem dX10_presses_195 : decode cX10_presses 195 = .ok (.getfield 7, 3) := by decide +kernel
theorem dX10_presses_198 : decode cX10_presses 198 = .ok (.iconst 4, 1) := by decide +kernel
theorem dX10_presses_199 : decode cX10_presses 199 = .ok (.iaload, 1) := by decide +kernel
theorem dX10_presses_200 : decode cX10_presses 200 = .ok (.iconst 1, 1) := by decide +kernel
theorem dX10_presses_201 : decode cX10_presses 201 = .ok (.isub, 1) := by decide +kernel
theorem dX10_presses_202 : decode cX10_presses 202 = .ok (.invokevirtual 343, 3) := by decide +kernel
theorem dX10_presses_205 : decode cX10_presses 205 = .ok (.iload_n 3, 1) := by decide +kernel
theorem dX10_presses_206 : decode cX10_presses 206 = .ok (.ireturn, 1) := by decide +kernel
theorem dX10_sleeps_0 : decode cX10_sleeps 0 = .ok (.aload_n 0, 1) := by decide +kernel
theorem dX10_sleeps_1 : decode cX10_sleeps 1 = .ok (.getfield 71, 3) := by decide +kernel
theorem dX10_sleeps_4 : decode cX10_sleeps 4 = .ok (.iload_n 1, 1) := by decide +kernel
theorem dX10_sleeps_5 : decode cX10_sleeps 5 = .ok (.iaload, 1) := by decide +kernel
theorem dX10_sleeps_6 : decode cX10_sleeps 6 = .ok (.iconst 1, 1) := by decide +kernel
theorem dX10_sleeps_7 : decode cX10_sleeps 7 = .ok (.isub, 1) := by decide +kernel
theorem dX10_sleeps_8 : decode cX10_sleeps 8 = .ok (.istore_n 2, 1) := by decide +kernel
theorem dX10_sleeps_9 : decode cX10_sleeps 9 = .ok (.aload_n 0, 1) := by decide +kernel
theorem dX10_sleeps_10 : decode cX10_sleeps 10 = .ok (.getfield 7, 3) := by decide +kernel
theorem dX10_sleeps_13 : decode cX10_sleeps 13 = .ok (.iconst 5, 1) := by decide +kernel
theorem dX10_sleeps_14 : decode cX10_sleeps 14 = .ok (.iload_n 1, 1) := by decide +kernel
theorem dX10_sleeps_15 : decode cX10_sleeps 15 = .ok (.iadd, 1) := by decide +kernel
theorem dX10_sleeps_16 : decode cX10_sleeps 16 = .ok (.aload_n 0, 1) := by decide +kernel
theorem dX10_sleeps_17 : decode cX10_sleeps 17 = .ok (.iconst 0, 1) := by decide +kernel
theorem dX10_sleeps_18 : decode cX10_sleeps 18 = .ok (.aload_n 0, 1) := by decide +kernel
theorem dX10_sleeps_19 : decode cX10_sleeps 19 = .ok (.getfield 7, 3) := by decide +kernel
theorem dX10_sleeps_22 : decode cX10_sleeps 22 = .ok (.iconst 5, 1) := by decide +kernel
theorem dX10_sleeps_23 : decode cX10_sleeps 23 = .ok (.iload_n 1, 1) := by decide +kernel
theorem dX10_sleeps_24 : decode cX10_sleeps 24 = .ok (.iadd, 1) := by decide +kernel
theorem dX10_sleeps_25 : decode cX10_sleeps 25 = .ok (.iaload, 1) := by decide +kernel
theorem dX10_sleeps_26 : decode cX10_sleeps 26 = .ok (.bipush 10, 2) := by decide +kernel
theorem dX10_sleeps_28 : decode cX10_sleeps 28 = .ok (.isub, 1) := by decide +kernel
theorem dX10_sleeps_29 : decode cX10_sleeps 29 = .ok (.invokevirtual 368, 3) := by decide +kernel
theorem dX10_sleeps_32 : decode cX10_sleeps 32 = .ok (.iastore, 1) := by decide +kernel
theorem dX10_sleeps_33 : decode cX10_sleeps 33 = .ok (.iload_n 2, 1) := by decide +kernel
theorem dX10_sleeps_34 : decode cX10_sleeps 34 = .ok (.iconst (-1), 1) := by decide +kernel
theorem dX10_sleeps_35 : decode cX10_sleeps 35 = .ok (.if_icmp .ne 4, 3) := by decide +kernel
theorem dX10_sleeps_38 : decode cX10_sleeps 38 = .ok (.return_, 1) := by decide +kernel
theorem dX10_sleeps_39 : decode cX10_sleeps 39 = .ok (.aload_n 0, 1) := by decide +kernel
theorem dX10_sleeps_40 : decode cX10_sleeps 40 = .ok (.getfield 7, 3) := by decide +kernel
theorem dX10_sleeps_43 : decode cX10_sleeps 43 = .ok (.iconst 5, 1) := by decide +kernel
theorem dX10_sleeps_44 : decode cX10_sleeps 44 = .ok (.iload_n 1, 1) := by decide +kernel
theorem dX10_sleeps_45 : decode cX10_sleeps 45 = .ok (.iadd, 1) := by decide +kernel
theorem dX10_sleeps_46 : decode cX10_sleeps 46 = .ok (.aload_n 0, 1) := by decide +kernel
theorem dX10_sleeps_47 : decode cX10_sleeps 47 = .ok (.bipush 99, 2) := by decide +kernel
theorem dX10_sleeps_49 : decode cX10_sleeps 49 = .ok (.aload_n 0, 1) := by decide +kernel
theorem dX10_sleeps_50 : decode cX10_sleeps 50 = .ok (.getfield 7, 3) := by decide +kernel
theorem dX10_sleeps_53 : decode cX10_sleeps 53 = .ok (.iconst 5, 1) := by decide +kernel
theorem dX10_sleeps_54 : decode cX10_sleeps 54 = .ok (.iload_n 1, 1) := by decide +kernel
theorem dX10_sleeps_55 : decode cX10_sleeps 55 = .ok (.iadd, 1) := by decide +kernel
theorem dX10_sleeps_56 : decode cX10_sleeps 56 = .ok (.iaload, 1) := by decide +kernel
theorem dX10_sleeps_57 : decode cX10_sleeps 57 = .ok (.aload_n 0, 1) := by decide +kernel
theorem dX10_sleeps_58 : decode cX10_sleeps 58 = .ok (.iload_n 1, 1) := by decide +kernel
theorem dX10_sleeps_59 : decode cX10_sleeps 59 = .ok (.invokevirtual 371, 3) := by decide +kernel
theorem dX10_sleeps_62 : decode cX10_sleeps 62 = .ok (.iadd, 1) := by decide +kernel
theorem dX10_sleeps_63 : decode cX10_sleeps 63 = .ok (.invokevirtual 350, 3) := by decide +kernel
theorem dX10_sleeps_66 : decode cX10_sleeps 66 = .ok (.iastore, 1) := by decide +kernel
theorem dX10_sleeps_67 : decode cX10_sleeps 67 = .ok (.aload_n 0, 1) := by decide +kernel
theorem dX10_sleeps_68 : decode cX10_sleeps 68 = .ok (.getfield 7, 3) := by decide +kernel
theorem dX10_sleeps_71 : decode cX10_sleeps 71 = .ok (.bipush 65, 2) := by decide +kernel
theorem dX10_sleeps_73 : decode cX10_sleeps 73 = .ok (.iload_n 2, 1) := by decide +kernel
theorem dX10_sleeps_74 : decode cX10_sleeps 74 = .ok (.iadd, 1) := by decide +kernel
theorem dX10_sleeps_75 : decode cX10_sleeps 75 = .ok (.aload_n 0, 1) := by decide +kernel
theorem dX10_sleeps_76 : decode cX10_sleeps 76 = .ok (.bipush 99, 2) := by decide +kernel
theorem dX10_sleeps_78 : decode cX10_sleeps 78 = .ok (.aload_n 0, 1) := by decide +kernel
theorem dX10_sleeps_79 : decode cX10_sleeps 79 = .ok (.getfield 7, 3) := by decide +kernel
theorem dX10_sleeps_82 : decode cX10_sleeps 82 = .ok (.bipush 65, 2) := by decide +kernel
theorem dX10_sleeps_84 : decode cX10_sleeps 84 = .ok (.iload_n 2, 1) := by decide +kernel
theorem dX10_sleeps_85 : decode cX10_sleeps 85 = .ok (.iadd, 1) := by decide +kernel
theorem dX10_sleeps_86 : decode cX10_sleeps 86 = .ok (.iaload, 1) := by decide +kernel
theorem dX10_sleeps_87 : decode cX10_sleeps 87 = .ok (.iconst 1, 1) := by decide +kernel
theorem dX10_sleeps_88 : decode cX10_sleeps 88 = .ok (.iadd, 1) := by decide +kernel
theorem dX10_sleeps_89 : decode cX10_sleeps 89 = .ok (.invokevirtual 350, 3) := by decide +kernel
theorem dX10_sleeps_92 : decode cX10_sleeps 92 = .ok (.iastore, 1) := by decide +kernel
theorem dX10_sleeps_93 : decode cX10_sleeps 93 = .ok (.aload_n 0, 1) := by decide +kernel
theorem dX10_sleeps_94 : decode cX10_sleeps 94 = .ok (.aload_n 0, 1) := by decide +kernel
theorem dX10_sleeps_95 : decode cX10_sleeps 95 = .ok (.iload_n 1, 1) := by decide +kernel
theorem dX10_sleeps_96 : decode cX10_sleeps 96 = .ok (.invokevirtual 374, 3) := by decide +kernel
theorem dX10_sleeps_99 : decode cX10_sleeps 99 = .ok (.invokevirtual 377, 3) := by decide +kernel
theorem dX10_sleeps_102 : decode cX10_sleeps 102 = .ok (.ifCond .ne 4, 3) := by decide +kernel
theorem dX10_sleeps_105 : decode cX10_sleeps 105 = .ok (.return_, 1) := by decide +kernel
theorem dX10_sleeps_106 : decode cX10_sleeps 106 = .ok (.aload_n 0, 1) := by decide +kernel
theorem dX10_sleeps_107 : decode cX10_sleeps 107 = .ok (.getfield 7, 3) := by decide +kernel
theorem dX10_sleeps_110 : decode cX10_sleeps 110 = .ok (.bipush 29, 2) := by decide +kernel
theorem dX10_sleeps_112 : decode cX10_sleeps 112 = .ok (.iload_n 1, 1) := by decide +kernel
theorem dX10_sleeps_113 : decode cX10_sleeps 113 = .ok (.iadd, 1) := by decide +kernel
theorem dX10_sleeps_114 : decode cX10_sleeps 114 = .ok (.iaload, 1) := by decide +kernel
theorem dX10_sleeps_115 : decode cX10_sleeps 115 = .ok (.ifCond .ne 17, 3) := by decide +kernel
theorem dX10_sleeps_118 : decode cX10_sleeps 118 = .ok (.aload_n 0, 1) := by decide +kernel
theorem dX10_sleeps_119 : decode cX10_sleeps 119 = .ok (.iconst 4, 1) := by decide +kernel
theorem dX10_sleeps_120 : decode cX10_sleeps 120 = .ok (.iload_n 1, 1) := by decide +kernel
theorem dX10_sleeps_121 : decode cX10_sleeps 121 = .ok (.aload_n 0, 1) := by decide +kernel
theorem dX10_sleeps_122 : decode cX10_sleeps 122 = .ok (.getfield 7, 3) := by decide +kernel
theorem dX10_sleeps_125 : decode cX10_sleeps 125 = .ok (.iconst 5, 1) := by decide +kernel
theorem dX10_sleeps_126 : decode cX10_sleeps 126 = .ok (.iload_n 1, 1) := by decide +kernel
theorem dX10_sleeps_127 : decode cX10_sleeps 127 = .ok (.iadd, 1) := by decide +kernel
theorem dX10_sleeps_128 : decode cX10_sleeps 128 = .ok (.iaload, 1) := by decide +kernel
theorem dX10_sleeps_129 : decode cX10_sleeps 129 = .ok (.invokevirtual 343, 3) := by decide +kernel
theorem dX10_sleeps_132 : decode cX10_sleeps 132 = .ok (.aload_n 0, 1) := by decide +kernel
theorem dX10_sleeps_133 : decode cX10_sleeps 133 = .ok (.getfield 7, 3) := by decide +kernel
theorem dX10_sleeps_136 : decode cX10_sleeps 136 = .ok (.bipush 29, 2) := by decide +kernel
theorem dX10_sleeps_138 : decode cX10_sleeps 138 = .ok (.iload_n 1, 1) := by decide +kernel
theorem dX10_sleeps_139 : decode cX10_sleeps 139 = .ok (.iadd, 1) := by decide +kernel
theorem dX10_sleeps_140 : decode cX10_sleeps 140 = .ok (.iconst 1, 1) := by decide +kernel
theorem dX10_sleeps_141 : decode cX10_sleeps 141 = .ok (.iastore, 1) := by decide +kernel
theorem dX10_sleeps_142 : decode cX10_sleeps 142 = .ok (.return_, 1) := by decide +kernel
theorem dX10_goesBy_0 : decode cX10_goesBy 0 = .ok (.iconst 0, 1) := by decide +kernel
theorem dX10_goesBy_1 : decode cX10_goesBy 1 = .ok (.istore_n 1, 1) := by decide +kernel
theorem dX10_goesBy_2 : decode cX10_goesBy 2 = .ok (.aload_n 0, 1) := by decide +kernel
theorem dX10_goesBy_3 : decode cX10_goesBy 3 = .ok (.invokevirtual 153, 3) := by decide +kernel
theorem dX10_goesBy_6 : decode cX10_goesBy 6 = .ok (.ifCond .ne 136, 3) := by decide +kernel
theorem dX10_goesBy_9 : decode cX10_goesBy 9 = .ok (.iconst 0, 1) := by decide +kernel
theorem dX10_goesBy_10 : decode cX10_goesBy 10 = .ok (.istore_n 2, 1) := by decide +kernel
theorem dX10_goesBy_11 : decode cX10_goesBy 11 = .ok (.iconst 0, 1) := by decide +kernel
theorem dX10_goesBy_12 : decode cX10_goesBy 12 = .ok (.istore_n 3, 1) := by decide +kernel
theorem dX10_goesBy_13 : decode cX10_goesBy 13 = .ok (.iload_n 3, 1) := by decide +kernel
theorem dX10_goesBy_14 : decode cX10_goesBy 14 = .ok (.iconst 4, 1) := by decide +kernel
theorem dX10_goesBy_15 : decode cX10_goesBy 15 = .ok (.aload_n 0, 1) := by decide +kernel
theorem dX10_goesBy_16 : decode cX10_goesBy 16 = .ok (.getfield 297, 3) := by decide +kernel
theorem dX10_goesBy_19 : decode cX10_goesBy 19 = .ok (.imul, 1) := by decide +kernel
theorem dX10_goesBy_20 : decode cX10_goesBy 20 = .ok (.if_icmp .ge 55, 3) := by decide +kernel
theorem dX10_goesBy_23 : decode cX10_goesBy 23 = .ok (.aload_n 0, 1) := by decide +kernel
theorem dX10_goesBy_24 : decode cX10_goesBy 24 = .ok (.getfield 68, 3) := by decide +kernel
theorem dX10_goesBy_27 : decode cX10_goesBy 27 = .ok (.iload_n 3, 1) := by decide +kernel
theorem dX10_goesBy_28 : decode cX10_goesBy 28 = .ok (.iaload, 1) := by decide +kernel
theorem dX10_goesBy_29 : decode cX10_goesBy 29 = .ok (.aload_n 0, 1) := by decide +kernel
theorem dX10_goesBy_30 : decode cX10_goesBy 30 = .ok (.getfield 7, 3) := by decide +kernel
theorem dX10_goesBy_33 : decode cX10_goesBy 33 = .ok (.iconst 0, 1) := by decide +kernel
theorem dX10_goesBy_34 : decode cX10_goesBy 34 = .ok (.iaload, 1) := by decide +kernel
theorem dX10_goesBy_35 : decode cX10_goesBy 35 = .ok (.if_icmp .eq 6, 3) := by decide +kernel
theorem dX10_goesBy_38 : decode cX10_goesBy 38 = .ok (.goto 30, 3) := by decide +kernel
theorem dX10_goesBy_41 : decode cX10_goesBy 41 = .ok (.aload_n 0, 1) := by decide +kernel
theorem dX10_goesBy_42 : decode cX10_goesBy 42 = .ok (.iload_n 3, 1) := by decide +kernel
theorem dX10_goesBy_43 : decode cX10_goesBy 43 = .ok (.invokevirtual 380, 3) := by decide +kernel
theorem dX10_goesBy_46 : decode cX10_goesBy 46 = .ok (.iload_n 2, 1) := by decide +kernel
theorem dX10_goesBy_47 : decode cX10_goesBy 47 = .ok (.ifCond .ne 15, 3) := by decide +kernel
theorem dX10_goesBy_50 : decode cX10_goesBy 50 = .ok (.aload_n 0, 1) := by decide +kernel
theorem dX10_goesBy_51 : decode cX10_goesBy 51 = .ok (.getfield 68, 3) := by decide +kernel
theorem dX10_goesBy_54 : decode cX10_goesBy 54 = .ok (.iload_n 3, 1) := by decide +kernel
theorem dX10_goesBy_55 : decode cX10_goesBy 55 = .ok (.iconst 1, 1) := by decide +kernel
theorem dX10_goesBy_56 : decode cX10_goesBy 56 = .ok (.iadd, 1) := by decide +kernel
theorem dX10_goesBy_57 : decode cX10_goesBy 57 = .ok (.iaload, 1) := by decide +kernel
theorem dX10_goesBy_58 : decode cX10_goesBy 58 = .ok (.iconst 4, 1) := by decide +kernel
theorem dX10_goesBy_59 : decode cX10_goesBy 59 = .ok (.if_icmp .ne 7, 3) := by decide +kernel
theorem dX10_goesBy_62 : decode cX10_goesBy 62 = .ok (.iconst 1, 1) := by decide +kernel
theorem dX10_goesBy_63 : decode cX10_goesBy 63 = .ok (.goto 4, 3) := by decide +kernel
theorem dX10_goesBy_66 : decode cX10_goesBy 66 = .ok (.iconst 0, 1) := by decide +kernel
theorem dX10_goesBy_67 : decode cX10_goesBy 67 = .ok (.istore_n 2, 1) := by decide +kernel
theorem dX10_goesBy_68 : decode cX10_goesBy 68 = .ok (.iload_n 3, 1) := by decide +kernel
theorem dX10_goesBy_69 : decode cX10_goesBy 69 = .ok (.iconst 4, 1) := by decide +kernel
theorem dX10_goesBy_70 : decode cX10_goesBy 70 = .ok (.iadd, 1) := by decide +kernel
theorem dX10_goesBy_71 : decode cX10_goesBy 71 = .ok (.istore_n 3, 1) := by decide +kernel
theorem dX10_goesBy_72 : decode cX10_goesBy 72 = .ok (.goto (-59), 3) := by decide +kernel
theorem dX10_goesBy_75 : decode cX10_goesBy 75 = .ok (.iconst 0, 1) := by decide +kernel
theorem dX10_goesBy_76 : decode cX10_goesBy 76 = .ok (.istore_n 3, 1) := by decide +kernel
theorem dX10_goesBy_77 : decode cX10_goesBy 77 = .ok (.iload_n 3, 1) := by decide +kernel
theorem dX10_goesBy_78 : decode cX10_goesBy 78 = .ok (.aload_n 0, 1) := by decide +kernel
theorem dX10_goesBy_79 : decode cX10_goesBy 79 = .ok (.getfield 143, 3) := by decide +kernel
theorem dX10_goesBy_82 : decode cX10_goesBy 82 = .ok (.if_icmp .ge 32, 3) := by decide +kernel
theorem dX10_goesBy_85 : decode cX10_goesBy 85 = .ok (.iload_n 2, 1) := by decide +kernel
theorem dX10_goesBy_86 : decode cX10_goesBy 86 = .ok (.ifCond .ne 28, 3) := by decide +kernel
theorem dX10_goesBy_89 : decode cX10_goesBy 89 = .ok (.aload_n 0, 1) := by decide +kernel
theorem dX10_goesBy_90 : decode cX10_goesBy 90 = .ok (.invokevirtual 153, 3) := by decide +kernel
theorem dX10_goesBy_93 : decode cX10_goesBy 93 = .ok (.ifCond .ne 21, 3) := by decide +kernel
theorem dX10_goesBy_96 : decode cX10_goesBy 96 = .ok (.aload_n 0, 1) := by decide +kernel
theorem dX10_goesBy_97 : decode cX10_goesBy 97 = .ok (.iload_n 3, 1) := by decide +kernel
theorem dX10_goesBy_98 : decode cX10_goesBy 98 = .ok (.invokevirtual 383, 3) := by decide +kernel
theorem dX10_goesBy_101 : decode cX10_goesBy 101 = .ok (.ifCond .eq 7, 3) := by decide +kernel
theorem dX10_goesBy_104 : decode cX10_goesBy 104 = .ok (.iload_n 1, 1) := by decide +kernel
theorem dX10_goesBy_105 : decode cX10_goesBy 105 = .ok (.iconst 1, 1) := by decide +kernel
theorem dX10_goesBy_106 : decode cX10_goesBy 106 = .ok (.iadd, 1) := by decide +kernel
theorem dX10_goesBy_107 : decode cX10_goesBy 107 = .ok (.istore_n 1, 1) := by decide +kernel
theorem dX10_goesBy_108 : decode cX10_goesBy 108 = .ok (.iinc 3 1, 3) := by decide +kernel
theorem dX10_goesBy_111 : decode cX10_goesBy 111 = .ok (.goto (-34), 3) := by decide +kernel
theorem dX10_goesBy_114 : decode cX10_goesBy 114 = .ok (.iconst 0, 1) := by decide +kernel
theorem dX10_goesBy_115 : decode cX10_goesBy 115 = .ok (.istore_n 3, 1) := by decide +kernel
theorem dX10_goesBy_116 : decode cX10_goesBy 116 = .ok (.iload_n 3, 1) := by decide +kernel
theorem dX10_goesBy_117 : decode cX10_goesBy 117 = .ok (.aload_n 0, 1) := by decide +kernel
theorem dX10_goesBy_118 : decode cX10_goesBy 118 = .ok (.getfield 143, 3) := by decide +kernel
theorem dX10_goesBy_121 : decode cX10_goesBy 121 = .ok (.if_icmp .ge 21, 3) := by decide +kernel
theorem dX10_goesBy_124 : decode cX10_goesBy 124 = .ok (.aload_n 0, 1) := by decide +kernel
theorem dX10_goesBy_125 : decode cX10_goesBy 125 = .ok (.invokevirtual 153, 3) := by decide +kernel
theorem dX10_goesBy_128 : decode cX10_goesBy 128 = .ok (.ifCond .ne 14, 3) := by decide +kernel
theorem dX10_goesBy_131 : decode cX10_goesBy 131 = .ok (.aload_n 0, 1) := by decide +kernel
theorem dX10_goesBy_132 : decode cX10_goesBy 132 = .ok (.iload_n 3, 1) := by decide +kernel
theorem dX10_goesBy_133 : decode cX10_goesBy 133 = .ok (.invokevirtual 386, 3) := by decide +kernel
theorem dX10_goesBy_136 : decode cX10_goesBy 136 = .ok (.iinc 3 1, 3) := by decide +kernel
theorem dX10_goesBy_139 : decode cX10_goesBy 139 = .ok (.goto (-23), 3) := by decide +kernel
theorem dX10_goesBy_142 : decode cX10_goesBy 142 = .ok (.aload_n 0, 1) := by decide +kernel
theorem dX10_goesBy_143 : decode cX10_goesBy 143 = .ok (.getfield 7, 3) := by decide +kernel
theorem dX10_goesBy_146 : decode cX10_goesBy 146 = .ok (.iconst 0, 1) := by decide +kernel
theorem dX10_goesBy_147 : decode cX10_goesBy 147 = .ok (.aload_n 0, 1) := by decide +kernel
theorem dX10_goesBy_148 : decode cX10_goesBy 148 = .ok (.getfield 7, 3) := by decide +kernel
theorem dX10_goesBy_151 : decode cX10_goesBy 151 = .ok (.iconst 0, 1) := by decide +kernel
theorem dX10_goesBy_152 : decode cX10_goesBy 152 = .ok (.iaload, 1) := by decide +kernel
theorem dX10_goesBy_153 : decode cX10_goesBy 153 = .ok (.iconst 1, 1) := by decide +kernel
theorem dX10_goesBy_154 : decode cX10_goesBy 154 = .ok (.iadd, 1) := by decide +kernel
theorem dX10_goesBy_155 : decode cX10_goesBy 155 = .ok (.iastore, 1) := by decide +kernel
theorem dX10_goesBy_156 : decode cX10_goesBy 156 = .ok (.iload_n 1, 1) := by decide +kernel
theorem dX10_goesBy_157 : decode cX10_goesBy 157 = .ok (.ireturn, 1) := by decide +kernel
theorem dX10_days_0 : decode cX10_days 0 = .ok (.aload_n 0, 1) := by decide +kernel
theorem dX10_days_1 : decode cX10_days 1 = .ok (.iconst 0, 1) := by decide +kernel
theorem dX10_days_2 : decode cX10_days 2 = .ok (.putfield 131, 3) := by decide +kernel
theorem dX10_days_5 : decode cX10_days 5 = .ok (.aload_n 0, 1) := by decide +kernel
theorem dX10_days_6 : decode cX10_days 6 = .ok (.iload_n 1, 1) := by decide +kernel
theorem dX10_days_7 : decode cX10_days 7 = .ok (.iconst 1, 1) := by decide +kernel
theorem dX10_days_8 : decode cX10_days 8 = .ok (.bipush 60, 2) := by decide +kernel
theorem dX10_days_10 : decode cX10_days 10 = .ok (.invokevirtual 149, 3) := by decide +kernel
theorem dX10_days_13 : decode cX10_days 13 = .ok (.ifCond .eq 17, 3) := by decide +kernel
theorem dX10_days_16 : decode cX10_days 16 = .ok (.aload_n 0, 1) := by decide +kernel
theorem dX10_days_17 : decode cX10_days 17 = .ok (.getfield 7, 3) := by decide +kernel
theorem dX10_days_20 : decode cX10_days 20 = .ok (.iconst 0, 1) := by decide +kernel
theorem dX10_days_21 : decode cX10_days 21 = .ok (.iaload, 1) := by decide +kernel
theorem dX10_days_22 : decode cX10_days 22 = .ok (.iload_n 1, 1) := by decide +kernel
theorem dX10_days_23 : decode cX10_days 23 = .ok (.iadd, 1) := by decide +kernel
theorem dX10_days_24 : decode cX10_days 24 = .ok (.sipush 9999, 3) := by decide +kernel
theorem dX10_days_27 : decode cX10_days 27 = .ok (.if_icmp .le 5, 3) := by decide +kernel
theorem dX10_days_30 : decode cX10_days 30 = .ok (.iconst (-1), 1) := by decide +kernel
theorem dX10_days_31 : decode cX10_days 31 = .ok (.ireturn, 1) := by decide +kernel
theorem dX10_days_32 : decode cX10_days 32 = .ok (.iconst 0, 1) := by decide +kernel
theorem dX10_days_33 : decode cX10_days 33 = .ok (.istore_n 2, 1) := by decide +kernel
theorem dX10_days_34 : decode cX10_days 34 = .ok (.iconst 0, 1) := by decide +kernel
theorem dX10_days_35 : decode cX10_days 35 = .ok (.istore_n 3, 1) := by decide +kernel
theorem dX10_days_36 : decode cX10_days 36 = .ok (.iload_n 3, 1) := by decide +kernel
theorem dX10_days_37 : decode cX10_days 37 = .ok (.iload_n 1, 1) := by decide +kernel
theorem dX10_days_38 : decode cX10_days 38 = .ok (.if_icmp .ge 20, 3) := by decide +kernel
theorem dX10_days_41 : decode cX10_days 41 = .ok (.aload_n 0, 1) := by decide +kernel
theorem dX10_days_42 : decode cX10_days 42 = .ok (.invokevirtual 356, 3) := by decide +kernel
theorem dX10_days_45 : decode cX10_days 45 = .ok (.iload_n 2, 1) := by decide +kernel
theorem dX10_days_46 : decode cX10_days 46 = .ok (.aload_n 0, 1) := by decide +kernel
theorem dX10_days_47 : decode cX10_days 47 = .ok (.invokevirtual 389, 3) := by decide +kernel
theorem dX10_days_50 : decode cX10_days 50 = .ok (.iadd, 1) := by decide +kernel
theorem dX10_days_51 : decode cX10_days 51 = .ok (.istore_n 2, 1) := by decide +kernel
theorem dX10_days_52 : decode cX10_days 52 = .ok (.iinc 3 1, 3) := by decide +kernel
theorem dX10_days_55 : decode cX10_days 55 = .ok (.goto (-19), 3) := by decide +kernel
theorem dX10_days_58 : decode cX10_days 58 = .ok (.iload_n 2, 1) := by decide +kernel
theorem dX10_days_59 : decode cX10_days 59 = .ok (.ireturn, 1) := by decide +kernel
theorem dX10_canComeOn_0 : decode cX10_canComeOn 0 = .ok (.aload_n 0, 1) := by decide +kernel
theorem dX10_canComeOn_1 : decode cX10_canComeOn 1 = .ok (.iload_n 1, 1) := by decide +kernel
theorem dX10_canComeOn_2 : decode cX10_canComeOn 2 = .ok (.invokevirtual 340, 3) := by decide +kernel
theorem dX10_canComeOn_5 : decode cX10_canComeOn 5 = .ok (.ifCond .ne 15, 3) := by decide +kernel
theorem dX10_canComeOn_8 : decode cX10_canComeOn 8 = .ok (.aload_n 0, 1) := by decide +kernel
theorem dX10_canComeOn_9 : decode cX10_canComeOn 9 = .ok (.iload_n 1, 1) := by decide +kernel
theorem dX10_canComeOn_10 : decode cX10_canComeOn 10 = .ok (.invokevirtual 347, 3) := by decide +kernel
theorem dX10_canComeOn_13 : decode cX10_canComeOn 13 = .ok (.ifCond .eq 7, 3) := by decide +kernel
theorem dX10_canComeOn_16 : decode cX10_canComeOn 16 = .ok (.iconst 1, 1) := by decide +kernel
theorem dX10_canComeOn_17 : decode cX10_canComeOn 17 = .ok (.goto 4, 3) := by decide +kernel
theorem dX10_canComeOn_20 : decode cX10_canComeOn 20 = .ok (.iconst 0, 1) := by decide +kernel
theorem dX10_canComeOn_21 : decode cX10_canComeOn 21 = .ok (.ireturn, 1) := by decide +kernel
theorem dX10_of_0 : decode cX10_of 0 = .ok (.aload_n 0, 1) := by decide +kernel
theorem dX10_of_1 : decode cX10_of 1 = .ok (.iconst 0, 1) := by decide +kernel
theorem dX10_of_2 : decode cX10_of 2 = .ok (.putfield 131, 3) := by decide +kernel
theorem dX10_of_5 : decode cX10_of 5 = .ok (.aload_n 0, 1) := by decide +kernel
theorem dX10_of_6 : decode cX10_of 6 = .ok (.iload_n 1, 1) := by decide +kernel
theorem dX10_of_7 : decode cX10_of 7 = .ok (.invokevirtual 157, 3) := by decide +kernel
theorem dX10_of_10 : decode cX10_of 10 = .ok (.ifCond .ne 6, 3) := by decide +kernel
theorem dX10_of_13 : decode cX10_of 13 = .ok (.bipush (-2), 2) := by decide +kernel
theorem dX10_of_15 : decode cX10_of 15 = .ok (.ireturn, 1) := by decide +kernel
theorem dX10_of_16 : decode cX10_of 16 = .ok (.iload_n 2, 1) := by decide +kernel
theorem dX10_of_17 : decode cX10_of 17 = .ok (.ifCond .ne 10, 3) := by decide +kernel
theorem dX10_of_20 : decode cX10_of 20 = .ok (.aload_n 0, 1) := by decide +kernel
theorem dX10_of_21 : decode cX10_of 21 = .ok (.getfield 19, 3) := by decide +kernel
theorem dX10_of_24 : decode cX10_of 24 = .ok (.iload_n 1, 1) := by decide +kernel
theorem dX10_of_25 : decode cX10_of 25 = .ok (.iaload, 1) := by decide +kernel
theorem dX10_of_26 : decode cX10_of 26 = .ok (.ireturn, 1) := by decide +kernel
theorem dX10_of_27 : decode cX10_of 27 = .ok (.iload_n 2, 1) := by decide +kernel
theorem dX10_of_28 : decode cX10_of 28 = .ok (.iconst 1, 1) := by decide +kernel
theorem dX10_of_29 : decode cX10_of 29 = .ok (.if_icmp .ne 10, 3) := by decide +kernel
theorem dX10_of_32 : decode cX10_of 32 = .ok (.aload_n 0, 1) := by decide +kernel
theorem dX10_of_33 : decode cX10_of 33 = .ok (.getfield 22, 3) := by decide +kernel
theorem dX10_of_36 : decode cX10_of 36 = .ok (.iload_n 1, 1) := by decide +kernel
theorem dX10_of_37 : decode cX10_of 37 = .ok (.iaload, 1) := by decide +kernel
theorem dX10_of_38 : decode cX10_of 38 = .ok (.ireturn, 1) := by decide +kernel
theorem dX10_of_39 : decode cX10_of 39 = .ok (.aload_n 0, 1) := by decide +kernel
theorem dX10_of_40 : decode cX10_of 40 = .ok (.iload_n 2, 1) := by decide +kernel
theorem dX10_of_41 : decode cX10_of 41 = .ok (.iconst 2, 1) := by decide +kernel
theorem dX10_of_42 : decode cX10_of 42 = .ok (.bipush 6, 2) := by decide +kernel
theorem dX10_of_44 : decode cX10_of 44 = .ok (.invokevirtual 149, 3) := by decide +kernel
theorem dX10_of_47 : decode cX10_of 47 = .ok (.ifCond .eq 19, 3) := by decide +kernel
theorem dX10_of_50 : decode cX10_of 50 = .ok (.aload_n 0, 1) := by decide +kernel
theorem dX10_of_51 : decode cX10_of 51 = .ok (.getfield 7, 3) := by decide +kernel
theorem dX10_of_54 : decode cX10_of 54 = .ok (.iconst 5, 1) := by decide +kernel
theorem dX10_of_55 : decode cX10_of 55 = .ok (.bipush 12, 2) := by decide +kernel
theorem dX10_of_57 : decode cX10_of 57 = .ok (.iload_n 2, 1) := by decide +kernel
theorem dX10_of_58 : decode cX10_of 58 = .ok (.iconst 2, 1) := by decide +kernel
theorem dX10_of_59 : decode cX10_of 59 = .ok (.isub, 1) := by decide +kernel
theorem dX10_of_60 : decode cX10_of 60 = .ok (.imul, 1) := by decide +kernel
theorem dX10_of_61 : decode cX10_of 61 = .ok (.iadd, 1) := by decide +kernel
theorem dX10_of_62 : decode cX10_of 62 = .ok (.iload_n 1, 1) := by decide +kernel
theorem dX10_of_63 : decode cX10_of 63 = .ok (.iadd, 1) := by decide +kernel
theorem dX10_of_64 : decode cX10_of 64 = .ok (.iaload, 1) := by decide +kernel
theorem dX10_of_65 : decode cX10_of 65 = .ok (.ireturn, 1) := by decide +kernel
theorem dX10_of_66 : decode cX10_of 66 = .ok (.iload_n 2, 1) := by decide +kernel
theorem dX10_of_67 : decode cX10_of 67 = .ok (.bipush 7, 2) := by decide +kernel
theorem dX10_of_69 : decode cX10_of 69 = .ok (.if_icmp .ne 12, 3) := by decide +kernel
theorem dX10_of_72 : decode cX10_of 72 = .ok (.aload_n 0, 1) := by decide +kernel
theorem dX10_of_73 : decode cX10_of 73 = .ok (.getfield 71, 3) := by decide +kernel
theorem dX10_of_76 : decode cX10_of 76 = .ok (.iload_n 1, 1) := by decide +kernel
theorem dX10_of_77 : decode cX10_of 77 = .ok (.iaload, 1) := by decide +kernel
theorem dX10_of_78 : decode cX10_of 78 = .ok (.iconst 1, 1) := by decide +kernel
theorem dX10_of_79 : decode cX10_of 79 = .ok (.isub, 1) := by decide +kernel
theorem dX10_of_80 : decode cX10_of 80 = .ok (.ireturn, 1) := by decide +kernel
theorem dX10_of_81 : decode cX10_of 81 = .ok (.iload_n 2, 1) := by decide +kernel
theorem dX10_of_82 : decode cX10_of 82 = .ok (.bipush 8, 2) := by decide +kernel
theorem dX10_of_84 : decode cX10_of 84 = .ok (.if_icmp .ne 10, 3) := by decide +kernel
theorem dX10_of_87 : decode cX10_of 87 = .ok (.aload_n 0, 1) := by decide +kernel
theorem dX10_of_88 : decode cX10_of 88 = .ok (.getfield 74, 3) := by decide +kernel
theorem dX10_of_91 : decode cX10_of 91 = .ok (.iload_n 1, 1) := by decide +kernel
theorem dX10_of_92 : decode cX10_of 92 = .ok (.iaload, 1) := by decide +kernel
theorem dX10_of_93 : decode cX10_of 93 = .ok (.ireturn, 1) := by decide +kernel
theorem dX10_of_94 : decode cX10_of 94 = .ok (.iload_n 2, 1) := by decide +kernel
theorem dX10_of_95 : decode cX10_of 95 = .ok (.bipush 9, 2) := by decide +kernel
theorem dX10_of_97 : decode cX10_of 97 = .ok (.if_icmp .ne 9, 3) := by decide +kernel
theorem dX10_of_100 : decode cX10_of 100 = .ok (.aload_n 0, 1) := by decide +kernel
theorem dX10_of_101 : decode cX10_of 101 = .ok (.iload_n 1, 1) := by decide +kernel
theorem dX10_of_102 : decode cX10_of 102 = .ok (.invokevirtual 365, 3) := by decide +kernel
theorem dX10_of_105 : decode cX10_of 105 = .ok (.ireturn, 1) := by decide +kernel
theorem dX10_of_106 : decode cX10_of 106 = .ok (.iload_n 2, 1) := by decide +kernel
theorem dX10_of_107 : decode cX10_of 107 = .ok (.bipush 10, 2) := by decide +kernel
theorem dX10_of_109 : decode cX10_of 109 = .ok (.if_icmp .ne 9, 3) := by decide +kernel
theorem dX10_of_112 : decode cX10_of 112 = .ok (.aload_n 0, 1) := by decide +kernel
theorem dX10_of_113 : decode cX10_of 113 = .ok (.iload_n 1, 1) := by decide +kernel
theorem dX10_of_114 : decode cX10_of 114 = .ok (.invokevirtual 371, 3) := by decide +kernel
theorem dX10_of_117 : decode cX10_of 117 = .ok (.ireturn, 1) := by decide +kernel
theorem dX10_of_118 : decode cX10_of 118 = .ok (.iload_n 2, 1) := by decide +kernel
theorem dX10_of_119 : decode cX10_of 119 = .ok (.bipush 11, 2) := by decide +kernel
theorem dX10_of_121 : decode cX10_of 121 = .ok (.if_icmp .ne 11, 3) := by decide +kernel
theorem dX10_of_124 : decode cX10_of 124 = .ok (.aload_n 0, 1) := by decide +kernel
theorem dX10_of_125 : decode cX10_of 125 = .ok (.iload_n 1, 1) := by decide +kernel
theorem dX10_of_126 : decode cX10_of 126 = .ok (.invokevirtual 374, 3) := by decide +kernel
theorem dX10_of_129 : decode cX10_of 129 = .ok (.goto 27, 3) := by decide +kernel
theorem dX10_of_132 : decode cX10_of 132 = .ok (.iload_n 2, 1) := by decide +kernel
theorem dX10_of_133 : decode cX10_of 133 = .ok (.bipush 12, 2) := by decide +kernel
theorem dX10_of_135 : decode cX10_of 135 = .ok (.if_icmp .ne 19, 3) := by decide +kernel
theorem dX10_of_138 : decode cX10_of 138 = .ok (.aload_n 0, 1) := by decide +kernel
theorem dX10_of_139 : decode cX10_of 139 = .ok (.iload_n 1, 1) := by decide +kernel
theorem dX10_of_140 : decode cX10_of 140 = .ok (.invokevirtual 392, 3) := by decide +kernel
theorem dX10_of_143 : decode cX10_of 143 = .ok (.ifCond .eq 7, 3) := by decide +kernel
theorem dX10_of_146 : decode cX10_of 146 = .ok (.iconst 1, 1) := by decide +kernel
theorem dX10_of_147 : decode cX10_of 147 = .ok (.goto 9, 3) := by decide +kernel
theorem dX10_of_150 : decode cX10_of 150 = .ok (.iconst 0, 1) := by decide +kernel
theorem dX10_of_151 : decode cX10_of 151 = .ok (.goto 5, 3) := by decide +kernel
theorem dX10_of_154 : decode cX10_of 154 = .ok (.bipush (-2), 2) := by decide +kernel
theorem dX10_of_156 : decode cX10_of 156 = .ok (.ireturn, 1) := by decide +kernel
theorem dX10_who_0 : decode cX10_who 0 = .ok (.aload_n 0, 1) := by decide +kernel
theorem dX10_who_1 : decode cX10_who 1 = .ok (.iconst 0, 1) := by decide +kernel
theorem dX10_who_2 : decode cX10_who 2 = .ok (.putfield 131, 3) := by decide +kernel
theorem dX10_who_5 : decode cX10_who 5 = .ok (.aload_n 0, 1) := by decide +kernel
theorem dX10_who_6 : decode cX10_who 6 = .ok (.iload_n 1, 1) := by decide +kernel
theorem dX10_who_7 : decode cX10_who 7 = .ok (.invokevirtual 161, 3) := by decide +kernel
theorem dX10_who_10 : decode cX10_who 10 = .ok (.ifCond .ne 5, 3) := by decide +kernel
theorem dX10_who_13 : decode cX10_who 13 = .ok (.iconst (-1), 1) := by decide +kernel
theorem dX10_who_14 : decode cX10_who 14 = .ok (.ireturn, 1) := by decide +kernel
theorem dX10_who_15 : decode cX10_who 15 = .ok (.iload_n 2, 1) := by decide +kernel
theorem dX10_who_16 : decode cX10_who 16 = .ok (.ifCond .ne 10, 3) := by decide +kernel
theorem dX10_who_19 : decode cX10_who 19 = .ok (.aload_n 0, 1) := by decide +kernel
theorem dX10_who_20 : decode cX10_who 20 = .ok (.getfield 25, 3) := by decide +kernel
theorem dX10_who_23 : decode cX10_who 23 = .ok (.iload_n 1, 1) := by decide +kernel
theorem dX10_who_24 : decode cX10_who 24 = .ok (.iaload, 1) := by decide +kernel
theorem dX10_who_25 : decode cX10_who 25 = .ok (.ireturn, 1) := by decide +kernel
theorem dX10_who_26 : decode cX10_who 26 = .ok (.iload_n 2, 1) := by decide +kernel
theorem dX10_who_27 : decode cX10_who 27 = .ok (.iconst 1, 1) := by decide +kernel
theorem dX10_who_28 : decode cX10_who 28 = .ok (.if_icmp .ne 10, 3) := by decide +kernel
theorem dX10_who_31 : decode cX10_who 31 = .ok (.aload_n 0, 1) := by decide +kernel
theorem dX10_who_32 : decode cX10_who 32 = .ok (.getfield 28, 3) := by decide +kernel
theorem dX10_who_35 : decode cX10_who 35 = .ok (.iload_n 1, 1) := by decide +kernel
theorem dX10_who_36 : decode cX10_who 36 = .ok (.iaload, 1) := by decide +kernel
theorem dX10_who_37 : decode cX10_who 37 = .ok (.ireturn, 1) := by decide +kernel
theorem dX10_who_38 : decode cX10_who 38 = .ok (.iload_n 2, 1) := by decide +kernel
theorem dX10_who_39 : decode cX10_who 39 = .ok (.iconst 2, 1) := by decide +kernel
theorem dX10_who_40 : decode cX10_who 40 = .ok (.if_icmp .ne 13, 3) := by decide +kernel
theorem dX10_who_43 : decode cX10_who 43 = .ok (.aload_n 0, 1) := by decide +kernel
theorem dX10_who_44 : decode cX10_who 44 = .ok (.getfield 7, 3) := by decide +kernel
theorem dX10_who_47 : decode cX10_who 47 = .ok (.bipush 65, 2) := by decide +kernel
theorem dX10_who_49 : decode cX10_who 49 = .ok (.iload_n 1, 1) := by decide +kernel
theorem dX10_who_50 : decode cX10_who 50 = .ok (.iadd, 1) := by decide +kernel
theorem dX10_who_51 : decode cX10_who 51 = .ok (.iaload, 1) := by decide +kernel
theorem dX10_who_52 : decode cX10_who 52 = .ok (.ireturn, 1) := by decide +kernel
theorem dX10_who_53 : decode cX10_who 53 = .ok (.iload_n 2, 1) := by decide +kernel
theorem dX10_who_54 : decode cX10_who 54 = .ok (.iconst 3, 1) := by decide +kernel
theorem dX10_who_55 : decode cX10_who 55 = .ok (.if_icmp .eq 5, 3) := by decide +kernel
theorem dX10_who_58 : decode cX10_who 58 = .ok (.iconst (-1), 1) := by decide +kernel
theorem dX10_who_59 : decode cX10_who 59 = .ok (.ireturn, 1) := by decide +kernel
theorem dX10_who_60 : decode cX10_who 60 = .ok (.iconst 0, 1) := by decide +kernel
theorem dX10_who_61 : decode cX10_who 61 = .ok (.istore_n 3, 1) := by decide +kernel
theorem dX10_who_62 : decode cX10_who 62 = .ok (.iconst 0, 1) := by decide +kernel
theorem dX10_who_63 : decode cX10_who 63 = .ok (.istore 4, 2) := by decide +kernel
theorem dX10_who_65 : decode cX10_who 65 = .ok (.iload 4, 2) := by decide +kernel
theorem dX10_who_67 : decode cX10_who 67 = .ok (.aload_n 0, 1) := by decide +kernel
theorem dX10_who_68 : decode cX10_who 68 = .ok (.getfield 143, 3) := by decide +kernel
theorem dX10_who_71 : decode cX10_who 71 = .ok (.if_icmp .ge 29, 3) := by decide +kernel
theorem dX10_who_74 : decode cX10_who 74 = .ok (.aload_n 0, 1) := by decide +kernel
theorem dX10_who_75 : decode cX10_who 75 = .ok (.getfield 71, 3) := by decide +kernel
theorem dX10_who_78 : decode cX10_who 78 = .ok (.iload 4, 2) := by decide +kernel
theorem dX10_who_80 : decode cX10_who 80 = .ok (.iaload, 1) := by decide +kernel
theorem dX10_who_81 : decode cX10_who 81 = .ok (.iload_n 1, 1) := by decide +kernel
theorem dX10_who_82 : decode cX10_who 82 = .ok (.iconst 1, 1) := by decide +kernel
theorem dX10_who_83 : decode cX10_who 83 = .ok (.iadd, 1) := by decide +kernel
theorem dX10_who_84 : decode cX10_who 84 = .ok (.if_icmp .ne 10, 3) := by decide +kernel
theorem dX10_who_87 : decode cX10_who 87 = .ok (.iload_n 3, 1) := by decide +kernel
theorem dX10_who_88 : decode cX10_who 88 = .ok (.iconst 1, 1) := by decide +kernel
theorem dX10_who_89 : decode cX10_who 89 = .ok (.iload 4, 2) := by decide +kernel
theorem dX10_who_91 : decode cX10_who 91 = .ok (.ishl, 1) := by decide +kernel
theorem dX10_who_92 : decode cX10_who 92 = .ok (.ior, 1) := by decide +kernel
theorem dX10_who_93 : decode cX10_who 93 = .ok (.istore_n 3, 1) := by decide +kernel
theorem dX10_who_94 : decode cX10_who 94 = .ok (.iinc 4 1, 3) := by decide +kernel
theorem dX10_who_97 : decode cX10_who 97 = .ok (.goto (-32), 3) := by decide +kernel
theorem dX10_who_100 : decode cX10_who 100 = .ok (.iload_n 3, 1) := by decide +kernel
theorem dX10_who_101 : decode cX10_who 101 = .ok (.ireturn, 1) := by decide +kernel
theorem dX10_book_0 : decode cX10_book 0 = .ok (.aload_n 0, 1) := by decide +kernel
theorem dX10_book_1 : decode cX10_book 1 = .ok (.iconst 0, 1) := by decide +kernel
theorem dX10_book_2 : decode cX10_book 2 = .ok (.putfield 131, 3) := by decide +kernel
theorem dX10_book_5 : decode cX10_book 5 = .ok (.aload_n 0, 1) := by decide +kernel
theorem dX10_book_6 : decode cX10_book 6 = .ok (.iload_n 1, 1) := by decide +kernel
theorem dX10_book_7 : decode cX10_book 7 = .ok (.iconst 0, 1) := by decide +kernel
theorem dX10_book_8 : decode cX10_book 8 = .ok (.aload_n 0, 1) := by decide +kernel
theorem dX10_book_9 : decode cX10_book 9 = .ok (.getfield 7, 3) := by decide +kernel
theorem dX10_book_12 : decode cX10_book 12 = .ok (.iconst 2, 1) := by decide +kernel
theorem dX10_book_13 : decode cX10_book 13 = .ok (.iaload, 1) := by decide +kernel
theorem dX10_book_14 : decode cX10_book 14 = .ok (.iconst 1, 1) := by decide +kernel
theorem dX10_book_15 : decode cX10_book 15 = .ok (.isub, 1) := by decide +kernel
theorem dX10_book_16 : decode cX10_book 16 = .ok (.invokevirtual 149, 3) := by decide +kernel
theorem dX10_book_19 : decode cX10_book 19 = .ok (.ifCond .eq 26, 3) := by decide +kernel
theorem dX10_book_22 : decode cX10_book 22 = .ok (.aload_n 0, 1) := by decide +kernel
theorem dX10_book_23 : decode cX10_book 23 = .ok (.iload_n 2, 1) := by decide +kernel
theorem dX10_book_24 : decode cX10_book 24 = .ok (.iconst 0, 1) := by decide +kernel
theorem dX10_book_25 : decode cX10_book 25 = .ok (.iconst 3, 1) := by decide +kernel
theorem dX10_book_26 : decode cX10_book 26 = .ok (.invokevirtual 149, 3) := by decide +kernel
theorem dX10_book_29 : decode cX10_book 29 = .ok (.ifCond .eq 16, 3) := by decide +kernel
theorem dX10_book_32 : decode cX10_book 32 = .ok (.aload_n 0, 1) := by decide +kernel
theorem dX10_book_33 : decode cX10_book 33 = .ok (.getfield 31, 3) := by decide +kernel
theorem dX10_book_36 : decode cX10_book 36 = .ok (.iconst 4, 1) := by decide +kernel
theorem dX10_book_37 : decode cX10_book 37 = .ok (.iload_n 1, 1) := by decide +kernel
theorem dX10_book_38 : decode cX10_book 38 = .ok (.imul, 1) := by decide +kernel
theorem dX10_book_39 : decode cX10_book 39 = .ok (.iload_n 2, 1) := by decide +kernel
theorem dX10_book_40 : decode cX10_book 40 = .ok (.iadd, 1) := by decide +kernel
theorem dX10_book_41 : decode cX10_book 41 = .ok (.iaload, 1) := by decide +kernel
theorem dX10_book_42 : decode cX10_book 42 = .ok (.goto 4, 3) := by decide +kernel
theorem dX10_book_45 : decode cX10_book 45 = .ok (.iconst (-1), 1) := by decide +kernel
theorem dX10_book_46 : decode cX10_book 46 = .ok (.ireturn, 1) := by decide +kernel
theorem dX10_sumOf_0 : decode cX10_sumOf 0 = .ok (.iconst 0, 1) := by decide +kernel
theorem dX10_sumOf_1 : decode cX10_sumOf 1 = .ok (.istore_n 2, 1) := by decide +kernel
theorem dX10_sumOf_2 : decode cX10_sumOf 2 = .ok (.iconst 0, 1) := by decide +kernel
theorem dX10_sumOf_3 : decode cX10_sumOf 3 = .ok (.istore_n 3, 1) := by decide +kernel
theorem dX10_sumOf_4 : decode cX10_sumOf 4 = .ok (.iload_n 3, 1) := by decide +kernel
theorem dX10_sumOf_5 : decode cX10_sumOf 5 = .ok (.aload_n 0, 1) := by decide +kernel
theorem dX10_sumOf_6 : decode cX10_sumOf 6 = .ok (.getfield 143, 3) := by decide +kernel
theorem dX10_sumOf_9 : decode cX10_sumOf 9 = .ok (.if_icmp .ge 20, 3) := by decide +kernel
theorem dX10_sumOf_12 : decode cX10_sumOf 12 = .ok (.iload_n 2, 1) := by decide +kernel
theorem dX10_sumOf_13 : decode cX10_sumOf 13 = .ok (.aload_n 0, 1) := by decide +kernel
theorem dX10_sumOf_14 : decode cX10_sumOf 14 = .ok (.getfield 7, 3) := by decide +kernel
theorem dX10_sumOf_17 : decode cX10_sumOf 17 = .ok (.iload_n 1, 1) := by decide +kernel
theorem dX10_sumOf_18 : decode cX10_sumOf 18 = .ok (.iload_n 3, 1) := by decide +kernel
theorem dX10_sumOf_19 : decode cX10_sumOf 19 = .ok (.iadd, 1) := by decide +kernel
theorem dX10_sumOf_20 : decode cX10_sumOf 20 = .ok (.iaload, 1) := by decide +kernel
theorem dX10_sumOf_21 : decode cX10_sumOf 21 = .ok (.iadd, 1) := by decide +kernel
theorem dX10_sumOf_22 : decode cX10_sumOf 22 = .ok (.istore_n 2, 1) := by decide +kernel
theorem dX10_sumOf_23 : decode cX10_sumOf 23 = .ok (.iinc 3 1, 3) := by decide +kernel
theorem dX10_sumOf_26 : decode cX10_sumOf 26 = .ok (.goto (-22), 3) := by decide +kernel
theorem dX10_sumOf_29 : decode cX10_sumOf 29 = .ok (.iload_n 2, 1) := by decide +kernel
theorem dX10_sumOf_30 : decode cX10_sumOf 30 = .ok (.ireturn, 1) := by decide +kernel
theorem dX10_goes_0 : decode cX10_goes 0 = .ok (.aload_n 0, 1) := by decide +kernel
theorem dX10_goes_1 : decode cX10_goes 1 = .ok (.iconst 0, 1) := by decide +kernel
theorem dX10_goes_2 : decode cX10_goes 2 = .ok (.putfield 131, 3) := by decide +kernel
theorem dX10_goes_5 : decode cX10_goes 5 = .ok (.aload_n 0, 1) := by decide +kernel
theorem dX10_goes_6 : decode cX10_goes 6 = .ok (.iload_n 1, 1) := by decide +kernel
theorem dX10_goes_7 : decode cX10_goes 7 = .ok (.iconst 1, 1) := by decide +kernel
theorem dX10_goes_8 : decode cX10_goes 8 = .ok (.bipush 60, 2) := by decide +kernel
theorem dX10_goes_10 : decode cX10_goes 10 = .ok (.invokevirtual 149, 3) := by decide +kernel
theorem dX10_goes_13 : decode cX10_goes 13 = .ok (.ifCond .eq 13, 3) := by decide +kernel
theorem dX10_goes_16 : decode cX10_goes 16 = .ok (.aload_n 0, 1) := by decide +kernel
theorem dX10_goes_17 : decode cX10_goes 17 = .ok (.iload_n 2, 1) := by decide +kernel
theorem dX10_goes_18 : decode cX10_goes 18 = .ok (.iconst 0, 1) := by decide +kernel
theorem dX10_goes_19 : decode cX10_goes 19 = .ok (.iconst 3, 1) := by decide +kernel
theorem dX10_goes_20 : decode cX10_goes 20 = .ok (.invokevirtual 149, 3) := by decide +kernel
theorem dX10_goes_23 : decode cX10_goes 23 = .ok (.ifCond .ne 7, 3) := by decide +kernel
theorem dX10_goes_26 : decode cX10_goes 26 = .ok (.sipush (-1000), 3) := by decide +kernel
theorem dX10_goes_29 : decode cX10_goes 29 = .ok (.ireturn, 1) := by decide +kernel
theorem dX10_goes_30 : decode cX10_goes 30 = .ok (.aload_n 0, 1) := by decide +kernel
theorem dX10_goes_31 : decode cX10_goes 31 = .ok (.invokevirtual 395, 3) := by decide +kernel
theorem dX10_goes_34 : decode cX10_goes 34 = .ok (.iconst 0, 1) := by decide +kernel
theorem dX10_goes_35 : decode cX10_goes 35 = .ok (.istore_n 3, 1) := by decide +kernel
theorem dX10_goes_36 : decode cX10_goes 36 = .ok (.iload_n 3, 1) := by decide +kernel
theorem dX10_goes_37 : decode cX10_goes 37 = .ok (.iload_n 1, 1) := by decide +kernel
theorem dX10_goes_38 : decode cX10_goes 38 = .ok (.if_icmp .ge 14, 3) := by decide +kernel
theorem dX10_goes_41 : decode cX10_goes 41 = .ok (.aload_n 0, 1) := by decide +kernel
theorem dX10_goes_42 : decode cX10_goes 42 = .ok (.invokevirtual 389, 3) := by decide +kernel
theorem dX10_goes_45 : decode cX10_goes 45 = .ok (.pop, 1) := by decide +kernel
theorem dX10_goes_46 : decode cX10_goes 46 = .ok (.iinc 3 1, 3) := by decide +kernel
theorem dX10_goes_49 : decode cX10_goes 49 = .ok (.goto (-13), 3) := by decide +kernel
theorem dX10_goes_52 : decode cX10_goes 52 = .ok (.iload_n 2, 1) := by decide +kernel
theorem dX10_goes_53 : decode cX10_goes 53 = .ok (.ifCond .ne 12, 3) := by decide +kernel
theorem dX10_goes_56 : decode cX10_goes 56 = .ok (.aload_n 0, 1) := by decide +kernel
theorem dX10_goes_57 : decode cX10_goes 57 = .ok (.getfield 7, 3) := by decide +kernel
theorem dX10_goes_60 : decode cX10_goes 60 = .ok (.iconst 3, 1) := by decide +kernel
theorem dX10_goes_61 : decode cX10_goes 61 = .ok (.iaload, 1) := by decide +kernel
theorem dX10_goes_62 : decode cX10_goes 62 = .ok (.goto 36, 3) := by decide +kernel
theorem dX10_goes_65 : decode cX10_goes 65 = .ok (.iload_n 2, 1) := by decide +kernel
theorem dX10_goes_66 : decode cX10_goes 66 = .ok (.iconst 1, 1) := by decide +kernel
theorem dX10_goes_67 : decode cX10_goes 67 = .ok (.if_icmp .ne 12, 3) := by decide +kernel
theorem dX10_goes_70 : decode cX10_goes 70 = .ok (.aload_n 0, 1) := by decide +kernel
theorem dX10_goes_71 : decode cX10_goes 71 = .ok (.bipush 53, 2) := by decide +kernel
theorem dX10_goes_73 : decode cX10_goes 73 = .ok (.invokevirtual 398, 3) := by decide +kernel
theorem dX10_goes_76 : decode cX10_goes 76 = .ok (.goto 22, 3) := by decide +kernel
theorem dX10_goes_79 : decode cX10_goes 79 = .ok (.iload_n 2, 1) := by decide +kernel
theorem dX10_goes_80 : decode cX10_goes 80 = .ok (.iconst 2, 1) := by decide +kernel
theorem dX10_goes_81 : decode cX10_goes 81 = .ok (.if_icmp .ne 12, 3) := by decide +kernel
theorem dX10_goes_84 : decode cX10_goes 84 = .ok (.aload_n 0, 1) := by decide +kernel
theorem dX10_goes_85 : decode cX10_goes 85 = .ok (.bipush 29, 2) := by decide +kernel
theorem dX10_goes_87 : decode cX10_goes 87 = .ok (.invokevirtual 398, 3) := by decide +kernel
theorem dX10_goes_90 : decode cX10_goes 90 = .ok (.goto 8, 3) := by decide +kernel
theorem dX10_goes_93 : decode cX10_goes 93 = .ok (.aload_n 0, 1) := by decide +kernel
theorem dX10_goes_94 : decode cX10_goes 94 = .ok (.iconst 5, 1) := by decide +kernel
theorem dX10_goes_95 : decode cX10_goes 95 = .ok (.invokevirtual 398, 3) := by decide +kernel
theorem dX10_goes_98 : decode cX10_goes 98 = .ok (.istore_n 3, 1) := by decide +kernel
theorem dX10_goes_99 : decode cX10_goes 99 = .ok (.aload_n 0, 1) := by decide +kernel
theorem dX10_goes_100 : decode cX10_goes 100 = .ok (.invokevirtual 401, 3) := by decide +kernel
theorem dX10_goes_103 : decode cX10_goes 103 = .ok (.iload_n 3, 1) := by decide +kernel
theorem dX10_goes_104 : decode cX10_goes 104 = .ok (.ireturn, 1) := by decide +kernel
theorem dX10_peace_0 : decode cX10_peace 0 = .ok (.aload_n 0, 1) := by decide +kernel
theorem dX10_peace_1 : decode cX10_peace 1 = .ok (.iconst 0, 1) := by decide +kernel
theorem dX10_peace_2 : decode cX10_peace 2 = .ok (.putfield 131, 3) := by decide +kernel
theorem dX10_peace_5 : decode cX10_peace 5 = .ok (.aload_n 0, 1) := by decide +kernel
theorem dX10_peace_6 : decode cX10_peace 6 = .ok (.invokevirtual 395, 3) := by decide +kernel
theorem dX10_peace_9 : decode cX10_peace 9 = .ok (.iconst 0, 1) := by decide +kernel
theorem dX10_peace_10 : decode cX10_peace 10 = .ok (.istore_n 1, 1) := by decide +kernel
theorem dX10_peace_11 : decode cX10_peace 11 = .ok (.iload_n 1, 1) := by decide +kernel
theorem dX10_peace_12 : decode cX10_peace 12 = .ok (.bipush 60, 2) := by decide +kernel
theorem dX10_peace_14 : decode cX10_peace 14 = .ok (.if_icmp .gt 22, 3) := by decide +kernel
theorem dX10_peace_17 : decode cX10_peace 17 = .ok (.aload_n 0, 1) := by decide +kernel
theorem dX10_peace_18 : decode cX10_peace 18 = .ok (.invokevirtual 153, 3) := by decide +kernel
theorem dX10_peace_21 : decode cX10_peace 21 = .ok (.ifCond .ne 15, 3) := by decide +kernel
theorem dX10_peace_24 : decode cX10_peace 24 = .ok (.aload_n 0, 1) := by decide +kernel
theorem dX10_peace_25 : decode cX10_peace 25 = .ok (.invokevirtual 389, 3) := by decide +kernel
theorem dX10_peace_28 : decode cX10_peace 28 = .ok (.pop, 1) := by decide +kernel
theorem dX10_peace_29 : decode cX10_peace 29 = .ok (.iload_n 1, 1) := by decide +kernel
theorem dX10_peace_30 : decode cX10_peace 30 = .ok (.iconst 1, 1) := by decide +kernel
theorem dX10_peace_31 : decode cX10_peace 31 = .ok (.iadd, 1) := by decide +kernel
theorem dX10_peace_32 : decode cX10_peace 32 = .ok (.istore_n 1, 1) := by decide +kernel
theorem dX10_peace_33 : decode cX10_peace 33 = .ok (.goto (-22), 3) := by decide +kernel
theorem dX10_peace_36 : decode cX10_peace 36 = .ok (.aload_n 0, 1) := by decide +kernel
theorem dX10_peace_37 : decode cX10_peace 37 = .ok (.invokevirtual 401, 3) := by decide +kernel
theorem dX10_peace_40 : decode cX10_peace 40 = .ok (.iload_n 1, 1) := by decide +kernel
theorem dX10_peace_41 : decode cX10_peace 41 = .ok (.bipush 60, 2) := by decide +kernel
theorem dX10_peace_43 : decode cX10_peace 43 = .ok (.if_icmp .le 7, 3) := by decide +kernel
theorem dX10_peace_46 : decode cX10_peace 46 = .ok (.iconst (-1), 1) := by decide +kernel
theorem dX10_peace_47 : decode cX10_peace 47 = .ok (.goto 4, 3) := by decide +kernel
theorem dX10_peace_50 : decode cX10_peace 50 = .ok (.iload_n 1, 1) := by decide +kernel
theorem dX10_peace_51 : decode cX10_peace 51 = .ok (.ireturn, 1) := by decide +kernel
theorem dX10_digitOf_0 : decode cX10_digitOf 0 = .ok (.iload_n 2, 1) := by decide +kernel
theorem dX10_digitOf_1 : decode cX10_digitOf 1 = .ok (.ifCond .ne 11, 3) := by decide +kernel
theorem dX10_digitOf_4 : decode cX10_digitOf 4 = .ok (.iload_n 1, 1) := by decide +kernel
theorem dX10_digitOf_5 : decode cX10_digitOf 5 = .ok (.sipush 1000, 3) := by decide +kernel
theorem dX10_digitOf_8 : decode cX10_digitOf 8 = .ok (.idiv, 1) := by decide +kernel
theorem dX10_digitOf_9 : decode cX10_digitOf 9 = .ok (.goto 37, 3) := by decide +kernel
theorem dX10_digitOf_12 : decode cX10_digitOf 12 = .ok (.iload_n 2, 1) := by decide +kernel
theorem dX10_digitOf_13 : decode cX10_digitOf 13 = .ok (.iconst 1, 1) := by decide +kernel
theorem dX10_digitOf_14 : decode cX10_digitOf 14 = .ok (.if_icmp .ne 13, 3) := by decide +kernel
theorem dX10_digitOf_17 : decode cX10_digitOf 17 = .ok (.iload_n 1, 1) := by decide +kernel
theorem dX10_digitOf_18 : decode cX10_digitOf 18 = .ok (.bipush 100, 2) := by decide +kernel
theorem dX10_digitOf_20 : decode cX10_digitOf 20 = .ok (.idiv, 1) := by decide +kernel
theorem dX10_digitOf_21 : decode cX10_digitOf 21 = .ok (.bipush 10, 2) := by decide +kernel
theorem dX10_digitOf_23 : decode cX10_digitOf 23 = .ok (.irem, 1) := by decide +kernel
theorem dX10_digitOf_24 : decode cX10_digitOf 24 = .ok (.goto 22, 3) := by decide +kernel
theorem dX10_digitOf_27 : decode cX10_digitOf 27 = .ok (.iload_n 2, 1) := by decide +kernel
theorem dX10_digitOf_28 : decode cX10_digitOf 28 = .ok (.iconst 2, 1) := by decide +kernel
theorem dX10_digitOf_29 : decode cX10_digitOf 29 = .ok (.if_icmp .ne 13, 3) := by decide +kernel
theorem dX10_digitOf_32 : decode cX10_digitOf 32 = .ok (.iload_n 1, 1) := by decide +kernel
theorem dX10_digitOf_33 : decode cX10_digitOf 33 = .ok (.bipush 10, 2) := by decide +kernel
theorem dX10_digitOf_35 : decode cX10_digitOf 35 = .ok (.idiv, 1) := by decide +kernel
theorem dX10_digitOf_36 : decode cX10_digitOf 36 = .ok (.bipush 10, 2) := by decide +kernel
theorem dX10_digitOf_38 : decode cX10_digitOf 38 = .ok (.irem, 1) := by decide +kernel
theorem dX10_digitOf_39 : decode cX10_digitOf 39 = .ok (.goto 7, 3) := by decide +kernel
theorem dX10_digitOf_42 : decode cX10_digitOf 42 = .ok (.iload_n 1, 1) := by decide +kernel
theorem dX10_digitOf_43 : decode cX10_digitOf 43 = .ok (.bipush 10, 2) := by decide +kernel
theorem dX10_digitOf_45 : decode cX10_digitOf 45 = .ok (.irem, 1) := by decide +kernel
theorem dX10_digitOf_46 : decode cX10_digitOf 46 = .ok (.ireturn, 1) := by decide +kernel
theorem dX10_isWordOfNight_0 : decode cX10_isWordOfNight 0 = .ok (.aload_n 0, 1) := by decide +kernel
theorem dX10_isWordOfNight_1 : decode cX10_isWordOfNight 1 = .ok (.iload_n 1, 1) := by decide +kernel
theorem dX10_isWordOfNight_2 : decode cX10_isWordOfNight 2 = .ok (.iconst 0, 1) := by decide +kernel
theorem dX10_isWordOfNight_3 : decode cX10_isWordOfNight 3 = .ok (.sipush 5555, 3) := by decide +kernel
theorem dX10_isWordOfNight_6 : decode cX10_isWordOfNight 6 = .ok (.invokevirtual 149, 3) := by decide +kernel
theorem dX10_isWordOfNight_9 : decode cX10_isWordOfNight 9 = .ok (.ifCond .ne 5, 3) := by decide +kernel
theorem dX10_isWordOfNight_12 : decode cX10_isWordOfNight 12 = .ok (.iconst 0, 1) := by decide +kernel
theorem dX10_isWordOfNight_13 : decode cX10_isWordOfNight 13 = .ok (.ireturn, 1) := by decide +kernel
theorem dX10_isWordOfNight_14 : decode cX10_isWordOfNight 14 = .ok (.iconst 0, 1) := by decide +kernel
theorem dX10_isWordOfNight_15 : decode cX10_isWordOfNight 15 = .ok (.istore_n 2, 1) := by decide +kernel
theorem dX10_isWordOfNight_16 : decode cX10_isWordOfNight 16 = .ok (.iload_n 2, 1) := by decide +kernel
theorem dX10_isWordOfNight_17 : decode cX10_isWordOfNight 17 = .ok (.iconst 4, 1) := by decide +kernel
theorem dX10_isWordOfNight_18 : decode cX10_isWordOfNight 18 = .ok (.if_icmp .ge 21, 3) := by decide +kernel
theorem dX10_isWordOfNight_21 : decode cX10_isWordOfNight 21 = .ok (.aload_n 0, 1) := by decide +kernel
theorem dX10_isWordOfNight_22 : decode cX10_isWordOfNight 22 = .ok (.iload_n 1, 1) := by decide +kernel
theorem dX10_isWordOfNight_23 : decode cX10_isWordOfNight 23 = .ok (.iload_n 2, 1) := by decide +kernel
theorem dX10_isWordOfNight_24 : decode cX10_isWordOfNight 24 = .ok (.invokevirtual 404, 3) := by decide +kernel
theorem dX10_isWordOfNight_27 : decode cX10_isWordOfNight 27 = .ok (.iconst 5, 1) := by decide +kernel
theorem dX10_isWordOfNight_28 : decode cX10_isWordOfNight 28 = .ok (.if_icmp .le 5, 3) := by decide +kernel
theorem dX10_isWordOfNight_31 : decode cX10_isWordOfNight 31 = .ok (.iconst 0, 1) := by decide +kernel
theorem dX10_isWordOfNight_32 : decode cX10_isWordOfNight 32 = .ok (.ireturn, 1) := by decide +kernel
theorem dX10_isWordOfNight_33 : decode cX10_isWordOfNight 33 = .ok (.iinc 2 1, 3) := by decide +kernel
theorem dX10_isWordOfNight_36 : decode cX10_isWordOfNight 36 = .ok (.goto (-20), 3) := by decide +kernel
theorem dX10_isWordOfNight_39 : decode cX10_isWordOfNight 39 = .ok (.iconst 1, 1) := by decide +kernel
theorem dX10_isWordOfNight_40 : decode cX10_isWordOfNight 40 = .ok (.ireturn, 1) := by decide +kernel
theorem dX10_guess_0 : decode cX10_guess 0 = .ok (.aload_n 0, 1) := by decide +kernel
theorem dX10_guess_1 : decode cX10_guess 1 = .ok (.iconst 0, 1) := by decide +kernel
theorem dX10_guess_2 : decode cX10_guess 2 = .ok (.putfield 131, 3) := by decide +kernel
theorem dX10_guess_5 : decode cX10_guess 5 = .ok (.iload_n 1, 1) := by decide +kernel
theorem dX10_guess_6 : decode cX10_guess 6 = .ok (.iconst (-1), 1) := by decide +kernel
theorem dX10_guess_7 : decode cX10_guess 7 = .ok (.if_icmp .ne 10, 3) := by decide +kernel
theorem dX10_guess_10 : decode cX10_guess 10 = .ok (.aload_n 0, 1) := by decide +kernel
theorem dX10_guess_11 : decode cX10_guess 11 = .ok (.iconst 0, 1) := by decide +kernel
theorem dX10_guess_12 : decode cX10_guess 12 = .ok (.putfield 407, 3) := by decide +kernel
theorem dX10_guess_15 : decode cX10_guess 15 = .ok (.iconst 0, 1) := by decide +kernel
theorem dX10_guess_16 : decode cX10_guess 16 = .ok (.ireturn, 1) := by decide +kernel
theorem dX10_guess_17 : decode cX10_guess 17 = .ok (.aload_n 0, 1) := by decide +kernel
theorem dX10_guess_18 : decode cX10_guess 18 = .ok (.iload_n 1, 1) := by decide +kernel
theorem dX10_guess_19 : decode cX10_guess 19 = .ok (.invokevirtual 410, 3) := by decide +kernel
theorem dX10_guess_22 : decode cX10_guess 22 = .ok (.ifCond .eq 39, 3) := by decide +kernel
theorem dX10_guess_25 : decode cX10_guess 25 = .ok (.aload_n 0, 1) := by decide +kernel
theorem dX10_guess_26 : decode cX10_guess 26 = .ok (.iload_n 2, 1) := by decide +kernel
theorem dX10_guess_27 : decode cX10_guess 27 = .ok (.iconst 0, 1) := by decide +kernel
theorem dX10_guess_28 : decode cX10_guess 28 = .ok (.iconst 4, 1) := by decide +kernel
theorem dX10_guess_29 : decode cX10_guess 29 = .ok (.invokevirtual 149, 3) := by decide +kernel
theorem dX10_guess_32 : decode cX10_guess 32 = .ok (.ifCond .eq 29, 3) := by decide +kernel
theorem dX10_guess_35 : decode cX10_guess 35 = .ok (.aload_n 0, 1) := by decide +kernel
theorem dX10_guess_36 : decode cX10_guess 36 = .ok (.iload_n 3, 1) := by decide +kernel
theorem dX10_guess_37 : decode cX10_guess 37 = .ok (.iconst 0, 1) := by decide +kernel
theorem dX10_guess_38 : decode cX10_guess 38 = .ok (.iconst 4, 1) := by decide +kernel
theorem dX10_guess_39 : decode cX10_guess 39 = .ok (.invokevirtual 149, 3) := by decide +kernel
theorem dX10_guess_42 : decode cX10_guess 42 = .ok (.ifCond .eq 19, 3) := by decide +kernel
theorem dX10_guess_45 : decode cX10_guess 45 = .ok (.iload_n 2, 1) := by decide +kernel
theorem dX10_guess_46 : decode cX10_guess 46 = .ok (.iload_n 3, 1) := by decide +kernel
theorem dX10_guess_47 : decode cX10_guess 47 = .ok (.iadd, 1) := by decide +kernel
theorem dX10_guess_48 : decode cX10_guess 48 = .ok (.iconst 4, 1) := by decide +kernel
theorem dX10_guess_49 : decode cX10_guess 49 = .ok (.if_icmp .gt 12, 3) := by decide +kernel
theorem dX10_guess_52 : decode cX10_guess 52 = .ok (.aload_n 0, 1) := by decide +kernel
theorem dX10_guess_53 : decode cX10_guess 53 = .ok (.getfield 407, 3) := by decide +kernel
theorem dX10_guess_56 : decode cX10_guess 56 = .ok (.bipush 8, 2) := by decide +kernel
theorem dX10_guess_58 : decode cX10_guess 58 = .ok (.if_icmp .ne 5, 3) := by decide +kernel
theorem dX10_guess_61 : decode cX10_guess 61 = .ok (.iconst (-1), 1) := by decide +kernel
theorem dX10_guess_62 : decode cX10_guess 62 = .ok (.ireturn, 1) := by decide +kernel
theorem dX10_guess_63 : decode cX10_guess 63 = .ok (.aload_n 0, 1) := by decide +kernel
theorem dX10_guess_64 : decode cX10_guess 64 = .ok (.getfield 83, 3) := by decide +kernel
theorem dX10_guess_67 : decode cX10_guess 67 = .ok (.aload_n 0, 1) := by decide +kernel
theorem dX10_guess_68 : decode cX10_guess 68 = .ok (.getfield 407, 3) := by decide +kernel
theorem dX10_guess_71 : decode cX10_guess 71 = .ok (.iload_n 1, 1) := by decide +kernel
theorem dX10_guess_72 : decode cX10_guess 72 = .ok (.iastore, 1) := by decide +kernel
theorem dX10_guess_73 : decode cX10_guess 73 = .ok (.aload_n 0, 1) := by decide +kernel
theorem dX10_guess_74 : decode cX10_guess 74 = .ok (.getfield 86, 3) := by decide +kernel
theorem dX10_guess_77 : decode cX10_guess 77 = .ok (.aload_n 0, 1) := by decide +kernel
theorem dX10_guess_78 : decode cX10_guess 78 = .ok (.getfield 407, 3) := by decide +kernel
theorem dX10_guess_81 : decode cX10_guess 81 = .ok (.iload_n 2, 1) := by decide +kernel
theorem dX10_guess_82 : decode cX10_guess 82 = .ok (.iastore, 1) := by decide +kernel
theorem dX10_guess_83 : decode cX10_guess 83 = .ok (.aload_n 0, 1) := by decide +kernel
theorem dX10_guess_84 : decode cX10_guess 84 = .ok (.getfield 89, 3) := by decide +kernel
theorem dX10_guess_87 : decode cX10_guess 87 = .ok (.aload_n 0, 1) := by decide +kernel
theorem dX10_guess_88 : decode cX10_guess 88 = .ok (.getfield 407, 3) := by decide +kernel
theorem dX10_guess_91 : decode cX10_guess 91 = .ok (.iload_n 3, 1) := by decide +kernel
theorem dX10_guess_92 : decode cX10_guess 92 = .ok (.iastore, 1) := by decide +kernel
theorem dX10_guess_93 : decode cX10_guess 93 = .ok (.aload_n 0, 1) := by decide +kernel
theorem dX10_guess_94 : decode cX10_guess 94 = .ok (.aload_n 0, 1) := by decide +kernel
theorem dX10_guess_95 : decode cX10_guess 95 = .ok (.getfield 407, 3) := by decide +kernel
theorem dX10_guess_98 : decode cX10_guess 98 = .ok (.iconst 1, 1) := by decide +kernel
theorem dX10_guess_99 : decode cX10_guess 99 = .ok (.iadd, 1) := by decide +kernel
theorem dX10_guess_100 : decode cX10_guess 100 = .ok (.putfield 407, 3) := by decide +kernel
theorem dX10_guess_103 : decode cX10_guess 103 = .ok (.aload_n 0, 1) := by decide +kernel
theorem dX10_guess_104 : decode cX10_guess 104 = .ok (.getfield 407, 3) := by decide +kernel
theorem dX10_guess_107 : decode cX10_guess 107 = .ok (.ireturn, 1) := by decide +kernel
theorem dX10_rightOf_0 : decode cX10_rightOf 0 = .ok (.iconst 0, 1) := by decide +kernel
theorem dX10_rightOf_1 : decode cX10_rightOf 1 = .ok (.istore_n 3, 1) := by decide +kernel
theorem dX10_rightOf_2 : decode cX10_rightOf 2 = .ok (.iconst 0, 1) := by decide +kernel
theorem dX10_rightOf_3 : decode cX10_rightOf 3 = .ok (.istore 4, 2) := by decide +kernel
theorem dX10_rightOf_5 : decode cX10_rightOf 5 = .ok (.iload 4, 2) := by decide +kernel
theorem dX10_rightOf_7 : decode cX10_rightOf 7 = .ok (.iconst 4, 1) := by decide +kernel
theorem dX10_rightOf_8 : decode cX10_rightOf 8 = .ok (.if_icmp .ge 30, 3) := by decide +kernel
theorem dX10_rightOf_11 : decode cX10_rightOf 11 = .ok (.aload_n 0, 1) := by decide +kernel
theorem dX10_rightOf_12 : decode cX10_rightOf 12 = .ok (.iload_n 1, 1) := by decide +kernel
theorem dX10_rightOf_13 : decode cX10_rightOf 13 = .ok (.iload 4, 2) := by decide +kernel
theorem dX10_rightOf_15 : decode cX10_rightOf 15 = .ok (.invokevirtual 404, 3) := by decide +kernel
theorem dX10_rightOf_18 : decode cX10_rightOf 18 = .ok (.aload_n 0, 1) := by decide +kernel
theorem dX10_rightOf_19 : decode cX10_rightOf 19 = .ok (.iload_n 2, 1) := by decide +kernel
theorem dX10_rightOf_20 : decode cX10_rightOf 20 = .ok (.iload 4, 2) := by decide +kernel
theorem dX10_rightOf_22 : decode cX10_rightOf 22 = .ok (.invokevirtual 404, 3) := by decide +kernel
theorem dX10_rightOf_25 : decode cX10_rightOf 25 = .ok (.if_icmp .ne 7, 3) := by decide +kernel
theorem dX10_rightOf_28 : decode cX10_rightOf 28 = .ok (.iload_n 3, 1) := by decide +kernel
theorem dX10_rightOf_29 : decode cX10_rightOf 29 = .ok (.iconst 1, 1) := by decide +kernel
theorem dX10_rightOf_30 : decode cX10_rightOf 30 = .ok (.iadd, 1) := by decide +kernel
theorem dX10_rightOf_31 : decode cX10_rightOf 31 = .ok (.istore_n 3, 1) := by decide +kernel
theorem dX10_rightOf_32 : decode cX10_rightOf 32 = .ok (.iinc 4 1, 3) := by decide +kernel
theorem dX10_rightOf_35 : decode cX10_rightOf 35 = .ok (.goto (-30), 3) := by decide +kernel
theorem dX10_rightOf_38 : decode cX10_rightOf 38 = .ok (.iload_n 3, 1) := by decide +kernel
theorem dX10_rightOf_39 : decode cX10_rightOf 39 = .ok (.ireturn, 1) := by decide +kernel
theorem dX10_manyOf_0 : decode cX10_manyOf 0 = .ok (.iconst 0, 1) := by decide +kernel
theorem dX10_manyOf_1 : decode cX10_manyOf 1 = .ok (.istore_n 3, 1) := by decide +kernel
theorem dX10_manyOf_2 : decode cX10_manyOf 2 = .ok (.iconst 0, 1) := by decide +kernel
theorem dX10_manyOf_3 : decode cX10_manyOf 3 = .ok (.istore 4, 2) := by decide +kernel
theorem dX10_manyOf_5 : decode cX10_manyOf 5 = .ok (.iload 4, 2) := by decide +kernel
theorem dX10_manyOf_7 : decode cX10_manyOf 7 = .ok (.iconst 4, 1) := by decide +kernel
theorem dX10_manyOf_8 : decode cX10_manyOf 8 = .ok (.if_icmp .ge 24, 3) := by decide +kernel
theorem dX10_manyOf_11 : decode cX10_manyOf 11 = .ok (.aload_n 0, 1) := by decide +kernel
theorem dX10_manyOf_12 : decode cX10_manyOf 12 = .ok (.iload_n 1, 1) := by decide +kernel
theorem dX10_manyOf_13 : decode cX10_manyOf 13 = .ok (.iload 4, 2) := by decide +kernel
theorem dX10_manyOf_15 : decode cX10_manyOf 15 = .ok (.invokevirtual 404, 3) := by decide +kernel
theorem dX10_manyOf_18 : decode cX10_manyOf 18 = .ok (.iload_n 2, 1) := by decide +kernel
theorem dX10_manyOf_19 : decode cX10_manyOf 19 = .ok (.if_icmp .ne 7, 3) := by decide +kernel
theorem dX10_manyOf_22 : decode cX10_manyOf 22 = .ok (.iload_n 3, 1) := by decide +kernel
theorem dX10_manyOf_23 : decode cX10_manyOf 23 = .ok (.iconst 1, 1) := by decide +kernel
theorem dX10_manyOf_24 : decode cX10_manyOf 24 = .ok (.iadd, 1) := by decide +kernel
theorem dX10_manyOf_25 : decode cX10_manyOf 25 = .ok (.istore_n 3, 1) := by decide +kernel
theorem dX10_manyOf_26 : decode cX10_manyOf 26 = .ok (.iinc 4 1, 3) := by decide +kernel
theorem dX10_manyOf_29 : decode cX10_manyOf 29 = .ok (.goto (-24), 3) := by decide +kernel
theorem dX10_manyOf_32 : decode cX10_manyOf 32 = .ok (.iload_n 3, 1) := by decide +kernel
theorem dX10_manyOf_33 : decode cX10_manyOf 33 = .ok (.ireturn, 1) := by decide +kernel
theorem dX10_doesFit_0 : decode cX10_doesFit 0 = .ok (.iconst 0, 1) := by decide +kernel
theorem dX10_doesFit_1 : decode cX10_doesFit 1 = .ok (.istore_n 2, 1) := by decide +kernel
theorem dX10_doesFit_2 : decode cX10_doesFit 2 = .ok (.iload_n 2, 1) := by decide +kernel
theorem dX10_doesFit_3 : decode cX10_doesFit 3 = .ok (.aload_n 0, 1) := by decide +kernel
theorem dX10_doesFit_4 : decode cX10_doesFit 4 = .ok (.getfield 407, 3) := by decide +kernel
theorem dX10_doesFit_7 : decode cX10_doesFit 7 = .ok (.if_icmp .ge 92, 3) := by decide +kernel
theorem dX10_doesFit_10 : decode cX10_doesFit 10 = .ok (.iconst 0, 1) := by decide +kernel
theorem dX10_doesFit_11 : decode cX10_doesFit 11 = .ok (.istore_n 3, 1) := by decide +kernel
theorem dX10_doesFit_12 : decode cX10_doesFit 12 = .ok (.iconst 0, 1) := by decide +kernel
theorem dX10_doesFit_13 : decode cX10_doesFit 13 = .ok (.istore 4, 2) := by decide +kernel
theorem dX10_doesFit_15 : decode cX10_doesFit 15 = .ok (.iload 4, 2) := by decide +kernel
theorem dX10_doesFit_17 : decode cX10_doesFit 17 = .ok (.bipush 6, 2) := by decide +kernel
theorem dX10_doesFit_19 : decode cX10_doesFit 19 = .ok (.if_icmp .ge 35, 3) := by decide +kernel
theorem dX10_doesFit_22 : decode cX10_doesFit 22 = .ok (.iload_n 3, 1) := by decide +kernel
theorem dX10_doesFit_23 : decode cX10_doesFit 23 = .ok (.aload_n 0, 1) := by decide +kernel
theorem dX10_doesFit_24 : decode cX10_doesFit 24 = .ok (.aload_n 0, 1) := by decide +kernel
theorem dX10_doesFit_25 : decode cX10_doesFit 25 = .ok (.iload_n 1, 1) := by decide +kernel
theorem dX10_doesFit_26 : decode cX10_doesFit 26 = .ok (.iload 4, 2) := by decide +kernel
theorem dX10_doesFit_28 : decode cX10_doesFit 28 = .ok (.invokevirtual 413, 3) := by decide +kernel
theorem dX10_doesFit_31 : decode cX10_doesFit 31 = .ok (.aload_n 0, 1) := by decide +kernel
theorem dX10_doesFit_32 : decode cX10_doesFit 32 = .ok (.aload_n 0, 1) := by decide +kernel
theorem dX10_doesFit_33 : decode cX10_doesFit 33 = .ok (.getfield 83, 3) := by decide +kernel
theorem dX10_doesFit_36 : decode cX10_doesFit 36 = .ok (.iload_n 2, 1) := by decide +kernel
theorem dX10_doesFit_37 : decode cX10_doesFit 37 = .ok (.iaload, 1) := by decide +kernel
theorem dX10_doesFit_38 : decode cX10_doesFit 38 = .ok (.iload 4, 2) := by decide +kernel
theorem dX10_doesFit_40 : decode cX10_doesFit 40 = .ok (.invokevirtual 413, 3) := by decide +kernel
theorem dX10_doesFit_43 : decode cX10_doesFit 43 = .ok (.invokevirtual 350, 3) := by decide +kernel
theorem dX10_doesFit_46 : decode cX10_doesFit 46 = .ok (.iadd, 1) := by decide +kernel
theorem dX10_doesFit_47 : decode cX10_doesFit 47 = .ok (.istore_n 3, 1) := by decide +kernel
theorem dX10_doesFit_48 : decode cX10_doesFit 48 = .ok (.iinc 4 1, 3) := by decide +kernel
theorem dX10_doesFit_51 : decode cX10_doesFit 51 = .ok (.goto (-36), 3) := by decide +kernel
theorem dX10_doesFit_54 : decode cX10_doesFit 54 = .ok (.aload_n 0, 1) := by decide +kernel
theorem dX10_doesFit_55 : decode cX10_doesFit 55 = .ok (.iload_n 1, 1) := by decide +kernel
theorem dX10_doesFit_56 : decode cX10_doesFit 56 = .ok (.aload_n 0, 1) := by decide +kernel
theorem dX10_doesFit_57 : decode cX10_doesFit 57 = .ok (.getfield 83, 3) := by decide +kernel
theorem dX10_doesFit_60 : decode cX10_doesFit 60 = .ok (.iload_n 2, 1) := by decide +kernel
theorem dX10_doesFit_61 : decode cX10_doesFit 61 = .ok (.iaload, 1) := by decide +kernel
theorem dX10_doesFit_62 : decode cX10_doesFit 62 = .ok (.invokevirtual 416, 3) := by decide +kernel
theorem dX10_doesFit_65 : decode cX10_doesFit 65 = .ok (.aload_n 0, 1) := by decide +kernel
theorem dX10_doesFit_66 : decode cX10_doesFit 66 = .ok (.getfield 86, 3) := by decide +kernel
theorem dX10_doesFit_69 : decode cX10_doesFit 69 = .ok (.iload_n 2, 1) := by decide +kernel
theorem dX10_doesFit_70 : decode cX10_doesFit 70 = .ok (.iaload, 1) := by decide +kernel
theorem dX10_doesFit_71 : decode cX10_doesFit 71 = .ok (.if_icmp .ne 20, 3) := by decide +kernel
theorem dX10_doesFit_74 : decode cX10_doesFit 74 = .ok (.iload_n 3, 1) := by decide +kernel
theorem dX10_doesFit_75 : decode cX10_doesFit 75 = .ok (.aload_n 0, 1) := by decide +kernel
theorem dX10_doesFit_76 : decode cX10_doesFit 76 = .ok (.getfield 86, 3) := by decide +kernel
theorem dX10_doesFit_79 : decode cX10_doesFit 79 = .ok (.iload_n 2, 1) := by decide +kernel
theorem dX10_doesFit_80 : decode cX10_doesFit 80 = .ok (.iaload, 1) := by decide +kernel
theorem dX10_doesFit_81 : decode cX10_doesFit 81 = .ok (.aload_n 0, 1) := by decide +kernel
theorem dX10_doesFit_82 : decode cX10_doesFit 82 = .ok (.getfield 89, 3) := by decide +kernel
theorem dX10_doesFit_85 : decode cX10_doesFit 85 = .ok (.iload_n 2, 1) := by decide +kernel
theorem dX10_doesFit_86 : decode cX10_doesFit 86 = .ok (.iaload, 1) := by decide +kernel
theorem dX10_doesFit_87 : decode cX10_doesFit 87 = .ok (.iadd, 1) := by decide +kernel
theorem dX10_doesFit_88 : decode cX10_doesFit 88 = .ok (.if_icmp .eq 5, 3) := by decide +kernel
theorem dX10_doesFit_91 : decode cX10_doesFit 91 = .ok (.iconst 0, 1) := by decide +kernel
theorem dX10_doesFit_92 : decode cX10_doesFit 92 = .ok (.ireturn, 1) := by decide +kernel
theorem dX10_doesFit_93 : decode cX10_doesFit 93 = .ok (.iinc 2 1, 3) := by decide +kernel
theorem dX10_doesFit_96 : decode cX10_doesFit 96 = .ok (.goto (-94), 3) := by decide +kernel
theorem dX10_doesFit_99 : decode cX10_doesFit 99 = .ok (.iconst 1, 1) := by decide +kernel
theorem dX10_doesFit_100 : decode cX10_doesFit 100 = .ok (.ireturn, 1) := by decide +kernel
theorem dX10_words_0 : decode cX10_words 0 = .ok (.aload_n 0, 1) := by decide +kernel
theorem dX10_words_1 : decode cX10_words 1 = .ok (.iconst 0, 1) := by decide +kernel
theorem dX10_words_2 : decode cX10_words 2 = .ok (.putfield 131, 3) := by decide +kernel
theorem dX10_words_5 : decode cX10_words 5 = .ok (.aload_n 0, 1) := by decide +kernel
theorem dX10_words_6 : decode cX10_words 6 = .ok (.iload_n 1, 1) := by decide +kernel
theorem dX10_words_7 : decode cX10_words 7 = .ok (.iconst 0, 1) := by decide +kernel
theorem dX10_words_8 : decode cX10_words 8 = .ok (.iconst 1, 1) := by decide +kernel
theorem dX10_words_9 : decode cX10_words 9 = .ok (.invokevirtual 149, 3) := by decide +kernel
theorem dX10_words_12 : decode cX10_words 12 = .ok (.ifCond .ne 5, 3) := by decide +kernel
theorem dX10_words_15 : decode cX10_words 15 = .ok (.iconst (-1), 1) := by decide +kernel
theorem dX10_words_16 : decode cX10_words 16 = .ok (.ireturn, 1) := by decide +kernel
theorem dX10_words_17 : decode cX10_words 17 = .ok (.iconst 0, 1) := by decide +kernel
theorem dX10_words_18 : decode cX10_words 18 = .ok (.istore_n 2, 1) := by decide +kernel
theorem dX10_words_19 : decode cX10_words 19 = .ok (.iconst (-1), 1) := by decide +kernel
theorem dX10_words_20 : decode cX10_words 20 = .ok (.istore_n 3, 1) := by decide +kernel
theorem dX10_words_21 : decode cX10_words 21 = .ok (.sipush 5555, 3) := by decide +kernel
theorem dX10_words_24 : decode cX10_words 24 = .ok (.istore 4, 2) := by decide +kernel
theorem dX10_words_26 : decode cX10_words 26 = .ok (.iload 4, 2) := by decide +kernel
theorem dX10_words_28 : decode cX10_words 28 = .ok (.ifCond .lt 37, 3) := by decide +kernel
theorem dX10_words_31 : decode cX10_words 31 = .ok (.aload_n 0, 1) := by decide +kernel
theorem dX10_words_32 : decode cX10_words 32 = .ok (.iload 4, 2) := by decide +kernel
theorem dX10_words_34 : decode cX10_words 34 = .ok (.invokevirtual 410, 3) := by decide +kernel
theorem dX10_words_37 : decode cX10_words 37 = .ok (.ifCond .eq 22, 3) := by decide +kernel
theorem dX10_words_40 : decode cX10_words 40 = .ok (.aload_n 0, 1) := by decide +kernel
theorem dX10_words_41 : decode cX10_words 41 = .ok (.iload 4, 2) := by decide +kernel
theorem dX10_words_43 : decode cX10_words 43 = .ok (.invokevirtual 419, 3) := by decide +kernel
theorem dX10_words_46 : decode cX10_words 46 = .ok (.ifCond .ne 6, 3) := by decide +kernel
theorem dX10_words_49 : decode cX10_words 49 = .ok (.goto 10, 3) := by decide +kernel
theorem dX10_words_52 : decode cX10_words 52 = .ok (.iload_n 2, 1) := by decide +kernel
theorem dX10_words_53 : decode cX10_words 53 = .ok (.iconst 1, 1) := by decide +kernel
theorem dX10_words_54 : decode cX10_words 54 = .ok (.iadd, 1) := by decide +kernel
theorem dX10_words_55 : decode cX10_words 55 = .ok (.istore_n 2, 1) := by decide +kernel
theorem dX10_words_56 : decode cX10_words 56 = .ok (.iload 4, 2) := by decide +kernel
theorem dX10_words_58 : decode cX10_words 58 = .ok (.istore_n 3, 1) := by decide +kernel
theorem dX10_words_59 : decode cX10_words 59 = .ok (.iinc 4 (-1), 3) := by decide +kernel
theorem dX10_words_62 : decode cX10_words 62 = .ok (.goto (-36), 3) := by decide +kernel
theorem dX10_words_65 : decode cX10_words 65 = .ok (.iload_n 1, 1) := by decide +kernel
theorem dX10_words_66 : decode cX10_words 66 = .ok (.ifCond .ne 7, 3) := by decide +kernel
theorem dX10_words_69 : decode cX10_words 69 = .ok (.iload_n 2, 1) := by decide +kernel
theorem dX10_words_70 : decode cX10_words 70 = .ok (.goto 4, 3) := by decide +kernel
theorem dX10_words_73 : decode cX10_words 73 = .ok (.iload_n 3, 1) := by decide +kernel
theorem dX10_words_74 : decode cX10_words 74 = .ok (.ireturn, 1) := by decide +kernel
theorem dX10_boots_0 : decode cX10_boots 0 = .ok (.aload_n 0, 1) := by decide +kernel
theorem dX10_boots_1 : decode cX10_boots 1 = .ok (.iconst 0, 1) := by decide +kernel
theorem dX10_boots_2 : decode cX10_boots 2 = .ok (.putfield 131, 3) := by decide +kernel
theorem dX10_boots_5 : decode cX10_boots 5 = .ok (.aload_n 0, 1) := by decide +kernel
theorem dX10_boots_6 : decode cX10_boots 6 = .ok (.iload_n 1, 1) := by decide +kernel
theorem dX10_boots_7 : decode cX10_boots 7 = .ok (.iconst 1, 1) := by decide +kernel
theorem dX10_boots_8 : decode cX10_boots 8 = .ok (.bipush 10, 2) := by decide +kernel
theorem dX10_boots_10 : decode cX10_boots 10 = .ok (.invokevirtual 149, 3) := by decide +kernel
theorem dX10_boots_13 : decode cX10_boots 13 = .ok (.ifCond .eq 29, 3) := by decide +kernel
theorem dX10_boots_16 : decode cX10_boots 16 = .ok (.aload_n 0, 1) := by decide +kernel
theorem dX10_boots_17 : decode cX10_boots 17 = .ok (.iload_n 2, 1) := by decide +kernel
theorem dX10_boots_18 : decode cX10_boots 18 = .ok (.iconst 0, 1) := by decide +kernel
theorem dX10_boots_19 : decode cX10_boots 19 = .ok (.iload_n 1, 1) := by decide +kernel
theorem dX10_boots_20 : decode cX10_boots 20 = .ok (.iconst 1, 1) := by decide +kernel
theorem dX10_boots_21 : decode cX10_boots 21 = .ok (.isub, 1) := by decide +kernel
theorem dX10_boots_22 : decode cX10_boots 22 = .ok (.invokevirtual 149, 3) := by decide +kernel
theorem dX10_boots_25 : decode cX10_boots 25 = .ok (.ifCond .eq 17, 3) := by decide +kernel
theorem dX10_boots_28 : decode cX10_boots 28 = .ok (.aload_n 0, 1) := by decide +kernel
theorem dX10_boots_29 : decode cX10_boots 29 = .ok (.iload_n 3, 1) := by decide +kernel
theorem dX10_boots_30 : decode cX10_boots 30 = .ok (.iconst 0, 1) := by decide +kernel
theorem dX10_boots_31 : decode cX10_boots 31 = .ok (.iconst 1, 1) := by decide +kernel
theorem dX10_boots_32 : decode cX10_boots 32 = .ok (.iload_n 1, 1) := by decide +kernel
theorem dX10_boots_33 : decode cX10_boots 33 = .ok (.ishl, 1) := by decide +kernel
theorem dX10_boots_34 : decode cX10_boots 34 = .ok (.iconst 1, 1) := by decide +kernel
theorem dX10_boots_35 : decode cX10_boots 35 = .ok (.isub, 1) := by decide +kernel
theorem dX10_boots_36 : decode cX10_boots 36 = .ok (.invokevirtual 149, 3) := by decide +kernel
theorem dX10_boots_39 : decode cX10_boots 39 = .ok (.ifCond .ne 5, 3) := by decide +kernel
theorem dX10_boots_42 : decode cX10_boots 42 = .ok (.iconst (-1), 1) := by decide +kernel
theorem dX10_boots_43 : decode cX10_boots 43 = .ok (.ireturn, 1) := by decide +kernel
theorem dX10_boots_44 : decode cX10_boots 44 = .ok (.iconst 0, 1) := by decide +kernel
theorem dX10_boots_45 : decode cX10_boots 45 = .ok (.istore 4, 2) := by decide +kernel
theorem dX10_boots_47 : decode cX10_boots 47 = .ok (.iconst 2, 1) := by decide +kernel
theorem dX10_boots_48 : decode cX10_boots 48 = .ok (.istore 5, 2) := by decide +kernel
theorem dX10_boots_50 : decode cX10_boots 50 = .ok (.iload_n 3, 1) := by decide +kernel
theorem dX10_boots_51 : decode cX10_boots 51 = .ok (.istore 6, 2) := by decide +kernel
theorem dX10_boots_53 : decode cX10_boots 53 = .ok (.iload_n 1, 1) := by decide +kernel
theorem dX10_boots_54 : decode cX10_boots 54 = .ok (.iconst 1, 1) := by decide +kernel
theorem dX10_boots_55 : decode cX10_boots 55 = .ok (.isub, 1) := by decide +kernel
theorem dX10_boots_56 : decode cX10_boots 56 = .ok (.istore 7, 2) := by decide +kernel
theorem dX10_boots_58 : decode cX10_boots 58 = .ok (.iload 7, 2) := by decide +kernel
theorem dX10_boots_60 : decode cX10_boots 60 = .ok (.iload_n 2, 1) := by decide +kernel
theorem dX10_boots_61 : decode cX10_boots 61 = .ok (.if_icmp .le 47, 3) := by decide +kernel
theorem dX10_boots_64 : decode cX10_boots 64 = .ok (.iconst 3, 1) := by decide +kernel
theorem dX10_boots_65 : decode cX10_boots 65 = .ok (.iload 4, 2) := by decide +kernel
theorem dX10_boots_67 : decode cX10_boots 67 = .ok (.isub, 1) := by decide +kernel
theorem dX10_boots_68 : decode cX10_boots 68 = .ok (.iload 5, 2) := by decide +kernel
theorem dX10_boots_70 : decode cX10_boots 70 = .ok (.isub, 1) := by decide +kernel
theorem dX10_boots_71 : decode cX10_boots 71 = .ok (.istore 8, 2) := by decide +kernel
theorem dX10_boots_73 : decode cX10_boots 73 = .ok (.iload 6, 2) := by decide +kernel
theorem dX10_boots_75 : decode cX10_boots 75 = .ok (.iconst 1, 1) := by decide +kernel
theorem dX10_boots_76 : decode cX10_boots 76 = .ok (.iload 7, 2) := by decide +kernel
theorem dX10_boots_78 : decode cX10_boots 78 = .ok (.ishl, 1) := by decide +kernel
theorem dX10_boots_79 : decode cX10_boots 79 = .ok (.if_icmp .lt 19, 3) := by decide +kernel
theorem dX10_boots_82 : decode cX10_boots 82 = .ok (.iload 6, 2) := by decide +kernel
theorem dX10_boots_84 : decode cX10_boots 84 = .ok (.iconst 1, 1) := by decide +kernel
theorem dX10_boots_85 : decode cX10_boots 85 = .ok (.iload 7, 2) := by decide +kernel
theorem dX10_boots_87 : decode cX10_boots 87 = .ok (.ishl, 1) := by decide +kernel
theorem dX10_boots_88 : decode cX10_boots 88 = .ok (.isub, 1) := by decide +kernel
theorem dX10_boots_89 : decode cX10_boots 89 = .ok (.istore 6, 2) := by decide +kernel
theorem dX10_boots_91 : decode cX10_boots 91 = .ok (.iload 8, 2) := by decide +kernel
theorem dX10_boots_93 : decode cX10_boots 93 = .ok (.istore 4, 2) := by decide +kernel
theorem dX10_boots_95 : decode cX10_boots 95 = .ok (.goto 7, 3) := by decide +kernel
theorem dX10_boots_98 : decode cX10_boots 98 = .ok (.iload 8, 2) := by decide +kernel
theorem dX10_boots_100 : decode cX10_boots 100 = .ok (.istore 5, 2) := by decide +kernel
theorem dX10_boots_102 : decode cX10_boots 102 = .ok (.iinc 7 (-1), 3) := by decide +kernel
theorem dX10_boots_105 : decode cX10_boots 105 = .ok (.goto (-47), 3) := by decide +kernel
theorem dX10_boots_108 : decode cX10_boots 108 = .ok (.iload 6, 2) := by decide +kernel
theorem dX10_boots_110 : decode cX10_boots 110 = .ok (.iconst 1, 1) := by decide +kernel
theorem dX10_boots_111 : decode cX10_boots 111 = .ok (.iload_n 2, 1) := by decide +kernel
theorem dX10_boots_112 : decode cX10_boots 112 = .ok (.ishl, 1) := by decide +kernel
theorem dX10_boots_113 : decode cX10_boots 113 = .ok (.if_icmp .lt 8, 3) := by decide +kernel
theorem dX10_boots_116 : decode cX10_boots 116 = .ok (.iload 5, 2) := by decide +kernel
theorem dX10_boots_118 : decode cX10_boots 118 = .ok (.goto 5, 3) := by decide +kernel
theorem dX10_boots_121 : decode cX10_boots 121 = .ok (.iload 4, 2) := by decide +kernel
theorem dX10_boots_123 : decode cX10_boots 123 = .ok (.ireturn, 1) := by decide +kernel
theorem dX10_moves_0 : decode cX10_moves 0 = .ok (.aload_n 0, 1) := by decide +kernel
theorem dX10_moves_1 : decode cX10_moves 1 = .ok (.iconst 0, 1) := by decide +kernel
theorem dX10_moves_2 : decode cX10_moves 2 = .ok (.putfield 131, 3) := by decide +kernel
theorem dX10_moves_5 : decode cX10_moves 5 = .ok (.iconst 0, 1) := by decide +kernel
theorem dX10_moves_6 : decode cX10_moves 6 = .ok (.istore_n 2, 1) := by decide +kernel
theorem dX10_moves_7 : decode cX10_moves 7 = .ok (.iload_n 1, 1) := by decide +kernel
theorem dX10_moves_8 : decode cX10_moves 8 = .ok (.istore_n 3, 1) := by decide +kernel
theorem dX10_moves_9 : decode cX10_moves 9 = .ok (.iload_n 3, 1) := by decide +kernel
theorem dX10_moves_10 : decode cX10_moves 10 = .ok (.bipush 9, 2) := by decide +kernel
theorem dX10_moves_12 : decode cX10_moves 12 = .ok (.if_icmp .le 41, 3) := by decide +kernel
theorem dX10_moves_15 : decode cX10_moves 15 = .ok (.iload_n 3, 1) := by decide +kernel
theorem dX10_moves_16 : decode cX10_moves 16 = .ok (.bipush 10, 2) := by decide +kernel
theorem dX10_moves_18 : decode cX10_moves 18 = .ok (.irem, 1) := by decide +kernel
theorem dX10_moves_19 : decode cX10_moves 19 = .ok (.iconst 2, 1) := by decide +kernel
theorem dX10_moves_20 : decode cX10_moves 20 = .ok (.if_icmp .gt 9, 3) := by decide +kernel
theorem dX10_moves_23 : decode cX10_moves 23 = .ok (.iload_n 2, 1) := by decide +kernel
theorem dX10_moves_24 : decode cX10_moves 24 = .ok (.bipush 10, 2) := by decide +kernel
theorem dX10_moves_26 : decode cX10_moves 26 = .ok (.if_icmp .ne 5, 3) := by decide +kernel
theorem dX10_moves_29 : decode cX10_moves 29 = .ok (.iconst (-1), 1) := by decide +kernel
theorem dX10_moves_30 : decode cX10_moves 30 = .ok (.ireturn, 1) := by decide +kernel
theorem dX10_moves_31 : decode cX10_moves 31 = .ok (.aload_n 0, 1) := by decide +kernel
theorem dX10_moves_32 : decode cX10_moves 32 = .ok (.getfield 92, 3) := by decide +kernel
theorem dX10_moves_35 : decode cX10_moves 35 = .ok (.iload_n 2, 1) := by decide +kernel
theorem dX10_moves_36 : decode cX10_moves 36 = .ok (.iload_n 3, 1) := by decide +kernel
theorem dX10_moves_37 : decode cX10_moves 37 = .ok (.bipush 10, 2) := by decide +kernel
theorem dX10_moves_39 : decode cX10_moves 39 = .ok (.irem, 1) := by decide +kernel
theorem dX10_moves_40 : decode cX10_moves 40 = .ok (.iastore, 1) := by decide +kernel
theorem dX10_moves_41 : decode cX10_moves 41 = .ok (.iload_n 2, 1) := by decide +kernel
theorem dX10_moves_42 : decode cX10_moves 42 = .ok (.iconst 1, 1) := by decide +kernel
theorem dX10_moves_43 : decode cX10_moves 43 = .ok (.iadd, 1) := by decide +kernel
theorem dX10_moves_44 : decode cX10_moves 44 = .ok (.istore_n 2, 1) := by decide +kernel
theorem dX10_moves_45 : decode cX10_moves 45 = .ok (.iload_n 3, 1) := by decide +kernel
theorem dX10_moves_46 : decode cX10_moves 46 = .ok (.bipush 10, 2) := by decide +kernel
theorem dX10_moves_48 : decode cX10_moves 48 = .ok (.idiv, 1) := by decide +kernel
theorem dX10_moves_49 : decode cX10_moves 49 = .ok (.istore_n 3, 1) := by decide +kernel
theorem dX10_moves_50 : decode cX10_moves 50 = .ok (.goto (-41), 3) := by decide +kernel
theorem dX10_moves_53 : decode cX10_moves 53 = .ok (.iload_n 3, 1) := by decide +kernel
theorem dX10_moves_54 : decode cX10_moves 54 = .ok (.iconst 1, 1) := by decide +kernel
theorem dX10_moves_55 : decode cX10_moves 55 = .ok (.if_icmp .ne 7, 3) := by decide +kernel
theorem dX10_moves_58 : decode cX10_moves 58 = .ok (.iload_n 2, 1) := by decide +kernel
theorem dX10_moves_59 : decode cX10_moves 59 = .ok (.ifCond .ne 5, 3) := by decide +kernel
theorem dX10_moves_62 : decode cX10_moves 62 = .ok (.iconst (-1), 1) := by decide +kernel
theorem dX10_moves_63 : decode cX10_moves 63 = .ok (.ireturn, 1) := by decide +kernel
theorem dX10_moves_64 : decode cX10_moves 64 = .ok (.iconst 2, 1) := by decide +kernel
theorem dX10_moves_65 : decode cX10_moves 65 = .ok (.istore 4, 2) := by decide +kernel
theorem dX10_moves_67 : decode cX10_moves 67 = .ok (.iconst 0, 1) := by decide +kernel
theorem dX10_moves_68 : decode cX10_moves 68 = .ok (.istore 5, 2) := by decide +kernel
theorem dX10_moves_70 : decode cX10_moves 70 = .ok (.iconst 0, 1) := by decide +kernel
theorem dX10_moves_71 : decode cX10_moves 71 = .ok (.istore 6, 2) := by decide +kernel
theorem dX10_moves_73 : decode cX10_moves 73 = .ok (.iload 6, 2) := by decide +kernel
theorem dX10_moves_75 : decode cX10_moves 75 = .ok (.iload_n 2, 1) := by decide +kernel
theorem dX10_moves_76 : decode cX10_moves 76 = .ok (.if_icmp .ge 51, 3) := by decide +kernel
theorem dX10_moves_79 : decode cX10_moves 79 = .ok (.aload_n 0, 1) := by decide +kernel
theorem dX10_moves_80 : decode cX10_moves 80 = .ok (.getfield 92, 3) := by decide +kernel
theorem dX10_moves_83 : decode cX10_moves 83 = .ok (.iload 6, 2) := by decide +kernel
theorem dX10_moves_85 : decode cX10_moves 85 = .ok (.iaload, 1) := by decide +kernel
theorem dX10_moves_86 : decode cX10_moves 86 = .ok (.iload 4, 2) := by decide +kernel
theorem dX10_moves_88 : decode cX10_moves 88 = .ok (.if_icmp .ne 6, 3) := by decide +kernel
theorem dX10_moves_91 : decode cX10_moves 91 = .ok (.goto 30, 3) := by decide +kernel
theorem dX10_moves_94 : decode cX10_moves 94 = .ok (.iload 5, 2) := by decide +kernel
theorem dX10_moves_96 : decode cX10_moves 96 = .ok (.iconst 1, 1) := by decide +kernel
theorem dX10_moves_97 : decode cX10_moves 97 = .ok (.iload_n 2, 1) := by decide +kernel
theorem dX10_moves_98 : decode cX10_moves 98 = .ok (.iconst 1, 1) := by decide +kernel
theorem dX10_moves_99 : decode cX10_moves 99 = .ok (.isub, 1) := by decide +kernel
theorem dX10_moves_100 : decode cX10_moves 100 = .ok (.iload 6, 2) := by decide +kernel
theorem dX10_moves_102 : decode cX10_moves 102 = .ok (.isub, 1) := by decide +kernel
theorem dX10_moves_103 : decode cX10_moves 103 = .ok (.ishl, 1) := by decide +kernel
theorem dX10_moves_104 : decode cX10_moves 104 = .ok (.iadd, 1) := by decide +kernel
theorem dX10_moves_105 : decode cX10_moves 105 = .ok (.istore 5, 2) := by decide +kernel
theorem dX10_moves_107 : decode cX10_moves 107 = .ok (.iconst 3, 1) := by decide +kernel
theorem dX10_moves_108 : decode cX10_moves 108 = .ok (.iload 4, 2) := by decide +kernel
theorem dX10_moves_110 : decode cX10_moves 110 = .ok (.isub, 1) := by decide +kernel
theorem dX10_moves_111 : decode cX10_moves 111 = .ok (.aload_n 0, 1) := by decide +kernel
theorem dX10_moves_112 : decode cX10_moves 112 = .ok (.getfield 92, 3) := by decide +kernel
theorem dX10_moves_115 : decode cX10_moves 115 = .ok (.iload 6, 2) := by decide +kernel
theorem dX10_moves_117 : decode cX10_moves 117 = .ok (.iaload, 1) := by decide +kernel
theorem dX10_moves_118 : decode cX10_moves 118 = .ok (.isub, 1) := by decide +kernel
theorem dX10_moves_119 : decode cX10_moves 119 = .ok (.istore 4, 2) := by decide +kernel
theorem dX10_moves_121 : decode cX10_moves 121 = .ok (.iinc 6 1, 3) := by decide +kernel
theorem dX10_moves_124 : decode cX10_moves 124 = .ok (.goto (-51), 3) := by decide +kernel
theorem dX10_moves_127 : decode cX10_moves 127 = .ok (.iload 5, 2) := by decide +kernel
theorem dX10_moves_129 : decode cX10_moves 129 = .ok (.ireturn, 1) := by decide +kernel
theorem dX10_billets_0 : decode cX10_billets 0 = .ok (.aload_n 0, 1) := by decide +kernel
theorem dX10_billets_1 : decode cX10_billets 1 = .ok (.iconst 0, 1) := by decide +kernel
theorem dX10_billets_2 : decode cX10_billets 2 = .ok (.putfield 131, 3) := by decide +kernel
theorem dX10_billets_5 : decode cX10_billets 5 = .ok (.aload_n 0, 1) := by decide +kernel
theorem dX10_billets_6 : decode cX10_billets 6 = .ok (.iload_n 1, 1) := by decide +kernel
theorem dX10_billets_7 : decode cX10_billets 7 = .ok (.iconst 0, 1) := by decide +kernel
theorem dX10_billets_8 : decode cX10_billets 8 = .ok (.bipush 10, 2) := by decide +kernel
theorem dX10_billets_10 : decode cX10_billets 10 = .ok (.invokevirtual 149, 3) := by decide +kernel
theorem dX10_billets_13 : decode cX10_billets 13 = .ok (.ifCond .eq 14, 3) := by decide +kernel
theorem dX10_billets_16 : decode cX10_billets 16 = .ok (.aload_n 0, 1) := by decide +kernel
theorem dX10_billets_17 : decode cX10_billets 17 = .ok (.iload_n 2, 1) := by decide +kernel
theorem dX10_billets_18 : decode cX10_billets 18 = .ok (.iconst (-1), 1) := by decide +kernel
theorem dX10_billets_19 : decode cX10_billets 19 = .ok (.bipush 10, 2) := by decide +kernel
theorem dX10_billets_21 : decode cX10_billets 21 = .ok (.invokevirtual 149, 3) := by decide +kernel
theorem dX10_billets_24 : decode cX10_billets 24 = .ok (.ifCond .ne 5, 3) := by decide +kernel
theorem dX10_billets_27 : decode cX10_billets 27 = .ok (.iconst (-1), 1) := by decide +kernel
theorem dX10_billets_28 : decode cX10_billets 28 = .ok (.ireturn, 1) := by decide +kernel
theorem dX10_billets_29 : decode cX10_billets 29 = .ok (.iconst 0, 1) := by decide +kernel
theorem dX10_billets_30 : decode cX10_billets 30 = .ok (.istore_n 3, 1) := by decide +kernel
theorem dX10_billets_31 : decode cX10_billets 31 = .ok (.iconst 0, 1) := by decide +kernel
theorem dX10_billets_32 : decode cX10_billets 32 = .ok (.istore 4, 2) := by decide +kernel
theorem dX10_billets_34 : decode cX10_billets 34 = .ok (.iload 4, 2) := by decide +kernel
theorem dX10_billets_36 : decode cX10_billets 36 = .ok (.iload_n 1, 1) := by decide +kernel
theorem dX10_billets_37 : decode cX10_billets 37 = .ok (.if_icmp .gt 116, 3) := by decide +kernel
theorem dX10_billets_40 : decode cX10_billets 40 = .ok (.iconst 0, 1) := by decide +kernel
theorem dX10_billets_41 : decode cX10_billets 41 = .ok (.istore 5, 2) := by decide +kernel
theorem dX10_billets_43 : decode cX10_billets 43 = .ok (.iload 5, 2) := by decide +kernel
theorem dX10_billets_45 : decode cX10_billets 45 = .ok (.bipush 11, 2) := by decide +kernel
theorem dX10_billets_47 : decode cX10_billets 47 = .ok (.if_icmp .ge 100, 3) := by decide +kernel
theorem dX10_billets_50 : decode cX10_billets 50 = .ok (.iload 4, 2) := by decide +kernel
theorem dX10_billets_52 : decode cX10_billets 52 = .ok (.ifCond .ne 12, 3) := by decide +kernel
theorem dX10_billets_55 : decode cX10_billets 55 = .ok (.iload 5, 2) := by decide +kernel
theorem dX10_billets_57 : decode cX10_billets 57 = .ok (.ifCond .ne 7, 3) := by decide +kernel
theorem dX10_billets_60 : decode cX10_billets 60 = .ok (.iconst 1, 1) := by decide +kernel
theorem dX10_billets_61 : decode cX10_billets 61 = .ok (.goto 4, 3) := by decide +kernel
theorem dX10_billets_64 : decode cX10_billets 64 = .ok (.iconst 0, 1) := by decide +kernel
theorem dX10_billets_65 : decode cX10_billets 65 = .ok (.istore 6, 2) := by decide +kernel
theorem dX10_billets_67 : decode cX10_billets 67 = .ok (.iload 4, 2) := by decide +kernel
theorem dX10_billets_69 : decode cX10_billets 69 = .ok (.ifCond .le 46, 3) := by decide +kernel
theorem dX10_billets_72 : decode cX10_billets 72 = .ok (.iload 5, 2) := by decide +kernel
theorem dX10_billets_74 : decode cX10_billets 74 = .ok (.ifCond .le 41, 3) := by decide +kernel
theorem dX10_billets_77 : decode cX10_billets 77 = .ok (.aload_n 0, 1) := by decide +kernel
theorem dX10_billets_78 : decode cX10_billets 78 = .ok (.getfield 95, 3) := by decide +kernel
theorem dX10_billets_81 : decode cX10_billets 81 = .ok (.bipush 11, 2) := by decide +kernel
theorem dX10_billets_83 : decode cX10_billets 83 = .ok (.iload 4, 2) := by decide +kernel
theorem dX10_billets_85 : decode cX10_billets 85 = .ok (.iconst 1, 1) := by decide +kernel
theorem dX10_billets_86 : decode cX10_billets 86 = .ok (.isub, 1) := by decide +kernel
theorem dX10_billets_87 : decode cX10_billets 87 = .ok (.imul, 1) := by decide +kernel
theorem dX10_billets_88 : decode cX10_billets 88 = .ok (.iload 5, 2) := by decide +kernel
theorem dX10_billets_90 : decode cX10_billets 90 = .ok (.iadd, 1) := by decide +kernel
theorem dX10_billets_91 : decode cX10_billets 91 = .ok (.iconst 1, 1) := by decide +kernel
theorem dX10_billets_92 : decode cX10_billets 92 = .ok (.isub, 1) := by decide +kernel
theorem dX10_billets_93 : decode cX10_billets 93 = .ok (.iaload, 1) := by decide +kernel
theorem dX10_billets_94 : decode cX10_billets 94 = .ok (.iload 5, 2) := by decide +kernel
theorem dX10_billets_96 : decode cX10_billets 96 = .ok (.aload_n 0, 1) := by decide +kernel
theorem dX10_billets_97 : decode cX10_billets 97 = .ok (.getfield 95, 3) := by decide +kernel
theorem dX10_billets_100 : decode cX10_billets 100 = .ok (.bipush 11, 2) := by decide +kernel
theorem dX10_billets_102 : decode cX10_billets 102 = .ok (.iload 4, 2) := by decide +kernel
theorem dX10_billets_104 : decode cX10_billets 104 = .ok (.iconst 1, 1) := by decide +kernel
theorem dX10_billets_105 : decode cX10_billets 105 = .ok (.isub, 1) := by decide +kernel
theorem dX10_billets_106 : decode cX10_billets 106 = .ok (.imul, 1) := by decide +kernel
theorem dX10_billets_107 : decode cX10_billets 107 = .ok (.iload 5, 2) := by decide +kernel
theorem dX10_billets_109 : decode cX10_billets 109 = .ok (.iadd, 1) := by decide +kernel
theorem dX10_billets_110 : decode cX10_billets 110 = .ok (.iaload, 1) := by decide +kernel
theorem dX10_billets_111 : decode cX10_billets 111 = .ok (.imul, 1) := by decide +kernel
theorem dX10_billets_112 : decode cX10_billets 112 = .ok (.iadd, 1) := by decide +kernel
theorem dX10_billets_113 : decode cX10_billets 113 = .ok (.istore 6, 2) := by decide +kernel
theorem dX10_billets_115 : decode cX10_billets 115 = .ok (.aload_n 0, 1) := by decide +kernel
theorem dX10_billets_116 : decode cX10_billets 116 = .ok (.getfield 95, 3) := by decide +kernel
theorem dX10_billets_119 : decode cX10_billets 119 = .ok (.bipush 11, 2) := by decide +kernel
theorem dX10_billets_121 : decode cX10_billets 121 = .ok (.iload 4, 2) := by decide +kernel
theorem dX10_billets_123 : decode cX10_billets 123 = .ok (.imul, 1) := by decide +kernel
theorem dX10_billets_124 : decode cX10_billets 124 = .ok (.iload 5, 2) := by decide +kernel
theorem dX10_billets_126 : decode cX10_billets 126 = .ok (.iadd, 1) := by decide +kernel
theorem dX10_billets_127 : decode cX10_billets 127 = .ok (.iload 6, 2) := by decide +kernel
theorem dX10_billets_129 : decode cX10_billets 129 = .ok (.iastore, 1) := by decide +kernel
theorem dX10_billets_130 : decode cX10_billets 130 = .ok (.iload 4, 2) := by decide +kernel
theorem dX10_billets_132 : decode cX10_billets 132 = .ok (.iload_n 1, 1) := by decide +kernel
theorem dX10_billets_133 : decode cX10_billets 133 = .ok (.if_icmp .ne 8, 3) := by decide +kernel
theorem dX10_billets_136 : decode cX10_billets 136 = .ok (.iload_n 3, 1) := by decide +kernel
theorem dX10_billets_137 : decode cX10_billets 137 = .ok (.iload 6, 2) := by decide +kernel
theorem dX10_billets_139 : decode cX10_billets 139 = .ok (.iadd, 1) := by decide +kernel
theorem dX10_billets_140 : decode cX10_billets 140 = .ok (.istore_n 3, 1) := by decide +kernel
theorem dX10_billets_141 : decode cX10_billets 141 = .ok (.iinc 5 1, 3) := by decide +kernel
theorem dX10_billets_144 : decode cX10_billets 144 = .ok (.goto (-101), 3) := by decide +kernel
theorem dX10_billets_147 : decode cX10_billets 147 = .ok (.iinc 4 1, 3) := by decide +kernel
theorem dX10_billets_150 : decode cX10_billets 150 = .ok (.goto (-116), 3) := by decide +kernel
theorem dX10_billets_153 : decode cX10_billets 153 = .ok (.iload_n 2, 1) := by decide +kernel
theorem dX10_billets_154 : decode cX10_billets 154 = .ok (.iconst (-1), 1) := by decide +kernel
theorem dX10_billets_155 : decode cX10_billets 155 = .ok (.if_icmp .ne 7, 3) := by decide +kernel
theorem dX10_billets_158 : decode cX10_billets 158 = .ok (.iload_n 3, 1) := by decide +kernel
theorem dX10_billets_159 : decode cX10_billets 159 = .ok (.goto 14, 3) := by decide +kernel
theorem dX10_billets_162 : decode cX10_billets 162 = .ok (.aload_n 0, 1) := by decide +kernel
theorem dX10_billets_163 : decode cX10_billets 163 = .ok (.getfield 95, 3) := by decide +kernel
theorem dX10_billets_166 : decode cX10_billets 166 = .ok (.bipush 11, 2) := by decide +kernel
theorem dX10_billets_168 : decode cX10_billets 168 = .ok (.iload_n 1, 1) := by decide +kernel
theorem dX10_billets_169 : decode cX10_billets 169 = .ok (.imul, 1) := by decide +kernel
theorem dX10_billets_170 : decode cX10_billets 170 = .ok (.iload_n 2, 1) := by decide +kernel
theorem dX10_billets_171 : decode cX10_billets 171 = .ok (.iadd, 1) := by decide +kernel
theorem dX10_billets_172 : decode cX10_billets 172 = .ok (.iaload, 1) := by decide +kernel
theorem dX10_billets_173 : decode cX10_billets 173 = .ok (.ireturn, 1) := by decide +kernel
theorem dX10_chosen_0 : decode cX10_chosen 0 = .ok (.iconst 1, 1) := by decide +kernel
theorem dX10_chosen_1 : decode cX10_chosen 1 = .ok (.istore_n 3, 1) := by decide +kernel
theorem dX10_chosen_2 : decode cX10_chosen 2 = .ok (.iconst 1, 1) := by decide +kernel
theorem dX10_chosen_3 : decode cX10_chosen 3 = .ok (.istore 4, 2) := by decide +kernel
theorem dX10_chosen_5 : decode cX10_chosen 5 = .ok (.iload 4, 2) := by decide +kernel
theorem dX10_chosen_7 : decode cX10_chosen 7 = .ok (.iload_n 2, 1) := by decide +kernel
theorem dX10_chosen_8 : decode cX10_chosen 8 = .ok (.if_icmp .gt 21, 3) := by decide +kernel
theorem dX10_chosen_11 : decode cX10_chosen 11 = .ok (.iload_n 3, 1) := by decide +kernel
theorem dX10_chosen_12 : decode cX10_chosen 12 = .ok (.iload_n 1, 1) := by decide +kernel
theorem dX10_chosen_13 : decode cX10_chosen 13 = .ok (.iload_n 2, 1) := by decide +kernel
theorem dX10_chosen_14 : decode cX10_chosen 14 = .ok (.isub, 1) := by decide +kernel
theorem dX10_chosen_15 : decode cX10_chosen 15 = .ok (.iload 4, 2) := by decide +kernel
theorem dX10_chosen_17 : decode cX10_chosen 17 = .ok (.iadd, 1) := by decide +kernel
theorem dX10_chosen_18 : decode cX10_chosen 18 = .ok (.imul, 1) := by decide +kernel
theorem dX10_chosen_19 : decode cX10_chosen 19 = .ok (.iload 4, 2) := by decide +kernel
theorem dX10_chosen_21 : decode cX10_chosen 21 = .ok (.idiv, 1) := by decide +kernel
theorem dX10_chosen_22 : decode cX10_chosen 22 = .ok (.istore_n 3, 1) := by decide +kernel
theorem dX10_chosen_23 : decode cX10_chosen 23 = .ok (.iinc 4 1, 3) := by decide +kernel
theorem dX10_chosen_26 : decode cX10_chosen 26 = .ok (.goto (-21), 3) := by decide +kernel
theorem dX10_chosen_29 : decode cX10_chosen 29 = .ok (.iload_n 3, 1) := by decide +kernel
theorem dX10_chosen_30 : decode cX10_chosen 30 = .ok (.ireturn, 1) := by decide +kernel
theorem dX10_pairs_0 : decode cX10_pairs 0 = .ok (.aload_n 0, 1) := by decide +kernel
theorem dX10_pairs_1 : decode cX10_pairs 1 = .ok (.iconst 0, 1) := by decide +kernel
theorem dX10_pairs_2 : decode cX10_pairs 2 = .ok (.putfield 131, 3) := by decide +kernel
theorem dX10_pairs_5 : decode cX10_pairs 5 = .ok (.aload_n 0, 1) := by decide +kernel
theorem dX10_pairs_6 : decode cX10_pairs 6 = .ok (.iload_n 1, 1) := by decide +kernel
theorem dX10_pairs_7 : decode cX10_pairs 7 = .ok (.iconst 0, 1) := by decide +kernel
theorem dX10_pairs_8 : decode cX10_pairs 8 = .ok (.bipush 10, 2) := by decide +kernel
theorem dX10_pairs_10 : decode cX10_pairs 10 = .ok (.invokevirtual 149, 3) := by decide +kernel
theorem dX10_pairs_13 : decode cX10_pairs 13 = .ok (.ifCond .eq 13, 3) := by decide +kernel
theorem dX10_pairs_16 : decode cX10_pairs 16 = .ok (.aload_n 0, 1) := by decide +kernel
theorem dX10_pairs_17 : decode cX10_pairs 17 = .ok (.iload_n 2, 1) := by decide +kernel
theorem dX10_pairs_18 : decode cX10_pairs 18 = .ok (.iconst 0, 1) := by decide +kernel
theorem dX10_pairs_19 : decode cX10_pairs 19 = .ok (.iload_n 1, 1) := by decide +kernel
theorem dX10_pairs_20 : decode cX10_pairs 20 = .ok (.invokevirtual 149, 3) := by decide +kernel
theorem dX10_pairs_23 : decode cX10_pairs 23 = .ok (.ifCond .ne 5, 3) := by decide +kernel
theorem dX10_pairs_26 : decode cX10_pairs 26 = .ok (.iconst (-1), 1) := by decide +kernel
theorem dX10_pairs_27 : decode cX10_pairs 27 = .ok (.ireturn, 1) := by decide +kernel
theorem dX10_pairs_28 : decode cX10_pairs 28 = .ok (.iconst 1, 1) := by decide +kernel
theorem dX10_pairs_29 : decode cX10_pairs 29 = .ok (.istore_n 3, 1) := by decide +kernel
theorem dX10_pairs_30 : decode cX10_pairs 30 = .ok (.iconst 1, 1) := by decide +kernel
theorem dX10_pairs_31 : decode cX10_pairs 31 = .ok (.istore 4, 2) := by decide +kernel
theorem dX10_pairs_33 : decode cX10_pairs 33 = .ok (.iload 4, 2) := by decide +kernel
theorem dX10_pairs_35 : decode cX10_pairs 35 = .ok (.iload_n 1, 1) := by decide +kernel
theorem dX10_pairs_36 : decode cX10_pairs 36 = .ok (.iload_n 2, 1) := by decide +kernel
theorem dX10_pairs_37 : decode cX10_pairs 37 = .ok (.isub, 1) := by decide +kernel
theorem dX10_pairs_38 : decode cX10_pairs 38 = .ok (.if_icmp .gt 27, 3) := by decide +kernel
theorem dX10_pairs_41 : decode cX10_pairs 41 = .ok (.iload_n 3, 1) := by decide +kernel
theorem dX10_pairs_42 : decode cX10_pairs 42 = .ok (.iload 4, 2) := by decide +kernel
theorem dX10_pairs_44 : decode cX10_pairs 44 = .ok (.imul, 1) := by decide +kernel
theorem dX10_pairs_45 : decode cX10_pairs 45 = .ok (.iload 4, 2) := by decide +kernel
theorem dX10_pairs_47 : decode cX10_pairs 47 = .ok (.iconst 2, 1) := by decide +kernel
theorem dX10_pairs_48 : decode cX10_pairs 48 = .ok (.irem, 1) := by decide +kernel
theorem dX10_pairs_49 : decode cX10_pairs 49 = .ok (.ifCond .ne 7, 3) := by decide +kernel
theorem dX10_pairs_52 : decode cX10_pairs 52 = .ok (.iconst 1, 1) := by decide +kernel
theorem dX10_pairs_53 : decode cX10_pairs 53 = .ok (.goto 4, 3) := by decide +kernel
theorem dX10_pairs_56 : decode cX10_pairs 56 = .ok (.iconst (-1), 1) := by decide +kernel
theorem dX10_pairs_57 : decode cX10_pairs 57 = .ok (.iadd, 1) := by decide +kernel
theorem dX10_pairs_58 : decode cX10_pairs 58 = .ok (.istore_n 3, 1) := by decide +kernel
theorem dX10_pairs_59 : decode cX10_pairs 59 = .ok (.iinc 4 1, 3) := by decide +kernel
theorem dX10_pairs_62 : decode cX10_pairs 62 = .ok (.goto (-29), 3) := by decide +kernel
theorem dX10_pairs_65 : decode cX10_pairs 65 = .ok (.aload_n 0, 1) := by decide +kernel
theorem dX10_pairs_66 : decode cX10_pairs 66 = .ok (.iload_n 1, 1) := by decide +kernel
theorem dX10_pairs_67 : decode cX10_pairs 67 = .ok (.iload_n 2, 1) := by decide +kernel
theorem dX10_pairs_68 : decode cX10_pairs 68 = .ok (.invokevirtual 422, 3) := by decide +kernel
theorem dX10_pairs_71 : decode cX10_pairs 71 = .ok (.iload_n 3, 1) := by decide +kernel
theorem dX10_pairs_72 : decode cX10_pairs 72 = .ok (.imul, 1) := by decide +kernel
theorem dX10_pairs_73 : decode cX10_pairs 73 = .ok (.ireturn, 1) := by decide +kernel
theorem dX10_ahead_0 : decode cX10_ahead 0 = .ok (.aload_n 0, 1) := by decide +kernel
theorem dX10_ahead_1 : decode cX10_ahead 1 = .ok (.iconst 0, 1) := by decide +kernel
theorem dX10_ahead_2 : decode cX10_ahead 2 = .ok (.putfield 131, 3) := by decide +kernel
theorem dX10_ahead_5 : decode cX10_ahead 5 = .ok (.aload_n 0, 1) := by decide +kernel
theorem dX10_ahead_6 : decode cX10_ahead 6 = .ok (.iload_n 1, 1) := by decide +kernel
theorem dX10_ahead_7 : decode cX10_ahead 7 = .ok (.iconst 0, 1) := by decide +kernel
theorem dX10_ahead_8 : decode cX10_ahead 8 = .ok (.bipush 12, 2) := by decide +kernel
theorem dX10_ahead_10 : decode cX10_ahead 10 = .ok (.invokevirtual 149, 3) := by decide +kernel
theorem dX10_ahead_13 : decode cX10_ahead 13 = .ok (.ifCond .eq 29, 3) := by decide +kernel
theorem dX10_ahead_16 : decode cX10_ahead 16 = .ok (.aload_n 0, 1) := by decide +kernel
theorem dX10_ahead_17 : decode cX10_ahead 17 = .ok (.iload_n 2, 1) := by decide +kernel
theorem dX10_ahead_18 : decode cX10_ahead 18 = .ok (.iconst 0, 1) := by decide +kernel
theorem dX10_ahead_19 : decode cX10_ahead 19 = .ok (.bipush 12, 2) := by decide +kernel
theorem dX10_ahead_21 : decode cX10_ahead 21 = .ok (.invokevirtual 149, 3) := by decide +kernel
theorem dX10_ahead_24 : decode cX10_ahead 24 = .ok (.ifCond .eq 18, 3) := by decide +kernel
theorem dX10_ahead_27 : decode cX10_ahead 27 = .ok (.iload_n 1, 1) := by decide +kernel
theorem dX10_ahead_28 : decode cX10_ahead 28 = .ok (.iload_n 2, 1) := by decide +kernel
theorem dX10_ahead_29 : decode cX10_ahead 29 = .ok (.if_icmp .le 13, 3) := by decide +kernel
theorem dX10_ahead_32 : decode cX10_ahead 32 = .ok (.aload_n 0, 1) := by decide +kernel
theorem dX10_ahead_33 : decode cX10_ahead 33 = .ok (.iload_n 3, 1) := by decide +kernel
theorem dX10_ahead_34 : decode cX10_ahead 34 = .ok (.iconst 0, 1) := by decide +kernel
theorem dX10_ahead_35 : decode cX10_ahead 35 = .ok (.iconst 2, 1) := by decide +kernel
theorem dX10_ahead_36 : decode cX10_ahead 36 = .ok (.invokevirtual 149, 3) := by decide +kernel
theorem dX10_ahead_39 : decode cX10_ahead 39 = .ok (.ifCond .ne 5, 3) := by decide +kernel
theorem dX10_ahead_42 : decode cX10_ahead 42 = .ok (.iconst (-1), 1) := by decide +kernel
theorem dX10_ahead_43 : decode cX10_ahead 43 = .ok (.ireturn, 1) := by decide +kernel
theorem dX10_ahead_44 : decode cX10_ahead 44 = .ok (.iconst 0, 1) := by decide +kernel
theorem dX10_ahead_45 : decode cX10_ahead 45 = .ok (.istore 4, 2) := by decide +kernel
theorem dX10_ahead_47 : decode cX10_ahead 47 = .ok (.iload 4, 2) := by decide +kernel
theorem dX10_ahead_49 : decode cX10_ahead 49 = .ok (.iload_n 1, 1) := by decide +kernel
theorem dX10_ahead_50 : decode cX10_ahead 50 = .ok (.if_icmp .gt 105, 3) := by decide +kernel
theorem dX10_ahead_53 : decode cX10_ahead 53 = .ok (.iconst 0, 1) := by decide +kernel
theorem dX10_ahead_54 : decode cX10_ahead 54 = .ok (.istore 5, 2) := by decide +kernel
theorem dX10_ahead_56 : decode cX10_ahead 56 = .ok (.iload 5, 2) := by decide +kernel
theorem dX10_ahead_58 : decode cX10_ahead 58 = .ok (.iload_n 2, 1) := by decide +kernel
theorem dX10_ahead_59 : decode cX10_ahead 59 = .ok (.if_icmp .gt 90, 3) := by decide +kernel
theorem dX10_ahead_62 : decode cX10_ahead 62 = .ok (.iload 4, 2) := by decide +kernel
theorem dX10_ahead_64 : decode cX10_ahead 64 = .ok (.ifCond .ne 12, 3) := by decide +kernel
theorem dX10_ahead_67 : decode cX10_ahead 67 = .ok (.iload 5, 2) := by decide +kernel
theorem dX10_ahead_69 : decode cX10_ahead 69 = .ok (.ifCond .ne 7, 3) := by decide +kernel
theorem dX10_ahead_72 : decode cX10_ahead 72 = .ok (.iconst 1, 1) := by decide +kernel
theorem dX10_ahead_73 : decode cX10_ahead 73 = .ok (.goto 4, 3) := by decide +kernel
theorem dX10_ahead_76 : decode cX10_ahead 76 = .ok (.iconst 0, 1) := by decide +kernel
theorem dX10_ahead_77 : decode cX10_ahead 77 = .ok (.istore 6, 2) := by decide +kernel
theorem dX10_ahead_79 : decode cX10_ahead 79 = .ok (.iload 4, 2) := by decide +kernel
theorem dX10_ahead_81 : decode cX10_ahead 81 = .ok (.iload 5, 2) := by decide +kernel
theorem dX10_ahead_83 : decode cX10_ahead 83 = .ok (.if_icmp .le 45, 3) := by decide +kernel
theorem dX10_ahead_86 : decode cX10_ahead 86 = .ok (.aload_n 0, 1) := by decide +kernel
theorem dX10_ahead_87 : decode cX10_ahead 87 = .ok (.getfield 98, 3) := by decide +kernel
theorem dX10_ahead_90 : decode cX10_ahead 90 = .ok (.bipush 13, 2) := by decide +kernel
theorem dX10_ahead_92 : decode cX10_ahead 92 = .ok (.iload 4, 2) := by decide +kernel
theorem dX10_ahead_94 : decode cX10_ahead 94 = .ok (.iconst 1, 1) := by decide +kernel
theorem dX10_ahead_95 : decode cX10_ahead 95 = .ok (.isub, 1) := by decide +kernel
theorem dX10_ahead_96 : decode cX10_ahead 96 = .ok (.imul, 1) := by decide +kernel
theorem dX10_ahead_97 : decode cX10_ahead 97 = .ok (.iload 5, 2) := by decide +kernel
theorem dX10_ahead_99 : decode cX10_ahead 99 = .ok (.iadd, 1) := by decide +kernel
theorem dX10_ahead_100 : decode cX10_ahead 100 = .ok (.iaload, 1) := by decide +kernel
theorem dX10_ahead_101 : decode cX10_ahead 101 = .ok (.iload 5, 2) := by decide +kernel
theorem dX10_ahead_103 : decode cX10_ahead 103 = .ok (.ifCond .ne 7, 3) := by decide +kernel
theorem dX10_ahead_106 : decode cX10_ahead 106 = .ok (.iconst 0, 1) := by decide +kernel
theorem dX10_ahead_107 : decode cX10_ahead 107 = .ok (.goto 18, 3) := by decide +kernel
theorem dX10_ahead_110 : decode cX10_ahead 110 = .ok (.aload_n 0, 1) := by decide +kernel
theorem dX10_ahead_111 : decode cX10_ahead 111 = .ok (.getfield 98, 3) := by decide +kernel
theorem dX10_ahead_114 : decode cX10_ahead 114 = .ok (.bipush 13, 2) := by decide +kernel
theorem dX10_ahead_116 : decode cX10_ahead 116 = .ok (.iload 4, 2) := by decide +kernel
theorem dX10_ahead_118 : decode cX10_ahead 118 = .ok (.imul, 1) := by decide +kernel
theorem dX10_ahead_119 : decode cX10_ahead 119 = .ok (.iload 5, 2) := by decide +kernel
theorem dX10_ahead_121 : decode cX10_ahead 121 = .ok (.iadd, 1) := by decide +kernel
theorem dX10_ahead_122 : decode cX10_ahead 122 = .ok (.iconst 1, 1) := by decide +kernel
theorem dX10_ahead_123 : decode cX10_ahead 123 = .ok (.isub, 1) := by decide +kernel
theorem dX10_ahead_124 : decode cX10_ahead 124 = .ok (.iaload, 1) := by decide +kernel
theorem dX10_ahead_125 : decode cX10_ahead 125 = .ok (.iadd, 1) := by decide +kernel
theorem dX10_ahead_126 : decode cX10_ahead 126 = .ok (.istore 6, 2) := by decide +kernel
theorem dX10_ahead_128 : decode cX10_ahead 128 = .ok (.aload_n 0, 1) := by decide +kernel
theorem dX10_ahead_129 : decode cX10_ahead 129 = .ok (.getfield 98, 3) := by decide +kernel
theorem dX10_ahead_132 : decode cX10_ahead 132 = .ok (.bipush 13, 2) := by decide +kernel
theorem dX10_ahead_134 : decode cX10_ahead 134 = .ok (.iload 4, 2) := by decide +kernel
theorem dX10_ahead_136 : decode cX10_ahead 136 = .ok (.imul, 1) := by decide +kernel
theorem dX10_ahead_137 : decode cX10_ahead 137 = .ok (.iload 5, 2) := by decide +kernel
theorem dX10_ahead_139 : decode cX10_ahead 139 = .ok (.iadd, 1) := by decide +kernel
theorem dX10_ahead_140 : decode cX10_ahead 140 = .ok (.iload 6, 2) := by decide +kernel
theorem dX10_ahead_142 : decode cX10_ahead 142 = .ok (.iastore, 1) := by decide +kernel
theorem dX10_ahead_143 : decode cX10_ahead 143 = .ok (.iinc 5 1, 3) := by decide +kernel
theorem dX10_ahead_146 : decode cX10_ahead 146 = .ok (.goto (-90), 3) := by decide +kernel
theorem dX10_ahead_149 : decode cX10_ahead 149 = .ok (.iinc 4 1, 3) := by decide +kernel
theorem dX10_ahead_152 : decode cX10_ahead 152 = .ok (.goto (-105), 3) := by decide +kernel
theorem dX10_ahead_155 : decode cX10_ahead 155 = .ok (.aload_n 0, 1) := by decide +kernel
theorem dX10_ahead_156 : decode cX10_ahead 156 = .ok (.getfield 98, 3) := by decide +kernel
theorem dX10_ahead_159 : decode cX10_ahead 159 = .ok (.bipush 13, 2) := by decide +kernel
theorem dX10_ahead_161 : decode cX10_ahead 161 = .ok (.iload_n 1, 1) := by decide +kernel
theorem dX10_ahead_162 : decode cX10_ahead 162 = .ok (.imul, 1) := by decide +kernel
theorem dX10_ahead_163 : decode cX10_ahead 163 = .ok (.iload_n 2, 1) := by decide +kernel
theorem dX10_ahead_164 : decode cX10_ahead 164 = .ok (.iadd, 1) := by decide +kernel
theorem dX10_ahead_165 : decode cX10_ahead 165 = .ok (.iaload, 1) := by decide +kernel
theorem dX10_ahead_166 : decode cX10_ahead 166 = .ok (.istore 4, 2) := by decide +kernel
theorem dX10_ahead_168 : decode cX10_ahead 168 = .ok (.aload_n 0, 1) := by decide +kernel
theorem dX10_ahead_169 : decode cX10_ahead 169 = .ok (.iload_n 1, 1) := by decide +kernel
theorem dX10_ahead_170 : decode cX10_ahead 170 = .ok (.iload_n 2, 1) := by decide +kernel
theorem dX10_ahead_171 : decode cX10_ahead 171 = .ok (.iadd, 1) := by decide +kernel
theorem dX10_ahead_172 : decode cX10_ahead 172 = .ok (.iload_n 2, 1) := by decide +kernel
theorem dX10_ahead_173 : decode cX10_ahead 173 = .ok (.invokevirtual 422, 3) := by decide +kernel
theorem dX10_ahead_176 : decode cX10_ahead 176 = .ok (.istore 5, 2) := by decide +kernel
theorem dX10_ahead_178 : decode cX10_ahead 178 = .ok (.aload_n 0, 1) := by decide +kernel
theorem dX10_ahead_179 : decode cX10_ahead 179 = .ok (.iload 4, 2) := by decide +kernel
theorem dX10_ahead_181 : decode cX10_ahead 181 = .ok (.iload 5, 2) := by decide +kernel
theorem dX10_ahead_183 : decode cX10_ahead 183 = .ok (.invokevirtual 425, 3) := by decide +kernel
theorem dX10_ahead_186 : decode cX10_ahead 186 = .ok (.istore 6, 2) := by decide +kernel
theorem dX10_ahead_188 : decode cX10_ahead 188 = .ok (.iload_n 3, 1) := by decide +kernel
theorem dX10_ahead_189 : decode cX10_ahead 189 = .ok (.ifCond .ne 8, 3) := by decide +kernel
theorem dX10_ahead_192 : decode cX10_ahead 192 = .ok (.iload 4, 2) := by decide +kernel
theorem dX10_ahead_194 : decode cX10_ahead 194 = .ok (.goto 21, 3) := by decide +kernel
theorem dX10_ahead_197 : decode cX10_ahead 197 = .ok (.iload_n 3, 1) := by decide +kernel
theorem dX10_ahead_198 : decode cX10_ahead 198 = .ok (.iconst 1, 1) := by decide +kernel
theorem dX10_ahead_199 : decode cX10_ahead 199 = .ok (.if_icmp .ne 11, 3) := by decide +kernel
theorem dX10_ahead_202 : decode cX10_ahead 202 = .ok (.iload 4, 2) := by decide +kernel
theorem dX10_ahead_204 : decode cX10_ahead 204 = .ok (.iload 6, 2) := by decide +kernel
theorem dX10_ahead_206 : decode cX10_ahead 206 = .ok (.idiv, 1) := by decide +kernel
theorem dX10_ahead_207 : decode cX10_ahead 207 = .ok (.goto 8, 3) := by decide +kernel
theorem dX10_ahead_210 : decode cX10_ahead 210 = .ok (.iload 5, 2) := by decide +kernel
theorem dX10_ahead_212 : decode cX10_ahead 212 = .ok (.iload 6, 2) := by decide +kernel
theorem dX10_ahead_214 : decode cX10_ahead 214 = .ok (.idiv, 1) := by decide +kernel
theorem dX10_ahead_215 : decode cX10_ahead 215 = .ok (.ireturn, 1) := by decide +kernel
theorem dX10_feast_0 : decode cX10_feast 0 = .ok (.aload_n 0, 1) := by decide +kernel
theorem dX10_feast_1 : decode cX10_feast 1 = .ok (.iconst 0, 1) := by decide +kernel
theorem dX10_feast_2 : decode cX10_feast 2 = .ok (.putfield 131, 3) := by decide +kernel
theorem dX10_feast_5 : decode cX10_feast 5 = .ok (.aload_n 0, 1) := by decide +kernel
theorem dX10_feast_6 : decode cX10_feast 6 = .ok (.iload_n 1, 1) := by decide +kernel
theorem dX10_feast_7 : decode cX10_feast 7 = .ok (.sipush 1600, 3) := by decide +kernel
theorem dX10_feast_10 : decode cX10_feast 10 = .ok (.sipush 2400, 3) := by decide +kernel
theorem dX10_feast_13 : decode cX10_feast 13 = .ok (.invokevirtual 149, 3) := by decide +kernel
theorem dX10_feast_16 : decode cX10_feast 16 = .ok (.ifCond .eq 13, 3) := by decide +kernel
theorem dX10_feast_19 : decode cX10_feast 19 = .ok (.aload_n 0, 1) := by decide +kernel
theorem dX10_feast_20 : decode cX10_feast 20 = .ok (.iload_n 2, 1) := by decide +kernel
theorem dX10_feast_21 : decode cX10_feast 21 = .ok (.iconst 0, 1) := by decide +kernel
theorem dX10_feast_22 : decode cX10_feast 22 = .ok (.iconst 1, 1) := by decide +kernel
theorem dX10_feast_23 : decode cX10_feast 23 = .ok (.invokevirtual 149, 3) := by decide +kernel
theorem dX10_feast_26 : decode cX10_feast 26 = .ok (.ifCond .ne 5, 3) := by decide +kernel
theorem dX10_feast_29 : decode cX10_feast 29 = .ok (.iconst (-1), 1) := by decide +kernel
theorem dX10_feast_30 : decode cX10_feast 30 = .ok (.ireturn, 1) := by decide +kernel
theorem dX10_feast_31 : decode cX10_feast 31 = .ok (.iload_n 1, 1) := by decide +kernel
theorem dX10_feast_32 : decode cX10_feast 32 = .ok (.bipush 19, 2) := by decide +kernel
theorem dX10_feast_34 : decode cX10_feast 34 = .ok (.irem, 1) := by decide +kernel
theorem dX10_feast_35 : decode cX10_feast 35 = .ok (.istore_n 3, 1) := by decide +kernel
theorem dX10_feast_36 : decode cX10_feast 36 = .ok (.iload_n 1, 1) := by decide +kernel
theorem dX10_feast_37 : decode cX10_feast 37 = .ok (.bipush 100, 2) := by decide +kernel
theorem dX10_feast_39 : decode cX10_feast 39 = .ok (.idiv, 1) := by decide +kernel
theorem dX10_feast_40 : decode cX10_feast 40 = .ok (.istore 4, 2) := by decide +kernel
theorem dX10_feast_42 : decode cX10_feast 42 = .ok (.iload_n 1, 1) := by decide +kernel
theorem dX10_feast_43 : decode cX10_feast 43 = .ok (.bipush 100, 2) := by decide +kernel
theorem dX10_feast_45 : decode cX10_feast 45 = .ok (.irem, 1) := by decide +kernel
theorem dX10_feast_46 : decode cX10_feast 46 = .ok (.istore 5, 2) := by decide +kernel
theorem dX10_feast_48 : decode cX10_feast 48 = .ok (.iload 4, 2) := by decide +kernel
theorem dX10_feast_50 : decode cX10_feast 50 = .ok (.bipush 8, 2) := by decide +kernel
theorem dX10_feast_52 : decode cX10_feast 52 = .ok (.iadd, 1) := by decide +kernel
theorem dX10_feast_53 : decode cX10_feast 53 = .ok (.bipush 25, 2) := by decide +kernel
theorem dX10_feast_55 : decode cX10_feast 55 = .ok (.idiv, 1) := by decide +kernel
theorem dX10_feast_56 : decode cX10_feast 56 = .ok (.istore 6, 2) := by decide +kernel
theorem dX10_feast_58 : decode cX10_feast 58 = .ok (.iload 4, 2) := by decide +kernel
theorem dX10_feast_60 : decode cX10_feast 60 = .ok (.iload 6, 2) := by decide +kernel
theorem dX10_feast_62 : decode cX10_feast 62 = .ok (.isub, 1) := by decide +kernel
theorem dX10_feast_63 : decode cX10_feast 63 = .ok (.iconst 1, 1) := by decide +kernel
theorem dX10_feast_64 : decode cX10_feast 64 = .ok (.iadd, 1) := by decide +kernel
theorem dX10_feast_65 : decode cX10_feast 65 = .ok (.iconst 3, 1) := by decide +kernel
theorem dX10_feast_66 : decode cX10_feast 66 = .ok (.idiv, 1) := by decide +kernel
theorem dX10_feast_67 : decode cX10_feast 67 = .ok (.istore 7, 2) := by decide +kernel
theorem dX10_feast_69 : decode cX10_feast 69 = .ok (.bipush 19, 2) := by decide +kernel
theorem dX10_feast_71 : decode cX10_feast 71 = .ok (.iload_n 3, 1) := by decide +kernel
theorem dX10_feast_72 : decode cX10_feast 72 = .ok (.imul, 1) := by decide +kernel
theorem dX10_feast_73 : decode cX10_feast 73 = .ok (.iload 4, 2) := by decide +kernel
theorem dX10_feast_75 : decode cX10_feast 75 = .ok (.iadd, 1) := by decide +kernel
theorem dX10_feast_76 : decode cX10_feast 76 = .ok (.iload 4, 2) := by decide +kernel
theorem dX10_feast_78 : decode cX10_feast 78 = .ok (.iconst 4, 1) := by decide +kernel
theorem dX10_feast_79 : decode cX10_feast 79 = .ok (.idiv, 1) := by decide +kernel
theorem dX10_feast_80 : decode cX10_feast 80 = .ok (.isub, 1) := by decide +kernel
theorem dX10_feast_81 : decode cX10_feast 81 = .ok (.iload 7, 2) := by decide +kernel
theorem dX10_feast_83 : decode cX10_feast 83 = .ok (.isub, 1) := by decide +kernel
theorem dX10_feast_84 : decode cX10_feast 84 = .ok (.bipush 15, 2) := by decide +kernel
theorem dX10_feast_86 : decode cX10_feast 86 = .ok (.iadd, 1) := by decide +kernel
theorem dX10_feast_87 : decode cX10_feast 87 = .ok (.bipush 30, 2) := by decide +kernel
theorem dX10_feast_89 : decode cX10_feast 89 = .ok (.irem, 1) := by decide +kernel
theorem dX10_feast_90 : decode cX10_feast 90 = .ok (.istore 8, 2) := by decide +kernel
theorem dX10_feast_92 : decode cX10_feast 92 = .ok (.bipush 32, 2) := by decide +kernel
theorem dX10_feast_94 : decode cX10_feast 94 = .ok (.iconst 2, 1) := by decide +kernel
theorem dX10_feast_95 : decode cX10_feast 95 = .ok (.iload 4, 2) := by decide +kernel
theorem dX10_feast_97 : decode cX10_feast 97 = .ok (.iconst 4, 1) := by decide +kernel
theorem dX10_feast_98 : decode cX10_feast 98 = .ok (.irem, 1) := by decide +kernel
theorem dX10_feast_99 : decode cX10_feast 99 = .ok (.imul, 1) := by decide +kernel
theorem dX10_feast_100 : decode cX10_feast 100 = .ok (.iadd, 1) := by decide +kernel
theorem dX10_feast_101 : decode cX10_feast 101 = .ok (.iconst 2, 1) := by decide +kernel
theorem dX10_feast_102 : decode cX10_feast 102 = .ok (.iload 5, 2) := by decide +kernel
theorem dX10_feast_104 : decode cX10_feast 104 = .ok (.iconst 4, 1) := by decide +kernel
theorem dX10_feast_105 : decode cX10_feast 105 = .ok (.idiv, 1) := by decide +kernel
theorem dX10_feast_106 : decode cX10_feast 106 = .ok (.imul, 1) := by decide +kernel
theorem dX10_feast_107 : decode cX10_feast 107 = .ok (.iadd, 1) := by decide +kernel
theorem dX10_feast_108 : decode cX10_feast 108 = .ok (.iload 8, 2) := by decide +kernel
theorem dX10_feast_110 : decode cX10_feast 110 = .ok (.isub, 1) := by decide +kernel
theorem dX10_feast_111 : decode cX10_feast 111 = .ok (.iload 5, 2) := by decide +kernel
theorem dX10_feast_113 : decode cX10_feast 113 = .ok (.iconst 4, 1) := by decide +kernel
theorem dX10_feast_114 : decode cX10_feast 114 = .ok (.irem, 1) := by decide +kernel
theorem dX10_feast_115 : decode cX10_feast 115 = .ok (.isub, 1) := by decide +kernel
theorem dX10_feast_116 : decode cX10_feast 116 = .ok (.bipush 7, 2) := by decide +kernel
theorem dX10_feast_118 : decode cX10_feast 118 = .ok (.irem, 1) := by decide +kernel
theorem dX10_feast_119 : decode cX10_feast 119 = .ok (.istore 9, 2) := by decide +kernel
theorem dX10_feast_121 : decode cX10_feast 121 = .ok (.iload_n 3, 1) := by decide +kernel
theorem dX10_feast_122 : decode cX10_feast 122 = .ok (.bipush 11, 2) := by decide +kernel
theorem dX10_feast_124 : decode cX10_feast 124 = .ok (.iload 8, 2) := by decide +kernel
theorem dX10_feast_126 : decode cX10_feast 126 = .ok (.imul, 1) := by decide +kernel
theorem dX10_feast_127 : decode cX10_feast 127 = .ok (.iadd, 1) := by decide +kernel
theorem dX10_feast_128 : decode cX10_feast 128 = .ok (.bipush 22, 2) := by decide +kernel
theorem dX10_feast_130 : decode cX10_feast 130 = .ok (.iload 9, 2) := by decide +kernel
theorem dX10_feast_132 : decode cX10_feast 132 = .ok (.imul, 1) := by decide +kernel
theorem dX10_feast_133 : decode cX10_feast 133 = .ok (.iadd, 1) := by decide +kernel
theorem dX10_feast_134 : decode cX10_feast 134 = .ok (.sipush 451, 3) := by decide +kernel
theorem dX10_feast_137 : decode cX10_feast 137 = .ok (.idiv, 1) := by decide +kernel
theorem dX10_feast_138 : decode cX10_feast 138 = .ok (.istore 10, 2) := by decide +kernel
theorem dX10_feast_140 : decode cX10_feast 140 = .ok (.iload 8, 2) := by decide +kernel
theorem dX10_feast_142 : decode cX10_feast 142 = .ok (.iload 9, 2) := by decide +kernel
theorem dX10_feast_144 : decode cX10_feast 144 = .ok (.iadd, 1) := by decide +kernel
theorem dX10_feast_145 : decode cX10_feast 145 = .ok (.bipush 7, 2) := by decide +kernel
theorem dX10_feast_147 : decode cX10_feast 147 = .ok (.iload 10, 2) := by decide +kernel
theorem dX10_feast_149 : decode cX10_feast 149 = .ok (.imul, 1) := by decide +kernel
theorem dX10_feast_150 : decode cX10_feast 150 = .ok (.isub, 1) := by decide +kernel
theorem dX10_feast_151 : decode cX10_feast 151 = .ok (.bipush 114, 2) := by decide +kernel
theorem dX10_feast_153 : decode cX10_feast 153 = .ok (.iadd, 1) := by decide +kernel
theorem dX10_feast_154 : decode cX10_feast 154 = .ok (.istore 11, 2) := by decide +kernel
theorem dX10_feast_156 : decode cX10_feast 156 = .ok (.iload_n 2, 1) := by decide +kernel
theorem dX10_feast_157 : decode cX10_feast 157 = .ok (.ifCond .ne 11, 3) := by decide +kernel
theorem dX10_feast_160 : decode cX10_feast 160 = .ok (.iload 11, 2) := by decide +kernel
theorem dX10_feast_162 : decode cX10_feast 162 = .ok (.bipush 31, 2) := by decide +kernel
theorem dX10_feast_164 : decode cX10_feast 164 = .ok (.idiv, 1) := by decide +kernel
theorem dX10_feast_165 : decode cX10_feast 165 = .ok (.goto 10, 3) := by decide +kernel
theorem dX10_feast_168 : decode cX10_feast 168 = .ok (.iload 11, 2) := by decide +kernel
theorem dX10_feast_170 : decode cX10_feast 170 = .ok (.bipush 31, 2) := by decide +kernel
theorem dX10_feast_172 : decode cX10_feast 172 = .ok (.irem, 1) := by decide +kernel
theorem dX10_feast_173 : decode cX10_feast 173 = .ok (.iconst 1, 1) := by decide +kernel
theorem dX10_feast_174 : decode cX10_feast 174 = .ok (.iadd, 1) := by decide +kernel
theorem dX10_feast_175 : decode cX10_feast 175 = .ok (.ireturn, 1) := by decide +kernel
theorem dX10_squares_0 : decode cX10_squares 0 = .ok (.iconst 0, 1) := by decide +kernel
theorem dX10_squares_1 : decode cX10_squares 1 = .ok (.istore_n 2, 1) := by decide +kernel
theorem dX10_squares_2 : decode cX10_squares 2 = .ok (.iload_n 1, 1) := by decide +kernel
theorem dX10_squares_3 : decode cX10_squares 3 = .ok (.istore_n 3, 1) := by decide +kernel
theorem dX10_squares_4 : decode cX10_squares 4 = .ok (.iload_n 3, 1) := by decide +kernel
theorem dX10_squares_5 : decode cX10_squares 5 = .ok (.ifCond .le 23, 3) := by decide +kernel
theorem dX10_squares_8 : decode cX10_squares 8 = .ok (.iload_n 2, 1) := by decide +kernel
theorem dX10_squares_9 : decode cX10_squares 9 = .ok (.iload_n 3, 1) := by decide +kernel
theorem dX10_squares_10 : decode cX10_squares 10 = .ok (.bipush 10, 2) := by decide +kernel
theorem dX10_squares_12 : decode cX10_squares 12 = .ok (.irem, 1) := by decide +kernel
theorem dX10_squares_13 : decode cX10_squares 13 = .ok (.iload_n 3, 1) := by decide +kernel
theorem dX10_squares_14 : decode cX10_squares 14 = .ok (.bipush 10, 2) := by decide +kernel
theorem dX10_squares_16 : decode cX10_squares 16 = .ok (.irem, 1) := by decide +kernel
theorem dX10_squares_17 : decode cX10_squares 17 = .ok (.imul, 1) := by decide +kernel
theorem dX10_squares_18 : decode cX10_squares 18 = .ok (.iadd, 1) := by decide +kernel
theorem dX10_squares_19 : decode cX10_squares 19 = .ok (.istore_n 2, 1) := by decide +kernel
theorem dX10_squares_20 : decode cX10_squares 20 = .ok (.iload_n 3, 1) := by decide +kernel
theorem dX10_squares_21 : decode cX10_squares 21 = .ok (.bipush 10, 2) := by decide +kernel
theorem dX10_squares_23 : decode cX10_squares 23 = .ok (.idiv, 1) := by decide +kernel
theorem dX10_squares_24 : decode cX10_squares 24 = .ok (.istore_n 3, 1) := by decide +kernel
theorem dX10_squares_25 : decode cX10_squares 25 = .ok (.goto (-21), 3) := by decide +kernel
theorem dX10_squares_28 : decode cX10_squares 28 = .ok (.iload_n 2, 1) := by decide +kernel
theorem dX10_squares_29 : decode cX10_squares 29 = .ok (.ireturn, 1) := by decide +kernel
theorem dX10_stepsToEnd_0 : decode cX10_stepsToEnd 0 = .ok (.iconst 0, 1) := by decide +kernel
theorem dX10_stepsToEnd_1 : decode cX10_stepsToEnd 1 = .ok (.istore_n 2, 1) := by decide +kernel
theorem dX10_stepsToEnd_2 : decode cX10_stepsToEnd 2 = .ok (.iload_n 1, 1) := by decide +kernel
theorem dX10_stepsToEnd_3 : decode cX10_stepsToEnd 3 = .ok (.istore_n 3, 1) := by decide +kernel
theorem dX10_stepsToEnd_4 : decode cX10_stepsToEnd 4 = .ok (.iload_n 3, 1) := by decide +kernel
theorem dX10_stepsToEnd_5 : decode cX10_stepsToEnd 5 = .ok (.iconst 1, 1) := by decide +kernel
theorem dX10_stepsToEnd_6 : decode cX10_stepsToEnd 6 = .ok (.if_icmp .eq 21, 3) := by decide +kernel
theorem dX10_stepsToEnd_9 : decode cX10_stepsToEnd 9 = .ok (.iload_n 3, 1) := by decide +kernel
theorem dX10_stepsToEnd_10 : decode cX10_stepsToEnd 10 = .ok (.iconst 4, 1) := by decide +kernel
theorem dX10_stepsToEnd_11 : decode cX10_stepsToEnd 11 = .ok (.if_icmp .eq 16, 3) := by decide +kernel
theorem dX10_stepsToEnd_14 : decode cX10_stepsToEnd 14 = .ok (.iload_n 2, 1) := by decide +kernel
theorem dX10_stepsToEnd_15 : decode cX10_stepsToEnd 15 = .ok (.iconst 1, 1) := by decide +kernel
theorem dX10_stepsToEnd_16 : decode cX10_stepsToEnd 16 = .ok (.iadd, 1) := by decide +kernel
theorem dX10_stepsToEnd_17 : decode cX10_stepsToEnd 17 = .ok (.istore_n 2, 1) := by decide +kernel
theorem dX10_stepsToEnd_18 : decode cX10_stepsToEnd 18 = .ok (.aload_n 0, 1) := by decide +kernel
theorem dX10_stepsToEnd_19 : decode cX10_stepsToEnd 19 = .ok (.iload_n 3, 1) := by decide +kernel
theorem dX10_stepsToEnd_20 : decode cX10_stepsToEnd 20 = .ok (.invokevirtual 428, 3) := by decide +kernel
theorem dX10_stepsToEnd_23 : decode cX10_stepsToEnd 23 = .ok (.istore_n 3, 1) := by decide +kernel
theorem dX10_stepsToEnd_24 : decode cX10_stepsToEnd 24 = .ok (.goto (-20), 3) := by decide +kernel
theorem dX10_stepsToEnd_27 : decode cX10_stepsToEnd 27 = .ok (.iload_n 2, 1) := by decide +kernel
theorem dX10_stepsToEnd_28 : decode cX10_stepsToEnd 28 = .ok (.ireturn, 1) := by decide +kernel
theorem dX10_isHappy_0 : decode cX10_isHappy 0 = .ok (.iload_n 1, 1) := by decide +kernel
theorem dX10_isHappy_1 : decode cX10_isHappy 1 = .ok (.istore_n 2, 1) := by decide +kernel
theorem dX10_isHappy_2 : decode cX10_isHappy 2 = .ok (.iload_n 2, 1) := by decide +kernel
theorem dX10_isHappy_3 : decode cX10_isHappy 3 = .ok (.iconst 1, 1) := by decide +kernel
theorem dX10_isHappy_4 : decode cX10_isHappy 4 = .ok (.if_icmp .eq 17, 3) := by decide +kernel
theorem dX10_isHappy_7 : decode cX10_isHappy 7 = .ok (.iload_n 2, 1) := by decide +kernel
theorem dX10_isHappy_8 : decode cX10_isHappy 8 = .ok (.iconst 4, 1) := by decide +kernel
theorem dX10_isHappy_9 : decode cX10_isHappy 9 = .ok (.if_icmp .eq 12, 3) := by decide +kernel
theorem dX10_isHappy_12 : decode cX10_isHappy 12 = .ok (.aload_n 0, 1) := by decide +kernel
theorem dX10_isHappy_13 : decode cX10_isHappy 13 = .ok (.iload_n 2, 1) := by decide +kernel
theorem dX10_isHappy_14 : decode cX10_isHappy 14 = .ok (.invokevirtual 428, 3) := by decide +kernel
theorem dX10_isHappy_17 : decode cX10_isHappy 17 = .ok (.istore_n 2, 1) := by decide +kernel
theorem dX10_isHappy_18 : decode cX10_isHappy 18 = .ok (.goto (-16), 3) := by decide +kernel
theorem dX10_isHappy_21 : decode cX10_isHappy 21 = .ok (.iload_n 2, 1) := by decide +kernel
theorem dX10_isHappy_22 : decode cX10_isHappy 22 = .ok (.iconst 1, 1) := by decide +kernel
theorem dX10_isHappy_23 : decode cX10_isHappy 23 = .ok (.if_icmp .ne 7, 3) := by decide +kernel
theorem dX10_isHappy_26 : decode cX10_isHappy 26 = .ok (.iconst 1, 1) := by decide +kernel
theorem dX10_isHappy_27 : decode cX10_isHappy 27 = .ok (.goto 4, 3) := by decide +kernel
theorem dX10_isHappy_30 : decode cX10_isHappy 30 = .ok (.iconst 0, 1) := by decide +kernel
theorem dX10_isHappy_31 : decode cX10_isHappy 31 = .ok (.ireturn, 1) := by decide +kernel
theorem dX10_happy_0 : decode cX10_happy 0 = .ok (.aload_n 0, 1) := by decide +kernel
theorem dX10_happy_1 : decode cX10_happy 1 = .ok (.iconst 0, 1) := by decide +kernel
theorem dX10_happy_2 : decode cX10_happy 2 = .ok (.putfield 131, 3) := by decide +kernel
theorem dX10_happy_5 : decode cX10_happy 5 = .ok (.aload_n 0, 1) := by decide +kernel
theorem dX10_happy_6 : decode cX10_happy 6 = .ok (.iload_n 1, 1) := by decide +kernel
theorem dX10_happy_7 : decode cX10_happy 7 = .ok (.iconst 1, 1) := by decide +kernel
theorem dX10_happy_8 : decode cX10_happy 8 = .ok (.iload_n 2, 1) := by decide +kernel
theorem dX10_happy_9 : decode cX10_happy 9 = .ok (.iconst 2, 1) := by decide +kernel
theorem dX10_happy_10 : decode cX10_happy 10 = .ok (.if_icmp .ne 9, 3) := by decide +kernel
theorem dX10_happy_13 : decode cX10_happy 13 = .ok (.sipush 999, 3) := by decide +kernel
theorem dX10_happy_16 : decode cX10_happy 16 = .ok (.goto 6, 3) := by decide +kernel
theorem dX10_happy_19 : decode cX10_happy 19 = .ok (.ldc_w 431, 3) := by decide +kernel
theorem dX10_happy_22 : decode cX10_happy 22 = .ok (.invokevirtual 149, 3) := by decide +kernel
theorem dX10_happy_25 : decode cX10_happy 25 = .ok (.ifCond .eq 13, 3) := by decide +kernel
theorem dX10_happy_28 : decode cX10_happy 28 = .ok (.aload_n 0, 1) := by decide +kernel
theorem dX10_happy_29 : decode cX10_happy 29 = .ok (.iload_n 2, 1) := by decide +kernel
theorem dX10_happy_30 : decode cX10_happy 30 = .ok (.iconst 0, 1) := by decide +kernel
theorem dX10_happy_31 : decode cX10_happy 31 = .ok (.iconst 2, 1) := by decide +kernel
theorem dX10_happy_32 : decode cX10_happy 32 = .ok (.invokevirtual 149, 3) := by decide +kernel
theorem dX10_happy_35 : decode cX10_happy 35 = .ok (.ifCond .ne 5, 3) := by decide +kernel
theorem dX10_happy_38 : decode cX10_happy 38 = .ok (.iconst (-1), 1) := by decide +kernel
theorem dX10_happy_39 : decode cX10_happy 39 = .ok (.ireturn, 1) := by decide +kernel
theorem dX10_happy_40 : decode cX10_happy 40 = .ok (.iload_n 2, 1) := by decide +kernel
theorem dX10_happy_41 : decode cX10_happy 41 = .ok (.iconst 1, 1) := by decide +kernel
theorem dX10_happy_42 : decode cX10_happy 42 = .ok (.if_icmp .ne 9, 3) := by decide +kernel
theorem dX10_happy_45 : decode cX10_happy 45 = .ok (.aload_n 0, 1) := by decide +kernel
theorem dX10_happy_46 : decode cX10_happy 46 = .ok (.iload_n 1, 1) := by decide +kernel
theorem dX10_happy_47 : decode cX10_happy 47 = .ok (.invokevirtual 432, 3) := by decide +kernel
theorem dX10_happy_50 : decode cX10_happy 50 = .ok (.ireturn, 1) := by decide +kernel
theorem dX10_happy_51 : decode cX10_happy 51 = .ok (.iload_n 2, 1) := by decide +kernel
theorem dX10_happy_52 : decode cX10_happy 52 = .ok (.ifCond .ne 17, 3) := by decide +kernel
theorem dX10_happy_55 : decode cX10_happy 55 = .ok (.aload_n 0, 1) := by decide +kernel
theorem dX10_happy_56 : decode cX10_happy 56 = .ok (.iload_n 1, 1) := by decide +kernel
theorem dX10_happy_57 : decode cX10_happy 57 = .ok (.invokevirtual 435, 3) := by decide +kernel
theorem dX10_happy_60 : decode cX10_happy 60 = .ok (.ifCond .eq 7, 3) := by decide +kernel
theorem dX10_happy_63 : decode cX10_happy 63 = .ok (.iconst 1, 1) := by decide +kernel
theorem dX10_happy_64 : decode cX10_happy 64 = .ok (.goto 4, 3) := by decide +kernel
theorem dX10_happy_67 : decode cX10_happy 67 = .ok (.iconst 0, 1) := by decide +kernel
theorem dX10_happy_68 : decode cX10_happy 68 = .ok (.ireturn, 1) := by decide +kernel
theorem dX10_happy_69 : decode cX10_happy 69 = .ok (.iconst 0, 1) := by decide +kernel
theorem dX10_happy_70 : decode cX10_happy 70 = .ok (.istore_n 3, 1) := by decide +kernel
theorem dX10_happy_71 : decode cX10_happy 71 = .ok (.iconst 1, 1) := by decide +kernel
theorem dX10_happy_72 : decode cX10_happy 72 = .ok (.istore 4, 2) := by decide +kernel
theorem dX10_happy_74 : decode cX10_happy 74 = .ok (.iload 4, 2) := by decide +kernel
theorem dX10_happy_76 : decode cX10_happy 76 = .ok (.iload_n 1, 1) := by decide +kernel
theorem dX10_happy_77 : decode cX10_happy 77 = .ok (.if_icmp .gt 22, 3) := by decide +kernel
theorem dX10_happy_80 : decode cX10_happy 80 = .ok (.aload_n 0, 1) := by decide +kernel
theorem dX10_happy_81 : decode cX10_happy 81 = .ok (.iload 4, 2) := by decide +kernel
theorem dX10_happy_83 : decode cX10_happy 83 = .ok (.invokevirtual 435, 3) := by decide +kernel
theorem dX10_happy_86 : decode cX10_happy 86 = .ok (.ifCond .eq 7, 3) := by decide +kernel
theorem dX10_happy_89 : decode cX10_happy 89 = .ok (.iload_n 3, 1) := by decide +kernel
theorem dX10_happy_90 : decode cX10_happy 90 = .ok (.iconst 1, 1) := by decide +kernel
theorem dX10_happy_91 : decode cX10_happy 91 = .ok (.iadd, 1) := by decide +kernel
theorem dX10_happy_92 : decode cX10_happy 92 = .ok (.istore_n 3, 1) := by decide +kernel
theorem dX10_happy_93 : decode cX10_happy 93 = .ok (.iinc 4 1, 3) := by decide +kernel
theorem dX10_happy_96 : decode cX10_happy 96 = .ok (.goto (-22), 3) := by decide +kernel
theorem dX10_happy_99 : decode cX10_happy 99 = .ok (.iload_n 3, 1) := by decide +kernel
theorem dX10_happy_100 : decode cX10_happy 100 = .ok (.ireturn, 1) := by decide +kernel
theorem dX10_letter_0 : decode cX10_letter 0 = .ok (.aload_n 0, 1) := by decide +kernel
theorem dX10_letter_1 : decode cX10_letter 1 = .ok (.iconst 0, 1) := by decide +kernel
theorem dX10_letter_2 : decode cX10_letter 2 = .ok (.putfield 131, 3) := by decide +kernel
theorem dX10_letter_5 : decode cX10_letter 5 = .ok (.aload_n 0, 1) := by decide +kernel
theorem dX10_letter_6 : decode cX10_letter 6 = .ok (.iload_n 1, 1) := by decide +kernel
theorem dX10_letter_7 : decode cX10_letter 7 = .ok (.iconst 0, 1) := by decide +kernel
theorem dX10_letter_8 : decode cX10_letter 8 = .ok (.iconst 1, 1) := by decide +kernel
theorem dX10_letter_9 : decode cX10_letter 9 = .ok (.invokevirtual 149, 3) := by decide +kernel
theorem dX10_letter_12 : decode cX10_letter 12 = .ok (.ifCond .ne 5, 3) := by decide +kernel
theorem dX10_letter_15 : decode cX10_letter 15 = .ok (.iconst (-1), 1) := by decide +kernel
theorem dX10_letter_16 : decode cX10_letter 16 = .ok (.ireturn, 1) := by decide +kernel
theorem dX10_letter_17 : decode cX10_letter 17 = .ok (.iload_n 2, 1) := by decide +kernel
theorem dX10_letter_18 : decode cX10_letter 18 = .ok (.iconst (-1), 1) := by decide +kernel
theorem dX10_letter_19 : decode cX10_letter 19 = .ok (.if_icmp .ne 12, 3) := by decide +kernel
theorem dX10_letter_22 : decode cX10_letter 22 = .ok (.aload_n 0, 1) := by decide +kernel
theorem dX10_letter_23 : decode cX10_letter 23 = .ok (.getfield 101, 3) := by decide +kernel
theorem dX10_letter_26 : decode cX10_letter 26 = .ok (.iload_n 1, 1) := by decide +kernel
theorem dX10_letter_27 : decode cX10_letter 27 = .ok (.iconst 0, 1) := by decide +kernel
theorem dX10_letter_28 : decode cX10_letter 28 = .ok (.iastore, 1) := by decide +kernel
theorem dX10_letter_29 : decode cX10_letter 29 = .ok (.iconst 0, 1) := by decide +kernel
theorem dX10_letter_30 : decode cX10_letter 30 = .ok (.ireturn, 1) := by decide +kernel
theorem dX10_letter_31 : decode cX10_letter 31 = .ok (.aload_n 0, 1) := by decide +kernel
theorem dX10_letter_32 : decode cX10_letter 32 = .ok (.iload_n 2, 1) := by decide +kernel
theorem dX10_letter_33 : decode cX10_letter 33 = .ok (.iconst 0, 1) := by decide +kernel
theorem dX10_letter_34 : decode cX10_letter 34 = .ok (.bipush 25, 2) := by decide +kernel
theorem dX10_letter_36 : decode cX10_letter 36 = .ok (.invokevirtual 149, 3) := by decide +kernel
theorem dX10_letter_39 : decode cX10_letter 39 = .ok (.ifCond .eq 22, 3) := by decide +kernel
theorem dX10_letter_42 : decode cX10_letter 42 = .ok (.aload_n 0, 1) := by decide +kernel
theorem dX10_letter_43 : decode cX10_letter 43 = .ok (.getfield 101, 3) := by decide +kernel
theorem dX10_letter_46 : decode cX10_letter 46 = .ok (.iload_n 1, 1) := by decide +kernel
theorem dX10_letter_47 : decode cX10_letter 47 = .ok (.iaload, 1) := by decide +kernel
theorem dX10_letter_48 : decode cX10_letter 48 = .ok (.iload_n 1, 1) := by decide +kernel
theorem dX10_letter_49 : decode cX10_letter 49 = .ok (.ifCond .ne 8, 3) := by decide +kernel
theorem dX10_letter_52 : decode cX10_letter 52 = .ok (.bipush 12, 2) := by decide +kernel
theorem dX10_letter_54 : decode cX10_letter 54 = .ok (.goto 4, 3) := by decide +kernel
theorem dX10_letter_57 : decode cX10_letter 57 = .ok (.iconst 4, 1) := by decide +kernel
theorem dX10_letter_58 : decode cX10_letter 58 = .ok (.if_icmp .ne 5, 3) := by decide +kernel
theorem dX10_letter_61 : decode cX10_letter 61 = .ok (.iconst (-1), 1) := by decide +kernel
theorem dX10_letter_62 : decode cX10_letter 62 = .ok (.ireturn, 1) := by decide +kernel
theorem dX10_letter_63 : decode cX10_letter 63 = .ok (.aload_n 0, 1) := by decide +kernel
theorem dX10_letter_64 : decode cX10_letter 64 = .ok (.getfield 104, 3) := by decide +kernel
theorem dX10_letter_67 : decode cX10_letter 67 = .ok (.bipush 12, 2) := by decide +kernel
theorem dX10_letter_69 : decode cX10_letter 69 = .ok (.iload_n 1, 1) := by decide +kernel
theorem dX10_letter_70 : decode cX10_letter 70 = .ok (.imul, 1) := by decide +kernel
theorem dX10_letter_71 : decode cX10_letter 71 = .ok (.aload_n 0, 1) := by decide +kernel
theorem dX10_letter_72 : decode cX10_letter 72 = .ok (.getfield 101, 3) := by decide +kernel
theorem dX10_letter_75 : decode cX10_letter 75 = .ok (.iload_n 1, 1) := by decide +kernel
theorem dX10_letter_76 : decode cX10_letter 76 = .ok (.iaload, 1) := by decide +kernel
theorem dX10_letter_77 : decode cX10_letter 77 = .ok (.iadd, 1) := by decide +kernel
theorem dX10_letter_78 : decode cX10_letter 78 = .ok (.iload_n 2, 1) := by decide +kernel
theorem dX10_letter_79 : decode cX10_letter 79 = .ok (.iastore, 1) := by decide +kernel
theorem dX10_letter_80 : decode cX10_letter 80 = .ok (.aload_n 0, 1) := by decide +kernel
theorem dX10_letter_81 : decode cX10_letter 81 = .ok (.getfield 101, 3) := by decide +kernel
theorem dX10_letter_84 : decode cX10_letter 84 = .ok (.iload_n 1, 1) := by decide +kernel
theorem dX10_letter_85 : decode cX10_letter 85 = .ok (.aload_n 0, 1) := by decide +kernel
theorem dX10_letter_86 : decode cX10_letter 86 = .ok (.getfield 101, 3) := by decide +kernel
theorem dX10_letter_89 : decode cX10_letter 89 = .ok (.iload_n 1, 1) := by decide +kernel
theorem dX10_letter_90 : decode cX10_letter 90 = .ok (.iaload, 1) := by decide +kernel
theorem dX10_letter_91 : decode cX10_letter 91 = .ok (.iconst 1, 1) := by decide +kernel
theorem dX10_letter_92 : decode cX10_letter 92 = .ok (.iadd, 1) := by decide +kernel
theorem dX10_letter_93 : decode cX10_letter 93 = .ok (.iastore, 1) := by decide +kernel
theorem dX10_letter_94 : decode cX10_letter 94 = .ok (.aload_n 0, 1) := by decide +kernel
theorem dX10_letter_95 : decode cX10_letter 95 = .ok (.getfield 101, 3) := by decide +kernel
theorem dX10_letter_98 : decode cX10_letter 98 = .ok (.iload_n 1, 1) := by decide +kernel
theorem dX10_letter_99 : decode cX10_letter 99 = .ok (.iaload, 1) := by decide +kernel
theorem dX10_letter_100 : decode cX10_letter 100 = .ok (.ireturn, 1) := by decide +kernel
theorem dX10_railOf_0 : decode cX10_railOf 0 = .ok (.iload_n 2, 1) := by decide +kernel
theorem dX10_railOf_1 : decode cX10_railOf 1 = .ok (.iconst 1, 1) := by decide +kernel
theorem dX10_railOf_2 : decode cX10_railOf 2 = .ok (.if_icmp .ne 5, 3) := by decide +kernel
theorem dX10_railOf_5 : decode cX10_railOf 5 = .ok (.iconst 0, 1) := by decide +kernel
theorem dX10_railOf_6 : decode cX10_railOf 6 = .ok (.ireturn, 1) := by decide +kernel
theorem dX10_railOf_7 : decode cX10_railOf 7 = .ok (.iload_n 1, 1) := by decide +kernel
theorem dX10_railOf_8 : decode cX10_railOf 8 = .ok (.iconst 2, 1) := by decide +kernel
theorem dX10_railOf_9 : decode cX10_railOf 9 = .ok (.iload_n 2, 1) := by decide +kernel
theorem dX10_railOf_10 : decode cX10_railOf 10 = .ok (.imul, 1) := by decide +kernel
theorem dX10_railOf_11 : decode cX10_railOf 11 = .ok (.iconst 2, 1) := by decide +kernel
theorem dX10_railOf_12 : decode cX10_railOf 12 = .ok (.isub, 1) := by decide +kernel
theorem dX10_railOf_13 : decode cX10_railOf 13 = .ok (.irem, 1) := by decide +kernel
theorem dX10_railOf_14 : decode cX10_railOf 14 = .ok (.istore_n 3, 1) := by decide +kernel
theorem dX10_railOf_15 : decode cX10_railOf 15 = .ok (.iload_n 3, 1) := by decide +kernel
theorem dX10_railOf_16 : decode cX10_railOf 16 = .ok (.iload_n 2, 1) := by decide +kernel
theorem dX10_railOf_17 : decode cX10_railOf 17 = .ok (.if_icmp .ge 7, 3) := by decide +kernel
theorem dX10_railOf_20 : decode cX10_railOf 20 = .ok (.iload_n 3, 1) := by decide +kernel
theorem dX10_railOf_21 : decode cX10_railOf 21 = .ok (.goto 10, 3) := by decide +kernel
theorem dX10_railOf_24 : decode cX10_railOf 24 = .ok (.iconst 2, 1) := by decide +kernel
theorem dX10_railOf_25 : decode cX10_railOf 25 = .ok (.iload_n 2, 1) := by decide +kernel
theorem dX10_railOf_26 : decode cX10_railOf 26 = .ok (.imul, 1) := by decide +kernel
theorem dX10_railOf_27 : decode cX10_railOf 27 = .ok (.iconst 2, 1) := by decide +kernel
theorem dX10_railOf_28 : decode cX10_railOf 28 = .ok (.isub, 1) := by decide +kernel
theorem dX10_railOf_29 : decode cX10_railOf 29 = .ok (.iload_n 3, 1) := by decide +kernel
theorem dX10_railOf_30 : decode cX10_railOf 30 = .ok (.isub, 1) := by decide +kernel
theorem dX10_railOf_31 : decode cX10_railOf 31 = .ok (.ireturn, 1) := by decide +kernel
theorem dX10_byRails_0 : decode cX10_byRails 0 = .ok (.iconst 0, 1) := by decide +kernel
theorem dX10_byRails_1 : decode cX10_byRails 1 = .ok (.istore_n 3, 1) := by decide +kernel
theorem dX10_byRails_2 : decode cX10_byRails 2 = .ok (.iconst 0, 1) := by decide +kernel
theorem dX10_byRails_3 : decode cX10_byRails 3 = .ok (.istore 4, 2) := by decide +kernel
theorem dX10_byRails_5 : decode cX10_byRails 5 = .ok (.iload 4, 2) := by decide +kernel
theorem dX10_byRails_7 : decode cX10_byRails 7 = .ok (.iload_n 1, 1) := by decide +kernel
theorem dX10_byRails_8 : decode cX10_byRails 8 = .ok (.if_icmp .ge 61, 3) := by decide +kernel
theorem dX10_byRails_11 : decode cX10_byRails 11 = .ok (.iconst 0, 1) := by decide +kernel
theorem dX10_byRails_12 : decode cX10_byRails 12 = .ok (.istore 5, 2) := by decide +kernel
theorem dX10_byRails_14 : decode cX10_byRails 14 = .ok (.iload 5, 2) := by decide +kernel
theorem dX10_byRails_16 : decode cX10_byRails 16 = .ok (.aload_n 0, 1) := by decide +kernel
theorem dX10_byRails_17 : decode cX10_byRails 17 = .ok (.getfield 101, 3) := by decide +kernel
theorem dX10_byRails_20 : decode cX10_byRails 20 = .ok (.iconst 0, 1) := by decide +kernel
theorem dX10_byRails_21 : decode cX10_byRails 21 = .ok (.iaload, 1) := by decide +kernel
theorem dX10_byRails_22 : decode cX10_byRails 22 = .ok (.if_icmp .ge 41, 3) := by decide +kernel
theorem dX10_byRails_25 : decode cX10_byRails 25 = .ok (.aload_n 0, 1) := by decide +kernel
theorem dX10_byRails_26 : decode cX10_byRails 26 = .ok (.iload 5, 2) := by decide +kernel
theorem dX10_byRails_28 : decode cX10_byRails 28 = .ok (.iload_n 1, 1) := by decide +kernel
theorem dX10_byRails_29 : decode cX10_byRails 29 = .ok (.invokevirtual 438, 3) := by decide +kernel
theorem dX10_byRails_32 : decode cX10_byRails 32 = .ok (.iload 4, 2) := by decide +kernel
theorem dX10_byRails_34 : decode cX10_byRails 34 = .ok (.if_icmp .eq 6, 3) := by decide +kernel
theorem dX10_byRails_37 : decode cX10_byRails 37 = .ok (.goto 20, 3) := by decide +kernel
theorem dX10_byRails_40 : decode cX10_byRails 40 = .ok (.iload_n 3, 1) := by decide +kernel
theorem dX10_byRails_41 : decode cX10_byRails 41 = .ok (.iload_n 2, 1) := by decide +kernel
theorem dX10_byRails_42 : decode cX10_byRails 42 = .ok (.if_icmp .ne 11, 3) := by decide +kernel
theorem dX10_byRails_45 : decode cX10_byRails 45 = .ok (.aload_n 0, 1) := by decide +kernel
theorem dX10_byRails_46 : decode cX10_byRails 46 = .ok (.getfield 104, 3) := by decide +kernel
theorem dX10_byRails_49 : decode cX10_byRails 49 = .ok (.iload 5, 2) := by decide +kernel
theorem dX10_byRails_51 : decode cX10_byRails 51 = .ok (.iaload, 1) := by decide +kernel
theorem dX10_byRails_52 : decode cX10_byRails 52 = .ok (.ireturn, 1) := by decide +kernel
theorem dX10_byRails_53 : decode cX10_byRails 53 = .ok (.iload_n 3, 1) := by decide +kernel
theorem dX10_byRails_54 : decode cX10_byRails 54 = .ok (.iconst 1, 1) := by decide +kernel
theorem dX10_byRails_55 : decode cX10_byRails 55 = .ok (.iadd, 1) := by decide +kernel
theorem dX10_byRails_56 : decode cX10_byRails 56 = .ok (.istore_n 3, 1) := by decide +kernel
theorem dX10_byRails_57 : decode cX10_byRails 57 = .ok (.iinc 5 1, 3) := by decide +kernel
theorem dX10_byRails_60 : decode cX10_byRails 60 = .ok (.goto (-46), 3) := by decide +kernel
theorem dX10_byRails_63 : decode cX10_byRails 63 = .ok (.iinc 4 1, 3) := by decide +kernel
theorem dX10_byRails_66 : decode cX10_byRails 66 = .ok (.goto (-61), 3) := by decide +kernel
theorem dX10_byRails_69 : decode cX10_byRails 69 = .ok (.iconst (-1), 1) := by decide +kernel
theorem dX10_byRails_70 : decode cX10_byRails 70 = .ok (.ireturn, 1) := by decide +kernel
theorem dX10_message_0 : decode cX10_message 0 = .ok (.aload_n 0, 1) := by decide +kernel
theorem dX10_message_1 : decode cX10_message 1 = .ok (.iconst 0, 1) := by decide +kernel
theorem dX10_message_2 : decode cX10_message 2 = .ok (.putfield 131, 3) := by decide +kernel
theorem dX10_message_5 : decode cX10_message 5 = .ok (.aload_n 0, 1) := by decide +kernel
theorem dX10_message_6 : decode cX10_message 6 = .ok (.getfield 101, 3) := by decide +kernel
theorem dX10_message_9 : decode cX10_message 9 = .ok (.iconst 0, 1) := by decide +kernel
theorem dX10_message_10 : decode cX10_message 10 = .ok (.iaload, 1) := by decide +kernel
theorem dX10_message_11 : decode cX10_message 11 = .ok (.istore_n 3, 1) := by decide +kernel
theorem dX10_message_12 : decode cX10_message 12 = .ok (.iload_n 1, 1) := by decide +kernel
theorem dX10_message_13 : decode cX10_message 13 = .ok (.iconst 2, 1) := by decide +kernel
theorem dX10_message_14 : decode cX10_message 14 = .ok (.if_icmp .ne 33, 3) := by decide +kernel
theorem dX10_message_17 : decode cX10_message 17 = .ok (.iload_n 3, 1) := by decide +kernel
theorem dX10_message_18 : decode cX10_message 18 = .ok (.ifCond .ne 7, 3) := by decide +kernel
theorem dX10_message_21 : decode cX10_message 21 = .ok (.iconst (-1), 1) := by decide +kernel
theorem dX10_message_22 : decode cX10_message 22 = .ok (.goto 24, 3) := by decide +kernel
theorem dX10_message_25 : decode cX10_message 25 = .ok (.aload_n 0, 1) := by decide +kernel
theorem dX10_message_26 : decode cX10_message 26 = .ok (.getfield 104, 3) := by decide +kernel
theorem dX10_message_29 : decode cX10_message 29 = .ok (.iload_n 3, 1) := by decide +kernel
theorem dX10_message_30 : decode cX10_message 30 = .ok (.iconst 1, 1) := by decide +kernel
theorem dX10_message_31 : decode cX10_message 31 = .ok (.isub, 1) := by decide +kernel
theorem dX10_message_32 : decode cX10_message 32 = .ok (.iaload, 1) := by decide +kernel
theorem dX10_message_33 : decode cX10_message 33 = .ok (.aload_n 0, 1) := by decide +kernel
theorem dX10_message_34 : decode cX10_message 34 = .ok (.getfield 104, 3) := by decide +kernel
theorem dX10_message_37 : decode cX10_message 37 = .ok (.iconst 0, 1) := by decide +kernel
theorem dX10_message_38 : decode cX10_message 38 = .ok (.iaload, 1) := by decide +kernel
theorem dX10_message_39 : decode cX10_message 39 = .ok (.isub, 1) := by decide +kernel
theorem dX10_message_40 : decode cX10_message 40 = .ok (.bipush 26, 2) := by decide +kernel
theorem dX10_message_42 : decode cX10_message 42 = .ok (.iadd, 1) := by decide +kernel
theorem dX10_message_43 : decode cX10_message 43 = .ok (.bipush 26, 2) := by decide +kernel
theorem dX10_message_45 : decode cX10_message 45 = .ok (.irem, 1) := by decide +kernel
theorem dX10_message_46 : decode cX10_message 46 = .ok (.ireturn, 1) := by decide +kernel
theorem dX10_message_47 : decode cX10_message 47 = .ok (.aload_n 0, 1) := by decide +kernel
theorem dX10_message_48 : decode cX10_message 48 = .ok (.iload_n 2, 1) := by decide +kernel
theorem dX10_message_49 : decode cX10_message 49 = .ok (.iconst 0, 1) := by decide +kernel
theorem dX10_message_50 : decode cX10_message 50 = .ok (.iload_n 3, 1) := by decide +kernel
theorem dX10_message_51 : decode cX10_message 51 = .ok (.iconst 1, 1) := by decide +kernel
theorem dX10_message_52 : decode cX10_message 52 = .ok (.isub, 1) := by decide +kernel
theorem dX10_message_53 : decode cX10_message 53 = .ok (.invokevirtual 149, 3) := by decide +kernel
theorem dX10_message_56 : decode cX10_message 56 = .ok (.ifCond .ne 5, 3) := by decide +kernel
theorem dX10_message_59 : decode cX10_message 59 = .ok (.iconst (-1), 1) := by decide +kernel
theorem dX10_message_60 : decode cX10_message 60 = .ok (.ireturn, 1) := by decide +kernel
theorem dX10_message_61 : decode cX10_message 61 = .ok (.aload_n 0, 1) := by decide +kernel
theorem dX10_message_62 : decode cX10_message 62 = .ok (.iload_n 1, 1) := by decide +kernel
theorem dX10_message_63 : decode cX10_message 63 = .ok (.bipush 11, 2) := by decide +kernel
theorem dX10_message_65 : decode cX10_message 65 = .ok (.bipush 16, 2) := by decide +kernel
theorem dX10_message_67 : decode cX10_message 67 = .ok (.invokevirtual 149, 3) := by decide +kernel
theorem dX10_message_70 : decode cX10_message 70 = .ok (.ifCond .eq 13, 3) := by decide +kernel
theorem dX10_message_73 : decode cX10_message 73 = .ok (.aload_n 0, 1) := by decide +kernel
theorem dX10_message_74 : decode cX10_message 74 = .ok (.iload_n 1, 1) := by decide +kernel
theorem dX10_message_75 : decode cX10_message 75 = .ok (.bipush 10, 2) := by decide +kernel
theorem dX10_message_77 : decode cX10_message 77 = .ok (.isub, 1) := by decide +kernel
theorem dX10_message_78 : decode cX10_message 78 = .ok (.iload_n 2, 1) := by decide +kernel
theorem dX10_message_79 : decode cX10_message 79 = .ok (.invokevirtual 441, 3) := by decide +kernel
theorem dX10_message_82 : decode cX10_message 82 = .ok (.ireturn, 1) := by decide +kernel
theorem dX10_message_83 : decode cX10_message 83 = .ok (.aload_n 0, 1) := by decide +kernel
theorem dX10_message_84 : decode cX10_message 84 = .ok (.iload_n 1, 1) := by decide +kernel
theorem dX10_message_85 : decode cX10_message 85 = .ok (.iconst 0, 1) := by decide +kernel
theorem dX10_message_86 : decode cX10_message 86 = .ok (.iconst 1, 1) := by decide +kernel
theorem dX10_message_87 : decode cX10_message 87 = .ok (.invokevirtual 149, 3) := by decide +kernel
theorem dX10_message_90 : decode cX10_message 90 = .ok (.ifCond .ne 5, 3) := by decide +kernel
theorem dX10_message_93 : decode cX10_message 93 = .ok (.iconst (-1), 1) := by decide +kernel
theorem dX10_message_94 : decode cX10_message 94 = .ok (.ireturn, 1) := by decide +kernel
theorem dX10_message_95 : decode cX10_message 95 = .ok (.aload_n 0, 1) := by decide +kernel
theorem dX10_message_96 : decode cX10_message 96 = .ok (.getfield 101, 3) := by decide +kernel
theorem dX10_message_99 : decode cX10_message 99 = .ok (.iconst 1, 1) := by decide +kernel
theorem dX10_message_100 : decode cX10_message 100 = .ok (.iaload, 1) := by decide +kernel
theorem dX10_message_101 : decode cX10_message 101 = .ok (.ifCond .ne 7, 3) := by decide +kernel
theorem dX10_message_104 : decode cX10_message 104 = .ok (.iconst 0, 1) := by decide +kernel
theorem dX10_message_105 : decode cX10_message 105 = .ok (.goto 19, 3) := by decide +kernel
theorem dX10_message_108 : decode cX10_message 108 = .ok (.aload_n 0, 1) := by decide +kernel
theorem dX10_message_109 : decode cX10_message 109 = .ok (.getfield 104, 3) := by decide +kernel
theorem dX10_message_112 : decode cX10_message 112 = .ok (.bipush 12, 2) := by decide +kernel
theorem dX10_message_114 : decode cX10_message 114 = .ok (.iload_n 2, 1) := by decide +kernel
theorem dX10_message_115 : decode cX10_message 115 = .ok (.aload_n 0, 1) := by decide +kernel
theorem dX10_message_116 : decode cX10_message 116 = .ok (.getfield 101, 3) := by decide +kernel
theorem dX10_message_119 : decode cX10_message 119 = .ok (.iconst 1, 1) := by decide +kernel
theorem dX10_message_120 : decode cX10_message 120 = .ok (.iaload, 1) := by decide +kernel
theorem dX10_message_121 : decode cX10_message 121 = .ok (.irem, 1) := by decide +kernel
theorem dX10_message_122 : decode cX10_message 122 = .ok (.iadd, 1) := by decide +kernel
theorem dX10_message_123 : decode cX10_message 123 = .ok (.iaload, 1) := by decide +kernel
theorem dX10_message_124 : decode cX10_message 124 = .ok (.istore 4, 2) := by decide +kernel
theorem dX10_message_126 : decode cX10_message 126 = .ok (.aload_n 0, 1) := by decide +kernel
theorem dX10_message_127 : decode cX10_message 127 = .ok (.getfield 104, 3) := by decide +kernel
theorem dX10_message_130 : decode cX10_message 130 = .ok (.iload_n 2, 1) := by decide +kernel
theorem dX10_message_131 : decode cX10_message 131 = .ok (.iaload, 1) := by decide +kernel
theorem dX10_message_132 : decode cX10_message 132 = .ok (.iload_n 1, 1) := by decide +kernel
theorem dX10_message_133 : decode cX10_message 133 = .ok (.ifCond .ne 8, 3) := by decide +kernel
theorem dX10_message_136 : decode cX10_message 136 = .ok (.iload 4, 2) := by decide +kernel
theorem dX10_message_138 : decode cX10_message 138 = .ok (.goto 8, 3) := by decide +kernel
theorem dX10_message_141 : decode cX10_message 141 = .ok (.bipush 26, 2) := by decide +kernel
theorem dX10_message_143 : decode cX10_message 143 = .ok (.iload 4, 2) := by decide +kernel
theorem dX10_message_145 : decode cX10_message 145 = .ok (.isub, 1) := by decide +kernel
theorem dX10_message_146 : decode cX10_message 146 = .ok (.iadd, 1) := by decide +kernel
theorem dX10_message_147 : decode cX10_message 147 = .ok (.bipush 26, 2) := by decide +kernel
theorem dX10_message_149 : decode cX10_message 149 = .ok (.irem, 1) := by decide +kernel
theorem dX10_message_150 : decode cX10_message 150 = .ok (.ireturn, 1) := by decide +kernel
theorem dX10_bit_0 : decode cX10_bit 0 = .ok (.aload_n 0, 1) := by decide +kernel
theorem dX10_bit_1 : decode cX10_bit 1 = .ok (.iconst 0, 1) := by decide +kernel
theorem dX10_bit_2 : decode cX10_bit 2 = .ok (.putfield 131, 3) := by decide +kernel
theorem dX10_bit_5 : decode cX10_bit 5 = .ok (.iload_n 1, 1) := by decide +kernel
theorem dX10_bit_6 : decode cX10_bit 6 = .ok (.iconst (-1), 1) := by decide +kernel
theorem dX10_bit_7 : decode cX10_bit 7 = .ok (.if_icmp .ne 10, 3) := by decide +kernel
theorem dX10_bit_10 : decode cX10_bit 10 = .ok (.aload_n 0, 1) := by decide +kernel
theorem dX10_bit_11 : decode cX10_bit 11 = .ok (.iconst 0, 1) := by decide +kernel
theorem dX10_bit_12 : decode cX10_bit 12 = .ok (.putfield 444, 3) := by decide +kernel
theorem dX10_bit_15 : decode cX10_bit 15 = .ok (.iconst 0, 1) := by decide +kernel
theorem dX10_bit_16 : decode cX10_bit 16 = .ok (.ireturn, 1) := by decide +kernel
theorem dX10_bit_17 : decode cX10_bit 17 = .ok (.aload_n 0, 1) := by decide +kernel
theorem dX10_bit_18 : decode cX10_bit 18 = .ok (.iload_n 1, 1) := by decide +kernel
theorem dX10_bit_19 : decode cX10_bit 19 = .ok (.iconst 0, 1) := by decide +kernel
theorem dX10_bit_20 : decode cX10_bit 20 = .ok (.iconst 1, 1) := by decide +kernel
theorem dX10_bit_21 : decode cX10_bit 21 = .ok (.invokevirtual 149, 3) := by decide +kernel
theorem dX10_bit_24 : decode cX10_bit 24 = .ok (.ifCond .eq 12, 3) := by decide +kernel
theorem dX10_bit_27 : decode cX10_bit 27 = .ok (.aload_n 0, 1) := by decide +kernel
theorem dX10_bit_28 : decode cX10_bit 28 = .ok (.getfield 444, 3) := by decide +kernel
theorem dX10_bit_31 : decode cX10_bit 31 = .ok (.bipush 16, 2) := by decide +kernel
theorem dX10_bit_33 : decode cX10_bit 33 = .ok (.if_icmp .ne 5, 3) := by decide +kernel
theorem dX10_bit_36 : decode cX10_bit 36 = .ok (.iconst (-1), 1) := by decide +kernel
theorem dX10_bit_37 : decode cX10_bit 37 = .ok (.ireturn, 1) := by decide +kernel
theorem dX10_bit_38 : decode cX10_bit 38 = .ok (.aload_n 0, 1) := by decide +kernel
theorem dX10_bit_39 : decode cX10_bit 39 = .ok (.getfield 107, 3) := by decide +kernel
theorem dX10_bit_42 : decode cX10_bit 42 = .ok (.aload_n 0, 1) := by decide +kernel
theorem dX10_bit_43 : decode cX10_bit 43 = .ok (.getfield 444, 3) := by decide +kernel
theorem dX10_bit_46 : decode cX10_bit 46 = .ok (.iload_n 1, 1) := by decide +kernel
theorem dX10_bit_47 : decode cX10_bit 47 = .ok (.iastore, 1) := by decide +kernel
theorem dX10_bit_48 : decode cX10_bit 48 = .ok (.aload_n 0, 1) := by decide +kernel
theorem dX10_bit_49 : decode cX10_bit 49 = .ok (.aload_n 0, 1) := by decide +kernel
theorem dX10_bit_50 : decode cX10_bit 50 = .ok (.getfield 444, 3) := by decide +kernel
theorem dX10_bit_53 : decode cX10_bit 53 = .ok (.iconst 1, 1) := by decide +kernel
theorem dX10_bit_54 : decode cX10_bit 54 = .ok (.iadd, 1) := by decide +kernel
theorem dX10_bit_55 : decode cX10_bit 55 = .ok (.putfield 444, 3) := by decide +kernel
theorem dX10_bit_58 : decode cX10_bit 58 = .ok (.aload_n 0, 1) := by decide +kernel
theorem dX10_bit_59 : decode cX10_bit 59 = .ok (.getfield 444, 3) := by decide +kernel
theorem dX10_bit_62 : decode cX10_bit 62 = .ok (.ireturn, 1) := by decide +kernel
theorem dX10_cutPieces_0 : decode cX10_cutPieces 0 = .ok (.iconst 0, 1) := by decide +kernel
theorem dX10_cutPieces_1 : decode cX10_cutPieces 1 = .ok (.istore_n 1, 1) := by decide +kernel
theorem dX10_cutPieces_2 : decode cX10_cutPieces 2 = .ok (.iconst 1, 1) := by decide +kernel
theorem dX10_cutPieces_3 : decode cX10_cutPieces 3 = .ok (.istore_n 2, 1) := by decide +kernel
theorem dX10_cutPieces_4 : decode cX10_cutPieces 4 = .ok (.iconst 0, 1) := by decide +kernel
theorem dX10_cutPieces_5 : decode cX10_cutPieces 5 = .ok (.istore_n 3, 1) := by decide +kernel
theorem dX10_cutPieces_6 : decode cX10_cutPieces 6 = .ok (.iload_n 3, 1) := by decide +kernel
theorem dX10_cutPieces_7 : decode cX10_cutPieces 7 = .ok (.aload_n 0, 1) := by decide +kernel
theorem dX10_cutPieces_8 : decode cX10_cutPieces 8 = .ok (.getfield 444, 3) := by decide +kernel
theorem dX10_cutPieces_11 : decode cX10_cutPieces 11 = .ok (.if_icmp .ge 83, 3) := by decide +kernel
theorem dX10_cutPieces_14 : decode cX10_cutPieces 14 = .ok (.iconst 2, 1) := by decide +kernel
theorem dX10_cutPieces_15 : decode cX10_cutPieces 15 = .ok (.iload_n 2, 1) := by decide +kernel
theorem dX10_cutPieces_16 : decode cX10_cutPieces 16 = .ok (.imul, 1) := by decide +kernel
theorem dX10_cutPieces_17 : decode cX10_cutPieces 17 = .ok (.aload_n 0, 1) := by decide +kernel
theorem dX10_cutPieces_18 : decode cX10_cutPieces 18 = .ok (.getfield 107, 3) := by decide +kernel
theorem dX10_cutPieces_21 : decode cX10_cutPieces 21 = .ok (.iload_n 3, 1) := by decide +kernel
theorem dX10_cutPieces_22 : decode cX10_cutPieces 22 = .ok (.iaload, 1) := by decide +kernel
theorem dX10_cutPieces_23 : decode cX10_cutPieces 23 = .ok (.iadd, 1) := by decide +kernel
theorem dX10_cutPieces_24 : decode cX10_cutPieces 24 = .ok (.istore_n 2, 1) := by decide +kernel
theorem dX10_cutPieces_25 : decode cX10_cutPieces 25 = .ok (.iconst 0, 1) := by decide +kernel
theorem dX10_cutPieces_26 : decode cX10_cutPieces 26 = .ok (.istore 4, 2) := by decide +kernel
theorem dX10_cutPieces_28 : decode cX10_cutPieces 28 = .ok (.iconst 0, 1) := by decide +kernel
theorem dX10_cutPieces_29 : decode cX10_cutPieces 29 = .ok (.istore 5, 2) := by decide +kernel
theorem dX10_cutPieces_31 : decode cX10_cutPieces 31 = .ok (.iload 5, 2) := by decide +kernel
theorem dX10_cutPieces_33 : decode cX10_cutPieces 33 = .ok (.iload_n 1, 1) := by decide +kernel
theorem dX10_cutPieces_34 : decode cX10_cutPieces 34 = .ok (.if_icmp .ge 23, 3) := by decide +kernel
theorem dX10_cutPieces_37 : decode cX10_cutPieces 37 = .ok (.aload_n 0, 1) := by decide +kernel
theorem dX10_cutPieces_38 : decode cX10_cutPieces 38 = .ok (.getfield 110, 3) := by decide +kernel
theorem dX10_cutPieces_41 : decode cX10_cutPieces 41 = .ok (.iload 5, 2) := by decide +kernel
theorem dX10_cutPieces_43 : decode cX10_cutPieces 43 = .ok (.iaload, 1) := by decide +kernel
theorem dX10_cutPieces_44 : decode cX10_cutPieces 44 = .ok (.iload_n 2, 1) := by decide +kernel
theorem dX10_cutPieces_45 : decode cX10_cutPieces 45 = .ok (.if_icmp .ne 6, 3) := by decide +kernel
theorem dX10_cutPieces_48 : decode cX10_cutPieces 48 = .ok (.iconst 1, 1) := by decide +kernel
theorem dX10_cutPieces_49 : decode cX10_cutPieces 49 = .ok (.istore 4, 2) := by decide +kernel
theorem dX10_cutPieces_51 : decode cX10_cutPieces 51 = .ok (.iinc 5 1, 3) := by decide +kernel
theorem dX10_cutPieces_54 : decode cX10_cutPieces 54 = .ok (.goto (-23), 3) := by decide +kernel
theorem dX10_cutPieces_57 : decode cX10_cutPieces 57 = .ok (.iload 4, 2) := by decide +kernel
theorem dX10_cutPieces_59 : decode cX10_cutPieces 59 = .ok (.ifCond .eq 16, 3) := by decide +kernel
theorem dX10_cutPieces_62 : decode cX10_cutPieces 62 = .ok (.iload_n 3, 1) := by decide +kernel
theorem dX10_cutPieces_63 : decode cX10_cutPieces 63 = .ok (.aload_n 0, 1) := by decide +kernel
theorem dX10_cutPieces_64 : decode cX10_cutPieces 64 = .ok (.getfield 444, 3) := by decide +kernel
theorem dX10_cutPieces_67 : decode cX10_cutPieces 67 = .ok (.iconst 1, 1) := by decide +kernel
theorem dX10_cutPieces_68 : decode cX10_cutPieces 68 = .ok (.isub, 1) := by decide +kernel
theorem dX10_cutPieces_69 : decode cX10_cutPieces 69 = .ok (.if_icmp .ge 6, 3) := by decide +kernel
theorem dX10_cutPieces_72 : decode cX10_cutPieces 72 = .ok (.goto 16, 3) := by decide +kernel
theorem dX10_cutPieces_75 : decode cX10_cutPieces 75 = .ok (.aload_n 0, 1) := by decide +kernel
theorem dX10_cutPieces_76 : decode cX10_cutPieces 76 = .ok (.getfield 110, 3) := by decide +kernel
theorem dX10_cutPieces_79 : decode cX10_cutPieces 79 = .ok (.iload_n 1, 1) := by decide +kernel
theorem dX10_cutPieces_80 : decode cX10_cutPieces 80 = .ok (.iload_n 2, 1) := by decide +kernel
theorem dX10_cutPieces_81 : decode cX10_cutPieces 81 = .ok (.iastore, 1) := by decide +kernel
theorem dX10_cutPieces_82 : decode cX10_cutPieces 82 = .ok (.iload_n 1, 1) := by decide +kernel
theorem dX10_cutPieces_83 : decode cX10_cutPieces 83 = .ok (.iconst 1, 1) := by decide +kernel
theorem dX10_cutPieces_84 : decode cX10_cutPieces 84 = .ok (.iadd, 1) := by decide +kernel
theorem dX10_cutPieces_85 : decode cX10_cutPieces 85 = .ok (.istore_n 1, 1) := by decide +kernel
theorem dX10_cutPieces_86 : decode cX10_cutPieces 86 = .ok (.iconst 1, 1) := by decide +kernel
theorem dX10_cutPieces_87 : decode cX10_cutPieces 87 = .ok (.istore_n 2, 1) := by decide +kernel
theorem dX10_cutPieces_88 : decode cX10_cutPieces 88 = .ok (.iinc 3 1, 3) := by decide +kernel
theorem dX10_cutPieces_91 : decode cX10_cutPieces 91 = .ok (.goto (-85), 3) := by decide +kernel
theorem dX10_cutPieces_94 : decode cX10_cutPieces 94 = .ok (.iload_n 1, 1) := by decide +kernel
theorem dX10_cutPieces_95 : decode cX10_cutPieces 95 = .ok (.ireturn, 1) := by decide +kernel
theorem dX10_readsAlike_0 : decode cX10_readsAlike 0 = .ok (.iconst 0, 1) := by decide +kernel
theorem dX10_readsAlike_1 : decode cX10_readsAlike 1 = .ok (.istore_n 3, 1) := by decide +kernel
theorem dX10_readsAlike_2 : decode cX10_readsAlike 2 = .ok (.iload_n 3, 1) := by decide +kernel
theorem dX10_readsAlike_3 : decode cX10_readsAlike 3 = .ok (.iload_n 2, 1) := by decide +kernel
theorem dX10_readsAlike_4 : decode cX10_readsAlike 4 = .ok (.if_icmp .ge 34, 3) := by decide +kernel
theorem dX10_readsAlike_7 : decode cX10_readsAlike 7 = .ok (.aload_n 0, 1) := by decide +kernel
theorem dX10_readsAlike_8 : decode cX10_readsAlike 8 = .ok (.getfield 107, 3) := by decide +kernel
theorem dX10_readsAlike_11 : decode cX10_readsAlike 11 = .ok (.iload_n 1, 1) := by decide +kernel
theorem dX10_readsAlike_12 : decode cX10_readsAlike 12 = .ok (.iload_n 3, 1) := by decide +kernel
theorem dX10_readsAlike_13 : decode cX10_readsAlike 13 = .ok (.iadd, 1) := by decide +kernel
theorem dX10_readsAlike_14 : decode cX10_readsAlike 14 = .ok (.iaload, 1) := by decide +kernel
theorem dX10_readsAlike_15 : decode cX10_readsAlike 15 = .ok (.aload_n 0, 1) := by decide +kernel
theorem dX10_readsAlike_16 : decode cX10_readsAlike 16 = .ok (.getfield 107, 3) := by decide +kernel
theorem dX10_readsAlike_19 : decode cX10_readsAlike 19 = .ok (.iload_n 1, 1) := by decide +kernel
theorem dX10_readsAlike_20 : decode cX10_readsAlike 20 = .ok (.iload_n 2, 1) := by decide +kernel
theorem dX10_readsAlike_21 : decode cX10_readsAlike 21 = .ok (.iadd, 1) := by decide +kernel
theorem dX10_readsAlike_22 : decode cX10_readsAlike 22 = .ok (.iconst 1, 1) := by decide +kernel
theorem dX10_readsAlike_23 : decode cX10_readsAlike 23 = .ok (.isub, 1) := by decide +kernel
theorem dX10_readsAlike_24 : decode cX10_readsAlike 24 = .ok (.iload_n 3, 1) := by decide +kernel
theorem dX10_readsAlike_25 : decode cX10_readsAlike 25 = .ok (.isub, 1) := by decide +kernel
theorem dX10_readsAlike_26 : decode cX10_readsAlike 26 = .ok (.iaload, 1) := by decide +kernel
theorem dX10_readsAlike_27 : decode cX10_readsAlike 27 = .ok (.if_icmp .eq 5, 3) := by decide +kernel
theorem dX10_readsAlike_30 : decode cX10_readsAlike 30 = .ok (.iconst 0, 1) := by decide +kernel
theorem dX10_readsAlike_31 : decode cX10_readsAlike 31 = .ok (.ireturn, 1) := by decide +kernel
theorem dX10_readsAlike_32 : decode cX10_readsAlike 32 = .ok (.iinc 3 1, 3) := by decide +kernel
theorem dX10_readsAlike_35 : decode cX10_readsAlike 35 = .ok (.goto (-33), 3) := by decide +kernel
theorem dX10_readsAlike_38 : decode cX10_readsAlike 38 = .ok (.iconst 1, 1) := by decide +kernel
theorem dX10_readsAlike_39 : decode cX10_readsAlike 39 = .ok (.ireturn, 1) := by decide +kernel
theorem dX10_anew_0 : decode cX10_anew 0 = .ok (.aload_n 0, 1) := by decide +kernel
theorem dX10_anew_1 : decode cX10_anew 1 = .ok (.iconst 0, 1) := by decide +kernel
theorem dX10_anew_2 : decode cX10_anew 2 = .ok (.putfield 131, 3) := by decide +kernel
theorem dX10_anew_5 : decode cX10_anew 5 = .ok (.aload_n 0, 1) := by decide +kernel
theorem dX10_anew_6 : decode cX10_anew 6 = .ok (.iload_n 1, 1) := by decide +kernel
theorem dX10_anew_7 : decode cX10_anew 7 = .ok (.iconst 0, 1) := by decide +kernel
theorem dX10_anew_8 : decode cX10_anew 8 = .ok (.iconst 2, 1) := by decide +kernel
theorem dX10_anew_9 : decode cX10_anew 9 = .ok (.invokevirtual 149, 3) := by decide +kernel
theorem dX10_anew_12 : decode cX10_anew 12 = .ok (.ifCond .ne 5, 3) := by decide +kernel
theorem dX10_anew_15 : decode cX10_anew 15 = .ok (.iconst (-1), 1) := by decide +kernel
theorem dX10_anew_16 : decode cX10_anew 16 = .ok (.ireturn, 1) := by decide +kernel
theorem dX10_anew_17 : decode cX10_anew 17 = .ok (.iload_n 1, 1) := by decide +kernel
theorem dX10_anew_18 : decode cX10_anew 18 = .ok (.ifCond .ne 8, 3) := by decide +kernel
theorem dX10_anew_21 : decode cX10_anew 21 = .ok (.aload_n 0, 1) := by decide +kernel
theorem dX10_anew_22 : decode cX10_anew 22 = .ok (.invokevirtual 447, 3) := by decide +kernel
theorem dX10_anew_25 : decode cX10_anew 25 = .ok (.ireturn, 1) := by decide +kernel
theorem dX10_anew_26 : decode cX10_anew 26 = .ok (.aload_n 0, 1) := by decide +kernel
theorem dX10_anew_27 : decode cX10_anew 27 = .ok (.getfield 444, 3) := by decide +kernel
theorem dX10_anew_30 : decode cX10_anew 30 = .ok (.istore_n 2, 1) := by decide +kernel
theorem dX10_anew_31 : decode cX10_anew 31 = .ok (.iload_n 2, 1) := by decide +kernel
theorem dX10_anew_32 : decode cX10_anew 32 = .ok (.ifCond .le 47, 3) := by decide +kernel
theorem dX10_anew_35 : decode cX10_anew 35 = .ok (.iconst 0, 1) := by decide +kernel
theorem dX10_anew_36 : decode cX10_anew 36 = .ok (.istore_n 3, 1) := by decide +kernel
theorem dX10_anew_37 : decode cX10_anew 37 = .ok (.iload_n 3, 1) := by decide +kernel
theorem dX10_anew_38 : decode cX10_anew 38 = .ok (.iload_n 2, 1) := by decide +kernel
theorem dX10_anew_39 : decode cX10_anew 39 = .ok (.iadd, 1) := by decide +kernel
theorem dX10_anew_40 : decode cX10_anew 40 = .ok (.aload_n 0, 1) := by decide +kernel
theorem dX10_anew_41 : decode cX10_anew 41 = .ok (.getfield 444, 3) := by decide +kernel
theorem dX10_anew_44 : decode cX10_anew 44 = .ok (.if_icmp .gt 29, 3) := by decide +kernel
theorem dX10_anew_47 : decode cX10_anew 47 = .ok (.aload_n 0, 1) := by decide +kernel
theorem dX10_anew_48 : decode cX10_anew 48 = .ok (.iload_n 3, 1) := by decide +kernel
theorem dX10_anew_49 : decode cX10_anew 49 = .ok (.iload_n 2, 1) := by decide +kernel
theorem dX10_anew_50 : decode cX10_anew 50 = .ok (.invokevirtual 450, 3) := by decide +kernel
theorem dX10_anew_53 : decode cX10_anew 53 = .ok (.ifCond .eq 14, 3) := by decide +kernel
theorem dX10_anew_56 : decode cX10_anew 56 = .ok (.iload_n 1, 1) := by decide +kernel
theorem dX10_anew_57 : decode cX10_anew 57 = .ok (.iconst 1, 1) := by decide +kernel
theorem dX10_anew_58 : decode cX10_anew 58 = .ok (.if_icmp .ne 7, 3) := by decide +kernel
theorem dX10_anew_61 : decode cX10_anew 61 = .ok (.iload_n 2, 1) := by decide +kernel
theorem dX10_anew_62 : decode cX10_anew 62 = .ok (.goto 4, 3) := by decide +kernel
theorem dX10_anew_65 : decode cX10_anew 65 = .ok (.iload_n 3, 1) := by decide +kernel
theorem dX10_anew_66 : decode cX10_anew 66 = .ok (.ireturn, 1) := by decide +kernel
theorem dX10_anew_67 : decode cX10_anew 67 = .ok (.iinc 3 1, 3) := by decide +kernel
theorem dX10_anew_70 : decode cX10_anew 70 = .ok (.goto (-33), 3) := by decide +kernel
theorem dX10_anew_73 : decode cX10_anew 73 = .ok (.iinc 2 (-1), 3) := by decide +kernel
theorem dX10_anew_76 : decode cX10_anew 76 = .ok (.goto (-45), 3) := by decide +kernel
theorem dX10_anew_79 : decode cX10_anew 79 = .ok (.iload_n 1, 1) := by decide +kernel
theorem dX10_anew_80 : decode cX10_anew 80 = .ok (.iconst 1, 1) := by decide +kernel
theorem dX10_anew_81 : decode cX10_anew 81 = .ok (.if_icmp .ne 7, 3) := by decide +kernel
theorem dX10_anew_84 : decode cX10_anew 84 = .ok (.iconst 0, 1) := by decide +kernel
theorem dX10_anew_85 : decode cX10_anew 85 = .ok (.goto 4, 3) := by decide +kernel
theorem dX10_anew_88 : decode cX10_anew 88 = .ok (.iconst (-1), 1) := by decide +kernel
theorem dX10_anew_89 : decode cX10_anew 89 = .ok (.ireturn, 1) := by decide +kernel
theorem dX10_queen_0 : decode cX10_queen 0 = .ok (.aload_n 0, 1) := by decide +kernel
theorem dX10_queen_1 : decode cX10_queen 1 = .ok (.iconst 0, 1) := by decide +kernel
theorem dX10_queen_2 : decode cX10_queen 2 = .ok (.putfield 131, 3) := by decide +kernel
theorem dX10_queen_5 : decode cX10_queen 5 = .ok (.iload_n 1, 1) := by decide +kernel
theorem dX10_queen_6 : decode cX10_queen 6 = .ok (.iconst (-1), 1) := by decide +kernel
theorem dX10_queen_7 : decode cX10_queen 7 = .ok (.if_icmp .ne 10, 3) := by decide +kernel
theorem dX10_queen_10 : decode cX10_queen 10 = .ok (.aload_n 0, 1) := by decide +kernel
theorem dX10_queen_11 : decode cX10_queen 11 = .ok (.iconst 0, 1) := by decide +kernel
theorem dX10_queen_12 : decode cX10_queen 12 = .ok (.putfield 453, 3) := by decide +kernel
theorem dX10_queen_15 : decode cX10_queen 15 = .ok (.iconst 0, 1) := by decide +kernel
theorem dX10_queen_16 : decode cX10_queen 16 = .ok (.ireturn, 1) := by decide +kernel
theorem dX10_queen_17 : decode cX10_queen 17 = .ok (.aload_n 0, 1) := by decide +kernel
theorem dX10_queen_18 : decode cX10_queen 18 = .ok (.iload_n 1, 1) := by decide +kernel
theorem dX10_queen_19 : decode cX10_queen 19 = .ok (.iconst 0, 1) := by decide +kernel
theorem dX10_queen_20 : decode cX10_queen 20 = .ok (.bipush 6, 2) := by decide +kernel
theorem dX10_queen_22 : decode cX10_queen 22 = .ok (.invokevirtual 149, 3) := by decide +kernel
theorem dX10_queen_25 : decode cX10_queen 25 = .ok (.ifCond .eq 23, 3) := by decide +kernel
theorem dX10_queen_28 : decode cX10_queen 28 = .ok (.aload_n 0, 1) := by decide +kernel
theorem dX10_queen_29 : decode cX10_queen 29 = .ok (.iload_n 2, 1) := by decide +kernel
theorem dX10_queen_30 : decode cX10_queen 30 = .ok (.iconst 0, 1) := by decide +kernel
theorem dX10_queen_31 : decode cX10_queen 31 = .ok (.bipush 6, 2) := by decide +kernel
theorem dX10_queen_33 : decode cX10_queen 33 = .ok (.invokevirtual 149, 3) := by decide +kernel
theorem dX10_queen_36 : decode cX10_queen 36 = .ok (.ifCond .eq 12, 3) := by decide +kernel
theorem dX10_queen_39 : decode cX10_queen 39 = .ok (.aload_n 0, 1) := by decide +kernel
theorem dX10_queen_40 : decode cX10_queen 40 = .ok (.getfield 453, 3) := by decide +kernel
theorem dX10_queen_43 : decode cX10_queen 43 = .ok (.bipush 7, 2) := by decide +kernel
theorem dX10_queen_45 : decode cX10_queen 45 = .ok (.if_icmp .ne 5, 3) := by decide +kernel
theorem dX10_queen_48 : decode cX10_queen 48 = .ok (.iconst (-1), 1) := by decide +kernel
theorem dX10_queen_49 : decode cX10_queen 49 = .ok (.ireturn, 1) := by decide +kernel
theorem dX10_queen_50 : decode cX10_queen 50 = .ok (.iconst 0, 1) := by decide +kernel
theorem dX10_queen_51 : decode cX10_queen 51 = .ok (.istore_n 3, 1) := by decide +kernel
theorem dX10_queen_52 : decode cX10_queen 52 = .ok (.iload_n 3, 1) := by decide +kernel
theorem dX10_queen_53 : decode cX10_queen 53 = .ok (.aload_n 0, 1) := by decide +kernel
theorem dX10_queen_54 : decode cX10_queen 54 = .ok (.getfield 453, 3) := by decide +kernel
theorem dX10_queen_57 : decode cX10_queen 57 = .ok (.if_icmp .ge 26, 3) := by decide +kernel
theorem dX10_queen_60 : decode cX10_queen 60 = .ok (.aload_n 0, 1) := by decide +kernel
theorem dX10_queen_61 : decode cX10_queen 61 = .ok (.getfield 113, 3) := by decide +kernel
theorem dX10_queen_64 : decode cX10_queen 64 = .ok (.iload_n 3, 1) := by decide +kernel
theorem dX10_queen_65 : decode cX10_queen 65 = .ok (.iaload, 1) := by decide +kernel
theorem dX10_queen_66 : decode cX10_queen 66 = .ok (.bipush 7, 2) := by decide +kernel
theorem dX10_queen_68 : decode cX10_queen 68 = .ok (.iload_n 2, 1) := by decide +kernel
theorem dX10_queen_69 : decode cX10_queen 69 = .ok (.imul, 1) := by decide +kernel
theorem dX10_queen_70 : decode cX10_queen 70 = .ok (.iload_n 1, 1) := by decide +kernel
theorem dX10_queen_71 : decode cX10_queen 71 = .ok (.iadd, 1) := by decide +kernel
theorem dX10_queen_72 : decode cX10_queen 72 = .ok (.if_icmp .ne 5, 3) := by decide +kernel
theorem dX10_queen_75 : decode cX10_queen 75 = .ok (.iconst (-1), 1) := by decide +kernel
theorem dX10_queen_76 : decode cX10_queen 76 = .ok (.ireturn, 1) := by decide +kernel
theorem dX10_queen_77 : decode cX10_queen 77 = .ok (.iinc 3 1, 3) := by decide +kernel
theorem dX10_queen_80 : decode cX10_queen 80 = .ok (.goto (-28), 3) := by decide +kernel
theorem dX10_queen_83 : decode cX10_queen 83 = .ok (.aload_n 0, 1) := by decide +kernel
theorem dX10_queen_84 : decode cX10_queen 84 = .ok (.getfield 113, 3) := by decide +kernel
theorem dX10_queen_87 : decode cX10_queen 87 = .ok (.aload_n 0, 1) := by decide +kernel
theorem dX10_queen_88 : decode cX10_queen 88 = .ok (.getfield 453, 3) := by decide +kernel
theorem dX10_queen_91 : decode cX10_queen 91 = .ok (.bipush 7, 2) := by decide +kernel
theorem dX10_queen_93 : decode cX10_queen 93 = .ok (.iload_n 2, 1) := by decide +kernel
theorem dX10_queen_94 : decode cX10_queen 94 = .ok (.imul, 1) := by decide +kernel
theorem dX10_queen_95 : decode cX10_queen 95 = .ok (.iload_n 1, 1) := by decide +kernel
theorem dX10_queen_96 : decode cX10_queen 96 = .ok (.iadd, 1) := by decide +kernel
theorem dX10_queen_97 : decode cX10_queen 97 = .ok (.iastore, 1) := by decide +kernel
theorem dX10_queen_98 : decode cX10_queen 98 = .ok (.aload_n 0, 1) := by decide +kernel
theorem dX10_queen_99 : decode cX10_queen 99 = .ok (.aload_n 0, 1) := by decide +kernel
theorem dX10_queen_100 : decode cX10_queen 100 = .ok (.getfield 453, 3) := by decide +kernel
theorem dX10_queen_103 : decode cX10_queen 103 = .ok (.iconst 1, 1) := by decide +kernel
theorem dX10_queen_104 : decode cX10_queen 104 = .ok (.iadd, 1) := by decide +kernel
theorem dX10_queen_105 : decode cX10_queen 105 = .ok (.putfield 453, 3) := by decide +kernel
theorem dX10_queen_108 : decode cX10_queen 108 = .ok (.aload_n 0, 1) := by decide +kernel
theorem dX10_queen_109 : decode cX10_queen 109 = .ok (.getfield 453, 3) := by decide +kernel
theorem dX10_queen_112 : decode cX10_queen 112 = .ok (.ireturn, 1) := by decide +kernel
theorem dX10_doStand_0 : decode cX10_doStand 0 = .ok (.iconst 0, 1) := by decide +kernel
theorem dX10_doStand_1 : decode cX10_doStand 1 = .ok (.istore_n 2, 1) := by decide +kernel
theorem dX10_doStand_2 : decode cX10_doStand 2 = .ok (.iload_n 2, 1) := by decide +kernel
theorem dX10_doStand_3 : decode cX10_doStand 3 = .ok (.iload_n 1, 1) := by decide +kernel
theorem dX10_doStand_4 : decode cX10_doStand 4 = .ok (.if_icmp .ge 60, 3) := by decide +kernel
theorem dX10_doStand_7 : decode cX10_doStand 7 = .ok (.iconst 0, 1) := by decide +kernel
theorem dX10_doStand_8 : decode cX10_doStand 8 = .ok (.istore_n 3, 1) := by decide +kernel
theorem dX10_doStand_9 : decode cX10_doStand 9 = .ok (.iload_n 3, 1) := by decide +kernel
theorem dX10_doStand_10 : decode cX10_doStand 10 = .ok (.iload_n 2, 1) := by decide +kernel
theorem dX10_doStand_11 : decode cX10_doStand 11 = .ok (.if_icmp .ge 47, 3) := by decide +kernel
theorem dX10_doStand_14 : decode cX10_doStand 14 = .ok (.aload_n 0, 1) := by decide +kernel
theorem dX10_doStand_15 : decode cX10_doStand 15 = .ok (.getfield 116, 3) := by decide +kernel
theorem dX10_doStand_18 : decode cX10_doStand 18 = .ok (.iload_n 2, 1) := by decide +kernel
theorem dX10_doStand_19 : decode cX10_doStand 19 = .ok (.iaload, 1) := by decide +kernel
theorem dX10_doStand_20 : decode cX10_doStand 20 = .ok (.aload_n 0, 1) := by decide +kernel
theorem dX10_doStand_21 : decode cX10_doStand 21 = .ok (.getfield 116, 3) := by decide +kernel
theorem dX10_doStand_24 : decode cX10_doStand 24 = .ok (.iload_n 3, 1) := by decide +kernel
theorem dX10_doStand_25 : decode cX10_doStand 25 = .ok (.iaload, 1) := by decide +kernel
theorem dX10_doStand_26 : decode cX10_doStand 26 = .ok (.isub, 1) := by decide +kernel
theorem dX10_doStand_27 : decode cX10_doStand 27 = .ok (.istore 4, 2) := by decide +kernel
theorem dX10_doStand_29 : decode cX10_doStand 29 = .ok (.iload 4, 2) := by decide +kernel
theorem dX10_doStand_31 : decode cX10_doStand 31 = .ok (.ifCond .eq 19, 3) := by decide +kernel
theorem dX10_doStand_34 : decode cX10_doStand 34 = .ok (.iload 4, 2) := by decide +kernel
theorem dX10_doStand_36 : decode cX10_doStand 36 = .ok (.iload_n 2, 1) := by decide +kernel
theorem dX10_doStand_37 : decode cX10_doStand 37 = .ok (.iload_n 3, 1) := by decide +kernel
theorem dX10_doStand_38 : decode cX10_doStand 38 = .ok (.isub, 1) := by decide +kernel
theorem dX10_doStand_39 : decode cX10_doStand 39 = .ok (.if_icmp .eq 11, 3) := by decide +kernel
theorem dX10_doStand_42 : decode cX10_doStand 42 = .ok (.iload 4, 2) := by decide +kernel
theorem dX10_doStand_44 : decode cX10_doStand 44 = .ok (.iload_n 3, 1) := by decide +kernel
theorem dX10_doStand_45 : decode cX10_doStand 45 = .ok (.iload_n 2, 1) := by decide +kernel
theorem dX10_doStand_46 : decode cX10_doStand 46 = .ok (.isub, 1) := by decide +kernel
theorem dX10_doStand_47 : decode cX10_doStand 47 = .ok (.if_icmp .ne 5, 3) := by decide +kernel
theorem dX10_doStand_50 : decode cX10_doStand 50 = .ok (.iconst 0, 1) := by decide +kernel
theorem dX10_doStand_51 : decode cX10_doStand 51 = .ok (.ireturn, 1) := by decide +kernel
theorem dX10_doStand_52 : decode cX10_doStand 52 = .ok (.iinc 3 1, 3) := by decide +kernel
theorem dX10_doStand_55 : decode cX10_doStand 55 = .ok (.goto (-46), 3) := by decide +kernel
theorem dX10_doStand_58 : decode cX10_doStand 58 = .ok (.iinc 2 1, 3) := by decide +kernel
theorem dX10_doStand_61 : decode cX10_doStand 61 = .ok (.goto (-59), 3) := by decide +kernel
theorem dX10_doStand_64 : decode cX10_doStand 64 = .ok (.iconst 0, 1) := by decide +kernel
theorem dX10_doStand_65 : decode cX10_doStand 65 = .ok (.istore_n 2, 1) := by decide +kernel
theorem dX10_doStand_66 : decode cX10_doStand 66 = .ok (.iload_n 2, 1) := by decide +kernel
theorem dX10_doStand_67 : decode cX10_doStand 67 = .ok (.aload_n 0, 1) := by decide +kernel
theorem dX10_doStand_68 : decode cX10_doStand 68 = .ok (.getfield 453, 3) := by decide +kernel
theorem dX10_doStand_71 : decode cX10_doStand 71 = .ok (.if_icmp .ge 54, 3) := by decide +kernel
theorem dX10_doStand_74 : decode cX10_doStand 74 = .ok (.aload_n 0, 1) := by decide +kernel
theorem dX10_doStand_75 : decode cX10_doStand 75 = .ok (.getfield 113, 3) := by decide +kernel
theorem dX10_doStand_78 : decode cX10_doStand 78 = .ok (.iload_n 2, 1) := by decide +kernel
theorem dX10_doStand_79 : decode cX10_doStand 79 = .ok (.iaload, 1) := by decide +kernel
theorem dX10_doStand_80 : decode cX10_doStand 80 = .ok (.bipush 7, 2) := by decide +kernel
theorem dX10_doStand_82 : decode cX10_doStand 82 = .ok (.irem, 1) := by decide +kernel
theorem dX10_doStand_83 : decode cX10_doStand 83 = .ok (.istore_n 3, 1) := by decide +kernel
theorem dX10_doStand_84 : decode cX10_doStand 84 = .ok (.aload_n 0, 1) := by decide +kernel
theorem dX10_doStand_85 : decode cX10_doStand 85 = .ok (.getfield 113, 3) := by decide +kernel
theorem dX10_doStand_88 : decode cX10_doStand 88 = .ok (.iload_n 2, 1) := by decide +kernel
theorem dX10_doStand_89 : decode cX10_doStand 89 = .ok (.iaload, 1) := by decide +kernel
theorem dX10_doStand_90 : decode cX10_doStand 90 = .ok (.bipush 7, 2) := by decide +kernel
theorem dX10_doStand_92 : decode cX10_doStand 92 = .ok (.idiv, 1) := by decide +kernel
theorem dX10_doStand_93 : decode cX10_doStand 93 = .ok (.istore 4, 2) := by decide +kernel
theorem dX10_doStand_95 : decode cX10_doStand 95 = .ok (.iload_n 3, 1) := by decide +kernel
theorem dX10_doStand_96 : decode cX10_doStand 96 = .ok (.iload_n 1, 1) := by decide +kernel
theorem dX10_doStand_97 : decode cX10_doStand 97 = .ok (.if_icmp .ge 22, 3) := by decide +kernel
theorem dX10_doStand_100 : decode cX10_doStand 100 = .ok (.iload 4, 2) := by decide +kernel
theorem dX10_doStand_102 : decode cX10_doStand 102 = .ok (.iload_n 1, 1) := by decide +kernel
theorem dX10_doStand_103 : decode cX10_doStand 103 = .ok (.if_icmp .ge 16, 3) := by decide +kernel
theorem dX10_doStand_106 : decode cX10_doStand 106 = .ok (.aload_n 0, 1) := by decide +kernel
theorem dX10_doStand_107 : decode cX10_doStand 107 = .ok (.getfield 116, 3) := by decide +kernel
theorem dX10_doStand_110 : decode cX10_doStand 110 = .ok (.iload 4, 2) := by decide +kernel
theorem dX10_doStand_112 : decode cX10_doStand 112 = .ok (.iaload, 1) := by decide +kernel
theorem dX10_doStand_113 : decode cX10_doStand 113 = .ok (.iload_n 3, 1) := by decide +kernel
theorem dX10_doStand_114 : decode cX10_doStand 114 = .ok (.if_icmp .eq 5, 3) := by decide +kernel
theorem dX10_doStand_117 : decode cX10_doStand 117 = .ok (.iconst 0, 1) := by decide +kernel
theorem dX10_doStand_118 : decode cX10_doStand 118 = .ok (.ireturn, 1) := by decide +kernel
theorem dX10_doStand_119 : decode cX10_doStand 119 = .ok (.iinc 2 1, 3) := by decide +kernel
theorem dX10_doStand_122 : decode cX10_doStand 122 = .ok (.goto (-56), 3) := by decide +kernel
theorem dX10_doStand_125 : decode cX10_doStand 125 = .ok (.iconst 1, 1) := by decide +kernel
theorem dX10_doStand_126 : decode cX10_doStand 126 = .ok (.ireturn, 1) := by decide +kernel
theorem dX10_queens_0 : decode cX10_queens 0 = .ok (.aload_n 0, 1) := by decide +kernel
theorem dX10_queens_1 : decode cX10_queens 1 = .ok (.iconst 0, 1) := by decide +kernel
theorem dX10_queens_2 : decode cX10_queens 2 = .ok (.putfield 131, 3) := by decide +kernel
theorem dX10_queens_5 : decode cX10_queens 5 = .ok (.aload_n 0, 1) := by decide +kernel
theorem dX10_queens_6 : decode cX10_queens 6 = .ok (.iload_n 1, 1) := by decide +kernel
theorem dX10_queens_7 : decode cX10_queens 7 = .ok (.iconst 1, 1) := by decide +kernel
theorem dX10_queens_8 : decode cX10_queens 8 = .ok (.bipush 7, 2) := by decide +kernel
theorem dX10_queens_10 : decode cX10_queens 10 = .ok (.invokevirtual 149, 3) := by decide +kernel
theorem dX10_queens_13 : decode cX10_queens 13 = .ok (.ifCond .ne 5, 3) := by decide +kernel
theorem dX10_queens_16 : decode cX10_queens 16 = .ok (.iconst (-1), 1) := by decide +kernel
theorem dX10_queens_17 : decode cX10_queens 17 = .ok (.ireturn, 1) := by decide +kernel
theorem dX10_queens_18 : decode cX10_queens 18 = .ok (.iconst 1, 1) := by decide +kernel
theorem dX10_queens_19 : decode cX10_queens 19 = .ok (.istore_n 2, 1) := by decide +kernel
theorem dX10_queens_20 : decode cX10_queens 20 = .ok (.iconst 0, 1) := by decide +kernel
theorem dX10_queens_21 : decode cX10_queens 21 = .ok (.istore_n 3, 1) := by decide +kernel
theorem dX10_queens_22 : decode cX10_queens 22 = .ok (.iload_n 3, 1) := by decide +kernel
theorem dX10_queens_23 : decode cX10_queens 23 = .ok (.iload_n 1, 1) := by decide +kernel
theorem dX10_queens_24 : decode cX10_queens 24 = .ok (.if_icmp .ge 13, 3) := by decide +kernel
theorem dX10_queens_27 : decode cX10_queens 27 = .ok (.iload_n 2, 1) := by decide +kernel
theorem dX10_queens_28 : decode cX10_queens 28 = .ok (.iload_n 1, 1) := by decide +kernel
theorem dX10_queens_29 : decode cX10_queens 29 = .ok (.imul, 1) := by decide +kernel
theorem dX10_queens_30 : decode cX10_queens 30 = .ok (.istore_n 2, 1) := by decide +kernel
theorem dX10_queens_31 : decode cX10_queens 31 = .ok (.iinc 3 1, 3) := by decide +kernel
theorem dX10_queens_34 : decode cX10_queens 34 = .ok (.goto (-12), 3) := by decide +kernel
theorem dX10_queens_37 : decode cX10_queens 37 = .ok (.iconst 0, 1) := by decide +kernel
theorem dX10_queens_38 : decode cX10_queens 38 = .ok (.istore_n 3, 1) := by decide +kernel
theorem dX10_queens_39 : decode cX10_queens 39 = .ok (.iconst 0, 1) := by decide +kernel
theorem dX10_queens_40 : decode cX10_queens 40 = .ok (.istore 4, 2) := by decide +kernel
theorem dX10_queens_42 : decode cX10_queens 42 = .ok (.iload 4, 2) := by decide +kernel
theorem dX10_queens_44 : decode cX10_queens 44 = .ok (.iload_n 2, 1) := by decide +kernel
theorem dX10_queens_45 : decode cX10_queens 45 = .ok (.if_icmp .ge 57, 3) := by decide +kernel
theorem dX10_queens_48 : decode cX10_queens 48 = .ok (.iload 4, 2) := by decide +kernel
theorem dX10_queens_50 : decode cX10_queens 50 = .ok (.istore 5, 2) := by decide +kernel
theorem dX10_queens_52 : decode cX10_queens 52 = .ok (.iconst 0, 1) := by decide +kernel
theorem dX10_queens_53 : decode cX10_queens 53 = .ok (.istore 6, 2) := by decide +kernel
theorem dX10_queens_55 : decode cX10_queens 55 = .ok (.iload 6, 2) := by decide +kernel
theorem dX10_queens_57 : decode cX10_queens 57 = .ok (.iload_n 1, 1) := by decide +kernel
theorem dX10_queens_58 : decode cX10_queens 58 = .ok (.if_icmp .ge 26, 3) := by decide +kernel
theorem dX10_queens_61 : decode cX10_queens 61 = .ok (.aload_n 0, 1) := by decide +kernel
theorem dX10_queens_62 : decode cX10_queens 62 = .ok (.getfield 116, 3) := by decide +kernel
theorem dX10_queens_65 : decode cX10_queens 65 = .ok (.iload 6, 2) := by decide +kernel
theorem dX10_queens_67 : decode cX10_queens 67 = .ok (.iload 5, 2) := by decide +kernel
theorem dX10_queens_69 : decode cX10_queens 69 = .ok (.iload_n 1, 1) := by decide +kernel
theorem dX10_queens_70 : decode cX10_queens 70 = .ok (.irem, 1) := by decide +kernel
theorem dX10_queens_71 : decode cX10_queens 71 = .ok (.iastore, 1) := by decide +kernel
theorem dX10_queens_72 : decode cX10_queens 72 = .ok (.iload 5, 2) := by decide +kernel
theorem dX10_queens_74 : decode cX10_queens 74 = .ok (.iload_n 1, 1) := by decide +kernel
theorem dX10_queens_75 : decode cX10_queens 75 = .ok (.idiv, 1) := by decide +kernel
theorem dX10_queens_76 : decode cX10_queens 76 = .ok (.istore 5, 2) := by decide +kernel
theorem dX10_queens_78 : decode cX10_queens 78 = .ok (.iinc 6 1, 3) := by decide +kernel
theorem dX10_queens_81 : decode cX10_queens 81 = .ok (.goto (-26), 3) := by decide +kernel
theorem dX10_queens_84 : decode cX10_queens 84 = .ok (.aload_n 0, 1) := by decide +kernel
theorem dX10_queens_85 : decode cX10_queens 85 = .ok (.iload_n 1, 1) := by decide +kernel
theorem dX10_queens_86 : decode cX10_queens 86 = .ok (.invokevirtual 456, 3) := by decide +kernel
theorem dX10_queens_89 : decode cX10_queens 89 = .ok (.ifCond .eq 7, 3) := by decide +kernel
theorem dX10_queens_92 : decode cX10_queens 92 = .ok (.iload_n 3, 1) := by decide +kernel
theorem dX10_queens_93 : decode cX10_queens 93 = .ok (.iconst 1, 1) := by decide +kernel
theorem dX10_queens_94 : decode cX10_queens 94 = .ok (.iadd, 1) := by decide +kernel
theorem dX10_queens_95 : decode cX10_queens 95 = .ok (.istore_n 3, 1) := by decide +kernel
theorem dX10_queens_96 : decode cX10_queens 96 = .ok (.iinc 4 1, 3) := by decide +kernel
theorem dX10_queens_99 : decode cX10_queens 99 = .ok (.goto (-57), 3) := by decide +kernel
theorem dX10_queens_102 : decode cX10_queens 102 = .ok (.iload_n 3, 1) := by decide +kernel
theorem dX10_queens_103 : decode cX10_queens 103 = .ok (.ireturn, 1) := by decide +kernel
theorem dX10_corner_0 : decode cX10_corner 0 = .ok (.aload_n 0, 1) := by decide +kernel
theorem dX10_corner_1 : decode cX10_corner 1 = .ok (.iconst 0, 1) := by decide +kernel
theorem dX10_corner_2 : decode cX10_corner 2 = .ok (.putfield 131, 3) := by decide +kernel
theorem dX10_corner_5 : decode cX10_corner 5 = .ok (.iload_n 1, 1) := by decide +kernel
theorem dX10_corner_6 : decode cX10_corner 6 = .ok (.bipush (-100), 2) := by decide +kernel
theorem dX10_corner_8 : decode cX10_corner 8 = .ok (.if_icmp .ne 10, 3) := by decide +kernel
theorem dX10_corner_11 : decode cX10_corner 11 = .ok (.aload_n 0, 1) := by decide +kernel
theorem dX10_corner_12 : decode cX10_corner 12 = .ok (.iconst 0, 1) := by decide +kernel
theorem dX10_corner_13 : decode cX10_corner 13 = .ok (.putfield 459, 3) := by decide +kernel
theorem dX10_corner_16 : decode cX10_corner 16 = .ok (.iconst 0, 1) := by decide +kernel
theorem dX10_corner_17 : decode cX10_corner 17 = .ok (.ireturn, 1) := by decide +kernel
theorem dX10_corner_18 : decode cX10_corner 18 = .ok (.aload_n 0, 1) := by decide +kernel
theorem dX10_corner_19 : decode cX10_corner 19 = .ok (.iload_n 1, 1) := by decide +kernel
theorem dX10_corner_20 : decode cX10_corner 20 = .ok (.bipush (-50), 2) := by decide +kernel
theorem dX10_corner_22 : decode cX10_corner 22 = .ok (.bipush 50, 2) := by decide +kernel
theorem dX10_corner_24 : decode cX10_corner 24 = .ok (.invokevirtual 149, 3) := by decide +kernel
theorem dX10_corner_27 : decode cX10_corner 27 = .ok (.ifCond .eq 24, 3) := by decide +kernel
theorem dX10_corner_30 : decode cX10_corner 30 = .ok (.aload_n 0, 1) := by decide +kernel
theorem dX10_corner_31 : decode cX10_corner 31 = .ok (.iload_n 2, 1) := by decide +kernel
theorem dX10_corner_32 : decode cX10_corner 32 = .ok (.bipush (-50), 2) := by decide +kernel
theorem dX10_corner_34 : decode cX10_corner 34 = .ok (.bipush 50, 2) := by decide +kernel
theorem dX10_corner_36 : decode cX10_corner 36 = .ok (.invokevirtual 149, 3) := by decide +kernel
theorem dX10_corner_39 : decode cX10_corner 39 = .ok (.ifCond .eq 12, 3) := by decide +kernel
theorem dX10_corner_42 : decode cX10_corner 42 = .ok (.aload_n 0, 1) := by decide +kernel
theorem dX10_corner_43 : decode cX10_corner 43 = .ok (.getfield 459, 3) := by decide +kernel
theorem dX10_corner_46 : decode cX10_corner 46 = .ok (.bipush 8, 2) := by decide +kernel
theorem dX10_corner_48 : decode cX10_corner 48 = .ok (.if_icmp .ne 5, 3) := by decide +kernel
theorem dX10_corner_51 : decode cX10_corner 51 = .ok (.iconst (-1), 1) := by decide +kernel
theorem dX10_corner_52 : decode cX10_corner 52 = .ok (.ireturn, 1) := by decide +kernel
theorem dX10_corner_53 : decode cX10_corner 53 = .ok (.aload_n 0, 1) := by decide +kernel
theorem dX10_corner_54 : decode cX10_corner 54 = .ok (.getfield 119, 3) := by decide +kernel
theorem dX10_corner_57 : decode cX10_corner 57 = .ok (.aload_n 0, 1) := by decide +kernel
theorem dX10_corner_58 : decode cX10_corner 58 = .ok (.getfield 459, 3) := by decide +kernel
theorem dX10_corner_61 : decode cX10_corner 61 = .ok (.iload_n 1, 1) := by decide +kernel
theorem dX10_corner_62 : decode cX10_corner 62 = .ok (.iastore, 1) := by decide +kernel
theorem dX10_corner_63 : decode cX10_corner 63 = .ok (.aload_n 0, 1) := by decide +kernel
theorem dX10_corner_64 : decode cX10_corner 64 = .ok (.getfield 122, 3) := by decide +kernel
theorem dX10_corner_67 : decode cX10_corner 67 = .ok (.aload_n 0, 1) := by decide +kernel
theorem dX10_corner_68 : decode cX10_corner 68 = .ok (.getfield 459, 3) := by decide +kernel
theorem dX10_corner_71 : decode cX10_corner 71 = .ok (.iload_n 2, 1) := by decide +kernel
theorem dX10_corner_72 : decode cX10_corner 72 = .ok (.iastore, 1) := by decide +kernel
theorem dX10_corner_73 : decode cX10_corner 73 = .ok (.aload_n 0, 1) := by decide +kernel
theorem dX10_corner_74 : decode cX10_corner 74 = .ok (.aload_n 0, 1) := by decide +kernel
theorem dX10_corner_75 : decode cX10_corner 75 = .ok (.getfield 459, 3) := by decide +kernel
theorem dX10_corner_78 : decode cX10_corner 78 = .ok (.iconst 1, 1) := by decide +kernel
theorem dX10_corner_79 : decode cX10_corner 79 = .ok (.iadd, 1) := by decide +kernel
theorem dX10_corner_80 : decode cX10_corner 80 = .ok (.putfield 459, 3) := by decide +kernel
theorem dX10_corner_83 : decode cX10_corner 83 = .ok (.aload_n 0, 1) := by decide +kernel
theorem dX10_corner_84 : decode cX10_corner 84 = .ok (.getfield 459, 3) := by decide +kernel
theorem dX10_corner_87 : decode cX10_corner 87 = .ok (.ireturn, 1) := by decide +kernel
theorem dX10_nextCorner_0 : decode cX10_nextCorner 0 = .ok (.iload_n 1, 1) := by decide +kernel
theorem dX10_nextCorner_1 : decode cX10_nextCorner 1 = .ok (.iconst 1, 1) := by decide +kernel
theorem dX10_nextCorner_2 : decode cX10_nextCorner 2 = .ok (.iadd, 1) := by decide +kernel
theorem dX10_nextCorner_3 : decode cX10_nextCorner 3 = .ok (.aload_n 0, 1) := by decide +kernel
theorem dX10_nextCorner_4 : decode cX10_nextCorner 4 = .ok (.getfield 459, 3) := by decide +kernel
theorem dX10_nextCorner_7 : decode cX10_nextCorner 7 = .ok (.irem, 1) := by decide +kernel
theorem dX10_nextCorner_8 : decode cX10_nextCorner 8 = .ok (.ireturn, 1) := by decide +kernel
theorem dX10_sideOf_0 : decode cX10_sideOf 0 = .ok (.aload_n 0, 1) := by decide +kernel
theorem dX10_sideOf_1 : decode cX10_sideOf 1 = .ok (.iload_n 1, 1) := by decide +kernel
theorem dX10_sideOf_2 : decode cX10_sideOf 2 = .ok (.invokevirtual 462, 3) := by decide +kernel
theorem dX10_sideOf_5 : decode cX10_sideOf 5 = .ok (.istore 4, 2) := by decide +kernel
theorem dX10_sideOf_7 : decode cX10_sideOf 7 = .ok (.aload_n 0, 1) := by decide +kernel
theorem dX10_sideOf_8 : decode cX10_sideOf 8 = .ok (.getfield 119, 3) := by decide +kernel
theorem dX10_sideOf_11 : decode cX10_sideOf 11 = .ok (.iload 4, 2) := by decide +kernel
theorem dX10_sideOf_13 : decode cX10_sideOf 13 = .ok (.iaload, 1) := by decide +kernel
theorem dX10_sideOf_14 : decode cX10_sideOf 14 = .ok (.aload_n 0, 1) := by decide +kernel
theorem dX10_sideOf_15 : decode cX10_sideOf 15 = .ok (.getfield 119, 3) := by decide +kernel
theorem dX10_sideOf_18 : decode cX10_sideOf 18 = .ok (.iload_n 1, 1) := by decide +kernel
theorem dX10_sideOf_19 : decode cX10_sideOf 19 = .ok (.iaload, 1) := by decide +kernel
theorem dX10_sideOf_20 : decode cX10_sideOf 20 = .ok (.isub, 1) := by decide +kernel
theorem dX10_sideOf_21 : decode cX10_sideOf 21 = .ok (.iload_n 3, 1) := by decide +kernel
theorem dX10_sideOf_22 : decode cX10_sideOf 22 = .ok (.aload_n 0, 1) := by decide +kernel
theorem dX10_sideOf_23 : decode cX10_sideOf 23 = .ok (.getfield 122, 3) := by decide +kernel
theorem dX10_sideOf_26 : decode cX10_sideOf 26 = .ok (.iload_n 1, 1) := by decide +kernel
theorem dX10_sideOf_27 : decode cX10_sideOf 27 = .ok (.iaload, 1) := by decide +kernel
theorem dX10_sideOf_28 : decode cX10_sideOf 28 = .ok (.isub, 1) := by decide +kernel
theorem dX10_sideOf_29 : decode cX10_sideOf 29 = .ok (.imul, 1) := by decide +kernel
theorem dX10_sideOf_30 : decode cX10_sideOf 30 = .ok (.aload_n 0, 1) := by decide +kernel
theorem dX10_sideOf_31 : decode cX10_sideOf 31 = .ok (.getfield 122, 3) := by decide +kernel
theorem dX10_sideOf_34 : decode cX10_sideOf 34 = .ok (.iload 4, 2) := by decide +kernel
theorem dX10_sideOf_36 : decode cX10_sideOf 36 = .ok (.iaload, 1) := by decide +kernel
theorem dX10_sideOf_37 : decode cX10_sideOf 37 = .ok (.aload_n 0, 1) := by decide +kernel
theorem dX10_sideOf_38 : decode cX10_sideOf 38 = .ok (.getfield 122, 3) := by decide +kernel
theorem dX10_sideOf_41 : decode cX10_sideOf 41 = .ok (.iload_n 1, 1) := by decide +kernel
theorem dX10_sideOf_42 : decode cX10_sideOf 42 = .ok (.iaload, 1) := by decide +kernel
theorem dX10_sideOf_43 : decode cX10_sideOf 43 = .ok (.isub, 1) := by decide +kernel
theorem dX10_sideOf_44 : decode cX10_sideOf 44 = .ok (.iload_n 2, 1) := by decide +kernel
theorem dX10_sideOf_45 : decode cX10_sideOf 45 = .ok (.aload_n 0, 1) := by decide +kernel
theorem dX10_sideOf_46 : decode cX10_sideOf 46 = .ok (.getfield 119, 3) := by decide +kernel
theorem dX10_sideOf_49 : decode cX10_sideOf 49 = .ok (.iload_n 1, 1) := by decide +kernel
theorem dX10_sideOf_50 : decode cX10_sideOf 50 = .ok (.iaload, 1) := by decide +kernel
theorem dX10_sideOf_51 : decode cX10_sideOf 51 = .ok (.isub, 1) := by decide +kernel
theorem dX10_sideOf_52 : decode cX10_sideOf 52 = .ok (.imul, 1) := by decide +kernel
theorem dX10_sideOf_53 : decode cX10_sideOf 53 = .ok (.isub, 1) := by decide +kernel
theorem dX10_sideOf_54 : decode cX10_sideOf 54 = .ok (.ireturn, 1) := by decide +kernel
theorem dX10_isOnEdge_0 : decode cX10_isOnEdge 0 = .ok (.aload_n 0, 1) := by decide +kernel
theorem dX10_isOnEdge_1 : decode cX10_isOnEdge 1 = .ok (.iload_n 1, 1) := by decide +kernel
theorem dX10_isOnEdge_2 : decode cX10_isOnEdge 2 = .ok (.invokevirtual 462, 3) := by decide +kernel
theorem dX10_isOnEdge_5 : decode cX10_isOnEdge 5 = .ok (.istore 4, 2) := by decide +kernel
theorem dX10_isOnEdge_7 : decode cX10_isOnEdge 7 = .ok (.aload_n 0, 1) := by decide +kernel
theorem dX10_isOnEdge_8 : decode cX10_isOnEdge 8 = .ok (.iload_n 1, 1) := by decide +kernel
theorem dX10_isOnEdge_9 : decode cX10_isOnEdge 9 = .ok (.iload_n 2, 1) := by decide +kernel
theorem dX10_isOnEdge_10 : decode cX10_isOnEdge 10 = .ok (.iload_n 3, 1) := by decide +kernel
theorem dX10_isOnEdge_11 : decode cX10_isOnEdge 11 = .ok (.invokevirtual 465, 3) := by decide +kernel
theorem dX10_isOnEdge_14 : decode cX10_isOnEdge 14 = .ok (.ifCond .ne 91, 3) := by decide +kernel
theorem dX10_isOnEdge_17 : decode cX10_isOnEdge 17 = .ok (.aload_n 0, 1) := by decide +kernel
theorem dX10_isOnEdge_18 : decode cX10_isOnEdge 18 = .ok (.iload_n 2, 1) := by decide +kernel
theorem dX10_isOnEdge_19 : decode cX10_isOnEdge 19 = .ok (.aload_n 0, 1) := by decide +kernel
theorem dX10_isOnEdge_20 : decode cX10_isOnEdge 20 = .ok (.aload_n 0, 1) := by decide +kernel
theorem dX10_isOnEdge_21 : decode cX10_isOnEdge 21 = .ok (.getfield 119, 3) := by decide +kernel
theorem dX10_isOnEdge_24 : decode cX10_isOnEdge 24 = .ok (.iload_n 1, 1) := by decide +kernel
theorem dX10_isOnEdge_25 : decode cX10_isOnEdge 25 = .ok (.iaload, 1) := by decide +kernel
theorem dX10_isOnEdge_26 : decode cX10_isOnEdge 26 = .ok (.aload_n 0, 1) := by decide +kernel
theorem dX10_isOnEdge_27 : decode cX10_isOnEdge 27 = .ok (.getfield 119, 3) := by decide +kernel
theorem dX10_isOnEdge_30 : decode cX10_isOnEdge 30 = .ok (.iload 4, 2) := by decide +kernel
theorem dX10_isOnEdge_32 : decode cX10_isOnEdge 32 = .ok (.iaload, 1) := by decide +kernel
theorem dX10_isOnEdge_33 : decode cX10_isOnEdge 33 = .ok (.invokevirtual 350, 3) := by decide +kernel
theorem dX10_isOnEdge_36 : decode cX10_isOnEdge 36 = .ok (.aload_n 0, 1) := by decide +kernel
theorem dX10_isOnEdge_37 : decode cX10_isOnEdge 37 = .ok (.aload_n 0, 1) := by decide +kernel
theorem dX10_isOnEdge_38 : decode cX10_isOnEdge 38 = .ok (.getfield 119, 3) := by decide +kernel
theorem dX10_isOnEdge_41 : decode cX10_isOnEdge 41 = .ok (.iload_n 1, 1) := by decide +kernel
theorem dX10_isOnEdge_42 : decode cX10_isOnEdge 42 = .ok (.iaload, 1) := by decide +kernel
theorem dX10_isOnEdge_43 : decode cX10_isOnEdge 43 = .ok (.aload_n 0, 1) := by decide +kernel
theorem dX10_isOnEdge_44 : decode cX10_isOnEdge 44 = .ok (.getfield 119, 3) := by decide +kernel
theorem dX10_isOnEdge_47 : decode cX10_isOnEdge 47 = .ok (.iload 4, 2) := by decide +kernel
theorem dX10_isOnEdge_49 : decode cX10_isOnEdge 49 = .ok (.iaload, 1) := by decide +kernel
theorem dX10_isOnEdge_50 : decode cX10_isOnEdge 50 = .ok (.invokevirtual 368, 3) := by decide +kernel
theorem dX10_isOnEdge_53 : decode cX10_isOnEdge 53 = .ok (.invokevirtual 149, 3) := by decide +kernel
theorem dX10_isOnEdge_56 : decode cX10_isOnEdge 56 = .ok (.ifCond .eq 49, 3) := by decide +kernel
theorem dX10_isOnEdge_59 : decode cX10_isOnEdge 59 = .ok (.aload_n 0, 1) := by decide +kernel
theorem dX10_isOnEdge_60 : decode cX10_isOnEdge 60 = .ok (.iload_n 3, 1) := by decide +kernel
theorem dX10_isOnEdge_61 : decode cX10_isOnEdge 61 = .ok (.aload_n 0, 1) := by decide +kernel
theorem dX10_isOnEdge_62 : decode cX10_isOnEdge 62 = .ok (.aload_n 0, 1) := by decide +kernel
theorem dX10_isOnEdge_63 : decode cX10_isOnEdge 63 = .ok (.getfield 122, 3) := by decide +kernel
theorem dX10_isOnEdge_66 : decode cX10_isOnEdge 66 = .ok (.iload_n 1, 1) := by decide +kernel
theorem dX10_isOnEdge_67 : decode cX10_isOnEdge 67 = .ok (.iaload, 1) := by decide +kernel
theorem dX10_isOnEdge_68 : decode cX10_isOnEdge 68 = .ok (.aload_n 0, 1) := by decide +kernel
theorem dX10_isOnEdge_69 : decode cX10_isOnEdge 69 = .ok (.getfield 122, 3) := by decide +kernel
theorem dX10_isOnEdge_72 : decode cX10_isOnEdge 72 = .ok (.iload 4, 2) := by decide +kernel
theorem dX10_isOnEdge_74 : decode cX10_isOnEdge 74 = .ok (.iaload, 1) := by decide +kernel
theorem dX10_isOnEdge_75 : decode cX10_isOnEdge 75 = .ok (.invokevirtual 350, 3) := by decide +kernel
theorem dX10_isOnEdge_78 : decode cX10_isOnEdge 78 = .ok (.aload_n 0, 1) := by decide +kernel
theorem dX10_isOnEdge_79 : decode cX10_isOnEdge 79 = .ok (.aload_n 0, 1) := by decide +kernel
theorem dX10_isOnEdge_80 : decode cX10_isOnEdge 80 = .ok (.getfield 122, 3) := by decide +kernel
theorem dX10_isOnEdge_83 : decode cX10_isOnEdge 83 = .ok (.iload_n 1, 1) := by decide +kernel
theorem dX10_isOnEdge_84 : decode cX10_isOnEdge 84 = .ok (.iaload, 1) := by decide +kernel
theorem dX10_isOnEdge_85 : decode cX10_isOnEdge 85 = .ok (.aload_n 0, 1) := by decide +kernel
theorem dX10_isOnEdge_86 : decode cX10_isOnEdge 86 = .ok (.getfield 122, 3) := by decide +kernel
theorem dX10_isOnEdge_89 : decode cX10_isOnEdge 89 = .ok (.iload 4, 2) := by decide +kernel
theorem dX10_isOnEdge_91 : decode cX10_isOnEdge 91 = .ok (.iaload, 1) := by decide +kernel
theorem dX10_isOnEdge_92 : decode cX10_isOnEdge 92 = .ok (.invokevirtual 368, 3) := by decide +kernel
theorem dX10_isOnEdge_95 : decode cX10_isOnEdge 95 = .ok (.invokevirtual 149, 3) := by decide +kernel
theorem dX10_isOnEdge_98 : decode cX10_isOnEdge 98 = .ok (.ifCond .eq 7, 3) := by decide +kernel
theorem dX10_isOnEdge_101 : decode cX10_isOnEdge 101 = .ok (.iconst 1, 1) := by decide +kernel
theorem dX10_isOnEdge_102 : decode cX10_isOnEdge 102 = .ok (.goto 4, 3) := by decide +kernel
theorem dX10_isOnEdge_105 : decode cX10_isOnEdge 105 = .ok (.iconst 0, 1) := by decide +kernel
theorem dX10_isOnEdge_106 : decode cX10_isOnEdge 106 = .ok (.ireturn, 1) := by decide +kernel
theorem dX10_isMet_0 : decode cX10_isMet 0 = .ok (.aload_n 0, 1) := by decide +kernel
theorem dX10_isMet_1 : decode cX10_isMet 1 = .ok (.iload_n 1, 1) := by decide +kernel
theorem dX10_isMet_2 : decode cX10_isMet 2 = .ok (.invokevirtual 462, 3) := by decide +kernel
theorem dX10_isMet_5 : decode cX10_isMet 5 = .ok (.istore 4, 2) := by decide +kernel
theorem dX10_isMet_7 : decode cX10_isMet 7 = .ok (.aload_n 0, 1) := by decide +kernel
theorem dX10_isMet_8 : decode cX10_isMet 8 = .ok (.iload_n 3, 1) := by decide +kernel
theorem dX10_isMet_9 : decode cX10_isMet 9 = .ok (.aload_n 0, 1) := by decide +kernel
theorem dX10_isMet_10 : decode cX10_isMet 10 = .ok (.aload_n 0, 1) := by decide +kernel
theorem dX10_isMet_11 : decode cX10_isMet 11 = .ok (.getfield 122, 3) := by decide +kernel
theorem dX10_isMet_14 : decode cX10_isMet 14 = .ok (.iload_n 1, 1) := by decide +kernel
theorem dX10_isMet_15 : decode cX10_isMet 15 = .ok (.iaload, 1) := by decide +kernel
theorem dX10_isMet_16 : decode cX10_isMet 16 = .ok (.aload_n 0, 1) := by decide +kernel
theorem dX10_isMet_17 : decode cX10_isMet 17 = .ok (.getfield 122, 3) := by decide +kernel
theorem dX10_isMet_20 : decode cX10_isMet 20 = .ok (.iload 4, 2) := by decide +kernel
theorem dX10_isMet_22 : decode cX10_isMet 22 = .ok (.iaload, 1) := by decide +kernel
theorem dX10_isMet_23 : decode cX10_isMet 23 = .ok (.invokevirtual 350, 3) := by decide +kernel
theorem dX10_isMet_26 : decode cX10_isMet 26 = .ok (.aload_n 0, 1) := by decide +kernel
theorem dX10_isMet_27 : decode cX10_isMet 27 = .ok (.aload_n 0, 1) := by decide +kernel
theorem dX10_isMet_28 : decode cX10_isMet 28 = .ok (.getfield 122, 3) := by decide +kernel
theorem dX10_isMet_31 : decode cX10_isMet 31 = .ok (.iload_n 1, 1) := by decide +kernel
theorem dX10_isMet_32 : decode cX10_isMet 32 = .ok (.iaload, 1) := by decide +kernel
theorem dX10_isMet_33 : decode cX10_isMet 33 = .ok (.aload_n 0, 1) := by decide +kernel
theorem dX10_isMet_34 : decode cX10_isMet 34 = .ok (.getfield 122, 3) := by decide +kernel
theorem dX10_isMet_37 : decode cX10_isMet 37 = .ok (.iload 4, 2) := by decide +kernel
theorem dX10_isMet_39 : decode cX10_isMet 39 = .ok (.iaload, 1) := by decide +kernel
theorem dX10_isMet_40 : decode cX10_isMet 40 = .ok (.invokevirtual 368, 3) := by decide +kernel
theorem dX10_isMet_43 : decode cX10_isMet 43 = .ok (.iconst 1, 1) := by decide +kernel
theorem dX10_isMet_44 : decode cX10_isMet 44 = .ok (.isub, 1) := by decide +kernel
theorem dX10_isMet_45 : decode cX10_isMet 45 = .ok (.invokevirtual 149, 3) := by decide +kernel
theorem dX10_isMet_48 : decode cX10_isMet 48 = .ok (.ifCond .ne 5, 3) := by decide +kernel
theorem dX10_isMet_51 : decode cX10_isMet 51 = .ok (.iconst 0, 1) := by decide +kernel
theorem dX10_isMet_52 : decode cX10_isMet 52 = .ok (.ireturn, 1) := by decide +kernel
theorem dX10_isMet_53 : decode cX10_isMet 53 = .ok (.aload_n 0, 1) := by decide +kernel
theorem dX10_isMet_54 : decode cX10_isMet 54 = .ok (.getfield 122, 3) := by decide +kernel
theorem dX10_isMet_57 : decode cX10_isMet 57 = .ok (.iload 4, 2) := by decide +kernel
theorem dX10_isMet_59 : decode cX10_isMet 59 = .ok (.iaload, 1) := by decide +kernel
theorem dX10_isMet_60 : decode cX10_isMet 60 = .ok (.aload_n 0, 1) := by decide +kernel
theorem dX10_isMet_61 : decode cX10_isMet 61 = .ok (.getfield 122, 3) := by decide +kernel
theorem dX10_isMet_64 : decode cX10_isMet 64 = .ok (.iload_n 1, 1) := by decide +kernel
theorem dX10_isMet_65 : decode cX10_isMet 65 = .ok (.iaload, 1) := by decide +kernel
theorem dX10_isMet_66 : decode cX10_isMet 66 = .ok (.if_icmp .le 21, 3) := by decide +kernel
theorem dX10_isMet_69 : decode cX10_isMet 69 = .ok (.aload_n 0, 1) := by decide +kernel
theorem dX10_isMet_70 : decode cX10_isMet 70 = .ok (.iload_n 1, 1) := by decide +kernel
theorem dX10_isMet_71 : decode cX10_isMet 71 = .ok (.iload_n 2, 1) := by decide +kernel
theorem dX10_isMet_72 : decode cX10_isMet 72 = .ok (.iload_n 3, 1) := by decide +kernel
theorem dX10_isMet_73 : decode cX10_isMet 73 = .ok (.invokevirtual 465, 3) := by decide +kernel
theorem dX10_isMet_76 : decode cX10_isMet 76 = .ok (.ifCond .le 7, 3) := by decide +kernel
theorem dX10_isMet_79 : decode cX10_isMet 79 = .ok (.iconst 1, 1) := by decide +kernel
theorem dX10_isMet_80 : decode cX10_isMet 80 = .ok (.goto 22, 3) := by decide +kernel
theorem dX10_isMet_83 : decode cX10_isMet 83 = .ok (.iconst 0, 1) := by decide +kernel
theorem dX10_isMet_84 : decode cX10_isMet 84 = .ok (.goto 18, 3) := by decide +kernel
theorem dX10_isMet_87 : decode cX10_isMet 87 = .ok (.aload_n 0, 1) := by decide +kernel
theorem dX10_isMet_88 : decode cX10_isMet 88 = .ok (.iload_n 1, 1) := by decide +kernel
theorem dX10_isMet_89 : decode cX10_isMet 89 = .ok (.iload_n 2, 1) := by decide +kernel
theorem dX10_isMet_90 : decode cX10_isMet 90 = .ok (.iload_n 3, 1) := by decide +kernel
theorem dX10_isMet_91 : decode cX10_isMet 91 = .ok (.invokevirtual 465, 3) := by decide +kernel
theorem dX10_isMet_94 : decode cX10_isMet 94 = .ok (.ifCond .ge 7, 3) := by decide +kernel
theorem dX10_isMet_97 : decode cX10_isMet 97 = .ok (.iconst 1, 1) := by decide +kernel
theorem dX10_isMet_98 : decode cX10_isMet 98 = .ok (.goto 4, 3) := by decide +kernel
theorem dX10_isMet_101 : decode cX10_isMet 101 = .ok (.iconst 0, 1) := by decide +kernel
theorem dX10_isMet_102 : decode cX10_isMet 102 = .ok (.ireturn, 1) := by decide +kernel
theorem dX10_within_0 : decode cX10_within 0 = .ok (.aload_n 0, 1) := by decide +kernel
theorem dX10_within_1 : decode cX10_within 1 = .ok (.iconst 0, 1) := by decide +kernel
theorem dX10_within_2 : decode cX10_within 2 = .ok (.putfield 131, 3) := by decide +kernel
theorem dX10_within_5 : decode cX10_within 5 = .ok (.aload_n 0, 1) := by decide +kernel
theorem dX10_within_6 : decode cX10_within 6 = .ok (.iload_n 1, 1) := by decide +kernel
theorem dX10_within_7 : decode cX10_within 7 = .ok (.bipush (-50), 2) := by decide +kernel
theorem dX10_within_9 : decode cX10_within 9 = .ok (.bipush 50, 2) := by decide +kernel
theorem dX10_within_11 : decode cX10_within 11 = .ok (.invokevirtual 149, 3) := by decide +kernel
theorem dX10_within_14 : decode cX10_within 14 = .ok (.ifCond .eq 15, 3) := by decide +kernel
theorem dX10_within_17 : decode cX10_within 17 = .ok (.aload_n 0, 1) := by decide +kernel
theorem dX10_within_18 : decode cX10_within 18 = .ok (.iload_n 2, 1) := by decide +kernel
theorem dX10_within_19 : decode cX10_within 19 = .ok (.bipush (-50), 2) := by decide +kernel
theorem dX10_within_21 : decode cX10_within 21 = .ok (.bipush 50, 2) := by decide +kernel
theorem dX10_within_23 : decode cX10_within 23 = .ok (.invokevirtual 149, 3) := by decide +kernel
theorem dX10_within_26 : decode cX10_within 26 = .ok (.ifCond .ne 5, 3) := by decide +kernel
theorem dX10_within_29 : decode cX10_within 29 = .ok (.iconst (-1), 1) := by decide +kernel
theorem dX10_within_30 : decode cX10_within 30 = .ok (.ireturn, 1) := by decide +kernel
theorem dX10_within_31 : decode cX10_within 31 = .ok (.iconst 0, 1) := by decide +kernel
theorem dX10_within_32 : decode cX10_within 32 = .ok (.istore_n 3, 1) := by decide +kernel
theorem dX10_within_33 : decode cX10_within 33 = .ok (.iconst 0, 1) := by decide +kernel
theorem dX10_within_34 : decode cX10_within 34 = .ok (.istore 4, 2) := by decide +kernel
theorem dX10_within_36 : decode cX10_within 36 = .ok (.iload 4, 2) := by decide +kernel
theorem dX10_within_38 : decode cX10_within 38 = .ok (.aload_n 0, 1) := by decide +kernel
theorem dX10_within_39 : decode cX10_within 39 = .ok (.getfield 459, 3) := by decide +kernel
theorem dX10_within_42 : decode cX10_within 42 = .ok (.if_icmp .ge 37, 3) := by decide +kernel
theorem dX10_within_45 : decode cX10_within 45 = .ok (.aload_n 0, 1) := by decide +kernel
theorem dX10_within_46 : decode cX10_within 46 = .ok (.iload 4, 2) := by decide +kernel
theorem dX10_within_48 : decode cX10_within 48 = .ok (.iload_n 1, 1) := by decide +kernel
theorem dX10_within_49 : decode cX10_within 49 = .ok (.iload_n 2, 1) := by decide +kernel
theorem dX10_within_50 : decode cX10_within 50 = .ok (.invokevirtual 468, 3) := by decide +kernel
theorem dX10_within_53 : decode cX10_within 53 = .ok (.ifCond .eq 5, 3) := by decide +kernel
theorem dX10_within_56 : decode cX10_within 56 = .ok (.iconst 2, 1) := by decide +kernel
theorem dX10_within_57 : decode cX10_within 57 = .ok (.ireturn, 1) := by decide +kernel
theorem dX10_within_58 : decode cX10_within 58 = .ok (.aload_n 0, 1) := by decide +kernel
theorem dX10_within_59 : decode cX10_within 59 = .ok (.iload 4, 2) := by decide +kernel
theorem dX10_within_61 : decode cX10_within 61 = .ok (.iload_n 1, 1) := by decide +kernel
theorem dX10_within_62 : decode cX10_within 62 = .ok (.iload_n 2, 1) := by decide +kernel
theorem dX10_within_63 : decode cX10_within 63 = .ok (.invokevirtual 471, 3) := by decide +kernel
theorem dX10_within_66 : decode cX10_within 66 = .ok (.ifCond .eq 7, 3) := by decide +kernel
theorem dX10_within_69 : decode cX10_within 69 = .ok (.iload_n 3, 1) := by decide +kernel
theorem dX10_within_70 : decode cX10_within 70 = .ok (.iconst 1, 1) := by decide +kernel
theorem dX10_within_71 : decode cX10_within 71 = .ok (.iadd, 1) := by decide +kernel
theorem dX10_within_72 : decode cX10_within 72 = .ok (.istore_n 3, 1) := by decide +kernel
theorem dX10_within_73 : decode cX10_within 73 = .ok (.iinc 4 1, 3) := by decide +kernel
theorem dX10_within_76 : decode cX10_within 76 = .ok (.goto (-40), 3) := by decide +kernel
theorem dX10_within_79 : decode cX10_within 79 = .ok (.iload_n 3, 1) := by decide +kernel
theorem dX10_within_80 : decode cX10_within 80 = .ok (.iconst 2, 1) := by decide +kernel
theorem dX10_within_81 : decode cX10_within 81 = .ok (.irem, 1) := by decide +kernel
theorem dX10_within_82 : decode cX10_within 82 = .ok (.ireturn, 1) := by decide +kernel
theorem dX10_area_0 : decode cX10_area 0 = .ok (.aload_n 0, 1) := by decide +kernel
theorem dX10_area_1 : decode cX10_area 1 = .ok (.iconst 0, 1) := by decide +kernel
theorem dX10_area_2 : decode cX10_area 2 = .ok (.putfield 131, 3) := by decide +kernel
theorem dX10_area_5 : decode cX10_area 5 = .ok (.iconst 0, 1) := by decide +kernel
theorem dX10_area_6 : decode cX10_area 6 = .ok (.istore_n 1, 1) := by decide +kernel
theorem dX10_area_7 : decode cX10_area 7 = .ok (.iconst 0, 1) := by decide +kernel
theorem dX10_area_8 : decode cX10_area 8 = .ok (.istore_n 2, 1) := by decide +kernel
theorem dX10_area_9 : decode cX10_area 9 = .ok (.iload_n 2, 1) := by decide +kernel
theorem dX10_area_10 : decode cX10_area 10 = .ok (.aload_n 0, 1) := by decide +kernel
theorem dX10_area_11 : decode cX10_area 11 = .ok (.getfield 459, 3) := by decide +kernel
theorem dX10_area_14 : decode cX10_area 14 = .ok (.if_icmp .ge 55, 3) := by decide +kernel
theorem dX10_area_17 : decode cX10_area 17 = .ok (.aload_n 0, 1) := by decide +kernel
theorem dX10_area_18 : decode cX10_area 18 = .ok (.getfield 459, 3) := by decide +kernel
theorem dX10_area_21 : decode cX10_area 21 = .ok (.iconst 2, 1) := by decide +kernel
theorem dX10_area_22 : decode cX10_area 22 = .ok (.if_icmp .le 47, 3) := by decide +kernel
theorem dX10_area_25 : decode cX10_area 25 = .ok (.iload_n 1, 1) := by decide +kernel
theorem dX10_area_26 : decode cX10_area 26 = .ok (.aload_n 0, 1) := by decide +kernel
theorem dX10_area_27 : decode cX10_area 27 = .ok (.getfield 119, 3) := by decide +kernel
theorem dX10_area_30 : decode cX10_area 30 = .ok (.iload_n 2, 1) := by decide +kernel
theorem dX10_area_31 : decode cX10_area 31 = .ok (.iaload, 1) := by decide +kernel
theorem dX10_area_32 : decode cX10_area 32 = .ok (.aload_n 0, 1) := by decide +kernel
theorem dX10_area_33 : decode cX10_area 33 = .ok (.getfield 122, 3) := by decide +kernel
theorem dX10_area_36 : decode cX10_area 36 = .ok (.aload_n 0, 1) := by decide +kernel
theorem dX10_area_37 : decode cX10_area 37 = .ok (.iload_n 2, 1) := by decide +kernel
theorem dX10_area_38 : decode cX10_area 38 = .ok (.invokevirtual 462, 3) := by decide +kernel
theorem dX10_area_41 : decode cX10_area 41 = .ok (.iaload, 1) := by decide +kernel
theorem dX10_area_42 : decode cX10_area 42 = .ok (.imul, 1) := by decide +kernel
theorem dX10_area_43 : decode cX10_area 43 = .ok (.iadd, 1) := by decide +kernel
theorem dX10_area_44 : decode cX10_area 44 = .ok (.aload_n 0, 1) := by decide +kernel
theorem dX10_area_45 : decode cX10_area 45 = .ok (.getfield 119, 3) := by decide +kernel
theorem dX10_area_48 : decode cX10_area 48 = .ok (.aload_n 0, 1) := by decide +kernel
theorem dX10_area_49 : decode cX10_area 49 = .ok (.iload_n 2, 1) := by decide +kernel
theorem dX10_area_50 : decode cX10_area 50 = .ok (.invokevirtual 462, 3) := by decide +kernel
theorem dX10_area_53 : decode cX10_area 53 = .ok (.iaload, 1) := by decide +kernel
theorem dX10_area_54 : decode cX10_area 54 = .ok (.aload_n 0, 1) := by decide +kernel
theorem dX10_area_55 : decode cX10_area 55 = .ok (.getfield 122, 3) := by decide +kernel
theorem dX10_area_58 : decode cX10_area 58 = .ok (.iload_n 2, 1) := by decide +kernel
theorem dX10_area_59 : decode cX10_area 59 = .ok (.iaload, 1) := by decide +kernel
theorem dX10_area_60 : decode cX10_area 60 = .ok (.imul, 1) := by decide +kernel
theorem dX10_area_61 : decode cX10_area 61 = .ok (.isub, 1) := by decide +kernel
theorem dX10_area_62 : decode cX10_area 62 = .ok (.istore_n 1, 1) := by decide +kernel
theorem dX10_area_63 : decode cX10_area 63 = .ok (.iinc 2 1, 3) := by decide +kernel
theorem dX10_area_66 : decode cX10_area 66 = .ok (.goto (-57), 3) := by decide +kernel
theorem dX10_area_69 : decode cX10_area 69 = .ok (.iload_n 1, 1) := by decide +kernel
theorem dX10_area_70 : decode cX10_area 70 = .ok (.ireturn, 1) := by decide +kernel
theorem dX10_parts_0 : decode cX10_parts 0 = .ok (.aload_n 0, 1) := by decide +kernel
theorem dX10_parts_1 : decode cX10_parts 1 = .ok (.iconst 0, 1) := by decide +kernel
theorem dX10_parts_2 : decode cX10_parts 2 = .ok (.putfield 131, 3) := by decide +kernel
theorem dX10_parts_5 : decode cX10_parts 5 = .ok (.aload_n 0, 1) := by decide +kernel
theorem dX10_parts_6 : decode cX10_parts 6 = .ok (.iload_n 1, 1) := by decide +kernel
theorem dX10_parts_7 : decode cX10_parts 7 = .ok (.iconst 2, 1) := by decide +kernel
theorem dX10_parts_8 : decode cX10_parts 8 = .ok (.ldc_w 431, 3) := by decide +kernel
theorem dX10_parts_11 : decode cX10_parts 11 = .ok (.invokevirtual 149, 3) := by decide +kernel
theorem dX10_parts_14 : decode cX10_parts 14 = .ok (.ifCond .eq 13, 3) := by decide +kernel
theorem dX10_parts_17 : decode cX10_parts 17 = .ok (.aload_n 0, 1) := by decide +kernel
theorem dX10_parts_18 : decode cX10_parts 18 = .ok (.iload_n 2, 1) := by decide +kernel
theorem dX10_parts_19 : decode cX10_parts 19 = .ok (.iconst 0, 1) := by decide +kernel
theorem dX10_parts_20 : decode cX10_parts 20 = .ok (.iconst 3, 1) := by decide +kernel
theorem dX10_parts_21 : decode cX10_parts 21 = .ok (.invokevirtual 149, 3) := by decide +kernel
theorem dX10_parts_24 : decode cX10_parts 24 = .ok (.ifCond .ne 5, 3) := by decide +kernel
theorem dX10_parts_27 : decode cX10_parts 27 = .ok (.iconst (-1), 1) := by decide +kernel
theorem dX10_parts_28 : decode cX10_parts 28 = .ok (.ireturn, 1) := by decide +kernel
theorem dX10_parts_29 : decode cX10_parts 29 = .ok (.iconst 0, 1) := by decide +kernel
theorem dX10_parts_30 : decode cX10_parts 30 = .ok (.istore_n 3, 1) := by decide +kernel
theorem dX10_parts_31 : decode cX10_parts 31 = .ok (.iconst 0, 1) := by decide +kernel
theorem dX10_parts_32 : decode cX10_parts 32 = .ok (.istore 4, 2) := by decide +kernel
theorem dX10_parts_34 : decode cX10_parts 34 = .ok (.iload_n 1, 1) := by decide +kernel
theorem dX10_parts_35 : decode cX10_parts 35 = .ok (.istore 5, 2) := by decide +kernel
theorem dX10_parts_37 : decode cX10_parts 37 = .ok (.iconst 2, 1) := by decide +kernel
theorem dX10_parts_38 : decode cX10_parts 38 = .ok (.istore 6, 2) := by decide +kernel
theorem dX10_parts_40 : decode cX10_parts 40 = .ok (.iload 5, 2) := by decide +kernel
theorem dX10_parts_42 : decode cX10_parts 42 = .ok (.iconst 1, 1) := by decide +kernel
theorem dX10_parts_43 : decode cX10_parts 43 = .ok (.if_icmp .le 35, 3) := by decide +kernel
theorem dX10_parts_46 : decode cX10_parts 46 = .ok (.iload 5, 2) := by decide +kernel
theorem dX10_parts_48 : decode cX10_parts 48 = .ok (.iload 6, 2) := by decide +kernel
theorem dX10_parts_50 : decode cX10_parts 50 = .ok (.irem, 1) := by decide +kernel
theorem dX10_parts_51 : decode cX10_parts 51 = .ok (.ifCond .ne 21, 3) := by decide +kernel
theorem dX10_parts_54 : decode cX10_parts 54 = .ok (.iload 5, 2) := by decide +kernel
theorem dX10_parts_56 : decode cX10_parts 56 = .ok (.iload 6, 2) := by decide +kernel
theorem dX10_parts_58 : decode cX10_parts 58 = .ok (.idiv, 1) := by decide +kernel
theorem dX10_parts_59 : decode cX10_parts 59 = .ok (.istore 5, 2) := by decide +kernel
theorem dX10_parts_61 : decode cX10_parts 61 = .ok (.iload_n 3, 1) := by decide +kernel
theorem dX10_parts_62 : decode cX10_parts 62 = .ok (.iconst 1, 1) := by decide +kernel
theorem dX10_parts_63 : decode cX10_parts 63 = .ok (.iadd, 1) := by decide +kernel
theorem dX10_parts_64 : decode cX10_parts 64 = .ok (.istore_n 3, 1) := by decide +kernel
theorem dX10_parts_65 : decode cX10_parts 65 = .ok (.iload 6, 2) := by decide +kernel
theorem dX10_parts_67 : decode cX10_parts 67 = .ok (.istore 4, 2) := by decide +kernel
theorem dX10_parts_69 : decode cX10_parts 69 = .ok (.goto (-23), 3) := by decide +kernel
theorem dX10_parts_72 : decode cX10_parts 72 = .ok (.iinc 6 1, 3) := by decide +kernel
theorem dX10_parts_75 : decode cX10_parts 75 = .ok (.goto (-35), 3) := by decide +kernel
theorem dX10_parts_78 : decode cX10_parts 78 = .ok (.iload_n 2, 1) := by decide +kernel
theorem dX10_parts_79 : decode cX10_parts 79 = .ok (.iconst 2, 1) := by decide +kernel
theorem dX10_parts_80 : decode cX10_parts 80 = .ok (.if_icmp .ge 14, 3) := by decide +kernel
theorem dX10_parts_83 : decode cX10_parts 83 = .ok (.iload_n 2, 1) := by decide +kernel
theorem dX10_parts_84 : decode cX10_parts 84 = .ok (.ifCond .ne 7, 3) := by decide +kernel
theorem dX10_parts_87 : decode cX10_parts 87 = .ok (.iload_n 3, 1) := by decide +kernel
theorem dX10_parts_88 : decode cX10_parts 88 = .ok (.goto 5, 3) := by decide +kernel
theorem dX10_parts_91 : decode cX10_parts 91 = .ok (.iload 4, 2) := by decide +kernel
theorem dX10_parts_93 : decode cX10_parts 93 = .ok (.ireturn, 1) := by decide +kernel
theorem dX10_parts_94 : decode cX10_parts 94 = .ok (.iconst 0, 1) := by decide +kernel
theorem dX10_parts_95 : decode cX10_parts 95 = .ok (.istore 6, 2) := by decide +kernel
theorem dX10_parts_97 : decode cX10_parts 97 = .ok (.iconst 0, 1) := by decide +kernel
theorem dX10_parts_98 : decode cX10_parts 98 = .ok (.istore 7, 2) := by decide +kernel
theorem dX10_parts_100 : decode cX10_parts 100 = .ok (.iconst 1, 1) := by decide +kernel
theorem dX10_parts_101 : decode cX10_parts 101 = .ok (.istore 8, 2) := by decide +kernel
theorem dX10_parts_103 : decode cX10_parts 103 = .ok (.iload 8, 2) := by decide +kernel
theorem dX10_parts_105 : decode cX10_parts 105 = .ok (.iload_n 1, 1) := by decide +kernel
theorem dX10_parts_106 : decode cX10_parts 106 = .ok (.if_icmp .gt 32, 3) := by decide +kernel
theorem dX10_parts_109 : decode cX10_parts 109 = .ok (.iload_n 1, 1) := by decide +kernel
theorem dX10_parts_110 : decode cX10_parts 110 = .ok (.iload 8, 2) := by decide +kernel
theorem dX10_parts_112 : decode cX10_parts 112 = .ok (.irem, 1) := by decide +kernel
theorem dX10_parts_113 : decode cX10_parts 113 = .ok (.ifCond .eq 6, 3) := by decide +kernel
theorem dX10_parts_116 : decode cX10_parts 116 = .ok (.goto 16, 3) := by decide +kernel
theorem dX10_parts_119 : decode cX10_parts 119 = .ok (.iload 6, 2) := by decide +kernel
theorem dX10_parts_121 : decode cX10_parts 121 = .ok (.iconst 1, 1) := by decide +kernel
theorem dX10_parts_122 : decode cX10_parts 122 = .ok (.iadd, 1) := by decide +kernel
theorem dX10_parts_123 : decode cX10_parts 123 = .ok (.istore 6, 2) := by decide +kernel
theorem dX10_parts_125 : decode cX10_parts 125 = .ok (.iload 7, 2) := by decide +kernel
theorem dX10_parts_127 : decode cX10_parts 127 = .ok (.iload 8, 2) := by decide +kernel
theorem dX10_parts_129 : decode cX10_parts 129 = .ok (.iadd, 1) := by decide +kernel
theorem dX10_parts_130 : decode cX10_parts 130 = .ok (.istore 7, 2) := by decide +kernel
theorem dX10_parts_132 : decode cX10_parts 132 = .ok (.iinc 8 1, 3) := by decide +kernel
theorem dX10_parts_135 : decode cX10_parts 135 = .ok (.goto (-32), 3) := by decide +kernel
theorem dX10_parts_138 : decode cX10_parts 138 = .ok (.iload_n 2, 1) := by decide +kernel
theorem dX10_parts_139 : decode cX10_parts 139 = .ok (.iconst 2, 1) := by decide +kernel
theorem dX10_parts_140 : decode cX10_parts 140 = .ok (.if_icmp .ne 8, 3) := by decide +kernel
theorem dX10_parts_143 : decode cX10_parts 143 = .ok (.iload 6, 2) := by decide +kernel
theorem dX10_parts_145 : decode cX10_parts 145 = .ok (.goto 5, 3) := by decide +kernel
theorem dX10_parts_148 : decode cX10_parts 148 = .ok (.iload 7, 2) := by decide +kernel
theorem dX10_parts_150 : decode cX10_parts 150 = .ok (.ireturn, 1) := by decide +kernel
theorem dX10_isWellSet_0 : decode cX10_isWellSet 0 = .ok (.iconst 0, 1) := by decide +kernel
theorem dX10_isWellSet_1 : decode cX10_isWellSet 1 = .ok (.istore_n 3, 1) := by decide +kernel
theorem dX10_isWellSet_2 : decode cX10_isWellSet 2 = .ok (.iconst 2, 1) := by decide +kernel
theorem dX10_isWellSet_3 : decode cX10_isWellSet 3 = .ok (.iload_n 2, 1) := by decide +kernel
theorem dX10_isWellSet_4 : decode cX10_isWellSet 4 = .ok (.imul, 1) := by decide +kernel
theorem dX10_isWellSet_5 : decode cX10_isWellSet 5 = .ok (.iconst 1, 1) := by decide +kernel
theorem dX10_isWellSet_6 : decode cX10_isWellSet 6 = .ok (.isub, 1) := by decide +kernel
theorem dX10_isWellSet_7 : decode cX10_isWellSet 7 = .ok (.istore 4, 2) := by decide +kernel
theorem dX10_isWellSet_9 : decode cX10_isWellSet 9 = .ok (.iload 4, 2) := by decide +kernel
theorem dX10_isWellSet_11 : decode cX10_isWellSet 11 = .ok (.ifCond .lt 33, 3) := by decide +kernel
theorem dX10_isWellSet_14 : decode cX10_isWellSet 14 = .ok (.iload_n 3, 1) := by decide +kernel
theorem dX10_isWellSet_15 : decode cX10_isWellSet 15 = .ok (.aload_n 0, 1) := by decide +kernel
theorem dX10_isWellSet_16 : decode cX10_isWellSet 16 = .ok (.iload_n 1, 1) := by decide +kernel
theorem dX10_isWellSet_17 : decode cX10_isWellSet 17 = .ok (.iload 4, 2) := by decide +kernel
theorem dX10_isWellSet_19 : decode cX10_isWellSet 19 = .ok (.invokevirtual 336, 3) := by decide +kernel
theorem dX10_isWellSet_22 : decode cX10_isWellSet 22 = .ok (.ifCond .eq 7, 3) := by decide +kernel
theorem dX10_isWellSet_25 : decode cX10_isWellSet 25 = .ok (.iconst 1, 1) := by decide +kernel
theorem dX10_isWellSet_26 : decode cX10_isWellSet 26 = .ok (.goto 4, 3) := by decide +kernel
theorem dX10_isWellSet_29 : decode cX10_isWellSet 29 = .ok (.iconst (-1), 1) := by decide +kernel
theorem dX10_isWellSet_30 : decode cX10_isWellSet 30 = .ok (.iadd, 1) := by decide +kernel
theorem dX10_isWellSet_31 : decode cX10_isWellSet 31 = .ok (.istore_n 3, 1) := by decide +kernel
theorem dX10_isWellSet_32 : decode cX10_isWellSet 32 = .ok (.iload_n 3, 1) := by decide +kernel
theorem dX10_isWellSet_33 : decode cX10_isWellSet 33 = .ok (.ifCond .ge 5, 3) := by decide +kernel
theorem dX10_isWellSet_36 : decode cX10_isWellSet 36 = .ok (.iconst 0, 1) := by decide +kernel
theorem dX10_isWellSet_37 : decode cX10_isWellSet 37 = .ok (.ireturn, 1) := by decide +kernel
theorem dX10_isWellSet_38 : decode cX10_isWellSet 38 = .ok (.iinc 4 (-1), 3) := by decide +kernel
theorem dX10_isWellSet_41 : decode cX10_isWellSet 41 = .ok (.goto (-32), 3) := by decide +kernel
theorem dX10_isWellSet_44 : decode cX10_isWellSet 44 = .ok (.iload_n 3, 1) := by decide +kernel
theorem dX10_isWellSet_45 : decode cX10_isWellSet 45 = .ok (.ifCond .ne 7, 3) := by decide +kernel
theorem dX10_isWellSet_48 : decode cX10_isWellSet 48 = .ok (.iconst 1, 1) := by decide +kernel
theorem dX10_isWellSet_49 : decode cX10_isWellSet 49 = .ok (.goto 4, 3) := by decide +kernel
theorem dX10_isWellSet_52 : decode cX10_isWellSet 52 = .ok (.iconst 0, 1) := by decide +kernel
theorem dX10_isWellSet_53 : decode cX10_isWellSet 53 = .ok (.ireturn, 1) := by decide +kernel
theorem dX10_brackets_0 : decode cX10_brackets 0 = .ok (.aload_n 0, 1) := by decide +kernel
theorem dX10_brackets_1 : decode cX10_brackets 1 = .ok (.iconst 0, 1) := by decide +kernel
theorem dX10_brackets_2 : decode cX10_brackets 2 = .ok (.putfield 131, 3) := by decide +kernel
theorem dX10_brackets_5 : decode cX10_brackets 5 = .ok (.aload_n 0, 1) := by decide +kernel
theorem dX10_brackets_6 : decode cX10_brackets 6 = .ok (.iload_n 1, 1) := by decide +kernel
theorem dX10_brackets_7 : decode cX10_brackets 7 = .ok (.iconst 0, 1) := by decide +kernel
theorem dX10_brackets_8 : decode cX10_brackets 8 = .ok (.bipush 8, 2) := by decide +kernel
theorem dX10_brackets_10 : decode cX10_brackets 10 = .ok (.invokevirtual 149, 3) := by decide +kernel
theorem dX10_brackets_13 : decode cX10_brackets 13 = .ok (.ifCond .eq 13, 3) := by decide +kernel
theorem dX10_brackets_16 : decode cX10_brackets 16 = .ok (.aload_n 0, 1) := by decide +kernel
theorem dX10_brackets_17 : decode cX10_brackets 17 = .ok (.iload_n 3, 1) := by decide +kernel
theorem dX10_brackets_18 : decode cX10_brackets 18 = .ok (.iconst 0, 1) := by decide +kernel
theorem dX10_brackets_19 : decode cX10_brackets 19 = .ok (.iconst 2, 1) := by decide +kernel
theorem dX10_brackets_20 : decode cX10_brackets 20 = .ok (.invokevirtual 149, 3) := by decide +kernel
theorem dX10_brackets_23 : decode cX10_brackets 23 = .ok (.ifCond .ne 5, 3) := by decide +kernel
theorem dX10_brackets_26 : decode cX10_brackets 26 = .ok (.iconst (-1), 1) := by decide +kernel
theorem dX10_brackets_27 : decode cX10_brackets 27 = .ok (.ireturn, 1) := by decide +kernel
theorem dX10_brackets_28 : decode cX10_brackets 28 = .ok (.iload_n 3, 1) := by decide +kernel
theorem dX10_brackets_29 : decode cX10_brackets 29 = .ok (.iconst 2, 1) := by decide +kernel
theorem dX10_brackets_30 : decode cX10_brackets 30 = .ok (.if_icmp .ne 30, 3) := by decide +kernel
theorem dX10_brackets_33 : decode cX10_brackets 33 = .ok (.aload_n 0, 1) := by decide +kernel
theorem dX10_brackets_34 : decode cX10_brackets 34 = .ok (.iload_n 2, 1) := by decide +kernel
theorem dX10_brackets_35 : decode cX10_brackets 35 = .ok (.iconst 0, 1) := by decide +kernel
theorem dX10_brackets_36 : decode cX10_brackets 36 = .ok (.iconst 1, 1) := by decide +kernel
theorem dX10_brackets_37 : decode cX10_brackets 37 = .ok (.iconst 2, 1) := by decide +kernel
theorem dX10_brackets_38 : decode cX10_brackets 38 = .ok (.iload_n 1, 1) := by decide +kernel
theorem dX10_brackets_39 : decode cX10_brackets 39 = .ok (.imul, 1) := by decide +kernel
theorem dX10_brackets_40 : decode cX10_brackets 40 = .ok (.ishl, 1) := by decide +kernel
theorem dX10_brackets_41 : decode cX10_brackets 41 = .ok (.iconst 1, 1) := by decide +kernel
theorem dX10_brackets_42 : decode cX10_brackets 42 = .ok (.isub, 1) := by decide +kernel
theorem dX10_brackets_43 : decode cX10_brackets 43 = .ok (.invokevirtual 149, 3) := by decide +kernel
theorem dX10_brackets_46 : decode cX10_brackets 46 = .ok (.ifCond .eq 12, 3) := by decide +kernel
theorem dX10_brackets_49 : decode cX10_brackets 49 = .ok (.aload_n 0, 1) := by decide +kernel
theorem dX10_brackets_50 : decode cX10_brackets 50 = .ok (.iload_n 2, 1) := by decide +kernel
theorem dX10_brackets_51 : decode cX10_brackets 51 = .ok (.iload_n 1, 1) := by decide +kernel
theorem dX10_brackets_52 : decode cX10_brackets 52 = .ok (.invokevirtual 474, 3) := by decide +kernel
theorem dX10_brackets_55 : decode cX10_brackets 55 = .ok (.ifCond .ne 5, 3) := by decide +kernel
theorem dX10_brackets_58 : decode cX10_brackets 58 = .ok (.iconst (-1), 1) := by decide +kernel
theorem dX10_brackets_59 : decode cX10_brackets 59 = .ok (.ireturn, 1) := by decide +kernel
theorem dX10_brackets_60 : decode cX10_brackets 60 = .ok (.iconst 0, 1) := by decide +kernel
theorem dX10_brackets_61 : decode cX10_brackets 61 = .ok (.istore 4, 2) := by decide +kernel
theorem dX10_brackets_63 : decode cX10_brackets 63 = .ok (.iconst 1, 1) := by decide +kernel
theorem dX10_brackets_64 : decode cX10_brackets 64 = .ok (.iconst 2, 1) := by decide +kernel
theorem dX10_brackets_65 : decode cX10_brackets 65 = .ok (.iload_n 1, 1) := by decide +kernel
theorem dX10_brackets_66 : decode cX10_brackets 66 = .ok (.imul, 1) := by decide +kernel
theorem dX10_brackets_67 : decode cX10_brackets 67 = .ok (.ishl, 1) := by decide +kernel
theorem dX10_brackets_68 : decode cX10_brackets 68 = .ok (.iconst 1, 1) := by decide +kernel
theorem dX10_brackets_69 : decode cX10_brackets 69 = .ok (.isub, 1) := by decide +kernel
theorem dX10_brackets_70 : decode cX10_brackets 70 = .ok (.istore 5, 2) := by decide +kernel
theorem dX10_brackets_72 : decode cX10_brackets 72 = .ok (.iload 5, 2) := by decide +kernel
theorem dX10_brackets_74 : decode cX10_brackets 74 = .ok (.ifCond .lt 56, 3) := by decide +kernel
theorem dX10_brackets_77 : decode cX10_brackets 77 = .ok (.aload_n 0, 1) := by decide +kernel
theorem dX10_brackets_78 : decode cX10_brackets 78 = .ok (.iload 5, 2) := by decide +kernel
theorem dX10_brackets_80 : decode cX10_brackets 80 = .ok (.iload_n 1, 1) := by decide +kernel
theorem dX10_brackets_81 : decode cX10_brackets 81 = .ok (.invokevirtual 474, 3) := by decide +kernel
theorem dX10_brackets_84 : decode cX10_brackets 84 = .ok (.ifCond .ne 6, 3) := by decide +kernel
theorem dX10_brackets_87 : decode cX10_brackets 87 = .ok (.goto 37, 3) := by decide +kernel
theorem dX10_brackets_90 : decode cX10_brackets 90 = .ok (.iload_n 3, 1) := by decide +kernel
theorem dX10_brackets_91 : decode cX10_brackets 91 = .ok (.iconst 1, 1) := by decide +kernel
theorem dX10_brackets_92 : decode cX10_brackets 92 = .ok (.if_icmp .ne 12, 3) := by decide +kernel
theorem dX10_brackets_95 : decode cX10_brackets 95 = .ok (.iload 4, 2) := by decide +kernel
theorem dX10_brackets_97 : decode cX10_brackets 97 = .ok (.iload_n 2, 1) := by decide +kernel
theorem dX10_brackets_98 : decode cX10_brackets 98 = .ok (.if_icmp .ne 6, 3) := by decide +kernel
theorem dX10_brackets_101 : decode cX10_brackets 101 = .ok (.iload 5, 2) := by decide +kernel
theorem dX10_brackets_103 : decode cX10_brackets 103 = .ok (.ireturn, 1) := by decide +kernel
theorem dX10_brackets_104 : decode cX10_brackets 104 = .ok (.iload_n 3, 1) := by decide +kernel
theorem dX10_brackets_105 : decode cX10_brackets 105 = .ok (.iconst 2, 1) := by decide +kernel
theorem dX10_brackets_106 : decode cX10_brackets 106 = .ok (.if_icmp .ne 12, 3) := by decide +kernel
theorem dX10_brackets_109 : decode cX10_brackets 109 = .ok (.iload 5, 2) := by decide +kernel
theorem dX10_brackets_111 : decode cX10_brackets 111 = .ok (.iload_n 2, 1) := by decide +kernel
theorem dX10_brackets_112 : decode cX10_brackets 112 = .ok (.if_icmp .ne 6, 3) := by decide +kernel
theorem dX10_brackets_115 : decode cX10_brackets 115 = .ok (.iload 4, 2) := by decide +kernel
theorem dX10_brackets_117 : decode cX10_brackets 117 = .ok (.ireturn, 1) := by decide +kernel
theorem dX10_brackets_118 : decode cX10_brackets 118 = .ok (.iload 4, 2) := by decide +kernel
theorem dX10_brackets_120 : decode cX10_brackets 120 = .ok (.iconst 1, 1) := by decide +kernel
theorem dX10_brackets_121 : decode cX10_brackets 121 = .ok (.iadd, 1) := by decide +kernel
theorem dX10_brackets_122 : decode cX10_brackets 122 = .ok (.istore 4, 2) := by decide +kernel
theorem dX10_brackets_124 : decode cX10_brackets 124 = .ok (.iinc 5 (-1), 3) := by decide +kernel
theorem dX10_brackets_127 : decode cX10_brackets 127 = .ok (.goto (-55), 3) := by decide +kernel
theorem dX10_brackets_130 : decode cX10_brackets 130 = .ok (.iload_n 3, 1) := by decide +kernel
theorem dX10_brackets_131 : decode cX10_brackets 131 = .ok (.ifCond .ne 8, 3) := by decide +kernel
theorem dX10_brackets_134 : decode cX10_brackets 134 = .ok (.iload 4, 2) := by decide +kernel
theorem dX10_brackets_136 : decode cX10_brackets 136 = .ok (.goto 4, 3) := by decide +kernel
theorem dX10_brackets_139 : decode cX10_brackets 139 = .ok (.iconst (-1), 1) := by decide +kernel
theorem dX10_brackets_140 : decode cX10_brackets 140 = .ok (.ireturn, 1) := by decide +kernel
theorem dX10_game_0 : decode cX10_game 0 = .ok (.aload_n 0, 1) := by decide +kernel
theorem dX10_game_1 : decode cX10_game 1 = .ok (.iconst 0, 1) := by decide +kernel
theorem dX10_game_2 : decode cX10_game 2 = .ok (.putfield 131, 3) := by decide +kernel
theorem dX10_game_5 : decode cX10_game 5 = .ok (.aload_n 0, 1) := by decide +kernel
theorem dX10_game_6 : decode cX10_game 6 = .ok (.iload_n 1, 1) := by decide +kernel
theorem dX10_game_7 : decode cX10_game 7 = .ok (.iconst 1, 1) := by decide +kernel
theorem dX10_game_8 : decode cX10_game 8 = .ok (.bipush 120, 2) := by decide +kernel
theorem dX10_game_10 : decode cX10_game 10 = .ok (.invokevirtual 149, 3) := by decide +kernel
theorem dX10_game_13 : decode cX10_game 13 = .ok (.ifCond .eq 19, 3) := by decide +kernel
theorem dX10_game_16 : decode cX10_game 16 = .ok (.iload_n 2, 1) := by decide +kernel
theorem dX10_game_17 : decode cX10_game 17 = .ok (.iconst (-1), 1) := by decide +kernel
theorem dX10_game_18 : decode cX10_game 18 = .ok (.if_icmp .eq 16, 3) := by decide +kernel
theorem dX10_game_21 : decode cX10_game 21 = .ok (.aload_n 0, 1) := by decide +kernel
theorem dX10_game_22 : decode cX10_game 22 = .ok (.iload_n 2, 1) := by decide +kernel
theorem dX10_game_23 : decode cX10_game 23 = .ok (.iconst 1, 1) := by decide +kernel
theorem dX10_game_24 : decode cX10_game 24 = .ok (.bipush 120, 2) := by decide +kernel
theorem dX10_game_26 : decode cX10_game 26 = .ok (.invokevirtual 149, 3) := by decide +kernel
theorem dX10_game_29 : decode cX10_game 29 = .ok (.ifCond .ne 5, 3) := by decide +kernel
theorem dX10_game_32 : decode cX10_game 32 = .ok (.iconst (-1), 1) := by decide +kernel
theorem dX10_game_33 : decode cX10_game 33 = .ok (.ireturn, 1) := by decide +kernel
theorem dX10_game_34 : decode cX10_game 34 = .ok (.iconst 1, 1) := by decide +kernel
theorem dX10_game_35 : decode cX10_game 35 = .ok (.istore_n 3, 1) := by decide +kernel
theorem dX10_game_36 : decode cX10_game 36 = .ok (.iload_n 3, 1) := by decide +kernel
theorem dX10_game_37 : decode cX10_game 37 = .ok (.iload_n 1, 1) := by decide +kernel
theorem dX10_game_38 : decode cX10_game 38 = .ok (.if_icmp .gt 51, 3) := by decide +kernel
theorem dX10_game_41 : decode cX10_game 41 = .ok (.iconst 1, 1) := by decide +kernel
theorem dX10_game_42 : decode cX10_game 42 = .ok (.istore 4, 2) := by decide +kernel
theorem dX10_game_44 : decode cX10_game 44 = .ok (.iload 4, 2) := by decide +kernel
theorem dX10_game_46 : decode cX10_game 46 = .ok (.iload_n 3, 1) := by decide +kernel
theorem dX10_game_47 : decode cX10_game 47 = .ok (.if_icmp .ge 28, 3) := by decide +kernel
theorem dX10_game_50 : decode cX10_game 50 = .ok (.aload_n 0, 1) := by decide +kernel
theorem dX10_game_51 : decode cX10_game 51 = .ok (.getfield 125, 3) := by decide +kernel
theorem dX10_game_54 : decode cX10_game 54 = .ok (.iload_n 3, 1) := by decide +kernel
theorem dX10_game_55 : decode cX10_game 55 = .ok (.iload 4, 2) := by decide +kernel
theorem dX10_game_57 : decode cX10_game 57 = .ok (.isub, 1) := by decide +kernel
theorem dX10_game_58 : decode cX10_game 58 = .ok (.iaload, 1) := by decide +kernel
theorem dX10_game_59 : decode cX10_game 59 = .ok (.iconst 2, 1) := by decide +kernel
theorem dX10_game_60 : decode cX10_game 60 = .ok (.iload 4, 2) := by decide +kernel
theorem dX10_game_62 : decode cX10_game 62 = .ok (.imul, 1) := by decide +kernel
theorem dX10_game_63 : decode cX10_game 63 = .ok (.if_icmp .gt 12, 3) := by decide +kernel
theorem dX10_game_66 : decode cX10_game 66 = .ok (.iload 4, 2) := by decide +kernel
theorem dX10_game_68 : decode cX10_game 68 = .ok (.iconst 1, 1) := by decide +kernel
theorem dX10_game_69 : decode cX10_game 69 = .ok (.iadd, 1) := by decide +kernel
theorem dX10_game_70 : decode cX10_game 70 = .ok (.istore 4, 2) := by decide +kernel
theorem dX10_game_72 : decode cX10_game 72 = .ok (.goto (-28), 3) := by decide +kernel
theorem dX10_game_75 : decode cX10_game 75 = .ok (.aload_n 0, 1) := by decide +kernel
theorem dX10_game_76 : decode cX10_game 76 = .ok (.getfield 125, 3) := by decide +kernel
theorem dX10_game_79 : decode cX10_game 79 = .ok (.iload_n 3, 1) := by decide +kernel
theorem dX10_game_80 : decode cX10_game 80 = .ok (.iload 4, 2) := by decide +kernel
theorem dX10_game_82 : decode cX10_game 82 = .ok (.iastore, 1) := by decide +kernel
theorem dX10_game_83 : decode cX10_game 83 = .ok (.iinc 3 1, 3) := by decide +kernel
theorem dX10_game_86 : decode cX10_game 86 = .ok (.goto (-50), 3) := by decide +kernel
theorem dX10_game_89 : decode cX10_game 89 = .ok (.iload_n 2, 1) := by decide +kernel
theorem dX10_game_90 : decode cX10_game 90 = .ok (.iconst (-1), 1) := by decide +kernel
theorem dX10_game_91 : decode cX10_game 91 = .ok (.if_icmp .ne 9, 3) := by decide +kernel
theorem dX10_game_94 : decode cX10_game 94 = .ok (.iload_n 1, 1) := by decide +kernel
theorem dX10_game_95 : decode cX10_game 95 = .ok (.iconst 1, 1) := by decide +kernel
theorem dX10_game_96 : decode cX10_game 96 = .ok (.isub, 1) := by decide +kernel
theorem dX10_game_97 : decode cX10_game 97 = .ok (.goto 4, 3) := by decide +kernel
theorem dX10_game_100 : decode cX10_game 100 = .ok (.iload_n 2, 1) := by decide +kernel
theorem dX10_game_101 : decode cX10_game 101 = .ok (.istore_n 3, 1) := by decide +kernel
theorem dX10_game_102 : decode cX10_game 102 = .ok (.aload_n 0, 1) := by decide +kernel
theorem dX10_game_103 : decode cX10_game 103 = .ok (.getfield 125, 3) := by decide +kernel
theorem dX10_game_106 : decode cX10_game 106 = .ok (.iload_n 1, 1) := by decide +kernel
theorem dX10_game_107 : decode cX10_game 107 = .ok (.iaload, 1) := by decide +kernel
theorem dX10_game_108 : decode cX10_game 108 = .ok (.iload_n 3, 1) := by decide +kernel
theorem dX10_game_109 : decode cX10_game 109 = .ok (.if_icmp .gt 12, 3) := by decide +kernel
theorem dX10_game_112 : decode cX10_game 112 = .ok (.aload_n 0, 1) := by decide +kernel
theorem dX10_game_113 : decode cX10_game 113 = .ok (.getfield 125, 3) := by decide +kernel
theorem dX10_game_116 : decode cX10_game 116 = .ok (.iload_n 1, 1) := by decide +kernel
theorem dX10_game_117 : decode cX10_game 117 = .ok (.iaload, 1) := by decide +kernel
theorem dX10_game_118 : decode cX10_game 118 = .ok (.goto 4, 3) := by decide +kernel
theorem dX10_game_121 : decode cX10_game 121 = .ok (.iconst (-1), 1) := by decide +kernel
theorem dX10_game_122 : decode cX10_game 122 = .ok (.ireturn, 1) := by decide +kernel
theorem dX10_keeps_0 : decode cX10_keeps 0 = .ok (.aload_n 0, 1) := by decide +kernel
theorem dX10_keeps_1 : decode cX10_keeps 1 = .ok (.aload_n 0, 1) := by decide +kernel
theorem dX10_keeps_2 : decode cX10_keeps 2 = .ok (.getfield 477, 3) := by decide +kernel
theorem dX10_keeps_5 : decode cX10_keeps 5 = .ok (.iconst 1, 1) := by decide +kernel
theorem dX10_keeps_6 : decode cX10_keeps 6 = .ok (.iadd, 1) := by decide +kernel
theorem dX10_keeps_7 : decode cX10_keeps 7 = .ok (.putfield 477, 3) := by decide +kernel
theorem dX10_keeps_10 : decode cX10_keeps 10 = .ok (.aload_n 0, 1) := by decide +kernel
theorem dX10_keeps_11 : decode cX10_keeps 11 = .ok (.getfield 480, 3) := by decide +kernel
theorem dX10_keeps_14 : decode cX10_keeps 14 = .ok (.ifCond .ne 15, 3) := by decide +kernel
theorem dX10_keeps_17 : decode cX10_keeps 17 = .ok (.aload_n 0, 1) := by decide +kernel
theorem dX10_keeps_18 : decode cX10_keeps 18 = .ok (.getfield 128, 3) := by decide +kernel
theorem dX10_keeps_21 : decode cX10_keeps 21 = .ok (.aload_n 0, 1) := by decide +kernel
theorem dX10_keeps_22 : decode cX10_keeps 22 = .ok (.getfield 477, 3) := by decide +kernel
theorem dX10_keeps_25 : decode cX10_keeps 25 = .ok (.iconst 1, 1) := by decide +kernel
theorem dX10_keeps_26 : decode cX10_keeps 26 = .ok (.isub, 1) := by decide +kernel
theorem dX10_keeps_27 : decode cX10_keeps 27 = .ok (.iaload, 1) := by decide +kernel
theorem dX10_keeps_28 : decode cX10_keeps 28 = .ok (.ireturn, 1) := by decide +kernel
theorem dX10_keeps_29 : decode cX10_keeps 29 = .ok (.aload_n 0, 1) := by decide +kernel
theorem dX10_keeps_30 : decode cX10_keeps 30 = .ok (.getfield 128, 3) := by decide +kernel
theorem dX10_keeps_33 : decode cX10_keeps 33 = .ok (.aload_n 0, 1) := by decide +kernel
theorem dX10_keeps_34 : decode cX10_keeps 34 = .ok (.getfield 477, 3) := by decide +kernel
theorem dX10_keeps_37 : decode cX10_keeps 37 = .ok (.iconst 1, 1) := by decide +kernel
theorem dX10_keeps_38 : decode cX10_keeps 38 = .ok (.isub, 1) := by decide +kernel
theorem dX10_keeps_39 : decode cX10_keeps 39 = .ok (.iload_n 1, 1) := by decide +kernel
theorem dX10_keeps_40 : decode cX10_keeps 40 = .ok (.iastore, 1) := by decide +kernel
theorem dX10_keeps_41 : decode cX10_keeps 41 = .ok (.iload_n 1, 1) := by decide +kernel
theorem dX10_keeps_42 : decode cX10_keeps 42 = .ok (.ireturn, 1) := by decide +kernel
theorem dX10_keepsLaw_0 : decode cX10_keepsLaw 0 = .ok (.aload_n 0, 1) := by decide +kernel
theorem dX10_keepsLaw_1 : decode cX10_keepsLaw 1 = .ok (.getfield 40, 3) := by decide +kernel
theorem dX10_keepsLaw_4 : decode cX10_keepsLaw 4 = .ok (.iconst 0, 1) := by decide +kernel
theorem dX10_keepsLaw_5 : decode cX10_keepsLaw 5 = .ok (.aload_n 0, 1) := by decide +kernel
theorem dX10_keepsLaw_6 : decode cX10_keepsLaw 6 = .ok (.aload_n 0, 1) := by decide +kernel
theorem dX10_keepsLaw_7 : decode cX10_keepsLaw 7 = .ok (.getfield 40, 3) := by decide +kernel
theorem dX10_keepsLaw_10 : decode cX10_keepsLaw 10 = .ok (.iconst 0, 1) := by decide +kernel
theorem dX10_keepsLaw_11 : decode cX10_keepsLaw 11 = .ok (.iaload, 1) := by decide +kernel
theorem dX10_keepsLaw_12 : decode cX10_keepsLaw 12 = .ok (.invokevirtual 483, 3) := by decide +kernel
theorem dX10_keepsLaw_15 : decode cX10_keepsLaw 15 = .ok (.iastore, 1) := by decide +kernel
theorem dX10_keepsLaw_16 : decode cX10_keepsLaw 16 = .ok (.iconst 0, 1) := by decide +kernel
theorem dX10_keepsLaw_17 : decode cX10_keepsLaw 17 = .ok (.istore_n 1, 1) := by decide +kernel
theorem dX10_keepsLaw_18 : decode cX10_keepsLaw 18 = .ok (.iload_n 1, 1) := by decide +kernel
theorem dX10_keepsLaw_19 : decode cX10_keepsLaw 19 = .ok (.bipush 16, 2) := by decide +kernel
theorem dX10_keepsLaw_21 : decode cX10_keepsLaw 21 = .ok (.if_icmp .ge 73, 3) := by decide +kernel
theorem dX10_keepsLaw_24 : decode cX10_keepsLaw 24 = .ok (.aload_n 0, 1) := by decide +kernel
theorem dX10_keepsLaw_25 : decode cX10_keepsLaw 25 = .ok (.getfield 43, 3) := by decide +kernel
theorem dX10_keepsLaw_28 : decode cX10_keepsLaw 28 = .ok (.iload_n 1, 1) := by decide +kernel
theorem dX10_keepsLaw_29 : decode cX10_keepsLaw 29 = .ok (.aload_n 0, 1) := by decide +kernel
theorem dX10_keepsLaw_30 : decode cX10_keepsLaw 30 = .ok (.aload_n 0, 1) := by decide +kernel
theorem dX10_keepsLaw_31 : decode cX10_keepsLaw 31 = .ok (.getfield 43, 3) := by decide +kernel
theorem dX10_keepsLaw_34 : decode cX10_keepsLaw 34 = .ok (.iload_n 1, 1) := by decide +kernel
theorem dX10_keepsLaw_35 : decode cX10_keepsLaw 35 = .ok (.iaload, 1) := by decide +kernel
theorem dX10_keepsLaw_36 : decode cX10_keepsLaw 36 = .ok (.invokevirtual 483, 3) := by decide +kernel
theorem dX10_keepsLaw_39 : decode cX10_keepsLaw 39 = .ok (.iastore, 1) := by decide +kernel
theorem dX10_keepsLaw_40 : decode cX10_keepsLaw 40 = .ok (.aload_n 0, 1) := by decide +kernel
theorem dX10_keepsLaw_41 : decode cX10_keepsLaw 41 = .ok (.getfield 46, 3) := by decide +kernel
theorem dX10_keepsLaw_44 : decode cX10_keepsLaw 44 = .ok (.iload_n 1, 1) := by decide +kernel
theorem dX10_keepsLaw_45 : decode cX10_keepsLaw 45 = .ok (.aload_n 0, 1) := by decide +kernel
theorem dX10_keepsLaw_46 : decode cX10_keepsLaw 46 = .ok (.aload_n 0, 1) := by decide +kernel
theorem dX10_keepsLaw_47 : decode cX10_keepsLaw 47 = .ok (.getfield 46, 3) := by decide +kernel
theorem dX10_keepsLaw_50 : decode cX10_keepsLaw 50 = .ok (.iload_n 1, 1) := by decide +kernel
theorem dX10_keepsLaw_51 : decode cX10_keepsLaw 51 = .ok (.iaload, 1) := by decide +kernel
theorem dX10_keepsLaw_52 : decode cX10_keepsLaw 52 = .ok (.invokevirtual 483, 3) := by decide +kernel
theorem dX10_keepsLaw_55 : decode cX10_keepsLaw 55 = .ok (.iastore, 1) := by decide +kernel
theorem dX10_keepsLaw_56 : decode cX10_keepsLaw 56 = .ok (.aload_n 0, 1) := by decide +kernel
theorem dX10_keepsLaw_57 : decode cX10_keepsLaw 57 = .ok (.getfield 49, 3) := by decide +kernel
theorem dX10_keepsLaw_60 : decode cX10_keepsLaw 60 = .ok (.iload_n 1, 1) := by decide +kernel
theorem dX10_keepsLaw_61 : decode cX10_keepsLaw 61 = .ok (.aload_n 0, 1) := by decide +kernel
theorem dX10_keepsLaw_62 : decode cX10_keepsLaw 62 = .ok (.aload_n 0, 1) := by decide +kernel
theorem dX10_keepsLaw_63 : decode cX10_keepsLaw 63 = .ok (.getfield 49, 3) := by decide +kernel
theorem dX10_keepsLaw_66 : decode cX10_keepsLaw 66 = .ok (.iload_n 1, 1) := by decide +kernel
theorem dX10_keepsLaw_67 : decode cX10_keepsLaw 67 = .ok (.iaload, 1) := by decide +kernel
theorem dX10_keepsLaw_68 : decode cX10_keepsLaw 68 = .ok (.invokevirtual 483, 3) := by decide +kernel
theorem dX10_keepsLaw_71 : decode cX10_keepsLaw 71 = .ok (.iastore, 1) := by decide +kernel
theorem dX10_keepsLaw_72 : decode cX10_keepsLaw 72 = .ok (.aload_n 0, 1) := by decide +kernel
theorem dX10_keepsLaw_73 : decode cX10_keepsLaw 73 = .ok (.getfield 52, 3) := by decide +kernel
theorem dX10_keepsLaw_76 : decode cX10_keepsLaw 76 = .ok (.iload_n 1, 1) := by decide +kernel
theorem dX10_keepsLaw_77 : decode cX10_keepsLaw 77 = .ok (.aload_n 0, 1) := by decide +kernel
theorem dX10_keepsLaw_78 : decode cX10_keepsLaw 78 = .ok (.aload_n 0, 1) := by decide +kernel
theorem dX10_keepsLaw_79 : decode cX10_keepsLaw 79 = .ok (.getfield 52, 3) := by decide +kernel
theorem dX10_keepsLaw_82 : decode cX10_keepsLaw 82 = .ok (.iload_n 1, 1) := by decide +kernel
theorem dX10_keepsLaw_83 : decode cX10_keepsLaw 83 = .ok (.iaload, 1) := by decide +kernel
theorem dX10_keepsLaw_84 : decode cX10_keepsLaw 84 = .ok (.invokevirtual 483, 3) := by decide +kernel
theorem dX10_keepsLaw_87 : decode cX10_keepsLaw 87 = .ok (.iastore, 1) := by decide +kernel
theorem dX10_keepsLaw_88 : decode cX10_keepsLaw 88 = .ok (.iinc 1 1, 3) := by decide +kernel
theorem dX10_keepsLaw_91 : decode cX10_keepsLaw 91 = .ok (.goto (-73), 3) := by decide +kernel
theorem dX10_keepsLaw_94 : decode cX10_keepsLaw 94 = .ok (.iconst 0, 1) := by decide +kernel
theorem dX10_keepsLaw_95 : decode cX10_keepsLaw 95 = .ok (.istore_n 1, 1) := by decide +kernel
theorem dX10_keepsLaw_96 : decode cX10_keepsLaw 96 = .ok (.iload_n 1, 1) := by decide +kernel
theorem dX10_keepsLaw_97 : decode cX10_keepsLaw 97 = .ok (.sipush 400, 3) := by decide +kernel
theorem dX10_keepsLaw_100 : decode cX10_keepsLaw 100 = .ok (.if_icmp .ge 41, 3) := by decide +kernel
theorem dX10_keepsLaw_103 : decode cX10_keepsLaw 103 = .ok (.aload_n 0, 1) := by decide +kernel
theorem dX10_keepsLaw_104 : decode cX10_keepsLaw 104 = .ok (.getfield 55, 3) := by decide +kernel
theorem dX10_keepsLaw_107 : decode cX10_keepsLaw 107 = .ok (.iload_n 1, 1) := by decide +kernel
theorem dX10_keepsLaw_108 : decode cX10_keepsLaw 108 = .ok (.aload_n 0, 1) := by decide +kernel
theorem dX10_keepsLaw_109 : decode cX10_keepsLaw 109 = .ok (.aload_n 0, 1) := by decide +kernel
theorem dX10_keepsLaw_110 : decode cX10_keepsLaw 110 = .ok (.getfield 55, 3) := by decide +kernel
theorem dX10_keepsLaw_113 : decode cX10_keepsLaw 113 = .ok (.iload_n 1, 1) := by decide +kernel
theorem dX10_keepsLaw_114 : decode cX10_keepsLaw 114 = .ok (.iaload, 1) := by decide +kernel
theorem dX10_keepsLaw_115 : decode cX10_keepsLaw 115 = .ok (.invokevirtual 483, 3) := by decide +kernel
theorem dX10_keepsLaw_118 : decode cX10_keepsLaw 118 = .ok (.iastore, 1) := by decide +kernel
theorem dX10_keepsLaw_119 : decode cX10_keepsLaw 119 = .ok (.aload_n 0, 1) := by decide +kernel
theorem dX10_keepsLaw_120 : decode cX10_keepsLaw 120 = .ok (.getfield 58, 3) := by decide +kernel
theorem dX10_keepsLaw_123 : decode cX10_keepsLaw 123 = .ok (.iload_n 1, 1) := by decide +kernel
theorem dX10_keepsLaw_124 : decode cX10_keepsLaw 124 = .ok (.aload_n 0, 1) := by decide +kernel
theorem dX10_keepsLaw_125 : decode cX10_keepsLaw 125 = .ok (.aload_n 0, 1) := by decide +kernel
theorem dX10_keepsLaw_126 : decode cX10_keepsLaw 126 = .ok (.getfield 58, 3) := by decide +kernel
theorem dX10_keepsLaw_129 : decode cX10_keepsLaw 129 = .ok (.iload_n 1, 1) := by decide +kernel
theorem dX10_keepsLaw_130 : decode cX10_keepsLaw 130 = .ok (.iaload, 1) := by decide +kernel
theorem dX10_keepsLaw_131 : decode cX10_keepsLaw 131 = .ok (.invokevirtual 483, 3) := by decide +kernel
theorem dX10_keepsLaw_134 : decode cX10_keepsLaw 134 = .ok (.iastore, 1) := by decide +kernel
theorem dX10_keepsLaw_135 : decode cX10_keepsLaw 135 = .ok (.iinc 1 1, 3) := by decide +kernel
theorem dX10_keepsLaw_138 : decode cX10_keepsLaw 138 = .ok (.goto (-42), 3) := by decide +kernel
theorem dX10_keepsLaw_141 : decode cX10_keepsLaw 141 = .ok (.return_, 1) := by decide +kernel
theorem dX10_keepsTold_0 : decode cX10_keepsTold 0 = .ok (.aload_n 0, 1) := by decide +kernel
theorem dX10_keepsTold_1 : decode cX10_keepsTold 1 = .ok (.aload_n 0, 1) := by decide +kernel
theorem dX10_keepsTold_2 : decode cX10_keepsTold 2 = .ok (.aload_n 0, 1) := by decide +kernel
theorem dX10_keepsTold_3 : decode cX10_keepsTold 3 = .ok (.getfield 143, 3) := by decide +kernel
theorem dX10_keepsTold_6 : decode cX10_keepsTold 6 = .ok (.invokevirtual 483, 3) := by decide +kernel
theorem dX10_keepsTold_9 : decode cX10_keepsTold 9 = .ok (.putfield 143, 3) := by decide +kernel
theorem dX10_keepsTold_12 : decode cX10_keepsTold 12 = .ok (.aload_n 0, 1) := by decide +kernel
theorem dX10_keepsTold_13 : decode cX10_keepsTold 13 = .ok (.aload_n 0, 1) := by decide +kernel
theorem dX10_keepsTold_14 : decode cX10_keepsTold 14 = .ok (.aload_n 0, 1) := by decide +kernel
theorem dX10_keepsTold_15 : decode cX10_keepsTold 15 = .ok (.getfield 146, 3) := by decide +kernel
theorem dX10_keepsTold_18 : decode cX10_keepsTold 18 = .ok (.invokevirtual 483, 3) := by decide +kernel
theorem dX10_keepsTold_21 : decode cX10_keepsTold 21 = .ok (.putfield 146, 3) := by decide +kernel
theorem dX10_keepsTold_24 : decode cX10_keepsTold 24 = .ok (.aload_n 0, 1) := by decide +kernel
theorem dX10_keepsTold_25 : decode cX10_keepsTold 25 = .ok (.aload_n 0, 1) := by decide +kernel
theorem dX10_keepsTold_26 : decode cX10_keepsTold 26 = .ok (.aload_n 0, 1) := by decide +kernel
theorem dX10_keepsTold_27 : decode cX10_keepsTold 27 = .ok (.getfield 297, 3) := by decide +kernel
theorem dX10_keepsTold_30 : decode cX10_keepsTold 30 = .ok (.invokevirtual 483, 3) := by decide +kernel
theorem dX10_keepsTold_33 : decode cX10_keepsTold 33 = .ok (.putfield 297, 3) := by decide +kernel
theorem dX10_keepsTold_36 : decode cX10_keepsTold 36 = .ok (.aload_n 0, 1) := by decide +kernel
theorem dX10_keepsTold_37 : decode cX10_keepsTold 37 = .ok (.aload_n 0, 1) := by decide +kernel
theorem dX10_keepsTold_38 : decode cX10_keepsTold 38 = .ok (.aload_n 0, 1) := by decide +kernel
theorem dX10_keepsTold_39 : decode cX10_keepsTold 39 = .ok (.getfield 300, 3) := by decide +kernel
theorem dX10_keepsTold_42 : decode cX10_keepsTold 42 = .ok (.invokevirtual 483, 3) := by decide +kernel
theorem dX10_keepsTold_45 : decode cX10_keepsTold 45 = .ok (.putfield 300, 3) := by decide +kernel
theorem dX10_keepsTold_48 : decode cX10_keepsTold 48 = .ok (.aload_n 0, 1) := by decide +kernel
theorem dX10_keepsTold_49 : decode cX10_keepsTold 49 = .ok (.aload_n 0, 1) := by decide +kernel
theorem dX10_keepsTold_50 : decode cX10_keepsTold 50 = .ok (.aload_n 0, 1) := by decide +kernel
theorem dX10_keepsTold_51 : decode cX10_keepsTold 51 = .ok (.getfield 303, 3) := by decide +kernel
theorem dX10_keepsTold_54 : decode cX10_keepsTold 54 = .ok (.invokevirtual 483, 3) := by decide +kernel
theorem dX10_keepsTold_57 : decode cX10_keepsTold 57 = .ok (.putfield 303, 3) := by decide +kernel
theorem dX10_keepsTold_60 : decode cX10_keepsTold 60 = .ok (.aload_n 0, 1) := by decide +kernel
theorem dX10_keepsTold_61 : decode cX10_keepsTold 61 = .ok (.aload_n 0, 1) := by decide +kernel
theorem dX10_keepsTold_62 : decode cX10_keepsTold 62 = .ok (.aload_n 0, 1) := by decide +kernel
theorem dX10_keepsTold_63 : decode cX10_keepsTold 63 = .ok (.getfield 407, 3) := by decide +kernel
theorem dX10_keepsTold_66 : decode cX10_keepsTold 66 = .ok (.invokevirtual 483, 3) := by decide +kernel
theorem dX10_keepsTold_69 : decode cX10_keepsTold 69 = .ok (.putfield 407, 3) := by decide +kernel
theorem dX10_keepsTold_72 : decode cX10_keepsTold 72 = .ok (.aload_n 0, 1) := by decide +kernel
theorem dX10_keepsTold_73 : decode cX10_keepsTold 73 = .ok (.getfield 101, 3) := by decide +kernel
theorem dX10_keepsTold_76 : decode cX10_keepsTold 76 = .ok (.iconst 0, 1) := by decide +kernel
theorem dX10_keepsTold_77 : decode cX10_keepsTold 77 = .ok (.aload_n 0, 1) := by decide +kernel
theorem dX10_keepsTold_78 : decode cX10_keepsTold 78 = .ok (.aload_n 0, 1) := by decide +kernel
theorem dX10_keepsTold_79 : decode cX10_keepsTold 79 = .ok (.getfield 101, 3) := by decide +kernel
theorem dX10_keepsTold_82 : decode cX10_keepsTold 82 = .ok (.iconst 0, 1) := by decide +kernel
theorem dX10_keepsTold_83 : decode cX10_keepsTold 83 = .ok (.iaload, 1) := by decide +kernel
theorem dX10_keepsTold_84 : decode cX10_keepsTold 84 = .ok (.invokevirtual 483, 3) := by decide +kernel
theorem dX10_keepsTold_87 : decode cX10_keepsTold 87 = .ok (.iastore, 1) := by decide +kernel
theorem dX10_keepsTold_88 : decode cX10_keepsTold 88 = .ok (.aload_n 0, 1) := by decide +kernel
theorem dX10_keepsTold_89 : decode cX10_keepsTold 89 = .ok (.getfield 101, 3) := by decide +kernel
theorem dX10_keepsTold_92 : decode cX10_keepsTold 92 = .ok (.iconst 1, 1) := by decide +kernel
theorem dX10_keepsTold_93 : decode cX10_keepsTold 93 = .ok (.aload_n 0, 1) := by decide +kernel
theorem dX10_keepsTold_94 : decode cX10_keepsTold 94 = .ok (.aload_n 0, 1) := by decide +kernel
theorem dX10_keepsTold_95 : decode cX10_keepsTold 95 = .ok (.getfield 101, 3) := by decide +kernel
theorem dX10_keepsTold_98 : decode cX10_keepsTold 98 = .ok (.iconst 1, 1) := by decide +kernel
theorem dX10_keepsTold_99 : decode cX10_keepsTold 99 = .ok (.iaload, 1) := by decide +kernel
theorem dX10_keepsTold_100 : decode cX10_keepsTold 100 = .ok (.invokevirtual 483, 3) := by decide +kernel
theorem dX10_keepsTold_103 : decode cX10_keepsTold 103 = .ok (.iastore, 1) := by decide +kernel
theorem dX10_keepsTold_104 : decode cX10_keepsTold 104 = .ok (.aload_n 0, 1) := by decide +kernel
theorem dX10_keepsTold_105 : decode cX10_keepsTold 105 = .ok (.aload_n 0, 1) := by decide +kernel
theorem dX10_keepsTold_106 : decode cX10_keepsTold 106 = .ok (.aload_n 0, 1) := by decide +kernel
theorem dX10_keepsTold_107 : decode cX10_keepsTold 107 = .ok (.getfield 444, 3) := by decide +kernel
theorem dX10_keepsTold_110 : decode cX10_keepsTold 110 = .ok (.invokevirtual 483, 3) := by decide +kernel
theorem dX10_keepsTold_113 : decode cX10_keepsTold 113 = .ok (.putfield 444, 3) := by decide +kernel
theorem dX10_keepsTold_116 : decode cX10_keepsTold 116 = .ok (.aload_n 0, 1) := by decide +kernel
theorem dX10_keepsTold_117 : decode cX10_keepsTold 117 = .ok (.aload_n 0, 1) := by decide +kernel
theorem dX10_keepsTold_118 : decode cX10_keepsTold 118 = .ok (.aload_n 0, 1) := by decide +kernel
theorem dX10_keepsTold_119 : decode cX10_keepsTold 119 = .ok (.getfield 453, 3) := by decide +kernel
theorem dX10_keepsTold_122 : decode cX10_keepsTold 122 = .ok (.invokevirtual 483, 3) := by decide +kernel
theorem dX10_keepsTold_125 : decode cX10_keepsTold 125 = .ok (.putfield 453, 3) := by decide +kernel
theorem dX10_keepsTold_128 : decode cX10_keepsTold 128 = .ok (.aload_n 0, 1) := by decide +kernel
theorem dX10_keepsTold_129 : decode cX10_keepsTold 129 = .ok (.aload_n 0, 1) := by decide +kernel
theorem dX10_keepsTold_130 : decode cX10_keepsTold 130 = .ok (.aload_n 0, 1) := by decide +kernel
theorem dX10_keepsTold_131 : decode cX10_keepsTold 131 = .ok (.getfield 459, 3) := by decide +kernel
theorem dX10_keepsTold_134 : decode cX10_keepsTold 134 = .ok (.invokevirtual 483, 3) := by decide +kernel
theorem dX10_keepsTold_137 : decode cX10_keepsTold 137 = .ok (.putfield 459, 3) := by decide +kernel
theorem dX10_keepsTold_140 : decode cX10_keepsTold 140 = .ok (.iconst 0, 1) := by decide +kernel
theorem dX10_keepsTold_141 : decode cX10_keepsTold 141 = .ok (.istore_n 1, 1) := by decide +kernel
theorem dX10_keepsTold_142 : decode cX10_keepsTold 142 = .ok (.iload_n 1, 1) := by decide +kernel
theorem dX10_keepsTold_143 : decode cX10_keepsTold 143 = .ok (.bipush 12, 2) := by decide +kernel
theorem dX10_keepsTold_145 : decode cX10_keepsTold 145 = .ok (.if_icmp .ge 105, 3) := by decide +kernel
theorem dX10_keepsTold_148 : decode cX10_keepsTold 148 = .ok (.aload_n 0, 1) := by decide +kernel
theorem dX10_keepsTold_149 : decode cX10_keepsTold 149 = .ok (.getfield 19, 3) := by decide +kernel
theorem dX10_keepsTold_152 : decode cX10_keepsTold 152 = .ok (.iload_n 1, 1) := by decide +kernel
theorem dX10_keepsTold_153 : decode cX10_keepsTold 153 = .ok (.aload_n 0, 1) := by decide +kernel
theorem dX10_keepsTold_154 : decode cX10_keepsTold 154 = .ok (.aload_n 0, 1) := by decide +kernel
theorem dX10_keepsTold_155 : decode cX10_keepsTold 155 = .ok (.getfield 19, 3) := by decide +kernel
theorem dX10_keepsTold_158 : decode cX10_keepsTold 158 = .ok (.iload_n 1, 1) := by decide +kernel
theorem dX10_keepsTold_159 : decode cX10_keepsTold 159 = .ok (.iaload, 1) := by decide +kernel
theorem dX10_keepsTold_160 : decode cX10_keepsTold 160 = .ok (.invokevirtual 483, 3) := by decide +kernel
theorem dX10_keepsTold_163 : decode cX10_keepsTold 163 = .ok (.iastore, 1) := by decide +kernel
theorem dX10_keepsTold_164 : decode cX10_keepsTold 164 = .ok (.aload_n 0, 1) := by decide +kernel
theorem dX10_keepsTold_165 : decode cX10_keepsTold 165 = .ok (.getfield 22, 3) := by decide +kernel
theorem dX10_keepsTold_168 : decode cX10_keepsTold 168 = .ok (.iload_n 1, 1) := by decide +kernel
theorem dX10_keepsTold_169 : decode cX10_keepsTold 169 = .ok (.aload_n 0, 1) := by decide +kernel
theorem dX10_keepsTold_170 : decode cX10_keepsTold 170 = .ok (.aload_n 0, 1) := by decide +kernel
theorem dX10_keepsTold_171 : decode cX10_keepsTold 171 = .ok (.getfield 22, 3) := by decide +kernel
theorem dX10_keepsTold_174 : decode cX10_keepsTold 174 = .ok (.iload_n 1, 1) := by decide +kernel
theorem dX10_keepsTold_175 : decode cX10_keepsTold 175 = .ok (.iaload, 1) := by decide +kernel
theorem dX10_keepsTold_176 : decode cX10_keepsTold 176 = .ok (.invokevirtual 483, 3) := by decide +kernel
theorem dX10_keepsTold_179 : decode cX10_keepsTold 179 = .ok (.iastore, 1) := by decide +kernel
theorem dX10_keepsTold_180 : decode cX10_keepsTold 180 = .ok (.aload_n 0, 1) := by decide +kernel
theorem dX10_keepsTold_181 : decode cX10_keepsTold 181 = .ok (.getfield 25, 3) := by decide +kernel
theorem dX10_keepsTold_184 : decode cX10_keepsTold 184 = .ok (.iload_n 1, 1) := by decide +kernel
theorem dX10_keepsTold_185 : decode cX10_keepsTold 185 = .ok (.aload_n 0, 1) := by decide +kernel
theorem dX10_keepsTold_186 : decode cX10_keepsTold 186 = .ok (.aload_n 0, 1) := by decide +kernel
theorem dX10_keepsTold_187 : decode cX10_keepsTold 187 = .ok (.getfield 25, 3) := by decide +kernel
theorem dX10_keepsTold_190 : decode cX10_keepsTold 190 = .ok (.iload_n 1, 1) := by decide +kernel
theorem dX10_keepsTold_191 : decode cX10_keepsTold 191 = .ok (.iaload, 1) := by decide +kernel
theorem dX10_keepsTold_192 : decode cX10_keepsTold 192 = .ok (.invokevirtual 483, 3) := by decide +kernel
theorem dX10_keepsTold_195 : decode cX10_keepsTold 195 = .ok (.iastore, 1) := by decide +kernel
theorem dX10_keepsTold_196 : decode cX10_keepsTold 196 = .ok (.aload_n 0, 1) := by decide +kernel
theorem dX10_keepsTold_197 : decode cX10_keepsTold 197 = .ok (.getfield 28, 3) := by decide +kernel
theorem dX10_keepsTold_200 : decode cX10_keepsTold 200 = .ok (.iload_n 1, 1) := by decide +kernel
theorem dX10_keepsTold_201 : decode cX10_keepsTold 201 = .ok (.aload_n 0, 1) := by decide +kernel
theorem dX10_keepsTold_202 : decode cX10_keepsTold 202 = .ok (.aload_n 0, 1) := by decide +kernel
theorem dX10_keepsTold_203 : decode cX10_keepsTold 203 = .ok (.getfield 28, 3) := by decide +kernel
theorem dX10_keepsTold_206 : decode cX10_keepsTold 206 = .ok (.iload_n 1, 1) := by decide +kernel
theorem dX10_keepsTold_207 : decode cX10_keepsTold 207 = .ok (.iaload, 1) := by decide +kernel
theorem dX10_keepsTold_208 : decode cX10_keepsTold 208 = .ok (.invokevirtual 483, 3) := by decide +kernel
theorem dX10_keepsTold_211 : decode cX10_keepsTold 211 = .ok (.iastore, 1) := by decide +kernel
theorem dX10_keepsTold_212 : decode cX10_keepsTold 212 = .ok (.aload_n 0, 1) := by decide +kernel
theorem dX10_keepsTold_213 : decode cX10_keepsTold 213 = .ok (.getfield 71, 3) := by decide +kernel
theorem dX10_keepsTold_216 : decode cX10_keepsTold 216 = .ok (.iload_n 1, 1) := by decide +kernel
theorem dX10_keepsTold_217 : decode cX10_keepsTold 217 = .ok (.aload_n 0, 1) := by decide +kernel
theorem dX10_keepsTold_218 : decode cX10_keepsTold 218 = .ok (.aload_n 0, 1) := by decide +kernel
theorem dX10_keepsTold_219 : decode cX10_keepsTold 219 = .ok (.getfield 71, 3) := by decide +kernel
theorem dX10_keepsTold_222 : decode cX10_keepsTold 222 = .ok (.iload_n 1, 1) := by decide +kernel
theorem dX10_keepsTold_223 : decode cX10_keepsTold 223 = .ok (.iaload, 1) := by decide +kernel
theorem dX10_keepsTold_224 : decode cX10_keepsTold 224 = .ok (.invokevirtual 483, 3) := by decide +kernel
theorem dX10_keepsTold_227 : decode cX10_keepsTold 227 = .ok (.iastore, 1) := by decide +kernel
theorem dX10_keepsTold_228 : decode cX10_keepsTold 228 = .ok (.aload_n 0, 1) := by decide +kernel
theorem dX10_keepsTold_229 : decode cX10_keepsTold 229 = .ok (.getfield 74, 3) := by decide +kernel
theorem dX10_keepsTold_232 : decode cX10_keepsTold 232 = .ok (.iload_n 1, 1) := by decide +kernel
theorem dX10_keepsTold_233 : decode cX10_keepsTold 233 = .ok (.aload_n 0, 1) := by decide +kernel
theorem dX10_keepsTold_234 : decode cX10_keepsTold 234 = .ok (.aload_n 0, 1) := by decide +kernel
theorem dX10_keepsTold_235 : decode cX10_keepsTold 235 = .ok (.getfield 74, 3) := by decide +kernel
theorem dX10_keepsTold_238 : decode cX10_keepsTold 238 = .ok (.iload_n 1, 1) := by decide +kernel
theorem dX10_keepsTold_239 : decode cX10_keepsTold 239 = .ok (.iaload, 1) := by decide +kernel
theorem dX10_keepsTold_240 : decode cX10_keepsTold 240 = .ok (.invokevirtual 483, 3) := by decide +kernel
theorem dX10_keepsTold_243 : decode cX10_keepsTold 243 = .ok (.iastore, 1) := by decide +kernel
theorem dX10_keepsTold_244 : decode cX10_keepsTold 244 = .ok (.iinc 1 1, 3) := by decide +kernel
theorem dX10_keepsTold_247 : decode cX10_keepsTold 247 = .ok (.goto (-105), 3) := by decide +kernel
theorem dX10_keepsTold_250 : decode cX10_keepsTold 250 = .ok (.iconst 0, 1) := by decide +kernel
theorem dX10_keepsTold_251 : decode cX10_keepsTold 251 = .ok (.istore_n 1, 1) := by decide +kernel
theorem dX10_keepsTold_252 : decode cX10_keepsTold 252 = .ok (.iload_n 1, 1) := by decide +kernel
theorem dX10_keepsTold_253 : decode cX10_keepsTold 253 = .ok (.bipush 64, 2) := by decide +kernel
theorem dX10_keepsTold_255 : decode cX10_keepsTold 255 = .ok (.if_icmp .ge 25, 3) := by decide +kernel
theorem dX10_keepsTold_258 : decode cX10_keepsTold 258 = .ok (.aload_n 0, 1) := by decide +kernel
theorem dX10_keepsTold_259 : decode cX10_keepsTold 259 = .ok (.getfield 68, 3) := by decide +kernel
theorem dX10_keepsTold_262 : decode cX10_keepsTold 262 = .ok (.iload_n 1, 1) := by decide +kernel
theorem dX10_keepsTold_263 : decode cX10_keepsTold 263 = .ok (.aload_n 0, 1) := by decide +kernel
theorem dX10_keepsTold_264 : decode cX10_keepsTold 264 = .ok (.aload_n 0, 1) := by decide +kernel
theorem dX10_keepsTold_265 : decode cX10_keepsTold 265 = .ok (.getfield 68, 3) := by decide +kernel
theorem dX10_keepsTold_268 : decode cX10_keepsTold 268 = .ok (.iload_n 1, 1) := by decide +kernel
theorem dX10_keepsTold_269 : decode cX10_keepsTold 269 = .ok (.iaload, 1) := by decide +kernel
theorem dX10_keepsTold_270 : decode cX10_keepsTold 270 = .ok (.invokevirtual 483, 3) := by decide +kernel
theorem dX10_keepsTold_273 : decode cX10_keepsTold 273 = .ok (.iastore, 1) := by decide +kernel
theorem dX10_keepsTold_274 : decode cX10_keepsTold 274 = .ok (.iinc 1 1, 3) := by decide +kernel
theorem dX10_keepsTold_277 : decode cX10_keepsTold 277 = .ok (.goto (-25), 3) := by decide +kernel
theorem dX10_keepsTold_280 : decode cX10_keepsTold 280 = .ok (.iconst 0, 1) := by decide +kernel
theorem dX10_keepsTold_281 : decode cX10_keepsTold 281 = .ok (.istore_n 1, 1) := by decide +kernel
theorem dX10_keepsTold_282 : decode cX10_keepsTold 282 = .ok (.iload_n 1, 1) := by decide +kernel
theorem dX10_keepsTold_283 : decode cX10_keepsTold 283 = .ok (.bipush 8, 2) := by decide +kernel
theorem dX10_keepsTold_285 : decode cX10_keepsTold 285 = .ok (.if_icmp .ge 89, 3) := by decide +kernel
theorem dX10_keepsTold_288 : decode cX10_keepsTold 288 = .ok (.aload_n 0, 1) := by decide +kernel
theorem dX10_keepsTold_289 : decode cX10_keepsTold 289 = .ok (.getfield 83, 3) := by decide +kernel
theorem dX10_keepsTold_292 : decode cX10_keepsTold 292 = .ok (.iload_n 1, 1) := by decide +kernel
theorem dX10_keepsTold_293 : decode cX10_keepsTold 293 = .ok (.aload_n 0, 1) := by decide +kernel
theorem dX10_keepsTold_294 : decode cX10_keepsTold 294 = .ok (.aload_n 0, 1) := by decide +kernel
theorem dX10_keepsTold_295 : decode cX10_keepsTold 295 = .ok (.getfield 83, 3) := by decide +kernel
theorem dX10_keepsTold_298 : decode cX10_keepsTold 298 = .ok (.iload_n 1, 1) := by decide +kernel
theorem dX10_keepsTold_299 : decode cX10_keepsTold 299 = .ok (.iaload, 1) := by decide +kernel
theorem dX10_keepsTold_300 : decode cX10_keepsTold 300 = .ok (.invokevirtual 483, 3) := by decide +kernel
theorem dX10_keepsTold_303 : decode cX10_keepsTold 303 = .ok (.iastore, 1) := by decide +kernel
theorem dX10_keepsTold_304 : decode cX10_keepsTold 304 = .ok (.aload_n 0, 1) := by decide +kernel
theorem dX10_keepsTold_305 : decode cX10_keepsTold 305 = .ok (.getfield 86, 3) := by decide +kernel
theorem dX10_keepsTold_308 : decode cX10_keepsTold 308 = .ok (.iload_n 1, 1) := by decide +kernel
theorem dX10_keepsTold_309 : decode cX10_keepsTold 309 = .ok (.aload_n 0, 1) := by decide +kernel
theorem dX10_keepsTold_310 : decode cX10_keepsTold 310 = .ok (.aload_n 0, 1) := by decide +kernel
theorem dX10_keepsTold_311 : decode cX10_keepsTold 311 = .ok (.getfield 86, 3) := by decide +kernel
theorem dX10_keepsTold_314 : decode cX10_keepsTold 314 = .ok (.iload_n 1, 1) := by decide +kernel
theorem dX10_keepsTold_315 : decode cX10_keepsTold 315 = .ok (.iaload, 1) := by decide +kernel
theorem dX10_keepsTold_316 : decode cX10_keepsTold 316 = .ok (.invokevirtual 483, 3) := by decide +kernel
theorem dX10_keepsTold_319 : decode cX10_keepsTold 319 = .ok (.iastore, 1) := by decide +kernel
theorem dX10_keepsTold_320 : decode cX10_keepsTold 320 = .ok (.aload_n 0, 1) := by decide +kernel
theorem dX10_keepsTold_321 : decode cX10_keepsTold 321 = .ok (.getfield 89, 3) := by decide +kernel
theorem dX10_keepsTold_324 : decode cX10_keepsTold 324 = .ok (.iload_n 1, 1) := by decide +kernel
theorem dX10_keepsTold_325 : decode cX10_keepsTold 325 = .ok (.aload_n 0, 1) := by decide +kernel
theorem dX10_keepsTold_326 : decode cX10_keepsTold 326 = .ok (.aload_n 0, 1) := by decide +kernel
theorem dX10_keepsTold_327 : decode cX10_keepsTold 327 = .ok (.getfield 89, 3) := by decide +kernel
theorem dX10_keepsTold_330 : decode cX10_keepsTold 330 = .ok (.iload_n 1, 1) := by decide +kernel
theorem dX10_keepsTold_331 : decode cX10_keepsTold 331 = .ok (.iaload, 1) := by decide +kernel
theorem dX10_keepsTold_332 : decode cX10_keepsTold 332 = .ok (.invokevirtual 483, 3) := by decide +kernel
theorem dX10_keepsTold_335 : decode cX10_keepsTold 335 = .ok (.iastore, 1) := by decide +kernel
theorem dX10_keepsTold_336 : decode cX10_keepsTold 336 = .ok (.aload_n 0, 1) := by decide +kernel
theorem dX10_keepsTold_337 : decode cX10_keepsTold 337 = .ok (.getfield 119, 3) := by decide +kernel
theorem dX10_keepsTold_340 : decode cX10_keepsTold 340 = .ok (.iload_n 1, 1) := by decide +kernel
theorem dX10_keepsTold_341 : decode cX10_keepsTold 341 = .ok (.aload_n 0, 1) := by decide +kernel
theorem dX10_keepsTold_342 : decode cX10_keepsTold 342 = .ok (.aload_n 0, 1) := by decide +kernel
theorem dX10_keepsTold_343 : decode cX10_keepsTold 343 = .ok (.getfield 119, 3) := by decide +kernel
theorem dX10_keepsTold_346 : decode cX10_keepsTold 346 = .ok (.iload_n 1, 1) := by decide +kernel
theorem dX10_keepsTold_347 : decode cX10_keepsTold 347 = .ok (.iaload, 1) := by decide +kernel
theorem dX10_keepsTold_348 : decode cX10_keepsTold 348 = .ok (.invokevirtual 483, 3) := by decide +kernel
theorem dX10_keepsTold_351 : decode cX10_keepsTold 351 = .ok (.iastore, 1) := by decide +kernel
theorem dX10_keepsTold_352 : decode cX10_keepsTold 352 = .ok (.aload_n 0, 1) := by decide +kernel
theorem dX10_keepsTold_353 : decode cX10_keepsTold 353 = .ok (.getfield 122, 3) := by decide +kernel
theorem dX10_keepsTold_356 : decode cX10_keepsTold 356 = .ok (.iload_n 1, 1) := by decide +kernel
theorem dX10_keepsTold_357 : decode cX10_keepsTold 357 = .ok (.aload_n 0, 1) := by decide +kernel
theorem dX10_keepsTold_358 : decode cX10_keepsTold 358 = .ok (.aload_n 0, 1) := by decide +kernel
theorem dX10_keepsTold_359 : decode cX10_keepsTold 359 = .ok (.getfield 122, 3) := by decide +kernel
theorem dX10_keepsTold_362 : decode cX10_keepsTold 362 = .ok (.iload_n 1, 1) := by decide +kernel
theorem dX10_keepsTold_363 : decode cX10_keepsTold 363 = .ok (.iaload, 1) := by decide +kernel
theorem dX10_keepsTold_364 : decode cX10_keepsTold 364 = .ok (.invokevirtual 483, 3) := by decide +kernel
theorem dX10_keepsTold_367 : decode cX10_keepsTold 367 = .ok (.iastore, 1) := by decide +kernel
theorem dX10_keepsTold_368 : decode cX10_keepsTold 368 = .ok (.iinc 1 1, 3) := by decide +kernel
theorem dX10_keepsTold_371 : decode cX10_keepsTold 371 = .ok (.goto (-89), 3) := by decide +kernel
theorem dX10_keepsTold_374 : decode cX10_keepsTold 374 = .ok (.iconst 0, 1) := by decide +kernel
theorem dX10_keepsTold_375 : decode cX10_keepsTold 375 = .ok (.istore_n 1, 1) := by decide +kernel
theorem dX10_keepsTold_376 : decode cX10_keepsTold 376 = .ok (.iload_n 1, 1) := by decide +kernel
theorem dX10_keepsTold_377 : decode cX10_keepsTold 377 = .ok (.bipush 24, 2) := by decide +kernel
theorem dX10_keepsTold_379 : decode cX10_keepsTold 379 = .ok (.if_icmp .ge 25, 3) := by decide +kernel
theorem dX10_keepsTold_382 : decode cX10_keepsTold 382 = .ok (.aload_n 0, 1) := by decide +kernel
theorem dX10_keepsTold_383 : decode cX10_keepsTold 383 = .ok (.getfield 104, 3) := by decide +kernel
theorem dX10_keepsTold_386 : decode cX10_keepsTold 386 = .ok (.iload_n 1, 1) := by decide +kernel
theorem dX10_keepsTold_387 : decode cX10_keepsTold 387 = .ok (.aload_n 0, 1) := by decide +kernel
theorem dX10_keepsTold_388 : decode cX10_keepsTold 388 = .ok (.aload_n 0, 1) := by decide +kernel
theorem dX10_keepsTold_389 : decode cX10_keepsTold 389 = .ok (.getfield 104, 3) := by decide +kernel
theorem dX10_keepsTold_392 : decode cX10_keepsTold 392 = .ok (.iload_n 1, 1) := by decide +kernel
theorem dX10_keepsTold_393 : decode cX10_keepsTold 393 = .ok (.iaload, 1) := by decide +kernel
theorem dX10_keepsTold_394 : decode cX10_keepsTold 394 = .ok (.invokevirtual 483, 3) := by decide +kernel
theorem dX10_keepsTold_397 : decode cX10_keepsTold 397 = .ok (.iastore, 1) := by decide +kernel
theorem dX10_keepsTold_398 : decode cX10_keepsTold 398 = .ok (.iinc 1 1, 3) := by decide +kernel
theorem dX10_keepsTold_401 : decode cX10_keepsTold 401 = .ok (.goto (-25), 3) := by decide +kernel
theorem dX10_keepsTold_404 : decode cX10_keepsTold 404 = .ok (.iconst 0, 1) := by decide +kernel
theorem dX10_keepsTold_405 : decode cX10_keepsTold 405 = .ok (.istore_n 1, 1) := by decide +kernel
theorem dX10_keepsTold_406 : decode cX10_keepsTold 406 = .ok (.iload_n 1, 1) := by decide +kernel
theorem dX10_keepsTold_407 : decode cX10_keepsTold 407 = .ok (.bipush 16, 2) := by decide +kernel
theorem dX10_keepsTold_409 : decode cX10_keepsTold 409 = .ok (.if_icmp .ge 25, 3) := by decide +kernel
theorem dX10_keepsTold_412 : decode cX10_keepsTold 412 = .ok (.aload_n 0, 1) := by decide +kernel
theorem dX10_keepsTold_413 : decode cX10_keepsTold 413 = .ok (.getfield 107, 3) := by decide +kernel
theorem dX10_keepsTold_416 : decode cX10_keepsTold 416 = .ok (.iload_n 1, 1) := by decide +kernel
theorem dX10_keepsTold_417 : decode cX10_keepsTold 417 = .ok (.aload_n 0, 1) := by decide +kernel
theorem dX10_keepsTold_418 : decode cX10_keepsTold 418 = .ok (.aload_n 0, 1) := by decide +kernel
theorem dX10_keepsTold_419 : decode cX10_keepsTold 419 = .ok (.getfield 107, 3) := by decide +kernel
theorem dX10_keepsTold_422 : decode cX10_keepsTold 422 = .ok (.iload_n 1, 1) := by decide +kernel
theorem dX10_keepsTold_423 : decode cX10_keepsTold 423 = .ok (.iaload, 1) := by decide +kernel
theorem dX10_keepsTold_424 : decode cX10_keepsTold 424 = .ok (.invokevirtual 483, 3) := by decide +kernel
theorem dX10_keepsTold_427 : decode cX10_keepsTold 427 = .ok (.iastore, 1) := by decide +kernel
theorem dX10_keepsTold_428 : decode cX10_keepsTold 428 = .ok (.iinc 1 1, 3) := by decide +kernel
theorem dX10_keepsTold_431 : decode cX10_keepsTold 431 = .ok (.goto (-25), 3) := by decide +kernel
theorem dX10_keepsTold_434 : decode cX10_keepsTold 434 = .ok (.iconst 0, 1) := by decide +kernel
theorem dX10_keepsTold_435 : decode cX10_keepsTold 435 = .ok (.istore_n 1, 1) := by decide +kernel
theorem dX10_keepsTold_436 : decode cX10_keepsTold 436 = .ok (.iload_n 1, 1) := by decide +kernel
theorem dX10_keepsTold_437 : decode cX10_keepsTold 437 = .ok (.bipush 7, 2) := by decide +kernel
theorem dX10_keepsTold_439 : decode cX10_keepsTold 439 = .ok (.if_icmp .ge 25, 3) := by decide +kernel
theorem dX10_keepsTold_442 : decode cX10_keepsTold 442 = .ok (.aload_n 0, 1) := by decide +kernel
theorem dX10_keepsTold_443 : decode cX10_keepsTold 443 = .ok (.getfield 113, 3) := by decide +kernel
theorem dX10_keepsTold_446 : decode cX10_keepsTold 446 = .ok (.iload_n 1, 1) := by decide +kernel
theorem dX10_keepsTold_447 : decode cX10_keepsTold 447 = .ok (.aload_n 0, 1) := by decide +kernel
theorem dX10_keepsTold_448 : decode cX10_keepsTold 448 = .ok (.aload_n 0, 1) := by decide +kernel
theorem dX10_keepsTold_449 : decode cX10_keepsTold 449 = .ok (.getfield 113, 3) := by decide +kernel
theorem dX10_keepsTold_452 : decode cX10_keepsTold 452 = .ok (.iload_n 1, 1) := by decide +kernel
theorem dX10_keepsTold_453 : decode cX10_keepsTold 453 = .ok (.iaload, 1) := by decide +kernel
theorem dX10_keepsTold_454 : decode cX10_keepsTold 454 = .ok (.invokevirtual 483, 3) := by decide +kernel
theorem dX10_keepsTold_457 : decode cX10_keepsTold 457 = .ok (.iastore, 1) := by decide +kernel
theorem dX10_keepsTold_458 : decode cX10_keepsTold 458 = .ok (.iinc 1 1, 3) := by decide +kernel
theorem dX10_keepsTold_461 : decode cX10_keepsTold 461 = .ok (.goto (-25), 3) := by decide +kernel
theorem dX10_keepsTold_464 : decode cX10_keepsTold 464 = .ok (.return_, 1) := by decide +kernel
theorem dX10_image_0 : decode cX10_image 0 = .ok (.aload_n 0, 1) := by decide +kernel
theorem dX10_image_1 : decode cX10_image 1 = .ok (.iconst 0, 1) := by decide +kernel
theorem dX10_image_2 : decode cX10_image 2 = .ok (.putfield 131, 3) := by decide +kernel
theorem dX10_image_5 : decode cX10_image 5 = .ok (.iload_n 1, 1) := by decide +kernel
theorem dX10_image_6 : decode cX10_image 6 = .ok (.ifCond .ne 12, 3) := by decide +kernel
theorem dX10_image_9 : decode cX10_image 9 = .ok (.aload_n 0, 1) := by decide +kernel
theorem dX10_image_10 : decode cX10_image 10 = .ok (.getfield 486, 3) := by decide +kernel
theorem dX10_image_13 : decode cX10_image 13 = .ok (.ifCond .ne 5, 3) := by decide +kernel
theorem dX10_image_16 : decode cX10_image 16 = .ok (.iconst 0, 1) := by decide +kernel
theorem dX10_image_17 : decode cX10_image 17 = .ok (.ireturn, 1) := by decide +kernel
theorem dX10_image_18 : decode cX10_image 18 = .ok (.aload_n 0, 1) := by decide +kernel
theorem dX10_image_19 : decode cX10_image 19 = .ok (.iload_n 1, 1) := by decide +kernel
theorem dX10_image_20 : decode cX10_image 20 = .ok (.putfield 480, 3) := by decide +kernel
theorem dX10_image_23 : decode cX10_image 23 = .ok (.aload_n 0, 1) := by decide +kernel
theorem dX10_image_24 : decode cX10_image 24 = .ok (.iconst 1, 1) := by decide +kernel
theorem dX10_image_25 : decode cX10_image 25 = .ok (.putfield 486, 3) := by decide +kernel
theorem dX10_image_28 : decode cX10_image 28 = .ok (.aload_n 0, 1) := by decide +kernel
theorem dX10_image_29 : decode cX10_image 29 = .ok (.iconst 0, 1) := by decide +kernel
theorem dX10_image_30 : decode cX10_image 30 = .ok (.putfield 477, 3) := by decide +kernel
theorem dX10_image_33 : decode cX10_image 33 = .ok (.iconst 0, 1) := by decide +kernel
theorem dX10_image_34 : decode cX10_image 34 = .ok (.istore_n 2, 1) := by decide +kernel
theorem dX10_image_35 : decode cX10_image 35 = .ok (.iload_n 2, 1) := by decide +kernel
theorem dX10_image_36 : decode cX10_image 36 = .ok (.bipush 77, 2) := by decide +kernel
theorem dX10_image_38 : decode cX10_image 38 = .ok (.if_icmp .ge 25, 3) := by decide +kernel
theorem dX10_image_41 : decode cX10_image 41 = .ok (.aload_n 0, 1) := by decide +kernel
theorem dX10_image_42 : decode cX10_image 42 = .ok (.getfield 7, 3) := by decide +kernel
theorem dX10_image_45 : decode cX10_image 45 = .ok (.iload_n 2, 1) := by decide +kernel
theorem dX10_image_46 : decode cX10_image 46 = .ok (.aload_n 0, 1) := by decide +kernel
theorem dX10_image_47 : decode cX10_image 47 = .ok (.aload_n 0, 1) := by decide +kernel
theorem dX10_image_48 : decode cX10_image 48 = .ok (.getfield 7, 3) := by decide +kernel
theorem dX10_image_51 : decode cX10_image 51 = .ok (.iload_n 2, 1) := by decide +kernel
theorem dX10_image_52 : decode cX10_image 52 = .ok (.iaload, 1) := by decide +kernel
theorem dX10_image_53 : decode cX10_image 53 = .ok (.invokevirtual 483, 3) := by decide +kernel
theorem dX10_image_56 : decode cX10_image 56 = .ok (.iastore, 1) := by decide +kernel
theorem dX10_image_57 : decode cX10_image 57 = .ok (.iinc 2 1, 3) := by decide +kernel
theorem dX10_image_60 : decode cX10_image 60 = .ok (.goto (-25), 3) := by decide +kernel
theorem dX10_image_63 : decode cX10_image 63 = .ok (.aload_n 0, 1) := by decide +kernel
theorem dX10_image_64 : decode cX10_image 64 = .ok (.invokevirtual 489, 3) := by decide +kernel
theorem dX10_image_67 : decode cX10_image 67 = .ok (.iconst 0, 1) := by decide +kernel
theorem dX10_image_68 : decode cX10_image 68 = .ok (.istore_n 2, 1) := by decide +kernel
theorem dX10_image_69 : decode cX10_image 69 = .ok (.iload_n 2, 1) := by decide +kernel
theorem dX10_image_70 : decode cX10_image 70 = .ok (.sipush 600, 3) := by decide +kernel
theorem dX10_image_73 : decode cX10_image 73 = .ok (.if_icmp .ge 25, 3) := by decide +kernel
theorem dX10_image_76 : decode cX10_image 76 = .ok (.aload_n 0, 1) := by decide +kernel
theorem dX10_image_77 : decode cX10_image 77 = .ok (.getfield 31, 3) := by decide +kernel
theorem dX10_image_80 : decode cX10_image 80 = .ok (.iload_n 2, 1) := by decide +kernel
theorem dX10_image_81 : decode cX10_image 81 = .ok (.aload_n 0, 1) := by decide +kernel
theorem dX10_image_82 : decode cX10_image 82 = .ok (.aload_n 0, 1) := by decide +kernel
theorem dX10_image_83 : decode cX10_image 83 = .ok (.getfield 31, 3) := by decide +kernel
theorem dX10_image_86 : decode cX10_image 86 = .ok (.iload_n 2, 1) := by decide +kernel
theorem dX10_image_87 : decode cX10_image 87 = .ok (.iaload, 1) := by decide +kernel
theorem dX10_image_88 : decode cX10_image 88 = .ok (.invokevirtual 483, 3) := by decide +kernel
theorem dX10_image_91 : decode cX10_image 91 = .ok (.iastore, 1) := by decide +kernel
theorem dX10_image_92 : decode cX10_image 92 = .ok (.iinc 2 1, 3) := by decide +kernel
theorem dX10_image_95 : decode cX10_image 95 = .ok (.goto (-26), 3) := by decide +kernel
theorem dX10_image_98 : decode cX10_image 98 = .ok (.aload_n 0, 1) := by decide +kernel
theorem dX10_image_99 : decode cX10_image 99 = .ok (.invokevirtual 492, 3) := by decide +kernel
theorem dX10_image_102 : decode cX10_image 102 = .ok (.iload_n 1, 1) := by decide +kernel
theorem dX10_image_103 : decode cX10_image 103 = .ok (.ifCond .ne 8, 3) := by decide +kernel
theorem dX10_image_106 : decode cX10_image 106 = .ok (.aload_n 0, 1) := by decide +kernel
theorem dX10_image_107 : decode cX10_image 107 = .ok (.iconst 0, 1) := by decide +kernel
theorem dX10_image_108 : decode cX10_image 108 = .ok (.putfield 134, 3) := by decide +kernel
theorem dX10_image_111 : decode cX10_image 111 = .ok (.iconst 1, 1) := by decide +kernel
theorem dX10_image_112 : decode cX10_image 112 = .ok (.ireturn, 1) := by decide +kernel
theorem dX10_readSet_0 : decode cX10_readSet 0 = .ok (.iconst 0, 1) := by decide +kernel
theorem dX10_readSet_1 : decode cX10_readSet 1 = .ok (.istore_n 1, 1) := by decide +kernel
theorem dX10_readSet_2 : decode cX10_readSet 2 = .ok (.iconst 0, 1) := by decide +kernel
theorem dX10_readSet_3 : decode cX10_readSet 3 = .ok (.istore_n 2, 1) := by decide +kernel
theorem dX10_readSet_4 : decode cX10_readSet 4 = .ok (.iload_n 2, 1) := by decide +kernel
theorem dX10_readSet_5 : decode cX10_readSet 5 = .ok (.aload_n 0, 1) := by decide +kernel
theorem dX10_readSet_6 : decode cX10_readSet 6 = .ok (.getfield 143, 3) := by decide +kernel
theorem dX10_readSet_9 : decode cX10_readSet 9 = .ok (.if_icmp .ge 28, 3) := by decide +kernel
theorem dX10_readSet_12 : decode cX10_readSet 12 = .ok (.aload_n 0, 1) := by decide +kernel
theorem dX10_readSet_13 : decode cX10_readSet 13 = .ok (.getfield 7, 3) := by decide +kernel
theorem dX10_readSet_16 : decode cX10_readSet 16 = .ok (.bipush 29, 2) := by decide +kernel
theorem dX10_readSet_18 : decode cX10_readSet 18 = .ok (.iload_n 2, 1) := by decide +kernel
theorem dX10_readSet_19 : decode cX10_readSet 19 = .ok (.iadd, 1) := by decide +kernel
theorem dX10_readSet_20 : decode cX10_readSet 20 = .ok (.iaload, 1) := by decide +kernel
theorem dX10_readSet_21 : decode cX10_readSet 21 = .ok (.iconst 1, 1) := by decide +kernel
theorem dX10_readSet_22 : decode cX10_readSet 22 = .ok (.if_icmp .ne 9, 3) := by decide +kernel
theorem dX10_readSet_25 : decode cX10_readSet 25 = .ok (.iload_n 1, 1) := by decide +kernel
theorem dX10_readSet_26 : decode cX10_readSet 26 = .ok (.iconst 1, 1) := by decide +kernel
theorem dX10_readSet_27 : decode cX10_readSet 27 = .ok (.iload_n 2, 1) := by decide +kernel
theorem dX10_readSet_28 : decode cX10_readSet 28 = .ok (.ishl, 1) := by decide +kernel
theorem dX10_readSet_29 : decode cX10_readSet 29 = .ok (.ior, 1) := by decide +kernel
theorem dX10_readSet_30 : decode cX10_readSet 30 = .ok (.istore_n 1, 1) := by decide +kernel
theorem dX10_readSet_31 : decode cX10_readSet 31 = .ok (.iinc 2 1, 3) := by decide +kernel
theorem dX10_readSet_34 : decode cX10_readSet 34 = .ok (.goto (-30), 3) := by decide +kernel
theorem dX10_readSet_37 : decode cX10_readSet 37 = .ok (.iload_n 1, 1) := by decide +kernel
theorem dX10_readSet_38 : decode cX10_readSet 38 = .ok (.ireturn, 1) := by decide +kernel
theorem dX10_look_0 : decode cX10_look 0 = .ok (.aload_n 0, 1) := by decide +kernel
theorem dX10_look_1 : decode cX10_look 1 = .ok (.iconst 0, 1) := by decide +kernel
theorem dX10_look_2 : decode cX10_look 2 = .ok (.putfield 131, 3) := by decide +kernel
theorem dX10_look_5 : decode cX10_look 5 = .ok (.iload_n 1, 1) := by decide +kernel
theorem dX10_look_6 : decode cX10_look 6 = .ok (.ifCond .ne 8, 3) := by decide +kernel
theorem dX10_look_9 : decode cX10_look 9 = .ok (.aload_n 0, 1) := by decide +kernel
theorem dX10_look_10 : decode cX10_look 10 = .ok (.getfield 143, 3) := by decide +kernel
theorem dX10_look_13 : decode cX10_look 13 = .ok (.ireturn, 1) := by decide +kernel
theorem dX10_look_14 : decode cX10_look 14 = .ok (.iload_n 1, 1) := by decide +kernel
theorem dX10_look_15 : decode cX10_look 15 = .ok (.iconst 1, 1) := by decide +kernel
theorem dX10_look_16 : decode cX10_look 16 = .ok (.if_icmp .ne 8, 3) := by decide +kernel
theorem dX10_look_19 : decode cX10_look 19 = .ok (.aload_n 0, 1) := by decide +kernel
theorem dX10_look_20 : decode cX10_look 20 = .ok (.getfield 146, 3) := by decide +kernel
theorem dX10_look_23 : decode cX10_look 23 = .ok (.ireturn, 1) := by decide +kernel
theorem dX10_look_24 : decode cX10_look 24 = .ok (.iload_n 1, 1) := by decide +kernel
theorem dX10_look_25 : decode cX10_look 25 = .ok (.iconst 2, 1) := by decide +kernel
theorem dX10_look_26 : decode cX10_look 26 = .ok (.if_icmp .ne 10, 3) := by decide +kernel
theorem dX10_look_29 : decode cX10_look 29 = .ok (.aload_n 0, 1) := by decide +kernel
theorem dX10_look_30 : decode cX10_look 30 = .ok (.getfield 7, 3) := by decide +kernel
theorem dX10_look_33 : decode cX10_look 33 = .ok (.iconst 3, 1) := by decide +kernel
theorem dX10_look_34 : decode cX10_look 34 = .ok (.iaload, 1) := by decide +kernel
theorem dX10_look_35 : decode cX10_look 35 = .ok (.ireturn, 1) := by decide +kernel
theorem dX10_look_36 : decode cX10_look 36 = .ok (.iload_n 1, 1) := by decide +kernel
theorem dX10_look_37 : decode cX10_look 37 = .ok (.iconst 3, 1) := by decide +kernel
theorem dX10_look_38 : decode cX10_look 38 = .ok (.if_icmp .ne 12, 3) := by decide +kernel
theorem dX10_look_41 : decode cX10_look 41 = .ok (.aload_n 0, 1) := by decide +kernel
theorem dX10_look_42 : decode cX10_look 42 = .ok (.getfield 7, 3) := by decide +kernel
theorem dX10_look_45 : decode cX10_look 45 = .ok (.iconst 4, 1) := by decide +kernel
theorem dX10_look_46 : decode cX10_look 46 = .ok (.iaload, 1) := by decide +kernel
theorem dX10_look_47 : decode cX10_look 47 = .ok (.iconst 1, 1) := by decide +kernel
theorem dX10_look_48 : decode cX10_look 48 = .ok (.isub, 1) := by decide +kernel
theorem dX10_look_49 : decode cX10_look 49 = .ok (.ireturn, 1) := by decide +kernel
theorem dX10_look_50 : decode cX10_look 50 = .ok (.iload_n 1, 1) := by decide +kernel
theorem dX10_look_51 : decode cX10_look 51 = .ok (.iconst 4, 1) := by decide +kernel
theorem dX10_look_52 : decode cX10_look 52 = .ok (.if_icmp .ne 8, 3) := by decide +kernel
theorem dX10_look_55 : decode cX10_look 55 = .ok (.aload_n 0, 1) := by decide +kernel
theorem dX10_look_56 : decode cX10_look 56 = .ok (.invokevirtual 495, 3) := by decide +kernel
theorem dX10_look_59 : decode cX10_look 59 = .ok (.ireturn, 1) := by decide +kernel
theorem dX10_look_60 : decode cX10_look 60 = .ok (.iload_n 1, 1) := by decide +kernel
theorem dX10_look_61 : decode cX10_look 61 = .ok (.iconst 5, 1) := by decide +kernel
theorem dX10_look_62 : decode cX10_look 62 = .ok (.if_icmp .ne 10, 3) := by decide +kernel
theorem dX10_look_65 : decode cX10_look 65 = .ok (.aload_n 0, 1) := by decide +kernel
theorem dX10_look_66 : decode cX10_look 66 = .ok (.getfield 7, 3) := by decide +kernel
theorem dX10_look_69 : decode cX10_look 69 = .ok (.iconst 0, 1) := by decide +kernel
theorem dX10_look_70 : decode cX10_look 70 = .ok (.iaload, 1) := by decide +kernel
theorem dX10_look_71 : decode cX10_look 71 = .ok (.ireturn, 1) := by decide +kernel
theorem dX10_look_72 : decode cX10_look 72 = .ok (.iload_n 1, 1) := by decide +kernel
theorem dX10_look_73 : decode cX10_look 73 = .ok (.bipush 6, 2) := by decide +kernel
theorem dX10_look_75 : decode cX10_look 75 = .ok (.if_icmp .ne 10, 3) := by decide +kernel
theorem dX10_look_78 : decode cX10_look 78 = .ok (.aload_n 0, 1) := by decide +kernel
theorem dX10_look_79 : decode cX10_look 79 = .ok (.getfield 7, 3) := by decide +kernel
theorem dX10_look_82 : decode cX10_look 82 = .ok (.iconst 2, 1) := by decide +kernel
theorem dX10_look_83 : decode cX10_look 83 = .ok (.iaload, 1) := by decide +kernel
theorem dX10_look_84 : decode cX10_look 84 = .ok (.ireturn, 1) := by decide +kernel
theorem dX10_look_85 : decode cX10_look 85 = .ok (.iload_n 1, 1) := by decide +kernel
theorem dX10_look_86 : decode cX10_look 86 = .ok (.bipush 7, 2) := by decide +kernel
theorem dX10_look_88 : decode cX10_look 88 = .ok (.if_icmp .ne 10, 3) := by decide +kernel
theorem dX10_look_91 : decode cX10_look 91 = .ok (.aload_n 0, 1) := by decide +kernel
theorem dX10_look_92 : decode cX10_look 92 = .ok (.getfield 7, 3) := by decide +kernel
theorem dX10_look_95 : decode cX10_look 95 = .ok (.iconst 1, 1) := by decide +kernel
theorem dX10_look_96 : decode cX10_look 96 = .ok (.iaload, 1) := by decide +kernel
theorem dX10_look_97 : decode cX10_look 97 = .ok (.ireturn, 1) := by decide +kernel
theorem dX10_look_98 : decode cX10_look 98 = .ok (.iload_n 1, 1) := by decide +kernel
theorem dX10_look_99 : decode cX10_look 99 = .ok (.bipush 8, 2) := by decide +kernel
theorem dX10_look_101 : decode cX10_look 101 = .ok (.if_icmp .ne 10, 3) := by decide +kernel
theorem dX10_look_104 : decode cX10_look 104 = .ok (.aload_n 0, 1) := by decide +kernel
theorem dX10_look_105 : decode cX10_look 105 = .ok (.getfield 40, 3) := by decide +kernel
theorem dX10_look_108 : decode cX10_look 108 = .ok (.iconst 0, 1) := by decide +kernel
theorem dX10_look_109 : decode cX10_look 109 = .ok (.iaload, 1) := by decide +kernel
theorem dX10_look_110 : decode cX10_look 110 = .ok (.ireturn, 1) := by decide +kernel
theorem dX10_look_111 : decode cX10_look 111 = .ok (.iload_n 1, 1) := by decide +kernel
theorem dX10_look_112 : decode cX10_look 112 = .ok (.bipush 9, 2) := by decide +kernel
theorem dX10_look_114 : decode cX10_look 114 = .ok (.if_icmp .ne 8, 3) := by decide +kernel
theorem dX10_look_117 : decode cX10_look 117 = .ok (.aload_n 0, 1) := by decide +kernel
theorem dX10_look_118 : decode cX10_look 118 = .ok (.getfield 297, 3) := by decide +kernel
theorem dX10_look_121 : decode cX10_look 121 = .ok (.ireturn, 1) := by decide +kernel
theorem dX10_look_122 : decode cX10_look 122 = .ok (.iload_n 1, 1) := by decide +kernel
theorem dX10_look_123 : decode cX10_look 123 = .ok (.bipush 10, 2) := by decide +kernel
theorem dX10_look_125 : decode cX10_look 125 = .ok (.if_icmp .ne 8, 3) := by decide +kernel
theorem dX10_look_128 : decode cX10_look 128 = .ok (.aload_n 0, 1) := by decide +kernel
theorem dX10_look_129 : decode cX10_look 129 = .ok (.getfield 300, 3) := by decide +kernel
theorem dX10_look_132 : decode cX10_look 132 = .ok (.ireturn, 1) := by decide +kernel
theorem dX10_look_133 : decode cX10_look 133 = .ok (.iload_n 1, 1) := by decide +kernel
theorem dX10_look_134 : decode cX10_look 134 = .ok (.bipush 11, 2) := by decide +kernel
theorem dX10_look_136 : decode cX10_look 136 = .ok (.if_icmp .ne 8, 3) := by decide +kernel
theorem dX10_look_139 : decode cX10_look 139 = .ok (.aload_n 0, 1) := by decide +kernel
theorem dX10_look_140 : decode cX10_look 140 = .ok (.getfield 303, 3) := by decide +kernel
theorem dX10_look_143 : decode cX10_look 143 = .ok (.ireturn, 1) := by decide +kernel
theorem dX10_look_144 : decode cX10_look 144 = .ok (.iload_n 1, 1) := by decide +kernel
theorem dX10_look_145 : decode cX10_look 145 = .ok (.bipush 12, 2) := by decide +kernel
theorem dX10_look_147 : decode cX10_look 147 = .ok (.if_icmp .ne 10, 3) := by decide +kernel
theorem dX10_look_150 : decode cX10_look 150 = .ok (.aload_n 0, 1) := by decide +kernel
theorem dX10_look_151 : decode cX10_look 151 = .ok (.getfield 134, 3) := by decide +kernel
theorem dX10_look_154 : decode cX10_look 154 = .ok (.goto 6, 3) := by decide +kernel
theorem dX10_look_157 : decode cX10_look 157 = .ok (.ldc_w 498, 3) := by decide +kernel
theorem dX10_look_160 : decode cX10_look 160 = .ok (.ireturn, 1) := by decide +kernel
