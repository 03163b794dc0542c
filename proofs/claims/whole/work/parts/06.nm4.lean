theorem dX5_init_5 : decode cX5_init 5 = .ok (.bipush 63, 2) := by decide +kernel
theorem dX5_init_7 : decode cX5_init 7 = .ok (.newarray .char, 2) := by decide +kernel
theorem dX5_init_9 : decode cX5_init 9 = .ok (.dup, 1) := by decide +kernel
theorem dX5_init_10 : decode cX5_init 10 = .ok (.iconst 0, 1) := by decide +kernel
theorem dX5_init_11 : decode cX5_init 11 = .ok (.bipush 76, 2) := by decide +kernel
theorem dX5_init_13 : decode cX5_init 13 = .ok (.castore, 1) := by decide +kernel
theorem dX5_init_14 : decode cX5_init 14 = .ok (.dup, 1) := by decide +kernel
theorem dX5_init_15 : decode cX5_init 15 = .ok (.iconst 1, 1) := by decide +kernel
theorem dX5_init_16 : decode cX5_init 16 = .ok (.bipush 79, 2) := by decide +kernel
theorem dX5_init_18 : decode cX5_init 18 = .ok (.castore, 1) := by decide +kernel
theorem dX5_init_19 : decode cX5_init 19 = .ok (.dup, 1) := by decide +kernel
theorem dX5_init_20 : decode cX5_init 20 = .ok (.iconst 2, 1) := by decide +kernel
theorem dX5_init_21 : decode cX5_init 21 = .ok (.bipush 71, 2) := by decide +kernel
theorem dX5_init_23 : decode cX5_init 23 = .ok (.castore, 1) := by decide +kernel
theorem dX5_init_24 : decode cX5_init 24 = .ok (.dup, 1) := by decide +kernel
theorem dX5_init_25 : decode cX5_init 25 = .ok (.iconst 3, 1) := by decide +kernel
theorem dX5_init_26 : decode cX5_init 26 = .ok (.bipush 79, 2) := by decide +kernel
theorem dX5_init_28 : decode cX5_init 28 = .ok (.castore, 1) := by decide +kernel
theorem dX5_init_29 : decode cX5_init 29 = .ok (.dup, 1) := by decide +kernel
theorem dX5_init_30 : decode cX5_init 30 = .ok (.iconst 4, 1) := by decide +kernel
theorem dX5_init_31 : decode cX5_init 31 = .ok (.bipush 78, 2) := by decide +kernel
theorem dX5_init_33 : decode cX5_init 33 = .ok (.castore, 1) := by decide +kernel
theorem dX5_init_34 : decode cX5_init 34 = .ok (.dup, 1) := by decide +kernel
theorem dX5_init_35 : decode cX5_init 35 = .ok (.iconst 5, 1) := by decide +kernel
theorem dX5_init_36 : decode cX5_init 36 = .ok (.bipush 32, 2) := by decide +kernel
theorem dX5_init_38 : decode cX5_init 38 = .ok (.castore, 1) := by decide +kernel
theorem dX5_init_39 : decode cX5_init 39 = .ok (.dup, 1) := by decide +kernel
theorem dX5_init_40 : decode cX5_init 40 = .ok (.bipush 6, 2) := by decide +kernel
theorem dX5_init_42 : decode cX5_init 42 = .ok (.bipush 32, 2) := by decide +kernel
theorem dX5_init_44 : decode cX5_init 44 = .ok (.castore, 1) := by decide +kernel
theorem dX5_init_45 : decode cX5_init 45 = .ok (.dup, 1) := by decide +kernel
theorem dX5_init_46 : decode cX5_init 46 = .ok (.bipush 7, 2) := by decide +kernel
theorem dX5_init_48 : decode cX5_init 48 = .ok (.bipush 32, 2) := by decide +kernel
theorem dX5_init_50 : decode cX5_init 50 = .ok (.castore, 1) := by decide +kernel
theorem dX5_init_51 : decode cX5_init 51 = .ok (.dup, 1) := by decide +kernel
theorem dX5_init_52 : decode cX5_init 52 = .ok (.bipush 8, 2) := by decide +kernel
theorem dX5_init_54 : decode cX5_init 54 = .ok (.bipush 32, 2) := by decide +kernel
theorem dX5_init_56 : decode cX5_init 56 = .ok (.castore, 1) := by decide +kernel
theorem dX5_init_57 : decode cX5_init 57 = .ok (.dup, 1) := by decide +kernel
theorem dX5_init_58 : decode cX5_init 58 = .ok (.bipush 9, 2) := by decide +kernel
theorem dX5_init_60 : decode cX5_init 60 = .ok (.bipush 72, 2) := by decide +kernel
theorem dX5_init_62 : decode cX5_init 62 = .ok (.castore, 1) := by decide +kernel
theorem dX5_init_63 : decode cX5_init 63 = .ok (.dup, 1) := by decide +kernel
theorem dX5_init_64 : decode cX5_init 64 = .ok (.bipush 10, 2) := by decide +kernel
theorem dX5_init_66 : decode cX5_init 66 = .ok (.bipush 69, 2) := by decide +kernel
theorem dX5_init_68 : decode cX5_init 68 = .ok (.castore, 1) := by decide +kernel
theorem dX5_init_69 : decode cX5_init 69 = .ok (.dup, 1) := by decide +kernel
theorem dX5_init_70 : decode cX5_init 70 = .ok (.bipush 11, 2) := by decide +kernel
theorem dX5_init_72 : decode cX5_init 72 = .ok (.bipush 65, 2) := by decide +kernel
theorem dX5_init_74 : decode cX5_init 74 = .ok (.castore, 1) := by decide +kernel
theorem dX5_init_75 : decode cX5_init 75 = .ok (.dup, 1) := by decide +kernel
theorem dX5_init_76 : decode cX5_init 76 = .ok (.bipush 12, 2) := by decide +kernel
theorem dX5_init_78 : decode cX5_init 78 = .ok (.bipush 82, 2) := by decide +kernel
theorem dX5_init_80 : decode cX5_init 80 = .ok (.castore, 1) := by decide +kernel
theorem dX5_init_81 : decode cX5_init 81 = .ok (.dup, 1) := by decide +kernel
theorem dX5_init_82 : decode cX5_init 82 = .ok (.bipush 13, 2) := by decide +kernel
theorem dX5_init_84 : decode cX5_init 84 = .ok (.bipush 84, 2) := by decide +kernel
theorem dX5_init_86 : decode cX5_init 86 = .ok (.castore, 1) := by decide +kernel
theorem dX5_init_87 : decode cX5_init 87 = .ok (.dup, 1) := by decide +kernel
theorem dX5_init_88 : decode cX5_init 88 = .ok (.bipush 14, 2) := by decide +kernel
theorem dX5_init_90 : decode cX5_init 90 = .ok (.bipush 66, 2) := by decide +kernel
theorem dX5_init_92 : decode cX5_init 92 = .ok (.castore, 1) := by decide +kernel
theorem dX5_init_93 : decode cX5_init 93 = .ok (.dup, 1) := by decide +kernel
theorem dX5_init_94 : decode cX5_init 94 = .ok (.bipush 15, 2) := by decide +kernel
theorem dX5_init_96 : decode cX5_init 96 = .ok (.bipush 69, 2) := by decide +kernel
theorem dX5_init_98 : decode cX5_init 98 = .ok (.castore, 1) := by decide +kernel
theorem dX5_init_99 : decode cX5_init 99 = .ok (.dup, 1) := by decide +kernel
theorem dX5_init_100 : decode cX5_init 100 = .ok (.bipush 16, 2) := by decide +kernel
theorem dX5_init_102 : decode cX5_init 102 = .ok (.bipush 65, 2) := by decide +kernel
theorem dX5_init_104 : decode cX5_init 104 = .ok (.castore, 1) := by decide +kernel
theorem dX5_init_105 : decode cX5_init 105 = .ok (.dup, 1) := by decide +kernel
theorem dX5_init_106 : decode cX5_init 106 = .ok (.bipush 17, 2) := by decide +kernel
theorem dX5_init_108 : decode cX5_init 108 = .ok (.bipush 84, 2) := by decide +kernel
theorem dX5_init_110 : decode cX5_init 110 = .ok (.castore, 1) := by decide +kernel
theorem dX5_init_111 : decode cX5_init 111 = .ok (.dup, 1) := by decide +kernel
theorem dX5_init_112 : decode cX5_init 112 = .ok (.bipush 18, 2) := by decide +kernel
theorem dX5_init_114 : decode cX5_init 114 = .ok (.bipush 84, 2) := by decide +kernel
theorem dX5_init_116 : decode cX5_init 116 = .ok (.castore, 1) := by decide +kernel
theorem dX5_init_117 : decode cX5_init 117 = .ok (.dup, 1) := by decide +kernel
theorem dX5_init_118 : decode cX5_init 118 = .ok (.bipush 19, 2) := by decide +kernel
theorem dX5_init_120 : decode cX5_init 120 = .ok (.bipush 69, 2) := by decide +kernel
theorem dX5_init_122 : decode cX5_init 122 = .ok (.castore, 1) := by decide +kernel
theorem dX5_init_123 : decode cX5_init 123 = .ok (.dup, 1) := by decide +kernel
theorem dX5_init_124 : decode cX5_init 124 = .ok (.bipush 20, 2) := by decide +kernel
theorem dX5_init_126 : decode cX5_init 126 = .ok (.bipush 83, 2) := by decide +kernel
theorem dX5_init_128 : decode cX5_init 128 = .ok (.castore, 1) := by decide +kernel
theorem dX5_init_129 : decode cX5_init 129 = .ok (.dup, 1) := by decide +kernel
theorem dX5_init_130 : decode cX5_init 130 = .ok (.bipush 21, 2) := by decide +kernel
theorem dX5_init_132 : decode cX5_init 132 = .ok (.bipush 84, 2) := by decide +kernel
theorem dX5_init_134 : decode cX5_init 134 = .ok (.castore, 1) := by decide +kernel
theorem dX5_init_135 : decode cX5_init 135 = .ok (.dup, 1) := by decide +kernel
theorem dX5_init_136 : decode cX5_init 136 = .ok (.bipush 22, 2) := by decide +kernel
theorem dX5_init_138 : decode cX5_init 138 = .ok (.bipush 32, 2) := by decide +kernel
theorem dX5_init_140 : decode cX5_init 140 = .ok (.castore, 1) := by decide +kernel
theorem dX5_init_141 : decode cX5_init 141 = .ok (.dup, 1) := by decide +kernel
theorem dX5_init_142 : decode cX5_init 142 = .ok (.bipush 23, 2) := by decide +kernel
theorem dX5_init_144 : decode cX5_init 144 = .ok (.bipush 32, 2) := by decide +kernel
theorem dX5_init_146 : decode cX5_init 146 = .ok (.castore, 1) := by decide +kernel
theorem dX5_init_147 : decode cX5_init 147 = .ok (.dup, 1) := by decide +kernel
theorem dX5_init_148 : decode cX5_init 148 = .ok (.bipush 24, 2) := by decide +kernel
theorem dX5_init_150 : decode cX5_init 150 = .ok (.bipush 32, 2) := by decide +kernel
theorem dX5_init_152 : decode cX5_init 152 = .ok (.castore, 1) := by decide +kernel
theorem dX5_init_153 : decode cX5_init 153 = .ok (.dup, 1) := by decide +kernel
theorem dX5_init_154 : decode cX5_init 154 = .ok (.bipush 25, 2) := by decide +kernel
theorem dX5_init_156 : decode cX5_init 156 = .ok (.bipush 32, 2) := by decide +kernel
theorem dX5_init_158 : decode cX5_init 158 = .ok (.castore, 1) := by decide +kernel
theorem dX5_init_159 : decode cX5_init 159 = .ok (.dup, 1) := by decide +kernel
theorem dX5_init_160 : decode cX5_init 160 = .ok (.bipush 26, 2) := by decide +kernel
theorem dX5_init_162 : decode cX5_init 162 = .ok (.bipush 32, 2) := by decide +kernel
theorem dX5_init_164 : decode cX5_init 164 = .ok (.castore, 1) := by decide +kernel
theorem dX5_init_165 : decode cX5_init 165 = .ok (.dup, 1) := by decide +kernel
theorem dX5_init_166 : decode cX5_init 166 = .ok (.bipush 27, 2) := by decide +kernel
theorem dX5_init_168 : decode cX5_init 168 = .ok (.bipush 82, 2) := by decide +kernel
theorem dX5_init_170 : decode cX5_init 170 = .ok (.castore, 1) := by decide +kernel
theorem dX5_init_171 : decode cX5_init 171 = .ok (.dup, 1) := by decide +kernel
theorem dX5_init_172 : decode cX5_init 172 = .ok (.bipush 28, 2) := by decide +kernel
theorem dX5_init_174 : decode cX5_init 174 = .ok (.bipush 69, 2) := by decide +kernel
theorem dX5_init_176 : decode cX5_init 176 = .ok (.castore, 1) := by decide +kernel
theorem dX5_init_177 : decode cX5_init 177 = .ok (.dup, 1) := by decide +kernel
theorem dX5_init_178 : decode cX5_init 178 = .ok (.bipush 29, 2) := by decide +kernel
theorem dX5_init_180 : decode cX5_init 180 = .ok (.bipush 83, 2) := by decide +kernel
theorem dX5_init_182 : decode cX5_init 182 = .ok (.castore, 1) := by decide +kernel
theorem dX5_init_183 : decode cX5_init 183 = .ok (.dup, 1) := by decide +kernel
theorem dX5_init_184 : decode cX5_init 184 = .ok (.bipush 30, 2) := by decide +kernel
theorem dX5_init_186 : decode cX5_init 186 = .ok (.bipush 69, 2) := by decide +kernel
theorem dX5_init_188 : decode cX5_init 188 = .ok (.castore, 1) := by decide +kernel
theorem dX5_init_189 : decode cX5_init 189 = .ok (.dup, 1) := by decide +kernel
theorem dX5_init_190 : decode cX5_init 190 = .ok (.bipush 31, 2) := by decide +kernel
theorem dX5_init_192 : decode cX5_init 192 = .ok (.bipush 78, 2) := by decide +kernel
theorem dX5_init_194 : decode cX5_init 194 = .ok (.castore, 1) := by decide +kernel
theorem dX5_init_195 : decode cX5_init 195 = .ok (.dup, 1) := by decide +kernel
theorem dX5_init_196 : decode cX5_init 196 = .ok (.bipush 32, 2) := by decide +kernel
theorem dX5_init_198 : decode cX5_init 198 = .ok (.bipush 68, 2) := by decide +kernel
theorem dX5_init_200 : decode cX5_init 200 = .ok (.castore, 1) := by decide +kernel
theorem dX5_init_201 : decode cX5_init 201 = .ok (.dup, 1) := by decide +kernel
theorem dX5_init_202 : decode cX5_init 202 = .ok (.bipush 33, 2) := by decide +kernel
theorem dX5_init_204 : decode cX5_init 204 = .ok (.bipush 32, 2) := by decide +kernel
theorem dX5_init_206 : decode cX5_init 206 = .ok (.castore, 1) := by decide +kernel
theorem dX5_init_207 : decode cX5_init 207 = .ok (.dup, 1) := by decide +kernel
theorem dX5_init_208 : decode cX5_init 208 = .ok (.bipush 34, 2) := by decide +kernel
theorem dX5_init_210 : decode cX5_init 210 = .ok (.bipush 32, 2) := by decide +kernel
theorem dX5_init_212 : decode cX5_init 212 = .ok (.castore, 1) := by decide +kernel
theorem dX5_init_213 : decode cX5_init 213 = .ok (.dup, 1) := by decide +kernel
theorem dX5_init_214 : decode cX5_init 214 = .ok (.bipush 35, 2) := by decide +kernel
theorem dX5_init_216 : decode cX5_init 216 = .ok (.bipush 32, 2) := by decide +kernel
theorem dX5_init_218 : decode cX5_init 218 = .ok (.castore, 1) := by decide +kernel
theorem dX5_init_219 : decode cX5_init 219 = .ok (.dup, 1) := by decide +kernel
theorem dX5_init_220 : decode cX5_init 220 = .ok (.bipush 36, 2) := by decide +kernel
theorem dX5_init_222 : decode cX5_init 222 = .ok (.bipush 70, 2) := by decide +kernel
theorem dX5_init_224 : decode cX5_init 224 = .ok (.castore, 1) := by decide +kernel
theorem dX5_init_225 : decode cX5_init 225 = .ok (.dup, 1) := by decide +kernel
theorem dX5_init_226 : decode cX5_init 226 = .ok (.bipush 37, 2) := by decide +kernel
theorem dX5_init_228 : decode cX5_init 228 = .ok (.bipush 73, 2) := by decide +kernel
theorem dX5_init_230 : decode cX5_init 230 = .ok (.castore, 1) := by decide +kernel
theorem dX5_init_231 : decode cX5_init 231 = .ok (.dup, 1) := by decide +kernel
theorem dX5_init_232 : decode cX5_init 232 = .ok (.bipush 38, 2) := by decide +kernel
theorem dX5_init_234 : decode cX5_init 234 = .ok (.bipush 76, 2) := by decide +kernel
theorem dX5_init_236 : decode cX5_init 236 = .ok (.castore, 1) := by decide +kernel
theorem dX5_init_237 : decode cX5_init 237 = .ok (.dup, 1) := by decide +kernel
theorem dX5_init_238 : decode cX5_init 238 = .ok (.bipush 39, 2) := by decide +kernel
theorem dX5_init_240 : decode cX5_init 240 = .ok (.bipush 76, 2) := by decide +kernel
theorem dX5_init_242 : decode cX5_init 242 = .ok (.castore, 1) := by decide +kernel
theorem dX5_init_243 : decode cX5_init 243 = .ok (.dup, 1) := by decide +kernel
theorem dX5_init_244 : decode cX5_init 244 = .ok (.bipush 40, 2) := by decide +kernel
theorem dX5_init_246 : decode cX5_init 246 = .ok (.bipush 32, 2) := by decide +kernel
theorem dX5_init_248 : decode cX5_init 248 = .ok (.castore, 1) := by decide +kernel
theorem dX5_init_249 : decode cX5_init 249 = .ok (.dup, 1) := by decide +kernel
theorem dX5_init_250 : decode cX5_init 250 = .ok (.bipush 41, 2) := by decide +kernel
theorem dX5_init_252 : decode cX5_init 252 = .ok (.bipush 32, 2) := by decide +kernel
theorem dX5_init_254 : decode cX5_init 254 = .ok (.castore, 1) := by decide +kernel
theorem dX5_init_255 : decode cX5_init 255 = .ok (.dup, 1) := by decide +kernel
theorem dX5_init_256 : decode cX5_init 256 = .ok (.bipush 42, 2) := by decide +kernel
theorem dX5_init_258 : decode cX5_init 258 = .ok (.bipush 32, 2) := by decide +kernel
theorem dX5_init_260 : decode cX5_init 260 = .ok (.castore, 1) := by decide +kernel
theorem dX5_init_261 : decode cX5_init 261 = .ok (.dup, 1) := by decide +kernel
theorem dX5_init_262 : decode cX5_init 262 = .ok (.bipush 43, 2) := by decide +kernel
theorem dX5_init_264 : decode cX5_init 264 = .ok (.bipush 32, 2) := by decide +kernel
theorem dX5_init_266 : decode cX5_init 266 = .ok (.castore, 1) := by decide +kernel
theorem dX5_init_267 : decode cX5_init 267 = .ok (.dup, 1) := by decide +kernel
theorem dX5_init_268 : decode cX5_init 268 = .ok (.bipush 44, 2) := by decide +kernel
theorem dX5_init_270 : decode cX5_init 270 = .ok (.bipush 32, 2) := by decide +kernel
theorem dX5_init_272 : decode cX5_init 272 = .ok (.castore, 1) := by decide +kernel
theorem dX5_init_273 : decode cX5_init 273 = .ok (.dup, 1) := by decide +kernel
theorem dX5_init_274 : decode cX5_init 274 = .ok (.bipush 45, 2) := by decide +kernel
theorem dX5_init_276 : decode cX5_init 276 = .ok (.bipush 66, 2) := by decide +kernel
theorem dX5_init_278 : decode cX5_init 278 = .ok (.castore, 1) := by decide +kernel
theorem dX5_init_279 : decode cX5_init 279 = .ok (.dup, 1) := by decide +kernel
theorem dX5_init_280 : decode cX5_init 280 = .ok (.bipush 46, 2) := by decide +kernel
theorem dX5_init_282 : decode cX5_init 282 = .ok (.bipush 85, 2) := by decide +kernel
theorem dX5_init_284 : decode cX5_init 284 = .ok (.castore, 1) := by decide +kernel
theorem dX5_init_285 : decode cX5_init 285 = .ok (.dup, 1) := by decide +kernel
theorem dX5_init_286 : decode cX5_init 286 = .ok (.bipush 47, 2) := by decide +kernel
theorem dX5_init_288 : decode cX5_init 288 = .ok (.bipush 83, 2) := by decide +kernel
theorem dX5_init_290 : decode cX5_init 290 = .ok (.castore, 1) := by decide +kernel
theorem dX5_init_291 : decode cX5_init 291 = .ok (.dup, 1) := by decide +kernel
theorem dX5_init_292 : decode cX5_init 292 = .ok (.bipush 48, 2) := by decide +kernel
theorem dX5_init_294 : decode cX5_init 294 = .ok (.bipush 73, 2) := by decide +kernel
theorem dX5_init_296 : decode cX5_init 296 = .ok (.castore, 1) := by decide +kernel
theorem dX5_init_297 : decode cX5_init 297 = .ok (.dup, 1) := by decide +kernel
theorem dX5_init_298 : decode cX5_init 298 = .ok (.bipush 49, 2) := by decide +kernel
theorem dX5_init_300 : decode cX5_init 300 = .ok (.bipush 78, 2) := by decide +kernel
theorem dX5_init_302 : decode cX5_init 302 = .ok (.castore, 1) := by decide +kernel
theorem dX5_init_303 : decode cX5_init 303 = .ok (.dup, 1) := by decide +kernel
theorem dX5_init_304 : decode cX5_init 304 = .ok (.bipush 50, 2) := by decide +kernel
theorem dX5_init_306 : decode cX5_init 306 = .ok (.bipush 69, 2) := by decide +kernel
theorem dX5_init_308 : decode cX5_init 308 = .ok (.castore, 1) := by decide +kernel
theorem dX5_init_309 : decode cX5_init 309 = .ok (.dup, 1) := by decide +kernel
theorem dX5_init_310 : decode cX5_init 310 = .ok (.bipush 51, 2) := by decide +kernel
theorem dX5_init_312 : decode cX5_init 312 = .ok (.bipush 83, 2) := by decide +kernel
theorem dX5_init_314 : decode cX5_init 314 = .ok (.castore, 1) := by decide +kernel
theorem dX5_init_315 : decode cX5_init 315 = .ok (.dup, 1) := by decide +kernel
theorem dX5_init_316 : decode cX5_init 316 = .ok (.bipush 52, 2) := by decide +kernel
theorem dX5_init_318 : decode cX5_init 318 = .ok (.bipush 83, 2) := by decide +kernel
theorem dX5_init_320 : decode cX5_init 320 = .ok (.castore, 1) := by decide +kernel
theorem dX5_init_321 : decode cX5_init 321 = .ok (.dup, 1) := by decide +kernel
theorem dX5_init_322 : decode cX5_init 322 = .ok (.bipush 53, 2) := by decide +kernel
theorem dX5_init_324 : decode cX5_init 324 = .ok (.bipush 32, 2) := by decide +kernel
theorem dX5_init_326 : decode cX5_init 326 = .ok (.castore, 1) := by decide +kernel
theorem dX5_init_327 : decode cX5_init 327 = .ok (.dup, 1) := by decide +kernel
theorem dX5_init_328 : decode cX5_init 328 = .ok (.bipush 54, 2) := by decide +kernel
theorem dX5_init_330 : decode cX5_init 330 = .ok (.bipush 76, 2) := by decide +kernel
theorem dX5_init_332 : decode cX5_init 332 = .ok (.castore, 1) := by decide +kernel
theorem dX5_init_333 : decode cX5_init 333 = .ok (.dup, 1) := by decide +kernel
theorem dX5_init_334 : decode cX5_init 334 = .ok (.bipush 55, 2) := by decide +kernel
theorem dX5_init_336 : decode cX5_init 336 = .ok (.bipush 79, 2) := by decide +kernel
theorem dX5_init_338 : decode cX5_init 338 = .ok (.castore, 1) := by decide +kernel
theorem dX5_init_339 : decode cX5_init 339 = .ok (.dup, 1) := by decide +kernel
theorem dX5_init_340 : decode cX5_init 340 = .ok (.bipush 56, 2) := by decide +kernel
theorem dX5_init_342 : decode cX5_init 342 = .ok (.bipush 71, 2) := by decide +kernel
theorem dX5_init_344 : decode cX5_init 344 = .ok (.castore, 1) := by decide +kernel
theorem dX5_init_345 : decode cX5_init 345 = .ok (.dup, 1) := by decide +kernel
theorem dX5_init_346 : decode cX5_init 346 = .ok (.bipush 57, 2) := by decide +kernel
theorem dX5_init_348 : decode cX5_init 348 = .ok (.bipush 79, 2) := by decide +kernel
theorem dX5_init_350 : decode cX5_init 350 = .ok (.castore, 1) := by decide +kernel
theorem dX5_init_351 : decode cX5_init 351 = .ok (.dup, 1) := by decide +kernel
theorem dX5_init_352 : decode cX5_init 352 = .ok (.bipush 58, 2) := by decide +kernel
theorem dX5_init_354 : decode cX5_init 354 = .ok (.bipush 85, 2) := by decide +kernel
theorem dX5_init_356 : decode cX5_init 356 = .ok (.castore, 1) := by decide +kernel
theorem dX5_init_357 : decode cX5_init 357 = .ok (.dup, 1) := by decide +kernel
theorem dX5_init_358 : decode cX5_init 358 = .ok (.bipush 59, 2) := by decide +kernel
theorem dX5_init_360 : decode cX5_init 360 = .ok (.bipush 84, 2) := by decide +kernel
theorem dX5_init_362 : decode cX5_init 362 = .ok (.castore, 1) := by decide +kernel
theorem dX5_init_363 : decode cX5_init 363 = .ok (.dup, 1) := by decide +kernel
theorem dX5_init_364 : decode cX5_init 364 = .ok (.bipush 60, 2) := by decide +kernel
theorem dX5_init_366 : decode cX5_init 366 = .ok (.bipush 32, 2) := by decide +kernel
theorem dX5_init_368 : decode cX5_init 368 = .ok (.castore, 1) := by decide +kernel
theorem dX5_init_369 : decode cX5_init 369 = .ok (.dup, 1) := by decide +kernel
theorem dX5_init_370 : decode cX5_init 370 = .ok (.bipush 61, 2) := by decide +kernel
theorem dX5_init_372 : decode cX5_init 372 = .ok (.bipush 32, 2) := by decide +kernel
theorem dX5_init_374 : decode cX5_init 374 = .ok (.castore, 1) := by decide +kernel
theorem dX5_init_375 : decode cX5_init 375 = .ok (.dup, 1) := by decide +kernel
theorem dX5_init_376 : decode cX5_init 376 = .ok (.bipush 62, 2) := by decide +kernel
theorem dX5_init_378 : decode cX5_init 378 = .ok (.bipush 32, 2) := by decide +kernel
theorem dX5_init_380 : decode cX5_init 380 = .ok (.castore, 1) := by decide +kernel
theorem dX5_init_381 : decode cX5_init 381 = .ok (.putfield 7, 3) := by decide +kernel
theorem dX5_init_384 : decode cX5_init 384 = .ok (.aload_n 0, 1) := by decide +kernel
theorem dX5_init_385 : decode cX5_init 385 = .ok (.iconst 2, 1) := by decide +kernel
theorem dX5_init_386 : decode cX5_init 386 = .ok (.newarray .int, 2) := by decide +kernel
theorem dX5_init_388 : decode cX5_init 388 = .ok (.putfield 13, 3) := by decide +kernel
theorem dX5_init_391 : decode cX5_init 391 = .ok (.aload_n 0, 1) := by decide +kernel
theorem dX5_init_392 : decode cX5_init 392 = .ok (.iconst 2, 1) := by decide +kernel
theorem dX5_init_393 : decode cX5_init 393 = .ok (.newarray .int, 2) := by decide +kernel
theorem dX5_init_395 : decode cX5_init 395 = .ok (.putfield 17, 3) := by decide +kernel
theorem dX5_init_398 : decode cX5_init 398 = .ok (.aload_n 0, 1) := by decide +kernel
theorem dX5_init_399 : decode cX5_init 399 = .ok (.iconst 2, 1) := by decide +kernel
theorem dX5_init_400 : decode cX5_init 400 = .ok (.newarray .int, 2) := by decide +kernel
theorem dX5_init_402 : decode cX5_init 402 = .ok (.putfield 20, 3) := by decide +kernel
theorem dX5_init_405 : decode cX5_init 405 = .ok (.aload_n 0, 1) := by decide +kernel
theorem dX5_init_406 : decode cX5_init 406 = .ok (.sipush 402, 3) := by decide +kernel
theorem dX5_init_409 : decode cX5_init 409 = .ok (.newarray .int, 2) := by decide +kernel
theorem dX5_init_411 : decode cX5_init 411 = .ok (.putfield 23, 3) := by decide +kernel
theorem dX5_init_414 : decode cX5_init 414 = .ok (.aload_n 0, 1) := by decide +kernel
theorem dX5_init_415 : decode cX5_init 415 = .ok (.sipush 402, 3) := by decide +kernel
theorem dX5_init_418 : decode cX5_init 418 = .ok (.newarray .int, 2) := by decide +kernel
theorem dX5_init_420 : decode cX5_init 420 = .ok (.putfield 26, 3) := by decide +kernel
theorem dX5_init_423 : decode cX5_init 423 = .ok (.aload_n 0, 1) := by decide +kernel
theorem dX5_init_424 : decode cX5_init 424 = .ok (.sipush 402, 3) := by decide +kernel
theorem dX5_init_427 : decode cX5_init 427 = .ok (.newarray .int, 2) := by decide +kernel
theorem dX5_init_429 : decode cX5_init 429 = .ok (.putfield 29, 3) := by decide +kernel
theorem dX5_init_432 : decode cX5_init 432 = .ok (.aload_n 0, 1) := by decide +kernel
theorem dX5_init_433 : decode cX5_init 433 = .ok (.sipush 402, 3) := by decide +kernel
theorem dX5_init_436 : decode cX5_init 436 = .ok (.newarray .int, 2) := by decide +kernel
theorem dX5_init_438 : decode cX5_init 438 = .ok (.putfield 32, 3) := by decide +kernel
theorem dX5_init_441 : decode cX5_init 441 = .ok (.aload_n 0, 1) := by decide +kernel
theorem dX5_init_442 : decode cX5_init 442 = .ok (.iconst 2, 1) := by decide +kernel
theorem dX5_init_443 : decode cX5_init 443 = .ok (.newarray .int, 2) := by decide +kernel
theorem dX5_init_445 : decode cX5_init 445 = .ok (.putfield 35, 3) := by decide +kernel
theorem dX5_init_448 : decode cX5_init 448 = .ok (.aload_n 0, 1) := by decide +kernel
theorem dX5_init_449 : decode cX5_init 449 = .ok (.iconst 2, 1) := by decide +kernel
theorem dX5_init_450 : decode cX5_init 450 = .ok (.newarray .int, 2) := by decide +kernel
theorem dX5_init_452 : decode cX5_init 452 = .ok (.putfield 38, 3) := by decide +kernel
theorem dX5_init_455 : decode cX5_init 455 = .ok (.aload_n 0, 1) := by decide +kernel
theorem dX5_init_456 : decode cX5_init 456 = .ok (.iconst 2, 1) := by decide +kernel
theorem dX5_init_457 : decode cX5_init 457 = .ok (.newarray .boolean, 2) := by decide +kernel
theorem dX5_init_459 : decode cX5_init 459 = .ok (.putfield 41, 3) := by decide +kernel
theorem dX5_init_462 : decode cX5_init 462 = .ok (.aload_n 0, 1) := by decide +kernel
theorem dX5_init_463 : decode cX5_init 463 = .ok (.iconst 2, 1) := by decide +kernel
theorem dX5_init_464 : decode cX5_init 464 = .ok (.newarray .int, 2) := by decide +kernel
theorem dX5_init_466 : decode cX5_init 466 = .ok (.putfield 45, 3) := by decide +kernel
theorem dX5_init_469 : decode cX5_init 469 = .ok (.aload_n 0, 1) := by decide +kernel
theorem dX5_init_470 : decode cX5_init 470 = .ok (.iconst 2, 1) := by decide +kernel
theorem dX5_init_471 : decode cX5_init 471 = .ok (.newarray .int, 2) := by decide +kernel
theorem dX5_init_473 : decode cX5_init 473 = .ok (.putfield 48, 3) := by decide +kernel
theorem dX5_init_476 : decode cX5_init 476 = .ok (.aload_n 0, 1) := by decide +kernel
theorem dX5_init_477 : decode cX5_init 477 = .ok (.iconst 2, 1) := by decide +kernel
theorem dX5_init_478 : decode cX5_init 478 = .ok (.newarray .boolean, 2) := by decide +kernel
theorem dX5_init_480 : decode cX5_init 480 = .ok (.putfield 51, 3) := by decide +kernel
theorem dX5_init_483 : decode cX5_init 483 = .ok (.aload_n 0, 1) := by decide +kernel
theorem dX5_init_484 : decode cX5_init 484 = .ok (.iconst 2, 1) := by decide +kernel
theorem dX5_init_485 : decode cX5_init 485 = .ok (.newarray .int, 2) := by decide +kernel
theorem dX5_init_487 : decode cX5_init 487 = .ok (.putfield 54, 3) := by decide +kernel
theorem dX5_init_490 : decode cX5_init 490 = .ok (.aload_n 0, 1) := by decide +kernel
theorem dX5_init_491 : decode cX5_init 491 = .ok (.iconst 2, 1) := by decide +kernel
theorem dX5_init_492 : decode cX5_init 492 = .ok (.newarray .int, 2) := by decide +kernel
theorem dX5_init_494 : decode cX5_init 494 = .ok (.putfield 57, 3) := by decide +kernel
theorem dX5_init_497 : decode cX5_init 497 = .ok (.aload_n 0, 1) := by decide +kernel
theorem dX5_init_498 : decode cX5_init 498 = .ok (.bipush 120, 2) := by decide +kernel
theorem dX5_init_500 : decode cX5_init 500 = .ok (.newarray .int, 2) := by decide +kernel
theorem dX5_init_502 : decode cX5_init 502 = .ok (.putfield 60, 3) := by decide +kernel
theorem dX5_init_505 : decode cX5_init 505 = .ok (.aload_n 0, 1) := by decide +kernel
theorem dX5_init_506 : decode cX5_init 506 = .ok (.bipush 120, 2) := by decide +kernel
theorem dX5_init_508 : decode cX5_init 508 = .ok (.newarray .int, 2) := by decide +kernel
theorem dX5_init_510 : decode cX5_init 510 = .ok (.putfield 63, 3) := by decide +kernel
theorem dX5_init_513 : decode cX5_init 513 = .ok (.aload_n 0, 1) := by decide +kernel
theorem dX5_init_514 : decode cX5_init 514 = .ok (.bipush 120, 2) := by decide +kernel
theorem dX5_init_516 : decode cX5_init 516 = .ok (.newarray .int, 2) := by decide +kernel
theorem dX5_init_518 : decode cX5_init 518 = .ok (.putfield 66, 3) := by decide +kernel
theorem dX5_init_521 : decode cX5_init 521 = .ok (.aload_n 0, 1) := by decide +kernel
theorem dX5_init_522 : decode cX5_init 522 = .ok (.bipush 120, 2) := by decide +kernel
theorem dX5_init_524 : decode cX5_init 524 = .ok (.newarray .int, 2) := by decide +kernel
theorem dX5_init_526 : decode cX5_init 526 = .ok (.putfield 69, 3) := by decide +kernel
theorem dX5_init_529 : decode cX5_init 529 = .ok (.aload_n 0, 1) := by decide +kernel
theorem dX5_init_530 : decode cX5_init 530 = .ok (.invokevirtual 72, 3) := by decide +kernel
theorem dX5_init_533 : decode cX5_init 533 = .ok (.return_, 1) := by decide +kernel
theorem dX5_thrown_0 : decode cX5_thrown 0 = .ok (.aload_n 0, 1) := by decide +kernel
theorem dX5_thrown_1 : decode cX5_thrown 1 = .ok (.getfield 75, 3) := by decide +kernel
theorem dX5_thrown_4 : decode cX5_thrown 4 = .ok (.ireturn, 1) := by decide +kernel
theorem dX5_holds_0 : decode cX5_holds 0 = .ok (.aload_n 0, 1) := by decide +kernel
theorem dX5_holds_1 : decode cX5_holds 1 = .ok (.iload_n 1, 1) := by decide +kernel
theorem dX5_holds_2 : decode cX5_holds 2 = .ok (.putfield 75, 3) := by decide +kernel
theorem dX5_holds_5 : decode cX5_holds 5 = .ok (.iload_n 1, 1) := by decide +kernel
theorem dX5_holds_6 : decode cX5_holds 6 = .ok (.ifCond .ne 7, 3) := by decide +kernel
theorem dX5_holds_9 : decode cX5_holds 9 = .ok (.iconst 1, 1) := by decide +kernel
theorem dX5_holds_10 : decode cX5_holds 10 = .ok (.goto 4, 3) := by decide +kernel
theorem dX5_holds_13 : decode cX5_holds 13 = .ok (.iconst 0, 1) := by decide +kernel
theorem dX5_holds_14 : decode cX5_holds 14 = .ok (.ireturn, 1) := by decide +kernel
theorem dX5_in_0 : decode cX5_in 0 = .ok (.iload_n 0, 1) := by decide +kernel
theorem dX5_in_1 : decode cX5_in 1 = .ok (.iload_n 1, 1) := by decide +kernel
theorem dX5_in_2 : decode cX5_in 2 = .ok (.if_icmp .lt 12, 3) := by decide +kernel
theorem dX5_in_5 : decode cX5_in 5 = .ok (.iload_n 0, 1) := by decide +kernel
theorem dX5_in_6 : decode cX5_in 6 = .ok (.iload_n 2, 1) := by decide +kernel
theorem dX5_in_7 : decode cX5_in 7 = .ok (.if_icmp .gt 7, 3) := by decide +kernel
theorem dX5_in_10 : decode cX5_in 10 = .ok (.iconst 1, 1) := by decide +kernel
theorem dX5_in_11 : decode cX5_in 11 = .ok (.goto 4, 3) := by decide +kernel
theorem dX5_in_14 : decode cX5_in 14 = .ok (.iconst 0, 1) := by decide +kernel
theorem dX5_in_15 : decode cX5_in 15 = .ok (.ireturn, 1) := by decide +kernel
set_option maxRecDepth 20000 in
theorem ggX5_isSide_X5_in : GoodIn wsX5_isSide wsX5_in := goodIn_r _ [4] (by decide +kernel) (by decide +kernel)
set_option maxRecDepth 20000 in
theorem gX5_isSide_X5_in : GoodIn wsX5_isSide (va_wsS RX5 79 yX5_in wsX5_in) := goodIn_app (goodIn_of _ (by decide +kernel)) ggX5_isSide_X5_in
theorem dX5_isSide_0 : decode cX5_isSide 0 = .ok (.iload_n 0, 1) := by decide +kernel
theorem dX5_isSide_1 : decode cX5_isSide 1 = .ok (.iconst 0, 1) := by decide +kernel
theorem dX5_isSide_2 : decode cX5_isSide 2 = .ok (.iconst 1, 1) := by decide +kernel
theorem dX5_isSide_3 : decode cX5_isSide 3 = .ok (.invokestatic 79, 3) := by decide +kernel
theorem dX5_isSide_6 : decode cX5_isSide 6 = .ok (.ireturn, 1) := by decide +kernel
theorem dX5_has_0 : decode cX5_has 0 = .ok (.iload_n 0, 1) := by decide +kernel
theorem dX5_has_1 : decode cX5_has 1 = .ok (.iload_n 1, 1) := by decide +kernel
theorem dX5_has_2 : decode cX5_has 2 = .ok (.iand, 1) := by decide +kernel
theorem dX5_has_3 : decode cX5_has 3 = .ok (.ifCond .eq 7, 3) := by decide +kernel
theorem dX5_has_6 : decode cX5_has 6 = .ok (.iconst 1, 1) := by decide +kernel
theorem dX5_has_7 : decode cX5_has 7 = .ok (.goto 4, 3) := by decide +kernel
theorem dX5_has_10 : decode cX5_has 10 = .ok (.iconst 0, 1) := by decide +kernel
theorem dX5_has_11 : decode cX5_has 11 = .ok (.ireturn, 1) := by decide +kernel
theorem dX5_empties_0 : decode cX5_empties 0 = .ok (.iconst 0, 1) := by decide +kernel
theorem dX5_empties_1 : decode cX5_empties 1 = .ok (.istore_n 1, 1) := by decide +kernel
theorem dX5_empties_2 : decode cX5_empties 2 = .ok (.iload_n 1, 1) := by decide +kernel
theorem dX5_empties_3 : decode cX5_empties 3 = .ok (.iconst 2, 1) := by decide +kernel
theorem dX5_empties_4 : decode cX5_empties 4 = .ok (.if_icmp .ge 44, 3) := by decide +kernel
theorem dX5_empties_7 : decode cX5_empties 7 = .ok (.aload_n 0, 1) := by decide +kernel
theorem dX5_empties_8 : decode cX5_empties 8 = .ok (.getfield 17, 3) := by decide +kernel
theorem dX5_empties_11 : decode cX5_empties 11 = .ok (.iload_n 1, 1) := by decide +kernel
theorem dX5_empties_12 : decode cX5_empties 12 = .ok (.iconst 1, 1) := by decide +kernel
theorem dX5_empties_13 : decode cX5_empties 13 = .ok (.iastore, 1) := by decide +kernel
theorem dX5_empties_14 : decode cX5_empties 14 = .ok (.aload_n 0, 1) := by decide +kernel
theorem dX5_empties_15 : decode cX5_empties 15 = .ok (.getfield 20, 3) := by decide +kernel
theorem dX5_empties_18 : decode cX5_empties 18 = .ok (.iload_n 1, 1) := by decide +kernel
theorem dX5_empties_19 : decode cX5_empties 19 = .ok (.iconst 1, 1) := by decide +kernel
theorem dX5_empties_20 : decode cX5_empties 20 = .ok (.iastore, 1) := by decide +kernel
theorem dX5_empties_21 : decode cX5_empties 21 = .ok (.aload_n 0, 1) := by decide +kernel
theorem dX5_empties_22 : decode cX5_empties 22 = .ok (.getfield 35, 3) := by decide +kernel
theorem dX5_empties_25 : decode cX5_empties 25 = .ok (.iload_n 1, 1) := by decide +kernel
theorem dX5_empties_26 : decode cX5_empties 26 = .ok (.iconst 0, 1) := by decide +kernel
theorem dX5_empties_27 : decode cX5_empties 27 = .ok (.iastore, 1) := by decide +kernel
theorem dX5_empties_28 : decode cX5_empties 28 = .ok (.aload_n 0, 1) := by decide +kernel
theorem dX5_empties_29 : decode cX5_empties 29 = .ok (.getfield 38, 3) := by decide +kernel
theorem dX5_empties_32 : decode cX5_empties 32 = .ok (.iload_n 1, 1) := by decide +kernel
theorem dX5_empties_33 : decode cX5_empties 33 = .ok (.iconst 0, 1) := by decide +kernel
theorem dX5_empties_34 : decode cX5_empties 34 = .ok (.iastore, 1) := by decide +kernel
theorem dX5_empties_35 : decode cX5_empties 35 = .ok (.aload_n 0, 1) := by decide +kernel
theorem dX5_empties_36 : decode cX5_empties 36 = .ok (.getfield 57, 3) := by decide +kernel
theorem dX5_empties_39 : decode cX5_empties 39 = .ok (.iload_n 1, 1) := by decide +kernel
theorem dX5_empties_40 : decode cX5_empties 40 = .ok (.iconst 0, 1) := by decide +kernel
theorem dX5_empties_41 : decode cX5_empties 41 = .ok (.iastore, 1) := by decide +kernel
theorem dX5_empties_42 : decode cX5_empties 42 = .ok (.iinc 1 1, 3) := by decide +kernel
theorem dX5_empties_45 : decode cX5_empties 45 = .ok (.goto (-43), 3) := by decide +kernel
theorem dX5_empties_48 : decode cX5_empties 48 = .ok (.return_, 1) := by decide +kernel
theorem dX5_puts_0 : decode cX5_puts 0 = .ok (.iconst 1, 1) := by decide +kernel
theorem dX5_puts_1 : decode cX5_puts 1 = .ok (.iload_n 1, 1) := by decide +kernel
theorem dX5_puts_2 : decode cX5_puts 2 = .ok (.isub, 1) := by decide +kernel
theorem dX5_puts_3 : decode cX5_puts 3 = .ok (.istore 6, 2) := by decide +kernel
theorem dX5_puts_5 : decode cX5_puts 5 = .ok (.aload_n 0, 1) := by decide +kernel
theorem dX5_puts_6 : decode cX5_puts 6 = .ok (.getfield 54, 3) := by decide +kernel
theorem dX5_puts_9 : decode cX5_puts 9 = .ok (.iload_n 1, 1) := by decide +kernel
theorem dX5_puts_10 : decode cX5_puts 10 = .ok (.aload_n 0, 1) := by decide +kernel
theorem dX5_puts_11 : decode cX5_puts 11 = .ok (.getfield 83, 3) := by decide +kernel
theorem dX5_puts_14 : decode cX5_puts 14 = .ok (.iastore, 1) := by decide +kernel
theorem dX5_puts_15 : decode cX5_puts 15 = .ok (.aload_n 0, 1) := by decide +kernel
theorem dX5_puts_16 : decode cX5_puts 16 = .ok (.getfield 57, 3) := by decide +kernel
theorem dX5_puts_19 : decode cX5_puts 19 = .ok (.iload 6, 2) := by decide +kernel
theorem dX5_puts_21 : decode cX5_puts 21 = .ok (.iaload, 1) := by decide +kernel
theorem dX5_puts_22 : decode cX5_puts 22 = .ok (.bipush 60, 2) := by decide +kernel
theorem dX5_puts_24 : decode cX5_puts 24 = .ok (.if_icmp .ge 63, 3) := by decide +kernel
theorem dX5_puts_27 : decode cX5_puts 27 = .ok (.bipush 60, 2) := by decide +kernel
theorem dX5_puts_29 : decode cX5_puts 29 = .ok (.iload 6, 2) := by decide +kernel
theorem dX5_puts_31 : decode cX5_puts 31 = .ok (.imul, 1) := by decide +kernel
theorem dX5_puts_32 : decode cX5_puts 32 = .ok (.aload_n 0, 1) := by decide +kernel
theorem dX5_puts_33 : decode cX5_puts 33 = .ok (.getfield 57, 3) := by decide +kernel
theorem dX5_puts_36 : decode cX5_puts 36 = .ok (.iload 6, 2) := by decide +kernel
theorem dX5_puts_38 : decode cX5_puts 38 = .ok (.iaload, 1) := by decide +kernel
theorem dX5_puts_39 : decode cX5_puts 39 = .ok (.iadd, 1) := by decide +kernel
theorem dX5_puts_40 : decode cX5_puts 40 = .ok (.istore 7, 2) := by decide +kernel
theorem dX5_puts_42 : decode cX5_puts 42 = .ok (.aload_n 0, 1) := by decide +kernel
theorem dX5_puts_43 : decode cX5_puts 43 = .ok (.getfield 60, 3) := by decide +kernel
theorem dX5_puts_46 : decode cX5_puts 46 = .ok (.iload 7, 2) := by decide +kernel
theorem dX5_puts_48 : decode cX5_puts 48 = .ok (.iload_n 2, 1) := by decide +kernel
theorem dX5_puts_49 : decode cX5_puts 49 = .ok (.iastore, 1) := by decide +kernel
theorem dX5_puts_50 : decode cX5_puts 50 = .ok (.aload_n 0, 1) := by decide +kernel
theorem dX5_puts_51 : decode cX5_puts 51 = .ok (.getfield 63, 3) := by decide +kernel
theorem dX5_puts_54 : decode cX5_puts 54 = .ok (.iload 7, 2) := by decide +kernel
theorem dX5_puts_56 : decode cX5_puts 56 = .ok (.iload_n 3, 1) := by decide +kernel
theorem dX5_puts_57 : decode cX5_puts 57 = .ok (.iastore, 1) := by decide +kernel
theorem dX5_puts_58 : decode cX5_puts 58 = .ok (.aload_n 0, 1) := by decide +kernel
theorem dX5_puts_59 : decode cX5_puts 59 = .ok (.getfield 66, 3) := by decide +kernel
theorem dX5_puts_62 : decode cX5_puts 62 = .ok (.iload 7, 2) := by decide +kernel
theorem dX5_puts_64 : decode cX5_puts 64 = .ok (.iload 4, 2) := by decide +kernel
theorem dX5_puts_66 : decode cX5_puts 66 = .ok (.iastore, 1) := by decide +kernel
theorem dX5_puts_67 : decode cX5_puts 67 = .ok (.aload_n 0, 1) := by decide +kernel
theorem dX5_puts_68 : decode cX5_puts 68 = .ok (.getfield 69, 3) := by decide +kernel
theorem dX5_puts_71 : decode cX5_puts 71 = .ok (.iload 7, 2) := by decide +kernel
theorem dX5_puts_73 : decode cX5_puts 73 = .ok (.iload 5, 2) := by decide +kernel
theorem dX5_puts_75 : decode cX5_puts 75 = .ok (.iastore, 1) := by decide +kernel
theorem dX5_puts_76 : decode cX5_puts 76 = .ok (.aload_n 0, 1) := by decide +kernel
theorem dX5_puts_77 : decode cX5_puts 77 = .ok (.getfield 57, 3) := by decide +kernel
theorem dX5_puts_80 : decode cX5_puts 80 = .ok (.iload 6, 2) := by decide +kernel
theorem dX5_puts_82 : decode cX5_puts 82 = .ok (.dup2, 1) := by decide +kernel
theorem dX5_puts_83 : decode cX5_puts 83 = .ok (.iaload, 1) := by decide +kernel
theorem dX5_puts_84 : decode cX5_puts 84 = .ok (.iconst 1, 1) := by decide +kernel
theorem dX5_puts_85 : decode cX5_puts 85 = .ok (.iadd, 1) := by decide +kernel
theorem dX5_puts_86 : decode cX5_puts 86 = .ok (.iastore, 1) := by decide +kernel
theorem dX5_puts_87 : decode cX5_puts 87 = .ok (.return_, 1) := by decide +kernel
set_option maxRecDepth 20000 in
theorem ggX5_sends_X5_puts : GoodIn wsX5_sends wsX5_puts := goodIn_r _ [9, 10, 11, 12, 13, 14, 15, 16, 17, 18, 19, 20, 21, 22, 23, 24, 25, 26, 27, 28, 29, 30, 31, 32, 33, 34, 35, 36, 37, 38] (by decide +kernel) (by decide +kernel)
set_option maxRecDepth 20000 in
theorem gX5_sends_X5_puts : GoodIn wsX5_sends (wsV RX5 86 RX5 yX5_puts wsX5_puts) := goodIn_app (goodIn_of _ (by decide +kernel)) ggX5_sends_X5_puts
theorem dX5_sends_0 : decode cX5_sends 0 = .ok (.aload_n 0, 1) := by decide +kernel
theorem dX5_sends_1 : decode cX5_sends 1 = .ok (.getfield 17, 3) := by decide +kernel
theorem dX5_sends_4 : decode cX5_sends 4 = .ok (.iload_n 1, 1) := by decide +kernel
theorem dX5_sends_5 : decode cX5_sends 5 = .ok (.iaload, 1) := by decide +kernel
theorem dX5_sends_6 : decode cX5_sends 6 = .ok (.sipush 200, 3) := by decide +kernel
theorem dX5_sends_9 : decode cX5_sends 9 = .ok (.if_icmp .le 4, 3) := by decide +kernel
theorem dX5_sends_12 : decode cX5_sends 12 = .ok (.return_, 1) := by decide +kernel
theorem dX5_sends_13 : decode cX5_sends 13 = .ok (.sipush 201, 3) := by decide +kernel
theorem dX5_sends_16 : decode cX5_sends 16 = .ok (.iload_n 1, 1) := by decide +kernel
theorem dX5_sends_17 : decode cX5_sends 17 = .ok (.imul, 1) := by decide +kernel
theorem dX5_sends_18 : decode cX5_sends 18 = .ok (.aload_n 0, 1) := by decide +kernel
theorem dX5_sends_19 : decode cX5_sends 19 = .ok (.getfield 17, 3) := by decide +kernel
theorem dX5_sends_22 : decode cX5_sends 22 = .ok (.iload_n 1, 1) := by decide +kernel
theorem dX5_sends_23 : decode cX5_sends 23 = .ok (.iaload, 1) := by decide +kernel
theorem dX5_sends_24 : decode cX5_sends 24 = .ok (.iadd, 1) := by decide +kernel
theorem dX5_sends_25 : decode cX5_sends 25 = .ok (.istore 5, 2) := by decide +kernel
theorem dX5_sends_27 : decode cX5_sends 27 = .ok (.aload_n 0, 1) := by decide +kernel
theorem dX5_sends_28 : decode cX5_sends 28 = .ok (.getfield 23, 3) := by decide +kernel
theorem dX5_sends_31 : decode cX5_sends 31 = .ok (.iload 5, 2) := by decide +kernel
theorem dX5_sends_33 : decode cX5_sends 33 = .ok (.iload_n 2, 1) := by decide +kernel
theorem dX5_sends_34 : decode cX5_sends 34 = .ok (.iastore, 1) := by decide +kernel
theorem dX5_sends_35 : decode cX5_sends 35 = .ok (.aload_n 0, 1) := by decide +kernel
theorem dX5_sends_36 : decode cX5_sends 36 = .ok (.getfield 26, 3) := by decide +kernel
theorem dX5_sends_39 : decode cX5_sends 39 = .ok (.iload 5, 2) := by decide +kernel
theorem dX5_sends_41 : decode cX5_sends 41 = .ok (.iload_n 3, 1) := by decide +kernel
theorem dX5_sends_42 : decode cX5_sends 42 = .ok (.iastore, 1) := by decide +kernel
theorem dX5_sends_43 : decode cX5_sends 43 = .ok (.aload_n 0, 1) := by decide +kernel
theorem dX5_sends_44 : decode cX5_sends 44 = .ok (.getfield 29, 3) := by decide +kernel
theorem dX5_sends_47 : decode cX5_sends 47 = .ok (.iload 5, 2) := by decide +kernel
theorem dX5_sends_49 : decode cX5_sends 49 = .ok (.iload 4, 2) := by decide +kernel
theorem dX5_sends_51 : decode cX5_sends 51 = .ok (.iastore, 1) := by decide +kernel
theorem dX5_sends_52 : decode cX5_sends 52 = .ok (.aload_n 0, 1) := by decide +kernel
theorem dX5_sends_53 : decode cX5_sends 53 = .ok (.getfield 17, 3) := by decide +kernel
theorem dX5_sends_56 : decode cX5_sends 56 = .ok (.iload_n 1, 1) := by decide +kernel
theorem dX5_sends_57 : decode cX5_sends 57 = .ok (.dup2, 1) := by decide +kernel
theorem dX5_sends_58 : decode cX5_sends 58 = .ok (.iaload, 1) := by decide +kernel
theorem dX5_sends_59 : decode cX5_sends 59 = .ok (.iconst 1, 1) := by decide +kernel
theorem dX5_sends_60 : decode cX5_sends 60 = .ok (.iadd, 1) := by decide +kernel
theorem dX5_sends_61 : decode cX5_sends 61 = .ok (.iastore, 1) := by decide +kernel
theorem dX5_sends_62 : decode cX5_sends 62 = .ok (.aload_n 0, 1) := by decide +kernel
theorem dX5_sends_63 : decode cX5_sends 63 = .ok (.iload_n 1, 1) := by decide +kernel
theorem dX5_sends_64 : decode cX5_sends 64 = .ok (.aload_n 0, 1) := by decide +kernel
theorem dX5_sends_65 : decode cX5_sends 65 = .ok (.getfield 17, 3) := by decide +kernel
theorem dX5_sends_68 : decode cX5_sends 68 = .ok (.iload_n 1, 1) := by decide +kernel
theorem dX5_sends_69 : decode cX5_sends 69 = .ok (.iaload, 1) := by decide +kernel
theorem dX5_sends_70 : decode cX5_sends 70 = .ok (.iconst 1, 1) := by decide +kernel
theorem dX5_sends_71 : decode cX5_sends 71 = .ok (.isub, 1) := by decide +kernel
theorem dX5_sends_72 : decode cX5_sends 72 = .ok (.iload_n 2, 1) := by decide +kernel
theorem dX5_sends_73 : decode cX5_sends 73 = .ok (.iload_n 3, 1) := by decide +kernel
theorem dX5_sends_74 : decode cX5_sends 74 = .ok (.iload 4, 2) := by decide +kernel
theorem dX5_sends_76 : decode cX5_sends 76 = .ok (.invokevirtual 86, 3) := by decide +kernel
theorem dX5_sends_79 : decode cX5_sends 79 = .ok (.return_, 1) := by decide +kernel
theorem dX5_turnsOff_0 : decode cX5_turnsOff 0 = .ok (.aload_n 0, 1) := by decide +kernel
theorem dX5_turnsOff_1 : decode cX5_turnsOff 1 = .ok (.getfield 13, 3) := by decide +kernel
theorem dX5_turnsOff_4 : decode cX5_turnsOff 4 = .ok (.iload_n 1, 1) := by decide +kernel
theorem dX5_turnsOff_5 : decode cX5_turnsOff 5 = .ok (.iconst 0, 1) := by decide +kernel
theorem dX5_turnsOff_6 : decode cX5_turnsOff 6 = .ok (.iastore, 1) := by decide +kernel
theorem dX5_turnsOff_7 : decode cX5_turnsOff 7 = .ok (.aload_n 0, 1) := by decide +kernel
theorem dX5_turnsOff_8 : decode cX5_turnsOff 8 = .ok (.getfield 41, 3) := by decide +kernel
theorem dX5_turnsOff_11 : decode cX5_turnsOff 11 = .ok (.iload_n 1, 1) := by decide +kernel
theorem dX5_turnsOff_12 : decode cX5_turnsOff 12 = .ok (.iconst 0, 1) := by decide +kernel
theorem dX5_turnsOff_13 : decode cX5_turnsOff 13 = .ok (.bastore, 1) := by decide +kernel
theorem dX5_turnsOff_14 : decode cX5_turnsOff 14 = .ok (.return_, 1) := by decide +kernel
theorem dX5_isFull_0 : decode cX5_isFull 0 = .ok (.aload_n 0, 1) := by decide +kernel
theorem dX5_isFull_1 : decode cX5_isFull 1 = .ok (.getfield 17, 3) := by decide +kernel
theorem dX5_isFull_4 : decode cX5_isFull 4 = .ok (.iload_n 1, 1) := by decide +kernel
theorem dX5_isFull_5 : decode cX5_isFull 5 = .ok (.iaload, 1) := by decide +kernel
theorem dX5_isFull_6 : decode cX5_isFull 6 = .ok (.sipush 200, 3) := by decide +kernel
theorem dX5_isFull_9 : decode cX5_isFull 9 = .ok (.if_icmp .le 7, 3) := by decide +kernel
theorem dX5_isFull_12 : decode cX5_isFull 12 = .ok (.iconst 1, 1) := by decide +kernel
theorem dX5_isFull_13 : decode cX5_isFull 13 = .ok (.goto 4, 3) := by decide +kernel
theorem dX5_isFull_16 : decode cX5_isFull 16 = .ok (.iconst 0, 1) := by decide +kernel
theorem dX5_isFull_17 : decode cX5_isFull 17 = .ok (.ireturn, 1) := by decide +kernel
set_option maxRecDepth 20000 in
theorem ggX5_logon_X5_isSide : GoodIn wsX5_logon wsX5_isSide := goodIn_r _ [7, 8, 9, 6, 10] (by decide +kernel) (by decide +kernel)
set_option maxRecDepth 20000 in
theorem gX5_logon_X5_isSide : GoodIn wsX5_logon (va_wsS RX5 90 yX5_isSide wsX5_isSide) := goodIn_app (goodIn_of _ (by decide +kernel)) ggX5_logon_X5_isSide
set_option maxRecDepth 20000 in
theorem ggX5_logon_X5_isFull : GoodIn wsX5_logon wsX5_isFull := goodIn_r _ [14, 3, 37, 38, 39, 40, 41, 42, 43, 44, 45, 46, 47, 48, 49, 50, 51, 52, 53, 54, 55, 56, 57, 58] (by decide +kernel) (by decide +kernel)
set_option maxRecDepth 20000 in
theorem gX5_logon_X5_isFull : GoodIn wsX5_logon (wsV RX5 94 RX5 yX5_isFull wsX5_isFull) := goodIn_app (goodIn_of _ (by decide +kernel)) ggX5_logon_X5_isFull
set_option maxRecDepth 20000 in
theorem ggX5_logon_X5_holds : GoodIn wsX5_logon wsX5_holds := goodIn_r _ [18, 19, 37, 38, 39, 40, 41, 42, 43, 44, 45, 46, 47, 48, 49, 50, 51, 52, 53, 54, 55, 56, 57, 58] (by decide +kernel) (by decide +kernel)
set_option maxRecDepth 20000 in
theorem gX5_logon_X5_holds : GoodIn wsX5_logon (wsV RX5 97 RX5 yX5_holds wsX5_holds) := goodIn_app (goodIn_of _ (by decide +kernel)) ggX5_logon_X5_holds
set_option maxRecDepth 20000 in
theorem ggX5_logon_X5_sends : GoodIn wsX5_logon wsX5_sends := goodIn_r _ [23, 3, 24, 25, 26, 27, 28, 29, 6, 30, 31, 32, 2, 33, 34, 35, 36, 37, 38, 39, 40, 41, 42, 43, 44, 45, 46, 47, 48, 49, 50, 51, 52, 53, 54, 55, 56, 57, 58] (by decide +kernel) (by decide +kernel)
set_option maxRecDepth 20000 in
theorem gX5_logon_X5_sends : GoodIn wsX5_logon (wsV RX5 100 RX5 yX5_sends wsX5_sends) := goodIn_app (goodIn_of _ (by decide +kernel)) ggX5_logon_X5_sends
theorem dX5_logon_0 : decode cX5_logon 0 = .ok (.aload_n 0, 1) := by decide +kernel
theorem dX5_logon_1 : decode cX5_logon 1 = .ok (.iload_n 1, 1) := by decide +kernel
theorem dX5_logon_2 : decode cX5_logon 2 = .ok (.invokestatic 90, 3) := by decide +kernel
theorem dX5_logon_5 : decode cX5_logon 5 = .ok (.ifCond .ne 7, 3) := by decide +kernel
theorem dX5_logon_8 : decode cX5_logon 8 = .ok (.iconst 1, 1) := by decide +kernel
theorem dX5_logon_9 : decode cX5_logon 9 = .ok (.goto 25, 3) := by decide +kernel
theorem dX5_logon_12 : decode cX5_logon 12 = .ok (.aload_n 0, 1) := by decide +kernel
theorem dX5_logon_13 : decode cX5_logon 13 = .ok (.getfield 13, 3) := by decide +kernel
theorem dX5_logon_16 : decode cX5_logon 16 = .ok (.iload_n 1, 1) := by decide +kernel
theorem dX5_logon_17 : decode cX5_logon 17 = .ok (.iaload, 1) := by decide +kernel
theorem dX5_logon_18 : decode cX5_logon 18 = .ok (.ifCond .ne 11, 3) := by decide +kernel
theorem dX5_logon_21 : decode cX5_logon 21 = .ok (.aload_n 0, 1) := by decide +kernel
theorem dX5_logon_22 : decode cX5_logon 22 = .ok (.iload_n 1, 1) := by decide +kernel
theorem dX5_logon_23 : decode cX5_logon 23 = .ok (.invokevirtual 94, 3) := by decide +kernel
theorem dX5_logon_26 : decode cX5_logon 26 = .ok (.ifCond .eq 7, 3) := by decide +kernel
theorem dX5_logon_29 : decode cX5_logon 29 = .ok (.iconst 2, 1) := by decide +kernel
theorem dX5_logon_30 : decode cX5_logon 30 = .ok (.goto 4, 3) := by decide +kernel
theorem dX5_logon_33 : decode cX5_logon 33 = .ok (.iconst 0, 1) := by decide +kernel
theorem dX5_logon_34 : decode cX5_logon 34 = .ok (.invokevirtual 97, 3) := by decide +kernel
theorem dX5_logon_37 : decode cX5_logon 37 = .ok (.ifCond .ne 5, 3) := by decide +kernel
theorem dX5_logon_40 : decode cX5_logon 40 = .ok (.iconst 0, 1) := by decide +kernel
theorem dX5_logon_41 : decode cX5_logon 41 = .ok (.ireturn, 1) := by decide +kernel
theorem dX5_logon_42 : decode cX5_logon 42 = .ok (.aload_n 0, 1) := by decide +kernel
theorem dX5_logon_43 : decode cX5_logon 43 = .ok (.getfield 57, 3) := by decide +kernel
theorem dX5_logon_46 : decode cX5_logon 46 = .ok (.iconst 0, 1) := by decide +kernel
theorem dX5_logon_47 : decode cX5_logon 47 = .ok (.iconst 0, 1) := by decide +kernel
theorem dX5_logon_48 : decode cX5_logon 48 = .ok (.iastore, 1) := by decide +kernel
theorem dX5_logon_49 : decode cX5_logon 49 = .ok (.aload_n 0, 1) := by decide +kernel
theorem dX5_logon_50 : decode cX5_logon 50 = .ok (.getfield 57, 3) := by decide +kernel
theorem dX5_logon_53 : decode cX5_logon 53 = .ok (.iconst 1, 1) := by decide +kernel
theorem dX5_logon_54 : decode cX5_logon 54 = .ok (.iconst 0, 1) := by decide +kernel
theorem dX5_logon_55 : decode cX5_logon 55 = .ok (.iastore, 1) := by decide +kernel
theorem dX5_logon_56 : decode cX5_logon 56 = .ok (.aload_n 0, 1) := by decide +kernel
theorem dX5_logon_57 : decode cX5_logon 57 = .ok (.getfield 13, 3) := by decide +kernel
theorem dX5_logon_60 : decode cX5_logon 60 = .ok (.iload_n 1, 1) := by decide +kernel
theorem dX5_logon_61 : decode cX5_logon 61 = .ok (.iconst 1, 1) := by decide +kernel
theorem dX5_logon_62 : decode cX5_logon 62 = .ok (.iastore, 1) := by decide +kernel
theorem dX5_logon_63 : decode cX5_logon 63 = .ok (.aload_n 0, 1) := by decide +kernel
theorem dX5_logon_64 : decode cX5_logon 64 = .ok (.iload_n 1, 1) := by decide +kernel
theorem dX5_logon_65 : decode cX5_logon 65 = .ok (.iconst 0, 1) := by decide +kernel
theorem dX5_logon_66 : decode cX5_logon 66 = .ok (.iconst 0, 1) := by decide +kernel
theorem dX5_logon_67 : decode cX5_logon 67 = .ok (.iconst 4, 1) := by decide +kernel
theorem dX5_logon_68 : decode cX5_logon 68 = .ok (.invokevirtual 100, 3) := by decide +kernel
theorem dX5_logon_71 : decode cX5_logon 71 = .ok (.aload_n 0, 1) := by decide +kernel
theorem dX5_logon_72 : decode cX5_logon 72 = .ok (.getfield 17, 3) := by decide +kernel
theorem dX5_logon_75 : decode cX5_logon 75 = .ok (.iload_n 1, 1) := by decide +kernel
theorem dX5_logon_76 : decode cX5_logon 76 = .ok (.iaload, 1) := by decide +kernel
theorem dX5_logon_77 : decode cX5_logon 77 = .ok (.iconst 1, 1) := by decide +kernel
theorem dX5_logon_78 : decode cX5_logon 78 = .ok (.isub, 1) := by decide +kernel
theorem dX5_logon_79 : decode cX5_logon 79 = .ok (.ireturn, 1) := by decide +kernel
set_option maxRecDepth 20000 in
theorem ggX5_logout_X5_isSide : GoodIn wsX5_logout wsX5_isSide := goodIn_r _ [6, 7, 8, 5, 9] (by decide +kernel) (by decide +kernel)
set_option maxRecDepth 20000 in
theorem gX5_logout_X5_isSide : GoodIn wsX5_logout (va_wsS RX5 90 yX5_isSide wsX5_isSide) := goodIn_app (goodIn_of _ (by decide +kernel)) ggX5_logout_X5_isSide
set_option maxRecDepth 20000 in
theorem ggX5_logout_X5_isFull : GoodIn wsX5_logout wsX5_isFull := goodIn_r _ [13, 2, 42, 43, 44, 45, 46, 47, 48, 49, 50, 51, 52, 53, 54, 55, 56, 57, 58, 59, 60, 61, 62, 63] (by decide +kernel) (by decide +kernel)
set_option maxRecDepth 20000 in
theorem gX5_logout_X5_isFull : GoodIn wsX5_logout (wsV RX5 94 RX5 yX5_isFull wsX5_isFull) := goodIn_app (goodIn_of _ (by decide +kernel)) ggX5_logout_X5_isFull
set_option maxRecDepth 20000 in
theorem ggX5_logout_X5_holds : GoodIn wsX5_logout wsX5_holds := goodIn_r _ [17, 18, 42, 43, 44, 45, 46, 47, 48, 49, 50, 51, 52, 53, 54, 55, 56, 57, 58, 59, 60, 61, 62, 63] (by decide +kernel) (by decide +kernel)
set_option maxRecDepth 20000 in
theorem gX5_logout_X5_holds : GoodIn wsX5_logout (wsV RX5 97 RX5 yX5_holds wsX5_holds) := goodIn_app (goodIn_of _ (by decide +kernel)) ggX5_logout_X5_holds
set_option maxRecDepth 20000 in
theorem ggX5_logout_X5_sends : GoodIn wsX5_logout wsX5_sends := goodIn_r _ [22, 2, 23, 24, 25, 26, 27, 28, 5, 29, 30, 31, 32, 33, 34, 35, 36, 42, 43, 44, 45, 46, 47, 48, 49, 50, 51, 52, 53, 54, 55, 56, 57, 58, 59, 60, 61, 62, 63] (by decide +kernel) (by decide +kernel)
set_option maxRecDepth 20000 in
theorem gX5_logout_X5_sends : GoodIn wsX5_logout (wsV RX5 100 RX5 yX5_sends wsX5_sends) := goodIn_app (goodIn_of _ (by decide +kernel)) ggX5_logout_X5_sends
set_option maxRecDepth 20000 in
theorem ggX5_logout_X5_turnsOff : GoodIn wsX5_logout wsX5_turnsOff := goodIn_r _ [40, 1, 41, 42, 43, 44, 45, 46, 47, 48, 49, 50, 51, 52, 53, 54, 55, 56, 57, 58, 59, 60, 61, 62, 63] (by decide +kernel) (by decide +kernel)
set_option maxRecDepth 20000 in
theorem gX5_logout_X5_turnsOff : GoodIn wsX5_logout (wsV RX5 104 RX5 yX5_turnsOff wsX5_turnsOff) := goodIn_app (goodIn_of _ (by decide +kernel)) ggX5_logout_X5_turnsOff
theorem dX5_logout_0 : decode cX5_logout 0 = .ok (.aload_n 0, 1) := by decide +kernel
theorem dX5_logout_1 : decode cX5_logout 1 = .ok (.iload_n 1, 1) := by decide +kernel
theorem dX5_logout_2 : decode cX5_logout 2 = .ok (.invokestatic 90, 3) := by decide +kernel
theorem dX5_logout_5 : decode cX5_logout 5 = .ok (.ifCond .ne 7, 3) := by decide +kernel
theorem dX5_logout_8 : decode cX5_logout 8 = .ok (.iconst 1, 1) := by decide +kernel
theorem dX5_logout_9 : decode cX5_logout 9 = .ok (.goto 26, 3) := by decide +kernel
theorem dX5_logout_12 : decode cX5_logout 12 = .ok (.aload_n 0, 1) := by decide +kernel
theorem dX5_logout_13 : decode cX5_logout 13 = .ok (.getfield 13, 3) := by decide +kernel
theorem dX5_logout_16 : decode cX5_logout 16 = .ok (.iload_n 1, 1) := by decide +kernel
theorem dX5_logout_17 : decode cX5_logout 17 = .ok (.iaload, 1) := by decide +kernel
theorem dX5_logout_18 : decode cX5_logout 18 = .ok (.iconst 2, 1) := by decide +kernel
theorem dX5_logout_19 : decode cX5_logout 19 = .ok (.if_icmp .ne 11, 3) := by decide +kernel
theorem dX5_logout_22 : decode cX5_logout 22 = .ok (.aload_n 0, 1) := by decide +kernel
theorem dX5_logout_23 : decode cX5_logout 23 = .ok (.iload_n 1, 1) := by decide +kernel
theorem dX5_logout_24 : decode cX5_logout 24 = .ok (.invokevirtual 94, 3) := by decide +kernel
theorem dX5_logout_27 : decode cX5_logout 27 = .ok (.ifCond .eq 7, 3) := by decide +kernel
theorem dX5_logout_30 : decode cX5_logout 30 = .ok (.iconst 2, 1) := by decide +kernel
theorem dX5_logout_31 : decode cX5_logout 31 = .ok (.goto 4, 3) := by decide +kernel
theorem dX5_logout_34 : decode cX5_logout 34 = .ok (.iconst 0, 1) := by decide +kernel
theorem dX5_logout_35 : decode cX5_logout 35 = .ok (.invokevirtual 97, 3) := by decide +kernel
theorem dX5_logout_38 : decode cX5_logout 38 = .ok (.ifCond .ne 5, 3) := by decide +kernel
theorem dX5_logout_41 : decode cX5_logout 41 = .ok (.iconst 0, 1) := by decide +kernel
theorem dX5_logout_42 : decode cX5_logout 42 = .ok (.ireturn, 1) := by decide +kernel
theorem dX5_logout_43 : decode cX5_logout 43 = .ok (.aload_n 0, 1) := by decide +kernel
theorem dX5_logout_44 : decode cX5_logout 44 = .ok (.iload_n 1, 1) := by decide +kernel
theorem dX5_logout_45 : decode cX5_logout 45 = .ok (.bipush 6, 2) := by decide +kernel
theorem dX5_logout_47 : decode cX5_logout 47 = .ok (.iconst 0, 1) := by decide +kernel
theorem dX5_logout_48 : decode cX5_logout 48 = .ok (.iconst 0, 1) := by decide +kernel
theorem dX5_logout_49 : decode cX5_logout 49 = .ok (.invokevirtual 100, 3) := by decide +kernel
theorem dX5_logout_52 : decode cX5_logout 52 = .ok (.aload_n 0, 1) := by decide +kernel
theorem dX5_logout_53 : decode cX5_logout 53 = .ok (.iload_n 1, 1) := by decide +kernel
theorem dX5_logout_54 : decode cX5_logout 54 = .ok (.invokevirtual 104, 3) := by decide +kernel
theorem dX5_logout_57 : decode cX5_logout 57 = .ok (.aload_n 0, 1) := by decide +kernel
theorem dX5_logout_58 : decode cX5_logout 58 = .ok (.getfield 17, 3) := by decide +kernel
theorem dX5_logout_61 : decode cX5_logout 61 = .ok (.iload_n 1, 1) := by decide +kernel
theorem dX5_logout_62 : decode cX5_logout 62 = .ok (.iaload, 1) := by decide +kernel
theorem dX5_logout_63 : decode cX5_logout 63 = .ok (.iconst 1, 1) := by decide +kernel
theorem dX5_logout_64 : decode cX5_logout 64 = .ok (.isub, 1) := by decide +kernel
theorem dX5_logout_65 : decode cX5_logout 65 = .ok (.ireturn, 1) := by decide +kernel
set_option maxRecDepth 20000 in
theorem ggX5_crash_X5_isSide : GoodIn wsX5_crash wsX5_isSide := goodIn_r _ [5, 6, 7, 4, 8] (by decide +kernel) (by decide +kernel)
set_option maxRecDepth 20000 in
theorem gX5_crash_X5_isSide : GoodIn wsX5_crash (va_wsS RX5 90 yX5_isSide wsX5_isSide) := goodIn_app (goodIn_of _ (by decide +kernel)) ggX5_crash_X5_isSide
set_option maxRecDepth 20000 in
theorem ggX5_crash_X5_holds : GoodIn wsX5_crash wsX5_holds := goodIn_r _ [12, 13, 19, 20, 21, 22, 23, 24, 25, 26, 27, 28, 29, 30, 31, 32, 33, 34, 35, 36, 37, 38, 39, 40] (by decide +kernel) (by decide +kernel)
set_option maxRecDepth 20000 in
theorem gX5_crash_X5_holds : GoodIn wsX5_crash (wsV RX5 97 RX5 yX5_holds wsX5_holds) := goodIn_app (goodIn_of _ (by decide +kernel)) ggX5_crash_X5_holds
set_option maxRecDepth 20000 in
theorem ggX5_crash_X5_turnsOff : GoodIn wsX5_crash wsX5_turnsOff := goodIn_r _ [17, 1, 18, 19, 20, 21, 22, 23, 24, 25, 26, 27, 28, 29, 30, 31, 32, 33, 34, 35, 36, 37, 38, 39, 40] (by decide +kernel) (by decide +kernel)
set_option maxRecDepth 20000 in
theorem gX5_crash_X5_turnsOff : GoodIn wsX5_crash (wsV RX5 104 RX5 yX5_turnsOff wsX5_turnsOff) := goodIn_app (goodIn_of _ (by decide +kernel)) ggX5_crash_X5_turnsOff
theorem dX5_crash_0 : decode cX5_crash 0 = .ok (.aload_n 0, 1) := by decide +kernel
theorem dX5_crash_1 : decode cX5_crash 1 = .ok (.iload_n 1, 1) := by decide +kernel
theorem dX5_crash_2 : decode cX5_crash 2 = .ok (.invokestatic 90, 3) := by decide +kernel
theorem dX5_crash_5 : decode cX5_crash 5 = .ok (.ifCond .eq 7, 3) := by decide +kernel
theorem dX5_crash_8 : decode cX5_crash 8 = .ok (.iconst 0, 1) := by decide +kernel
theorem dX5_crash_9 : decode cX5_crash 9 = .ok (.goto 4, 3) := by decide +kernel
theorem dX5_crash_12 : decode cX5_crash 12 = .ok (.iconst 1, 1) := by decide +kernel
theorem dX5_crash_13 : decode cX5_crash 13 = .ok (.invokevirtual 97, 3) := by decide +kernel
theorem dX5_crash_16 : decode cX5_crash 16 = .ok (.ifCond .ne 5, 3) := by decide +kernel
theorem dX5_crash_19 : decode cX5_crash 19 = .ok (.iconst 0, 1) := by decide +kernel
theorem dX5_crash_20 : decode cX5_crash 20 = .ok (.ireturn, 1) := by decide +kernel
theorem dX5_crash_21 : decode cX5_crash 21 = .ok (.aload_n 0, 1) := by decide +kernel
theorem dX5_crash_22 : decode cX5_crash 22 = .ok (.getfield 13, 3) := by decide +kernel
theorem dX5_crash_25 : decode cX5_crash 25 = .ok (.iload_n 1, 1) := by decide +kernel
theorem dX5_crash_26 : decode cX5_crash 26 = .ok (.iaload, 1) := by decide +kernel
theorem dX5_crash_27 : decode cX5_crash 27 = .ok (.iconst 2, 1) := by decide +kernel
theorem dX5_crash_28 : decode cX5_crash 28 = .ok (.if_icmp .ne 7, 3) := by decide +kernel
theorem dX5_crash_31 : decode cX5_crash 31 = .ok (.iconst 1, 1) := by decide +kernel
theorem dX5_crash_32 : decode cX5_crash 32 = .ok (.goto 4, 3) := by decide +kernel
theorem dX5_crash_35 : decode cX5_crash 35 = .ok (.iconst 0, 1) := by decide +kernel
theorem dX5_crash_36 : decode cX5_crash 36 = .ok (.istore_n 2, 1) := by decide +kernel
theorem dX5_crash_37 : decode cX5_crash 37 = .ok (.aload_n 0, 1) := by decide +kernel
theorem dX5_crash_38 : decode cX5_crash 38 = .ok (.iload_n 1, 1) := by decide +kernel
theorem dX5_crash_39 : decode cX5_crash 39 = .ok (.invokevirtual 104, 3) := by decide +kernel
theorem dX5_crash_42 : decode cX5_crash 42 = .ok (.iload_n 2, 1) := by decide +kernel
theorem dX5_crash_43 : decode cX5_crash 43 = .ok (.ireturn, 1) := by decide +kernel
set_option maxRecDepth 20000 in
theorem ggX5_endDay_X5_holds : GoodIn wsX5_endDay wsX5_holds := goodIn_r _ [7, 8, 17, 18, 19, 20, 21, 22, 23, 24, 25, 26, 27, 28, 29, 30, 31, 32, 33, 34, 35, 36, 37, 38] (by decide +kernel) (by decide +kernel)
set_option maxRecDepth 20000 in
theorem gX5_endDay_X5_holds : GoodIn wsX5_endDay (wsV RX5 97 RX5 yX5_holds wsX5_holds) := goodIn_app (goodIn_of _ (by decide +kernel)) ggX5_endDay_X5_holds
set_option maxRecDepth 20000 in
theorem ggX5_endDay_X5_empties : GoodIn wsX5_endDay wsX5_empties := goodIn_r _ [12, 2, 13, 14, 15, 16, 17, 18, 19, 20, 21, 22, 23, 24, 25, 26, 27, 28, 29, 30, 31, 32, 33, 34, 35, 36, 37, 38] (by decide +kernel) (by decide +kernel)
set_option maxRecDepth 20000 in
theorem gX5_endDay_X5_empties : GoodIn wsX5_endDay (wsV RX5 72 RX5 yX5_empties wsX5_empties) := goodIn_app (goodIn_of _ (by decide +kernel)) ggX5_endDay_X5_empties
theorem dX5_endDay_0 : decode cX5_endDay 0 = .ok (.aload_n 0, 1) := by decide +kernel
theorem dX5_endDay_1 : decode cX5_endDay 1 = .ok (.aload_n 0, 1) := by decide +kernel
theorem dX5_endDay_2 : decode cX5_endDay 2 = .ok (.getfield 13, 3) := by decide +kernel
theorem dX5_endDay_5 : decode cX5_endDay 5 = .ok (.iconst 0, 1) := by decide +kernel
theorem dX5_endDay_6 : decode cX5_endDay 6 = .ok (.iaload, 1) := by decide +kernel
theorem dX5_endDay_7 : decode cX5_endDay 7 = .ok (.ifCond .ne 12, 3) := by decide +kernel
theorem dX5_endDay_10 : decode cX5_endDay 10 = .ok (.aload_n 0, 1) := by decide +kernel
theorem dX5_endDay_11 : decode cX5_endDay 11 = .ok (.getfield 13, 3) := by decide +kernel
theorem dX5_endDay_14 : decode cX5_endDay 14 = .ok (.iconst 1, 1) := by decide +kernel
theorem dX5_endDay_15 : decode cX5_endDay 15 = .ok (.iaload, 1) := by decide +kernel
theorem dX5_endDay_16 : decode cX5_endDay 16 = .ok (.ifCond .eq 7, 3) := by decide +kernel
theorem dX5_endDay_19 : decode cX5_endDay 19 = .ok (.iconst 1, 1) := by decide +kernel
theorem dX5_endDay_20 : decode cX5_endDay 20 = .ok (.goto 4, 3) := by decide +kernel
theorem dX5_endDay_23 : decode cX5_endDay 23 = .ok (.iconst 0, 1) := by decide +kernel
theorem dX5_endDay_24 : decode cX5_endDay 24 = .ok (.invokevirtual 97, 3) := by decide +kernel
theorem dX5_endDay_27 : decode cX5_endDay 27 = .ok (.ifCond .ne 5, 3) := by decide +kernel
theorem dX5_endDay_30 : decode cX5_endDay 30 = .ok (.iconst 0, 1) := by decide +kernel
theorem dX5_endDay_31 : decode cX5_endDay 31 = .ok (.ireturn, 1) := by decide +kernel
theorem dX5_endDay_32 : decode cX5_endDay 32 = .ok (.aload_n 0, 1) := by decide +kernel
theorem dX5_endDay_33 : decode cX5_endDay 33 = .ok (.getfield 17, 3) := by decide +kernel
theorem dX5_endDay_36 : decode cX5_endDay 36 = .ok (.iconst 0, 1) := by decide +kernel
theorem dX5_endDay_37 : decode cX5_endDay 37 = .ok (.iaload, 1) := by decide +kernel
theorem dX5_endDay_38 : decode cX5_endDay 38 = .ok (.aload_n 0, 1) := by decide +kernel
theorem dX5_endDay_39 : decode cX5_endDay 39 = .ok (.getfield 17, 3) := by decide +kernel
theorem dX5_endDay_42 : decode cX5_endDay 42 = .ok (.iconst 1, 1) := by decide +kernel
theorem dX5_endDay_43 : decode cX5_endDay 43 = .ok (.iaload, 1) := by decide +kernel
theorem dX5_endDay_44 : decode cX5_endDay 44 = .ok (.iadd, 1) := by decide +kernel
theorem dX5_endDay_45 : decode cX5_endDay 45 = .ok (.iconst 2, 1) := by decide +kernel
theorem dX5_endDay_46 : decode cX5_endDay 46 = .ok (.isub, 1) := by decide +kernel
theorem dX5_endDay_47 : decode cX5_endDay 47 = .ok (.istore_n 1, 1) := by decide +kernel
theorem dX5_endDay_48 : decode cX5_endDay 48 = .ok (.aload_n 0, 1) := by decide +kernel
theorem dX5_endDay_49 : decode cX5_endDay 49 = .ok (.invokevirtual 72, 3) := by decide +kernel
theorem dX5_endDay_52 : decode cX5_endDay 52 = .ok (.iload_n 1, 1) := by decide +kernel
theorem dX5_endDay_53 : decode cX5_endDay 53 = .ok (.ireturn, 1) := by decide +kernel
set_option maxRecDepth 20000 in
theorem ggX5_errorOfSending_X5_isFull : GoodIn wsX5_errorOfSending wsX5_isFull := goodIn_r _ [6, 7, 8, 9, 10, 11, 12, 13, 14, 15, 16, 17, 18, 19, 20, 21, 22, 23, 24, 25, 26, 27, 28, 29] (by decide +kernel) (by decide +kernel)
set_option maxRecDepth 20000 in
theorem gX5_errorOfSending_X5_isFull : GoodIn wsX5_errorOfSending (wsV RX5 94 RX5 yX5_isFull wsX5_isFull) := goodIn_app (goodIn_of _ (by decide +kernel)) ggX5_errorOfSending_X5_isFull
theorem dX5_errorOfSending_0 : decode cX5_errorOfSending 0 = .ok (.aload_n 0, 1) := by decide +kernel
theorem dX5_errorOfSending_1 : decode cX5_errorOfSending 1 = .ok (.getfield 13, 3) := by decide +kernel
theorem dX5_errorOfSending_4 : decode cX5_errorOfSending 4 = .ok (.iload_n 1, 1) := by decide +kernel
theorem dX5_errorOfSending_5 : decode cX5_errorOfSending 5 = .ok (.iaload, 1) := by decide +kernel
theorem dX5_errorOfSending_6 : decode cX5_errorOfSending 6 = .ok (.iconst 2, 1) := by decide +kernel
theorem dX5_errorOfSending_7 : decode cX5_errorOfSending 7 = .ok (.if_icmp .ne 11, 3) := by decide +kernel
theorem dX5_errorOfSending_10 : decode cX5_errorOfSending 10 = .ok (.aload_n 0, 1) := by decide +kernel
theorem dX5_errorOfSending_11 : decode cX5_errorOfSending 11 = .ok (.iload_n 1, 1) := by decide +kernel
theorem dX5_errorOfSending_12 : decode cX5_errorOfSending 12 = .ok (.invokevirtual 94, 3) := by decide +kernel
theorem dX5_errorOfSending_15 : decode cX5_errorOfSending 15 = .ok (.ifCond .eq 7, 3) := by decide +kernel
theorem dX5_errorOfSending_18 : decode cX5_errorOfSending 18 = .ok (.iconst 1, 1) := by decide +kernel
theorem dX5_errorOfSending_19 : decode cX5_errorOfSending 19 = .ok (.goto 4, 3) := by decide +kernel
theorem dX5_errorOfSending_22 : decode cX5_errorOfSending 22 = .ok (.iconst 0, 1) := by decide +kernel
theorem dX5_errorOfSending_23 : decode cX5_errorOfSending 23 = .ok (.ireturn, 1) := by decide +kernel
set_option maxRecDepth 20000 in
theorem ggX5_send_X5_isSide : GoodIn wsX5_send wsX5_isSide := goodIn_r _ [5, 6, 7, 4, 8] (by decide +kernel) (by decide +kernel)
set_option maxRecDepth 20000 in
theorem gX5_send_X5_isSide : GoodIn wsX5_send (va_wsS RX5 90 yX5_isSide wsX5_isSide) := goodIn_app (goodIn_of _ (by decide +kernel)) ggX5_send_X5_isSide
set_option maxRecDepth 20000 in
theorem ggX5_send_X5_in : GoodIn wsX5_send wsX5_in := goodIn_r _ [8] (by decide +kernel) (by decide +kernel)
set_option maxRecDepth 20000 in
theorem gX5_send_X5_in : GoodIn wsX5_send (va_wsS RX5 79 yX5_in wsX5_in) := goodIn_app (goodIn_of _ (by decide +kernel)) ggX5_send_X5_in
set_option maxRecDepth 20000 in
theorem ggX5_send_X5_errorOfSending : GoodIn wsX5_send wsX5_errorOfSending := goodIn_r _ [12, 13, 14, 15, 16, 4, 17, 1, 41, 42, 43, 44, 45, 46, 47, 48, 49, 50, 51, 52, 53, 54, 55, 56, 57, 58, 59, 60, 61, 62] (by decide +kernel) (by decide +kernel)
set_option maxRecDepth 20000 in
theorem gX5_send_X5_errorOfSending : GoodIn wsX5_send (wsV RX5 108 RX5 yX5_errorOfSending wsX5_errorOfSending) := goodIn_app (goodIn_of _ (by decide +kernel)) ggX5_send_X5_errorOfSending
set_option maxRecDepth 20000 in
theorem ggX5_send_X5_holds : GoodIn wsX5_send wsX5_holds := goodIn_r _ [21, 22, 41, 42, 43, 44, 45, 46, 47, 48, 49, 50, 51, 52, 53, 54, 55, 56, 57, 58, 59, 60, 61, 62] (by decide +kernel) (by decide +kernel)
set_option maxRecDepth 20000 in
theorem gX5_send_X5_holds : GoodIn wsX5_send (wsV RX5 97 RX5 yX5_holds wsX5_holds) := goodIn_app (goodIn_of _ (by decide +kernel)) ggX5_send_X5_holds
set_option maxRecDepth 20000 in
theorem ggX5_send_X5_sends : GoodIn wsX5_send wsX5_sends := goodIn_r _ [26, 1, 27, 28, 29, 30, 31, 32, 4, 33, 34, 35, 36, 37, 38, 39, 40, 41, 42, 43, 44, 45, 46, 47, 48, 49, 50, 51, 52, 53, 54, 55, 56, 57, 58, 59, 60, 61, 62] (by decide +kernel) (by decide +kernel)
set_option maxRecDepth 20000 in
theorem gX5_send_X5_sends : GoodIn wsX5_send (wsV RX5 100 RX5 yX5_sends wsX5_sends) := goodIn_app (goodIn_of _ (by decide +kernel)) ggX5_send_X5_sends
theorem dX5_send_0 : decode cX5_send 0 = .ok (.aload_n 0, 1) := by decide +kernel
theorem dX5_send_1 : decode cX5_send 1 = .ok (.iload_n 1, 1) := by decide +kernel
theorem dX5_send_2 : decode cX5_send 2 = .ok (.invokestatic 90, 3) := by decide +kernel
theorem dX5_send_5 : decode cX5_send 5 = .ok (.ifCond .ne 7, 3) := by decide +kernel
theorem dX5_send_8 : decode cX5_send 8 = .ok (.iconst 1, 1) := by decide +kernel
theorem dX5_send_9 : decode cX5_send 9 = .ok (.goto 31, 3) := by decide +kernel
theorem dX5_send_12 : decode cX5_send 12 = .ok (.iload_n 2, 1) := by decide +kernel
theorem dX5_send_13 : decode cX5_send 13 = .ok (.iconst 0, 1) := by decide +kernel
theorem dX5_send_14 : decode cX5_send 14 = .ok (.sipush 999, 3) := by decide +kernel
theorem dX5_send_17 : decode cX5_send 17 = .ok (.invokestatic 79, 3) := by decide +kernel
theorem dX5_send_20 : decode cX5_send 20 = .ok (.ifCond .ne 7, 3) := by decide +kernel
theorem dX5_send_23 : decode cX5_send 23 = .ok (.iconst 2, 1) := by decide +kernel
theorem dX5_send_24 : decode cX5_send 24 = .ok (.goto 16, 3) := by decide +kernel
theorem dX5_send_27 : decode cX5_send 27 = .ok (.aload_n 0, 1) := by decide +kernel
theorem dX5_send_28 : decode cX5_send 28 = .ok (.iload_n 1, 1) := by decide +kernel
theorem dX5_send_29 : decode cX5_send 29 = .ok (.invokevirtual 108, 3) := by decide +kernel
theorem dX5_send_32 : decode cX5_send 32 = .ok (.ifCond .le 7, 3) := by decide +kernel
theorem dX5_send_35 : decode cX5_send 35 = .ok (.iconst 3, 1) := by decide +kernel
theorem dX5_send_36 : decode cX5_send 36 = .ok (.goto 4, 3) := by decide +kernel
theorem dX5_send_39 : decode cX5_send 39 = .ok (.iconst 0, 1) := by decide +kernel
theorem dX5_send_40 : decode cX5_send 40 = .ok (.invokevirtual 97, 3) := by decide +kernel
theorem dX5_send_43 : decode cX5_send 43 = .ok (.ifCond .ne 5, 3) := by decide +kernel
theorem dX5_send_46 : decode cX5_send 46 = .ok (.iconst 0, 1) := by decide +kernel
theorem dX5_send_47 : decode cX5_send 47 = .ok (.ireturn, 1) := by decide +kernel
theorem dX5_send_48 : decode cX5_send 48 = .ok (.aload_n 0, 1) := by decide +kernel
theorem dX5_send_49 : decode cX5_send 49 = .ok (.iload_n 1, 1) := by decide +kernel
theorem dX5_send_50 : decode cX5_send 50 = .ok (.iconst 5, 1) := by decide +kernel
theorem dX5_send_51 : decode cX5_send 51 = .ok (.iload_n 2, 1) := by decide +kernel
theorem dX5_send_52 : decode cX5_send 52 = .ok (.iconst 0, 1) := by decide +kernel
theorem dX5_send_53 : decode cX5_send 53 = .ok (.invokevirtual 100, 3) := by decide +kernel
theorem dX5_send_56 : decode cX5_send 56 = .ok (.aload_n 0, 1) := by decide +kernel
theorem dX5_send_57 : decode cX5_send 57 = .ok (.getfield 17, 3) := by decide +kernel
theorem dX5_send_60 : decode cX5_send 60 = .ok (.iload_n 1, 1) := by decide +kernel
theorem dX5_send_61 : decode cX5_send 61 = .ok (.iaload, 1) := by decide +kernel
theorem dX5_send_62 : decode cX5_send 62 = .ok (.iconst 1, 1) := by decide +kernel
theorem dX5_send_63 : decode cX5_send 63 = .ok (.isub, 1) := by decide +kernel
theorem dX5_send_64 : decode cX5_send 64 = .ok (.ireturn, 1) := by decide +kernel
set_option maxRecDepth 20000 in
theorem ggX5_again_X5_isSide : GoodIn wsX5_again wsX5_isSide := goodIn_r _ [7, 8, 9, 6, 10] (by decide +kernel) (by decide +kernel)
set_option maxRecDepth 20000 in
theorem gX5_again_X5_isSide : GoodIn wsX5_again (va_wsS RX5 90 yX5_isSide wsX5_isSide) := goodIn_app (goodIn_of _ (by decide +kernel)) ggX5_again_X5_isSide
set_option maxRecDepth 20000 in
theorem ggX5_again_X5_in : GoodIn wsX5_again wsX5_in := goodIn_r _ [10] (by decide +kernel) (by decide +kernel)
set_option maxRecDepth 20000 in
theorem gX5_again_X5_in : GoodIn wsX5_again (va_wsS RX5 79 yX5_in wsX5_in) := goodIn_app (goodIn_of _ (by decide +kernel)) ggX5_again_X5_in
set_option maxRecDepth 20000 in
theorem ggX5_again_X5_errorOfSending : GoodIn wsX5_again wsX5_errorOfSending := goodIn_r _ [14, 15, 16, 17, 18, 6, 19, 1, 41, 42, 43, 44, 45, 46, 47, 48, 49, 50, 51, 52, 53, 54, 55, 56, 57, 58, 59, 60, 61, 62] (by decide +kernel) (by decide +kernel)
set_option maxRecDepth 20000 in
theorem gX5_again_X5_errorOfSending : GoodIn wsX5_again (wsV RX5 108 RX5 yX5_errorOfSending wsX5_errorOfSending) := goodIn_app (goodIn_of _ (by decide +kernel)) ggX5_again_X5_errorOfSending
set_option maxRecDepth 20000 in
theorem ggX5_again_X5_holds : GoodIn wsX5_again wsX5_holds := goodIn_r _ [23, 24, 41, 42, 43, 44, 45, 46, 47, 48, 49, 50, 51, 52, 53, 54, 55, 56, 57, 58, 59, 60, 61, 62] (by decide +kernel) (by decide +kernel)
set_option maxRecDepth 20000 in
theorem gX5_again_X5_holds : GoodIn wsX5_again (wsV RX5 97 RX5 yX5_holds wsX5_holds) := goodIn_app (goodIn_of _ (by decide +kernel)) ggX5_again_X5_holds
set_option maxRecDepth 20000 in
theorem ggX5_again_X5_sends : GoodIn wsX5_again wsX5_sends := goodIn_r _ [28, 1, 2, 3, 29, 30, 31, 32, 6, 33, 34, 35, 36, 37, 38, 39, 40, 41, 42, 43, 44, 45, 46, 47, 48, 49, 50, 51, 52, 53, 54, 55, 56, 57, 58, 59, 60, 61, 62] (by decide +kernel) (by decide +kernel)
set_option maxRecDepth 20000 in
theorem gX5_again_X5_sends : GoodIn wsX5_again (wsV RX5 100 RX5 yX5_sends wsX5_sends) := goodIn_app (goodIn_of _ (by decide +kernel)) ggX5_again_X5_sends
theorem dX5_again_0 : decode cX5_again 0 = .ok (.iload_n 1, 1) := by decide +kernel
theorem dX5_again_1 : decode cX5_again 1 = .ok (.invokestatic 90, 3) := by decide +kernel
theorem dX5_again_4 : decode cX5_again 4 = .ok (.ifCond .eq 39, 3) := by decide +kernel
theorem dX5_again_7 : decode cX5_again 7 = .ok (.iload_n 2, 1) := by decide +kernel
theorem dX5_again_8 : decode cX5_again 8 = .ok (.iconst 1, 1) := by decide +kernel
theorem dX5_again_9 : decode cX5_again 9 = .ok (.aload_n 0, 1) := by decide +kernel
theorem dX5_again_10 : decode cX5_again 10 = .ok (.getfield 17, 3) := by decide +kernel
theorem dX5_again_13 : decode cX5_again 13 = .ok (.iload_n 1, 1) := by decide +kernel
theorem dX5_again_14 : decode cX5_again 14 = .ok (.iaload, 1) := by decide +kernel
theorem dX5_again_15 : decode cX5_again 15 = .ok (.iconst 1, 1) := by decide +kernel
theorem dX5_again_16 : decode cX5_again 16 = .ok (.isub, 1) := by decide +kernel
theorem dX5_again_17 : decode cX5_again 17 = .ok (.invokestatic 79, 3) := by decide +kernel
theorem dX5_again_20 : decode cX5_again 20 = .ok (.ifCond .eq 23, 3) := by decide +kernel
theorem dX5_again_23 : decode cX5_again 23 = .ok (.aload_n 0, 1) := by decide +kernel
theorem dX5_again_24 : decode cX5_again 24 = .ok (.getfield 23, 3) := by decide +kernel
theorem dX5_again_27 : decode cX5_again 27 = .ok (.sipush 201, 3) := by decide +kernel
theorem dX5_again_30 : decode cX5_again 30 = .ok (.iload_n 1, 1) := by decide +kernel
theorem dX5_again_31 : decode cX5_again 31 = .ok (.imul, 1) := by decide +kernel
theorem dX5_again_32 : decode cX5_again 32 = .ok (.iload_n 2, 1) := by decide +kernel
theorem dX5_again_33 : decode cX5_again 33 = .ok (.iadd, 1) := by decide +kernel
theorem dX5_again_34 : decode cX5_again 34 = .ok (.iaload, 1) := by decide +kernel
theorem dX5_again_35 : decode cX5_again 35 = .ok (.iconst 5, 1) := by decide +kernel
theorem dX5_again_36 : decode cX5_again 36 = .ok (.if_icmp .ne 7, 3) := by decide +kernel
theorem dX5_again_39 : decode cX5_again 39 = .ok (.iconst 1, 1) := by decide +kernel
theorem dX5_again_40 : decode cX5_again 40 = .ok (.goto 4, 3) := by decide +kernel
theorem dX5_again_43 : decode cX5_again 43 = .ok (.iconst 0, 1) := by decide +kernel
theorem dX5_again_44 : decode cX5_again 44 = .ok (.istore_n 3, 1) := by decide +kernel
theorem dX5_again_45 : decode cX5_again 45 = .ok (.aload_n 0, 1) := by decide +kernel
theorem dX5_again_46 : decode cX5_again 46 = .ok (.iload_n 3, 1) := by decide +kernel
theorem dX5_again_47 : decode cX5_again 47 = .ok (.ifCond .ne 7, 3) := by decide +kernel
theorem dX5_again_50 : decode cX5_again 50 = .ok (.iconst 1, 1) := by decide +kernel
theorem dX5_again_51 : decode cX5_again 51 = .ok (.goto 16, 3) := by decide +kernel
theorem dX5_again_54 : decode cX5_again 54 = .ok (.aload_n 0, 1) := by decide +kernel
theorem dX5_again_55 : decode cX5_again 55 = .ok (.iload_n 1, 1) := by decide +kernel
theorem dX5_again_56 : decode cX5_again 56 = .ok (.invokevirtual 108, 3) := by decide +kernel
theorem dX5_again_59 : decode cX5_again 59 = .ok (.ifCond .le 7, 3) := by decide +kernel
theorem dX5_again_62 : decode cX5_again 62 = .ok (.iconst 2, 1) := by decide +kernel
theorem dX5_again_63 : decode cX5_again 63 = .ok (.goto 4, 3) := by decide +kernel
theorem dX5_again_66 : decode cX5_again 66 = .ok (.iconst 0, 1) := by decide +kernel
theorem dX5_again_67 : decode cX5_again 67 = .ok (.invokevirtual 97, 3) := by decide +kernel
theorem dX5_again_70 : decode cX5_again 70 = .ok (.ifCond .ne 5, 3) := by decide +kernel
theorem dX5_again_73 : decode cX5_again 73 = .ok (.iconst 0, 1) := by decide +kernel
theorem dX5_again_74 : decode cX5_again 74 = .ok (.ireturn, 1) := by decide +kernel
theorem dX5_again_75 : decode cX5_again 75 = .ok (.aload_n 0, 1) := by decide +kernel
theorem dX5_again_76 : decode cX5_again 76 = .ok (.iload_n 1, 1) := by decide +kernel
theorem dX5_again_77 : decode cX5_again 77 = .ok (.iconst 5, 1) := by decide +kernel
theorem dX5_again_78 : decode cX5_again 78 = .ok (.aload_n 0, 1) := by decide +kernel
theorem dX5_again_79 : decode cX5_again 79 = .ok (.getfield 26, 3) := by decide +kernel
theorem dX5_again_82 : decode cX5_again 82 = .ok (.sipush 201, 3) := by decide +kernel
theorem dX5_again_85 : decode cX5_again 85 = .ok (.iload_n 1, 1) := by decide +kernel
theorem dX5_again_86 : decode cX5_again 86 = .ok (.imul, 1) := by decide +kernel
theorem dX5_again_87 : decode cX5_again 87 = .ok (.iload_n 2, 1) := by decide +kernel
theorem dX5_again_88 : decode cX5_again 88 = .ok (.iadd, 1) := by decide +kernel
theorem dX5_again_89 : decode cX5_again 89 = .ok (.iaload, 1) := by decide +kernel
theorem dX5_again_90 : decode cX5_again 90 = .ok (.iconst 2, 1) := by decide +kernel
theorem dX5_again_91 : decode cX5_again 91 = .ok (.invokevirtual 100, 3) := by decide +kernel
theorem dX5_again_94 : decode cX5_again 94 = .ok (.aload_n 0, 1) := by decide +kernel
theorem dX5_again_95 : decode cX5_again 95 = .ok (.getfield 17, 3) := by decide +kernel
theorem dX5_again_98 : decode cX5_again 98 = .ok (.iload_n 1, 1) := by decide +kernel
theorem dX5_again_99 : decode cX5_again 99 = .ok (.iaload, 1) := by decide +kernel
theorem dX5_again_100 : decode cX5_again 100 = .ok (.iconst 1, 1) := by decide +kernel
theorem dX5_again_101 : decode cX5_again 101 = .ok (.isub, 1) := by decide +kernel
theorem dX5_again_102 : decode cX5_again 102 = .ok (.ireturn, 1) := by decide +kernel
theorem dX5_removes_0 : decode cX5_removes 0 = .ok (.aload_n 0, 1) := by decide +kernel
theorem dX5_removes_1 : decode cX5_removes 1 = .ok (.getfield 57, 3) := by decide +kernel
theorem dX5_removes_4 : decode cX5_removes 4 = .ok (.iload_n 1, 1) := by decide +kernel
theorem dX5_removes_5 : decode cX5_removes 5 = .ok (.dup2, 1) := by decide +kernel
theorem dX5_removes_6 : decode cX5_removes 6 = .ok (.iaload, 1) := by decide +kernel
theorem dX5_removes_7 : decode cX5_removes 7 = .ok (.iconst 1, 1) := by decide +kernel
theorem dX5_removes_8 : decode cX5_removes 8 = .ok (.isub, 1) := by decide +kernel
theorem dX5_removes_9 : decode cX5_removes 9 = .ok (.iastore, 1) := by decide +kernel
theorem dX5_removes_10 : decode cX5_removes 10 = .ok (.bipush 60, 2) := by decide +kernel
theorem dX5_removes_12 : decode cX5_removes 12 = .ok (.iload_n 1, 1) := by decide +kernel
theorem dX5_removes_13 : decode cX5_removes 13 = .ok (.imul, 1) := by decide +kernel
theorem dX5_removes_14 : decode cX5_removes 14 = .ok (.istore_n 2, 1) := by decide +kernel
theorem dX5_removes_15 : decode cX5_removes 15 = .ok (.iload_n 2, 1) := by decide +kernel
theorem dX5_removes_16 : decode cX5_removes 16 = .ok (.bipush 60, 2) := by decide +kernel
theorem dX5_removes_18 : decode cX5_removes 18 = .ok (.iload_n 1, 1) := by decide +kernel
theorem dX5_removes_19 : decode cX5_removes 19 = .ok (.imul, 1) := by decide +kernel
theorem dX5_removes_20 : decode cX5_removes 20 = .ok (.aload_n 0, 1) := by decide +kernel
theorem dX5_removes_21 : decode cX5_removes 21 = .ok (.getfield 57, 3) := by decide +kernel
theorem dX5_removes_24 : decode cX5_removes 24 = .ok (.iload_n 1, 1) := by decide +kernel
theorem dX5_removes_25 : decode cX5_removes 25 = .ok (.iaload, 1) := by decide +kernel
theorem dX5_removes_26 : decode cX5_removes 26 = .ok (.iadd, 1) := by decide +kernel
theorem dX5_removes_27 : decode cX5_removes 27 = .ok (.if_icmp .ge 65, 3) := by decide +kernel
theorem dX5_removes_30 : decode cX5_removes 30 = .ok (.aload_n 0, 1) := by decide +kernel
theorem dX5_removes_31 : decode cX5_removes 31 = .ok (.getfield 60, 3) := by decide +kernel
theorem dX5_removes_34 : decode cX5_removes 34 = .ok (.iload_n 2, 1) := by decide +kernel
theorem dX5_removes_35 : decode cX5_removes 35 = .ok (.aload_n 0, 1) := by decide +kernel
theorem dX5_removes_36 : decode cX5_removes 36 = .ok (.getfield 60, 3) := by decide +kernel
theorem dX5_removes_39 : decode cX5_removes 39 = .ok (.iload_n 2, 1) := by decide +kernel
theorem dX5_removes_40 : decode cX5_removes 40 = .ok (.iconst 1, 1) := by decide +kernel
theorem dX5_removes_41 : decode cX5_removes 41 = .ok (.iadd, 1) := by decide +kernel
theorem dX5_removes_42 : decode cX5_removes 42 = .ok (.iaload, 1) := by decide +kernel
theorem dX5_removes_43 : decode cX5_removes 43 = .ok (.iastore, 1) := by decide +kernel
theorem dX5_removes_44 : decode cX5_removes 44 = .ok (.aload_n 0, 1) := by decide +kernel
theorem dX5_removes_45 : decode cX5_removes 45 = .ok (.getfield 63, 3) := by decide +kernel
theorem dX5_removes_48 : decode cX5_removes 48 = .ok (.iload_n 2, 1) := by decide +kernel
theorem dX5_removes_49 : decode cX5_removes 49 = .ok (.aload_n 0, 1) := by decide +kernel
theorem dX5_removes_50 : decode cX5_removes 50 = .ok (.getfield 63, 3) := by decide +kernel
theorem dX5_removes_53 : decode cX5_removes 53 = .ok (.iload_n 2, 1) := by decide +kernel
theorem dX5_removes_54 : decode cX5_removes 54 = .ok (.iconst 1, 1) := by decide +kernel
theorem dX5_removes_55 : decode cX5_removes 55 = .ok (.iadd, 1) := by decide +kernel
theorem dX5_removes_56 : decode cX5_removes 56 = .ok (.iaload, 1) := by decide +kernel
theorem dX5_removes_57 : decode cX5_removes 57 = .ok (.iastore, 1) := by decide +kernel
theorem dX5_removes_58 : decode cX5_removes 58 = .ok (.aload_n 0, 1) := by decide +kernel
theorem dX5_removes_59 : decode cX5_removes 59 = .ok (.getfield 66, 3) := by decide +kernel
theorem dX5_removes_62 : decode cX5_removes 62 = .ok (.iload_n 2, 1) := by decide +kernel
theorem dX5_removes_63 : decode cX5_removes 63 = .ok (.aload_n 0, 1) := by decide +kernel
theorem dX5_removes_64 : decode cX5_removes 64 = .ok (.getfield 66, 3) := by decide +kernel
theorem dX5_removes_67 : decode cX5_removes 67 = .ok (.iload_n 2, 1) := by decide +kernel
theorem dX5_removes_68 : decode cX5_removes 68 = .ok (.iconst 1, 1) := by decide +kernel
theorem dX5_removes_69 : decode cX5_removes 69 = .ok (.iadd, 1) := by decide +kernel
theorem dX5_removes_70 : decode cX5_removes 70 = .ok (.iaload, 1) := by decide +kernel
theorem dX5_removes_71 : decode cX5_removes 71 = .ok (.iastore, 1) := by decide +kernel
theorem dX5_removes_72 : decode cX5_removes 72 = .ok (.aload_n 0, 1) := by decide +kernel
theorem dX5_removes_73 : decode cX5_removes 73 = .ok (.getfield 69, 3) := by decide +kernel
theorem dX5_removes_76 : decode cX5_removes 76 = .ok (.iload_n 2, 1) := by decide +kernel
theorem dX5_removes_77 : decode cX5_removes 77 = .ok (.aload_n 0, 1) := by decide +kernel
theorem dX5_removes_78 : decode cX5_removes 78 = .ok (.getfield 69, 3) := by decide +kernel
theorem dX5_removes_81 : decode cX5_removes 81 = .ok (.iload_n 2, 1) := by decide +kernel
theorem dX5_removes_82 : decode cX5_removes 82 = .ok (.iconst 1, 1) := by decide +kernel
theorem dX5_removes_83 : decode cX5_removes 83 = .ok (.iadd, 1) := by decide +kernel
theorem dX5_removes_84 : decode cX5_removes 84 = .ok (.iaload, 1) := by decide +kernel
theorem dX5_removes_85 : decode cX5_removes 85 = .ok (.iastore, 1) := by decide +kernel
theorem dX5_removes_86 : decode cX5_removes 86 = .ok (.iinc 2 1, 3) := by decide +kernel
theorem dX5_removes_89 : decode cX5_removes 89 = .ok (.goto (-74), 3) := by decide +kernel
theorem dX5_removes_92 : decode cX5_removes 92 = .ok (.return_, 1) := by decide +kernel
set_option maxRecDepth 20000 in
theorem ggX5_lose_X5_isSide : GoodIn wsX5_lose wsX5_isSide := goodIn_r _ [6, 7, 8, 5, 9] (by decide +kernel) (by decide +kernel)
set_option maxRecDepth 20000 in
theorem gX5_lose_X5_isSide : GoodIn wsX5_lose (va_wsS RX5 90 yX5_isSide wsX5_isSide) := goodIn_app (goodIn_of _ (by decide +kernel)) ggX5_lose_X5_isSide
set_option maxRecDepth 20000 in
theorem ggX5_lose_X5_holds : GoodIn wsX5_lose wsX5_holds := goodIn_r _ [13, 14, 22, 23, 24, 25, 26, 27, 28, 29, 30, 31, 32, 33, 34, 35, 36, 37, 38, 39, 40, 41, 42, 43] (by decide +kernel) (by decide +kernel)
set_option maxRecDepth 20000 in
theorem gX5_lose_X5_holds : GoodIn wsX5_lose (wsV RX5 97 RX5 yX5_holds wsX5_holds) := goodIn_app (goodIn_of _ (by decide +kernel)) ggX5_lose_X5_holds
set_option maxRecDepth 20000 in
theorem ggX5_lose_X5_removes : GoodIn wsX5_lose wsX5_removes := goodIn_r _ [18, 1, 19, 2, 20, 21, 22, 23, 24, 25, 26, 27, 28, 29, 30, 31, 32, 33, 34, 35, 36, 37, 38, 39, 40, 41, 42, 43] (by decide +kernel) (by decide +kernel)
set_option maxRecDepth 20000 in
theorem gX5_lose_X5_removes : GoodIn wsX5_lose (wsV RX5 112 RX5 yX5_removes wsX5_removes) := goodIn_app (goodIn_of _ (by decide +kernel)) ggX5_lose_X5_removes
theorem dX5_lose_0 : decode cX5_lose 0 = .ok (.aload_n 0, 1) := by decide +kernel
theorem dX5_lose_1 : decode cX5_lose 1 = .ok (.iload_n 1, 1) := by decide +kernel
theorem dX5_lose_2 : decode cX5_lose 2 = .ok (.invokestatic 90, 3) := by decide +kernel
theorem dX5_lose_5 : decode cX5_lose 5 = .ok (.ifCond .ne 7, 3) := by decide +kernel
theorem dX5_lose_8 : decode cX5_lose 8 = .ok (.iconst 1, 1) := by decide +kernel
theorem dX5_lose_9 : decode cX5_lose 9 = .ok (.goto 17, 3) := by decide +kernel
theorem dX5_lose_12 : decode cX5_lose 12 = .ok (.aload_n 0, 1) := by decide +kernel
theorem dX5_lose_13 : decode cX5_lose 13 = .ok (.getfield 57, 3) := by decide +kernel
theorem dX5_lose_16 : decode cX5_lose 16 = .ok (.iload_n 1, 1) := by decide +kernel
theorem dX5_lose_17 : decode cX5_lose 17 = .ok (.iaload, 1) := by decide +kernel
theorem dX5_lose_18 : decode cX5_lose 18 = .ok (.ifCond .ne 7, 3) := by decide +kernel
theorem dX5_lose_21 : decode cX5_lose 21 = .ok (.iconst 2, 1) := by decide +kernel
theorem dX5_lose_22 : decode cX5_lose 22 = .ok (.goto 4, 3) := by decide +kernel
theorem dX5_lose_25 : decode cX5_lose 25 = .ok (.iconst 0, 1) := by decide +kernel
theorem dX5_lose_26 : decode cX5_lose 26 = .ok (.invokevirtual 97, 3) := by decide +kernel
theorem dX5_lose_29 : decode cX5_lose 29 = .ok (.ifCond .ne 5, 3) := by decide +kernel
theorem dX5_lose_32 : decode cX5_lose 32 = .ok (.iconst 0, 1) := by decide +kernel
theorem dX5_lose_33 : decode cX5_lose 33 = .ok (.ireturn, 1) := by decide +kernel
theorem dX5_lose_34 : decode cX5_lose 34 = .ok (.aload_n 0, 1) := by decide +kernel
theorem dX5_lose_35 : decode cX5_lose 35 = .ok (.getfield 63, 3) := by decide +kernel
theorem dX5_lose_38 : decode cX5_lose 38 = .ok (.bipush 60, 2) := by decide +kernel
theorem dX5_lose_40 : decode cX5_lose 40 = .ok (.iload_n 1, 1) := by decide +kernel
theorem dX5_lose_41 : decode cX5_lose 41 = .ok (.imul, 1) := by decide +kernel
theorem dX5_lose_42 : decode cX5_lose 42 = .ok (.iaload, 1) := by decide +kernel
theorem dX5_lose_43 : decode cX5_lose 43 = .ok (.istore_n 2, 1) := by decide +kernel
theorem dX5_lose_44 : decode cX5_lose 44 = .ok (.aload_n 0, 1) := by decide +kernel
theorem dX5_lose_45 : decode cX5_lose 45 = .ok (.iload_n 1, 1) := by decide +kernel
theorem dX5_lose_46 : decode cX5_lose 46 = .ok (.invokevirtual 112, 3) := by decide +kernel
theorem dX5_lose_49 : decode cX5_lose 49 = .ok (.iload_n 2, 1) := by decide +kernel
theorem dX5_lose_50 : decode cX5_lose 50 = .ok (.ireturn, 1) := by decide +kernel
set_option maxRecDepth 20000 in
theorem ggX5_deliver_X5_isSide : GoodIn wsX5_deliver wsX5_isSide := goodIn_r _ [13, 14, 15, 12, 16] (by decide +kernel) (by decide +kernel)
set_option maxRecDepth 20000 in
theorem gX5_deliver_X5_isSide : GoodIn wsX5_deliver (va_wsS RX5 90 yX5_isSide wsX5_isSide) := goodIn_app (goodIn_of _ (by decide +kernel)) ggX5_deliver_X5_isSide
set_option maxRecDepth 20000 in
theorem ggX5_deliver_X5_holds : GoodIn wsX5_deliver wsX5_holds := goodIn_r _ [20, 21, 72, 73, 74, 75, 76, 77, 78, 79, 80, 81, 82, 83, 84, 85, 86, 87, 88, 89, 90, 91, 92, 93] (by decide +kernel) (by decide +kernel)
set_option maxRecDepth 20000 in
theorem gX5_deliver_X5_holds : GoodIn wsX5_deliver (wsV RX5 97 RX5 yX5_holds wsX5_holds) := goodIn_app (goodIn_of _ (by decide +kernel)) ggX5_deliver_X5_holds
set_option maxRecDepth 20000 in
theorem ggX5_deliver_X5_removes : GoodIn wsX5_deliver wsX5_removes := goodIn_r _ [25, 1, 2, 3, 4, 5, 72, 73, 74, 75, 76, 77, 78, 79, 80, 81, 82, 83, 84, 85, 86, 87, 88, 89, 90, 91, 92, 93] (by decide +kernel) (by decide +kernel)
set_option maxRecDepth 20000 in
theorem gX5_deliver_X5_removes : GoodIn wsX5_deliver (wsV RX5 112 RX5 yX5_removes wsX5_removes) := goodIn_app (goodIn_of _ (by decide +kernel)) ggX5_deliver_X5_removes
set_option maxRecDepth 20000 in
theorem ggX5_deliver_X5_comes : GoodIn wsX5_deliver wsX5_comes := goodIn_r _ [29, 30, 31, 9, 32, 7, 33, 34, 35, 36, 12, 37, 38, 39, 40, 41, 42, 43, 44, 45, 46, 47, 48, 49, 50, 51, 52, 53, 54, 55, 56, 57, 58, 59, 1, 2, 3, 4, 5, 60, 61, 62, 63, 64, 65, 66, 67, 68, 69, 70, 71, 72, 73, 74, 75, 76, 77, 78, 79, 80, 81, 82, 83, 84, 85, 86, 87, 88, 89, 90, 91, 92, 93] (by decide +kernel) (by decide +kernel)
set_option maxRecDepth 20000 in
theorem gX5_deliver_X5_comes : GoodIn wsX5_deliver (wsV RX5 115 RX5 yX5_comes wsX5_comes) := goodIn_app (goodIn_of _ (by decide +kernel)) ggX5_deliver_X5_comes
theorem dX5_deliver_0 : decode cX5_deliver 0 = .ok (.aload_n 0, 1) := by decide +kernel
theorem dX5_deliver_1 : decode cX5_deliver 1 = .ok (.iload_n 1, 1) := by decide +kernel
theorem dX5_deliver_2 : decode cX5_deliver 2 = .ok (.invokestatic 90, 3) := by decide +kernel
theorem dX5_deliver_5 : decode cX5_deliver 5 = .ok (.ifCond .ne 7, 3) := by decide +kernel
theorem dX5_deliver_8 : decode cX5_deliver 8 = .ok (.iconst 1, 1) := by decide +kernel
theorem dX5_deliver_9 : decode cX5_deliver 9 = .ok (.goto 17, 3) := by decide +kernel
theorem dX5_deliver_12 : decode cX5_deliver 12 = .ok (.aload_n 0, 1) := by decide +kernel
theorem dX5_deliver_13 : decode cX5_deliver 13 = .ok (.getfield 57, 3) := by decide +kernel
theorem dX5_deliver_16 : decode cX5_deliver 16 = .ok (.iload_n 1, 1) := by decide +kernel
theorem dX5_deliver_17 : decode cX5_deliver 17 = .ok (.iaload, 1) := by decide +kernel
theorem dX5_deliver_18 : decode cX5_deliver 18 = .ok (.ifCond .ne 7, 3) := by decide +kernel
theorem dX5_deliver_21 : decode cX5_deliver 21 = .ok (.iconst 2, 1) := by decide +kernel
theorem dX5_deliver_22 : decode cX5_deliver 22 = .ok (.goto 4, 3) := by decide +kernel
theorem dX5_deliver_25 : decode cX5_deliver 25 = .ok (.iconst 0, 1) := by decide +kernel
theorem dX5_deliver_26 : decode cX5_deliver 26 = .ok (.invokevirtual 97, 3) := by decide +kernel
theorem dX5_deliver_29 : decode cX5_deliver 29 = .ok (.ifCond .ne 5, 3) := by decide +kernel
theorem dX5_deliver_32 : decode cX5_deliver 32 = .ok (.iconst 0, 1) := by decide +kernel
theorem dX5_deliver_33 : decode cX5_deliver 33 = .ok (.ireturn, 1) := by decide +kernel
theorem dX5_deliver_34 : decode cX5_deliver 34 = .ok (.aload_n 0, 1) := by decide +kernel
theorem dX5_deliver_35 : decode cX5_deliver 35 = .ok (.getfield 60, 3) := by decide +kernel
theorem dX5_deliver_38 : decode cX5_deliver 38 = .ok (.bipush 60, 2) := by decide +kernel
theorem dX5_deliver_40 : decode cX5_deliver 40 = .ok (.iload_n 1, 1) := by decide +kernel
theorem dX5_deliver_41 : decode cX5_deliver 41 = .ok (.imul, 1) := by decide +kernel
theorem dX5_deliver_42 : decode cX5_deliver 42 = .ok (.iaload, 1) := by decide +kernel
theorem dX5_deliver_43 : decode cX5_deliver 43 = .ok (.istore_n 2, 1) := by decide +kernel
theorem dX5_deliver_44 : decode cX5_deliver 44 = .ok (.aload_n 0, 1) := by decide +kernel
theorem dX5_deliver_45 : decode cX5_deliver 45 = .ok (.getfield 63, 3) := by decide +kernel
theorem dX5_deliver_48 : decode cX5_deliver 48 = .ok (.bipush 60, 2) := by decide +kernel
theorem dX5_deliver_50 : decode cX5_deliver 50 = .ok (.iload_n 1, 1) := by decide +kernel
theorem dX5_deliver_51 : decode cX5_deliver 51 = .ok (.imul, 1) := by decide +kernel
theorem dX5_deliver_52 : decode cX5_deliver 52 = .ok (.iaload, 1) := by decide +kernel
theorem dX5_deliver_53 : decode cX5_deliver 53 = .ok (.istore_n 3, 1) := by decide +kernel
theorem dX5_deliver_54 : decode cX5_deliver 54 = .ok (.aload_n 0, 1) := by decide +kernel
theorem dX5_deliver_55 : decode cX5_deliver 55 = .ok (.getfield 66, 3) := by decide +kernel
theorem dX5_deliver_58 : decode cX5_deliver 58 = .ok (.bipush 60, 2) := by decide +kernel
theorem dX5_deliver_60 : decode cX5_deliver 60 = .ok (.iload_n 1, 1) := by decide +kernel
theorem dX5_deliver_61 : decode cX5_deliver 61 = .ok (.imul, 1) := by decide +kernel
theorem dX5_deliver_62 : decode cX5_deliver 62 = .ok (.iaload, 1) := by decide +kernel
theorem dX5_deliver_63 : decode cX5_deliver 63 = .ok (.istore 4, 2) := by decide +kernel
theorem dX5_deliver_65 : decode cX5_deliver 65 = .ok (.aload_n 0, 1) := by decide +kernel
theorem dX5_deliver_66 : decode cX5_deliver 66 = .ok (.getfield 69, 3) := by decide +kernel
theorem dX5_deliver_69 : decode cX5_deliver 69 = .ok (.bipush 60, 2) := by decide +kernel
theorem dX5_deliver_71 : decode cX5_deliver 71 = .ok (.iload_n 1, 1) := by decide +kernel
theorem dX5_deliver_72 : decode cX5_deliver 72 = .ok (.imul, 1) := by decide +kernel
theorem dX5_deliver_73 : decode cX5_deliver 73 = .ok (.iaload, 1) := by decide +kernel
theorem dX5_deliver_74 : decode cX5_deliver 74 = .ok (.istore 5, 2) := by decide +kernel
theorem dX5_deliver_76 : decode cX5_deliver 76 = .ok (.aload_n 0, 1) := by decide +kernel
theorem dX5_deliver_77 : decode cX5_deliver 77 = .ok (.iload_n 1, 1) := by decide +kernel
theorem dX5_deliver_78 : decode cX5_deliver 78 = .ok (.invokevirtual 112, 3) := by decide +kernel
theorem dX5_deliver_81 : decode cX5_deliver 81 = .ok (.aload_n 0, 1) := by decide +kernel
theorem dX5_deliver_82 : decode cX5_deliver 82 = .ok (.getfield 48, 3) := by decide +kernel
theorem dX5_deliver_85 : decode cX5_deliver 85 = .ok (.iload_n 1, 1) := by decide +kernel
theorem dX5_deliver_86 : decode cX5_deliver 86 = .ok (.aload_n 0, 1) := by decide +kernel
theorem dX5_deliver_87 : decode cX5_deliver 87 = .ok (.getfield 83, 3) := by decide +kernel
theorem dX5_deliver_90 : decode cX5_deliver 90 = .ok (.iastore, 1) := by decide +kernel
theorem dX5_deliver_91 : decode cX5_deliver 91 = .ok (.aload_n 0, 1) := by decide +kernel
theorem dX5_deliver_92 : decode cX5_deliver 92 = .ok (.getfield 51, 3) := by decide +kernel
theorem dX5_deliver_95 : decode cX5_deliver 95 = .ok (.iload_n 1, 1) := by decide +kernel
theorem dX5_deliver_96 : decode cX5_deliver 96 = .ok (.iconst 0, 1) := by decide +kernel
theorem dX5_deliver_97 : decode cX5_deliver 97 = .ok (.bastore, 1) := by decide +kernel
theorem dX5_deliver_98 : decode cX5_deliver 98 = .ok (.iload_n 3, 1) := by decide +kernel
theorem dX5_deliver_99 : decode cX5_deliver 99 = .ok (.ifCond .eq 13, 3) := by decide +kernel
theorem dX5_deliver_102 : decode cX5_deliver 102 = .ok (.aload_n 0, 1) := by decide +kernel
theorem dX5_deliver_103 : decode cX5_deliver 103 = .ok (.getfield 13, 3) := by decide +kernel
theorem dX5_deliver_106 : decode cX5_deliver 106 = .ok (.iload_n 1, 1) := by decide +kernel
theorem dX5_deliver_107 : decode cX5_deliver 107 = .ok (.iaload, 1) := by decide +kernel
theorem dX5_deliver_108 : decode cX5_deliver 108 = .ok (.iconst 2, 1) := by decide +kernel
theorem dX5_deliver_109 : decode cX5_deliver 109 = .ok (.if_icmp .ne 14, 3) := by decide +kernel
theorem dX5_deliver_112 : decode cX5_deliver 112 = .ok (.aload_n 0, 1) := by decide +kernel
theorem dX5_deliver_113 : decode cX5_deliver 113 = .ok (.iload_n 1, 1) := by decide +kernel
theorem dX5_deliver_114 : decode cX5_deliver 114 = .ok (.iload_n 2, 1) := by decide +kernel
theorem dX5_deliver_115 : decode cX5_deliver 115 = .ok (.iload_n 3, 1) := by decide +kernel
theorem dX5_deliver_116 : decode cX5_deliver 116 = .ok (.iload 4, 2) := by decide +kernel
theorem dX5_deliver_118 : decode cX5_deliver 118 = .ok (.iload 5, 2) := by decide +kernel
theorem dX5_deliver_120 : decode cX5_deliver 120 = .ok (.invokevirtual 115, 3) := by decide +kernel
theorem dX5_deliver_123 : decode cX5_deliver 123 = .ok (.iload_n 3, 1) := by decide +kernel
theorem dX5_deliver_124 : decode cX5_deliver 124 = .ok (.ireturn, 1) := by decide +kernel
set_option maxRecDepth 20000 in
theorem ggX5_comes_X5_handles : GoodIn wsX5_comes wsX5_handles := goodIn_r _ [11, 6, 12, 13, 14, 15, 10, 16, 17, 18, 19, 20, 3, 2, 21, 22, 23, 24, 25, 26, 27, 28, 29, 30, 31, 32, 33, 5, 34, 35, 36, 37, 38, 39, 40, 41, 42, 43, 44, 45, 46, 47, 48, 49, 50, 51, 52, 53, 54, 55, 56, 57, 58, 59, 60, 61, 62, 63, 64, 65, 66, 67, 68, 69, 70, 71, 72] (by decide +kernel) (by decide +kernel)
set_option maxRecDepth 20000 in
theorem gX5_comes_X5_handles : GoodIn wsX5_comes (wsV RX5 118 RX5 yX5_handles wsX5_handles) := goodIn_app (goodIn_of _ (by decide +kernel)) ggX5_comes_X5_handles
set_option maxRecDepth 20000 in
theorem ggX5_comes_X5_sends : GoodIn wsX5_comes wsX5_sends := goodIn_r _ [24, 25, 26, 27, 28, 29, 30, 31, 10, 32, 33, 5, 34, 35, 36, 37, 38, 51, 52, 53, 54, 55, 56, 57, 58, 59, 60, 61, 62, 63, 64, 65, 66, 67, 68, 69, 70, 71, 72] (by decide +kernel) (by decide +kernel)
set_option maxRecDepth 20000 in
theorem gX5_comes_X5_sends : GoodIn wsX5_comes (wsV RX5 100 RX5 yX5_sends wsX5_sends) := goodIn_app (goodIn_of _ (by decide +kernel)) ggX5_comes_X5_sends
set_option maxRecDepth 20000 in
theorem ggX5_comes_X5_has : GoodIn wsX5_comes wsX5_has := goodIn_r _ [16] (by decide +kernel) (by decide +kernel)
set_option maxRecDepth 20000 in
theorem gX5_comes_X5_has : GoodIn wsX5_comes (va_wsS RX5 121 yX5_has wsX5_has) := goodIn_app (goodIn_of _ (by decide +kernel)) ggX5_comes_X5_has
set_option maxRecDepth 20000 in
theorem ggX5_comes_X5_turnsOff : GoodIn wsX5_comes wsX5_turnsOff := goodIn_r _ [46, 3, 2, 51, 52, 53, 54, 55, 56, 57, 58, 59, 60, 61, 62, 63, 64, 65, 66, 67, 68, 69, 70, 71, 72] (by decide +kernel) (by decide +kernel)
set_option maxRecDepth 20000 in
theorem gX5_comes_X5_turnsOff : GoodIn wsX5_comes (wsV RX5 104 RX5 yX5_turnsOff wsX5_turnsOff) := goodIn_app (goodIn_of _ (by decide +kernel)) ggX5_comes_X5_turnsOff
theorem dX5_comes_0 : decode cX5_comes 0 = .ok (.iload_n 2, 1) := by decide +kernel
theorem dX5_comes_1 : decode cX5_comes 1 = .ok (.aload_n 0, 1) := by decide +kernel
theorem dX5_comes_2 : decode cX5_comes 2 = .ok (.getfield 20, 3) := by decide +kernel
theorem dX5_comes_5 : decode cX5_comes 5 = .ok (.iload_n 1, 1) := by decide +kernel
theorem dX5_comes_6 : decode cX5_comes 6 = .ok (.iaload, 1) := by decide +kernel
theorem dX5_comes_7 : decode cX5_comes 7 = .ok (.if_icmp .ne 42, 3) := by decide +kernel
theorem dX5_comes_10 : decode cX5_comes 10 = .ok (.aload_n 0, 1) := by decide +kernel
theorem dX5_comes_11 : decode cX5_comes 11 = .ok (.getfield 20, 3) := by decide +kernel
theorem dX5_comes_14 : decode cX5_comes 14 = .ok (.iload_n 1, 1) := by decide +kernel
theorem dX5_comes_15 : decode cX5_comes 15 = .ok (.iload_n 3, 1) := by decide +kernel
theorem dX5_comes_16 : decode cX5_comes 16 = .ok (.iconst 4, 1) := by decide +kernel
theorem dX5_comes_17 : decode cX5_comes 17 = .ok (.if_icmp .ne 8, 3) := by decide +kernel
theorem dX5_comes_20 : decode cX5_comes 20 = .ok (.iload 4, 2) := by decide +kernel
theorem dX5_comes_22 : decode cX5_comes 22 = .ok (.goto 6, 3) := by decide +kernel
theorem dX5_comes_25 : decode cX5_comes 25 = .ok (.iload_n 2, 1) := by decide +kernel
theorem dX5_comes_26 : decode cX5_comes 26 = .ok (.iconst 1, 1) := by decide +kernel
theorem dX5_comes_27 : decode cX5_comes 27 = .ok (.iadd, 1) := by decide +kernel
theorem dX5_comes_28 : decode cX5_comes 28 = .ok (.iastore, 1) := by decide +kernel
theorem dX5_comes_29 : decode cX5_comes 29 = .ok (.aload_n 0, 1) := by decide +kernel
theorem dX5_comes_30 : decode cX5_comes 30 = .ok (.getfield 41, 3) := by decide +kernel
theorem dX5_comes_33 : decode cX5_comes 33 = .ok (.iload_n 1, 1) := by decide +kernel
theorem dX5_comes_34 : decode cX5_comes 34 = .ok (.iconst 0, 1) := by decide +kernel
theorem dX5_comes_35 : decode cX5_comes 35 = .ok (.bastore, 1) := by decide +kernel
theorem dX5_comes_36 : decode cX5_comes 36 = .ok (.aload_n 0, 1) := by decide +kernel
theorem dX5_comes_37 : decode cX5_comes 37 = .ok (.iload_n 1, 1) := by decide +kernel
theorem dX5_comes_38 : decode cX5_comes 38 = .ok (.iload_n 3, 1) := by decide +kernel
theorem dX5_comes_39 : decode cX5_comes 39 = .ok (.iload 4, 2) := by decide +kernel
theorem dX5_comes_41 : decode cX5_comes 41 = .ok (.iload 5, 2) := by decide +kernel
theorem dX5_comes_43 : decode cX5_comes 43 = .ok (.invokevirtual 118, 3) := by decide +kernel
theorem dX5_comes_46 : decode cX5_comes 46 = .ok (.goto 111, 3) := by decide +kernel
theorem dX5_comes_49 : decode cX5_comes 49 = .ok (.iload_n 2, 1) := by decide +kernel
theorem dX5_comes_50 : decode cX5_comes 50 = .ok (.aload_n 0, 1) := by decide +kernel
theorem dX5_comes_51 : decode cX5_comes 51 = .ok (.getfield 20, 3) := by decide +kernel
theorem dX5_comes_54 : decode cX5_comes 54 = .ok (.iload_n 1, 1) := by decide +kernel
theorem dX5_comes_55 : decode cX5_comes 55 = .ok (.iaload, 1) := by decide +kernel
theorem dX5_comes_56 : decode cX5_comes 56 = .ok (.if_icmp .le 74, 3) := by decide +kernel
theorem dX5_comes_59 : decode cX5_comes 59 = .ok (.iload_n 3, 1) := by decide +kernel
theorem dX5_comes_60 : decode cX5_comes 60 = .ok (.ifCond .eq 8, 3) := by decide +kernel
theorem dX5_comes_63 : decode cX5_comes 63 = .ok (.iload_n 3, 1) := by decide +kernel
theorem dX5_comes_64 : decode cX5_comes 64 = .ok (.iconst 3, 1) := by decide +kernel
theorem dX5_comes_65 : decode cX5_comes 65 = .ok (.if_icmp .ne 13, 3) := by decide +kernel
theorem dX5_comes_68 : decode cX5_comes 68 = .ok (.aload_n 0, 1) := by decide +kernel
theorem dX5_comes_69 : decode cX5_comes 69 = .ok (.iload_n 1, 1) := by decide +kernel
theorem dX5_comes_70 : decode cX5_comes 70 = .ok (.iload_n 3, 1) := by decide +kernel
theorem dX5_comes_71 : decode cX5_comes 71 = .ok (.iload 4, 2) := by decide +kernel
theorem dX5_comes_73 : decode cX5_comes 73 = .ok (.iload 5, 2) := by decide +kernel
theorem dX5_comes_75 : decode cX5_comes 75 = .ok (.invokevirtual 118, 3) := by decide +kernel
theorem dX5_comes_78 : decode cX5_comes 78 = .ok (.aload_n 0, 1) := by decide +kernel
theorem dX5_comes_79 : decode cX5_comes 79 = .ok (.getfield 13, 3) := by decide +kernel
theorem dX5_comes_82 : decode cX5_comes 82 = .ok (.iload_n 1, 1) := by decide +kernel
theorem dX5_comes_83 : decode cX5_comes 83 = .ok (.iaload, 1) := by decide +kernel
theorem dX5_comes_84 : decode cX5_comes 84 = .ok (.iconst 2, 1) := by decide +kernel
theorem dX5_comes_85 : decode cX5_comes 85 = .ok (.if_icmp .ne 72, 3) := by decide +kernel
theorem dX5_comes_88 : decode cX5_comes 88 = .ok (.aload_n 0, 1) := by decide +kernel
theorem dX5_comes_89 : decode cX5_comes 89 = .ok (.getfield 41, 3) := by decide +kernel
theorem dX5_comes_92 : decode cX5_comes 92 = .ok (.iload_n 1, 1) := by decide +kernel
theorem dX5_comes_93 : decode cX5_comes 93 = .ok (.baload, 1) := by decide +kernel
theorem dX5_comes_94 : decode cX5_comes 94 = .ok (.ifCond .ne 63, 3) := by decide +kernel
theorem dX5_comes_97 : decode cX5_comes 97 = .ok (.aload_n 0, 1) := by decide +kernel
theorem dX5_comes_98 : decode cX5_comes 98 = .ok (.iload_n 1, 1) := by decide +kernel
theorem dX5_comes_99 : decode cX5_comes 99 = .ok (.iconst 3, 1) := by decide +kernel
theorem dX5_comes_100 : decode cX5_comes 100 = .ok (.aload_n 0, 1) := by decide +kernel
theorem dX5_comes_101 : decode cX5_comes 101 = .ok (.getfield 20, 3) := by decide +kernel
theorem dX5_comes_104 : decode cX5_comes 104 = .ok (.iload_n 1, 1) := by decide +kernel
theorem dX5_comes_105 : decode cX5_comes 105 = .ok (.iaload, 1) := by decide +kernel
theorem dX5_comes_106 : decode cX5_comes 106 = .ok (.iconst 0, 1) := by decide +kernel
theorem dX5_comes_107 : decode cX5_comes 107 = .ok (.invokevirtual 100, 3) := by decide +kernel
theorem dX5_comes_110 : decode cX5_comes 110 = .ok (.aload_n 0, 1) := by decide +kernel
theorem dX5_comes_111 : decode cX5_comes 111 = .ok (.getfield 41, 3) := by decide +kernel
theorem dX5_comes_114 : decode cX5_comes 114 = .ok (.iload_n 1, 1) := by decide +kernel
theorem dX5_comes_115 : decode cX5_comes 115 = .ok (.iconst 1, 1) := by decide +kernel
theorem dX5_comes_116 : decode cX5_comes 116 = .ok (.bastore, 1) := by decide +kernel
theorem dX5_comes_117 : decode cX5_comes 117 = .ok (.aload_n 0, 1) := by decide +kernel
theorem dX5_comes_118 : decode cX5_comes 118 = .ok (.getfield 45, 3) := by decide +kernel
theorem dX5_comes_121 : decode cX5_comes 121 = .ok (.iload_n 1, 1) := by decide +kernel
theorem dX5_comes_122 : decode cX5_comes 122 = .ok (.aload_n 0, 1) := by decide +kernel
theorem dX5_comes_123 : decode cX5_comes 123 = .ok (.getfield 83, 3) := by decide +kernel
theorem dX5_comes_126 : decode cX5_comes 126 = .ok (.iastore, 1) := by decide +kernel
theorem dX5_comes_127 : decode cX5_comes 127 = .ok (.goto 30, 3) := by decide +kernel
theorem dX5_comes_130 : decode cX5_comes 130 = .ok (.iload 5, 2) := by decide +kernel
theorem dX5_comes_132 : decode cX5_comes 132 = .ok (.iconst 1, 1) := by decide +kernel
theorem dX5_comes_133 : decode cX5_comes 133 = .ok (.invokestatic 121, 3) := by decide +kernel
theorem dX5_comes_136 : decode cX5_comes 136 = .ok (.ifCond .eq 16, 3) := by decide +kernel
theorem dX5_comes_139 : decode cX5_comes 139 = .ok (.aload_n 0, 1) := by decide +kernel
theorem dX5_comes_140 : decode cX5_comes 140 = .ok (.getfield 38, 3) := by decide +kernel
theorem dX5_comes_143 : decode cX5_comes 143 = .ok (.iload_n 1, 1) := by decide +kernel
theorem dX5_comes_144 : decode cX5_comes 144 = .ok (.dup2, 1) := by decide +kernel
theorem dX5_comes_145 : decode cX5_comes 145 = .ok (.iaload, 1) := by decide +kernel
theorem dX5_comes_146 : decode cX5_comes 146 = .ok (.iconst 1, 1) := by decide +kernel
theorem dX5_comes_147 : decode cX5_comes 147 = .ok (.iadd, 1) := by decide +kernel
theorem dX5_comes_148 : decode cX5_comes 148 = .ok (.iastore, 1) := by decide +kernel
theorem dX5_comes_149 : decode cX5_comes 149 = .ok (.goto 8, 3) := by decide +kernel
theorem dX5_comes_152 : decode cX5_comes 152 = .ok (.aload_n 0, 1) := by decide +kernel
theorem dX5_comes_153 : decode cX5_comes 153 = .ok (.iload_n 1, 1) := by decide +kernel
theorem dX5_comes_154 : decode cX5_comes 154 = .ok (.invokevirtual 104, 3) := by decide +kernel
theorem dX5_comes_157 : decode cX5_comes 157 = .ok (.return_, 1) := by decide +kernel
theorem dX5_wasHandled_0 : decode cX5_wasHandled 0 = .ok (.iconst 0, 1) := by decide +kernel
theorem dX5_wasHandled_1 : decode cX5_wasHandled 1 = .ok (.istore_n 3, 1) := by decide +kernel
theorem dX5_wasHandled_2 : decode cX5_wasHandled 2 = .ok (.iload_n 3, 1) := by decide +kernel
theorem dX5_wasHandled_3 : decode cX5_wasHandled 3 = .ok (.aload_n 0, 1) := by decide +kernel
theorem dX5_wasHandled_4 : decode cX5_wasHandled 4 = .ok (.getfield 35, 3) := by decide +kernel
theorem dX5_wasHandled_7 : decode cX5_wasHandled 7 = .ok (.iload_n 1, 1) := by decide +kernel
theorem dX5_wasHandled_8 : decode cX5_wasHandled 8 = .ok (.iaload, 1) := by decide +kernel
theorem dX5_wasHandled_9 : decode cX5_wasHandled 9 = .ok (.if_icmp .ge 27, 3) := by decide +kernel
theorem dX5_wasHandled_12 : decode cX5_wasHandled 12 = .ok (.aload_n 0, 1) := by decide +kernel
theorem dX5_wasHandled_13 : decode cX5_wasHandled 13 = .ok (.getfield 32, 3) := by decide +kernel
theorem dX5_wasHandled_16 : decode cX5_wasHandled 16 = .ok (.sipush 201, 3) := by decide +kernel
theorem dX5_wasHandled_19 : decode cX5_wasHandled 19 = .ok (.iload_n 1, 1) := by decide +kernel
theorem dX5_wasHandled_20 : decode cX5_wasHandled 20 = .ok (.imul, 1) := by decide +kernel
theorem dX5_wasHandled_21 : decode cX5_wasHandled 21 = .ok (.iload_n 3, 1) := by decide +kernel
theorem dX5_wasHandled_22 : decode cX5_wasHandled 22 = .ok (.iadd, 1) := by decide +kernel
theorem dX5_wasHandled_23 : decode cX5_wasHandled 23 = .ok (.iaload, 1) := by decide +kernel
theorem dX5_wasHandled_24 : decode cX5_wasHandled 24 = .ok (.iload_n 2, 1) := by decide +kernel
theorem dX5_wasHandled_25 : decode cX5_wasHandled 25 = .ok (.if_icmp .ne 5, 3) := by decide +kernel
theorem dX5_wasHandled_28 : decode cX5_wasHandled 28 = .ok (.iconst 1, 1) := by decide +kernel
theorem dX5_wasHandled_29 : decode cX5_wasHandled 29 = .ok (.ireturn, 1) := by decide +kernel
theorem dX5_wasHandled_30 : decode cX5_wasHandled 30 = .ok (.iinc 3 1, 3) := by decide +kernel
theorem dX5_wasHandled_33 : decode cX5_wasHandled 33 = .ok (.goto (-31), 3) := by decide +kernel
theorem dX5_wasHandled_36 : decode cX5_wasHandled 36 = .ok (.iconst 0, 1) := by decide +kernel
theorem dX5_wasHandled_37 : decode cX5_wasHandled 37 = .ok (.ireturn, 1) := by decide +kernel
set_option maxRecDepth 20000 in
theorem ggX5_handles_X5_has : GoodIn wsX5_handles wsX5_has := goodIn_r _ [7] (by decide +kernel) (by decide +kernel)
set_option maxRecDepth 20000 in
theorem gX5_handles_X5_has : GoodIn wsX5_handles (va_wsS RX5 121 yX5_has wsX5_has) := goodIn_app (goodIn_of _ (by decide +kernel)) ggX5_handles_X5_has
set_option maxRecDepth 20000 in
theorem ggX5_handles_X5_logsOn : GoodIn wsX5_handles wsX5_logsOn := goodIn_r _ [11, 12, 13, 14, 15, 16, 6, 17, 18, 19, 20, 21, 22, 23, 24, 25, 26, 27, 28, 29, 30, 31, 32, 45, 46, 47, 48, 49, 50, 51, 52, 53, 54, 55, 56, 57, 58, 59, 60, 61, 62, 63, 64, 65, 66] (by decide +kernel) (by decide +kernel)
set_option maxRecDepth 20000 in
theorem gX5_handles_X5_logsOn : GoodIn wsX5_handles (wsV RX5 125 RX5 yX5_logsOn wsX5_logsOn) := goodIn_app (goodIn_of _ (by decide +kernel)) ggX5_handles_X5_logsOn
set_option maxRecDepth 20000 in
theorem ggX5_handles_X5_sends : GoodIn wsX5_handles wsX5_sends := goodIn_r _ [17, 18, 19, 20, 21, 22, 23, 24, 6, 25, 26, 27, 28, 29, 30, 31, 32, 45, 46, 47, 48, 49, 50, 51, 52, 53, 54, 55, 56, 57, 58, 59, 60, 61, 62, 63, 64, 65, 66] (by decide +kernel) (by decide +kernel)
set_option maxRecDepth 20000 in
theorem gX5_handles_X5_sends : GoodIn wsX5_handles (wsV RX5 100 RX5 yX5_sends wsX5_sends) := goodIn_app (goodIn_of _ (by decide +kernel)) ggX5_handles_X5_sends
set_option maxRecDepth 20000 in
theorem ggX5_handles_X5_answers : GoodIn wsX5_handles wsX5_answers := goodIn_r _ [36, 18, 19, 20, 21, 22, 23, 24, 6, 25, 26, 27, 28, 29, 30, 31, 32, 45, 46, 47, 48, 49, 50, 51, 52, 53, 54, 55, 56, 57, 58, 59, 60, 61, 62, 63, 64, 65, 66] (by decide +kernel) (by decide +kernel)
set_option maxRecDepth 20000 in
theorem gX5_handles_X5_answers : GoodIn wsX5_handles (wsV RX5 129 RX5 yX5_answers wsX5_answers) := goodIn_app (goodIn_of _ (by decide +kernel)) ggX5_handles_X5_answers
set_option maxRecDepth 20000 in
theorem ggX5_handles_X5_turnsOff : GoodIn wsX5_handles wsX5_turnsOff := goodIn_r _ [40, 12, 13, 45, 46, 47, 48, 49, 50, 51, 52, 53, 54, 55, 56, 57, 58, 59, 60, 61, 62, 63, 64, 65, 66] (by decide +kernel) (by decide +kernel)
set_option maxRecDepth 20000 in
theorem gX5_handles_X5_turnsOff : GoodIn wsX5_handles (wsV RX5 104 RX5 yX5_turnsOff wsX5_turnsOff) := goodIn_app (goodIn_of _ (by decide +kernel)) ggX5_handles_X5_turnsOff
set_option maxRecDepth 20000 in
theorem ggX5_handles_X5_wasHandled : GoodIn wsX5_handles wsX5_wasHandled := goodIn_r _ [44, 3, 2, 45, 46, 47, 48, 49, 50, 51, 52, 53, 54, 55, 56, 57, 58, 59, 60, 61, 62, 63, 64, 65, 66] (by decide +kernel) (by decide +kernel)
set_option maxRecDepth 20000 in
theorem gX5_handles_X5_wasHandled : GoodIn wsX5_handles (wsV RX5 133 RX5 yX5_wasHandled wsX5_wasHandled) := goodIn_app (goodIn_of _ (by decide +kernel)) ggX5_handles_X5_wasHandled
theorem dX5_handles_0 : decode cX5_handles 0 = .ok (.iload_n 2, 1) := by decide +kernel
theorem dX5_handles_1 : decode cX5_handles 1 = .ok (.ifCond .ne 17, 3) := by decide +kernel
theorem dX5_handles_4 : decode cX5_handles 4 = .ok (.aload_n 0, 1) := by decide +kernel
theorem dX5_handles_5 : decode cX5_handles 5 = .ok (.iload_n 1, 1) := by decide +kernel
theorem dX5_handles_6 : decode cX5_handles 6 = .ok (.iload 4, 2) := by decide +kernel
theorem dX5_handles_8 : decode cX5_handles 8 = .ok (.iconst 4, 1) := by decide +kernel
theorem dX5_handles_9 : decode cX5_handles 9 = .ok (.invokestatic 121, 3) := by decide +kernel
theorem dX5_handles_12 : decode cX5_handles 12 = .ok (.invokevirtual 125, 3) := by decide +kernel
theorem dX5_handles_15 : decode cX5_handles 15 = .ok (.goto 125, 3) := by decide +kernel
theorem dX5_handles_18 : decode cX5_handles 18 = .ok (.iload_n 2, 1) := by decide +kernel
theorem dX5_handles_19 : decode cX5_handles 19 = .ok (.iconst 2, 1) := by decide +kernel
theorem dX5_handles_20 : decode cX5_handles 20 = .ok (.if_icmp .ne 14, 3) := by decide +kernel
theorem dX5_handles_23 : decode cX5_handles 23 = .ok (.aload_n 0, 1) := by decide +kernel
theorem dX5_handles_24 : decode cX5_handles 24 = .ok (.iload_n 1, 1) := by decide +kernel
theorem dX5_handles_25 : decode cX5_handles 25 = .ok (.iconst 1, 1) := by decide +kernel
theorem dX5_handles_26 : decode cX5_handles 26 = .ok (.iconst 0, 1) := by decide +kernel
theorem dX5_handles_27 : decode cX5_handles 27 = .ok (.iconst 0, 1) := by decide +kernel
theorem dX5_handles_28 : decode cX5_handles 28 = .ok (.invokevirtual 100, 3) := by decide +kernel
theorem dX5_handles_31 : decode cX5_handles 31 = .ok (.goto 109, 3) := by decide +kernel
theorem dX5_handles_34 : decode cX5_handles 34 = .ok (.iload_n 2, 1) := by decide +kernel
theorem dX5_handles_35 : decode cX5_handles 35 = .ok (.iconst 3, 1) := by decide +kernel
theorem dX5_handles_36 : decode cX5_handles 36 = .ok (.if_icmp .ne 12, 3) := by decide +kernel
theorem dX5_handles_39 : decode cX5_handles 39 = .ok (.aload_n 0, 1) := by decide +kernel
theorem dX5_handles_40 : decode cX5_handles 40 = .ok (.iload_n 1, 1) := by decide +kernel
theorem dX5_handles_41 : decode cX5_handles 41 = .ok (.iload_n 3, 1) := by decide +kernel
theorem dX5_handles_42 : decode cX5_handles 42 = .ok (.invokevirtual 129, 3) := by decide +kernel
theorem dX5_handles_45 : decode cX5_handles 45 = .ok (.goto 95, 3) := by decide +kernel
theorem dX5_handles_48 : decode cX5_handles 48 = .ok (.iload_n 2, 1) := by decide +kernel
theorem dX5_handles_49 : decode cX5_handles 49 = .ok (.bipush 6, 2) := by decide +kernel
theorem dX5_handles_51 : decode cX5_handles 51 = .ok (.if_icmp .ne 20, 3) := by decide +kernel
theorem dX5_handles_54 : decode cX5_handles 54 = .ok (.aload_n 0, 1) := by decide +kernel
theorem dX5_handles_55 : decode cX5_handles 55 = .ok (.iload_n 1, 1) := by decide +kernel
theorem dX5_handles_56 : decode cX5_handles 56 = .ok (.bipush 6, 2) := by decide +kernel
theorem dX5_handles_58 : decode cX5_handles 58 = .ok (.iconst 0, 1) := by decide +kernel
theorem dX5_handles_59 : decode cX5_handles 59 = .ok (.iconst 0, 1) := by decide +kernel
theorem dX5_handles_60 : decode cX5_handles 60 = .ok (.invokevirtual 100, 3) := by decide +kernel
theorem dX5_handles_63 : decode cX5_handles 63 = .ok (.aload_n 0, 1) := by decide +kernel
theorem dX5_handles_64 : decode cX5_handles 64 = .ok (.iload_n 1, 1) := by decide +kernel
theorem dX5_handles_65 : decode cX5_handles 65 = .ok (.invokevirtual 104, 3) := by decide +kernel
theorem dX5_handles_68 : decode cX5_handles 68 = .ok (.goto 72, 3) := by decide +kernel
theorem dX5_handles_71 : decode cX5_handles 71 = .ok (.iload_n 2, 1) := by decide +kernel
theorem dX5_handles_72 : decode cX5_handles 72 = .ok (.iconst 5, 1) := by decide +kernel
theorem dX5_handles_73 : decode cX5_handles 73 = .ok (.if_icmp .ne 34, 3) := by decide +kernel
theorem dX5_handles_76 : decode cX5_handles 76 = .ok (.iload 4, 2) := by decide +kernel
theorem dX5_handles_78 : decode cX5_handles 78 = .ok (.iconst 2, 1) := by decide +kernel
theorem dX5_handles_79 : decode cX5_handles 79 = .ok (.invokestatic 121, 3) := by decide +kernel
theorem dX5_handles_82 : decode cX5_handles 82 = .ok (.ifCond .eq 25, 3) := by decide +kernel
theorem dX5_handles_85 : decode cX5_handles 85 = .ok (.aload_n 0, 1) := by decide +kernel
theorem dX5_handles_86 : decode cX5_handles 86 = .ok (.iload_n 1, 1) := by decide +kernel
theorem dX5_handles_87 : decode cX5_handles 87 = .ok (.iload_n 3, 1) := by decide +kernel
theorem dX5_handles_88 : decode cX5_handles 88 = .ok (.invokevirtual 133, 3) := by decide +kernel
theorem dX5_handles_91 : decode cX5_handles 91 = .ok (.ifCond .eq 16, 3) := by decide +kernel
theorem dX5_handles_94 : decode cX5_handles 94 = .ok (.aload_n 0, 1) := by decide +kernel
theorem dX5_handles_95 : decode cX5_handles 95 = .ok (.getfield 38, 3) := by decide +kernel
theorem dX5_handles_98 : decode cX5_handles 98 = .ok (.iload_n 1, 1) := by decide +kernel
theorem dX5_handles_99 : decode cX5_handles 99 = .ok (.dup2, 1) := by decide +kernel
theorem dX5_handles_100 : decode cX5_handles 100 = .ok (.iaload, 1) := by decide +kernel
theorem dX5_handles_101 : decode cX5_handles 101 = .ok (.iconst 1, 1) := by decide +kernel
theorem dX5_handles_102 : decode cX5_handles 102 = .ok (.iadd, 1) := by decide +kernel
theorem dX5_handles_103 : decode cX5_handles 103 = .ok (.iastore, 1) := by decide +kernel
theorem dX5_handles_104 : decode cX5_handles 104 = .ok (.goto 36, 3) := by decide +kernel
theorem dX5_handles_107 : decode cX5_handles 107 = .ok (.iload_n 2, 1) := by decide +kernel
theorem dX5_handles_108 : decode cX5_handles 108 = .ok (.iconst 5, 1) := by decide +kernel
theorem dX5_handles_109 : decode cX5_handles 109 = .ok (.if_icmp .ne 31, 3) := by decide +kernel
theorem dX5_handles_112 : decode cX5_handles 112 = .ok (.aload_n 0, 1) := by decide +kernel
theorem dX5_handles_113 : decode cX5_handles 113 = .ok (.getfield 32, 3) := by decide +kernel
theorem dX5_handles_116 : decode cX5_handles 116 = .ok (.sipush 201, 3) := by decide +kernel
theorem dX5_handles_119 : decode cX5_handles 119 = .ok (.iload_n 1, 1) := by decide +kernel
theorem dX5_handles_120 : decode cX5_handles 120 = .ok (.imul, 1) := by decide +kernel
theorem dX5_handles_121 : decode cX5_handles 121 = .ok (.aload_n 0, 1) := by decide +kernel
theorem dX5_handles_122 : decode cX5_handles 122 = .ok (.getfield 35, 3) := by decide +kernel
theorem dX5_handles_125 : decode cX5_handles 125 = .ok (.iload_n 1, 1) := by decide +kernel
theorem dX5_handles_126 : decode cX5_handles 126 = .ok (.iaload, 1) := by decide +kernel
theorem dX5_handles_127 : decode cX5_handles 127 = .ok (.iadd, 1) := by decide +kernel
theorem dX5_handles_128 : decode cX5_handles 128 = .ok (.iload_n 3, 1) := by decide +kernel
theorem dX5_handles_129 : decode cX5_handles 129 = .ok (.iastore, 1) := by decide +kernel
theorem dX5_handles_130 : decode cX5_handles 130 = .ok (.aload_n 0, 1) := by decide +kernel
theorem dX5_handles_131 : decode cX5_handles 131 = .ok (.getfield 35, 3) := by decide +kernel
theorem dX5_handles_134 : decode cX5_handles 134 = .ok (.iload_n 1, 1) := by decide +kernel
theorem dX5_handles_135 : decode cX5_handles 135 = .ok (.dup2, 1) := by decide +kernel
theorem dX5_handles_136 : decode cX5_handles 136 = .ok (.iaload, 1) := by decide +kernel
theorem dX5_handles_137 : decode cX5_handles 137 = .ok (.iconst 1, 1) := by decide +kernel
theorem dX5_handles_138 : decode cX5_handles 138 = .ok (.iadd, 1) := by decide +kernel
theorem dX5_handles_139 : decode cX5_handles 139 = .ok (.iastore, 1) := by decide +kernel
theorem dX5_handles_140 : decode cX5_handles 140 = .ok (.return_, 1) := by decide +kernel
set_option maxRecDepth 20000 in
theorem ggX5_logsOn_X5_sends : GoodIn wsX5_logsOn wsX5_sends := goodIn_r _ [7, 8, 9, 10, 11, 12, 13, 14, 6, 15, 16, 17, 18, 19, 20, 21, 22, 23, 24, 25, 26, 27, 28, 29, 30, 31, 32, 33, 34, 35, 36, 37, 38, 39, 40, 41, 42, 43, 44] (by decide +kernel) (by decide +kernel)
set_option maxRecDepth 20000 in
theorem gX5_logsOn_X5_sends : GoodIn wsX5_logsOn (wsV RX5 100 RX5 yX5_sends wsX5_sends) := goodIn_app (goodIn_of _ (by decide +kernel)) ggX5_logsOn_X5_sends
theorem dX5_logsOn_0 : decode cX5_logsOn 0 = .ok (.iload_n 2, 1) := by decide +kernel
theorem dX5_logsOn_1 : decode cX5_logsOn 1 = .ok (.ifCond .eq 28, 3) := by decide +kernel
theorem dX5_logsOn_4 : decode cX5_logsOn 4 = .ok (.aload_n 0, 1) := by decide +kernel
theorem dX5_logsOn_5 : decode cX5_logsOn 5 = .ok (.getfield 13, 3) := by decide +kernel
theorem dX5_logsOn_8 : decode cX5_logsOn 8 = .ok (.iload_n 1, 1) := by decide +kernel
theorem dX5_logsOn_9 : decode cX5_logsOn 9 = .ok (.iconst 2, 1) := by decide +kernel
theorem dX5_logsOn_10 : decode cX5_logsOn 10 = .ok (.iastore, 1) := by decide +kernel
theorem dX5_logsOn_11 : decode cX5_logsOn 11 = .ok (.aload_n 0, 1) := by decide +kernel
theorem dX5_logsOn_12 : decode cX5_logsOn 12 = .ok (.getfield 41, 3) := by decide +kernel
theorem dX5_logsOn_15 : decode cX5_logsOn 15 = .ok (.iload_n 1, 1) := by decide +kernel
theorem dX5_logsOn_16 : decode cX5_logsOn 16 = .ok (.iconst 0, 1) := by decide +kernel
theorem dX5_logsOn_17 : decode cX5_logsOn 17 = .ok (.bastore, 1) := by decide +kernel
theorem dX5_logsOn_18 : decode cX5_logsOn 18 = .ok (.aload_n 0, 1) := by decide +kernel
theorem dX5_logsOn_19 : decode cX5_logsOn 19 = .ok (.iload_n 1, 1) := by decide +kernel
theorem dX5_logsOn_20 : decode cX5_logsOn 20 = .ok (.iconst 0, 1) := by decide +kernel
theorem dX5_logsOn_21 : decode cX5_logsOn 21 = .ok (.iconst 0, 1) := by decide +kernel
theorem dX5_logsOn_22 : decode cX5_logsOn 22 = .ok (.iconst 0, 1) := by decide +kernel
theorem dX5_logsOn_23 : decode cX5_logsOn 23 = .ok (.invokevirtual 100, 3) := by decide +kernel
theorem dX5_logsOn_26 : decode cX5_logsOn 26 = .ok (.goto 20, 3) := by decide +kernel
theorem dX5_logsOn_29 : decode cX5_logsOn 29 = .ok (.aload_n 0, 1) := by decide +kernel
theorem dX5_logsOn_30 : decode cX5_logsOn 30 = .ok (.getfield 13, 3) := by decide +kernel
theorem dX5_logsOn_33 : decode cX5_logsOn 33 = .ok (.iload_n 1, 1) := by decide +kernel
theorem dX5_logsOn_34 : decode cX5_logsOn 34 = .ok (.iaload, 1) := by decide +kernel
theorem dX5_logsOn_35 : decode cX5_logsOn 35 = .ok (.iconst 1, 1) := by decide +kernel
theorem dX5_logsOn_36 : decode cX5_logsOn 36 = .ok (.if_icmp .ne 10, 3) := by decide +kernel
theorem dX5_logsOn_39 : decode cX5_logsOn 39 = .ok (.aload_n 0, 1) := by decide +kernel
theorem dX5_logsOn_40 : decode cX5_logsOn 40 = .ok (.getfield 13, 3) := by decide +kernel
theorem dX5_logsOn_43 : decode cX5_logsOn 43 = .ok (.iload_n 1, 1) := by decide +kernel
theorem dX5_logsOn_44 : decode cX5_logsOn 44 = .ok (.iconst 2, 1) := by decide +kernel
theorem dX5_logsOn_45 : decode cX5_logsOn 45 = .ok (.iastore, 1) := by decide +kernel
theorem dX5_logsOn_46 : decode cX5_logsOn 46 = .ok (.return_, 1) := by decide +kernel
set_option maxRecDepth 20000 in
theorem ggX5_answers_X5_puts : GoodIn wsX5_answers wsX5_puts := goodIn_r _ [9, 10, 11, 12, 13, 14, 15, 16, 17, 18, 19, 20, 21, 22, 23, 24, 25, 26, 27, 28, 29, 30, 31, 32, 33, 34, 35, 36, 37, 38] (by decide +kernel) (by decide +kernel)
set_option maxRecDepth 20000 in
theorem gX5_answers_X5_puts : GoodIn wsX5_answers (wsV RX5 86 RX5 yX5_puts wsX5_puts) := goodIn_app (goodIn_of _ (by decide +kernel)) ggX5_answers_X5_puts
theorem dX5_answers_0 : decode cX5_answers 0 = .ok (.iconst (-1), 1) := by decide +kernel
theorem dX5_answers_1 : decode cX5_answers 1 = .ok (.istore_n 3, 1) := by decide +kernel
theorem dX5_answers_2 : decode cX5_answers 2 = .ok (.iload_n 2, 1) := by decide +kernel
theorem dX5_answers_3 : decode cX5_answers 3 = .ok (.istore 4, 2) := by decide +kernel
theorem dX5_answers_5 : decode cX5_answers 5 = .ok (.iload 4, 2) := by decide +kernel
theorem dX5_answers_7 : decode cX5_answers 7 = .ok (.aload_n 0, 1) := by decide +kernel
theorem dX5_answers_8 : decode cX5_answers 8 = .ok (.getfield 17, 3) := by decide +kernel
theorem dX5_answers_11 : decode cX5_answers 11 = .ok (.iload_n 1, 1) := by decide +kernel
theorem dX5_answers_12 : decode cX5_answers 12 = .ok (.iaload, 1) := by decide +kernel
theorem dX5_answers_13 : decode cX5_answers 13 = .ok (.if_icmp .ge 99, 3) := by decide +kernel
theorem dX5_answers_16 : decode cX5_answers 16 = .ok (.sipush 201, 3) := by decide +kernel
theorem dX5_answers_19 : decode cX5_answers 19 = .ok (.iload_n 1, 1) := by decide +kernel
theorem dX5_answers_20 : decode cX5_answers 20 = .ok (.imul, 1) := by decide +kernel
theorem dX5_answers_21 : decode cX5_answers 21 = .ok (.iload 4, 2) := by decide +kernel
theorem dX5_answers_23 : decode cX5_answers 23 = .ok (.iadd, 1) := by decide +kernel
theorem dX5_answers_24 : decode cX5_answers 24 = .ok (.istore 5, 2) := by decide +kernel
theorem dX5_answers_26 : decode cX5_answers 26 = .ok (.aload_n 0, 1) := by decide +kernel
theorem dX5_answers_27 : decode cX5_answers 27 = .ok (.getfield 23, 3) := by decide +kernel
theorem dX5_answers_30 : decode cX5_answers 30 = .ok (.iload 5, 2) := by decide +kernel
theorem dX5_answers_32 : decode cX5_answers 32 = .ok (.iaload, 1) := by decide +kernel
theorem dX5_answers_33 : decode cX5_answers 33 = .ok (.iconst 5, 1) := by decide +kernel
theorem dX5_answers_34 : decode cX5_answers 34 = .ok (.if_icmp .ne 7, 3) := by decide +kernel
theorem dX5_answers_37 : decode cX5_answers 37 = .ok (.iconst 1, 1) := by decide +kernel
theorem dX5_answers_38 : decode cX5_answers 38 = .ok (.goto 4, 3) := by decide +kernel
theorem dX5_answers_41 : decode cX5_answers 41 = .ok (.iconst 0, 1) := by decide +kernel
theorem dX5_answers_42 : decode cX5_answers 42 = .ok (.istore 6, 2) := by decide +kernel
theorem dX5_answers_44 : decode cX5_answers 44 = .ok (.iload 6, 2) := by decide +kernel
theorem dX5_answers_46 : decode cX5_answers 46 = .ok (.ifCond .eq 20, 3) := by decide +kernel
theorem dX5_answers_49 : decode cX5_answers 49 = .ok (.iload_n 3, 1) := by decide +kernel
theorem dX5_answers_50 : decode cX5_answers 50 = .ok (.iconst (-1), 1) := by decide +kernel
theorem dX5_answers_51 : decode cX5_answers 51 = .ok (.if_icmp .eq 15, 3) := by decide +kernel
theorem dX5_answers_54 : decode cX5_answers 54 = .ok (.aload_n 0, 1) := by decide +kernel
theorem dX5_answers_55 : decode cX5_answers 55 = .ok (.iload_n 1, 1) := by decide +kernel
theorem dX5_answers_56 : decode cX5_answers 56 = .ok (.iload_n 3, 1) := by decide +kernel
theorem dX5_answers_57 : decode cX5_answers 57 = .ok (.iconst 4, 1) := by decide +kernel
theorem dX5_answers_58 : decode cX5_answers 58 = .ok (.iload 4, 2) := by decide +kernel
theorem dX5_answers_60 : decode cX5_answers 60 = .ok (.iconst 1, 1) := by decide +kernel
theorem dX5_answers_61 : decode cX5_answers 61 = .ok (.invokevirtual 86, 3) := by decide +kernel
theorem dX5_answers_64 : decode cX5_answers 64 = .ok (.iconst (-1), 1) := by decide +kernel
theorem dX5_answers_65 : decode cX5_answers 65 = .ok (.istore_n 3, 1) := by decide +kernel
theorem dX5_answers_66 : decode cX5_answers 66 = .ok (.iload 6, 2) := by decide +kernel
theorem dX5_answers_68 : decode cX5_answers 68 = .ok (.ifCond .eq 30, 3) := by decide +kernel
theorem dX5_answers_71 : decode cX5_answers 71 = .ok (.aload_n 0, 1) := by decide +kernel
theorem dX5_answers_72 : decode cX5_answers 72 = .ok (.iload_n 1, 1) := by decide +kernel
theorem dX5_answers_73 : decode cX5_answers 73 = .ok (.iload 4, 2) := by decide +kernel
theorem dX5_answers_75 : decode cX5_answers 75 = .ok (.iconst 5, 1) := by decide +kernel
theorem dX5_answers_76 : decode cX5_answers 76 = .ok (.aload_n 0, 1) := by decide +kernel
theorem dX5_answers_77 : decode cX5_answers 77 = .ok (.getfield 26, 3) := by decide +kernel
theorem dX5_answers_80 : decode cX5_answers 80 = .ok (.iload 5, 2) := by decide +kernel
theorem dX5_answers_82 : decode cX5_answers 82 = .ok (.iaload, 1) := by decide +kernel
theorem dX5_answers_83 : decode cX5_answers 83 = .ok (.aload_n 0, 1) := by decide +kernel
theorem dX5_answers_84 : decode cX5_answers 84 = .ok (.getfield 29, 3) := by decide +kernel
theorem dX5_answers_87 : decode cX5_answers 87 = .ok (.iload 5, 2) := by decide +kernel
theorem dX5_answers_89 : decode cX5_answers 89 = .ok (.iaload, 1) := by decide +kernel
theorem dX5_answers_90 : decode cX5_answers 90 = .ok (.iconst 1, 1) := by decide +kernel
theorem dX5_answers_91 : decode cX5_answers 91 = .ok (.ior, 1) := by decide +kernel
theorem dX5_answers_92 : decode cX5_answers 92 = .ok (.invokevirtual 86, 3) := by decide +kernel
theorem dX5_answers_95 : decode cX5_answers 95 = .ok (.goto 11, 3) := by decide +kernel
theorem dX5_answers_98 : decode cX5_answers 98 = .ok (.iload_n 3, 1) := by decide +kernel
theorem dX5_answers_99 : decode cX5_answers 99 = .ok (.iconst (-1), 1) := by decide +kernel
theorem dX5_answers_100 : decode cX5_answers 100 = .ok (.if_icmp .ne 6, 3) := by decide +kernel
theorem dX5_answers_103 : decode cX5_answers 103 = .ok (.iload 4, 2) := by decide +kernel
theorem dX5_answers_105 : decode cX5_answers 105 = .ok (.istore_n 3, 1) := by decide +kernel
theorem dX5_answers_106 : decode cX5_answers 106 = .ok (.iinc 4 1, 3) := by decide +kernel
theorem dX5_answers_109 : decode cX5_answers 109 = .ok (.goto (-104), 3) := by decide +kernel
theorem dX5_answers_112 : decode cX5_answers 112 = .ok (.iload_n 3, 1) := by decide +kernel
theorem dX5_answers_113 : decode cX5_answers 113 = .ok (.iconst (-1), 1) := by decide +kernel
theorem dX5_answers_114 : decode cX5_answers 114 = .ok (.if_icmp .eq 17, 3) := by decide +kernel
theorem dX5_answers_117 : decode cX5_answers 117 = .ok (.aload_n 0, 1) := by decide +kernel
theorem dX5_answers_118 : decode cX5_answers 118 = .ok (.iload_n 1, 1) := by decide +kernel
theorem dX5_answers_119 : decode cX5_answers 119 = .ok (.iload_n 3, 1) := by decide +kernel
theorem dX5_answers_120 : decode cX5_answers 120 = .ok (.iconst 4, 1) := by decide +kernel
theorem dX5_answers_121 : decode cX5_answers 121 = .ok (.aload_n 0, 1) := by decide +kernel
theorem dX5_answers_122 : decode cX5_answers 122 = .ok (.getfield 17, 3) := by decide +kernel
theorem dX5_answers_125 : decode cX5_answers 125 = .ok (.iload_n 1, 1) := by decide +kernel
theorem dX5_answers_126 : decode cX5_answers 126 = .ok (.iaload, 1) := by decide +kernel
theorem dX5_answers_127 : decode cX5_answers 127 = .ok (.iconst 1, 1) := by decide +kernel
theorem dX5_answers_128 : decode cX5_answers 128 = .ok (.invokevirtual 86, 3) := by decide +kernel
theorem dX5_answers_131 : decode cX5_answers 131 = .ok (.return_, 1) := by decide +kernel
set_option maxRecDepth 20000 in
theorem ggX5_ticks_X5_turnsOff : GoodIn wsX5_ticks wsX5_turnsOff := goodIn_r _ [12, 4, 1, 30, 31, 32, 33, 34, 35, 36, 37, 38, 39, 40, 41, 42, 43, 44, 45, 46, 47, 48, 49, 50, 51] (by decide +kernel) (by decide +kernel)
set_option maxRecDepth 20000 in
theorem gX5_ticks_X5_turnsOff : GoodIn wsX5_ticks (wsV RX5 104 RX5 yX5_turnsOff wsX5_turnsOff) := goodIn_app (goodIn_of _ (by decide +kernel)) ggX5_ticks_X5_turnsOff
set_option maxRecDepth 20000 in
theorem ggX5_ticks_X5_sends : GoodIn wsX5_ticks wsX5_sends := goodIn_r _ [16, 17, 18, 19, 20, 21, 22, 23, 11, 24, 7, 2, 25, 26, 27, 28, 29, 30, 31, 32, 33, 34, 35, 36, 37, 38, 39, 40, 41, 42, 43, 44, 45, 46, 47, 48, 49, 50, 51] (by decide +kernel) (by decide +kernel)
set_option maxRecDepth 20000 in
theorem gX5_ticks_X5_sends : GoodIn wsX5_ticks (wsV RX5 100 RX5 yX5_sends wsX5_sends) := goodIn_app (goodIn_of _ (by decide +kernel)) ggX5_ticks_X5_sends
theorem dX5_ticks_0 : decode cX5_ticks 0 = .ok (.aload_n 0, 1) := by decide +kernel
theorem dX5_ticks_1 : decode cX5_ticks 1 = .ok (.getfield 41, 3) := by decide +kernel
theorem dX5_ticks_4 : decode cX5_ticks 4 = .ok (.iload_n 1, 1) := by decide +kernel
theorem dX5_ticks_5 : decode cX5_ticks 5 = .ok (.baload, 1) := by decide +kernel
theorem dX5_ticks_6 : decode cX5_ticks 6 = .ok (.ifCond .eq 25, 3) := by decide +kernel
theorem dX5_ticks_9 : decode cX5_ticks 9 = .ok (.aload_n 0, 1) := by decide +kernel
theorem dX5_ticks_10 : decode cX5_ticks 10 = .ok (.getfield 83, 3) := by decide +kernel
theorem dX5_ticks_13 : decode cX5_ticks 13 = .ok (.aload_n 0, 1) := by decide +kernel
theorem dX5_ticks_14 : decode cX5_ticks 14 = .ok (.getfield 45, 3) := by decide +kernel
theorem dX5_ticks_17 : decode cX5_ticks 17 = .ok (.iload_n 1, 1) := by decide +kernel
theorem dX5_ticks_18 : decode cX5_ticks 18 = .ok (.iaload, 1) := by decide +kernel
theorem dX5_ticks_19 : decode cX5_ticks 19 = .ok (.isub, 1) := by decide +kernel
theorem dX5_ticks_20 : decode cX5_ticks 20 = .ok (.iconst 4, 1) := by decide +kernel
theorem dX5_ticks_21 : decode cX5_ticks 21 = .ok (.if_icmp .lt 10, 3) := by decide +kernel
theorem dX5_ticks_24 : decode cX5_ticks 24 = .ok (.aload_n 0, 1) := by decide +kernel
theorem dX5_ticks_25 : decode cX5_ticks 25 = .ok (.getfield 41, 3) := by decide +kernel
theorem dX5_ticks_28 : decode cX5_ticks 28 = .ok (.iload_n 1, 1) := by decide +kernel
theorem dX5_ticks_29 : decode cX5_ticks 29 = .ok (.iconst 0, 1) := by decide +kernel
theorem dX5_ticks_30 : decode cX5_ticks 30 = .ok (.bastore, 1) := by decide +kernel
theorem dX5_ticks_31 : decode cX5_ticks 31 = .ok (.aload_n 0, 1) := by decide +kernel
theorem dX5_ticks_32 : decode cX5_ticks 32 = .ok (.getfield 13, 3) := by decide +kernel
theorem dX5_ticks_35 : decode cX5_ticks 35 = .ok (.iload_n 1, 1) := by decide +kernel
theorem dX5_ticks_36 : decode cX5_ticks 36 = .ok (.iaload, 1) := by decide +kernel
theorem dX5_ticks_37 : decode cX5_ticks 37 = .ok (.iconst 2, 1) := by decide +kernel
theorem dX5_ticks_38 : decode cX5_ticks 38 = .ok (.if_icmp .eq 4, 3) := by decide +kernel
theorem dX5_ticks_41 : decode cX5_ticks 41 = .ok (.return_, 1) := by decide +kernel
theorem dX5_ticks_42 : decode cX5_ticks 42 = .ok (.aload_n 0, 1) := by decide +kernel
theorem dX5_ticks_43 : decode cX5_ticks 43 = .ok (.getfield 83, 3) := by decide +kernel
theorem dX5_ticks_46 : decode cX5_ticks 46 = .ok (.aload_n 0, 1) := by decide +kernel
theorem dX5_ticks_47 : decode cX5_ticks 47 = .ok (.getfield 48, 3) := by decide +kernel
theorem dX5_ticks_50 : decode cX5_ticks 50 = .ok (.iload_n 1, 1) := by decide +kernel
theorem dX5_ticks_51 : decode cX5_ticks 51 = .ok (.iaload, 1) := by decide +kernel
theorem dX5_ticks_52 : decode cX5_ticks 52 = .ok (.isub, 1) := by decide +kernel
theorem dX5_ticks_53 : decode cX5_ticks 53 = .ok (.istore_n 2, 1) := by decide +kernel
theorem dX5_ticks_54 : decode cX5_ticks 54 = .ok (.iload_n 2, 1) := by decide +kernel
theorem dX5_ticks_55 : decode cX5_ticks 55 = .ok (.bipush 8, 2) := by decide +kernel
theorem dX5_ticks_57 : decode cX5_ticks 57 = .ok (.if_icmp .lt 11, 3) := by decide +kernel
theorem dX5_ticks_60 : decode cX5_ticks 60 = .ok (.aload_n 0, 1) := by decide +kernel
theorem dX5_ticks_61 : decode cX5_ticks 61 = .ok (.iload_n 1, 1) := by decide +kernel
theorem dX5_ticks_62 : decode cX5_ticks 62 = .ok (.invokevirtual 104, 3) := by decide +kernel
theorem dX5_ticks_65 : decode cX5_ticks 65 = .ok (.goto 58, 3) := by decide +kernel
theorem dX5_ticks_68 : decode cX5_ticks 68 = .ok (.iload_n 2, 1) := by decide +kernel
theorem dX5_ticks_69 : decode cX5_ticks 69 = .ok (.iconst 5, 1) := by decide +kernel
theorem dX5_ticks_70 : decode cX5_ticks 70 = .ok (.if_icmp .lt 30, 3) := by decide +kernel
theorem dX5_ticks_73 : decode cX5_ticks 73 = .ok (.aload_n 0, 1) := by decide +kernel
theorem dX5_ticks_74 : decode cX5_ticks 74 = .ok (.getfield 51, 3) := by decide +kernel
theorem dX5_ticks_77 : decode cX5_ticks 77 = .ok (.iload_n 1, 1) := by decide +kernel
theorem dX5_ticks_78 : decode cX5_ticks 78 = .ok (.baload, 1) := by decide +kernel
theorem dX5_ticks_79 : decode cX5_ticks 79 = .ok (.ifCond .ne 21, 3) := by decide +kernel
theorem dX5_ticks_82 : decode cX5_ticks 82 = .ok (.aload_n 0, 1) := by decide +kernel
theorem dX5_ticks_83 : decode cX5_ticks 83 = .ok (.getfield 51, 3) := by decide +kernel
theorem dX5_ticks_86 : decode cX5_ticks 86 = .ok (.iload_n 1, 1) := by decide +kernel
theorem dX5_ticks_87 : decode cX5_ticks 87 = .ok (.iconst 1, 1) := by decide +kernel
theorem dX5_ticks_88 : decode cX5_ticks 88 = .ok (.bastore, 1) := by decide +kernel
theorem dX5_ticks_89 : decode cX5_ticks 89 = .ok (.aload_n 0, 1) := by decide +kernel
theorem dX5_ticks_90 : decode cX5_ticks 90 = .ok (.iload_n 1, 1) := by decide +kernel
theorem dX5_ticks_91 : decode cX5_ticks 91 = .ok (.iconst 2, 1) := by decide +kernel
theorem dX5_ticks_92 : decode cX5_ticks 92 = .ok (.iconst 0, 1) := by decide +kernel
theorem dX5_ticks_93 : decode cX5_ticks 93 = .ok (.iconst 0, 1) := by decide +kernel
theorem dX5_ticks_94 : decode cX5_ticks 94 = .ok (.invokevirtual 100, 3) := by decide +kernel
theorem dX5_ticks_97 : decode cX5_ticks 97 = .ok (.goto 26, 3) := by decide +kernel
theorem dX5_ticks_100 : decode cX5_ticks 100 = .ok (.aload_n 0, 1) := by decide +kernel
theorem dX5_ticks_101 : decode cX5_ticks 101 = .ok (.getfield 83, 3) := by decide +kernel
theorem dX5_ticks_104 : decode cX5_ticks 104 = .ok (.aload_n 0, 1) := by decide +kernel
theorem dX5_ticks_105 : decode cX5_ticks 105 = .ok (.getfield 54, 3) := by decide +kernel
theorem dX5_ticks_108 : decode cX5_ticks 108 = .ok (.iload_n 1, 1) := by decide +kernel
theorem dX5_ticks_109 : decode cX5_ticks 109 = .ok (.iaload, 1) := by decide +kernel
theorem dX5_ticks_110 : decode cX5_ticks 110 = .ok (.isub, 1) := by decide +kernel
theorem dX5_ticks_111 : decode cX5_ticks 111 = .ok (.iconst 3, 1) := by decide +kernel
theorem dX5_ticks_112 : decode cX5_ticks 112 = .ok (.if_icmp .lt 11, 3) := by decide +kernel
theorem dX5_ticks_115 : decode cX5_ticks 115 = .ok (.aload_n 0, 1) := by decide +kernel
theorem dX5_ticks_116 : decode cX5_ticks 116 = .ok (.iload_n 1, 1) := by decide +kernel
theorem dX5_ticks_117 : decode cX5_ticks 117 = .ok (.iconst 1, 1) := by decide +kernel
theorem dX5_ticks_118 : decode cX5_ticks 118 = .ok (.iconst 0, 1) := by decide +kernel
theorem dX5_ticks_119 : decode cX5_ticks 119 = .ok (.iconst 0, 1) := by decide +kernel
theorem dX5_ticks_120 : decode cX5_ticks 120 = .ok (.invokevirtual 100, 3) := by decide +kernel
theorem dX5_ticks_123 : decode cX5_ticks 123 = .ok (.return_, 1) := by decide +kernel
set_option maxRecDepth 20000 in
theorem ggX5_tick_X5_ticks : GoodIn wsX5_tick wsX5_ticks := goodIn_r _ [7, 8, 2, 9, 10, 11, 12, 13, 14, 15, 16, 6, 17, 18, 19, 20, 21, 22, 23, 24, 25, 26, 27, 28, 29, 30, 31, 32, 33, 34, 35, 36, 37, 38, 39, 40, 41, 42, 43, 44, 45, 46, 47, 48, 49, 50, 51, 52, 53, 54, 55, 56] (by decide +kernel) (by decide +kernel)
set_option maxRecDepth 20000 in
theorem gX5_tick_X5_ticks : GoodIn wsX5_tick (wsV RX5 136 RX5 yX5_ticks wsX5_ticks) := goodIn_app (goodIn_of _ (by decide +kernel)) ggX5_tick_X5_ticks
theorem dX5_tick_0 : decode cX5_tick 0 = .ok (.aload_n 0, 1) := by decide +kernel
theorem dX5_tick_1 : decode cX5_tick 1 = .ok (.iconst 0, 1) := by decide +kernel
theorem dX5_tick_2 : decode cX5_tick 2 = .ok (.putfield 75, 3) := by decide +kernel
theorem dX5_tick_5 : decode cX5_tick 5 = .ok (.aload_n 0, 1) := by decide +kernel
theorem dX5_tick_6 : decode cX5_tick 6 = .ok (.dup, 1) := by decide +kernel
theorem dX5_tick_7 : decode cX5_tick 7 = .ok (.getfield 83, 3) := by decide +kernel
theorem dX5_tick_10 : decode cX5_tick 10 = .ok (.iconst 1, 1) := by decide +kernel
theorem dX5_tick_11 : decode cX5_tick 11 = .ok (.iadd, 1) := by decide +kernel
theorem dX5_tick_12 : decode cX5_tick 12 = .ok (.putfield 83, 3) := by decide +kernel
theorem dX5_tick_15 : decode cX5_tick 15 = .ok (.aload_n 0, 1) := by decide +kernel
theorem dX5_tick_16 : decode cX5_tick 16 = .ok (.iconst 0, 1) := by decide +kernel
theorem dX5_tick_17 : decode cX5_tick 17 = .ok (.invokevirtual 136, 3) := by decide +kernel
theorem dX5_tick_20 : decode cX5_tick 20 = .ok (.aload_n 0, 1) := by decide +kernel
theorem dX5_tick_21 : decode cX5_tick 21 = .ok (.iconst 1, 1) := by decide +kernel
theorem dX5_tick_22 : decode cX5_tick 22 = .ok (.invokevirtual 136, 3) := by decide +kernel
theorem dX5_tick_25 : decode cX5_tick 25 = .ok (.aload_n 0, 1) := by decide +kernel
theorem dX5_tick_26 : decode cX5_tick 26 = .ok (.getfield 83, 3) := by decide +kernel
theorem dX5_tick_29 : decode cX5_tick 29 = .ok (.ireturn, 1) := by decide +kernel
set_option maxRecDepth 20000 in
theorem ggX5_of_X5_isSide : GoodIn wsX5_of wsX5_isSide := goodIn_r _ [4, 5, 6, 3, 7] (by decide +kernel) (by decide +kernel)
set_option maxRecDepth 20000 in
theorem gX5_of_X5_isSide : GoodIn wsX5_of (va_wsS RX5 90 yX5_isSide wsX5_isSide) := goodIn_app (goodIn_of _ (by decide +kernel)) ggX5_of_X5_isSide
set_option maxRecDepth 20000 in
theorem ggX5_of_X5_holds : GoodIn wsX5_of wsX5_holds := goodIn_r _ [11, 12, 13, 14, 15, 16, 17, 18, 19, 20, 21, 22, 23, 24, 25, 26, 27, 28, 29, 30, 31, 32, 33, 34] (by decide +kernel) (by decide +kernel)
set_option maxRecDepth 20000 in
theorem gX5_of_X5_holds : GoodIn wsX5_of (wsV RX5 97 RX5 yX5_holds wsX5_holds) := goodIn_app (goodIn_of _ (by decide +kernel)) ggX5_of_X5_holds
theorem dX5_of_0 : decode cX5_of 0 = .ok (.aload_n 0, 1) := by decide +kernel
theorem dX5_of_1 : decode cX5_of 1 = .ok (.iload_n 1, 1) := by decide +kernel
theorem dX5_of_2 : decode cX5_of 2 = .ok (.invokestatic 90, 3) := by decide +kernel
theorem dX5_of_5 : decode cX5_of 5 = .ok (.ifCond .eq 7, 3) := by decide +kernel
theorem dX5_of_8 : decode cX5_of 8 = .ok (.iconst 0, 1) := by decide +kernel
theorem dX5_of_9 : decode cX5_of 9 = .ok (.goto 4, 3) := by decide +kernel
theorem dX5_of_12 : decode cX5_of 12 = .ok (.iconst 1, 1) := by decide +kernel
theorem dX5_of_13 : decode cX5_of 13 = .ok (.invokevirtual 97, 3) := by decide +kernel
theorem dX5_of_16 : decode cX5_of 16 = .ok (.ifCond .eq 9, 3) := by decide +kernel
theorem dX5_of_19 : decode cX5_of 19 = .ok (.aload_n 2, 1) := by decide +kernel
theorem dX5_of_20 : decode cX5_of 20 = .ok (.iload_n 1, 1) := by decide +kernel
theorem dX5_of_21 : decode cX5_of 21 = .ok (.iaload, 1) := by decide +kernel
theorem dX5_of_22 : decode cX5_of 22 = .ok (.goto 4, 3) := by decide +kernel
theorem dX5_of_25 : decode cX5_of 25 = .ok (.iconst 0, 1) := by decide +kernel
theorem dX5_of_26 : decode cX5_of 26 = .ok (.ireturn, 1) := by decide +kernel
set_option maxRecDepth 20000 in
theorem ggX5_stateOf_X5_of : GoodIn wsX5_stateOf wsX5_of := goodIn_r _ [6, 7, 8, 5, 9, 10, 11, 12, 13, 14, 15, 16, 17, 18, 19, 20, 21, 22, 23, 24, 25, 26, 27, 28, 29, 30, 31, 32, 33, 34, 35, 36, 37, 38, 39] (by decide +kernel) (by decide +kernel)
set_option maxRecDepth 20000 in
theorem gX5_stateOf_X5_of : GoodIn wsX5_stateOf (wsV RX5 139 RX5 yX5_of wsX5_of) := goodIn_app (goodIn_of _ (by decide +kernel)) ggX5_stateOf_X5_of
theorem dX5_stateOf_0 : decode cX5_stateOf 0 = .ok (.aload_n 0, 1) := by decide +kernel
theorem dX5_stateOf_1 : decode cX5_stateOf 1 = .ok (.iload_n 1, 1) := by decide +kernel
theorem dX5_stateOf_2 : decode cX5_stateOf 2 = .ok (.aload_n 0, 1) := by decide +kernel
theorem dX5_stateOf_3 : decode cX5_stateOf 3 = .ok (.getfield 13, 3) := by decide +kernel
theorem dX5_stateOf_6 : decode cX5_stateOf 6 = .ok (.invokevirtual 139, 3) := by decide +kernel
theorem dX5_stateOf_9 : decode cX5_stateOf 9 = .ok (.ireturn, 1) := by decide +kernel
set_option maxRecDepth 20000 in
theorem ggX5_next_X5_of : GoodIn wsX5_next wsX5_of := goodIn_r _ [6, 7, 8, 5, 9, 10, 11, 12, 13, 14, 15, 16, 17, 18, 19, 20, 21, 22, 23, 24, 25, 26, 27, 28, 29, 30, 31, 32, 33, 34, 35, 36, 37, 38, 39] (by decide +kernel) (by decide +kernel)
set_option maxRecDepth 20000 in
theorem gX5_next_X5_of : GoodIn wsX5_next (wsV RX5 139 RX5 yX5_of wsX5_of) := goodIn_app (goodIn_of _ (by decide +kernel)) ggX5_next_X5_of
theorem dX5_next_0 : decode cX5_next 0 = .ok (.aload_n 0, 1) := by decide +kernel
theorem dX5_next_1 : decode cX5_next 1 = .ok (.iload_n 1, 1) := by decide +kernel
theorem dX5_next_2 : decode cX5_next 2 = .ok (.aload_n 0, 1) := by decide +kernel
theorem dX5_next_3 : decode cX5_next 3 = .ok (.getfield 17, 3) := by decide +kernel
theorem dX5_next_6 : decode cX5_next 6 = .ok (.invokevirtual 139, 3) := by decide +kernel
theorem dX5_next_9 : decode cX5_next 9 = .ok (.ireturn, 1) := by decide +kernel
set_option maxRecDepth 20000 in
theorem ggX5_expected_X5_of : GoodIn wsX5_expected wsX5_of := goodIn_r _ [6, 7, 8, 5, 9, 10, 11, 12, 13, 14, 15, 16, 17, 18, 19, 20, 21, 22, 23, 24, 25, 26, 27, 28, 29, 30, 31, 32, 33, 34, 35, 36, 37, 38, 39] (by decide +kernel) (by decide +kernel)
set_option maxRecDepth 20000 in
theorem gX5_expected_X5_of : GoodIn wsX5_expected (wsV RX5 139 RX5 yX5_of wsX5_of) := goodIn_app (goodIn_of _ (by decide +kernel)) ggX5_expected_X5_of
theorem dX5_expected_0 : decode cX5_expected 0 = .ok (.aload_n 0, 1) := by decide +kernel
theorem dX5_expected_1 : decode cX5_expected 1 = .ok (.iload_n 1, 1) := by decide +kernel
theorem dX5_expected_2 : decode cX5_expected 2 = .ok (.aload_n 0, 1) := by decide +kernel
theorem dX5_expected_3 : decode cX5_expected 3 = .ok (.getfield 20, 3) := by decide +kernel
theorem dX5_expected_6 : decode cX5_expected 6 = .ok (.invokevirtual 139, 3) := by decide +kernel
theorem dX5_expected_9 : decode cX5_expected 9 = .ok (.ireturn, 1) := by decide +kernel
set_option maxRecDepth 20000 in
theorem ggX5_isAsking_X5_isSide : GoodIn wsX5_isAsking wsX5_isSide := goodIn_r _ [5, 6, 7, 4, 8] (by decide +kernel) (by decide +kernel)
set_option maxRecDepth 20000 in
theorem gX5_isAsking_X5_isSide : GoodIn wsX5_isAsking (va_wsS RX5 90 yX5_isSide wsX5_isSide) := goodIn_app (goodIn_of _ (by decide +kernel)) ggX5_isAsking_X5_isSide
set_option maxRecDepth 20000 in
theorem ggX5_isAsking_X5_holds : GoodIn wsX5_isAsking wsX5_holds := goodIn_r _ [12, 13, 14, 15, 16, 17, 18, 19, 20, 21, 22, 23, 24, 25, 26, 27, 28, 29, 30, 31, 32, 33, 34, 35] (by decide +kernel) (by decide +kernel)
set_option maxRecDepth 20000 in
theorem gX5_isAsking_X5_holds : GoodIn wsX5_isAsking (wsV RX5 97 RX5 yX5_holds wsX5_holds) := goodIn_app (goodIn_of _ (by decide +kernel)) ggX5_isAsking_X5_holds
theorem dX5_isAsking_0 : decode cX5_isAsking 0 = .ok (.aload_n 0, 1) := by decide +kernel
theorem dX5_isAsking_1 : decode cX5_isAsking 1 = .ok (.iload_n 1, 1) := by decide +kernel
theorem dX5_isAsking_2 : decode cX5_isAsking 2 = .ok (.invokestatic 90, 3) := by decide +kernel
theorem dX5_isAsking_5 : decode cX5_isAsking 5 = .ok (.ifCond .eq 7, 3) := by decide +kernel
theorem dX5_isAsking_8 : decode cX5_isAsking 8 = .ok (.iconst 0, 1) := by decide +kernel
theorem dX5_isAsking_9 : decode cX5_isAsking 9 = .ok (.goto 4, 3) := by decide +kernel
theorem dX5_isAsking_12 : decode cX5_isAsking 12 = .ok (.iconst 1, 1) := by decide +kernel
theorem dX5_isAsking_13 : decode cX5_isAsking 13 = .ok (.invokevirtual 97, 3) := by decide +kernel
theorem dX5_isAsking_16 : decode cX5_isAsking 16 = .ok (.ifCond .eq 16, 3) := by decide +kernel
theorem dX5_isAsking_19 : decode cX5_isAsking 19 = .ok (.aload_n 0, 1) := by decide +kernel
theorem dX5_isAsking_20 : decode cX5_isAsking 20 = .ok (.getfield 41, 3) := by decide +kernel
theorem dX5_isAsking_23 : decode cX5_isAsking 23 = .ok (.iload_n 1, 1) := by decide +kernel
theorem dX5_isAsking_24 : decode cX5_isAsking 24 = .ok (.baload, 1) := by decide +kernel
theorem dX5_isAsking_25 : decode cX5_isAsking 25 = .ok (.ifCond .eq 7, 3) := by decide +kernel
theorem dX5_isAsking_28 : decode cX5_isAsking 28 = .ok (.iconst 1, 1) := by decide +kernel
theorem dX5_isAsking_29 : decode cX5_isAsking 29 = .ok (.goto 4, 3) := by decide +kernel
theorem dX5_isAsking_32 : decode cX5_isAsking 32 = .ok (.iconst 0, 1) := by decide +kernel
theorem dX5_isAsking_33 : decode cX5_isAsking 33 = .ok (.ireturn, 1) := by decide +kernel
set_option maxRecDepth 20000 in
theorem ggX5_wire_X5_of : GoodIn wsX5_wire wsX5_of := goodIn_r _ [6, 7, 8, 5, 9, 10, 11, 12, 13, 14, 15, 16, 17, 18, 19, 20, 21, 22, 23, 24, 25, 26, 27, 28, 29, 30, 31, 32, 33, 34, 35, 36, 37, 38, 39] (by decide +kernel) (by decide +kernel)
set_option maxRecDepth 20000 in
theorem gX5_wire_X5_of : GoodIn wsX5_wire (wsV RX5 139 RX5 yX5_of wsX5_of) := goodIn_app (goodIn_of _ (by decide +kernel)) ggX5_wire_X5_of
theorem dX5_wire_0 : decode cX5_wire 0 = .ok (.aload_n 0, 1) := by decide +kernel
theorem dX5_wire_1 : decode cX5_wire 1 = .ok (.iload_n 1, 1) := by decide +kernel
theorem dX5_wire_2 : decode cX5_wire 2 = .ok (.aload_n 0, 1) := by decide +kernel
theorem dX5_wire_3 : decode cX5_wire 3 = .ok (.getfield 57, 3) := by decide +kernel
theorem dX5_wire_6 : decode cX5_wire 6 = .ok (.invokevirtual 139, 3) := by decide +kernel
theorem dX5_wire_9 : decode cX5_wire 9 = .ok (.ireturn, 1) := by decide +kernel
set_option maxRecDepth 20000 in
theorem ggX5_isOnWire_X5_isSide : GoodIn wsX5_isOnWire wsX5_isSide := goodIn_r _ [5, 6, 7, 4, 8] (by decide +kernel) (by decide +kernel)
set_option maxRecDepth 20000 in
theorem gX5_isOnWire_X5_isSide : GoodIn wsX5_isOnWire (va_wsS RX5 90 yX5_isSide wsX5_isSide) := goodIn_app (goodIn_of _ (by decide +kernel)) ggX5_isOnWire_X5_isSide
set_option maxRecDepth 20000 in
theorem ggX5_isOnWire_X5_in : GoodIn wsX5_isOnWire wsX5_in := goodIn_r _ [8] (by decide +kernel) (by decide +kernel)
set_option maxRecDepth 20000 in
theorem gX5_isOnWire_X5_in : GoodIn wsX5_isOnWire (va_wsS RX5 79 yX5_in wsX5_in) := goodIn_app (goodIn_of _ (by decide +kernel)) ggX5_isOnWire_X5_in
theorem dX5_isOnWire_0 : decode cX5_isOnWire 0 = .ok (.iload_n 1, 1) := by decide +kernel
theorem dX5_isOnWire_1 : decode cX5_isOnWire 1 = .ok (.invokestatic 90, 3) := by decide +kernel
theorem dX5_isOnWire_4 : decode cX5_isOnWire 4 = .ok (.ifCond .eq 23, 3) := by decide +kernel
theorem dX5_isOnWire_7 : decode cX5_isOnWire 7 = .ok (.iload_n 2, 1) := by decide +kernel
theorem dX5_isOnWire_8 : decode cX5_isOnWire 8 = .ok (.iconst 0, 1) := by decide +kernel
theorem dX5_isOnWire_9 : decode cX5_isOnWire 9 = .ok (.aload_n 0, 1) := by decide +kernel
theorem dX5_isOnWire_10 : decode cX5_isOnWire 10 = .ok (.getfield 57, 3) := by decide +kernel
theorem dX5_isOnWire_13 : decode cX5_isOnWire 13 = .ok (.iload_n 1, 1) := by decide +kernel
theorem dX5_isOnWire_14 : decode cX5_isOnWire 14 = .ok (.iaload, 1) := by decide +kernel
theorem dX5_isOnWire_15 : decode cX5_isOnWire 15 = .ok (.iconst 1, 1) := by decide +kernel
theorem dX5_isOnWire_16 : decode cX5_isOnWire 16 = .ok (.isub, 1) := by decide +kernel
theorem dX5_isOnWire_17 : decode cX5_isOnWire 17 = .ok (.invokestatic 79, 3) := by decide +kernel
theorem dX5_isOnWire_20 : decode cX5_isOnWire 20 = .ok (.ifCond .eq 7, 3) := by decide +kernel
theorem dX5_isOnWire_23 : decode cX5_isOnWire 23 = .ok (.iconst 1, 1) := by decide +kernel
theorem dX5_isOnWire_24 : decode cX5_isOnWire 24 = .ok (.goto 4, 3) := by decide +kernel
theorem dX5_isOnWire_27 : decode cX5_isOnWire 27 = .ok (.iconst 0, 1) := by decide +kernel
theorem dX5_isOnWire_28 : decode cX5_isOnWire 28 = .ok (.ireturn, 1) := by decide +kernel
set_option maxRecDepth 20000 in
theorem ggX5_numberAt_X5_isOnWire : GoodIn wsX5_numberAt wsX5_isOnWire := goodIn_r _ [6, 7, 8, 9, 5, 10, 11, 12, 13, 19, 20, 21, 22, 23, 24, 25, 26, 27, 28, 29, 30, 31, 32, 33, 34, 35, 36, 37, 38, 39, 40] (by decide +kernel) (by decide +kernel)
set_option maxRecDepth 20000 in
theorem gX5_numberAt_X5_isOnWire : GoodIn wsX5_numberAt (wsV RX5 143 RX5 yX5_isOnWire wsX5_isOnWire) := goodIn_app (goodIn_of _ (by decide +kernel)) ggX5_numberAt_X5_isOnWire
set_option maxRecDepth 20000 in
theorem ggX5_numberAt_X5_holds : GoodIn wsX5_numberAt wsX5_holds := goodIn_r _ [17, 18, 19, 20, 21, 22, 23, 24, 25, 26, 27, 28, 29, 30, 31, 32, 33, 34, 35, 36, 37, 38, 39, 40] (by decide +kernel) (by decide +kernel)
set_option maxRecDepth 20000 in
theorem gX5_numberAt_X5_holds : GoodIn wsX5_numberAt (wsV RX5 97 RX5 yX5_holds wsX5_holds) := goodIn_app (goodIn_of _ (by decide +kernel)) ggX5_numberAt_X5_holds
theorem dX5_numberAt_0 : decode cX5_numberAt 0 = .ok (.aload_n 0, 1) := by decide +kernel
theorem dX5_numberAt_1 : decode cX5_numberAt 1 = .ok (.aload_n 0, 1) := by decide +kernel
theorem dX5_numberAt_2 : decode cX5_numberAt 2 = .ok (.iload_n 1, 1) := by decide +kernel
theorem dX5_numberAt_3 : decode cX5_numberAt 3 = .ok (.iload_n 2, 1) := by decide +kernel
theorem dX5_numberAt_4 : decode cX5_numberAt 4 = .ok (.invokevirtual 143, 3) := by decide +kernel
theorem dX5_numberAt_7 : decode cX5_numberAt 7 = .ok (.ifCond .eq 7, 3) := by decide +kernel
theorem dX5_numberAt_10 : decode cX5_numberAt 10 = .ok (.iconst 0, 1) := by decide +kernel
theorem dX5_numberAt_11 : decode cX5_numberAt 11 = .ok (.goto 4, 3) := by decide +kernel
theorem dX5_numberAt_14 : decode cX5_numberAt 14 = .ok (.iconst 1, 1) := by decide +kernel
theorem dX5_numberAt_15 : decode cX5_numberAt 15 = .ok (.invokevirtual 97, 3) := by decide +kernel
theorem dX5_numberAt_18 : decode cX5_numberAt 18 = .ok (.ifCond .eq 17, 3) := by decide +kernel
theorem dX5_numberAt_21 : decode cX5_numberAt 21 = .ok (.aload_n 0, 1) := by decide +kernel
theorem dX5_numberAt_22 : decode cX5_numberAt 22 = .ok (.getfield 60, 3) := by decide +kernel
theorem dX5_numberAt_25 : decode cX5_numberAt 25 = .ok (.bipush 60, 2) := by decide +kernel
theorem dX5_numberAt_27 : decode cX5_numberAt 27 = .ok (.iload_n 1, 1) := by decide +kernel
theorem dX5_numberAt_28 : decode cX5_numberAt 28 = .ok (.imul, 1) := by decide +kernel
theorem dX5_numberAt_29 : decode cX5_numberAt 29 = .ok (.iload_n 2, 1) := by decide +kernel
theorem dX5_numberAt_30 : decode cX5_numberAt 30 = .ok (.iadd, 1) := by decide +kernel
theorem dX5_numberAt_31 : decode cX5_numberAt 31 = .ok (.iaload, 1) := by decide +kernel
theorem dX5_numberAt_32 : decode cX5_numberAt 32 = .ok (.goto 4, 3) := by decide +kernel
theorem dX5_numberAt_35 : decode cX5_numberAt 35 = .ok (.iconst 0, 1) := by decide +kernel
theorem dX5_numberAt_36 : decode cX5_numberAt 36 = .ok (.ireturn, 1) := by decide +kernel
theorem dX5_digits_0 : decode cX5_digits 0 = .ok (.iload_n 0, 1) := by decide +kernel
theorem dX5_digits_1 : decode cX5_digits 1 = .ok (.bipush 99, 2) := by decide +kernel
theorem dX5_digits_3 : decode cX5_digits 3 = .ok (.if_icmp .le 7, 3) := by decide +kernel
theorem dX5_digits_6 : decode cX5_digits 6 = .ok (.iconst 3, 1) := by decide +kernel
theorem dX5_digits_7 : decode cX5_digits 7 = .ok (.goto 14, 3) := by decide +kernel
theorem dX5_digits_10 : decode cX5_digits 10 = .ok (.iload_n 0, 1) := by decide +kernel
theorem dX5_digits_11 : decode cX5_digits 11 = .ok (.bipush 9, 2) := by decide +kernel
theorem dX5_digits_13 : decode cX5_digits 13 = .ok (.if_icmp .le 7, 3) := by decide +kernel
theorem dX5_digits_16 : decode cX5_digits 16 = .ok (.iconst 2, 1) := by decide +kernel
theorem dX5_digits_17 : decode cX5_digits 17 = .ok (.goto 4, 3) := by decide +kernel
theorem dX5_digits_20 : decode cX5_digits 20 = .ok (.iconst 1, 1) := by decide +kernel
theorem dX5_digits_21 : decode cX5_digits 21 = .ok (.ireturn, 1) := by decide +kernel
theorem dX5_nameLength_0 : decode cX5_nameLength 0 = .ok (.iconst 0, 1) := by decide +kernel
theorem dX5_nameLength_1 : decode cX5_nameLength 1 = .ok (.istore_n 2, 1) := by decide +kernel
theorem dX5_nameLength_2 : decode cX5_nameLength 2 = .ok (.iload_n 2, 1) := by decide +kernel
theorem dX5_nameLength_3 : decode cX5_nameLength 3 = .ok (.bipush 9, 2) := by decide +kernel
theorem dX5_nameLength_5 : decode cX5_nameLength 5 = .ok (.if_icmp .ge 25, 3) := by decide +kernel
theorem dX5_nameLength_8 : decode cX5_nameLength 8 = .ok (.aload_n 0, 1) := by decide +kernel
theorem dX5_nameLength_9 : decode cX5_nameLength 9 = .ok (.getfield 7, 3) := by decide +kernel
theorem dX5_nameLength_12 : decode cX5_nameLength 12 = .ok (.bipush 9, 2) := by decide +kernel
theorem dX5_nameLength_14 : decode cX5_nameLength 14 = .ok (.iload_n 1, 1) := by decide +kernel
theorem dX5_nameLength_15 : decode cX5_nameLength 15 = .ok (.imul, 1) := by decide +kernel
theorem dX5_nameLength_16 : decode cX5_nameLength 16 = .ok (.iload_n 2, 1) := by decide +kernel
theorem dX5_nameLength_17 : decode cX5_nameLength 17 = .ok (.iadd, 1) := by decide +kernel
theorem dX5_nameLength_18 : decode cX5_nameLength 18 = .ok (.caload, 1) := by decide +kernel
theorem dX5_nameLength_19 : decode cX5_nameLength 19 = .ok (.bipush 32, 2) := by decide +kernel
theorem dX5_nameLength_21 : decode cX5_nameLength 21 = .ok (.if_icmp .eq 9, 3) := by decide +kernel
theorem dX5_nameLength_24 : decode cX5_nameLength 24 = .ok (.iinc 2 1, 3) := by decide +kernel
theorem dX5_nameLength_27 : decode cX5_nameLength 27 = .ok (.goto (-25), 3) := by decide +kernel
theorem dX5_nameLength_30 : decode cX5_nameLength 30 = .ok (.iload_n 2, 1) := by decide +kernel
theorem dX5_nameLength_31 : decode cX5_nameLength 31 = .ok (.ireturn, 1) := by decide +kernel
theorem dX5_tellsNumber_0 : decode cX5_tellsNumber 0 = .ok (.iload_n 0, 1) := by decide +kernel
theorem dX5_tellsNumber_1 : decode cX5_tellsNumber 1 = .ok (.iconst 3, 1) := by decide +kernel
theorem dX5_tellsNumber_2 : decode cX5_tellsNumber 2 = .ok (.if_icmp .eq 13, 3) := by decide +kernel
theorem dX5_tellsNumber_5 : decode cX5_tellsNumber 5 = .ok (.iload_n 0, 1) := by decide +kernel
theorem dX5_tellsNumber_6 : decode cX5_tellsNumber 6 = .ok (.iconst 4, 1) := by decide +kernel
theorem dX5_tellsNumber_7 : decode cX5_tellsNumber 7 = .ok (.if_icmp .eq 8, 3) := by decide +kernel
theorem dX5_tellsNumber_10 : decode cX5_tellsNumber 10 = .ok (.iload_n 0, 1) := by decide +kernel
theorem dX5_tellsNumber_11 : decode cX5_tellsNumber 11 = .ok (.iconst 5, 1) := by decide +kernel
theorem dX5_tellsNumber_12 : decode cX5_tellsNumber 12 = .ok (.if_icmp .ne 7, 3) := by decide +kernel
theorem dX5_tellsNumber_15 : decode cX5_tellsNumber 15 = .ok (.iconst 1, 1) := by decide +kernel
theorem dX5_tellsNumber_16 : decode cX5_tellsNumber 16 = .ok (.goto 4, 3) := by decide +kernel
theorem dX5_tellsNumber_19 : decode cX5_tellsNumber 19 = .ok (.iconst 0, 1) := by decide +kernel
theorem dX5_tellsNumber_20 : decode cX5_tellsNumber 20 = .ok (.ireturn, 1) := by decide +kernel
set_option maxRecDepth 20000 in
theorem ggX5_plainLength_X5_digits : GoodIn wsX5_plainLength wsX5_digits := goodIn_r _ [7] (by decide +kernel) (by decide +kernel)
set_option maxRecDepth 20000 in
theorem gX5_plainLength_X5_digits : GoodIn wsX5_plainLength (va_wsS RX5 146 yX5_digits wsX5_digits) := goodIn_app (goodIn_of _ (by decide +kernel)) ggX5_plainLength_X5_digits
set_option maxRecDepth 20000 in
theorem ggX5_plainLength_X5_nameLength : GoodIn wsX5_plainLength wsX5_nameLength := goodIn_r _ [11, 12, 16, 17, 18, 19, 20, 21, 22, 23, 24, 25, 26, 27, 28, 29, 30, 31, 32, 33, 34, 35, 36, 37] (by decide +kernel) (by decide +kernel)
set_option maxRecDepth 20000 in
theorem gX5_plainLength_X5_nameLength : GoodIn wsX5_plainLength (wsV RX5 149 RX5 yX5_nameLength wsX5_nameLength) := goodIn_app (goodIn_of _ (by decide +kernel)) ggX5_plainLength_X5_nameLength
set_option maxRecDepth 20000 in
theorem ggX5_plainLength_X5_tellsNumber : GoodIn wsX5_plainLength wsX5_tellsNumber := goodIn_r _ [15] (by decide +kernel) (by decide +kernel)
set_option maxRecDepth 20000 in
theorem gX5_plainLength_X5_tellsNumber : GoodIn wsX5_plainLength (va_wsS RX5 152 yX5_tellsNumber wsX5_tellsNumber) := goodIn_app (goodIn_of _ (by decide +kernel)) ggX5_plainLength_X5_tellsNumber
theorem dX5_plainLength_0 : decode cX5_plainLength 0 = .ok (.aload_n 0, 1) := by decide +kernel
theorem dX5_plainLength_1 : decode cX5_plainLength 1 = .ok (.getfield 63, 3) := by decide +kernel
theorem dX5_plainLength_4 : decode cX5_plainLength 4 = .ok (.iload_n 1, 1) := by decide +kernel
theorem dX5_plainLength_5 : decode cX5_plainLength 5 = .ok (.iaload, 1) := by decide +kernel
theorem dX5_plainLength_6 : decode cX5_plainLength 6 = .ok (.istore_n 2, 1) := by decide +kernel
theorem dX5_plainLength_7 : decode cX5_plainLength 7 = .ok (.aload_n 0, 1) := by decide +kernel
theorem dX5_plainLength_8 : decode cX5_plainLength 8 = .ok (.getfield 60, 3) := by decide +kernel
theorem dX5_plainLength_11 : decode cX5_plainLength 11 = .ok (.iload_n 1, 1) := by decide +kernel
theorem dX5_plainLength_12 : decode cX5_plainLength 12 = .ok (.iaload, 1) := by decide +kernel
theorem dX5_plainLength_13 : decode cX5_plainLength 13 = .ok (.invokestatic 146, 3) := by decide +kernel
theorem dX5_plainLength_16 : decode cX5_plainLength 16 = .ok (.iconst 1, 1) := by decide +kernel
theorem dX5_plainLength_17 : decode cX5_plainLength 17 = .ok (.iadd, 1) := by decide +kernel
theorem dX5_plainLength_18 : decode cX5_plainLength 18 = .ok (.aload_n 0, 1) := by decide +kernel
theorem dX5_plainLength_19 : decode cX5_plainLength 19 = .ok (.iload_n 2, 1) := by decide +kernel
theorem dX5_plainLength_20 : decode cX5_plainLength 20 = .ok (.invokevirtual 149, 3) := by decide +kernel
theorem dX5_plainLength_23 : decode cX5_plainLength 23 = .ok (.iadd, 1) := by decide +kernel
theorem dX5_plainLength_24 : decode cX5_plainLength 24 = .ok (.iload_n 2, 1) := by decide +kernel
theorem dX5_plainLength_25 : decode cX5_plainLength 25 = .ok (.invokestatic 152, 3) := by decide +kernel
theorem dX5_plainLength_28 : decode cX5_plainLength 28 = .ok (.ifCond .eq 17, 3) := by decide +kernel
theorem dX5_plainLength_31 : decode cX5_plainLength 31 = .ok (.iconst 1, 1) := by decide +kernel
theorem dX5_plainLength_32 : decode cX5_plainLength 32 = .ok (.aload_n 0, 1) := by decide +kernel
theorem dX5_plainLength_33 : decode cX5_plainLength 33 = .ok (.getfield 66, 3) := by decide +kernel
theorem dX5_plainLength_36 : decode cX5_plainLength 36 = .ok (.iload_n 1, 1) := by decide +kernel
theorem dX5_plainLength_37 : decode cX5_plainLength 37 = .ok (.iaload, 1) := by decide +kernel
theorem dX5_plainLength_38 : decode cX5_plainLength 38 = .ok (.invokestatic 146, 3) := by decide +kernel
theorem dX5_plainLength_41 : decode cX5_plainLength 41 = .ok (.iadd, 1) := by decide +kernel
theorem dX5_plainLength_42 : decode cX5_plainLength 42 = .ok (.goto 4, 3) := by decide +kernel
theorem dX5_plainLength_45 : decode cX5_plainLength 45 = .ok (.iconst 0, 1) := by decide +kernel
theorem dX5_plainLength_46 : decode cX5_plainLength 46 = .ok (.iadd, 1) := by decide +kernel
theorem dX5_plainLength_47 : decode cX5_plainLength 47 = .ok (.ireturn, 1) := by decide +kernel
set_option maxRecDepth 20000 in
theorem ggX5_length_X5_plainLength : GoodIn wsX5_length wsX5_plainLength := goodIn_r _ [6, 7, 8, 9, 10, 11, 5, 12, 13, 14, 15, 16, 17, 18, 19, 20, 24, 25, 26, 27, 28, 29, 30, 31, 32, 33, 34, 35, 36, 37, 38, 39, 40, 41, 42, 43, 44, 45] (by decide +kernel) (by decide +kernel)
set_option maxRecDepth 20000 in
theorem gX5_length_X5_plainLength : GoodIn wsX5_length (wsV RX5 155 RX5 yX5_plainLength wsX5_plainLength) := goodIn_app (goodIn_of _ (by decide +kernel)) ggX5_length_X5_plainLength
set_option maxRecDepth 20000 in
theorem ggX5_length_X5_has : GoodIn wsX5_length wsX5_has := goodIn_r _ [23] (by decide +kernel) (by decide +kernel)
set_option maxRecDepth 20000 in
theorem gX5_length_X5_has : GoodIn wsX5_length (va_wsS RX5 121 yX5_has wsX5_has) := goodIn_app (goodIn_of _ (by decide +kernel)) ggX5_length_X5_has
theorem dX5_length_0 : decode cX5_length 0 = .ok (.aload_n 0, 1) := by decide +kernel
theorem dX5_length_1 : decode cX5_length 1 = .ok (.iload_n 1, 1) := by decide +kernel
theorem dX5_length_2 : decode cX5_length 2 = .ok (.invokevirtual 155, 3) := by decide +kernel
theorem dX5_length_5 : decode cX5_length 5 = .ok (.aload_n 0, 1) := by decide +kernel
theorem dX5_length_6 : decode cX5_length 6 = .ok (.getfield 69, 3) := by decide +kernel
theorem dX5_length_9 : decode cX5_length 9 = .ok (.iload_n 1, 1) := by decide +kernel
theorem dX5_length_10 : decode cX5_length 10 = .ok (.iaload, 1) := by decide +kernel
theorem dX5_length_11 : decode cX5_length 11 = .ok (.iconst 1, 1) := by decide +kernel
theorem dX5_length_12 : decode cX5_length 12 = .ok (.invokestatic 121, 3) := by decide +kernel
theorem dX5_length_15 : decode cX5_length 15 = .ok (.ifCond .eq 7, 3) := by decide +kernel
theorem dX5_length_18 : decode cX5_length 18 = .ok (.iconst 2, 1) := by decide +kernel
theorem dX5_length_19 : decode cX5_length 19 = .ok (.goto 4, 3) := by decide +kernel
theorem dX5_length_22 : decode cX5_length 22 = .ok (.iconst 0, 1) := by decide +kernel
theorem dX5_length_23 : decode cX5_length 23 = .ok (.iadd, 1) := by decide +kernel
theorem dX5_length_24 : decode cX5_length 24 = .ok (.aload_n 0, 1) := by decide +kernel
theorem dX5_length_25 : decode cX5_length 25 = .ok (.getfield 69, 3) := by decide +kernel
theorem dX5_length_28 : decode cX5_length 28 = .ok (.iload_n 1, 1) := by decide +kernel
theorem dX5_length_29 : decode cX5_length 29 = .ok (.iaload, 1) := by decide +kernel
theorem dX5_length_30 : decode cX5_length 30 = .ok (.iconst 2, 1) := by decide +kernel
theorem dX5_length_31 : decode cX5_length 31 = .ok (.invokestatic 121, 3) := by decide +kernel
theorem dX5_length_34 : decode cX5_length 34 = .ok (.ifCond .eq 7, 3) := by decide +kernel
theorem dX5_length_37 : decode cX5_length 37 = .ok (.iconst 2, 1) := by decide +kernel
theorem dX5_length_38 : decode cX5_length 38 = .ok (.goto 4, 3) := by decide +kernel
theorem dX5_length_41 : decode cX5_length 41 = .ok (.iconst 0, 1) := by decide +kernel
theorem dX5_length_42 : decode cX5_length 42 = .ok (.iadd, 1) := by decide +kernel
theorem dX5_length_43 : decode cX5_length 43 = .ok (.ireturn, 1) := by decide +kernel
set_option maxRecDepth 20000 in
theorem ggX5_textLength_X5_isOnWire : GoodIn wsX5_textLength wsX5_isOnWire := goodIn_r _ [5, 6, 7, 8, 4, 9, 10, 11, 12, 44, 45, 46, 47, 48, 49, 50, 51, 52, 53, 54, 55, 56, 57, 58, 59, 60, 61, 62, 63, 64, 65] (by decide +kernel) (by decide +kernel)
set_option maxRecDepth 20000 in
theorem gX5_textLength_X5_isOnWire : GoodIn wsX5_textLength (wsV RX5 143 RX5 yX5_isOnWire wsX5_isOnWire) := goodIn_app (goodIn_of _ (by decide +kernel)) ggX5_textLength_X5_isOnWire
set_option maxRecDepth 20000 in
theorem ggX5_textLength_X5_holds : GoodIn wsX5_textLength wsX5_holds := goodIn_r _ [16, 17, 44, 45, 46, 47, 48, 49, 50, 51, 52, 53, 54, 55, 56, 57, 58, 59, 60, 61, 62, 63, 64, 65] (by decide +kernel) (by decide +kernel)
set_option maxRecDepth 20000 in
theorem gX5_textLength_X5_holds : GoodIn wsX5_textLength (wsV RX5 97 RX5 yX5_holds wsX5_holds) := goodIn_app (goodIn_of _ (by decide +kernel)) ggX5_textLength_X5_holds
set_option maxRecDepth 20000 in
theorem ggX5_textLength_X5_length : GoodIn wsX5_textLength wsX5_length := goodIn_r _ [21, 22, 23, 24, 25, 4, 26, 27, 28, 29, 30, 31, 32, 33, 34, 35, 36, 37, 38, 39, 40, 41, 42, 43, 44, 45, 46, 47, 48, 49, 50, 51, 52, 53, 54, 55, 56, 57, 58, 59, 60, 61, 62, 63, 64, 65] (by decide +kernel) (by decide +kernel)
set_option maxRecDepth 20000 in
theorem gX5_textLength_X5_length : GoodIn wsX5_textLength (wsV RX5 158 RX5 yX5_length wsX5_length) := goodIn_app (goodIn_of _ (by decide +kernel)) ggX5_textLength_X5_length
theorem dX5_textLength_0 : decode cX5_textLength 0 = .ok (.aload_n 0, 1) := by decide +kernel
theorem dX5_textLength_1 : decode cX5_textLength 1 = .ok (.aload_n 0, 1) := by decide +kernel
theorem dX5_textLength_2 : decode cX5_textLength 2 = .ok (.iload_n 1, 1) := by decide +kernel
theorem dX5_textLength_3 : decode cX5_textLength 3 = .ok (.iload_n 2, 1) := by decide +kernel
theorem dX5_textLength_4 : decode cX5_textLength 4 = .ok (.invokevirtual 143, 3) := by decide +kernel
theorem dX5_textLength_7 : decode cX5_textLength 7 = .ok (.ifCond .eq 7, 3) := by decide +kernel
theorem dX5_textLength_10 : decode cX5_textLength 10 = .ok (.iconst 0, 1) := by decide +kernel
theorem dX5_textLength_11 : decode cX5_textLength 11 = .ok (.goto 4, 3) := by decide +kernel
theorem dX5_textLength_14 : decode cX5_textLength 14 = .ok (.iconst 1, 1) := by decide +kernel
theorem dX5_textLength_15 : decode cX5_textLength 15 = .ok (.invokevirtual 97, 3) := by decide +kernel
theorem dX5_textLength_18 : decode cX5_textLength 18 = .ok (.ifCond .eq 16, 3) := by decide +kernel
theorem dX5_textLength_21 : decode cX5_textLength 21 = .ok (.aload_n 0, 1) := by decide +kernel
theorem dX5_textLength_22 : decode cX5_textLength 22 = .ok (.bipush 60, 2) := by decide +kernel
theorem dX5_textLength_24 : decode cX5_textLength 24 = .ok (.iload_n 1, 1) := by decide +kernel
theorem dX5_textLength_25 : decode cX5_textLength 25 = .ok (.imul, 1) := by decide +kernel
theorem dX5_textLength_26 : decode cX5_textLength 26 = .ok (.iload_n 2, 1) := by decide +kernel
theorem dX5_textLength_27 : decode cX5_textLength 27 = .ok (.iadd, 1) := by decide +kernel
theorem dX5_textLength_28 : decode cX5_textLength 28 = .ok (.invokevirtual 158, 3) := by decide +kernel
theorem dX5_textLength_31 : decode cX5_textLength 31 = .ok (.goto 4, 3) := by decide +kernel
theorem dX5_textLength_34 : decode cX5_textLength 34 = .ok (.iconst 0, 1) := by decide +kernel
theorem dX5_textLength_35 : decode cX5_textLength 35 = .ok (.ireturn, 1) := by decide +kernel
set_option maxRecDepth 20000 in
theorem ggX5_digit_X5_digits : GoodIn wsX5_digit wsX5_digits := goodIn_r _ [4] (by decide +kernel) (by decide +kernel)
set_option maxRecDepth 20000 in
theorem gX5_digit_X5_digits : GoodIn wsX5_digit (va_wsS RX5 146 yX5_digits wsX5_digits) := goodIn_app (goodIn_of _ (by decide +kernel)) ggX5_digit_X5_digits
theorem dX5_digit_0 : decode cX5_digit 0 = .ok (.iload_n 0, 1) := by decide +kernel
theorem dX5_digit_1 : decode cX5_digit 1 = .ok (.istore_n 2, 1) := by decide +kernel
theorem dX5_digit_2 : decode cX5_digit 2 = .ok (.iload_n 1, 1) := by decide +kernel
theorem dX5_digit_3 : decode cX5_digit 3 = .ok (.istore_n 3, 1) := by decide +kernel
theorem dX5_digit_4 : decode cX5_digit 4 = .ok (.iload_n 3, 1) := by decide +kernel
theorem dX5_digit_5 : decode cX5_digit 5 = .ok (.iload_n 0, 1) := by decide +kernel
theorem dX5_digit_6 : decode cX5_digit 6 = .ok (.invokestatic 146, 3) := by decide +kernel
theorem dX5_digit_9 : decode cX5_digit 9 = .ok (.iconst 1, 1) := by decide +kernel
theorem dX5_digit_10 : decode cX5_digit 10 = .ok (.isub, 1) := by decide +kernel
theorem dX5_digit_11 : decode cX5_digit 11 = .ok (.if_icmp .ge 14, 3) := by decide +kernel
theorem dX5_digit_14 : decode cX5_digit 14 = .ok (.iload_n 2, 1) := by decide +kernel
theorem dX5_digit_15 : decode cX5_digit 15 = .ok (.bipush 10, 2) := by decide +kernel
theorem dX5_digit_17 : decode cX5_digit 17 = .ok (.idiv, 1) := by decide +kernel
theorem dX5_digit_18 : decode cX5_digit 18 = .ok (.istore_n 2, 1) := by decide +kernel
theorem dX5_digit_19 : decode cX5_digit 19 = .ok (.iinc 3 1, 3) := by decide +kernel
theorem dX5_digit_22 : decode cX5_digit 22 = .ok (.goto (-18), 3) := by decide +kernel
theorem dX5_digit_25 : decode cX5_digit 25 = .ok (.bipush 48, 2) := by decide +kernel
theorem dX5_digit_27 : decode cX5_digit 27 = .ok (.iload_n 2, 1) := by decide +kernel
theorem dX5_digit_28 : decode cX5_digit 28 = .ok (.bipush 10, 2) := by decide +kernel
theorem dX5_digit_30 : decode cX5_digit 30 = .ok (.irem, 1) := by decide +kernel
theorem dX5_digit_31 : decode cX5_digit 31 = .ok (.iadd, 1) := by decide +kernel
theorem dX5_digit_32 : decode cX5_digit 32 = .ok (.i2c, 1) := by decide +kernel
theorem dX5_digit_33 : decode cX5_digit 33 = .ok (.ireturn, 1) := by decide +kernel
set_option maxRecDepth 20000 in
theorem ggX5_charOf_X5_digits : GoodIn wsX5_charOf wsX5_digits := goodIn_r _ [9] (by decide +kernel) (by decide +kernel)
set_option maxRecDepth 20000 in
theorem gX5_charOf_X5_digits : GoodIn wsX5_charOf (va_wsS RX5 146 yX5_digits wsX5_digits) := goodIn_app (goodIn_of _ (by decide +kernel)) ggX5_charOf_X5_digits
set_option maxRecDepth 20000 in
theorem ggX5_charOf_X5_nameLength : GoodIn wsX5_charOf wsX5_nameLength := goodIn_r _ [13, 3, 27, 28, 29, 30, 31, 32, 33, 34, 35, 36, 37, 38, 39, 40, 41, 42, 43, 44, 45, 46, 47, 48] (by decide +kernel) (by decide +kernel)
set_option maxRecDepth 20000 in
theorem gX5_charOf_X5_nameLength : GoodIn wsX5_charOf (wsV RX5 149 RX5 yX5_nameLength wsX5_nameLength) := goodIn_app (goodIn_of _ (by decide +kernel)) ggX5_charOf_X5_nameLength
set_option maxRecDepth 20000 in
theorem ggX5_charOf_X5_digit : GoodIn wsX5_charOf wsX5_digit := goodIn_r _ [16, 6, 7, 8, 9] (by decide +kernel) (by decide +kernel)
set_option maxRecDepth 20000 in
theorem gX5_charOf_X5_digit : GoodIn wsX5_charOf (va_wsS RX5 161 yX5_digit wsX5_digit) := goodIn_app (goodIn_of _ (by decide +kernel)) ggX5_charOf_X5_digit
set_option maxRecDepth 20000 in
theorem ggX5_charOf_X5_plainLength : GoodIn wsX5_charOf wsX5_plainLength := goodIn_r _ [20, 2, 1, 4, 6, 7, 8, 9, 10, 11, 12, 13, 3, 21, 22, 23, 27, 28, 29, 30, 31, 32, 33, 34, 35, 36, 37, 38, 39, 40, 41, 42, 43, 44, 45, 46, 47, 48] (by decide +kernel) (by decide +kernel)
set_option maxRecDepth 20000 in
theorem gX5_charOf_X5_plainLength : GoodIn wsX5_charOf (wsV RX5 155 RX5 yX5_plainLength wsX5_plainLength) := goodIn_app (goodIn_of _ (by decide +kernel)) ggX5_charOf_X5_plainLength
set_option maxRecDepth 20000 in
theorem ggX5_charOf_X5_has : GoodIn wsX5_charOf wsX5_has := goodIn_r _ [26] (by decide +kernel) (by decide +kernel)
set_option maxRecDepth 20000 in
theorem gX5_charOf_X5_has : GoodIn wsX5_charOf (va_wsS RX5 121 yX5_has wsX5_has) := goodIn_app (goodIn_of _ (by decide +kernel)) ggX5_charOf_X5_has
theorem dX5_charOf_0 : decode cX5_charOf 0 = .ok (.aload_n 0, 1) := by decide +kernel
theorem dX5_charOf_1 : decode cX5_charOf 1 = .ok (.getfield 60, 3) := by decide +kernel
theorem dX5_charOf_4 : decode cX5_charOf 4 = .ok (.iload_n 1, 1) := by decide +kernel
theorem dX5_charOf_5 : decode cX5_charOf 5 = .ok (.iaload, 1) := by decide +kernel
theorem dX5_charOf_6 : decode cX5_charOf 6 = .ok (.invokestatic 146, 3) := by decide +kernel
theorem dX5_charOf_9 : decode cX5_charOf 9 = .ok (.istore_n 3, 1) := by decide +kernel
theorem dX5_charOf_10 : decode cX5_charOf 10 = .ok (.iload_n 3, 1) := by decide +kernel
theorem dX5_charOf_11 : decode cX5_charOf 11 = .ok (.iconst 1, 1) := by decide +kernel
theorem dX5_charOf_12 : decode cX5_charOf 12 = .ok (.iadd, 1) := by decide +kernel
theorem dX5_charOf_13 : decode cX5_charOf 13 = .ok (.aload_n 0, 1) := by decide +kernel
theorem dX5_charOf_14 : decode cX5_charOf 14 = .ok (.aload_n 0, 1) := by decide +kernel
theorem dX5_charOf_15 : decode cX5_charOf 15 = .ok (.getfield 63, 3) := by decide +kernel
theorem dX5_charOf_18 : decode cX5_charOf 18 = .ok (.iload_n 1, 1) := by decide +kernel
theorem dX5_charOf_19 : decode cX5_charOf 19 = .ok (.iaload, 1) := by decide +kernel
theorem dX5_charOf_20 : decode cX5_charOf 20 = .ok (.invokevirtual 149, 3) := by decide +kernel
theorem dX5_charOf_23 : decode cX5_charOf 23 = .ok (.iadd, 1) := by decide +kernel
theorem dX5_charOf_24 : decode cX5_charOf 24 = .ok (.istore 4, 2) := by decide +kernel
theorem dX5_charOf_26 : decode cX5_charOf 26 = .ok (.iload_n 2, 1) := by decide +kernel
theorem dX5_charOf_27 : decode cX5_charOf 27 = .ok (.iload 4, 2) := by decide +kernel
theorem dX5_charOf_29 : decode cX5_charOf 29 = .ok (.if_icmp .ge 52, 3) := by decide +kernel
theorem dX5_charOf_32 : decode cX5_charOf 32 = .ok (.iload_n 2, 1) := by decide +kernel
theorem dX5_charOf_33 : decode cX5_charOf 33 = .ok (.iload_n 3, 1) := by decide +kernel
theorem dX5_charOf_34 : decode cX5_charOf 34 = .ok (.if_icmp .ge 16, 3) := by decide +kernel
theorem dX5_charOf_37 : decode cX5_charOf 37 = .ok (.aload_n 0, 1) := by decide +kernel
theorem dX5_charOf_38 : decode cX5_charOf 38 = .ok (.getfield 60, 3) := by decide +kernel
theorem dX5_charOf_41 : decode cX5_charOf 41 = .ok (.iload_n 1, 1) := by decide +kernel
theorem dX5_charOf_42 : decode cX5_charOf 42 = .ok (.iaload, 1) := by decide +kernel
theorem dX5_charOf_43 : decode cX5_charOf 43 = .ok (.iload_n 2, 1) := by decide +kernel
theorem dX5_charOf_44 : decode cX5_charOf 44 = .ok (.invokestatic 161, 3) := by decide +kernel
theorem dX5_charOf_47 : decode cX5_charOf 47 = .ok (.goto 33, 3) := by decide +kernel
theorem dX5_charOf_50 : decode cX5_charOf 50 = .ok (.iload_n 2, 1) := by decide +kernel
theorem dX5_charOf_51 : decode cX5_charOf 51 = .ok (.iload_n 3, 1) := by decide +kernel
theorem dX5_charOf_52 : decode cX5_charOf 52 = .ok (.if_icmp .ne 8, 3) := by decide +kernel
theorem dX5_charOf_55 : decode cX5_charOf 55 = .ok (.bipush 32, 2) := by decide +kernel
theorem dX5_charOf_57 : decode cX5_charOf 57 = .ok (.goto 23, 3) := by decide +kernel
theorem dX5_charOf_60 : decode cX5_charOf 60 = .ok (.aload_n 0, 1) := by decide +kernel
theorem dX5_charOf_61 : decode cX5_charOf 61 = .ok (.getfield 7, 3) := by decide +kernel
theorem dX5_charOf_64 : decode cX5_charOf 64 = .ok (.bipush 9, 2) := by decide +kernel
theorem dX5_charOf_66 : decode cX5_charOf 66 = .ok (.aload_n 0, 1) := by decide +kernel
theorem dX5_charOf_67 : decode cX5_charOf 67 = .ok (.getfield 63, 3) := by decide +kernel
theorem dX5_charOf_70 : decode cX5_charOf 70 = .ok (.iload_n 1, 1) := by decide +kernel
theorem dX5_charOf_71 : decode cX5_charOf 71 = .ok (.iaload, 1) := by decide +kernel
theorem dX5_charOf_72 : decode cX5_charOf 72 = .ok (.imul, 1) := by decide +kernel
theorem dX5_charOf_73 : decode cX5_charOf 73 = .ok (.iload_n 2, 1) := by decide +kernel
theorem dX5_charOf_74 : decode cX5_charOf 74 = .ok (.iadd, 1) := by decide +kernel
theorem dX5_charOf_75 : decode cX5_charOf 75 = .ok (.iload_n 3, 1) := by decide +kernel
theorem dX5_charOf_76 : decode cX5_charOf 76 = .ok (.isub, 1) := by decide +kernel
theorem dX5_charOf_77 : decode cX5_charOf 77 = .ok (.iconst 1, 1) := by decide +kernel
theorem dX5_charOf_78 : decode cX5_charOf 78 = .ok (.isub, 1) := by decide +kernel
theorem dX5_charOf_79 : decode cX5_charOf 79 = .ok (.caload, 1) := by decide +kernel
theorem dX5_charOf_80 : decode cX5_charOf 80 = .ok (.ireturn, 1) := by decide +kernel
theorem dX5_charOf_81 : decode cX5_charOf 81 = .ok (.iload_n 2, 1) := by decide +kernel
theorem dX5_charOf_82 : decode cX5_charOf 82 = .ok (.aload_n 0, 1) := by decide +kernel
theorem dX5_charOf_83 : decode cX5_charOf 83 = .ok (.iload_n 1, 1) := by decide +kernel
theorem dX5_charOf_84 : decode cX5_charOf 84 = .ok (.invokevirtual 155, 3) := by decide +kernel
theorem dX5_charOf_87 : decode cX5_charOf 87 = .ok (.if_icmp .ge 30, 3) := by decide +kernel
theorem dX5_charOf_90 : decode cX5_charOf 90 = .ok (.iload_n 2, 1) := by decide +kernel
theorem dX5_charOf_91 : decode cX5_charOf 91 = .ok (.iload 4, 2) := by decide +kernel
theorem dX5_charOf_93 : decode cX5_charOf 93 = .ok (.if_icmp .ne 8, 3) := by decide +kernel
theorem dX5_charOf_96 : decode cX5_charOf 96 = .ok (.bipush 32, 2) := by decide +kernel
theorem dX5_charOf_98 : decode cX5_charOf 98 = .ok (.goto 18, 3) := by decide +kernel
theorem dX5_charOf_101 : decode cX5_charOf 101 = .ok (.aload_n 0, 1) := by decide +kernel
theorem dX5_charOf_102 : decode cX5_charOf 102 = .ok (.getfield 66, 3) := by decide +kernel
theorem dX5_charOf_105 : decode cX5_charOf 105 = .ok (.iload_n 1, 1) := by decide +kernel
theorem dX5_charOf_106 : decode cX5_charOf 106 = .ok (.iaload, 1) := by decide +kernel
theorem dX5_charOf_107 : decode cX5_charOf 107 = .ok (.iload_n 2, 1) := by decide +kernel
theorem dX5_charOf_108 : decode cX5_charOf 108 = .ok (.iload 4, 2) := by decide +kernel
theorem dX5_charOf_110 : decode cX5_charOf 110 = .ok (.isub, 1) := by decide +kernel
theorem dX5_charOf_111 : decode cX5_charOf 111 = .ok (.iconst 1, 1) := by decide +kernel
theorem dX5_charOf_112 : decode cX5_charOf 112 = .ok (.isub, 1) := by decide +kernel
theorem dX5_charOf_113 : decode cX5_charOf 113 = .ok (.invokestatic 161, 3) := by decide +kernel
theorem dX5_charOf_116 : decode cX5_charOf 116 = .ok (.ireturn, 1) := by decide +kernel
theorem dX5_charOf_117 : decode cX5_charOf 117 = .ok (.iload_n 2, 1) := by decide +kernel
theorem dX5_charOf_118 : decode cX5_charOf 118 = .ok (.aload_n 0, 1) := by decide +kernel
theorem dX5_charOf_119 : decode cX5_charOf 119 = .ok (.iload_n 1, 1) := by decide +kernel
theorem dX5_charOf_120 : decode cX5_charOf 120 = .ok (.invokevirtual 155, 3) := by decide +kernel
theorem dX5_charOf_123 : decode cX5_charOf 123 = .ok (.isub, 1) := by decide +kernel
theorem dX5_charOf_124 : decode cX5_charOf 124 = .ok (.istore 5, 2) := by decide +kernel
theorem dX5_charOf_126 : decode cX5_charOf 126 = .ok (.iload 5, 2) := by decide +kernel
theorem dX5_charOf_128 : decode cX5_charOf 128 = .ok (.iconst 2, 1) := by decide +kernel
theorem dX5_charOf_129 : decode cX5_charOf 129 = .ok (.irem, 1) := by decide +kernel
theorem dX5_charOf_130 : decode cX5_charOf 130 = .ok (.ifCond .ne 8, 3) := by decide +kernel
theorem dX5_charOf_133 : decode cX5_charOf 133 = .ok (.bipush 32, 2) := by decide +kernel
theorem dX5_charOf_135 : decode cX5_charOf 135 = .ok (.goto 29, 3) := by decide +kernel
theorem dX5_charOf_138 : decode cX5_charOf 138 = .ok (.iload 5, 2) := by decide +kernel
theorem dX5_charOf_140 : decode cX5_charOf 140 = .ok (.iconst 1, 1) := by decide +kernel
theorem dX5_charOf_141 : decode cX5_charOf 141 = .ok (.if_icmp .ne 21, 3) := by decide +kernel
theorem dX5_charOf_144 : decode cX5_charOf 144 = .ok (.aload_n 0, 1) := by decide +kernel
theorem dX5_charOf_145 : decode cX5_charOf 145 = .ok (.getfield 69, 3) := by decide +kernel
theorem dX5_charOf_148 : decode cX5_charOf 148 = .ok (.iload_n 1, 1) := by decide +kernel
theorem dX5_charOf_149 : decode cX5_charOf 149 = .ok (.iaload, 1) := by decide +kernel
theorem dX5_charOf_150 : decode cX5_charOf 150 = .ok (.iconst 1, 1) := by decide +kernel
theorem dX5_charOf_151 : decode cX5_charOf 151 = .ok (.invokestatic 121, 3) := by decide +kernel
theorem dX5_charOf_154 : decode cX5_charOf 154 = .ok (.ifCond .eq 8, 3) := by decide +kernel
theorem dX5_charOf_157 : decode cX5_charOf 157 = .ok (.bipush 68, 2) := by decide +kernel
theorem dX5_charOf_159 : decode cX5_charOf 159 = .ok (.goto 5, 3) := by decide +kernel
theorem dX5_charOf_162 : decode cX5_charOf 162 = .ok (.bipush 80, 2) := by decide +kernel
theorem dX5_charOf_164 : decode cX5_charOf 164 = .ok (.ireturn, 1) := by decide +kernel
set_option maxRecDepth 20000 in
theorem ggX5_textChar_X5_isOnWire : GoodIn wsX5_textChar wsX5_isOnWire := goodIn_r _ [5, 6, 7, 8, 4, 9, 10, 11, 12, 51, 52, 53, 54, 55, 56, 57, 58, 59, 60, 61, 62, 63, 64, 65, 66, 67, 68, 69, 70, 71, 72] (by decide +kernel) (by decide +kernel)
set_option maxRecDepth 20000 in
theorem gX5_textChar_X5_isOnWire : GoodIn wsX5_textChar (wsV RX5 143 RX5 yX5_isOnWire wsX5_isOnWire) := goodIn_app (goodIn_of _ (by decide +kernel)) ggX5_textChar_X5_isOnWire
set_option maxRecDepth 20000 in
theorem ggX5_textChar_X5_length : GoodIn wsX5_textChar wsX5_length := goodIn_r _ [16, 17, 18, 19, 20, 4, 21, 22, 23, 24, 25, 26, 27, 28, 29, 30, 31, 32, 33, 34, 35, 36, 37, 38, 51, 52, 53, 54, 55, 56, 57, 58, 59, 60, 61, 62, 63, 64, 65, 66, 67, 68, 69, 70, 71, 72] (by decide +kernel) (by decide +kernel)
set_option maxRecDepth 20000 in
theorem gX5_textChar_X5_length : GoodIn wsX5_textChar (wsV RX5 158 RX5 yX5_length wsX5_length) := goodIn_app (goodIn_of _ (by decide +kernel)) ggX5_textChar_X5_length
set_option maxRecDepth 20000 in
theorem ggX5_textChar_X5_in : GoodIn wsX5_textChar wsX5_in := goodIn_r _ [12] (by decide +kernel) (by decide +kernel)
set_option maxRecDepth 20000 in
theorem gX5_textChar_X5_in : GoodIn wsX5_textChar (va_wsS RX5 79 yX5_in wsX5_in) := goodIn_app (goodIn_of _ (by decide +kernel)) ggX5_textChar_X5_in
set_option maxRecDepth 20000 in
theorem ggX5_textChar_X5_holds : GoodIn wsX5_textChar wsX5_holds := goodIn_r _ [42, 43, 51, 52, 53, 54, 55, 56, 57, 58, 59, 60, 61, 62, 63, 64, 65, 66, 67, 68, 69, 70, 71, 72] (by decide +kernel) (by decide +kernel)
set_option maxRecDepth 20000 in
theorem gX5_textChar_X5_holds : GoodIn wsX5_textChar (wsV RX5 97 RX5 yX5_holds wsX5_holds) := goodIn_app (goodIn_of _ (by decide +kernel)) ggX5_textChar_X5_holds
set_option maxRecDepth 20000 in
theorem ggX5_textChar_X5_charOf : GoodIn wsX5_textChar wsX5_charOf := goodIn_r _ [47, 23, 22, 32, 24, 17, 25, 26, 4, 27, 28, 29, 30, 31, 48, 49, 50, 18, 19, 20, 21, 33, 34, 35, 36, 37, 38, 51, 52, 53, 54, 55, 56, 57, 58, 59, 60, 61, 62, 63, 64, 65, 66, 67, 68, 69, 70, 71, 72] (by decide +kernel) (by decide +kernel)
set_option maxRecDepth 20000 in
theorem gX5_textChar_X5_charOf : GoodIn wsX5_textChar (wsV RX5 165 RX5 yX5_charOf wsX5_charOf) := goodIn_app (goodIn_of _ (by decide +kernel)) ggX5_textChar_X5_charOf
theorem dX5_textChar_0 : decode cX5_textChar 0 = .ok (.aload_n 0, 1) := by decide +kernel
theorem dX5_textChar_1 : decode cX5_textChar 1 = .ok (.iload_n 1, 1) := by decide +kernel
theorem dX5_textChar_2 : decode cX5_textChar 2 = .ok (.iload_n 2, 1) := by decide +kernel
theorem dX5_textChar_3 : decode cX5_textChar 3 = .ok (.invokevirtual 143, 3) := by decide +kernel
theorem dX5_textChar_6 : decode cX5_textChar 6 = .ok (.ifCond .eq 27, 3) := by decide +kernel
theorem dX5_textChar_9 : decode cX5_textChar 9 = .ok (.iload_n 3, 1) := by decide +kernel
theorem dX5_textChar_10 : decode cX5_textChar 10 = .ok (.iconst 0, 1) := by decide +kernel
theorem dX5_textChar_11 : decode cX5_textChar 11 = .ok (.aload_n 0, 1) := by decide +kernel
theorem dX5_textChar_12 : decode cX5_textChar 12 = .ok (.bipush 60, 2) := by decide +kernel
theorem dX5_textChar_14 : decode cX5_textChar 14 = .ok (.iload_n 1, 1) := by decide +kernel
theorem dX5_textChar_15 : decode cX5_textChar 15 = .ok (.imul, 1) := by decide +kernel
theorem dX5_textChar_16 : decode cX5_textChar 16 = .ok (.iload_n 2, 1) := by decide +kernel
theorem dX5_textChar_17 : decode cX5_textChar 17 = .ok (.iadd, 1) := by decide +kernel
theorem dX5_textChar_18 : decode cX5_textChar 18 = .ok (.invokevirtual 158, 3) := by decide +kernel
theorem dX5_textChar_21 : decode cX5_textChar 21 = .ok (.iconst 1, 1) := by decide +kernel
theorem dX5_textChar_22 : decode cX5_textChar 22 = .ok (.isub, 1) := by decide +kernel
theorem dX5_textChar_23 : decode cX5_textChar 23 = .ok (.invokestatic 79, 3) := by decide +kernel
theorem dX5_textChar_26 : decode cX5_textChar 26 = .ok (.ifCond .eq 7, 3) := by decide +kernel
theorem dX5_textChar_29 : decode cX5_textChar 29 = .ok (.iconst 1, 1) := by decide +kernel
theorem dX5_textChar_30 : decode cX5_textChar 30 = .ok (.goto 4, 3) := by decide +kernel
theorem dX5_textChar_33 : decode cX5_textChar 33 = .ok (.iconst 0, 1) := by decide +kernel
theorem dX5_textChar_34 : decode cX5_textChar 34 = .ok (.istore 4, 2) := by decide +kernel
theorem dX5_textChar_36 : decode cX5_textChar 36 = .ok (.aload_n 0, 1) := by decide +kernel
theorem dX5_textChar_37 : decode cX5_textChar 37 = .ok (.iload 4, 2) := by decide +kernel
theorem dX5_textChar_39 : decode cX5_textChar 39 = .ok (.ifCond .eq 7, 3) := by decide +kernel
theorem dX5_textChar_42 : decode cX5_textChar 42 = .ok (.iconst 0, 1) := by decide +kernel
theorem dX5_textChar_43 : decode cX5_textChar 43 = .ok (.goto 4, 3) := by decide +kernel
theorem dX5_textChar_46 : decode cX5_textChar 46 = .ok (.iconst 1, 1) := by decide +kernel
theorem dX5_textChar_47 : decode cX5_textChar 47 = .ok (.invokevirtual 97, 3) := by decide +kernel
theorem dX5_textChar_50 : decode cX5_textChar 50 = .ok (.ifCond .eq 17, 3) := by decide +kernel
theorem dX5_textChar_53 : decode cX5_textChar 53 = .ok (.aload_n 0, 1) := by decide +kernel
theorem dX5_textChar_54 : decode cX5_textChar 54 = .ok (.bipush 60, 2) := by decide +kernel
theorem dX5_textChar_56 : decode cX5_textChar 56 = .ok (.iload_n 1, 1) := by decide +kernel
theorem dX5_textChar_57 : decode cX5_textChar 57 = .ok (.imul, 1) := by decide +kernel
theorem dX5_textChar_58 : decode cX5_textChar 58 = .ok (.iload_n 2, 1) := by decide +kernel
theorem dX5_textChar_59 : decode cX5_textChar 59 = .ok (.iadd, 1) := by decide +kernel
theorem dX5_textChar_60 : decode cX5_textChar 60 = .ok (.iload_n 3, 1) := by decide +kernel
theorem dX5_textChar_61 : decode cX5_textChar 61 = .ok (.invokevirtual 165, 3) := by decide +kernel
theorem dX5_textChar_64 : decode cX5_textChar 64 = .ok (.goto 5, 3) := by decide +kernel
theorem dX5_textChar_67 : decode cX5_textChar 67 = .ok (.bipush 32, 2) := by decide +kernel
theorem dX5_textChar_69 : decode cX5_textChar 69 = .ok (.ireturn, 1) := by decide +kernel
set_option maxRecDepth 20000 in
theorem ggX5_handled_X5_of : GoodIn wsX5_handled wsX5_of := goodIn_r _ [6, 7, 8, 5, 9, 10, 11, 12, 13, 14, 15, 16, 17, 18, 19, 20, 21, 22, 23, 24, 25, 26, 27, 28, 29, 30, 31, 32, 33, 34, 35, 36, 37, 38, 39] (by decide +kernel) (by decide +kernel)
set_option maxRecDepth 20000 in
theorem gX5_handled_X5_of : GoodIn wsX5_handled (wsV RX5 139 RX5 yX5_of wsX5_of) := goodIn_app (goodIn_of _ (by decide +kernel)) ggX5_handled_X5_of
theorem dX5_handled_0 : decode cX5_handled 0 = .ok (.aload_n 0, 1) := by decide +kernel
theorem dX5_handled_1 : decode cX5_handled 1 = .ok (.iload_n 1, 1) := by decide +kernel
theorem dX5_handled_2 : decode cX5_handled 2 = .ok (.aload_n 0, 1) := by decide +kernel
theorem dX5_handled_3 : decode cX5_handled 3 = .ok (.getfield 35, 3) := by decide +kernel
theorem dX5_handled_6 : decode cX5_handled 6 = .ok (.invokevirtual 139, 3) := by decide +kernel
theorem dX5_handled_9 : decode cX5_handled 9 = .ok (.ireturn, 1) := by decide +kernel
set_option maxRecDepth 20000 in
theorem ggX5_handledKey_X5_isSide : GoodIn wsX5_handledKey wsX5_isSide := goodIn_r _ [6, 7, 8, 5, 9] (by decide +kernel) (by decide +kernel)
set_option maxRecDepth 20000 in
theorem gX5_handledKey_X5_isSide : GoodIn wsX5_handledKey (va_wsS RX5 90 yX5_isSide wsX5_isSide) := goodIn_app (goodIn_of _ (by decide +kernel)) ggX5_handledKey_X5_isSide
set_option maxRecDepth 20000 in
theorem ggX5_handledKey_X5_in : GoodIn wsX5_handledKey wsX5_in := goodIn_r _ [9] (by decide +kernel) (by decide +kernel)
set_option maxRecDepth 20000 in
theorem gX5_handledKey_X5_in : GoodIn wsX5_handledKey (va_wsS RX5 79 yX5_in wsX5_in) := goodIn_app (goodIn_of _ (by decide +kernel)) ggX5_handledKey_X5_in
