/-! THE REFERENCE's CONSTRUCTOR. -/
theorem p108 : ab_prog[108]? = some (ab_m108, ab_c108) := rfl
theorem k108_0 : ab_fetch ab_c108 0 = some (.aload_n 0, 1, 0, 0) := by decide +kernel
theorem k108_1 : ab_fetch ab_c108 1 = some (.invokespecial 1, 3, 998, 0) := by decide +kernel
theorem k108_4 : ab_fetch ab_c108 4 = some (.aload_n 0, 1, 0, 0) := by decide +kernel
theorem k108_5 : ab_fetch ab_c108 5 = some (.bipush 33, 2, 0, 0) := by decide +kernel
theorem k108_7 : ab_fetch ab_c108 7 = some (.newarray .long, 2, 0, 0) := by decide +kernel
theorem k108_9 : ab_fetch ab_c108 9 = some (.dup, 1, 0, 0) := by decide +kernel
theorem k108_10 : ab_fetch ab_c108 10 = some (.iconst 0, 1, 0, 0) := by decide +kernel
theorem k108_11 : ab_fetch ab_c108 11 = some (.ldc2_w 7, 3, 2053468783, 0) := by decide +kernel
theorem k108_14 : ab_fetch ab_c108 14 = some (.lastore, 1, 0, 0) := by decide +kernel
theorem k108_15 : ab_fetch ab_c108 15 = some (.dup, 1, 0, 0) := by decide +kernel
theorem k108_16 : ab_fetch ab_c108 16 = some (.iconst 1, 1, 0, 0) := by decide +kernel
theorem k108_17 : ab_fetch ab_c108 17 = some (.ldc2_w 9, 3, 29281, 0) := by decide +kernel
theorem k108_20 : ab_fetch ab_c108 20 = some (.lastore, 1, 0, 0) := by decide +kernel
theorem k108_21 : ab_fetch ab_c108 21 = some (.dup, 1, 0, 0) := by decide +kernel
theorem k108_22 : ab_fetch ab_c108 22 = some (.iconst 2, 1, 0, 0) := by decide +kernel
theorem k108_23 : ab_fetch ab_c108 23 = some (.ldc2_w 11, 3, 29552, 0) := by decide +kernel
theorem k108_26 : ab_fetch ab_c108 26 = some (.lastore, 1, 0, 0) := by decide +kernel
theorem k108_27 : ab_fetch ab_c108 27 = some (.dup, 1, 0, 0) := by decide +kernel
theorem k108_28 : ab_fetch ab_c108 28 = some (.iconst 3, 1, 0, 0) := by decide +kernel
theorem k108_29 : ab_fetch ab_c108 29 = some (.ldc2_w 13, 3, 26480, 0) := by decide +kernel
theorem k108_32 : ab_fetch ab_c108 32 = some (.lastore, 1, 0, 0) := by decide +kernel
theorem k108_33 : ab_fetch ab_c108 33 = some (.dup, 1, 0, 0) := by decide +kernel
theorem k108_34 : ab_fetch ab_c108 34 = some (.iconst 4, 1, 0, 0) := by decide +kernel
theorem k108_35 : ab_fetch ab_c108 35 = some (.ldc2_w 15, 3, 29808, 0) := by decide +kernel
theorem k108_38 : ab_fetch ab_c108 38 = some (.lastore, 1, 0, 0) := by decide +kernel
theorem k108_39 : ab_fetch ab_c108 39 = some (.dup, 1, 0, 0) := by decide +kernel
theorem k108_40 : ab_fetch ab_c108 40 = some (.iconst 5, 1, 0, 0) := by decide +kernel
theorem k108_41 : ab_fetch ab_c108 41 = some (.ldc2_w 17, 3, 29744, 0) := by decide +kernel
theorem k108_44 : ab_fetch ab_c108 44 = some (.lastore, 1, 0, 0) := by decide +kernel
theorem k108_45 : ab_fetch ab_c108 45 = some (.dup, 1, 0, 0) := by decide +kernel
theorem k108_46 : ab_fetch ab_c108 46 = some (.bipush 6, 2, 0, 0) := by decide +kernel
theorem k108_48 : ab_fetch ab_c108 48 = some (.ldc2_w 19, 3, 29745, 0) := by decide +kernel
theorem k108_51 : ab_fetch ab_c108 51 = some (.lastore, 1, 0, 0) := by decide +kernel
theorem k108_52 : ab_fetch ab_c108 52 = some (.dup, 1, 0, 0) := by decide +kernel
theorem k108_53 : ab_fetch ab_c108 53 = some (.bipush 7, 2, 0, 0) := by decide +kernel
theorem k108_55 : ab_fetch ab_c108 55 = some (.ldc2_w 21, 3, 29746, 0) := by decide +kernel
theorem k108_58 : ab_fetch ab_c108 58 = some (.lastore, 1, 0, 0) := by decide +kernel
theorem k108_59 : ab_fetch ab_c108 59 = some (.dup, 1, 0, 0) := by decide +kernel
theorem k108_60 : ab_fetch ab_c108 60 = some (.bipush 8, 2, 0, 0) := by decide +kernel
theorem k108_62 : ab_fetch ab_c108 62 = some (.ldc2_w 23, 3, 29488, 0) := by decide +kernel
theorem k108_65 : ab_fetch ab_c108 65 = some (.lastore, 1, 0, 0) := by decide +kernel
theorem k108_66 : ab_fetch ab_c108 66 = some (.dup, 1, 0, 0) := by decide +kernel
theorem k108_67 : ab_fetch ab_c108 67 = some (.bipush 9, 2, 0, 0) := by decide +kernel
theorem k108_69 : ab_fetch ab_c108 69 = some (.ldc2_w 25, 3, 29489, 0) := by decide +kernel
theorem k108_72 : ab_fetch ab_c108 72 = some (.lastore, 1, 0, 0) := by decide +kernel
theorem k108_73 : ab_fetch ab_c108 73 = some (.dup, 1, 0, 0) := by decide +kernel
theorem k108_74 : ab_fetch ab_c108 74 = some (.bipush 10, 2, 0, 0) := by decide +kernel
theorem k108_76 : ab_fetch ab_c108 76 = some (.ldc2_w 27, 3, 24880, 0) := by decide +kernel
theorem k108_79 : ab_fetch ab_c108 79 = some (.lastore, 1, 0, 0) := by decide +kernel
theorem k108_80 : ab_fetch ab_c108 80 = some (.dup, 1, 0, 0) := by decide +kernel
theorem k108_81 : ab_fetch ab_c108 81 = some (.bipush 11, 2, 0, 0) := by decide +kernel
theorem k108_83 : ab_fetch ab_c108 83 = some (.ldc2_w 29, 3, 24881, 0) := by decide +kernel
theorem k108_86 : ab_fetch ab_c108 86 = some (.lastore, 1, 0, 0) := by decide +kernel
theorem k108_87 : ab_fetch ab_c108 87 = some (.dup, 1, 0, 0) := by decide +kernel
theorem k108_88 : ab_fetch ab_c108 88 = some (.bipush 12, 2, 0, 0) := by decide +kernel
theorem k108_90 : ab_fetch ab_c108 90 = some (.ldc2_w 31, 3, 24882, 0) := by decide +kernel
theorem k108_93 : ab_fetch ab_c108 93 = some (.lastore, 1, 0, 0) := by decide +kernel
theorem k108_94 : ab_fetch ab_c108 94 = some (.dup, 1, 0, 0) := by decide +kernel
theorem k108_95 : ab_fetch ab_c108 95 = some (.bipush 13, 2, 0, 0) := by decide +kernel
theorem k108_97 : ab_fetch ab_c108 97 = some (.ldc2_w 33, 3, 24883, 0) := by decide +kernel
theorem k108_100 : ab_fetch ab_c108 100 = some (.lastore, 1, 0, 0) := by decide +kernel
theorem k108_101 : ab_fetch ab_c108 101 = some (.dup, 1, 0, 0) := by decide +kernel
theorem k108_102 : ab_fetch ab_c108 102 = some (.bipush 14, 2, 0, 0) := by decide +kernel
theorem k108_104 : ab_fetch ab_c108 104 = some (.ldc2_w 35, 3, 24884, 0) := by decide +kernel
theorem k108_107 : ab_fetch ab_c108 107 = some (.lastore, 1, 0, 0) := by decide +kernel
theorem k108_108 : ab_fetch ab_c108 108 = some (.dup, 1, 0, 0) := by decide +kernel
theorem k108_109 : ab_fetch ab_c108 109 = some (.bipush 15, 2, 0, 0) := by decide +kernel
theorem k108_111 : ab_fetch ab_c108 111 = some (.ldc2_w 37, 3, 24885, 0) := by decide +kernel
theorem k108_114 : ab_fetch ab_c108 114 = some (.lastore, 1, 0, 0) := by decide +kernel
theorem k108_115 : ab_fetch ab_c108 115 = some (.dup, 1, 0, 0) := by decide +kernel
theorem k108_116 : ab_fetch ab_c108 116 = some (.bipush 16, 2, 0, 0) := by decide +kernel
theorem k108_118 : ab_fetch ab_c108 118 = some (.ldc2_w 39, 3, 24886, 0) := by decide +kernel
theorem k108_121 : ab_fetch ab_c108 121 = some (.lastore, 1, 0, 0) := by decide +kernel
theorem k108_122 : ab_fetch ab_c108 122 = some (.dup, 1, 0, 0) := by decide +kernel
theorem k108_123 : ab_fetch ab_c108 123 = some (.bipush 17, 2, 0, 0) := by decide +kernel
theorem k108_125 : ab_fetch ab_c108 125 = some (.ldc2_w 41, 3, 24887, 0) := by decide +kernel
theorem k108_128 : ab_fetch ab_c108 128 = some (.lastore, 1, 0, 0) := by decide +kernel
theorem k108_129 : ab_fetch ab_c108 129 = some (.dup, 1, 0, 0) := by decide +kernel
theorem k108_130 : ab_fetch ab_c108 130 = some (.bipush 18, 2, 0, 0) := by decide +kernel
theorem k108_132 : ab_fetch ab_c108 132 = some (.ldc2_w 43, 3, 29490, 0) := by decide +kernel
theorem k108_135 : ab_fetch ab_c108 135 = some (.lastore, 1, 0, 0) := by decide +kernel
theorem k108_136 : ab_fetch ab_c108 136 = some (.dup, 1, 0, 0) := by decide +kernel
theorem k108_137 : ab_fetch ab_c108 137 = some (.bipush 19, 2, 0, 0) := by decide +kernel
theorem k108_139 : ab_fetch ab_c108 139 = some (.ldc2_w 45, 3, 29491, 0) := by decide +kernel
theorem k108_142 : ab_fetch ab_c108 142 = some (.lastore, 1, 0, 0) := by decide +kernel
theorem k108_143 : ab_fetch ab_c108 143 = some (.dup, 1, 0, 0) := by decide +kernel
theorem k108_144 : ab_fetch ab_c108 144 = some (.bipush 20, 2, 0, 0) := by decide +kernel
theorem k108_146 : ab_fetch ab_c108 146 = some (.ldc2_w 47, 3, 29492, 0) := by decide +kernel
theorem k108_149 : ab_fetch ab_c108 149 = some (.lastore, 1, 0, 0) := by decide +kernel
theorem k108_150 : ab_fetch ab_c108 150 = some (.dup, 1, 0, 0) := by decide +kernel
theorem k108_151 : ab_fetch ab_c108 151 = some (.bipush 21, 2, 0, 0) := by decide +kernel
theorem k108_153 : ab_fetch ab_c108 153 = some (.ldc2_w 49, 3, 29493, 0) := by decide +kernel
theorem k108_156 : ab_fetch ab_c108 156 = some (.lastore, 1, 0, 0) := by decide +kernel
theorem k108_157 : ab_fetch ab_c108 157 = some (.dup, 1, 0, 0) := by decide +kernel
theorem k108_158 : ab_fetch ab_c108 158 = some (.bipush 22, 2, 0, 0) := by decide +kernel
theorem k108_160 : ab_fetch ab_c108 160 = some (.ldc2_w 51, 3, 29494, 0) := by decide +kernel
theorem k108_163 : ab_fetch ab_c108 163 = some (.lastore, 1, 0, 0) := by decide +kernel
theorem k108_164 : ab_fetch ab_c108 164 = some (.dup, 1, 0, 0) := by decide +kernel
theorem k108_165 : ab_fetch ab_c108 165 = some (.bipush 23, 2, 0, 0) := by decide +kernel
theorem k108_167 : ab_fetch ab_c108 167 = some (.ldc2_w 53, 3, 29495, 0) := by decide +kernel
theorem k108_170 : ab_fetch ab_c108 170 = some (.lastore, 1, 0, 0) := by decide +kernel
theorem k108_171 : ab_fetch ab_c108 171 = some (.dup, 1, 0, 0) := by decide +kernel
theorem k108_172 : ab_fetch ab_c108 172 = some (.bipush 24, 2, 0, 0) := by decide +kernel
theorem k108_174 : ab_fetch ab_c108 174 = some (.ldc2_w 55, 3, 29496, 0) := by decide +kernel
theorem k108_177 : ab_fetch ab_c108 177 = some (.lastore, 1, 0, 0) := by decide +kernel
theorem k108_178 : ab_fetch ab_c108 178 = some (.dup, 1, 0, 0) := by decide +kernel
theorem k108_179 : ab_fetch ab_c108 179 = some (.bipush 25, 2, 0, 0) := by decide +kernel
theorem k108_181 : ab_fetch ab_c108 181 = some (.ldc2_w 57, 3, 29497, 0) := by decide +kernel
theorem k108_184 : ab_fetch ab_c108 184 = some (.lastore, 1, 0, 0) := by decide +kernel
theorem k108_185 : ab_fetch ab_c108 185 = some (.dup, 1, 0, 0) := by decide +kernel
theorem k108_186 : ab_fetch ab_c108 186 = some (.bipush 26, 2, 0, 0) := by decide +kernel
theorem k108_188 : ab_fetch ab_c108 188 = some (.ldc2_w 59, 3, 7549232, 0) := by decide +kernel
theorem k108_191 : ab_fetch ab_c108 191 = some (.lastore, 1, 0, 0) := by decide +kernel
theorem k108_192 : ab_fetch ab_c108 192 = some (.dup, 1, 0, 0) := by decide +kernel
theorem k108_193 : ab_fetch ab_c108 193 = some (.bipush 27, 2, 0, 0) := by decide +kernel
theorem k108_195 : ab_fetch ab_c108 195 = some (.ldc2_w 61, 3, 7549233, 0) := by decide +kernel
theorem k108_198 : ab_fetch ab_c108 198 = some (.lastore, 1, 0, 0) := by decide +kernel
theorem k108_199 : ab_fetch ab_c108 199 = some (.dup, 1, 0, 0) := by decide +kernel
theorem k108_200 : ab_fetch ab_c108 200 = some (.bipush 28, 2, 0, 0) := by decide +kernel
theorem k108_202 : ab_fetch ab_c108 202 = some (.ldc2_w 63, 3, 29747, 0) := by decide +kernel
theorem k108_205 : ab_fetch ab_c108 205 = some (.lastore, 1, 0, 0) := by decide +kernel
theorem k108_206 : ab_fetch ab_c108 206 = some (.dup, 1, 0, 0) := by decide +kernel
theorem k108_207 : ab_fetch ab_c108 207 = some (.bipush 29, 2, 0, 0) := by decide +kernel
theorem k108_209 : ab_fetch ab_c108 209 = some (.ldc2_w 65, 3, 29748, 0) := by decide +kernel
theorem k108_212 : ab_fetch ab_c108 212 = some (.lastore, 1, 0, 0) := by decide +kernel
theorem k108_213 : ab_fetch ab_c108 213 = some (.dup, 1, 0, 0) := by decide +kernel
theorem k108_214 : ab_fetch ab_c108 214 = some (.bipush 30, 2, 0, 0) := by decide +kernel
theorem k108_216 : ab_fetch ab_c108 216 = some (.ldc2_w 67, 3, 29749, 0) := by decide +kernel
theorem k108_219 : ab_fetch ab_c108 219 = some (.lastore, 1, 0, 0) := by decide +kernel
theorem k108_220 : ab_fetch ab_c108 220 = some (.dup, 1, 0, 0) := by decide +kernel
theorem k108_221 : ab_fetch ab_c108 221 = some (.bipush 31, 2, 0, 0) := by decide +kernel
theorem k108_223 : ab_fetch ab_c108 223 = some (.ldc2_w 69, 3, 29750, 0) := by decide +kernel
theorem k108_226 : ab_fetch ab_c108 226 = some (.lastore, 1, 0, 0) := by decide +kernel
theorem k108_227 : ab_fetch ab_c108 227 = some (.dup, 1, 0, 0) := by decide +kernel
theorem k108_228 : ab_fetch ab_c108 228 = some (.bipush 32, 2, 0, 0) := by decide +kernel
theorem k108_230 : ab_fetch ab_c108 230 = some (.ldc2_w 71, 3, 26224, 0) := by decide +kernel
theorem k108_233 : ab_fetch ab_c108 233 = some (.lastore, 1, 0, 0) := by decide +kernel
theorem k108_234 : ab_fetch ab_c108 234 = some (.putfield 73, 3, 6, 0) := by decide +kernel
theorem k108_237 : ab_fetch ab_c108 237 = some (.aload_n 0, 1, 0, 0) := by decide +kernel
theorem k108_238 : ab_fetch ab_c108 238 = some (.bipush 83, 2, 0, 0) := by decide +kernel
theorem k108_240 : ab_fetch ab_c108 240 = some (.newarray .long, 2, 0, 0) := by decide +kernel
theorem k108_242 : ab_fetch ab_c108 242 = some (.dup, 1, 0, 0) := by decide +kernel
theorem k108_243 : ab_fetch ab_c108 243 = some (.iconst 0, 1, 0, 0) := by decide +kernel
theorem k108_244 : ab_fetch ab_c108 244 = some (.ldc2_w 79, 3, 6382692, 0) := by decide +kernel
theorem k108_247 : ab_fetch ab_c108 247 = some (.lastore, 1, 0, 0) := by decide +kernel
theorem k108_248 : ab_fetch ab_c108 248 = some (.dup, 1, 0, 0) := by decide +kernel
theorem k108_249 : ab_fetch ab_c108 249 = some (.iconst 1, 1, 0, 0) := by decide +kernel
theorem k108_250 : ab_fetch ab_c108 250 = some (.ldc2_w 81, 3, 7566690, 0) := by decide +kernel
theorem k108_253 : ab_fetch ab_c108 253 = some (.lastore, 1, 0, 0) := by decide +kernel
theorem k108_254 : ab_fetch ab_c108 254 = some (.dup, 1, 0, 0) := by decide +kernel
theorem k108_255 : ab_fetch ab_c108 255 = some (.iconst 2, 1, 0, 0) := by decide +kernel
theorem k108_256 : ab_fetch ab_c108 256 = some (.ldc2_w 83, 3, 7564396, 0) := by decide +kernel
theorem k108_259 : ab_fetch ab_c108 259 = some (.lastore, 1, 0, 0) := by decide +kernel
theorem k108_260 : ab_fetch ab_c108 260 = some (.dup, 1, 0, 0) := by decide +kernel
theorem k108_261 : ab_fetch ab_c108 261 = some (.iconst 3, 1, 0, 0) := by decide +kernel
theorem k108_262 : ab_fetch ab_c108 262 = some (.ldc2_w 85, 3, 7564404, 0) := by decide +kernel
theorem k108_265 : ab_fetch ab_c108 265 = some (.lastore, 1, 0, 0) := by decide +kernel
theorem k108_266 : ab_fetch ab_c108 266 = some (.dup, 1, 0, 0) := by decide +kernel
theorem k108_267 : ab_fetch ab_c108 267 = some (.iconst 4, 1, 0, 0) := by decide +kernel
theorem k108_268 : ab_fetch ab_c108 268 = some (.ldc2_w 87, 3, 1936487541, 0) := by decide +kernel
theorem k108_271 : ab_fetch ab_c108 271 = some (.lastore, 1, 0, 0) := by decide +kernel
theorem k108_272 : ab_fetch ab_c108 272 = some (.dup, 1, 0, 0) := by decide +kernel
theorem k108_273 : ab_fetch ab_c108 273 = some (.iconst 5, 1, 0, 0) := by decide +kernel
theorem k108_274 : ab_fetch ab_c108 274 = some (.ldc2_w 89, 3, 7892850, 0) := by decide +kernel
theorem k108_277 : ab_fetch ab_c108 277 = some (.lastore, 1, 0, 0) := by decide +kernel
theorem k108_278 : ab_fetch ab_c108 278 = some (.dup, 1, 0, 0) := by decide +kernel
theorem k108_279 : ab_fetch ab_c108 279 = some (.bipush 6, 2, 0, 0) := by decide +kernel
theorem k108_281 : ab_fetch ab_c108 281 = some (.ldc2_w 91, 3, 7565932, 0) := by decide +kernel
theorem k108_284 : ab_fetch ab_c108 284 = some (.lastore, 1, 0, 0) := by decide +kernel
theorem k108_285 : ab_fetch ab_c108 285 = some (.dup, 1, 0, 0) := by decide +kernel
theorem k108_286 : ab_fetch ab_c108 286 = some (.bipush 7, 2, 0, 0) := by decide +kernel
theorem k108_288 : ab_fetch ab_c108 288 = some (.ldc2_w 93, 3, 7565921, 0) := by decide +kernel
theorem k108_291 : ab_fetch ab_c108 291 = some (.lastore, 1, 0, 0) := by decide +kernel
theorem k108_292 : ab_fetch ab_c108 292 = some (.dup, 1, 0, 0) := by decide +kernel
theorem k108_293 : ab_fetch ab_c108 293 = some (.bipush 8, 2, 0, 0) := by decide +kernel
theorem k108_295 : ab_fetch ab_c108 295 = some (.ldc2_w 95, 3, 28530, 0) := by decide +kernel
theorem k108_298 : ab_fetch ab_c108 298 = some (.lastore, 1, 0, 0) := by decide +kernel
theorem k108_299 : ab_fetch ab_c108 299 = some (.dup, 1, 0, 0) := by decide +kernel
theorem k108_300 : ab_fetch ab_c108 300 = some (.bipush 9, 2, 0, 0) := by decide +kernel
theorem k108_302 : ab_fetch ab_c108 302 = some (.ldc2_w 97, 3, 6385252, 0) := by decide +kernel
theorem k108_305 : ab_fetch ab_c108 305 = some (.lastore, 1, 0, 0) := by decide +kernel
theorem k108_306 : ab_fetch ab_c108 306 = some (.dup, 1, 0, 0) := by decide +kernel
theorem k108_307 : ab_fetch ab_c108 307 = some (.bipush 10, 2, 0, 0) := by decide +kernel
theorem k108_309 : ab_fetch ab_c108 309 = some (.ldc2_w 99, 3, 7173484, 0) := by decide +kernel
theorem k108_312 : ab_fetch ab_c108 312 = some (.lastore, 1, 0, 0) := by decide +kernel
theorem k108_313 : ab_fetch ab_c108 313 = some (.dup, 1, 0, 0) := by decide +kernel
theorem k108_314 : ab_fetch ab_c108 314 = some (.bipush 11, 2, 0, 0) := by decide +kernel
theorem k108_316 : ab_fetch ab_c108 316 = some (.ldc2_w 101, 3, 1836412008, 0) := by decide +kernel
theorem k108_319 : ab_fetch ab_c108 319 = some (.lastore, 1, 0, 0) := by decide +kernel
theorem k108_320 : ab_fetch ab_c108 320 = some (.dup, 1, 0, 0) := by decide +kernel
theorem k108_321 : ab_fetch ab_c108 321 = some (.bipush 12, 2, 0, 0) := by decide +kernel
theorem k108_323 : ab_fetch ab_c108 323 = some (.ldc2_w 103, 3, 120351097385845, 0) := by decide +kernel
theorem k108_326 : ab_fetch ab_c108 326 = some (.lastore, 1, 0, 0) := by decide +kernel
theorem k108_327 : ab_fetch ab_c108 327 = some (.dup, 1, 0, 0) := by decide +kernel
theorem k108_328 : ab_fetch ab_c108 328 = some (.bipush 13, 2, 0, 0) := by decide +kernel
theorem k108_330 : ab_fetch ab_c108 330 = some (.ldc2_w 105, 3, 470121474165, 0) := by decide +kernel
theorem k108_333 : ab_fetch ab_c108 333 = some (.lastore, 1, 0, 0) := by decide +kernel
theorem k108_334 : ab_fetch ab_c108 334 = some (.dup, 1, 0, 0) := by decide +kernel
theorem k108_335 : ab_fetch ab_c108 335 = some (.bipush 14, 2, 0, 0) := by decide +kernel
theorem k108_337 : ab_fetch ab_c108 337 = some (.ldc2_w 107, 3, 6580598, 0) := by decide +kernel
theorem k108_340 : ab_fetch ab_c108 340 = some (.lastore, 1, 0, 0) := by decide +kernel
theorem k108_341 : ab_fetch ab_c108 341 = some (.dup, 1, 0, 0) := by decide +kernel
theorem k108_342 : ab_fetch ab_c108 342 = some (.bipush 15, 2, 0, 0) := by decide +kernel
theorem k108_344 : ab_fetch ab_c108 344 = some (.ldc2_w 109, 3, 1684633205, 0) := by decide +kernel
theorem k108_347 : ab_fetch ab_c108 347 = some (.lastore, 1, 0, 0) := by decide +kernel
theorem k108_348 : ab_fetch ab_c108 348 = some (.dup, 1, 0, 0) := by decide +kernel
theorem k108_349 : ab_fetch ab_c108 349 = some (.bipush 16, 2, 0, 0) := by decide +kernel
theorem k108_351 : ab_fetch ab_c108 351 = some (.ldc2_w 111, 3, 7497069, 0) := by decide +kernel
theorem k108_354 : ab_fetch ab_c108 354 = some (.lastore, 1, 0, 0) := by decide +kernel
theorem k108_355 : ab_fetch ab_c108 355 = some (.dup, 1, 0, 0) := by decide +kernel
theorem k108_356 : ab_fetch ab_c108 356 = some (.bipush 17, 2, 0, 0) := by decide +kernel
theorem k108_358 : ab_fetch ab_c108 358 = some (.ldc2_w 113, 3, 1919249781, 0) := by decide +kernel
theorem k108_361 : ab_fetch ab_c108 361 = some (.lastore, 1, 0, 0) := by decide +kernel
theorem k108_362 : ab_fetch ab_c108 362 = some (.dup, 1, 0, 0) := by decide +kernel
theorem k108_363 : ab_fetch ab_c108 363 = some (.bipush 18, 2, 0, 0) := by decide +kernel
theorem k108_365 : ab_fetch ab_c108 365 = some (.ldc2_w 115, 3, 1633969257, 0) := by decide +kernel
theorem k108_368 : ab_fetch ab_c108 368 = some (.lastore, 1, 0, 0) := by decide +kernel
theorem k108_369 : ab_fetch ab_c108 369 = some (.dup, 1, 0, 0) := by decide +kernel
theorem k108_370 : ab_fetch ab_c108 370 = some (.bipush 19, 2, 0, 0) := by decide +kernel
theorem k108_372 : ab_fetch ab_c108 372 = some (.ldc2_w 117, 3, 1936487529, 0) := by decide +kernel
theorem k108_375 : ab_fetch ab_c108 375 = some (.lastore, 1, 0, 0) := by decide +kernel
theorem k108_376 : ab_fetch ab_c108 376 = some (.dup, 1, 0, 0) := by decide +kernel
theorem k108_377 : ab_fetch ab_c108 377 = some (.bipush 20, 2, 0, 0) := by decide +kernel
theorem k108_379 : ab_fetch ab_c108 379 = some (.ldc2_w 119, 3, 495740807541, 0) := by decide +kernel
theorem k108_382 : ab_fetch ab_c108 382 = some (.lastore, 1, 0, 0) := by decide +kernel
theorem k108_383 : ab_fetch ab_c108 383 = some (.dup, 1, 0, 0) := by decide +kernel
theorem k108_384 : ab_fetch ab_c108 384 = some (.bipush 21, 2, 0, 0) := by decide +kernel
theorem k108_386 : ab_fetch ab_c108 386 = some (.ldc2_w 121, 3, 2020569705, 0) := by decide +kernel
theorem k108_389 : ab_fetch ab_c108 389 = some (.lastore, 1, 0, 0) := by decide +kernel
theorem k108_390 : ab_fetch ab_c108 390 = some (.dup, 1, 0, 0) := by decide +kernel
theorem k108_391 : ab_fetch ab_c108 391 = some (.bipush 22, 2, 0, 0) := by decide +kernel
theorem k108_393 : ab_fetch ab_c108 393 = some (.ldc2_w 123, 3, 7303785, 0) := by decide +kernel
theorem k108_396 : ab_fetch ab_c108 396 = some (.lastore, 1, 0, 0) := by decide +kernel
theorem k108_397 : ab_fetch ab_c108 397 = some (.dup, 1, 0, 0) := by decide +kernel
theorem k108_398 : ab_fetch ab_c108 398 = some (.bipush 23, 2, 0, 0) := by decide +kernel
theorem k108_400 : ab_fetch ab_c108 400 = some (.ldc2_w 125, 3, 1634624617, 0) := by decide +kernel
theorem k108_403 : ab_fetch ab_c108 403 = some (.lastore, 1, 0, 0) := by decide +kernel
theorem k108_404 : ab_fetch ab_c108 404 = some (.dup, 1, 0, 0) := by decide +kernel
theorem k108_405 : ab_fetch ab_c108 405 = some (.bipush 24, 2, 0, 0) := by decide +kernel
theorem k108_407 : ab_fetch ab_c108 407 = some (.ldc2_w 127, 3, 1936485481, 0) := by decide +kernel
theorem k108_410 : ab_fetch ab_c108 410 = some (.lastore, 1, 0, 0) := by decide +kernel
theorem k108_411 : ab_fetch ab_c108 411 = some (.dup, 1, 0, 0) := by decide +kernel
theorem k108_412 : ab_fetch ab_c108 412 = some (.bipush 25, 2, 0, 0) := by decide +kernel
theorem k108_414 : ab_fetch ab_c108 414 = some (.ldc2_w 129, 3, 1936878697, 0) := by decide +kernel
theorem k108_417 : ab_fetch ab_c108 417 = some (.lastore, 1, 0, 0) := by decide +kernel
theorem k108_418 : ab_fetch ab_c108 418 = some (.dup, 1, 0, 0) := by decide +kernel
theorem k108_419 : ab_fetch ab_c108 419 = some (.bipush 26, 2, 0, 0) := by decide +kernel
theorem k108_421 : ab_fetch ab_c108 421 = some (.ldc2_w 131, 3, 1936875881, 0) := by decide +kernel
theorem k108_424 : ab_fetch ab_c108 424 = some (.lastore, 1, 0, 0) := by decide +kernel
theorem k108_425 : ab_fetch ab_c108 425 = some (.dup, 1, 0, 0) := by decide +kernel
theorem k108_426 : ab_fetch ab_c108 426 = some (.bipush 27, 2, 0, 0) := by decide +kernel
theorem k108_428 : ab_fetch ab_c108 428 = some (.ldc2_w 133, 3, 27746, 0) := by decide +kernel
theorem k108_431 : ab_fetch ab_c108 431 = some (.lastore, 1, 0, 0) := by decide +kernel
theorem k108_432 : ab_fetch ab_c108 432 = some (.dup, 1, 0, 0) := by decide +kernel
theorem k108_433 : ab_fetch ab_c108 433 = some (.bipush 28, 2, 0, 0) := by decide +kernel
theorem k108_435 : ab_fetch ab_c108 435 = some (.ldc2_w 135, 3, 27752, 0) := by decide +kernel
theorem k108_438 : ab_fetch ab_c108 438 = some (.lastore, 1, 0, 0) := by decide +kernel
theorem k108_439 : ab_fetch ab_c108 439 = some (.dup, 1, 0, 0) := by decide +kernel
theorem k108_440 : ab_fetch ab_c108 440 = some (.bipush 29, 2, 0, 0) := by decide +kernel
theorem k108_442 : ab_fetch ab_c108 442 = some (.ldc2_w 137, 3, 27767, 0) := by decide +kernel
theorem k108_445 : ab_fetch ab_c108 445 = some (.lastore, 1, 0, 0) := by decide +kernel
theorem k108_446 : ab_fetch ab_c108 446 = some (.dup, 1, 0, 0) := by decide +kernel
theorem k108_447 : ab_fetch ab_c108 447 = some (.bipush 30, 2, 0, 0) := by decide +kernel
theorem k108_449 : ab_fetch ab_c108 449 = some (.ldc2_w 139, 3, 7103093, 0) := by decide +kernel
theorem k108_452 : ab_fetch ab_c108 452 = some (.lastore, 1, 0, 0) := by decide +kernel
theorem k108_453 : ab_fetch ab_c108 453 = some (.dup, 1, 0, 0) := by decide +kernel
theorem k108_454 : ab_fetch ab_c108 454 = some (.bipush 31, 2, 0, 0) := by decide +kernel
theorem k108_456 : ab_fetch ab_c108 456 = some (.ldc2_w 141, 3, 7104629, 0) := by decide +kernel
theorem k108_459 : ab_fetch ab_c108 459 = some (.lastore, 1, 0, 0) := by decide +kernel
theorem k108_460 : ab_fetch ab_c108 460 = some (.dup, 1, 0, 0) := by decide +kernel
theorem k108_461 : ab_fetch ab_c108 461 = some (.bipush 32, 2, 0, 0) := by decide +kernel
theorem k108_463 : ab_fetch ab_c108 463 = some (.ldc2_w 143, 3, 29538, 0) := by decide +kernel
theorem k108_466 : ab_fetch ab_c108 466 = some (.lastore, 1, 0, 0) := by decide +kernel
theorem k108_467 : ab_fetch ab_c108 467 = some (.dup, 1, 0, 0) := by decide +kernel
theorem k108_468 : ab_fetch ab_c108 468 = some (.bipush 33, 2, 0, 0) := by decide +kernel
theorem k108_470 : ab_fetch ab_c108 470 = some (.ldc2_w 145, 3, 29544, 0) := by decide +kernel
theorem k108_473 : ab_fetch ab_c108 473 = some (.lastore, 1, 0, 0) := by decide +kernel
theorem k108_474 : ab_fetch ab_c108 474 = some (.dup, 1, 0, 0) := by decide +kernel
theorem k108_475 : ab_fetch ab_c108 475 = some (.bipush 34, 2, 0, 0) := by decide +kernel
theorem k108_477 : ab_fetch ab_c108 477 = some (.ldc2_w 147, 3, 29559, 0) := by decide +kernel
theorem k108_480 : ab_fetch ab_c108 480 = some (.lastore, 1, 0, 0) := by decide +kernel
theorem k108_481 : ab_fetch ab_c108 481 = some (.dup, 1, 0, 0) := by decide +kernel
theorem k108_482 : ab_fetch ab_c108 482 = some (.bipush 35, 2, 0, 0) := by decide +kernel
theorem k108_484 : ab_fetch ab_c108 484 = some (.ldc2_w 149, 3, 6448497, 0) := by decide +kernel
theorem k108_487 : ab_fetch ab_c108 487 = some (.lastore, 1, 0, 0) := by decide +kernel
theorem k108_488 : ab_fetch ab_c108 488 = some (.dup, 1, 0, 0) := by decide +kernel
theorem k108_489 : ab_fetch ab_c108 489 = some (.bipush 36, 2, 0, 0) := by decide +kernel
theorem k108_491 : ab_fetch ab_c108 491 = some (.ldc2_w 151, 3, 6450789, 0) := by decide +kernel
theorem k108_494 : ab_fetch ab_c108 494 = some (.lastore, 1, 0, 0) := by decide +kernel
theorem k108_495 : ab_fetch ab_c108 495 = some (.dup, 1, 0, 0) := by decide +kernel
theorem k108_496 : ab_fetch ab_c108 496 = some (.bipush 37, 2, 0, 0) := by decide +kernel
theorem k108_498 : ab_fetch ab_c108 498 = some (.ldc2_w 153, 3, 6450292, 0) := by decide +kernel
theorem k108_501 : ab_fetch ab_c108 501 = some (.lastore, 1, 0, 0) := by decide +kernel
theorem k108_502 : ab_fetch ab_c108 502 = some (.dup, 1, 0, 0) := by decide +kernel
theorem k108_503 : ab_fetch ab_c108 503 = some (.bipush 38, 2, 0, 0) := by decide +kernel
theorem k108_505 : ab_fetch ab_c108 505 = some (.ldc2_w 155, 3, 6448997, 0) := by decide +kernel
theorem k108_508 : ab_fetch ab_c108 508 = some (.lastore, 1, 0, 0) := by decide +kernel
theorem k108_509 : ab_fetch ab_c108 509 = some (.dup, 1, 0, 0) := by decide +kernel
theorem k108_510 : ab_fetch ab_c108 510 = some (.bipush 39, 2, 0, 0) := by decide +kernel
theorem k108_512 : ab_fetch ab_c108 512 = some (.ldc2_w 157, 3, 1651274869, 0) := by decide +kernel
theorem k108_515 : ab_fetch ab_c108 515 = some (.lastore, 1, 0, 0) := by decide +kernel
theorem k108_516 : ab_fetch ab_c108 516 = some (.dup, 1, 0, 0) := by decide +kernel
theorem k108_517 : ab_fetch ab_c108 517 = some (.bipush 40, 2, 0, 0) := by decide +kernel
theorem k108_519 : ab_fetch ab_c108 519 = some (.ldc2_w 159, 3, 1650943349, 0) := by decide +kernel
theorem k108_522 : ab_fetch ab_c108 522 = some (.lastore, 1, 0, 0) := by decide +kernel
theorem k108_523 : ab_fetch ab_c108 523 = some (.dup, 1, 0, 0) := by decide +kernel
theorem k108_524 : ab_fetch ab_c108 524 = some (.bipush 41, 2, 0, 0) := by decide +kernel
theorem k108_526 : ab_fetch ab_c108 526 = some (.ldc2_w 161, 3, 6449012, 0) := by decide +kernel
theorem k108_529 : ab_fetch ab_c108 529 = some (.lastore, 1, 0, 0) := by decide +kernel
theorem k108_530 : ab_fetch ab_c108 530 = some (.dup, 1, 0, 0) := by decide +kernel
theorem k108_531 : ab_fetch ab_c108 531 = some (.bipush 42, 2, 0, 0) := by decide +kernel
theorem k108_533 : ab_fetch ab_c108 533 = some (.ldc2_w 163, 3, 6450277, 0) := by decide +kernel
theorem k108_536 : ab_fetch ab_c108 536 = some (.lastore, 1, 0, 0) := by decide +kernel
theorem k108_537 : ab_fetch ab_c108 537 = some (.dup, 1, 0, 0) := by decide +kernel
theorem k108_538 : ab_fetch ab_c108 538 = some (.bipush 43, 2, 0, 0) := by decide +kernel
theorem k108_540 : ab_fetch ab_c108 540 = some (.ldc2_w 165, 3, 1650947189, 0) := by decide +kernel
theorem k108_543 : ab_fetch ab_c108 543 = some (.lastore, 1, 0, 0) := by decide +kernel
theorem k108_544 : ab_fetch ab_c108 544 = some (.dup, 1, 0, 0) := by decide +kernel
theorem k108_545 : ab_fetch ab_c108 545 = some (.bipush 44, 2, 0, 0) := by decide +kernel
theorem k108_547 : ab_fetch ab_c108 547 = some (.ldc2_w 167, 3, 1651271029, 0) := by decide +kernel
theorem k108_550 : ab_fetch ab_c108 550 = some (.lastore, 1, 0, 0) := by decide +kernel
theorem k108_551 : ab_fetch ab_c108 551 = some (.dup, 1, 0, 0) := by decide +kernel
theorem k108_552 : ab_fetch ab_c108 552 = some (.bipush 45, 2, 0, 0) := by decide +kernel
theorem k108_554 : ab_fetch ab_c108 554 = some (.ldc2_w 169, 3, 1650815354, 0) := by decide +kernel
theorem k108_557 : ab_fetch ab_c108 557 = some (.lastore, 1, 0, 0) := by decide +kernel
theorem k108_558 : ab_fetch ab_c108 558 = some (.dup, 1, 0, 0) := by decide +kernel
theorem k108_559 : ab_fetch ab_c108 559 = some (.bipush 46, 2, 0, 0) := by decide +kernel
theorem k108_561 : ab_fetch ab_c108 561 = some (.ldc2_w 171, 3, 1651402106, 0) := by decide +kernel
theorem k108_564 : ab_fetch ab_c108 564 = some (.lastore, 1, 0, 0) := by decide +kernel
theorem k108_565 : ab_fetch ab_c108 565 = some (.dup, 1, 0, 0) := by decide +kernel
theorem k108_566 : ab_fetch ab_c108 566 = some (.bipush 47, 2, 0, 0) := by decide +kernel
theorem k108_568 : ab_fetch ab_c108 568 = some (.ldc2_w 173, 3, 1651274874, 0) := by decide +kernel
theorem k108_571 : ab_fetch ab_c108 571 = some (.lastore, 1, 0, 0) := by decide +kernel
theorem k108_572 : ab_fetch ab_c108 572 = some (.dup, 1, 0, 0) := by decide +kernel
theorem k108_573 : ab_fetch ab_c108 573 = some (.bipush 48, 2, 0, 0) := by decide +kernel
theorem k108_575 : ab_fetch ab_c108 575 = some (.ldc2_w 175, 3, 1650943354, 0) := by decide +kernel
theorem k108_578 : ab_fetch ab_c108 578 = some (.lastore, 1, 0, 0) := by decide +kernel
theorem k108_579 : ab_fetch ab_c108 579 = some (.dup, 1, 0, 0) := by decide +kernel
theorem k108_580 : ab_fetch ab_c108 580 = some (.bipush 49, 2, 0, 0) := by decide +kernel
theorem k108_582 : ab_fetch ab_c108 582 = some (.ldc2_w 177, 3, 1650947194, 0) := by decide +kernel
theorem k108_585 : ab_fetch ab_c108 585 = some (.lastore, 1, 0, 0) := by decide +kernel
theorem k108_586 : ab_fetch ab_c108 586 = some (.dup, 1, 0, 0) := by decide +kernel
theorem k108_587 : ab_fetch ab_c108 587 = some (.bipush 50, 2, 0, 0) := by decide +kernel
theorem k108_589 : ab_fetch ab_c108 589 = some (.ldc2_w 179, 3, 1651271034, 0) := by decide +kernel
theorem k108_592 : ab_fetch ab_c108 592 = some (.lastore, 1, 0, 0) := by decide +kernel
theorem k108_593 : ab_fetch ab_c108 593 = some (.dup, 1, 0, 0) := by decide +kernel
theorem k108_594 : ab_fetch ab_c108 594 = some (.bipush 51, 2, 0, 0) := by decide +kernel
theorem k108_596 : ab_fetch ab_c108 596 = some (.ldc2_w 181, 3, 7107945, 0) := by decide +kernel
theorem k108_599 : ab_fetch ab_c108 599 = some (.lastore, 1, 0, 0) := by decide +kernel
theorem k108_600 : ab_fetch ab_c108 600 = some (.dup, 1, 0, 0) := by decide +kernel
theorem k108_601 : ab_fetch ab_c108 601 = some (.bipush 52, 2, 0, 0) := by decide +kernel
theorem k108_603 : ab_fetch ab_c108 603 = some (.ldc2_w 183, 3, 418581672035, 0) := by decide +kernel
theorem k108_606 : ab_fetch ab_c108 606 = some (.lastore, 1, 0, 0) := by decide +kernel
theorem k108_607 : ab_fetch ab_c108 607 = some (.dup, 1, 0, 0) := by decide +kernel
theorem k108_608 : ab_fetch ab_c108 608 = some (.bipush 53, 2, 0, 0) := by decide +kernel
theorem k108_610 : ab_fetch ab_c108 610 = some (.ldc2_w 185, 3, 6971756, 0) := by decide +kernel
theorem k108_613 : ab_fetch ab_c108 613 = some (.lastore, 1, 0, 0) := by decide +kernel
theorem k108_614 : ab_fetch ab_c108 614 = some (.dup, 1, 0, 0) := by decide +kernel
theorem k108_615 : ab_fetch ab_c108 615 = some (.bipush 54, 2, 0, 0) := by decide +kernel
theorem k108_617 : ab_fetch ab_c108 617 = some (.ldc2_w 187, 3, 1784769650, 0) := by decide +kernel
theorem k108_620 : ab_fetch ab_c108 620 = some (.lastore, 1, 0, 0) := by decide +kernel
theorem k108_621 : ab_fetch ab_c108 621 = some (.dup, 1, 0, 0) := by decide +kernel
theorem k108_622 : ab_fetch ab_c108 622 = some (.bipush 55, 2, 0, 0) := by decide +kernel
theorem k108_624 : ab_fetch ab_c108 624 = some (.ldc2_w 189, 3, 439788397413, 0) := by decide +kernel
theorem k108_627 : ab_fetch ab_c108 627 = some (.lastore, 1, 0, 0) := by decide +kernel
theorem k108_628 : ab_fetch ab_c108 628 = some (.dup, 1, 0, 0) := by decide +kernel
theorem k108_629 : ab_fetch ab_c108 629 = some (.bipush 56, 2, 0, 0) := by decide +kernel
theorem k108_631 : ab_fetch ab_c108 631 = some (.ldc2_w 191, 3, 435459026028, 0) := by decide +kernel
theorem k108_634 : ab_fetch ab_c108 634 = some (.lastore, 1, 0, 0) := by decide +kernel
theorem k108_635 : ab_fetch ab_c108 635 = some (.dup, 1, 0, 0) := by decide +kernel
theorem k108_636 : ab_fetch ab_c108 636 = some (.bipush 57, 2, 0, 0) := by decide +kernel
theorem k108_638 : ab_fetch ab_c108 638 = some (.ldc2_w 193, 3, 111473500447083, 0) := by decide +kernel
theorem k108_641 : ab_fetch ab_c108 641 = some (.lastore, 1, 0, 0) := by decide +kernel
theorem k108_642 : ab_fetch ab_c108 642 = some (.dup, 1, 0, 0) := by decide +kernel
theorem k108_643 : ab_fetch ab_c108 643 = some (.bipush 58, 2, 0, 0) := by decide +kernel
theorem k108_645 : ab_fetch ab_c108 645 = some (.ldc2_w 195, 3, 7237488, 0) := by decide +kernel
theorem k108_648 : ab_fetch ab_c108 648 = some (.lastore, 1, 0, 0) := by decide +kernel
theorem k108_649 : ab_fetch ab_c108 649 = some (.dup, 1, 0, 0) := by decide +kernel
theorem k108_650 : ab_fetch ab_c108 650 = some (.bipush 59, 2, 0, 0) := by decide +kernel
theorem k108_652 : ab_fetch ab_c108 652 = some (.ldc2_w 197, 3, 7497076, 0) := by decide +kernel
theorem k108_655 : ab_fetch ab_c108 655 = some (.lastore, 1, 0, 0) := by decide +kernel
theorem k108_656 : ab_fetch ab_c108 656 = some (.dup, 1, 0, 0) := by decide +kernel
theorem k108_657 : ab_fetch ab_c108 657 = some (.bipush 60, 2, 0, 0) := by decide +kernel
theorem k108_659 : ab_fetch ab_c108 659 = some (.ldc2_w 199, 3, 28022, 0) := by decide +kernel
theorem k108_662 : ab_fetch ab_c108 662 = some (.lastore, 1, 0, 0) := by decide +kernel
theorem k108_663 : ab_fetch ab_c108 663 = some (.dup, 1, 0, 0) := by decide +kernel
theorem k108_664 : ab_fetch ab_c108 664 = some (.bipush 61, 2, 0, 0) := by decide +kernel
theorem k108_666 : ab_fetch ab_c108 666 = some (.ldc2_w 201, 3, 7237492, 0) := by decide +kernel
theorem k108_669 : ab_fetch ab_c108 669 = some (.lastore, 1, 0, 0) := by decide +kernel
theorem k108_670 : ab_fetch ab_c108 670 = some (.dup, 1, 0, 0) := by decide +kernel
theorem k108_671 : ab_fetch ab_c108 671 = some (.bipush 62, 2, 0, 0) := by decide +kernel
theorem k108_673 : ab_fetch ab_c108 673 = some (.ldc2_w 203, 3, 7234919, 0) := by decide +kernel
theorem k108_676 : ab_fetch ab_c108 676 = some (.lastore, 1, 0, 0) := by decide +kernel
theorem k108_677 : ab_fetch ab_c108 677 = some (.dup, 1, 0, 0) := by decide +kernel
theorem k108_678 : ab_fetch ab_c108 678 = some (.bipush 63, 2, 0, 0) := by decide +kernel
theorem k108_680 : ab_fetch ab_c108 680 = some (.ldc2_w 205, 3, 1936028026, 0) := by decide +kernel
theorem k108_683 : ab_fetch ab_c108 683 = some (.lastore, 1, 0, 0) := by decide +kernel
theorem k108_684 : ab_fetch ab_c108 684 = some (.dup, 1, 0, 0) := by decide +kernel
theorem k108_685 : ab_fetch ab_c108 685 = some (.bipush 64, 2, 0, 0) := by decide +kernel
theorem k108_687 : ab_fetch ab_c108 687 = some (.ldc2_w 207, 3, 1936614778, 0) := by decide +kernel
theorem k108_690 : ab_fetch ab_c108 690 = some (.lastore, 1, 0, 0) := by decide +kernel
theorem k108_691 : ab_fetch ab_c108 691 = some (.dup, 1, 0, 0) := by decide +kernel
theorem k108_692 : ab_fetch ab_c108 692 = some (.bipush 65, 2, 0, 0) := by decide +kernel
theorem k108_694 : ab_fetch ab_c108 694 = some (.ldc2_w 209, 3, 1936487546, 0) := by decide +kernel
theorem k108_697 : ab_fetch ab_c108 697 = some (.lastore, 1, 0, 0) := by decide +kernel
theorem k108_698 : ab_fetch ab_c108 698 = some (.dup, 1, 0, 0) := by decide +kernel
theorem k108_699 : ab_fetch ab_c108 699 = some (.bipush 66, 2, 0, 0) := by decide +kernel
theorem k108_701 : ab_fetch ab_c108 701 = some (.ldc2_w 211, 3, 1936159866, 0) := by decide +kernel
theorem k108_704 : ab_fetch ab_c108 704 = some (.lastore, 1, 0, 0) := by decide +kernel
theorem k108_705 : ab_fetch ab_c108 705 = some (.dup, 1, 0, 0) := by decide +kernel
theorem k108_706 : ab_fetch ab_c108 706 = some (.bipush 67, 2, 0, 0) := by decide +kernel
theorem k108_708 : ab_fetch ab_c108 708 = some (.ldc2_w 213, 3, 106, 0) := by decide +kernel
theorem k108_711 : ab_fetch ab_c108 711 = some (.lastore, 1, 0, 0) := by decide +kernel
theorem k108_712 : ab_fetch ab_c108 712 = some (.dup, 1, 0, 0) := by decide +kernel
theorem k108_713 : ab_fetch ab_c108 713 = some (.bipush 68, 2, 0, 0) := by decide +kernel
theorem k108_715 : ab_fetch ab_c108 715 = some (.ldc2_w 215, 3, 1667329132, 0) := by decide +kernel
theorem k108_718 : ab_fetch ab_c108 718 = some (.lastore, 1, 0, 0) := by decide +kernel
theorem k108_719 : ab_fetch ab_c108 719 = some (.dup, 1, 0, 0) := by decide +kernel
theorem k108_720 : ab_fetch ab_c108 720 = some (.bipush 69, 2, 0, 0) := by decide +kernel
theorem k108_722 : ab_fetch ab_c108 722 = some (.ldc2_w 217, 3, 27250, 0) := by decide +kernel
theorem k108_725 : ab_fetch ab_c108 725 = some (.lastore, 1, 0, 0) := by decide +kernel
theorem k108_726 : ab_fetch ab_c108 726 = some (.dup, 1, 0, 0) := by decide +kernel
theorem k108_727 : ab_fetch ab_c108 727 = some (.bipush 70, 2, 0, 0) := by decide +kernel
theorem k108_729 : ab_fetch ab_c108 729 = some (.ldc2_w 219, 3, 27745, 0) := by decide +kernel
theorem k108_732 : ab_fetch ab_c108 732 = some (.lastore, 1, 0, 0) := by decide +kernel
theorem k108_733 : ab_fetch ab_c108 733 = some (.dup, 1, 0, 0) := by decide +kernel
theorem k108_734 : ab_fetch ab_c108 734 = some (.bipush 71, 2, 0, 0) := by decide +kernel
theorem k108_736 : ab_fetch ab_c108 736 = some (.ldc2_w 221, 3, 27753, 0) := by decide +kernel
theorem k108_739 : ab_fetch ab_c108 739 = some (.lastore, 1, 0, 0) := by decide +kernel
theorem k108_740 : ab_fetch ab_c108 740 = some (.dup, 1, 0, 0) := by decide +kernel
theorem k108_741 : ab_fetch ab_c108 741 = some (.bipush 72, 2, 0, 0) := by decide +kernel
theorem k108_743 : ab_fetch ab_c108 743 = some (.ldc2_w 223, 3, 199521302644, 0) := by decide +kernel
theorem k108_746 : ab_fetch ab_c108 746 = some (.lastore, 1, 0, 0) := by decide +kernel
theorem k108_747 : ab_fetch ab_c108 747 = some (.dup, 1, 0, 0) := by decide +kernel
theorem k108_748 : ab_fetch ab_c108 748 = some (.bipush 73, 2, 0, 0) := by decide +kernel
theorem k108_750 : ab_fetch ab_c108 750 = some (.ldc2_w 225, 3, 199252604001, 0) := by decide +kernel
theorem k108_753 : ab_fetch ab_c108 753 = some (.lastore, 1, 0, 0) := by decide +kernel
theorem k108_754 : ab_fetch ab_c108 754 = some (.dup, 1, 0, 0) := by decide +kernel
theorem k108_755 : ab_fetch ab_c108 755 = some (.bipush 74, 2, 0, 0) := by decide +kernel
theorem k108_757 : ab_fetch ab_c108 757 = some (.ldc2_w 227, 3, 199220622437, 0) := by decide +kernel
theorem k108_760 : ab_fetch ab_c108 760 = some (.lastore, 1, 0, 0) := by decide +kernel
theorem k108_761 : ab_fetch ab_c108 761 = some (.dup, 1, 0, 0) := by decide +kernel
theorem k108_762 : ab_fetch ab_c108 762 = some (.bipush 75, 2, 0, 0) := by decide +kernel
theorem k108_764 : ab_fetch ab_c108 764 = some (.ldc2_w 229, 3, 199319710822, 0) := by decide +kernel
theorem k108_767 : ab_fetch ab_c108 767 = some (.lastore, 1, 0, 0) := by decide +kernel
theorem k108_768 : ab_fetch ab_c108 768 = some (.dup, 1, 0, 0) := by decide +kernel
theorem k108_769 : ab_fetch ab_c108 769 = some (.bipush 76, 2, 0, 0) := by decide +kernel
theorem k108_771 : ab_fetch ab_c108 771 = some (.ldc2_w 231, 3, 199572288100, 0) := by decide +kernel
theorem k108_774 : ab_fetch ab_c108 774 = some (.lastore, 1, 0, 0) := by decide +kernel
theorem k108_775 : ab_fetch ab_c108 775 = some (.dup, 1, 0, 0) := by decide +kernel
theorem k108_776 : ab_fetch ab_c108 776 = some (.bipush 77, 2, 0, 0) := by decide +kernel
theorem k108_778 : ab_fetch ab_c108 778 = some (.ldc2_w 233, 3, 50996082600297, 0) := by decide +kernel
theorem k108_781 : ab_fetch ab_c108 781 = some (.lastore, 1, 0, 0) := by decide +kernel
theorem k108_782 : ab_fetch ab_c108 782 = some (.dup, 1, 0, 0) := by decide +kernel
theorem k108_783 : ab_fetch ab_c108 783 = some (.bipush 78, 2, 0, 0) := by decide +kernel
theorem k108_785 : ab_fetch ab_c108 785 = some (.ldc2_w 235, 3, 50996082600314, 0) := by decide +kernel
theorem k108_788 : ab_fetch ab_c108 788 = some (.lastore, 1, 0, 0) := by decide +kernel
theorem k108_789 : ab_fetch ab_c108 789 = some (.dup, 1, 0, 0) := by decide +kernel
theorem k108_790 : ab_fetch ab_c108 790 = some (.bipush 79, 2, 0, 0) := by decide +kernel
theorem k108_792 : ab_fetch ab_c108 792 = some (.ldc2_w 237, 3, 51073341547365, 0) := by decide +kernel
theorem k108_795 : ab_fetch ab_c108 795 = some (.lastore, 1, 0, 0) := by decide +kernel
theorem k108_796 : ab_fetch ab_c108 796 = some (.dup, 1, 0, 0) := by decide +kernel
theorem k108_797 : ab_fetch ab_c108 797 = some (.bipush 80, 2, 0, 0) := by decide +kernel
theorem k108_799 : ab_fetch ab_c108 799 = some (.ldc2_w 239, 3, 50995965552494, 0) := by decide +kernel
theorem k108_802 : ab_fetch ab_c108 802 = some (.lastore, 1, 0, 0) := by decide +kernel
theorem k108_803 : ab_fetch ab_c108 803 = some (.dup, 1, 0, 0) := by decide +kernel
theorem k108_804 : ab_fetch ab_c108 804 = some (.bipush 81, 2, 0, 0) := by decide +kernel
theorem k108_806 : ab_fetch ab_c108 806 = some (.ldc2_w 241, 3, 778400117, 0) := by decide +kernel
theorem k108_809 : ab_fetch ab_c108 809 = some (.lastore, 1, 0, 0) := by decide +kernel
theorem k108_810 : ab_fetch ab_c108 810 = some (.dup, 1, 0, 0) := by decide +kernel
theorem k108_811 : ab_fetch ab_c108 811 = some (.bipush 82, 2, 0, 0) := by decide +kernel
theorem k108_813 : ab_fetch ab_c108 813 = some (.ldc2_w 243, 3, 51021735748204, 0) := by decide +kernel
theorem k108_816 : ab_fetch ab_c108 816 = some (.lastore, 1, 0, 0) := by decide +kernel
theorem k108_817 : ab_fetch ab_c108 817 = some (.putfield 245, 3, 6, 1) := by decide +kernel
theorem k108_820 : ab_fetch ab_c108 820 = some (.aload_n 0, 1, 0, 0) := by decide +kernel
theorem k108_821 : ab_fetch ab_c108 821 = some (.bipush 51, 2, 0, 0) := by decide +kernel
theorem k108_823 : ab_fetch ab_c108 823 = some (.newarray .int, 2, 0, 0) := by decide +kernel
theorem k108_825 : ab_fetch ab_c108 825 = some (.dup, 1, 0, 0) := by decide +kernel
theorem k108_826 : ab_fetch ab_c108 826 = some (.iconst 0, 1, 0, 0) := by decide +kernel
theorem k108_827 : ab_fetch ab_c108 827 = some (.iconst 0, 1, 0, 0) := by decide +kernel
theorem k108_828 : ab_fetch ab_c108 828 = some (.iastore, 1, 0, 0) := by decide +kernel
theorem k108_829 : ab_fetch ab_c108 829 = some (.dup, 1, 0, 0) := by decide +kernel
theorem k108_830 : ab_fetch ab_c108 830 = some (.iconst 1, 1, 0, 0) := by decide +kernel
theorem k108_831 : ab_fetch ab_c108 831 = some (.iconst 0, 1, 0, 0) := by decide +kernel
theorem k108_832 : ab_fetch ab_c108 832 = some (.iastore, 1, 0, 0) := by decide +kernel
theorem k108_833 : ab_fetch ab_c108 833 = some (.dup, 1, 0, 0) := by decide +kernel
theorem k108_834 : ab_fetch ab_c108 834 = some (.iconst 2, 1, 0, 0) := by decide +kernel
theorem k108_835 : ab_fetch ab_c108 835 = some (.iconst 1, 1, 0, 0) := by decide +kernel
theorem k108_836 : ab_fetch ab_c108 836 = some (.iastore, 1, 0, 0) := by decide +kernel
theorem k108_837 : ab_fetch ab_c108 837 = some (.dup, 1, 0, 0) := by decide +kernel
theorem k108_838 : ab_fetch ab_c108 838 = some (.iconst 3, 1, 0, 0) := by decide +kernel
theorem k108_839 : ab_fetch ab_c108 839 = some (.iconst 2, 1, 0, 0) := by decide +kernel
theorem k108_840 : ab_fetch ab_c108 840 = some (.iastore, 1, 0, 0) := by decide +kernel
theorem k108_841 : ab_fetch ab_c108 841 = some (.dup, 1, 0, 0) := by decide +kernel
theorem k108_842 : ab_fetch ab_c108 842 = some (.iconst 4, 1, 0, 0) := by decide +kernel
theorem k108_843 : ab_fetch ab_c108 843 = some (.iconst 3, 1, 0, 0) := by decide +kernel
theorem k108_844 : ab_fetch ab_c108 844 = some (.iastore, 1, 0, 0) := by decide +kernel
theorem k108_845 : ab_fetch ab_c108 845 = some (.dup, 1, 0, 0) := by decide +kernel
theorem k108_846 : ab_fetch ab_c108 846 = some (.iconst 5, 1, 0, 0) := by decide +kernel
theorem k108_847 : ab_fetch ab_c108 847 = some (.iconst 4, 1, 0, 0) := by decide +kernel
theorem k108_848 : ab_fetch ab_c108 848 = some (.iastore, 1, 0, 0) := by decide +kernel
theorem k108_849 : ab_fetch ab_c108 849 = some (.dup, 1, 0, 0) := by decide +kernel
theorem k108_850 : ab_fetch ab_c108 850 = some (.bipush 6, 2, 0, 0) := by decide +kernel
theorem k108_852 : ab_fetch ab_c108 852 = some (.iconst 5, 1, 0, 0) := by decide +kernel
theorem k108_853 : ab_fetch ab_c108 853 = some (.iastore, 1, 0, 0) := by decide +kernel
theorem k108_854 : ab_fetch ab_c108 854 = some (.dup, 1, 0, 0) := by decide +kernel
theorem k108_855 : ab_fetch ab_c108 855 = some (.bipush 7, 2, 0, 0) := by decide +kernel
theorem k108_857 : ab_fetch ab_c108 857 = some (.iconst 5, 1, 0, 0) := by decide +kernel
theorem k108_858 : ab_fetch ab_c108 858 = some (.iastore, 1, 0, 0) := by decide +kernel
theorem k108_859 : ab_fetch ab_c108 859 = some (.dup, 1, 0, 0) := by decide +kernel
theorem k108_860 : ab_fetch ab_c108 860 = some (.bipush 8, 2, 0, 0) := by decide +kernel
theorem k108_862 : ab_fetch ab_c108 862 = some (.bipush 6, 2, 0, 0) := by decide +kernel
theorem k108_864 : ab_fetch ab_c108 864 = some (.iastore, 1, 0, 0) := by decide +kernel
theorem k108_865 : ab_fetch ab_c108 865 = some (.dup, 1, 0, 0) := by decide +kernel
theorem k108_866 : ab_fetch ab_c108 866 = some (.bipush 9, 2, 0, 0) := by decide +kernel
theorem k108_868 : ab_fetch ab_c108 868 = some (.bipush 7, 2, 0, 0) := by decide +kernel
theorem k108_870 : ab_fetch ab_c108 870 = some (.iastore, 1, 0, 0) := by decide +kernel
theorem k108_871 : ab_fetch ab_c108 871 = some (.dup, 1, 0, 0) := by decide +kernel
theorem k108_872 : ab_fetch ab_c108 872 = some (.bipush 10, 2, 0, 0) := by decide +kernel
theorem k108_874 : ab_fetch ab_c108 874 = some (.iconst 0, 1, 0, 0) := by decide +kernel
theorem k108_875 : ab_fetch ab_c108 875 = some (.iastore, 1, 0, 0) := by decide +kernel
theorem k108_876 : ab_fetch ab_c108 876 = some (.dup, 1, 0, 0) := by decide +kernel
theorem k108_877 : ab_fetch ab_c108 877 = some (.bipush 11, 2, 0, 0) := by decide +kernel
theorem k108_879 : ab_fetch ab_c108 879 = some (.iconst 1, 1, 0, 0) := by decide +kernel
theorem k108_880 : ab_fetch ab_c108 880 = some (.iastore, 1, 0, 0) := by decide +kernel
theorem k108_881 : ab_fetch ab_c108 881 = some (.dup, 1, 0, 0) := by decide +kernel
theorem k108_882 : ab_fetch ab_c108 882 = some (.bipush 12, 2, 0, 0) := by decide +kernel
theorem k108_884 : ab_fetch ab_c108 884 = some (.iconst 2, 1, 0, 0) := by decide +kernel
theorem k108_885 : ab_fetch ab_c108 885 = some (.iastore, 1, 0, 0) := by decide +kernel
theorem k108_886 : ab_fetch ab_c108 886 = some (.dup, 1, 0, 0) := by decide +kernel
theorem k108_887 : ab_fetch ab_c108 887 = some (.bipush 13, 2, 0, 0) := by decide +kernel
theorem k108_889 : ab_fetch ab_c108 889 = some (.iconst 3, 1, 0, 0) := by decide +kernel
theorem k108_890 : ab_fetch ab_c108 890 = some (.iastore, 1, 0, 0) := by decide +kernel
theorem k108_891 : ab_fetch ab_c108 891 = some (.dup, 1, 0, 0) := by decide +kernel
theorem k108_892 : ab_fetch ab_c108 892 = some (.bipush 14, 2, 0, 0) := by decide +kernel
theorem k108_894 : ab_fetch ab_c108 894 = some (.iconst 4, 1, 0, 0) := by decide +kernel
theorem k108_895 : ab_fetch ab_c108 895 = some (.iastore, 1, 0, 0) := by decide +kernel
theorem k108_896 : ab_fetch ab_c108 896 = some (.dup, 1, 0, 0) := by decide +kernel
theorem k108_897 : ab_fetch ab_c108 897 = some (.bipush 15, 2, 0, 0) := by decide +kernel
theorem k108_899 : ab_fetch ab_c108 899 = some (.iconst 5, 1, 0, 0) := by decide +kernel
theorem k108_900 : ab_fetch ab_c108 900 = some (.iastore, 1, 0, 0) := by decide +kernel
theorem k108_901 : ab_fetch ab_c108 901 = some (.dup, 1, 0, 0) := by decide +kernel
theorem k108_902 : ab_fetch ab_c108 902 = some (.bipush 16, 2, 0, 0) := by decide +kernel
theorem k108_904 : ab_fetch ab_c108 904 = some (.bipush 6, 2, 0, 0) := by decide +kernel
theorem k108_906 : ab_fetch ab_c108 906 = some (.iastore, 1, 0, 0) := by decide +kernel
theorem k108_907 : ab_fetch ab_c108 907 = some (.dup, 1, 0, 0) := by decide +kernel
theorem k108_908 : ab_fetch ab_c108 908 = some (.bipush 17, 2, 0, 0) := by decide +kernel
theorem k108_910 : ab_fetch ab_c108 910 = some (.bipush 7, 2, 0, 0) := by decide +kernel
theorem k108_912 : ab_fetch ab_c108 912 = some (.iastore, 1, 0, 0) := by decide +kernel
theorem k108_913 : ab_fetch ab_c108 913 = some (.dup, 1, 0, 0) := by decide +kernel
theorem k108_914 : ab_fetch ab_c108 914 = some (.bipush 18, 2, 0, 0) := by decide +kernel
theorem k108_916 : ab_fetch ab_c108 916 = some (.iconst 0, 1, 0, 0) := by decide +kernel
theorem k108_917 : ab_fetch ab_c108 917 = some (.iastore, 1, 0, 0) := by decide +kernel
theorem k108_918 : ab_fetch ab_c108 918 = some (.dup, 1, 0, 0) := by decide +kernel
theorem k108_919 : ab_fetch ab_c108 919 = some (.bipush 19, 2, 0, 0) := by decide +kernel
theorem k108_921 : ab_fetch ab_c108 921 = some (.iconst 2, 1, 0, 0) := by decide +kernel
theorem k108_922 : ab_fetch ab_c108 922 = some (.iastore, 1, 0, 0) := by decide +kernel
theorem k108_923 : ab_fetch ab_c108 923 = some (.dup, 1, 0, 0) := by decide +kernel
theorem k108_924 : ab_fetch ab_c108 924 = some (.bipush 20, 2, 0, 0) := by decide +kernel
theorem k108_926 : ab_fetch ab_c108 926 = some (.iconst 3, 1, 0, 0) := by decide +kernel
theorem k108_927 : ab_fetch ab_c108 927 = some (.iastore, 1, 0, 0) := by decide +kernel
theorem k108_928 : ab_fetch ab_c108 928 = some (.dup, 1, 0, 0) := by decide +kernel
theorem k108_929 : ab_fetch ab_c108 929 = some (.bipush 21, 2, 0, 0) := by decide +kernel
theorem k108_931 : ab_fetch ab_c108 931 = some (.iconst 4, 1, 0, 0) := by decide +kernel
theorem k108_932 : ab_fetch ab_c108 932 = some (.iastore, 1, 0, 0) := by decide +kernel
theorem k108_933 : ab_fetch ab_c108 933 = some (.dup, 1, 0, 0) := by decide +kernel
theorem k108_934 : ab_fetch ab_c108 934 = some (.bipush 22, 2, 0, 0) := by decide +kernel
theorem k108_936 : ab_fetch ab_c108 936 = some (.bipush 6, 2, 0, 0) := by decide +kernel
theorem k108_938 : ab_fetch ab_c108 938 = some (.iastore, 1, 0, 0) := by decide +kernel
theorem k108_939 : ab_fetch ab_c108 939 = some (.dup, 1, 0, 0) := by decide +kernel
theorem k108_940 : ab_fetch ab_c108 940 = some (.bipush 23, 2, 0, 0) := by decide +kernel
theorem k108_942 : ab_fetch ab_c108 942 = some (.bipush 7, 2, 0, 0) := by decide +kernel
theorem k108_944 : ab_fetch ab_c108 944 = some (.iastore, 1, 0, 0) := by decide +kernel
theorem k108_945 : ab_fetch ab_c108 945 = some (.dup, 1, 0, 0) := by decide +kernel
theorem k108_946 : ab_fetch ab_c108 946 = some (.bipush 24, 2, 0, 0) := by decide +kernel
theorem k108_948 : ab_fetch ab_c108 948 = some (.iconst 1, 1, 0, 0) := by decide +kernel
theorem k108_949 : ab_fetch ab_c108 949 = some (.iastore, 1, 0, 0) := by decide +kernel
theorem k108_950 : ab_fetch ab_c108 950 = some (.dup, 1, 0, 0) := by decide +kernel
theorem k108_951 : ab_fetch ab_c108 951 = some (.bipush 25, 2, 0, 0) := by decide +kernel
theorem k108_953 : ab_fetch ab_c108 953 = some (.iconst 5, 1, 0, 0) := by decide +kernel
theorem k108_954 : ab_fetch ab_c108 954 = some (.iastore, 1, 0, 0) := by decide +kernel
theorem k108_955 : ab_fetch ab_c108 955 = some (.dup, 1, 0, 0) := by decide +kernel
theorem k108_956 : ab_fetch ab_c108 956 = some (.bipush 26, 2, 0, 0) := by decide +kernel
theorem k108_958 : ab_fetch ab_c108 958 = some (.iconst 5, 1, 0, 0) := by decide +kernel
theorem k108_959 : ab_fetch ab_c108 959 = some (.iastore, 1, 0, 0) := by decide +kernel
theorem k108_960 : ab_fetch ab_c108 960 = some (.dup, 1, 0, 0) := by decide +kernel
theorem k108_961 : ab_fetch ab_c108 961 = some (.bipush 27, 2, 0, 0) := by decide +kernel
theorem k108_963 : ab_fetch ab_c108 963 = some (.iconst 0, 1, 0, 0) := by decide +kernel
theorem k108_964 : ab_fetch ab_c108 964 = some (.iastore, 1, 0, 0) := by decide +kernel
theorem k108_965 : ab_fetch ab_c108 965 = some (.dup, 1, 0, 0) := by decide +kernel
theorem k108_966 : ab_fetch ab_c108 966 = some (.bipush 28, 2, 0, 0) := by decide +kernel
theorem k108_968 : ab_fetch ab_c108 968 = some (.iconst 1, 1, 0, 0) := by decide +kernel
theorem k108_969 : ab_fetch ab_c108 969 = some (.iastore, 1, 0, 0) := by decide +kernel
theorem k108_970 : ab_fetch ab_c108 970 = some (.dup, 1, 0, 0) := by decide +kernel
theorem k108_971 : ab_fetch ab_c108 971 = some (.bipush 29, 2, 0, 0) := by decide +kernel
theorem k108_973 : ab_fetch ab_c108 973 = some (.iconst 2, 1, 0, 0) := by decide +kernel
theorem k108_974 : ab_fetch ab_c108 974 = some (.iastore, 1, 0, 0) := by decide +kernel
theorem k108_975 : ab_fetch ab_c108 975 = some (.dup, 1, 0, 0) := by decide +kernel
theorem k108_976 : ab_fetch ab_c108 976 = some (.bipush 30, 2, 0, 0) := by decide +kernel
theorem k108_978 : ab_fetch ab_c108 978 = some (.iconst 4, 1, 0, 0) := by decide +kernel
theorem k108_979 : ab_fetch ab_c108 979 = some (.iastore, 1, 0, 0) := by decide +kernel
theorem k108_980 : ab_fetch ab_c108 980 = some (.dup, 1, 0, 0) := by decide +kernel
theorem k108_981 : ab_fetch ab_c108 981 = some (.bipush 31, 2, 0, 0) := by decide +kernel
theorem k108_983 : ab_fetch ab_c108 983 = some (.iconst 5, 1, 0, 0) := by decide +kernel
theorem k108_984 : ab_fetch ab_c108 984 = some (.iastore, 1, 0, 0) := by decide +kernel
theorem k108_985 : ab_fetch ab_c108 985 = some (.dup, 1, 0, 0) := by decide +kernel
theorem k108_986 : ab_fetch ab_c108 986 = some (.bipush 32, 2, 0, 0) := by decide +kernel
theorem k108_988 : ab_fetch ab_c108 988 = some (.iconst 0, 1, 0, 0) := by decide +kernel
theorem k108_989 : ab_fetch ab_c108 989 = some (.iastore, 1, 0, 0) := by decide +kernel
theorem k108_990 : ab_fetch ab_c108 990 = some (.dup, 1, 0, 0) := by decide +kernel
theorem k108_991 : ab_fetch ab_c108 991 = some (.bipush 33, 2, 0, 0) := by decide +kernel
theorem k108_993 : ab_fetch ab_c108 993 = some (.iconst 1, 1, 0, 0) := by decide +kernel
theorem k108_994 : ab_fetch ab_c108 994 = some (.iastore, 1, 0, 0) := by decide +kernel
theorem k108_995 : ab_fetch ab_c108 995 = some (.dup, 1, 0, 0) := by decide +kernel
theorem k108_996 : ab_fetch ab_c108 996 = some (.bipush 34, 2, 0, 0) := by decide +kernel
theorem k108_998 : ab_fetch ab_c108 998 = some (.iconst 2, 1, 0, 0) := by decide +kernel
theorem k108_999 : ab_fetch ab_c108 999 = some (.iastore, 1, 0, 0) := by decide +kernel
theorem k108_1000 : ab_fetch ab_c108 1000 = some (.dup, 1, 0, 0) := by decide +kernel
theorem k108_1001 : ab_fetch ab_c108 1001 = some (.bipush 35, 2, 0, 0) := by decide +kernel
theorem k108_1003 : ab_fetch ab_c108 1003 = some (.iconst 0, 1, 0, 0) := by decide +kernel
theorem k108_1004 : ab_fetch ab_c108 1004 = some (.iastore, 1, 0, 0) := by decide +kernel
theorem k108_1005 : ab_fetch ab_c108 1005 = some (.dup, 1, 0, 0) := by decide +kernel
theorem k108_1006 : ab_fetch ab_c108 1006 = some (.bipush 36, 2, 0, 0) := by decide +kernel
theorem k108_1008 : ab_fetch ab_c108 1008 = some (.iconst 1, 1, 0, 0) := by decide +kernel
theorem k108_1009 : ab_fetch ab_c108 1009 = some (.iastore, 1, 0, 0) := by decide +kernel
theorem k108_1010 : ab_fetch ab_c108 1010 = some (.dup, 1, 0, 0) := by decide +kernel
theorem k108_1011 : ab_fetch ab_c108 1011 = some (.bipush 37, 2, 0, 0) := by decide +kernel
theorem k108_1013 : ab_fetch ab_c108 1013 = some (.iconst 4, 1, 0, 0) := by decide +kernel
theorem k108_1014 : ab_fetch ab_c108 1014 = some (.iastore, 1, 0, 0) := by decide +kernel
theorem k108_1015 : ab_fetch ab_c108 1015 = some (.dup, 1, 0, 0) := by decide +kernel
theorem k108_1016 : ab_fetch ab_c108 1016 = some (.bipush 38, 2, 0, 0) := by decide +kernel
theorem k108_1018 : ab_fetch ab_c108 1018 = some (.iconst 5, 1, 0, 0) := by decide +kernel
theorem k108_1019 : ab_fetch ab_c108 1019 = some (.iastore, 1, 0, 0) := by decide +kernel
theorem k108_1020 : ab_fetch ab_c108 1020 = some (.dup, 1, 0, 0) := by decide +kernel
theorem k108_1021 : ab_fetch ab_c108 1021 = some (.bipush 39, 2, 0, 0) := by decide +kernel
theorem k108_1023 : ab_fetch ab_c108 1023 = some (.bipush 6, 2, 0, 0) := by decide +kernel
theorem k108_1025 : ab_fetch ab_c108 1025 = some (.iastore, 1, 0, 0) := by decide +kernel
theorem k108_1026 : ab_fetch ab_c108 1026 = some (.dup, 1, 0, 0) := by decide +kernel
theorem k108_1027 : ab_fetch ab_c108 1027 = some (.bipush 40, 2, 0, 0) := by decide +kernel
theorem k108_1029 : ab_fetch ab_c108 1029 = some (.bipush 7, 2, 0, 0) := by decide +kernel
theorem k108_1031 : ab_fetch ab_c108 1031 = some (.iastore, 1, 0, 0) := by decide +kernel
theorem k108_1032 : ab_fetch ab_c108 1032 = some (.dup, 1, 0, 0) := by decide +kernel
theorem k108_1033 : ab_fetch ab_c108 1033 = some (.bipush 41, 2, 0, 0) := by decide +kernel
theorem k108_1035 : ab_fetch ab_c108 1035 = some (.iconst 4, 1, 0, 0) := by decide +kernel
theorem k108_1036 : ab_fetch ab_c108 1036 = some (.iastore, 1, 0, 0) := by decide +kernel
theorem k108_1037 : ab_fetch ab_c108 1037 = some (.dup, 1, 0, 0) := by decide +kernel
theorem k108_1038 : ab_fetch ab_c108 1038 = some (.bipush 42, 2, 0, 0) := by decide +kernel
theorem k108_1040 : ab_fetch ab_c108 1040 = some (.iconst 5, 1, 0, 0) := by decide +kernel
theorem k108_1041 : ab_fetch ab_c108 1041 = some (.iastore, 1, 0, 0) := by decide +kernel
theorem k108_1042 : ab_fetch ab_c108 1042 = some (.dup, 1, 0, 0) := by decide +kernel
theorem k108_1043 : ab_fetch ab_c108 1043 = some (.bipush 43, 2, 0, 0) := by decide +kernel
theorem k108_1045 : ab_fetch ab_c108 1045 = some (.bipush 6, 2, 0, 0) := by decide +kernel
theorem k108_1047 : ab_fetch ab_c108 1047 = some (.iastore, 1, 0, 0) := by decide +kernel
theorem k108_1048 : ab_fetch ab_c108 1048 = some (.dup, 1, 0, 0) := by decide +kernel
theorem k108_1049 : ab_fetch ab_c108 1049 = some (.bipush 44, 2, 0, 0) := by decide +kernel
theorem k108_1051 : ab_fetch ab_c108 1051 = some (.bipush 7, 2, 0, 0) := by decide +kernel
theorem k108_1053 : ab_fetch ab_c108 1053 = some (.iastore, 1, 0, 0) := by decide +kernel
theorem k108_1054 : ab_fetch ab_c108 1054 = some (.dup, 1, 0, 0) := by decide +kernel
theorem k108_1055 : ab_fetch ab_c108 1055 = some (.bipush 45, 2, 0, 0) := by decide +kernel
theorem k108_1057 : ab_fetch ab_c108 1057 = some (.iconst 0, 1, 0, 0) := by decide +kernel
theorem k108_1058 : ab_fetch ab_c108 1058 = some (.iastore, 1, 0, 0) := by decide +kernel
theorem k108_1059 : ab_fetch ab_c108 1059 = some (.dup, 1, 0, 0) := by decide +kernel
theorem k108_1060 : ab_fetch ab_c108 1060 = some (.bipush 46, 2, 0, 0) := by decide +kernel
theorem k108_1062 : ab_fetch ab_c108 1062 = some (.iconst 1, 1, 0, 0) := by decide +kernel
theorem k108_1063 : ab_fetch ab_c108 1063 = some (.iastore, 1, 0, 0) := by decide +kernel
theorem k108_1064 : ab_fetch ab_c108 1064 = some (.dup, 1, 0, 0) := by decide +kernel
theorem k108_1065 : ab_fetch ab_c108 1065 = some (.bipush 47, 2, 0, 0) := by decide +kernel
theorem k108_1067 : ab_fetch ab_c108 1067 = some (.iconst 4, 1, 0, 0) := by decide +kernel
theorem k108_1068 : ab_fetch ab_c108 1068 = some (.iastore, 1, 0, 0) := by decide +kernel
theorem k108_1069 : ab_fetch ab_c108 1069 = some (.dup, 1, 0, 0) := by decide +kernel
theorem k108_1070 : ab_fetch ab_c108 1070 = some (.bipush 48, 2, 0, 0) := by decide +kernel
theorem k108_1072 : ab_fetch ab_c108 1072 = some (.iconst 5, 1, 0, 0) := by decide +kernel
theorem k108_1073 : ab_fetch ab_c108 1073 = some (.iastore, 1, 0, 0) := by decide +kernel
theorem k108_1074 : ab_fetch ab_c108 1074 = some (.dup, 1, 0, 0) := by decide +kernel
theorem k108_1075 : ab_fetch ab_c108 1075 = some (.bipush 49, 2, 0, 0) := by decide +kernel
theorem k108_1077 : ab_fetch ab_c108 1077 = some (.iconst 4, 1, 0, 0) := by decide +kernel
theorem k108_1078 : ab_fetch ab_c108 1078 = some (.iastore, 1, 0, 0) := by decide +kernel
theorem k108_1079 : ab_fetch ab_c108 1079 = some (.dup, 1, 0, 0) := by decide +kernel
theorem k108_1080 : ab_fetch ab_c108 1080 = some (.bipush 50, 2, 0, 0) := by decide +kernel
theorem k108_1082 : ab_fetch ab_c108 1082 = some (.iconst 5, 1, 0, 0) := by decide +kernel
theorem k108_1083 : ab_fetch ab_c108 1083 = some (.iastore, 1, 0, 0) := by decide +kernel
theorem k108_1084 : ab_fetch ab_c108 1084 = some (.putfield 248, 3, 6, 2) := by decide +kernel
theorem k108_1087 : ab_fetch ab_c108 1087 = some (.aload_n 0, 1, 0, 0) := by decide +kernel
theorem k108_1088 : ab_fetch ab_c108 1088 = some (.ldc 252, 2, 65536, 0) := by decide +kernel
theorem k108_1090 : ab_fetch ab_c108 1090 = some (.newarray .byte, 2, 0, 0) := by decide +kernel
theorem k108_1092 : ab_fetch ab_c108 1092 = some (.putfield 253, 3, 6, 4) := by decide +kernel
theorem k108_1095 : ab_fetch ab_c108 1095 = some (.aload_n 0, 1, 0, 0) := by decide +kernel
theorem k108_1096 : ab_fetch ab_c108 1096 = some (.ldc 252, 2, 65536, 0) := by decide +kernel
theorem k108_1098 : ab_fetch ab_c108 1098 = some (.newarray .byte, 2, 0, 0) := by decide +kernel
theorem k108_1100 : ab_fetch ab_c108 1100 = some (.putfield 257, 3, 6, 6) := by decide +kernel
theorem k108_1103 : ab_fetch ab_c108 1103 = some (.aload_n 0, 1, 0, 0) := by decide +kernel
theorem k108_1104 : ab_fetch ab_c108 1104 = some (.ldc 252, 2, 65536, 0) := by decide +kernel
theorem k108_1106 : ab_fetch ab_c108 1106 = some (.newarray .byte, 2, 0, 0) := by decide +kernel
theorem k108_1108 : ab_fetch ab_c108 1108 = some (.putfield 260, 3, 6, 25) := by decide +kernel
theorem k108_1111 : ab_fetch ab_c108 1111 = some (.aload_n 0, 1, 0, 0) := by decide +kernel
theorem k108_1112 : ab_fetch ab_c108 1112 = some (.sipush 17500, 3, 0, 0) := by decide +kernel
theorem k108_1115 : ab_fetch ab_c108 1115 = some (.newarray .int, 2, 0, 0) := by decide +kernel
theorem k108_1117 : ab_fetch ab_c108 1117 = some (.putfield 263, 3, 6, 27) := by decide +kernel
theorem k108_1120 : ab_fetch ab_c108 1120 = some (.aload_n 0, 1, 0, 0) := by decide +kernel
theorem k108_1121 : ab_fetch ab_c108 1121 = some (.sipush 17500, 3, 0, 0) := by decide +kernel
theorem k108_1124 : ab_fetch ab_c108 1124 = some (.newarray .int, 2, 0, 0) := by decide +kernel
theorem k108_1126 : ab_fetch ab_c108 1126 = some (.putfield 266, 3, 6, 28) := by decide +kernel
theorem k108_1129 : ab_fetch ab_c108 1129 = some (.aload_n 0, 1, 0, 0) := by decide +kernel
theorem k108_1130 : ab_fetch ab_c108 1130 = some (.sipush 17500, 3, 0, 0) := by decide +kernel
theorem k108_1133 : ab_fetch ab_c108 1133 = some (.newarray .int, 2, 0, 0) := by decide +kernel
theorem k108_1135 : ab_fetch ab_c108 1135 = some (.putfield 269, 3, 6, 29) := by decide +kernel
theorem k108_1138 : ab_fetch ab_c108 1138 = some (.aload_n 0, 1, 0, 0) := by decide +kernel
theorem k108_1139 : ab_fetch ab_c108 1139 = some (.sipush 17500, 3, 0, 0) := by decide +kernel
theorem k108_1142 : ab_fetch ab_c108 1142 = some (.newarray .int, 2, 0, 0) := by decide +kernel
theorem k108_1144 : ab_fetch ab_c108 1144 = some (.putfield 272, 3, 6, 30) := by decide +kernel
theorem k108_1147 : ab_fetch ab_c108 1147 = some (.aload_n 0, 1, 0, 0) := by decide +kernel
theorem k108_1148 : ab_fetch ab_c108 1148 = some (.sipush 17500, 3, 0, 0) := by decide +kernel
theorem k108_1151 : ab_fetch ab_c108 1151 = some (.newarray .int, 2, 0, 0) := by decide +kernel
theorem k108_1153 : ab_fetch ab_c108 1153 = some (.putfield 275, 3, 6, 31) := by decide +kernel
theorem k108_1156 : ab_fetch ab_c108 1156 = some (.aload_n 0, 1, 0, 0) := by decide +kernel
theorem k108_1157 : ab_fetch ab_c108 1157 = some (.iconst 2, 1, 0, 0) := by decide +kernel
theorem k108_1158 : ab_fetch ab_c108 1158 = some (.newarray .int, 2, 0, 0) := by decide +kernel
theorem k108_1160 : ab_fetch ab_c108 1160 = some (.putfield 278, 3, 6, 35) := by decide +kernel
theorem k108_1163 : ab_fetch ab_c108 1163 = some (.aload_n 0, 1, 0, 0) := by decide +kernel
theorem k108_1164 : ab_fetch ab_c108 1164 = some (.ldc_w 281, 3, 130840, 0) := by decide +kernel
theorem k108_1167 : ab_fetch ab_c108 1167 = some (.newarray .byte, 2, 0, 0) := by decide +kernel
theorem k108_1169 : ab_fetch ab_c108 1169 = some (.putfield 282, 3, 6, 36) := by decide +kernel
theorem k108_1172 : ab_fetch ab_c108 1172 = some (.aload_n 0, 1, 0, 0) := by decide +kernel
theorem k108_1173 : ab_fetch ab_c108 1173 = some (.sipush 160, 3, 0, 0) := by decide +kernel
theorem k108_1176 : ab_fetch ab_c108 1176 = some (.newarray .int, 2, 0, 0) := by decide +kernel
theorem k108_1178 : ab_fetch ab_c108 1178 = some (.putfield 285, 3, 6, 42) := by decide +kernel
theorem k108_1181 : ab_fetch ab_c108 1181 = some (.aload_n 0, 1, 0, 0) := by decide +kernel
theorem k108_1182 : ab_fetch ab_c108 1182 = some (.sipush 160, 3, 0, 0) := by decide +kernel
theorem k108_1185 : ab_fetch ab_c108 1185 = some (.newarray .int, 2, 0, 0) := by decide +kernel
theorem k108_1187 : ab_fetch ab_c108 1187 = some (.putfield 288, 3, 6, 43) := by decide +kernel
theorem k108_1190 : ab_fetch ab_c108 1190 = some (.aload_n 0, 1, 0, 0) := by decide +kernel
theorem k108_1191 : ab_fetch ab_c108 1191 = some (.sipush 160, 3, 0, 0) := by decide +kernel
theorem k108_1194 : ab_fetch ab_c108 1194 = some (.newarray .int, 2, 0, 0) := by decide +kernel
theorem k108_1196 : ab_fetch ab_c108 1196 = some (.putfield 291, 3, 6, 44) := by decide +kernel
theorem k108_1199 : ab_fetch ab_c108 1199 = some (.aload_n 0, 1, 0, 0) := by decide +kernel
theorem k108_1200 : ab_fetch ab_c108 1200 = some (.sipush 160, 3, 0, 0) := by decide +kernel
theorem k108_1203 : ab_fetch ab_c108 1203 = some (.newarray .int, 2, 0, 0) := by decide +kernel
theorem k108_1205 : ab_fetch ab_c108 1205 = some (.putfield 294, 3, 6, 45) := by decide +kernel
theorem k108_1208 : ab_fetch ab_c108 1208 = some (.aload_n 0, 1, 0, 0) := by decide +kernel
theorem k108_1209 : ab_fetch ab_c108 1209 = some (.sipush 160, 3, 0, 0) := by decide +kernel
theorem k108_1212 : ab_fetch ab_c108 1212 = some (.newarray .int, 2, 0, 0) := by decide +kernel
theorem k108_1214 : ab_fetch ab_c108 1214 = some (.putfield 297, 3, 6, 46) := by decide +kernel
theorem k108_1217 : ab_fetch ab_c108 1217 = some (.return_, 1, 0, 0) := by decide +kernel

def ci_14 : Nat → ab_C := fun i => match i with
  | 0 => .inr (5, [.ref 1, .int 0, .ref 11, .ref 16])
  | 1 => .inl (0, 256, .inl (fun _ => 0))
  | 2 => .inr (3, [.int 0, .ref 3, .ref 4, .ref 5, .ref 6, .ref 7, .ref 8, .ref 9, .ref 10])
  | 3 => .inl (0, 0, .inl (fun _ => 0))
  | 4 => .inl (1, 256, .inl (fun _ => 0))
  | 5 => .inl (1, 16, .inl (fun _ => 0))
  | 6 => .inl (1, 16, .inl (fun _ => 0))
  | 7 => .inl (1, 16, .inl (fun _ => 0))
  | 8 => .inl (1, 16, .inl (fun _ => 0))
  | 9 => .inl (1, 16, .inl (fun _ => 0))
  | 10 => .inl (1, 16, .inl (fun _ => 0))
  | 11 => .inr (4, [.int 0, .int 0, .int 0, .int 0, .int 0, .int 0, .int 0, .ref 12, .int 0, .int 0, .int 0, .ref 13, .ref 14, .ref 15, .int 0, .int 0, .int 0, .int 0])
  | 12 => .inl (0, 0, .inl (fun _ => 0))
  | 13 => .inl (1, 32, .inl (fun _ => 0))
  | 14 => .inl (1, 32, .inl (fun _ => 0))
  | 15 => .inl (1, 32, .inl (fun _ => 0))
  | 16 => .inr (0, [.ref 18, .ref 20, .ref 11, .ref 2, .ref 17, .int 0, .int 0, .int 0, .int 0, .int 0, .int 0, .int 0, .int 0, .int 0, .int 0, .int 0])
  | 17 => .inr (1, [.int 0, .int 0, .int 0, .int 0, .ref 11, .ref 2])
  | 18 => .inr (2, [.int 0, .int 0, .int 0, .int 0, .ref 19])
  | 19 => .inl (0, 0, .inl (fun _ => 0))
  | 20 => .inr (2, [.int 0, .int 0, .int 0, .int 0, .ref 21])
  | 21 => .inl (0, 0, .inl (fun _ => 0))
  | 22 => .inr (6, [.null, .null, .null, .int 0, .null, .int 0, .null, .int 0, .int 0, .int 0, .int 0, .int 0, .int 0, .int 0, .int 0, .int 0, .int 0, .int 0, .int 0, .int 0, .int 0, .int 0, .int 0, .int 0, .int 0, .null, .int 0, .null, .null, .null, .null, .null, .int 0, .int 0, .int 0, .null, .null, .int 0, .int 0, .int 0, .int 0, .int 0, .null, .null, .null, .null, .null, .int 0])
  | _ => .inr (7, [])
def ci_t23 : Nat → Int64 := (vp_updL (vp_updL (vp_updL (vp_updL (vp_updL (vp_updL (vp_updL (vp_updL (vp_updL (vp_updL (vp_updL (vp_updL (vp_updL (vp_updL (vp_updL (vp_updL (vp_updL (vp_updL (vp_updL (vp_updL (vp_updL (vp_updL (vp_updL (vp_updL (vp_updL (vp_updL (vp_updL (vp_updL (vp_updL (vp_updL (vp_updL (vp_updL (vp_updL (fun _ => 0) 0 2053468783) 1 29281) 2 29552) 3 26480) 4 29808) 5 29744) 6 29745) 7 29746) 8 29488) 9 29489) 10 24880) 11 24881) 12 24882) 13 24883) 14 24884) 15 24885) 16 24886) 17 24887) 18 29490) 19 29491) 20 29492) 21 29493) 22 29494) 23 29495) 24 29496) 25 29497) 26 7549232) 27 7549233) 28 29747) 29 29748) 30 29749) 31 29750) 32 26224)
def ci_15 : Nat → ab_C := fun i => match i with
  | 0 => .inr (5, [.ref 1, .int 0, .ref 11, .ref 16])
  | 1 => .inl (0, 256, .inl (fun _ => 0))
  | 2 => .inr (3, [.int 0, .ref 3, .ref 4, .ref 5, .ref 6, .ref 7, .ref 8, .ref 9, .ref 10])
  | 3 => .inl (0, 0, .inl (fun _ => 0))
  | 4 => .inl (1, 256, .inl (fun _ => 0))
  | 5 => .inl (1, 16, .inl (fun _ => 0))
  | 6 => .inl (1, 16, .inl (fun _ => 0))
  | 7 => .inl (1, 16, .inl (fun _ => 0))
  | 8 => .inl (1, 16, .inl (fun _ => 0))
  | 9 => .inl (1, 16, .inl (fun _ => 0))
  | 10 => .inl (1, 16, .inl (fun _ => 0))
  | 11 => .inr (4, [.int 0, .int 0, .int 0, .int 0, .int 0, .int 0, .int 0, .ref 12, .int 0, .int 0, .int 0, .ref 13, .ref 14, .ref 15, .int 0, .int 0, .int 0, .int 0])
  | 12 => .inl (0, 0, .inl (fun _ => 0))
  | 13 => .inl (1, 32, .inl (fun _ => 0))
  | 14 => .inl (1, 32, .inl (fun _ => 0))
  | 15 => .inl (1, 32, .inl (fun _ => 0))
  | 16 => .inr (0, [.ref 18, .ref 20, .ref 11, .ref 2, .ref 17, .int 0, .int 0, .int 0, .int 0, .int 0, .int 0, .int 0, .int 0, .int 0, .int 0, .int 0])
  | 17 => .inr (1, [.int 0, .int 0, .int 0, .int 0, .ref 11, .ref 2])
  | 18 => .inr (2, [.int 0, .int 0, .int 0, .int 0, .ref 19])
  | 19 => .inl (0, 0, .inl (fun _ => 0))
  | 20 => .inr (2, [.int 0, .int 0, .int 0, .int 0, .ref 21])
  | 21 => .inl (0, 0, .inl (fun _ => 0))
  | 22 => .inr (6, [.null, .null, .null, .int 0, .null, .int 0, .null, .int 0, .int 0, .int 0, .int 0, .int 0, .int 0, .int 0, .int 0, .int 0, .int 0, .int 0, .int 0, .int 0, .int 0, .int 0, .int 0, .int 0, .int 0, .null, .int 0, .null, .null, .null, .null, .null, .int 0, .int 0, .int 0, .null, .null, .int 0, .int 0, .int 0, .int 0, .int 0, .null, .null, .null, .null, .null, .int 0])
  | 23 => .inl (2, 33, .inr (.inl ci_t23))
  | _ => .inr (7, [])
def ci_t24 : Nat → Int64 := (vp_updL (vp_updL (vp_updL (vp_updL (vp_updL (vp_updL (vp_updL (vp_updL (vp_updL (vp_updL (vp_updL (vp_updL (vp_updL (vp_updL (vp_updL (vp_updL (vp_updL (vp_updL (vp_updL (vp_updL (vp_updL (vp_updL (vp_updL (vp_updL (vp_updL (vp_updL (vp_updL (vp_updL (vp_updL (vp_updL (vp_updL (vp_updL (vp_updL (vp_updL (vp_updL (vp_updL (vp_updL (vp_updL (vp_updL (vp_updL (vp_updL (vp_updL (vp_updL (vp_updL (vp_updL (vp_updL (vp_updL (vp_updL (vp_updL (vp_updL (vp_updL (vp_updL (vp_updL (vp_updL (vp_updL (vp_updL (vp_updL (vp_updL (vp_updL (vp_updL (vp_updL (vp_updL (vp_updL (vp_updL (vp_updL (vp_updL (vp_updL (vp_updL (vp_updL (vp_updL (vp_updL (vp_updL (vp_updL (vp_updL (vp_updL (vp_updL (vp_updL (vp_updL (vp_updL (vp_updL (vp_updL (vp_updL (vp_updL (fun _ => 0) 0 6382692) 1 7566690) 2 7564396) 3 7564404) 4 1936487541) 5 7892850) 6 7565932) 7 7565921) 8 28530) 9 6385252) 10 7173484) 11 1836412008) 12 120351097385845) 13 470121474165) 14 6580598) 15 1684633205) 16 7497069) 17 1919249781) 18 1633969257) 19 1936487529) 20 495740807541) 21 2020569705) 22 7303785) 23 1634624617) 24 1936485481) 25 1936878697) 26 1936875881) 27 27746) 28 27752) 29 27767) 30 7103093) 31 7104629) 32 29538) 33 29544) 34 29559) 35 6448497) 36 6450789) 37 6450292) 38 6448997) 39 1651274869) 40 1650943349) 41 6449012) 42 6450277) 43 1650947189) 44 1651271029) 45 1650815354) 46 1651402106) 47 1651274874) 48 1650943354) 49 1650947194) 50 1651271034) 51 7107945) 52 418581672035) 53 6971756) 54 1784769650) 55 439788397413) 56 435459026028) 57 111473500447083) 58 7237488) 59 7497076) 60 28022) 61 7237492) 62 7234919) 63 1936028026) 64 1936614778) 65 1936487546) 66 1936159866) 67 106) 68 1667329132) 69 27250) 70 27745) 71 27753) 72 199521302644) 73 199252604001) 74 199220622437) 75 199319710822) 76 199572288100) 77 50996082600297) 78 50996082600314) 79 51073341547365) 80 50995965552494) 81 778400117) 82 51021735748204)
def ci_16 : Nat → ab_C := fun i => match i with
  | 0 => .inr (5, [.ref 1, .int 0, .ref 11, .ref 16])
  | 1 => .inl (0, 256, .inl (fun _ => 0))
  | 2 => .inr (3, [.int 0, .ref 3, .ref 4, .ref 5, .ref 6, .ref 7, .ref 8, .ref 9, .ref 10])
  | 3 => .inl (0, 0, .inl (fun _ => 0))
  | 4 => .inl (1, 256, .inl (fun _ => 0))
  | 5 => .inl (1, 16, .inl (fun _ => 0))
  | 6 => .inl (1, 16, .inl (fun _ => 0))
  | 7 => .inl (1, 16, .inl (fun _ => 0))
  | 8 => .inl (1, 16, .inl (fun _ => 0))
  | 9 => .inl (1, 16, .inl (fun _ => 0))
  | 10 => .inl (1, 16, .inl (fun _ => 0))
  | 11 => .inr (4, [.int 0, .int 0, .int 0, .int 0, .int 0, .int 0, .int 0, .ref 12, .int 0, .int 0, .int 0, .ref 13, .ref 14, .ref 15, .int 0, .int 0, .int 0, .int 0])
  | 12 => .inl (0, 0, .inl (fun _ => 0))
  | 13 => .inl (1, 32, .inl (fun _ => 0))
  | 14 => .inl (1, 32, .inl (fun _ => 0))
  | 15 => .inl (1, 32, .inl (fun _ => 0))
  | 16 => .inr (0, [.ref 18, .ref 20, .ref 11, .ref 2, .ref 17, .int 0, .int 0, .int 0, .int 0, .int 0, .int 0, .int 0, .int 0, .int 0, .int 0, .int 0])
  | 17 => .inr (1, [.int 0, .int 0, .int 0, .int 0, .ref 11, .ref 2])
  | 18 => .inr (2, [.int 0, .int 0, .int 0, .int 0, .ref 19])
  | 19 => .inl (0, 0, .inl (fun _ => 0))
  | 20 => .inr (2, [.int 0, .int 0, .int 0, .int 0, .ref 21])
  | 21 => .inl (0, 0, .inl (fun _ => 0))
  | 22 => .inr (6, [.ref 23, .null, .null, .int 0, .null, .int 0, .null, .int 0, .int 0, .int 0, .int 0, .int 0, .int 0, .int 0, .int 0, .int 0, .int 0, .int 0, .int 0, .int 0, .int 0, .int 0, .int 0, .int 0, .int 0, .null, .int 0, .null, .null, .null, .null, .null, .int 0, .int 0, .int 0, .null, .null, .int 0, .int 0, .int 0, .int 0, .int 0, .null, .null, .null, .null, .null, .int 0])
  | 23 => .inl (2, 33, .inr (.inl ci_t23))
  | 24 => .inl (2, 83, .inr (.inl ci_t24))
  | _ => .inr (7, [])
def ci_t25 : Nat → Int32 := (upd (upd (upd (upd (upd (upd (upd (upd (upd (upd (upd (upd (upd (upd (upd (upd (upd (upd (upd (upd (upd (upd (upd (upd (upd (upd (upd (upd (upd (upd (upd (upd (upd (upd (upd (upd (upd (upd (upd (upd (upd (upd (upd (upd (upd (upd (upd (upd (upd (upd (upd (fun _ => 0) 0 0) 1 0) 2 1) 3 2) 4 3) 5 4) 6 5) 7 5) 8 6) 9 7) 10 0) 11 1) 12 2) 13 3) 14 4) 15 5) 16 6) 17 7) 18 0) 19 2) 20 3) 21 4) 22 6) 23 7) 24 1) 25 5) 26 5) 27 0) 28 1) 29 2) 30 4) 31 5) 32 0) 33 1) 34 2) 35 0) 36 1) 37 4) 38 5) 39 6) 40 7) 41 4) 42 5) 43 6) 44 7) 45 0) 46 1) 47 4) 48 5) 49 4) 50 5)
def ci_17 : Nat → ab_C := fun i => match i with
  | 0 => .inr (5, [.ref 1, .int 0, .ref 11, .ref 16])
  | 1 => .inl (0, 256, .inl (fun _ => 0))
  | 2 => .inr (3, [.int 0, .ref 3, .ref 4, .ref 5, .ref 6, .ref 7, .ref 8, .ref 9, .ref 10])
  | 3 => .inl (0, 0, .inl (fun _ => 0))
  | 4 => .inl (1, 256, .inl (fun _ => 0))
  | 5 => .inl (1, 16, .inl (fun _ => 0))
  | 6 => .inl (1, 16, .inl (fun _ => 0))
  | 7 => .inl (1, 16, .inl (fun _ => 0))
  | 8 => .inl (1, 16, .inl (fun _ => 0))
  | 9 => .inl (1, 16, .inl (fun _ => 0))
  | 10 => .inl (1, 16, .inl (fun _ => 0))
  | 11 => .inr (4, [.int 0, .int 0, .int 0, .int 0, .int 0, .int 0, .int 0, .ref 12, .int 0, .int 0, .int 0, .ref 13, .ref 14, .ref 15, .int 0, .int 0, .int 0, .int 0])
  | 12 => .inl (0, 0, .inl (fun _ => 0))
  | 13 => .inl (1, 32, .inl (fun _ => 0))
  | 14 => .inl (1, 32, .inl (fun _ => 0))
  | 15 => .inl (1, 32, .inl (fun _ => 0))
  | 16 => .inr (0, [.ref 18, .ref 20, .ref 11, .ref 2, .ref 17, .int 0, .int 0, .int 0, .int 0, .int 0, .int 0, .int 0, .int 0, .int 0, .int 0, .int 0])
  | 17 => .inr (1, [.int 0, .int 0, .int 0, .int 0, .ref 11, .ref 2])
  | 18 => .inr (2, [.int 0, .int 0, .int 0, .int 0, .ref 19])
  | 19 => .inl (0, 0, .inl (fun _ => 0))
  | 20 => .inr (2, [.int 0, .int 0, .int 0, .int 0, .ref 21])
  | 21 => .inl (0, 0, .inl (fun _ => 0))
  | 22 => .inr (6, [.ref 23, .ref 24, .null, .int 0, .null, .int 0, .null, .int 0, .int 0, .int 0, .int 0, .int 0, .int 0, .int 0, .int 0, .int 0, .int 0, .int 0, .int 0, .int 0, .int 0, .int 0, .int 0, .int 0, .int 0, .null, .int 0, .null, .null, .null, .null, .null, .int 0, .int 0, .int 0, .null, .null, .int 0, .int 0, .int 0, .int 0, .int 0, .null, .null, .null, .null, .null, .int 0])
  | 23 => .inl (2, 33, .inr (.inl ci_t23))
  | 24 => .inl (2, 83, .inr (.inl ci_t24))
  | 25 => .inl (1, 51, .inl ci_t25)
  | _ => .inr (7, [])
def ci_18 : Nat → ab_C := fun i => match i with
  | 0 => .inr (5, [.ref 1, .int 0, .ref 11, .ref 16])
  | 1 => .inl (0, 256, .inl (fun _ => 0))
  | 2 => .inr (3, [.int 0, .ref 3, .ref 4, .ref 5, .ref 6, .ref 7, .ref 8, .ref 9, .ref 10])
  | 3 => .inl (0, 0, .inl (fun _ => 0))
  | 4 => .inl (1, 256, .inl (fun _ => 0))
  | 5 => .inl (1, 16, .inl (fun _ => 0))
  | 6 => .inl (1, 16, .inl (fun _ => 0))
  | 7 => .inl (1, 16, .inl (fun _ => 0))
  | 8 => .inl (1, 16, .inl (fun _ => 0))
  | 9 => .inl (1, 16, .inl (fun _ => 0))
  | 10 => .inl (1, 16, .inl (fun _ => 0))
  | 11 => .inr (4, [.int 0, .int 0, .int 0, .int 0, .int 0, .int 0, .int 0, .ref 12, .int 0, .int 0, .int 0, .ref 13, .ref 14, .ref 15, .int 0, .int 0, .int 0, .int 0])
  | 12 => .inl (0, 0, .inl (fun _ => 0))
  | 13 => .inl (1, 32, .inl (fun _ => 0))
  | 14 => .inl (1, 32, .inl (fun _ => 0))
  | 15 => .inl (1, 32, .inl (fun _ => 0))
  | 16 => .inr (0, [.ref 18, .ref 20, .ref 11, .ref 2, .ref 17, .int 0, .int 0, .int 0, .int 0, .int 0, .int 0, .int 0, .int 0, .int 0, .int 0, .int 0])
  | 17 => .inr (1, [.int 0, .int 0, .int 0, .int 0, .ref 11, .ref 2])
  | 18 => .inr (2, [.int 0, .int 0, .int 0, .int 0, .ref 19])
  | 19 => .inl (0, 0, .inl (fun _ => 0))
  | 20 => .inr (2, [.int 0, .int 0, .int 0, .int 0, .ref 21])
  | 21 => .inl (0, 0, .inl (fun _ => 0))
  | 22 => .inr (6, [.ref 23, .ref 24, .ref 25, .int 0, .ref 26, .int 0, .ref 27, .int 0, .int 0, .int 0, .int 0, .int 0, .int 0, .int 0, .int 0, .int 0, .int 0, .int 0, .int 0, .int 0, .int 0, .int 0, .int 0, .int 0, .int 0, .ref 28, .int 0, .ref 29, .ref 30, .ref 31, .ref 32, .ref 33, .int 0, .int 0, .int 0, .ref 34, .ref 35, .int 0, .int 0, .int 0, .int 0, .int 0, .ref 36, .ref 37, .ref 38, .ref 39, .ref 40, .int 0])
  | 23 => .inl (2, 33, .inr (.inl ci_t23))
  | 24 => .inl (2, 83, .inr (.inl ci_t24))
  | 25 => .inl (1, 51, .inl ci_t25)
  | 26 => .inl (0, 65536, .inl (fun _ => 0))
  | 27 => .inl (0, 65536, .inl (fun _ => 0))
  | 28 => .inl (0, 65536, .inl (fun _ => 0))
  | 29 => .inl (1, 17500, .inl (fun _ => 0))
  | 30 => .inl (1, 17500, .inl (fun _ => 0))
  | 31 => .inl (1, 17500, .inl (fun _ => 0))
  | 32 => .inl (1, 17500, .inl (fun _ => 0))
  | 33 => .inl (1, 17500, .inl (fun _ => 0))
  | 34 => .inl (1, 2, .inl (fun _ => 0))
  | 35 => .inl (0, 130840, .inl (fun _ => 0))
  | 36 => .inl (1, 160, .inl (fun _ => 0))
  | 37 => .inl (1, 160, .inl (fun _ => 0))
  | 38 => .inl (1, 160, .inl (fun _ => 0))
  | 39 => .inl (1, 160, .inl (fun _ => 0))
  | 40 => .inl (1, 160, .inl (fun _ => 0))
  | _ => .inr (7, [])
theorem i108_23 {d : Nat} : ab_Rn d 108 0 (lv_args 0 [.ref 22]) [] (ab_hl 23 ci_14) (.inl none) (ab_hl 41 ci_18) := by
  obtain ⟨l, hl⟩ : ∃ l, l = (lv_args 0 [.ref 22]) := ⟨_, rfl⟩
  rw [← hl]
  have h0 : ab_get l 0 = some (.ref 22) := by rw [hl]; rfl
  refine r_aload_n (pc := 0) p108 k108_0 (i := 22) h0 ?_
  refine r_obj (pc := 1) p108 k108_1 rfl ?_
  refine r_aload_n (pc := 4) p108 k108_4 (i := 22) h0 ?_
  refine r_bipush (pc := 5) p108 k108_5 (v := (33 : Int32)) rfl ?_
  refine r_newa (pc := 7) p108 k108_7 (by decide) ?_
  refine r_dup (pc := 9) p108 k108_9 rfl ?_
  refine r_iconst (pc := 10) p108 k108_10 (v := (0 : Int32)) rfl ?_
  refine r_ldcL (pc := 11) p108 k108_11 (v := (2053468783 : Int64)) rfl ?_
  refine r_lastC (pc := 14) p108 k108_14 rfl rfl (by decide) ?_
  refine r_dup (pc := 15) p108 k108_15 rfl ?_
  refine r_iconst (pc := 16) p108 k108_16 (v := (1 : Int32)) rfl ?_
  refine r_ldcL (pc := 17) p108 k108_17 (v := (29281 : Int64)) rfl ?_
  refine r_lastC (pc := 20) p108 k108_20 rfl rfl (by decide) ?_
  refine r_dup (pc := 21) p108 k108_21 rfl ?_
  refine r_iconst (pc := 22) p108 k108_22 (v := (2 : Int32)) rfl ?_
  refine r_ldcL (pc := 23) p108 k108_23 (v := (29552 : Int64)) rfl ?_
  refine r_lastC (pc := 26) p108 k108_26 rfl rfl (by decide) ?_
  refine r_dup (pc := 27) p108 k108_27 rfl ?_
  refine r_iconst (pc := 28) p108 k108_28 (v := (3 : Int32)) rfl ?_
  refine r_ldcL (pc := 29) p108 k108_29 (v := (26480 : Int64)) rfl ?_
  refine r_lastC (pc := 32) p108 k108_32 rfl rfl (by decide) ?_
  refine r_dup (pc := 33) p108 k108_33 rfl ?_
  refine r_iconst (pc := 34) p108 k108_34 (v := (4 : Int32)) rfl ?_
  refine r_ldcL (pc := 35) p108 k108_35 (v := (29808 : Int64)) rfl ?_
  refine r_lastC (pc := 38) p108 k108_38 rfl rfl (by decide) ?_
  refine r_dup (pc := 39) p108 k108_39 rfl ?_
  refine r_iconst (pc := 40) p108 k108_40 (v := (5 : Int32)) rfl ?_
  refine r_ldcL (pc := 41) p108 k108_41 (v := (29744 : Int64)) rfl ?_
  refine r_lastC (pc := 44) p108 k108_44 rfl rfl (by decide) ?_
  refine r_dup (pc := 45) p108 k108_45 rfl ?_
  refine r_bipush (pc := 46) p108 k108_46 (v := (6 : Int32)) rfl ?_
  refine r_ldcL (pc := 48) p108 k108_48 (v := (29745 : Int64)) rfl ?_
  refine r_lastC (pc := 51) p108 k108_51 rfl rfl (by decide) ?_
  refine r_dup (pc := 52) p108 k108_52 rfl ?_
  refine r_bipush (pc := 53) p108 k108_53 (v := (7 : Int32)) rfl ?_
  refine r_ldcL (pc := 55) p108 k108_55 (v := (29746 : Int64)) rfl ?_
  refine r_lastC (pc := 58) p108 k108_58 rfl rfl (by decide) ?_
  refine r_dup (pc := 59) p108 k108_59 rfl ?_
  refine r_bipush (pc := 60) p108 k108_60 (v := (8 : Int32)) rfl ?_
  refine r_ldcL (pc := 62) p108 k108_62 (v := (29488 : Int64)) rfl ?_
  refine r_lastC (pc := 65) p108 k108_65 rfl rfl (by decide) ?_
  refine r_dup (pc := 66) p108 k108_66 rfl ?_
  refine r_bipush (pc := 67) p108 k108_67 (v := (9 : Int32)) rfl ?_
  refine r_ldcL (pc := 69) p108 k108_69 (v := (29489 : Int64)) rfl ?_
  refine r_lastC (pc := 72) p108 k108_72 rfl rfl (by decide) ?_
  refine r_dup (pc := 73) p108 k108_73 rfl ?_
  refine r_bipush (pc := 74) p108 k108_74 (v := (10 : Int32)) rfl ?_
  refine r_ldcL (pc := 76) p108 k108_76 (v := (24880 : Int64)) rfl ?_
  refine r_lastC (pc := 79) p108 k108_79 rfl rfl (by decide) ?_
  refine r_dup (pc := 80) p108 k108_80 rfl ?_
  refine r_bipush (pc := 81) p108 k108_81 (v := (11 : Int32)) rfl ?_
  refine r_ldcL (pc := 83) p108 k108_83 (v := (24881 : Int64)) rfl ?_
  refine r_lastC (pc := 86) p108 k108_86 rfl rfl (by decide) ?_
  refine r_dup (pc := 87) p108 k108_87 rfl ?_
  refine r_bipush (pc := 88) p108 k108_88 (v := (12 : Int32)) rfl ?_
  refine r_ldcL (pc := 90) p108 k108_90 (v := (24882 : Int64)) rfl ?_
  refine r_lastC (pc := 93) p108 k108_93 rfl rfl (by decide) ?_
  refine r_dup (pc := 94) p108 k108_94 rfl ?_
  refine r_bipush (pc := 95) p108 k108_95 (v := (13 : Int32)) rfl ?_
  refine r_ldcL (pc := 97) p108 k108_97 (v := (24883 : Int64)) rfl ?_
  refine r_lastC (pc := 100) p108 k108_100 rfl rfl (by decide) ?_
  refine r_dup (pc := 101) p108 k108_101 rfl ?_
  refine r_bipush (pc := 102) p108 k108_102 (v := (14 : Int32)) rfl ?_
  refine r_ldcL (pc := 104) p108 k108_104 (v := (24884 : Int64)) rfl ?_
  refine r_lastC (pc := 107) p108 k108_107 rfl rfl (by decide) ?_
  refine r_dup (pc := 108) p108 k108_108 rfl ?_
  refine r_bipush (pc := 109) p108 k108_109 (v := (15 : Int32)) rfl ?_
  refine r_ldcL (pc := 111) p108 k108_111 (v := (24885 : Int64)) rfl ?_
  refine r_lastC (pc := 114) p108 k108_114 rfl rfl (by decide) ?_
  refine r_dup (pc := 115) p108 k108_115 rfl ?_
  refine r_bipush (pc := 116) p108 k108_116 (v := (16 : Int32)) rfl ?_
  refine r_ldcL (pc := 118) p108 k108_118 (v := (24886 : Int64)) rfl ?_
  refine r_lastC (pc := 121) p108 k108_121 rfl rfl (by decide) ?_
  refine r_dup (pc := 122) p108 k108_122 rfl ?_
  refine r_bipush (pc := 123) p108 k108_123 (v := (17 : Int32)) rfl ?_
  refine r_ldcL (pc := 125) p108 k108_125 (v := (24887 : Int64)) rfl ?_
  refine r_lastC (pc := 128) p108 k108_128 rfl rfl (by decide) ?_
  refine r_dup (pc := 129) p108 k108_129 rfl ?_
  refine r_bipush (pc := 130) p108 k108_130 (v := (18 : Int32)) rfl ?_
  refine r_ldcL (pc := 132) p108 k108_132 (v := (29490 : Int64)) rfl ?_
  refine r_lastC (pc := 135) p108 k108_135 rfl rfl (by decide) ?_
  refine r_dup (pc := 136) p108 k108_136 rfl ?_
  refine r_bipush (pc := 137) p108 k108_137 (v := (19 : Int32)) rfl ?_
  refine r_ldcL (pc := 139) p108 k108_139 (v := (29491 : Int64)) rfl ?_
  refine r_lastC (pc := 142) p108 k108_142 rfl rfl (by decide) ?_
  refine r_dup (pc := 143) p108 k108_143 rfl ?_
  refine r_bipush (pc := 144) p108 k108_144 (v := (20 : Int32)) rfl ?_
  refine r_ldcL (pc := 146) p108 k108_146 (v := (29492 : Int64)) rfl ?_
  refine r_lastC (pc := 149) p108 k108_149 rfl rfl (by decide) ?_
  refine r_dup (pc := 150) p108 k108_150 rfl ?_
  refine r_bipush (pc := 151) p108 k108_151 (v := (21 : Int32)) rfl ?_
  refine r_ldcL (pc := 153) p108 k108_153 (v := (29493 : Int64)) rfl ?_
  refine r_lastC (pc := 156) p108 k108_156 rfl rfl (by decide) ?_
  refine r_dup (pc := 157) p108 k108_157 rfl ?_
  refine r_bipush (pc := 158) p108 k108_158 (v := (22 : Int32)) rfl ?_
  refine r_ldcL (pc := 160) p108 k108_160 (v := (29494 : Int64)) rfl ?_
  refine r_lastC (pc := 163) p108 k108_163 rfl rfl (by decide) ?_
  refine r_dup (pc := 164) p108 k108_164 rfl ?_
  refine r_bipush (pc := 165) p108 k108_165 (v := (23 : Int32)) rfl ?_
  refine r_ldcL (pc := 167) p108 k108_167 (v := (29495 : Int64)) rfl ?_
  refine r_lastC (pc := 170) p108 k108_170 rfl rfl (by decide) ?_
  refine r_dup (pc := 171) p108 k108_171 rfl ?_
  refine r_bipush (pc := 172) p108 k108_172 (v := (24 : Int32)) rfl ?_
  refine r_ldcL (pc := 174) p108 k108_174 (v := (29496 : Int64)) rfl ?_
  refine r_lastC (pc := 177) p108 k108_177 rfl rfl (by decide) ?_
  refine r_dup (pc := 178) p108 k108_178 rfl ?_
  refine r_bipush (pc := 179) p108 k108_179 (v := (25 : Int32)) rfl ?_
  refine r_ldcL (pc := 181) p108 k108_181 (v := (29497 : Int64)) rfl ?_
  refine r_lastC (pc := 184) p108 k108_184 rfl rfl (by decide) ?_
  refine r_dup (pc := 185) p108 k108_185 rfl ?_
  refine r_bipush (pc := 186) p108 k108_186 (v := (26 : Int32)) rfl ?_
  refine r_ldcL (pc := 188) p108 k108_188 (v := (7549232 : Int64)) rfl ?_
  refine r_lastC (pc := 191) p108 k108_191 rfl rfl (by decide) ?_
  refine r_dup (pc := 192) p108 k108_192 rfl ?_
  refine r_bipush (pc := 193) p108 k108_193 (v := (27 : Int32)) rfl ?_
  refine r_ldcL (pc := 195) p108 k108_195 (v := (7549233 : Int64)) rfl ?_
  refine r_lastC (pc := 198) p108 k108_198 rfl rfl (by decide) ?_
  refine r_dup (pc := 199) p108 k108_199 rfl ?_
  refine r_bipush (pc := 200) p108 k108_200 (v := (28 : Int32)) rfl ?_
  refine r_ldcL (pc := 202) p108 k108_202 (v := (29747 : Int64)) rfl ?_
  refine r_lastC (pc := 205) p108 k108_205 rfl rfl (by decide) ?_
  refine r_dup (pc := 206) p108 k108_206 rfl ?_
  refine r_bipush (pc := 207) p108 k108_207 (v := (29 : Int32)) rfl ?_
  refine r_ldcL (pc := 209) p108 k108_209 (v := (29748 : Int64)) rfl ?_
  refine r_lastC (pc := 212) p108 k108_212 rfl rfl (by decide) ?_
  refine r_dup (pc := 213) p108 k108_213 rfl ?_
  refine r_bipush (pc := 214) p108 k108_214 (v := (30 : Int32)) rfl ?_
  refine r_ldcL (pc := 216) p108 k108_216 (v := (29749 : Int64)) rfl ?_
  refine r_lastC (pc := 219) p108 k108_219 rfl rfl (by decide) ?_
  refine r_dup (pc := 220) p108 k108_220 rfl ?_
  refine r_bipush (pc := 221) p108 k108_221 (v := (31 : Int32)) rfl ?_
  refine r_ldcL (pc := 223) p108 k108_223 (v := (29750 : Int64)) rfl ?_
  refine r_lastC (pc := 226) p108 k108_226 rfl rfl (by decide) ?_
  refine r_dup (pc := 227) p108 k108_227 rfl ?_
  refine r_bipush (pc := 228) p108 k108_228 (v := (32 : Int32)) rfl ?_
  refine r_ldcL (pc := 230) p108 k108_230 (v := (26224 : Int64)) rfl ?_
  refine r_lastC (pc := 233) p108 k108_233 rfl rfl (by decide) ?_
  refine r_hp (h2 := ab_hl 24 ci_15) rfl ?_
  refine r_putC (pc := 234) p108 k108_234 rfl rfl rfl rfl rfl rfl rfl ?_
  refine r_aload_n (pc := 237) p108 k108_237 (i := 22) h0 ?_
  refine r_bipush (pc := 238) p108 k108_238 (v := (83 : Int32)) rfl ?_
  refine r_newa (pc := 240) p108 k108_240 (by decide) ?_
  refine r_dup (pc := 242) p108 k108_242 rfl ?_
  refine r_iconst (pc := 243) p108 k108_243 (v := (0 : Int32)) rfl ?_
  refine r_ldcL (pc := 244) p108 k108_244 (v := (6382692 : Int64)) rfl ?_
  refine r_lastC (pc := 247) p108 k108_247 rfl rfl (by decide) ?_
  refine r_dup (pc := 248) p108 k108_248 rfl ?_
  refine r_iconst (pc := 249) p108 k108_249 (v := (1 : Int32)) rfl ?_
  refine r_ldcL (pc := 250) p108 k108_250 (v := (7566690 : Int64)) rfl ?_
  refine r_lastC (pc := 253) p108 k108_253 rfl rfl (by decide) ?_
  refine r_dup (pc := 254) p108 k108_254 rfl ?_
  refine r_iconst (pc := 255) p108 k108_255 (v := (2 : Int32)) rfl ?_
  refine r_ldcL (pc := 256) p108 k108_256 (v := (7564396 : Int64)) rfl ?_
  refine r_lastC (pc := 259) p108 k108_259 rfl rfl (by decide) ?_
  refine r_dup (pc := 260) p108 k108_260 rfl ?_
  refine r_iconst (pc := 261) p108 k108_261 (v := (3 : Int32)) rfl ?_
  refine r_ldcL (pc := 262) p108 k108_262 (v := (7564404 : Int64)) rfl ?_
  refine r_lastC (pc := 265) p108 k108_265 rfl rfl (by decide) ?_
  refine r_dup (pc := 266) p108 k108_266 rfl ?_
  refine r_iconst (pc := 267) p108 k108_267 (v := (4 : Int32)) rfl ?_
  refine r_ldcL (pc := 268) p108 k108_268 (v := (1936487541 : Int64)) rfl ?_
  refine r_lastC (pc := 271) p108 k108_271 rfl rfl (by decide) ?_
  refine r_dup (pc := 272) p108 k108_272 rfl ?_
  refine r_iconst (pc := 273) p108 k108_273 (v := (5 : Int32)) rfl ?_
  refine r_ldcL (pc := 274) p108 k108_274 (v := (7892850 : Int64)) rfl ?_
  refine r_lastC (pc := 277) p108 k108_277 rfl rfl (by decide) ?_
  refine r_dup (pc := 278) p108 k108_278 rfl ?_
  refine r_bipush (pc := 279) p108 k108_279 (v := (6 : Int32)) rfl ?_
  refine r_ldcL (pc := 281) p108 k108_281 (v := (7565932 : Int64)) rfl ?_
  refine r_lastC (pc := 284) p108 k108_284 rfl rfl (by decide) ?_
  refine r_dup (pc := 285) p108 k108_285 rfl ?_
  refine r_bipush (pc := 286) p108 k108_286 (v := (7 : Int32)) rfl ?_
  refine r_ldcL (pc := 288) p108 k108_288 (v := (7565921 : Int64)) rfl ?_
  refine r_lastC (pc := 291) p108 k108_291 rfl rfl (by decide) ?_
  refine r_dup (pc := 292) p108 k108_292 rfl ?_
  refine r_bipush (pc := 293) p108 k108_293 (v := (8 : Int32)) rfl ?_
  refine r_ldcL (pc := 295) p108 k108_295 (v := (28530 : Int64)) rfl ?_
  refine r_lastC (pc := 298) p108 k108_298 rfl rfl (by decide) ?_
  refine r_dup (pc := 299) p108 k108_299 rfl ?_
  refine r_bipush (pc := 300) p108 k108_300 (v := (9 : Int32)) rfl ?_
  refine r_ldcL (pc := 302) p108 k108_302 (v := (6385252 : Int64)) rfl ?_
  refine r_lastC (pc := 305) p108 k108_305 rfl rfl (by decide) ?_
  refine r_dup (pc := 306) p108 k108_306 rfl ?_
  refine r_bipush (pc := 307) p108 k108_307 (v := (10 : Int32)) rfl ?_
  refine r_ldcL (pc := 309) p108 k108_309 (v := (7173484 : Int64)) rfl ?_
  refine r_lastC (pc := 312) p108 k108_312 rfl rfl (by decide) ?_
  refine r_dup (pc := 313) p108 k108_313 rfl ?_
  refine r_bipush (pc := 314) p108 k108_314 (v := (11 : Int32)) rfl ?_
  refine r_ldcL (pc := 316) p108 k108_316 (v := (1836412008 : Int64)) rfl ?_
  refine r_lastC (pc := 319) p108 k108_319 rfl rfl (by decide) ?_
  refine r_dup (pc := 320) p108 k108_320 rfl ?_
  refine r_bipush (pc := 321) p108 k108_321 (v := (12 : Int32)) rfl ?_
  refine r_ldcL (pc := 323) p108 k108_323 (v := (120351097385845 : Int64)) rfl ?_
  refine r_lastC (pc := 326) p108 k108_326 rfl rfl (by decide) ?_
  refine r_dup (pc := 327) p108 k108_327 rfl ?_
  refine r_bipush (pc := 328) p108 k108_328 (v := (13 : Int32)) rfl ?_
  refine r_ldcL (pc := 330) p108 k108_330 (v := (470121474165 : Int64)) rfl ?_
  refine r_lastC (pc := 333) p108 k108_333 rfl rfl (by decide) ?_
  refine r_dup (pc := 334) p108 k108_334 rfl ?_
  refine r_bipush (pc := 335) p108 k108_335 (v := (14 : Int32)) rfl ?_
  refine r_ldcL (pc := 337) p108 k108_337 (v := (6580598 : Int64)) rfl ?_
  refine r_lastC (pc := 340) p108 k108_340 rfl rfl (by decide) ?_
  refine r_dup (pc := 341) p108 k108_341 rfl ?_
  refine r_bipush (pc := 342) p108 k108_342 (v := (15 : Int32)) rfl ?_
  refine r_ldcL (pc := 344) p108 k108_344 (v := (1684633205 : Int64)) rfl ?_
  refine r_lastC (pc := 347) p108 k108_347 rfl rfl (by decide) ?_
  refine r_dup (pc := 348) p108 k108_348 rfl ?_
  refine r_bipush (pc := 349) p108 k108_349 (v := (16 : Int32)) rfl ?_
  refine r_ldcL (pc := 351) p108 k108_351 (v := (7497069 : Int64)) rfl ?_
  refine r_lastC (pc := 354) p108 k108_354 rfl rfl (by decide) ?_
  refine r_dup (pc := 355) p108 k108_355 rfl ?_
  refine r_bipush (pc := 356) p108 k108_356 (v := (17 : Int32)) rfl ?_
  refine r_ldcL (pc := 358) p108 k108_358 (v := (1919249781 : Int64)) rfl ?_
  refine r_lastC (pc := 361) p108 k108_361 rfl rfl (by decide) ?_
  refine r_dup (pc := 362) p108 k108_362 rfl ?_
  refine r_bipush (pc := 363) p108 k108_363 (v := (18 : Int32)) rfl ?_
  refine r_ldcL (pc := 365) p108 k108_365 (v := (1633969257 : Int64)) rfl ?_
  refine r_lastC (pc := 368) p108 k108_368 rfl rfl (by decide) ?_
  refine r_dup (pc := 369) p108 k108_369 rfl ?_
  refine r_bipush (pc := 370) p108 k108_370 (v := (19 : Int32)) rfl ?_
  refine r_ldcL (pc := 372) p108 k108_372 (v := (1936487529 : Int64)) rfl ?_
  refine r_lastC (pc := 375) p108 k108_375 rfl rfl (by decide) ?_
  refine r_dup (pc := 376) p108 k108_376 rfl ?_
  refine r_bipush (pc := 377) p108 k108_377 (v := (20 : Int32)) rfl ?_
  refine r_ldcL (pc := 379) p108 k108_379 (v := (495740807541 : Int64)) rfl ?_
  refine r_lastC (pc := 382) p108 k108_382 rfl rfl (by decide) ?_
  refine r_dup (pc := 383) p108 k108_383 rfl ?_
  refine r_bipush (pc := 384) p108 k108_384 (v := (21 : Int32)) rfl ?_
  refine r_ldcL (pc := 386) p108 k108_386 (v := (2020569705 : Int64)) rfl ?_
  refine r_lastC (pc := 389) p108 k108_389 rfl rfl (by decide) ?_
  refine r_dup (pc := 390) p108 k108_390 rfl ?_
  refine r_bipush (pc := 391) p108 k108_391 (v := (22 : Int32)) rfl ?_
  refine r_ldcL (pc := 393) p108 k108_393 (v := (7303785 : Int64)) rfl ?_
  refine r_lastC (pc := 396) p108 k108_396 rfl rfl (by decide) ?_
  refine r_dup (pc := 397) p108 k108_397 rfl ?_
  refine r_bipush (pc := 398) p108 k108_398 (v := (23 : Int32)) rfl ?_
  refine r_ldcL (pc := 400) p108 k108_400 (v := (1634624617 : Int64)) rfl ?_
  refine r_lastC (pc := 403) p108 k108_403 rfl rfl (by decide) ?_
  refine r_dup (pc := 404) p108 k108_404 rfl ?_
  refine r_bipush (pc := 405) p108 k108_405 (v := (24 : Int32)) rfl ?_
  refine r_ldcL (pc := 407) p108 k108_407 (v := (1936485481 : Int64)) rfl ?_
  refine r_lastC (pc := 410) p108 k108_410 rfl rfl (by decide) ?_
  refine r_dup (pc := 411) p108 k108_411 rfl ?_
  refine r_bipush (pc := 412) p108 k108_412 (v := (25 : Int32)) rfl ?_
  refine r_ldcL (pc := 414) p108 k108_414 (v := (1936878697 : Int64)) rfl ?_
  refine r_lastC (pc := 417) p108 k108_417 rfl rfl (by decide) ?_
  refine r_dup (pc := 418) p108 k108_418 rfl ?_
  refine r_bipush (pc := 419) p108 k108_419 (v := (26 : Int32)) rfl ?_
  refine r_ldcL (pc := 421) p108 k108_421 (v := (1936875881 : Int64)) rfl ?_
  refine r_lastC (pc := 424) p108 k108_424 rfl rfl (by decide) ?_
  refine r_dup (pc := 425) p108 k108_425 rfl ?_
  refine r_bipush (pc := 426) p108 k108_426 (v := (27 : Int32)) rfl ?_
  refine r_ldcL (pc := 428) p108 k108_428 (v := (27746 : Int64)) rfl ?_
  refine r_lastC (pc := 431) p108 k108_431 rfl rfl (by decide) ?_
  refine r_dup (pc := 432) p108 k108_432 rfl ?_
  refine r_bipush (pc := 433) p108 k108_433 (v := (28 : Int32)) rfl ?_
  refine r_ldcL (pc := 435) p108 k108_435 (v := (27752 : Int64)) rfl ?_
  refine r_lastC (pc := 438) p108 k108_438 rfl rfl (by decide) ?_
  refine r_dup (pc := 439) p108 k108_439 rfl ?_
  refine r_bipush (pc := 440) p108 k108_440 (v := (29 : Int32)) rfl ?_
  refine r_ldcL (pc := 442) p108 k108_442 (v := (27767 : Int64)) rfl ?_
  refine r_lastC (pc := 445) p108 k108_445 rfl rfl (by decide) ?_
  refine r_dup (pc := 446) p108 k108_446 rfl ?_
  refine r_bipush (pc := 447) p108 k108_447 (v := (30 : Int32)) rfl ?_
  refine r_ldcL (pc := 449) p108 k108_449 (v := (7103093 : Int64)) rfl ?_
  refine r_lastC (pc := 452) p108 k108_452 rfl rfl (by decide) ?_
  refine r_dup (pc := 453) p108 k108_453 rfl ?_
  refine r_bipush (pc := 454) p108 k108_454 (v := (31 : Int32)) rfl ?_
  refine r_ldcL (pc := 456) p108 k108_456 (v := (7104629 : Int64)) rfl ?_
  refine r_lastC (pc := 459) p108 k108_459 rfl rfl (by decide) ?_
  refine r_dup (pc := 460) p108 k108_460 rfl ?_
  refine r_bipush (pc := 461) p108 k108_461 (v := (32 : Int32)) rfl ?_
  refine r_ldcL (pc := 463) p108 k108_463 (v := (29538 : Int64)) rfl ?_
  refine r_lastC (pc := 466) p108 k108_466 rfl rfl (by decide) ?_
  refine r_dup (pc := 467) p108 k108_467 rfl ?_
  refine r_bipush (pc := 468) p108 k108_468 (v := (33 : Int32)) rfl ?_
  refine r_ldcL (pc := 470) p108 k108_470 (v := (29544 : Int64)) rfl ?_
  refine r_lastC (pc := 473) p108 k108_473 rfl rfl (by decide) ?_
  refine r_dup (pc := 474) p108 k108_474 rfl ?_
  refine r_bipush (pc := 475) p108 k108_475 (v := (34 : Int32)) rfl ?_
  refine r_ldcL (pc := 477) p108 k108_477 (v := (29559 : Int64)) rfl ?_
  refine r_lastC (pc := 480) p108 k108_480 rfl rfl (by decide) ?_
  refine r_dup (pc := 481) p108 k108_481 rfl ?_
  refine r_bipush (pc := 482) p108 k108_482 (v := (35 : Int32)) rfl ?_
  refine r_ldcL (pc := 484) p108 k108_484 (v := (6448497 : Int64)) rfl ?_
  refine r_lastC (pc := 487) p108 k108_487 rfl rfl (by decide) ?_
  refine r_dup (pc := 488) p108 k108_488 rfl ?_
  refine r_bipush (pc := 489) p108 k108_489 (v := (36 : Int32)) rfl ?_
  refine r_ldcL (pc := 491) p108 k108_491 (v := (6450789 : Int64)) rfl ?_
  refine r_lastC (pc := 494) p108 k108_494 rfl rfl (by decide) ?_
  refine r_dup (pc := 495) p108 k108_495 rfl ?_
  refine r_bipush (pc := 496) p108 k108_496 (v := (37 : Int32)) rfl ?_
  refine r_ldcL (pc := 498) p108 k108_498 (v := (6450292 : Int64)) rfl ?_
  refine r_lastC (pc := 501) p108 k108_501 rfl rfl (by decide) ?_
  refine r_dup (pc := 502) p108 k108_502 rfl ?_
  refine r_bipush (pc := 503) p108 k108_503 (v := (38 : Int32)) rfl ?_
  refine r_ldcL (pc := 505) p108 k108_505 (v := (6448997 : Int64)) rfl ?_
  refine r_lastC (pc := 508) p108 k108_508 rfl rfl (by decide) ?_
  refine r_dup (pc := 509) p108 k108_509 rfl ?_
  refine r_bipush (pc := 510) p108 k108_510 (v := (39 : Int32)) rfl ?_
  refine r_ldcL (pc := 512) p108 k108_512 (v := (1651274869 : Int64)) rfl ?_
  refine r_lastC (pc := 515) p108 k108_515 rfl rfl (by decide) ?_
  refine r_dup (pc := 516) p108 k108_516 rfl ?_
  refine r_bipush (pc := 517) p108 k108_517 (v := (40 : Int32)) rfl ?_
  refine r_ldcL (pc := 519) p108 k108_519 (v := (1650943349 : Int64)) rfl ?_
  refine r_lastC (pc := 522) p108 k108_522 rfl rfl (by decide) ?_
  refine r_dup (pc := 523) p108 k108_523 rfl ?_
  refine r_bipush (pc := 524) p108 k108_524 (v := (41 : Int32)) rfl ?_
  refine r_ldcL (pc := 526) p108 k108_526 (v := (6449012 : Int64)) rfl ?_
  refine r_lastC (pc := 529) p108 k108_529 rfl rfl (by decide) ?_
  refine r_dup (pc := 530) p108 k108_530 rfl ?_
  refine r_bipush (pc := 531) p108 k108_531 (v := (42 : Int32)) rfl ?_
  refine r_ldcL (pc := 533) p108 k108_533 (v := (6450277 : Int64)) rfl ?_
  refine r_lastC (pc := 536) p108 k108_536 rfl rfl (by decide) ?_
  refine r_dup (pc := 537) p108 k108_537 rfl ?_
  refine r_bipush (pc := 538) p108 k108_538 (v := (43 : Int32)) rfl ?_
  refine r_ldcL (pc := 540) p108 k108_540 (v := (1650947189 : Int64)) rfl ?_
  refine r_lastC (pc := 543) p108 k108_543 rfl rfl (by decide) ?_
  refine r_dup (pc := 544) p108 k108_544 rfl ?_
  refine r_bipush (pc := 545) p108 k108_545 (v := (44 : Int32)) rfl ?_
  refine r_ldcL (pc := 547) p108 k108_547 (v := (1651271029 : Int64)) rfl ?_
  refine r_lastC (pc := 550) p108 k108_550 rfl rfl (by decide) ?_
  refine r_dup (pc := 551) p108 k108_551 rfl ?_
  refine r_bipush (pc := 552) p108 k108_552 (v := (45 : Int32)) rfl ?_
  refine r_ldcL (pc := 554) p108 k108_554 (v := (1650815354 : Int64)) rfl ?_
  refine r_lastC (pc := 557) p108 k108_557 rfl rfl (by decide) ?_
  refine r_dup (pc := 558) p108 k108_558 rfl ?_
  refine r_bipush (pc := 559) p108 k108_559 (v := (46 : Int32)) rfl ?_
  refine r_ldcL (pc := 561) p108 k108_561 (v := (1651402106 : Int64)) rfl ?_
  refine r_lastC (pc := 564) p108 k108_564 rfl rfl (by decide) ?_
  refine r_dup (pc := 565) p108 k108_565 rfl ?_
  refine r_bipush (pc := 566) p108 k108_566 (v := (47 : Int32)) rfl ?_
  refine r_ldcL (pc := 568) p108 k108_568 (v := (1651274874 : Int64)) rfl ?_
  refine r_lastC (pc := 571) p108 k108_571 rfl rfl (by decide) ?_
  refine r_dup (pc := 572) p108 k108_572 rfl ?_
  refine r_bipush (pc := 573) p108 k108_573 (v := (48 : Int32)) rfl ?_
  refine r_ldcL (pc := 575) p108 k108_575 (v := (1650943354 : Int64)) rfl ?_
  refine r_lastC (pc := 578) p108 k108_578 rfl rfl (by decide) ?_
  refine r_dup (pc := 579) p108 k108_579 rfl ?_
  refine r_bipush (pc := 580) p108 k108_580 (v := (49 : Int32)) rfl ?_
  refine r_ldcL (pc := 582) p108 k108_582 (v := (1650947194 : Int64)) rfl ?_
  refine r_lastC (pc := 585) p108 k108_585 rfl rfl (by decide) ?_
  refine r_dup (pc := 586) p108 k108_586 rfl ?_
  refine r_bipush (pc := 587) p108 k108_587 (v := (50 : Int32)) rfl ?_
  refine r_ldcL (pc := 589) p108 k108_589 (v := (1651271034 : Int64)) rfl ?_
  refine r_lastC (pc := 592) p108 k108_592 rfl rfl (by decide) ?_
  refine r_dup (pc := 593) p108 k108_593 rfl ?_
  refine r_bipush (pc := 594) p108 k108_594 (v := (51 : Int32)) rfl ?_
  refine r_ldcL (pc := 596) p108 k108_596 (v := (7107945 : Int64)) rfl ?_
  refine r_lastC (pc := 599) p108 k108_599 rfl rfl (by decide) ?_
  refine r_dup (pc := 600) p108 k108_600 rfl ?_
  refine r_bipush (pc := 601) p108 k108_601 (v := (52 : Int32)) rfl ?_
  refine r_ldcL (pc := 603) p108 k108_603 (v := (418581672035 : Int64)) rfl ?_
  refine r_lastC (pc := 606) p108 k108_606 rfl rfl (by decide) ?_
  refine r_dup (pc := 607) p108 k108_607 rfl ?_
  refine r_bipush (pc := 608) p108 k108_608 (v := (53 : Int32)) rfl ?_
  refine r_ldcL (pc := 610) p108 k108_610 (v := (6971756 : Int64)) rfl ?_
  refine r_lastC (pc := 613) p108 k108_613 rfl rfl (by decide) ?_
  refine r_dup (pc := 614) p108 k108_614 rfl ?_
  refine r_bipush (pc := 615) p108 k108_615 (v := (54 : Int32)) rfl ?_
  refine r_ldcL (pc := 617) p108 k108_617 (v := (1784769650 : Int64)) rfl ?_
  refine r_lastC (pc := 620) p108 k108_620 rfl rfl (by decide) ?_
  refine r_dup (pc := 621) p108 k108_621 rfl ?_
  refine r_bipush (pc := 622) p108 k108_622 (v := (55 : Int32)) rfl ?_
  refine r_ldcL (pc := 624) p108 k108_624 (v := (439788397413 : Int64)) rfl ?_
  refine r_lastC (pc := 627) p108 k108_627 rfl rfl (by decide) ?_
  refine r_dup (pc := 628) p108 k108_628 rfl ?_
  refine r_bipush (pc := 629) p108 k108_629 (v := (56 : Int32)) rfl ?_
  refine r_ldcL (pc := 631) p108 k108_631 (v := (435459026028 : Int64)) rfl ?_
  refine r_lastC (pc := 634) p108 k108_634 rfl rfl (by decide) ?_
  refine r_dup (pc := 635) p108 k108_635 rfl ?_
  refine r_bipush (pc := 636) p108 k108_636 (v := (57 : Int32)) rfl ?_
  refine r_ldcL (pc := 638) p108 k108_638 (v := (111473500447083 : Int64)) rfl ?_
  refine r_lastC (pc := 641) p108 k108_641 rfl rfl (by decide) ?_
  refine r_dup (pc := 642) p108 k108_642 rfl ?_
  refine r_bipush (pc := 643) p108 k108_643 (v := (58 : Int32)) rfl ?_
  refine r_ldcL (pc := 645) p108 k108_645 (v := (7237488 : Int64)) rfl ?_
  refine r_lastC (pc := 648) p108 k108_648 rfl rfl (by decide) ?_
  refine r_dup (pc := 649) p108 k108_649 rfl ?_
  refine r_bipush (pc := 650) p108 k108_650 (v := (59 : Int32)) rfl ?_
  refine r_ldcL (pc := 652) p108 k108_652 (v := (7497076 : Int64)) rfl ?_
  refine r_lastC (pc := 655) p108 k108_655 rfl rfl (by decide) ?_
  refine r_dup (pc := 656) p108 k108_656 rfl ?_
  refine r_bipush (pc := 657) p108 k108_657 (v := (60 : Int32)) rfl ?_
  refine r_ldcL (pc := 659) p108 k108_659 (v := (28022 : Int64)) rfl ?_
  refine r_lastC (pc := 662) p108 k108_662 rfl rfl (by decide) ?_
  refine r_dup (pc := 663) p108 k108_663 rfl ?_
  refine r_bipush (pc := 664) p108 k108_664 (v := (61 : Int32)) rfl ?_
  refine r_ldcL (pc := 666) p108 k108_666 (v := (7237492 : Int64)) rfl ?_
  refine r_lastC (pc := 669) p108 k108_669 rfl rfl (by decide) ?_
  refine r_dup (pc := 670) p108 k108_670 rfl ?_
  refine r_bipush (pc := 671) p108 k108_671 (v := (62 : Int32)) rfl ?_
  refine r_ldcL (pc := 673) p108 k108_673 (v := (7234919 : Int64)) rfl ?_
  refine r_lastC (pc := 676) p108 k108_676 rfl rfl (by decide) ?_
  refine r_dup (pc := 677) p108 k108_677 rfl ?_
  refine r_bipush (pc := 678) p108 k108_678 (v := (63 : Int32)) rfl ?_
  refine r_ldcL (pc := 680) p108 k108_680 (v := (1936028026 : Int64)) rfl ?_
  refine r_lastC (pc := 683) p108 k108_683 rfl rfl (by decide) ?_
  refine r_dup (pc := 684) p108 k108_684 rfl ?_
  refine r_bipush (pc := 685) p108 k108_685 (v := (64 : Int32)) rfl ?_
  refine r_ldcL (pc := 687) p108 k108_687 (v := (1936614778 : Int64)) rfl ?_
  refine r_lastC (pc := 690) p108 k108_690 rfl rfl (by decide) ?_
  refine r_dup (pc := 691) p108 k108_691 rfl ?_
  refine r_bipush (pc := 692) p108 k108_692 (v := (65 : Int32)) rfl ?_
  refine r_ldcL (pc := 694) p108 k108_694 (v := (1936487546 : Int64)) rfl ?_
  refine r_lastC (pc := 697) p108 k108_697 rfl rfl (by decide) ?_
  refine r_dup (pc := 698) p108 k108_698 rfl ?_
  refine r_bipush (pc := 699) p108 k108_699 (v := (66 : Int32)) rfl ?_
  refine r_ldcL (pc := 701) p108 k108_701 (v := (1936159866 : Int64)) rfl ?_
  refine r_lastC (pc := 704) p108 k108_704 rfl rfl (by decide) ?_
  refine r_dup (pc := 705) p108 k108_705 rfl ?_
  refine r_bipush (pc := 706) p108 k108_706 (v := (67 : Int32)) rfl ?_
  refine r_ldcL (pc := 708) p108 k108_708 (v := (106 : Int64)) rfl ?_
  refine r_lastC (pc := 711) p108 k108_711 rfl rfl (by decide) ?_
  refine r_dup (pc := 712) p108 k108_712 rfl ?_
  refine r_bipush (pc := 713) p108 k108_713 (v := (68 : Int32)) rfl ?_
  refine r_ldcL (pc := 715) p108 k108_715 (v := (1667329132 : Int64)) rfl ?_
  refine r_lastC (pc := 718) p108 k108_718 rfl rfl (by decide) ?_
  refine r_dup (pc := 719) p108 k108_719 rfl ?_
  refine r_bipush (pc := 720) p108 k108_720 (v := (69 : Int32)) rfl ?_
  refine r_ldcL (pc := 722) p108 k108_722 (v := (27250 : Int64)) rfl ?_
  refine r_lastC (pc := 725) p108 k108_725 rfl rfl (by decide) ?_
  refine r_dup (pc := 726) p108 k108_726 rfl ?_
  refine r_bipush (pc := 727) p108 k108_727 (v := (70 : Int32)) rfl ?_
  refine r_ldcL (pc := 729) p108 k108_729 (v := (27745 : Int64)) rfl ?_
  refine r_lastC (pc := 732) p108 k108_732 rfl rfl (by decide) ?_
  refine r_dup (pc := 733) p108 k108_733 rfl ?_
  refine r_bipush (pc := 734) p108 k108_734 (v := (71 : Int32)) rfl ?_
  refine r_ldcL (pc := 736) p108 k108_736 (v := (27753 : Int64)) rfl ?_
  refine r_lastC (pc := 739) p108 k108_739 rfl rfl (by decide) ?_
  refine r_dup (pc := 740) p108 k108_740 rfl ?_
  refine r_bipush (pc := 741) p108 k108_741 (v := (72 : Int32)) rfl ?_
  refine r_ldcL (pc := 743) p108 k108_743 (v := (199521302644 : Int64)) rfl ?_
  refine r_lastC (pc := 746) p108 k108_746 rfl rfl (by decide) ?_
  refine r_dup (pc := 747) p108 k108_747 rfl ?_
  refine r_bipush (pc := 748) p108 k108_748 (v := (73 : Int32)) rfl ?_
  refine r_ldcL (pc := 750) p108 k108_750 (v := (199252604001 : Int64)) rfl ?_
  refine r_lastC (pc := 753) p108 k108_753 rfl rfl (by decide) ?_
  refine r_dup (pc := 754) p108 k108_754 rfl ?_
  refine r_bipush (pc := 755) p108 k108_755 (v := (74 : Int32)) rfl ?_
  refine r_ldcL (pc := 757) p108 k108_757 (v := (199220622437 : Int64)) rfl ?_
  refine r_lastC (pc := 760) p108 k108_760 rfl rfl (by decide) ?_
  refine r_dup (pc := 761) p108 k108_761 rfl ?_
  refine r_bipush (pc := 762) p108 k108_762 (v := (75 : Int32)) rfl ?_
  refine r_ldcL (pc := 764) p108 k108_764 (v := (199319710822 : Int64)) rfl ?_
  refine r_lastC (pc := 767) p108 k108_767 rfl rfl (by decide) ?_
  refine r_dup (pc := 768) p108 k108_768 rfl ?_
  refine r_bipush (pc := 769) p108 k108_769 (v := (76 : Int32)) rfl ?_
  refine r_ldcL (pc := 771) p108 k108_771 (v := (199572288100 : Int64)) rfl ?_
  refine r_lastC (pc := 774) p108 k108_774 rfl rfl (by decide) ?_
  refine r_dup (pc := 775) p108 k108_775 rfl ?_
  refine r_bipush (pc := 776) p108 k108_776 (v := (77 : Int32)) rfl ?_
  refine r_ldcL (pc := 778) p108 k108_778 (v := (50996082600297 : Int64)) rfl ?_
  refine r_lastC (pc := 781) p108 k108_781 rfl rfl (by decide) ?_
  refine r_dup (pc := 782) p108 k108_782 rfl ?_
  refine r_bipush (pc := 783) p108 k108_783 (v := (78 : Int32)) rfl ?_
  refine r_ldcL (pc := 785) p108 k108_785 (v := (50996082600314 : Int64)) rfl ?_
  refine r_lastC (pc := 788) p108 k108_788 rfl rfl (by decide) ?_
  refine r_dup (pc := 789) p108 k108_789 rfl ?_
  refine r_bipush (pc := 790) p108 k108_790 (v := (79 : Int32)) rfl ?_
  refine r_ldcL (pc := 792) p108 k108_792 (v := (51073341547365 : Int64)) rfl ?_
  refine r_lastC (pc := 795) p108 k108_795 rfl rfl (by decide) ?_
  refine r_dup (pc := 796) p108 k108_796 rfl ?_
  refine r_bipush (pc := 797) p108 k108_797 (v := (80 : Int32)) rfl ?_
  refine r_ldcL (pc := 799) p108 k108_799 (v := (50995965552494 : Int64)) rfl ?_
  refine r_lastC (pc := 802) p108 k108_802 rfl rfl (by decide) ?_
  refine r_dup (pc := 803) p108 k108_803 rfl ?_
  refine r_bipush (pc := 804) p108 k108_804 (v := (81 : Int32)) rfl ?_
  refine r_ldcL (pc := 806) p108 k108_806 (v := (778400117 : Int64)) rfl ?_
  refine r_lastC (pc := 809) p108 k108_809 rfl rfl (by decide) ?_
  refine r_dup (pc := 810) p108 k108_810 rfl ?_
  refine r_bipush (pc := 811) p108 k108_811 (v := (82 : Int32)) rfl ?_
  refine r_ldcL (pc := 813) p108 k108_813 (v := (51021735748204 : Int64)) rfl ?_
  refine r_lastC (pc := 816) p108 k108_816 rfl rfl (by decide) ?_
  refine r_hp (h2 := ab_hl 25 ci_16) rfl ?_
  refine r_putC (pc := 817) p108 k108_817 rfl rfl rfl rfl rfl rfl rfl ?_
  refine r_aload_n (pc := 820) p108 k108_820 (i := 22) h0 ?_
  refine r_bipush (pc := 821) p108 k108_821 (v := (51 : Int32)) rfl ?_
  refine r_newa (pc := 823) p108 k108_823 (by decide) ?_
  refine r_dup (pc := 825) p108 k108_825 rfl ?_
  refine r_iconst (pc := 826) p108 k108_826 (v := (0 : Int32)) rfl ?_
  refine r_iconst (pc := 827) p108 k108_827 (v := (0 : Int32)) rfl ?_
  refine r_iastC (pc := 828) p108 k108_828 rfl rfl (by decide) ?_
  refine r_dup (pc := 829) p108 k108_829 rfl ?_
  refine r_iconst (pc := 830) p108 k108_830 (v := (1 : Int32)) rfl ?_
  refine r_iconst (pc := 831) p108 k108_831 (v := (0 : Int32)) rfl ?_
  refine r_iastC (pc := 832) p108 k108_832 rfl rfl (by decide) ?_
  refine r_dup (pc := 833) p108 k108_833 rfl ?_
  refine r_iconst (pc := 834) p108 k108_834 (v := (2 : Int32)) rfl ?_
  refine r_iconst (pc := 835) p108 k108_835 (v := (1 : Int32)) rfl ?_
  refine r_iastC (pc := 836) p108 k108_836 rfl rfl (by decide) ?_
  refine r_dup (pc := 837) p108 k108_837 rfl ?_
  refine r_iconst (pc := 838) p108 k108_838 (v := (3 : Int32)) rfl ?_
  refine r_iconst (pc := 839) p108 k108_839 (v := (2 : Int32)) rfl ?_
  refine r_iastC (pc := 840) p108 k108_840 rfl rfl (by decide) ?_
  refine r_dup (pc := 841) p108 k108_841 rfl ?_
  refine r_iconst (pc := 842) p108 k108_842 (v := (4 : Int32)) rfl ?_
  refine r_iconst (pc := 843) p108 k108_843 (v := (3 : Int32)) rfl ?_
  refine r_iastC (pc := 844) p108 k108_844 rfl rfl (by decide) ?_
  refine r_dup (pc := 845) p108 k108_845 rfl ?_
  refine r_iconst (pc := 846) p108 k108_846 (v := (5 : Int32)) rfl ?_
  refine r_iconst (pc := 847) p108 k108_847 (v := (4 : Int32)) rfl ?_
  refine r_iastC (pc := 848) p108 k108_848 rfl rfl (by decide) ?_
  refine r_dup (pc := 849) p108 k108_849 rfl ?_
  refine r_bipush (pc := 850) p108 k108_850 (v := (6 : Int32)) rfl ?_
  refine r_iconst (pc := 852) p108 k108_852 (v := (5 : Int32)) rfl ?_
  refine r_iastC (pc := 853) p108 k108_853 rfl rfl (by decide) ?_
  refine r_dup (pc := 854) p108 k108_854 rfl ?_
  refine r_bipush (pc := 855) p108 k108_855 (v := (7 : Int32)) rfl ?_
  refine r_iconst (pc := 857) p108 k108_857 (v := (5 : Int32)) rfl ?_
  refine r_iastC (pc := 858) p108 k108_858 rfl rfl (by decide) ?_
  refine r_dup (pc := 859) p108 k108_859 rfl ?_
  refine r_bipush (pc := 860) p108 k108_860 (v := (8 : Int32)) rfl ?_
  refine r_bipush (pc := 862) p108 k108_862 (v := (6 : Int32)) rfl ?_
  refine r_iastC (pc := 864) p108 k108_864 rfl rfl (by decide) ?_
  refine r_dup (pc := 865) p108 k108_865 rfl ?_
  refine r_bipush (pc := 866) p108 k108_866 (v := (9 : Int32)) rfl ?_
  refine r_bipush (pc := 868) p108 k108_868 (v := (7 : Int32)) rfl ?_
  refine r_iastC (pc := 870) p108 k108_870 rfl rfl (by decide) ?_
  refine r_dup (pc := 871) p108 k108_871 rfl ?_
  refine r_bipush (pc := 872) p108 k108_872 (v := (10 : Int32)) rfl ?_
  refine r_iconst (pc := 874) p108 k108_874 (v := (0 : Int32)) rfl ?_
  refine r_iastC (pc := 875) p108 k108_875 rfl rfl (by decide) ?_
  refine r_dup (pc := 876) p108 k108_876 rfl ?_
  refine r_bipush (pc := 877) p108 k108_877 (v := (11 : Int32)) rfl ?_
  refine r_iconst (pc := 879) p108 k108_879 (v := (1 : Int32)) rfl ?_
  refine r_iastC (pc := 880) p108 k108_880 rfl rfl (by decide) ?_
  refine r_dup (pc := 881) p108 k108_881 rfl ?_
  refine r_bipush (pc := 882) p108 k108_882 (v := (12 : Int32)) rfl ?_
  refine r_iconst (pc := 884) p108 k108_884 (v := (2 : Int32)) rfl ?_
  refine r_iastC (pc := 885) p108 k108_885 rfl rfl (by decide) ?_
  refine r_dup (pc := 886) p108 k108_886 rfl ?_
  refine r_bipush (pc := 887) p108 k108_887 (v := (13 : Int32)) rfl ?_
  refine r_iconst (pc := 889) p108 k108_889 (v := (3 : Int32)) rfl ?_
  refine r_iastC (pc := 890) p108 k108_890 rfl rfl (by decide) ?_
  refine r_dup (pc := 891) p108 k108_891 rfl ?_
  refine r_bipush (pc := 892) p108 k108_892 (v := (14 : Int32)) rfl ?_
  refine r_iconst (pc := 894) p108 k108_894 (v := (4 : Int32)) rfl ?_
  refine r_iastC (pc := 895) p108 k108_895 rfl rfl (by decide) ?_
  refine r_dup (pc := 896) p108 k108_896 rfl ?_
  refine r_bipush (pc := 897) p108 k108_897 (v := (15 : Int32)) rfl ?_
  refine r_iconst (pc := 899) p108 k108_899 (v := (5 : Int32)) rfl ?_
  refine r_iastC (pc := 900) p108 k108_900 rfl rfl (by decide) ?_
  refine r_dup (pc := 901) p108 k108_901 rfl ?_
  refine r_bipush (pc := 902) p108 k108_902 (v := (16 : Int32)) rfl ?_
  refine r_bipush (pc := 904) p108 k108_904 (v := (6 : Int32)) rfl ?_
  refine r_iastC (pc := 906) p108 k108_906 rfl rfl (by decide) ?_
  refine r_dup (pc := 907) p108 k108_907 rfl ?_
  refine r_bipush (pc := 908) p108 k108_908 (v := (17 : Int32)) rfl ?_
  refine r_bipush (pc := 910) p108 k108_910 (v := (7 : Int32)) rfl ?_
  refine r_iastC (pc := 912) p108 k108_912 rfl rfl (by decide) ?_
  refine r_dup (pc := 913) p108 k108_913 rfl ?_
  refine r_bipush (pc := 914) p108 k108_914 (v := (18 : Int32)) rfl ?_
  refine r_iconst (pc := 916) p108 k108_916 (v := (0 : Int32)) rfl ?_
  refine r_iastC (pc := 917) p108 k108_917 rfl rfl (by decide) ?_
  refine r_dup (pc := 918) p108 k108_918 rfl ?_
  refine r_bipush (pc := 919) p108 k108_919 (v := (19 : Int32)) rfl ?_
  refine r_iconst (pc := 921) p108 k108_921 (v := (2 : Int32)) rfl ?_
  refine r_iastC (pc := 922) p108 k108_922 rfl rfl (by decide) ?_
  refine r_dup (pc := 923) p108 k108_923 rfl ?_
  refine r_bipush (pc := 924) p108 k108_924 (v := (20 : Int32)) rfl ?_
  refine r_iconst (pc := 926) p108 k108_926 (v := (3 : Int32)) rfl ?_
  refine r_iastC (pc := 927) p108 k108_927 rfl rfl (by decide) ?_
  refine r_dup (pc := 928) p108 k108_928 rfl ?_
  refine r_bipush (pc := 929) p108 k108_929 (v := (21 : Int32)) rfl ?_
  refine r_iconst (pc := 931) p108 k108_931 (v := (4 : Int32)) rfl ?_
  refine r_iastC (pc := 932) p108 k108_932 rfl rfl (by decide) ?_
  refine r_dup (pc := 933) p108 k108_933 rfl ?_
  refine r_bipush (pc := 934) p108 k108_934 (v := (22 : Int32)) rfl ?_
  refine r_bipush (pc := 936) p108 k108_936 (v := (6 : Int32)) rfl ?_
  refine r_iastC (pc := 938) p108 k108_938 rfl rfl (by decide) ?_
  refine r_dup (pc := 939) p108 k108_939 rfl ?_
  refine r_bipush (pc := 940) p108 k108_940 (v := (23 : Int32)) rfl ?_
  refine r_bipush (pc := 942) p108 k108_942 (v := (7 : Int32)) rfl ?_
  refine r_iastC (pc := 944) p108 k108_944 rfl rfl (by decide) ?_
  refine r_dup (pc := 945) p108 k108_945 rfl ?_
  refine r_bipush (pc := 946) p108 k108_946 (v := (24 : Int32)) rfl ?_
  refine r_iconst (pc := 948) p108 k108_948 (v := (1 : Int32)) rfl ?_
  refine r_iastC (pc := 949) p108 k108_949 rfl rfl (by decide) ?_
  refine r_dup (pc := 950) p108 k108_950 rfl ?_
  refine r_bipush (pc := 951) p108 k108_951 (v := (25 : Int32)) rfl ?_
  refine r_iconst (pc := 953) p108 k108_953 (v := (5 : Int32)) rfl ?_
  refine r_iastC (pc := 954) p108 k108_954 rfl rfl (by decide) ?_
  refine r_dup (pc := 955) p108 k108_955 rfl ?_
  refine r_bipush (pc := 956) p108 k108_956 (v := (26 : Int32)) rfl ?_
  refine r_iconst (pc := 958) p108 k108_958 (v := (5 : Int32)) rfl ?_
  refine r_iastC (pc := 959) p108 k108_959 rfl rfl (by decide) ?_
  refine r_dup (pc := 960) p108 k108_960 rfl ?_
  refine r_bipush (pc := 961) p108 k108_961 (v := (27 : Int32)) rfl ?_
  refine r_iconst (pc := 963) p108 k108_963 (v := (0 : Int32)) rfl ?_
  refine r_iastC (pc := 964) p108 k108_964 rfl rfl (by decide) ?_
  refine r_dup (pc := 965) p108 k108_965 rfl ?_
  refine r_bipush (pc := 966) p108 k108_966 (v := (28 : Int32)) rfl ?_
  refine r_iconst (pc := 968) p108 k108_968 (v := (1 : Int32)) rfl ?_
  refine r_iastC (pc := 969) p108 k108_969 rfl rfl (by decide) ?_
  refine r_dup (pc := 970) p108 k108_970 rfl ?_
  refine r_bipush (pc := 971) p108 k108_971 (v := (29 : Int32)) rfl ?_
  refine r_iconst (pc := 973) p108 k108_973 (v := (2 : Int32)) rfl ?_
  refine r_iastC (pc := 974) p108 k108_974 rfl rfl (by decide) ?_
  refine r_dup (pc := 975) p108 k108_975 rfl ?_
  refine r_bipush (pc := 976) p108 k108_976 (v := (30 : Int32)) rfl ?_
  refine r_iconst (pc := 978) p108 k108_978 (v := (4 : Int32)) rfl ?_
  refine r_iastC (pc := 979) p108 k108_979 rfl rfl (by decide) ?_
  refine r_dup (pc := 980) p108 k108_980 rfl ?_
  refine r_bipush (pc := 981) p108 k108_981 (v := (31 : Int32)) rfl ?_
  refine r_iconst (pc := 983) p108 k108_983 (v := (5 : Int32)) rfl ?_
  refine r_iastC (pc := 984) p108 k108_984 rfl rfl (by decide) ?_
  refine r_dup (pc := 985) p108 k108_985 rfl ?_
  refine r_bipush (pc := 986) p108 k108_986 (v := (32 : Int32)) rfl ?_
  refine r_iconst (pc := 988) p108 k108_988 (v := (0 : Int32)) rfl ?_
  refine r_iastC (pc := 989) p108 k108_989 rfl rfl (by decide) ?_
  refine r_dup (pc := 990) p108 k108_990 rfl ?_
  refine r_bipush (pc := 991) p108 k108_991 (v := (33 : Int32)) rfl ?_
  refine r_iconst (pc := 993) p108 k108_993 (v := (1 : Int32)) rfl ?_
  refine r_iastC (pc := 994) p108 k108_994 rfl rfl (by decide) ?_
  refine r_dup (pc := 995) p108 k108_995 rfl ?_
  refine r_bipush (pc := 996) p108 k108_996 (v := (34 : Int32)) rfl ?_
  refine r_iconst (pc := 998) p108 k108_998 (v := (2 : Int32)) rfl ?_
  refine r_iastC (pc := 999) p108 k108_999 rfl rfl (by decide) ?_
  refine r_dup (pc := 1000) p108 k108_1000 rfl ?_
  refine r_bipush (pc := 1001) p108 k108_1001 (v := (35 : Int32)) rfl ?_
  refine r_iconst (pc := 1003) p108 k108_1003 (v := (0 : Int32)) rfl ?_
  refine r_iastC (pc := 1004) p108 k108_1004 rfl rfl (by decide) ?_
  refine r_dup (pc := 1005) p108 k108_1005 rfl ?_
  refine r_bipush (pc := 1006) p108 k108_1006 (v := (36 : Int32)) rfl ?_
  refine r_iconst (pc := 1008) p108 k108_1008 (v := (1 : Int32)) rfl ?_
  refine r_iastC (pc := 1009) p108 k108_1009 rfl rfl (by decide) ?_
  refine r_dup (pc := 1010) p108 k108_1010 rfl ?_
  refine r_bipush (pc := 1011) p108 k108_1011 (v := (37 : Int32)) rfl ?_
  refine r_iconst (pc := 1013) p108 k108_1013 (v := (4 : Int32)) rfl ?_
  refine r_iastC (pc := 1014) p108 k108_1014 rfl rfl (by decide) ?_
  refine r_dup (pc := 1015) p108 k108_1015 rfl ?_
  refine r_bipush (pc := 1016) p108 k108_1016 (v := (38 : Int32)) rfl ?_
  refine r_iconst (pc := 1018) p108 k108_1018 (v := (5 : Int32)) rfl ?_
  refine r_iastC (pc := 1019) p108 k108_1019 rfl rfl (by decide) ?_
  refine r_dup (pc := 1020) p108 k108_1020 rfl ?_
  refine r_bipush (pc := 1021) p108 k108_1021 (v := (39 : Int32)) rfl ?_
  refine r_bipush (pc := 1023) p108 k108_1023 (v := (6 : Int32)) rfl ?_
  refine r_iastC (pc := 1025) p108 k108_1025 rfl rfl (by decide) ?_
  refine r_dup (pc := 1026) p108 k108_1026 rfl ?_
  refine r_bipush (pc := 1027) p108 k108_1027 (v := (40 : Int32)) rfl ?_
  refine r_bipush (pc := 1029) p108 k108_1029 (v := (7 : Int32)) rfl ?_
  refine r_iastC (pc := 1031) p108 k108_1031 rfl rfl (by decide) ?_
  refine r_dup (pc := 1032) p108 k108_1032 rfl ?_
  refine r_bipush (pc := 1033) p108 k108_1033 (v := (41 : Int32)) rfl ?_
  refine r_iconst (pc := 1035) p108 k108_1035 (v := (4 : Int32)) rfl ?_
  refine r_iastC (pc := 1036) p108 k108_1036 rfl rfl (by decide) ?_
  refine r_dup (pc := 1037) p108 k108_1037 rfl ?_
  refine r_bipush (pc := 1038) p108 k108_1038 (v := (42 : Int32)) rfl ?_
  refine r_iconst (pc := 1040) p108 k108_1040 (v := (5 : Int32)) rfl ?_
  refine r_iastC (pc := 1041) p108 k108_1041 rfl rfl (by decide) ?_
  refine r_dup (pc := 1042) p108 k108_1042 rfl ?_
  refine r_bipush (pc := 1043) p108 k108_1043 (v := (43 : Int32)) rfl ?_
  refine r_bipush (pc := 1045) p108 k108_1045 (v := (6 : Int32)) rfl ?_
  refine r_iastC (pc := 1047) p108 k108_1047 rfl rfl (by decide) ?_
  refine r_dup (pc := 1048) p108 k108_1048 rfl ?_
  refine r_bipush (pc := 1049) p108 k108_1049 (v := (44 : Int32)) rfl ?_
  refine r_bipush (pc := 1051) p108 k108_1051 (v := (7 : Int32)) rfl ?_
  refine r_iastC (pc := 1053) p108 k108_1053 rfl rfl (by decide) ?_
  refine r_dup (pc := 1054) p108 k108_1054 rfl ?_
  refine r_bipush (pc := 1055) p108 k108_1055 (v := (45 : Int32)) rfl ?_
  refine r_iconst (pc := 1057) p108 k108_1057 (v := (0 : Int32)) rfl ?_
  refine r_iastC (pc := 1058) p108 k108_1058 rfl rfl (by decide) ?_
  refine r_dup (pc := 1059) p108 k108_1059 rfl ?_
  refine r_bipush (pc := 1060) p108 k108_1060 (v := (46 : Int32)) rfl ?_
  refine r_iconst (pc := 1062) p108 k108_1062 (v := (1 : Int32)) rfl ?_
  refine r_iastC (pc := 1063) p108 k108_1063 rfl rfl (by decide) ?_
  refine r_dup (pc := 1064) p108 k108_1064 rfl ?_
  refine r_bipush (pc := 1065) p108 k108_1065 (v := (47 : Int32)) rfl ?_
  refine r_iconst (pc := 1067) p108 k108_1067 (v := (4 : Int32)) rfl ?_
  refine r_iastC (pc := 1068) p108 k108_1068 rfl rfl (by decide) ?_
  refine r_dup (pc := 1069) p108 k108_1069 rfl ?_
  refine r_bipush (pc := 1070) p108 k108_1070 (v := (48 : Int32)) rfl ?_
  refine r_iconst (pc := 1072) p108 k108_1072 (v := (5 : Int32)) rfl ?_
  refine r_iastC (pc := 1073) p108 k108_1073 rfl rfl (by decide) ?_
  refine r_dup (pc := 1074) p108 k108_1074 rfl ?_
  refine r_bipush (pc := 1075) p108 k108_1075 (v := (49 : Int32)) rfl ?_
  refine r_iconst (pc := 1077) p108 k108_1077 (v := (4 : Int32)) rfl ?_
  refine r_iastC (pc := 1078) p108 k108_1078 rfl rfl (by decide) ?_
  refine r_dup (pc := 1079) p108 k108_1079 rfl ?_
  refine r_bipush (pc := 1080) p108 k108_1080 (v := (50 : Int32)) rfl ?_
  refine r_iconst (pc := 1082) p108 k108_1082 (v := (5 : Int32)) rfl ?_
  refine r_iastC (pc := 1083) p108 k108_1083 rfl rfl (by decide) ?_
  refine r_hp (h2 := ab_hl 26 ci_17) rfl ?_
  refine r_putC (pc := 1084) p108 k108_1084 rfl rfl rfl rfl rfl rfl rfl ?_
  refine r_aload_n (pc := 1087) p108 k108_1087 (i := 22) h0 ?_
  refine r_ldcI (pc := 1088) p108 k108_1088 (v := (65536 : Int32)) rfl ?_
  refine r_newa (pc := 1090) p108 k108_1090 (by decide) ?_
  refine r_putC (pc := 1092) p108 k108_1092 rfl rfl rfl rfl rfl rfl rfl ?_
  refine r_aload_n (pc := 1095) p108 k108_1095 (i := 22) h0 ?_
  refine r_ldcI (pc := 1096) p108 k108_1096 (v := (65536 : Int32)) rfl ?_
  refine r_newa (pc := 1098) p108 k108_1098 (by decide) ?_
  refine r_putC (pc := 1100) p108 k108_1100 rfl rfl rfl rfl rfl rfl rfl ?_
  refine r_aload_n (pc := 1103) p108 k108_1103 (i := 22) h0 ?_
  refine r_ldcI (pc := 1104) p108 k108_1104 (v := (65536 : Int32)) rfl ?_
  refine r_newa (pc := 1106) p108 k108_1106 (by decide) ?_
  refine r_putC (pc := 1108) p108 k108_1108 rfl rfl rfl rfl rfl rfl rfl ?_
  refine r_aload_n (pc := 1111) p108 k108_1111 (i := 22) h0 ?_
  refine r_sipush (pc := 1112) p108 k108_1112 (v := (17500 : Int32)) rfl ?_
  refine r_newa (pc := 1115) p108 k108_1115 (by decide) ?_
  refine r_putC (pc := 1117) p108 k108_1117 rfl rfl rfl rfl rfl rfl rfl ?_
  refine r_aload_n (pc := 1120) p108 k108_1120 (i := 22) h0 ?_
  refine r_sipush (pc := 1121) p108 k108_1121 (v := (17500 : Int32)) rfl ?_
  refine r_newa (pc := 1124) p108 k108_1124 (by decide) ?_
  refine r_putC (pc := 1126) p108 k108_1126 rfl rfl rfl rfl rfl rfl rfl ?_
  refine r_aload_n (pc := 1129) p108 k108_1129 (i := 22) h0 ?_
  refine r_sipush (pc := 1130) p108 k108_1130 (v := (17500 : Int32)) rfl ?_
  refine r_newa (pc := 1133) p108 k108_1133 (by decide) ?_
  refine r_putC (pc := 1135) p108 k108_1135 rfl rfl rfl rfl rfl rfl rfl ?_
  refine r_aload_n (pc := 1138) p108 k108_1138 (i := 22) h0 ?_
  refine r_sipush (pc := 1139) p108 k108_1139 (v := (17500 : Int32)) rfl ?_
  refine r_newa (pc := 1142) p108 k108_1142 (by decide) ?_
  refine r_putC (pc := 1144) p108 k108_1144 rfl rfl rfl rfl rfl rfl rfl ?_
  refine r_aload_n (pc := 1147) p108 k108_1147 (i := 22) h0 ?_
  refine r_sipush (pc := 1148) p108 k108_1148 (v := (17500 : Int32)) rfl ?_
  refine r_newa (pc := 1151) p108 k108_1151 (by decide) ?_
  refine r_putC (pc := 1153) p108 k108_1153 rfl rfl rfl rfl rfl rfl rfl ?_
  refine r_aload_n (pc := 1156) p108 k108_1156 (i := 22) h0 ?_
  refine r_iconst (pc := 1157) p108 k108_1157 (v := (2 : Int32)) rfl ?_
  refine r_newa (pc := 1158) p108 k108_1158 (by decide) ?_
  refine r_putC (pc := 1160) p108 k108_1160 rfl rfl rfl rfl rfl rfl rfl ?_
  refine r_aload_n (pc := 1163) p108 k108_1163 (i := 22) h0 ?_
  refine r_ldcwI (pc := 1164) p108 k108_1164 (v := (130840 : Int32)) rfl ?_
  refine r_newa (pc := 1167) p108 k108_1167 (by decide) ?_
  refine r_putC (pc := 1169) p108 k108_1169 rfl rfl rfl rfl rfl rfl rfl ?_
  refine r_aload_n (pc := 1172) p108 k108_1172 (i := 22) h0 ?_
  refine r_sipush (pc := 1173) p108 k108_1173 (v := (160 : Int32)) rfl ?_
  refine r_newa (pc := 1176) p108 k108_1176 (by decide) ?_
  refine r_putC (pc := 1178) p108 k108_1178 rfl rfl rfl rfl rfl rfl rfl ?_
  refine r_aload_n (pc := 1181) p108 k108_1181 (i := 22) h0 ?_
  refine r_sipush (pc := 1182) p108 k108_1182 (v := (160 : Int32)) rfl ?_
  refine r_newa (pc := 1185) p108 k108_1185 (by decide) ?_
  refine r_putC (pc := 1187) p108 k108_1187 rfl rfl rfl rfl rfl rfl rfl ?_
  refine r_aload_n (pc := 1190) p108 k108_1190 (i := 22) h0 ?_
  refine r_sipush (pc := 1191) p108 k108_1191 (v := (160 : Int32)) rfl ?_
  refine r_newa (pc := 1194) p108 k108_1194 (by decide) ?_
  refine r_putC (pc := 1196) p108 k108_1196 rfl rfl rfl rfl rfl rfl rfl ?_
  refine r_aload_n (pc := 1199) p108 k108_1199 (i := 22) h0 ?_
  refine r_sipush (pc := 1200) p108 k108_1200 (v := (160 : Int32)) rfl ?_
  refine r_newa (pc := 1203) p108 k108_1203 (by decide) ?_
  refine r_putC (pc := 1205) p108 k108_1205 rfl rfl rfl rfl rfl rfl rfl ?_
  refine r_aload_n (pc := 1208) p108 k108_1208 (i := 22) h0 ?_
  refine r_sipush (pc := 1209) p108 k108_1209 (v := (160 : Int32)) rfl ?_
  refine r_newa (pc := 1212) p108 k108_1212 (by decide) ?_
  refine r_putC (pc := 1214) p108 k108_1214 rfl rfl rfl rfl rfl rfl rfl ?_
  exact r_retV9 (pc := 1217) p108 k108_1217 rfl rfl
theorem ci_t23_eq : ci_t23 = mm_reg := by
  have h1 : ∀ i, i < 33 → ci_t23 i = mm_reg i := by decide +kernel
  funext i
  by_cases h : i < 33
  · exact h1 i h
  · have h2 : ci_t23 i = 0 := by
      unfold ci_t23
      simp only [vp_updL]
      repeat' rw [if_neg (by omega)]
    have h3 : mm_reg i = 0 := by
      unfold mm_reg
      exact getD_out (by show 33 ≤ i; omega)
    rw [h2, h3]
theorem ci_t24_eq : ci_t24 = mm_stm := by
  have h1 : ∀ i, i < 83 → ci_t24 i = mm_stm i := by decide +kernel
  funext i
  by_cases h : i < 83
  · exact h1 i h
  · have h2 : ci_t24 i = 0 := by
      unfold ci_t24
      simp only [vp_updL]
      repeat' rw [if_neg (by omega)]
    have h3 : mm_stm i = 0 := by
      unfold mm_stm
      exact getD_out (by show 83 ≤ i; omega)
    rw [h2, h3]
theorem ci_t25_eq : ci_t25 = mm_prt := by
  have h1 : ∀ i, i < 51 → ci_t25 i = mm_prt i := by decide +kernel
  funext i
  by_cases h : i < 51
  · exact h1 i h
  · have h2 : ci_t25 i = 0 := by
      unfold ci_t25
      simp only [upd]
      repeat' rw [if_neg (by omega)]
    have h3 : mm_prt i = 0 := by
      unfold mm_prt
      exact getD_out (by show 51 ≤ i; omega)
    rw [h2, h3]
def c0_A (i : Nat) : Nat × Nat × (Nat → Int32) := match i with
  | 1 => (0, 256, fun _ => 0)
  | 3 => (0, 0, fun _ => 0)
  | 4 => (1, 256, fun _ => 0)
  | 5 => (1, 16, fun _ => 0)
  | 6 => (1, 16, fun _ => 0)
  | 7 => (1, 16, fun _ => 0)
  | 8 => (1, 16, fun _ => 0)
  | 9 => (1, 16, fun _ => 0)
  | 10 => (1, 16, fun _ => 0)
  | 12 => (0, 0, fun _ => 0)
  | 13 => (1, 32, fun _ => 0)
  | 14 => (1, 32, fun _ => 0)
  | 15 => (1, 32, fun _ => 0)
  | 19 => (0, 0, fun _ => 0)
  | 21 => (0, 0, fun _ => 0)
  | _ => (9, 0, fun _ => 0)
def c0_R (i k : Nat) : Nat := match i, k with
  | 0, 0 => 1
  | 0, 2 => 11
  | 0, 3 => 16
  | 2, 1 => 3
  | 2, 2 => 4
  | 2, 3 => 5
  | 2, 4 => 6
  | 2, 5 => 7
  | 2, 6 => 8
  | 2, 7 => 9
  | 2, 8 => 10
  | 11, 7 => 12
  | 11, 11 => 13
  | 11, 12 => 14
  | 11, 13 => 15
  | 16, 0 => 18
  | 16, 1 => 20
  | 16, 2 => 11
  | 16, 3 => 2
  | 16, 4 => 17
  | 17, 4 => 11
  | 17, 5 => 2
  | 18, 4 => 19
  | 20, 4 => 21
  | _, _ => 0
def c0 : cS := (fun _ _ => 0, c0_R, c0_A, 0)
def m0 : mS := (fun _ => 0, fun _ _ => 0)
def zo (w : Nat → Int64) : Nat → ab_C := fun i => bif i == 41 then .inl (2, 1, .inr (.inl w)) else .inr (7, [])
theorem ci_world (w : Nat → Int64) : ab_hl 42 (ab_fu ci_18 41 (.inl (2, 1, .inr (.inl w)))) = ch c0 (mm_F m0 (zo w)) := by
  unfold ch ab_hl
  apply List.map_congr_left
  intro i hi
  have hi : i < 42 := List.mem_range.mp hi
  have hi : i = 0 ∨ i = 1 ∨ i = 2 ∨ i = 3 ∨ i = 4 ∨ i = 5 ∨ i = 6 ∨ i = 7 ∨ i = 8 ∨ i = 9 ∨ i = 10 ∨ i = 11 ∨ i = 12 ∨ i = 13 ∨ i = 14 ∨ i = 15 ∨ i = 16 ∨ i = 17 ∨ i = 18 ∨ i = 19 ∨ i = 20 ∨ i = 21 ∨ i = 22 ∨ i = 23 ∨ i = 24 ∨ i = 25 ∨ i = 26 ∨ i = 27 ∨ i = 28 ∨ i = 29 ∨ i = 30 ∨ i = 31 ∨ i = 32 ∨ i = 33 ∨ i = 34 ∨ i = 35 ∨ i = 36 ∨ i = 37 ∨ i = 38 ∨ i = 39 ∨ i = 40 ∨ i = 41 := by omega
  rcases hi with rfl | rfl | rfl | rfl | rfl | rfl | rfl | rfl | rfl | rfl | rfl | rfl | rfl | rfl | rfl | rfl | rfl | rfl | rfl | rfl | rfl | rfl | rfl | rfl | rfl | rfl | rfl | rfl | rfl | rfl | rfl | rfl | rfl | rfl | rfl | rfl | rfl | rfl | rfl | rfl | rfl | rfl
  · rfl
  · rfl
  · rfl
  · rfl
  · rfl
  · rfl
  · rfl
  · rfl
  · rfl
  · rfl
  · rfl
  · rfl
  · rfl
  · rfl
  · rfl
  · rfl
  · rfl
  · rfl
  · rfl
  · rfl
  · rfl
  · rfl
  · rfl
  · show ((.inl (2, 33, .inr (.inl ci_t23)) : ab_C)) = _
    rw [ci_t23_eq]
    rfl
  · show ((.inl (2, 83, .inr (.inl ci_t24)) : ab_C)) = _
    rw [ci_t24_eq]
    rfl
  · show ((.inl (1, 51, .inl ci_t25) : ab_C)) = _
    rw [ci_t25_eq]
    rfl
  · rfl
  · rfl
  · rfl
  · rfl
  · rfl
  · rfl
  · rfl
  · rfl
  · rfl
  · rfl
  · rfl
  · rfl
  · rfl
  · rfl
  · rfl
  · rfl
