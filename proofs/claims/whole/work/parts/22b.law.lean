/-! THE LAW's WALK. -/
theorem kL_0 : ab_fetch ab_lc 0 = some (.new 8, 3, 5, 0) := rfl
theorem kL_3 : ab_fetch ab_lc 3 = some (.dup, 1, 0, 0) := rfl
theorem kL_4 : ab_fetch ab_lc 4 = some (.invokespecial 15, 3, 0, 0) := rfl
theorem kL_7 : ab_fetch ab_lc 7 = some (.astore_n 1, 1, 0, 0) := rfl
theorem kL_8 : ab_fetch ab_lc 8 = some (.new 16, 3, 6, 0) := rfl
theorem kL_11 : ab_fetch ab_lc 11 = some (.dup, 1, 0, 0) := rfl
theorem kL_12 : ab_fetch ab_lc 12 = some (.invokespecial 18, 3, 108, 0) := rfl
theorem kL_15 : ab_fetch ab_lc 15 = some (.astore_n 2, 1, 0, 0) := rfl
theorem kL_16 : ab_fetch ab_lc 16 = some (.iconst 1, 1, 0, 0) := rfl
theorem kL_17 : ab_fetch ab_lc 17 = some (.newarray .long, 2, 0, 0) := rfl
theorem kL_19 : ab_fetch ab_lc 19 = some (.astore_n 3, 1, 0, 0) := rfl
theorem kL_20 : ab_fetch ab_lc 20 = some (.iconst 0, 1, 0, 0) := rfl
theorem kL_21 : ab_fetch ab_lc 21 = some (.istore 4, 2, 0, 0) := rfl
theorem kL_23 : ab_fetch ab_lc 23 = some (.iload 4, 2, 0, 0) := rfl
theorem kL_25 : ab_fetch ab_lc 25 = some (.aload_n 0, 1, 0, 0) := rfl
theorem kL_26 : ab_fetch ab_lc 26 = some (.arraylength, 1, 0, 0) := rfl
theorem kL_27 : ab_fetch ab_lc 27 = some (.bipush 6, 2, 0, 0) := rfl
theorem kL_29 : ab_fetch ab_lc 29 = some (.isub, 1, 0, 0) := rfl
theorem kL_30 : ab_fetch ab_lc 30 = some (.if_icmp .gt 290, 3, 320, 0) := rfl
theorem kL_33 : ab_fetch ab_lc 33 = some (.aload_n 0, 1, 0, 0) := rfl
theorem kL_34 : ab_fetch ab_lc 34 = some (.iload 4, 2, 0, 0) := rfl
theorem kL_36 : ab_fetch ab_lc 36 = some (.iaload, 1, 0, 0) := rfl
theorem kL_37 : ab_fetch ab_lc 37 = some (.bipush 7, 2, 0, 0) := rfl
theorem kL_39 : ab_fetch ab_lc 39 = some (.iand, 1, 0, 0) := rfl
theorem kL_40 : ab_fetch ab_lc 40 = some (.tableswitch 274 0 6 #[44, 117, 142, 155, 199, 224, 249], 44, 0, 0) := rfl
theorem kL_84 : ab_fetch ab_lc 84 = some (.aload_n 1, 1, 0, 0) := rfl
theorem kL_85 : ab_fetch ab_lc 85 = some (.aload_n 0, 1, 0, 0) := rfl
theorem kL_86 : ab_fetch ab_lc 86 = some (.iload 4, 2, 0, 0) := rfl
theorem kL_88 : ab_fetch ab_lc 88 = some (.iconst 1, 1, 0, 0) := rfl
theorem kL_89 : ab_fetch ab_lc 89 = some (.iadd, 1, 0, 0) := rfl
theorem kL_90 : ab_fetch ab_lc 90 = some (.iaload, 1, 0, 0) := rfl
theorem kL_91 : ab_fetch ab_lc 91 = some (.aload_n 0, 1, 0, 0) := rfl
theorem kL_92 : ab_fetch ab_lc 92 = some (.iload 4, 2, 0, 0) := rfl
theorem kL_94 : ab_fetch ab_lc 94 = some (.iconst 2, 1, 0, 0) := rfl
theorem kL_95 : ab_fetch ab_lc 95 = some (.iadd, 1, 0, 0) := rfl
theorem kL_96 : ab_fetch ab_lc 96 = some (.iaload, 1, 0, 0) := rfl
theorem kL_97 : ab_fetch ab_lc 97 = some (.aload_n 0, 1, 0, 0) := rfl
theorem kL_98 : ab_fetch ab_lc 98 = some (.iload 4, 2, 0, 0) := rfl
theorem kL_100 : ab_fetch ab_lc 100 = some (.iconst 3, 1, 0, 0) := rfl
theorem kL_101 : ab_fetch ab_lc 101 = some (.iadd, 1, 0, 0) := rfl
theorem kL_102 : ab_fetch ab_lc 102 = some (.iaload, 1, 0, 0) := rfl
theorem kL_103 : ab_fetch ab_lc 103 = some (.aload_n 0, 1, 0, 0) := rfl
theorem kL_104 : ab_fetch ab_lc 104 = some (.iload 4, 2, 0, 0) := rfl
theorem kL_106 : ab_fetch ab_lc 106 = some (.iconst 4, 1, 0, 0) := rfl
theorem kL_107 : ab_fetch ab_lc 107 = some (.iadd, 1, 0, 0) := rfl
theorem kL_108 : ab_fetch ab_lc 108 = some (.iaload, 1, 0, 0) := rfl
theorem kL_109 : ab_fetch ab_lc 109 = some (.aload_n 0, 1, 0, 0) := rfl
theorem kL_110 : ab_fetch ab_lc 110 = some (.iload 4, 2, 0, 0) := rfl
theorem kL_112 : ab_fetch ab_lc 112 = some (.iconst 5, 1, 0, 0) := rfl
theorem kL_113 : ab_fetch ab_lc 113 = some (.iadd, 1, 0, 0) := rfl
theorem kL_114 : ab_fetch ab_lc 114 = some (.iaload, 1, 0, 0) := rfl
theorem kL_115 : ab_fetch ab_lc 115 = some (.invokevirtual 19, 3, 6, 0) := rfl
theorem kL_118 : ab_fetch ab_lc 118 = some (.aload_n 2, 1, 0, 0) := rfl
theorem kL_119 : ab_fetch ab_lc 119 = some (.aload_n 0, 1, 0, 0) := rfl
theorem kL_120 : ab_fetch ab_lc 120 = some (.iload 4, 2, 0, 0) := rfl
theorem kL_122 : ab_fetch ab_lc 122 = some (.iconst 1, 1, 0, 0) := rfl
theorem kL_123 : ab_fetch ab_lc 123 = some (.iadd, 1, 0, 0) := rfl
theorem kL_124 : ab_fetch ab_lc 124 = some (.iaload, 1, 0, 0) := rfl
theorem kL_125 : ab_fetch ab_lc 125 = some (.aload_n 0, 1, 0, 0) := rfl
theorem kL_126 : ab_fetch ab_lc 126 = some (.iload 4, 2, 0, 0) := rfl
theorem kL_128 : ab_fetch ab_lc 128 = some (.iconst 2, 1, 0, 0) := rfl
theorem kL_129 : ab_fetch ab_lc 129 = some (.iadd, 1, 0, 0) := rfl
theorem kL_130 : ab_fetch ab_lc 130 = some (.iaload, 1, 0, 0) := rfl
theorem kL_131 : ab_fetch ab_lc 131 = some (.aload_n 0, 1, 0, 0) := rfl
theorem kL_132 : ab_fetch ab_lc 132 = some (.iload 4, 2, 0, 0) := rfl
theorem kL_134 : ab_fetch ab_lc 134 = some (.iconst 3, 1, 0, 0) := rfl
theorem kL_135 : ab_fetch ab_lc 135 = some (.iadd, 1, 0, 0) := rfl
theorem kL_136 : ab_fetch ab_lc 136 = some (.iaload, 1, 0, 0) := rfl
theorem kL_137 : ab_fetch ab_lc 137 = some (.aload_n 0, 1, 0, 0) := rfl
theorem kL_138 : ab_fetch ab_lc 138 = some (.iload 4, 2, 0, 0) := rfl
theorem kL_140 : ab_fetch ab_lc 140 = some (.iconst 4, 1, 0, 0) := rfl
theorem kL_141 : ab_fetch ab_lc 141 = some (.iadd, 1, 0, 0) := rfl
theorem kL_142 : ab_fetch ab_lc 142 = some (.iaload, 1, 0, 0) := rfl
theorem kL_143 : ab_fetch ab_lc 143 = some (.aload_n 0, 1, 0, 0) := rfl
theorem kL_144 : ab_fetch ab_lc 144 = some (.iload 4, 2, 0, 0) := rfl
theorem kL_146 : ab_fetch ab_lc 146 = some (.iconst 5, 1, 0, 0) := rfl
theorem kL_147 : ab_fetch ab_lc 147 = some (.iadd, 1, 0, 0) := rfl
theorem kL_148 : ab_fetch ab_lc 148 = some (.iaload, 1, 0, 0) := rfl
theorem kL_149 : ab_fetch ab_lc 149 = some (.invokevirtual 23, 3, 110, 0) := rfl
theorem kL_152 : ab_fetch ab_lc 152 = some (.if_icmp .eq 162, 3, 314, 0) := rfl
theorem kL_155 : ab_fetch ab_lc 155 = some (.iconst 0, 1, 0, 0) := rfl
theorem kL_156 : ab_fetch ab_lc 156 = some (.ireturn, 1, 0, 0) := rfl
theorem kL_157 : ab_fetch ab_lc 157 = some (.aload_n 1, 1, 0, 0) := rfl
theorem kL_158 : ab_fetch ab_lc 158 = some (.aload_n 0, 1, 0, 0) := rfl
theorem kL_159 : ab_fetch ab_lc 159 = some (.iload 4, 2, 0, 0) := rfl
theorem kL_161 : ab_fetch ab_lc 161 = some (.iconst 1, 1, 0, 0) := rfl
theorem kL_162 : ab_fetch ab_lc 162 = some (.iadd, 1, 0, 0) := rfl
theorem kL_163 : ab_fetch ab_lc 163 = some (.iaload, 1, 0, 0) := rfl
theorem kL_164 : ab_fetch ab_lc 164 = some (.invokevirtual 24, 3, 9, 0) := rfl
theorem kL_167 : ab_fetch ab_lc 167 = some (.aload_n 2, 1, 0, 0) := rfl
theorem kL_168 : ab_fetch ab_lc 168 = some (.aload_n 0, 1, 0, 0) := rfl
theorem kL_169 : ab_fetch ab_lc 169 = some (.iload 4, 2, 0, 0) := rfl
theorem kL_171 : ab_fetch ab_lc 171 = some (.iconst 1, 1, 0, 0) := rfl
theorem kL_172 : ab_fetch ab_lc 172 = some (.iadd, 1, 0, 0) := rfl
theorem kL_173 : ab_fetch ab_lc 173 = some (.iaload, 1, 0, 0) := rfl
theorem kL_174 : ab_fetch ab_lc 174 = some (.invokevirtual 28, 3, 111, 0) := rfl
theorem kL_177 : ab_fetch ab_lc 177 = some (.if_icmp .eq 137, 3, 314, 0) := rfl
theorem kL_180 : ab_fetch ab_lc 180 = some (.iconst 0, 1, 0, 0) := rfl
theorem kL_181 : ab_fetch ab_lc 181 = some (.ireturn, 1, 0, 0) := rfl
theorem kL_182 : ab_fetch ab_lc 182 = some (.aload_n 1, 1, 0, 0) := rfl
theorem kL_183 : ab_fetch ab_lc 183 = some (.invokevirtual 29, 3, 10, 0) := rfl
theorem kL_186 : ab_fetch ab_lc 186 = some (.aload_n 2, 1, 0, 0) := rfl
theorem kL_187 : ab_fetch ab_lc 187 = some (.invokevirtual 32, 3, 112, 0) := rfl
theorem kL_190 : ab_fetch ab_lc 190 = some (.if_icmp .eq 124, 3, 314, 0) := rfl
theorem kL_193 : ab_fetch ab_lc 193 = some (.iconst 0, 1, 0, 0) := rfl
theorem kL_194 : ab_fetch ab_lc 194 = some (.ireturn, 1, 0, 0) := rfl
theorem kL_195 : ab_fetch ab_lc 195 = some (.aload_n 1, 1, 0, 0) := rfl
theorem kL_196 : ab_fetch ab_lc 196 = some (.aload_n 3, 1, 0, 0) := rfl
theorem kL_197 : ab_fetch ab_lc 197 = some (.invokestatic 33, 3, 0, 0) := rfl
theorem kL_200 : ab_fetch ab_lc 200 = some (.istore 5, 2, 0, 0) := rfl
theorem kL_202 : ab_fetch ab_lc 202 = some (.aload_n 2, 1, 0, 0) := rfl
theorem kL_203 : ab_fetch ab_lc 203 = some (.invokevirtual 38, 3, 113, 0) := rfl
theorem kL_206 : ab_fetch ab_lc 206 = some (.istore 6, 2, 0, 0) := rfl
theorem kL_208 : ab_fetch ab_lc 208 = some (.aload_n 2, 1, 0, 0) := rfl
theorem kL_209 : ab_fetch ab_lc 209 = some (.invokevirtual 39, 3, 109, 0) := rfl
theorem kL_212 : ab_fetch ab_lc 212 = some (.iload 5, 2, 0, 0) := rfl
theorem kL_214 : ab_fetch ab_lc 214 = some (.if_icmp .eq 5, 3, 219, 0) := rfl
theorem kL_217 : ab_fetch ab_lc 217 = some (.iconst 0, 1, 0, 0) := rfl
theorem kL_218 : ab_fetch ab_lc 218 = some (.ireturn, 1, 0, 0) := rfl
theorem kL_219 : ab_fetch ab_lc 219 = some (.iload 5, 2, 0, 0) := rfl
theorem kL_221 : ab_fetch ab_lc 221 = some (.ifCond .ne 15, 3, 236, 0) := rfl
theorem kL_224 : ab_fetch ab_lc 224 = some (.aload_n 3, 1, 0, 0) := rfl
theorem kL_225 : ab_fetch ab_lc 225 = some (.iconst 0, 1, 0, 0) := rfl
theorem kL_226 : ab_fetch ab_lc 226 = some (.laload, 1, 0, 0) := rfl
theorem kL_227 : ab_fetch ab_lc 227 = some (.iload 6, 2, 0, 0) := rfl
theorem kL_229 : ab_fetch ab_lc 229 = some (.i2l, 1, 0, 0) := rfl
theorem kL_230 : ab_fetch ab_lc 230 = some (.lcmp, 1, 0, 0) := rfl
theorem kL_231 : ab_fetch ab_lc 231 = some (.ifCond .eq 5, 3, 236, 0) := rfl
theorem kL_234 : ab_fetch ab_lc 234 = some (.iconst 0, 1, 0, 0) := rfl
theorem kL_235 : ab_fetch ab_lc 235 = some (.ireturn, 1, 0, 0) := rfl
theorem kL_236 : ab_fetch ab_lc 236 = some (.goto 78, 3, 314, 0) := rfl
theorem kL_239 : ab_fetch ab_lc 239 = some (.aload_n 1, 1, 0, 0) := rfl
theorem kL_240 : ab_fetch ab_lc 240 = some (.aload_n 0, 1, 0, 0) := rfl
theorem kL_241 : ab_fetch ab_lc 241 = some (.iload 4, 2, 0, 0) := rfl
theorem kL_243 : ab_fetch ab_lc 243 = some (.iconst 1, 1, 0, 0) := rfl
theorem kL_244 : ab_fetch ab_lc 244 = some (.iadd, 1, 0, 0) := rfl
theorem kL_245 : ab_fetch ab_lc 245 = some (.iaload, 1, 0, 0) := rfl
theorem kL_246 : ab_fetch ab_lc 246 = some (.invokevirtual 42, 3, 11, 0) := rfl
theorem kL_249 : ab_fetch ab_lc 249 = some (.aload_n 2, 1, 0, 0) := rfl
theorem kL_250 : ab_fetch ab_lc 250 = some (.aload_n 0, 1, 0, 0) := rfl
theorem kL_251 : ab_fetch ab_lc 251 = some (.iload 4, 2, 0, 0) := rfl
theorem kL_253 : ab_fetch ab_lc 253 = some (.iconst 1, 1, 0, 0) := rfl
theorem kL_254 : ab_fetch ab_lc 254 = some (.iadd, 1, 0, 0) := rfl
theorem kL_255 : ab_fetch ab_lc 255 = some (.iaload, 1, 0, 0) := rfl
theorem kL_256 : ab_fetch ab_lc 256 = some (.invokevirtual 46, 3, 174, 0) := rfl
theorem kL_259 : ab_fetch ab_lc 259 = some (.if_icmp .eq 55, 3, 314, 0) := rfl
theorem kL_262 : ab_fetch ab_lc 262 = some (.iconst 0, 1, 0, 0) := rfl
theorem kL_263 : ab_fetch ab_lc 263 = some (.ireturn, 1, 0, 0) := rfl
theorem kL_264 : ab_fetch ab_lc 264 = some (.aload_n 1, 1, 0, 0) := rfl
theorem kL_265 : ab_fetch ab_lc 265 = some (.aload_n 0, 1, 0, 0) := rfl
theorem kL_266 : ab_fetch ab_lc 266 = some (.iload 4, 2, 0, 0) := rfl
theorem kL_268 : ab_fetch ab_lc 268 = some (.iconst 1, 1, 0, 0) := rfl
theorem kL_269 : ab_fetch ab_lc 269 = some (.iadd, 1, 0, 0) := rfl
theorem kL_270 : ab_fetch ab_lc 270 = some (.iaload, 1, 0, 0) := rfl
theorem kL_271 : ab_fetch ab_lc 271 = some (.invokevirtual 47, 3, 12, 0) := rfl
theorem kL_274 : ab_fetch ab_lc 274 = some (.aload_n 2, 1, 0, 0) := rfl
theorem kL_275 : ab_fetch ab_lc 275 = some (.aload_n 0, 1, 0, 0) := rfl
theorem kL_276 : ab_fetch ab_lc 276 = some (.iload 4, 2, 0, 0) := rfl
theorem kL_278 : ab_fetch ab_lc 278 = some (.iconst 1, 1, 0, 0) := rfl
theorem kL_279 : ab_fetch ab_lc 279 = some (.iadd, 1, 0, 0) := rfl
theorem kL_280 : ab_fetch ab_lc 280 = some (.iaload, 1, 0, 0) := rfl
theorem kL_281 : ab_fetch ab_lc 281 = some (.invokevirtual 50, 3, 175, 0) := rfl
theorem kL_284 : ab_fetch ab_lc 284 = some (.if_icmp .eq 30, 3, 314, 0) := rfl
theorem kL_287 : ab_fetch ab_lc 287 = some (.iconst 0, 1, 0, 0) := rfl
theorem kL_288 : ab_fetch ab_lc 288 = some (.ireturn, 1, 0, 0) := rfl
theorem kL_289 : ab_fetch ab_lc 289 = some (.aload_n 1, 1, 0, 0) := rfl
theorem kL_290 : ab_fetch ab_lc 290 = some (.aload_n 0, 1, 0, 0) := rfl
theorem kL_291 : ab_fetch ab_lc 291 = some (.iload 4, 2, 0, 0) := rfl
theorem kL_293 : ab_fetch ab_lc 293 = some (.iconst 1, 1, 0, 0) := rfl
theorem kL_294 : ab_fetch ab_lc 294 = some (.iadd, 1, 0, 0) := rfl
theorem kL_295 : ab_fetch ab_lc 295 = some (.iaload, 1, 0, 0) := rfl
theorem kL_296 : ab_fetch ab_lc 296 = some (.invokevirtual 51, 3, 14, 0) := rfl
theorem kL_299 : ab_fetch ab_lc 299 = some (.aload_n 2, 1, 0, 0) := rfl
theorem kL_300 : ab_fetch ab_lc 300 = some (.aload_n 0, 1, 0, 0) := rfl
theorem kL_301 : ab_fetch ab_lc 301 = some (.iload 4, 2, 0, 0) := rfl
theorem kL_303 : ab_fetch ab_lc 303 = some (.iconst 1, 1, 0, 0) := rfl
theorem kL_304 : ab_fetch ab_lc 304 = some (.iadd, 1, 0, 0) := rfl
theorem kL_305 : ab_fetch ab_lc 305 = some (.iaload, 1, 0, 0) := rfl
theorem kL_306 : ab_fetch ab_lc 306 = some (.invokevirtual 54, 3, 176, 0) := rfl
theorem kL_309 : ab_fetch ab_lc 309 = some (.if_icmp .eq 5, 3, 314, 0) := rfl
theorem kL_312 : ab_fetch ab_lc 312 = some (.iconst 0, 1, 0, 0) := rfl
theorem kL_313 : ab_fetch ab_lc 313 = some (.ireturn, 1, 0, 0) := rfl
theorem kL_314 : ab_fetch ab_lc 314 = some (.iinc 4 6, 3, 0, 0) := rfl
theorem kL_317 : ab_fetch ab_lc 317 = some (.goto (-294), 3, 23, 0) := rfl
theorem kL_320 : ab_fetch ab_lc 320 = some (.iconst 1, 1, 0, 0) := rfl
theorem kL_321 : ab_fetch ab_lc 321 = some (.ireturn, 1, 0, 0) := rfl
theorem lw_feed {xs : Nat → Int32} {L d : Nat} {c : cS} {m : mS} {w : Nat → Int64} {l : ab_L} {i : Int32} {v : Int32} {h' : ab_H} (h0 : ab_get l 0 = some (.retAddr 600)) (h1 : ab_get l 1 = some (.ref 0)) (h2 : ab_get l 2 = some (.ref 22)) (h3 : ab_get l 3 = some (.ref 41)) (h4 : ab_get l 4 = some (.int i)) (b0 : ib i L) (b1 : ib (i + (1 : Int32)) L) (b2 : ib (i + (2 : Int32)) L) (b3 : ib (i + (3 : Int32)) L) (b4 : ib (i + (4 : Int32)) L) (b5 : ib (i + (5 : Int32)) L) {c2 : cS} {m2 : mS} {q : Int32} (e1 : f6 c (xs (i + (1 : Int32)).toNatClampNeg) (xs (i + (2 : Int32)).toNatClampNeg) (xs (i + (3 : Int32)).toNatClampNeg) (xs (i + (4 : Int32)).toNatClampNeg) (xs (i + (5 : Int32)).toNatClampNeg) = some (q, c2)) (e2 : f110 m (xs (i + (1 : Int32)).toNatClampNeg) (xs (i + (2 : Int32)).toNatClampNeg) (xs (i + (3 : Int32)).toNatClampNeg) (xs (i + (4 : Int32)).toNatClampNeg) (xs (i + (5 : Int32)).toNatClampNeg) = some (q, m2)) (K : ∀ l2 : ab_L, ab_get l2 0 = some (.retAddr 600) → ab_get l2 1 = some (.ref 0) → ab_get l2 2 = some (.ref 22) → ab_get l2 3 = some (.ref 41) → ab_get l2 4 = some (.int i) → ab_Rl xs L (d + 1) 314 l2 [] (wd c2 m2 w) v h') : ab_Rl xs L (d + 1) 84 l [] (wd c m w) v h' := by
  refine l_ld (k := 1) (w := .ref 0) (pc := 84) kL_84 rfl h1 (ld_a (k4 := 1) rfl) (p' := 85) rfl ?_
  refine l_ld (k := 0) (w := .retAddr 600) (pc := 85) kL_85 rfl h0 (ld_a (k4 := 0) rfl) (p' := 86) rfl ?_
  refine l_ld (k := 4) (w := .int i) (pc := 86) kL_86 rfl h4 (ld_i) (p' := 88) rfl ?_
  refine l_op (pc := 88) kL_88 (st' := [.int (1 : Int32), .int i, .retAddr 600, .ref 0]) rfl (p' := 89) rfl ?_
  refine l_op (pc := 89) kL_89 (st' := [.int (i + (1 : Int32)), .retAddr 600, .ref 0]) rfl (p' := 90) rfl ?_
  refine l_cell (pc := 90) kL_90 b1 ?_
  refine l_ld (k := 0) (w := .retAddr 600) (pc := 91) kL_91 rfl h0 (ld_a (k4 := 0) rfl) (p' := 92) rfl ?_
  refine l_ld (k := 4) (w := .int i) (pc := 92) kL_92 rfl h4 (ld_i) (p' := 94) rfl ?_
  refine l_op (pc := 94) kL_94 (st' := [.int (2 : Int32), .int i, .retAddr 600, .int (xs (i + (1 : Int32)).toNatClampNeg), .ref 0]) rfl (p' := 95) rfl ?_
  refine l_op (pc := 95) kL_95 (st' := [.int (i + (2 : Int32)), .retAddr 600, .int (xs (i + (1 : Int32)).toNatClampNeg), .ref 0]) rfl (p' := 96) rfl ?_
  refine l_cell (pc := 96) kL_96 b2 ?_
  refine l_ld (k := 0) (w := .retAddr 600) (pc := 97) kL_97 rfl h0 (ld_a (k4 := 0) rfl) (p' := 98) rfl ?_
  refine l_ld (k := 4) (w := .int i) (pc := 98) kL_98 rfl h4 (ld_i) (p' := 100) rfl ?_
  refine l_op (pc := 100) kL_100 (st' := [.int (3 : Int32), .int i, .retAddr 600, .int (xs (i + (2 : Int32)).toNatClampNeg), .int (xs (i + (1 : Int32)).toNatClampNeg), .ref 0]) rfl (p' := 101) rfl ?_
  refine l_op (pc := 101) kL_101 (st' := [.int (i + (3 : Int32)), .retAddr 600, .int (xs (i + (2 : Int32)).toNatClampNeg), .int (xs (i + (1 : Int32)).toNatClampNeg), .ref 0]) rfl (p' := 102) rfl ?_
  refine l_cell (pc := 102) kL_102 b3 ?_
  refine l_ld (k := 0) (w := .retAddr 600) (pc := 103) kL_103 rfl h0 (ld_a (k4 := 0) rfl) (p' := 104) rfl ?_
  refine l_ld (k := 4) (w := .int i) (pc := 104) kL_104 rfl h4 (ld_i) (p' := 106) rfl ?_
  refine l_op (pc := 106) kL_106 (st' := [.int (4 : Int32), .int i, .retAddr 600, .int (xs (i + (3 : Int32)).toNatClampNeg), .int (xs (i + (2 : Int32)).toNatClampNeg), .int (xs (i + (1 : Int32)).toNatClampNeg), .ref 0]) rfl (p' := 107) rfl ?_
  refine l_op (pc := 107) kL_107 (st' := [.int (i + (4 : Int32)), .retAddr 600, .int (xs (i + (3 : Int32)).toNatClampNeg), .int (xs (i + (2 : Int32)).toNatClampNeg), .int (xs (i + (1 : Int32)).toNatClampNeg), .ref 0]) rfl (p' := 108) rfl ?_
  refine l_cell (pc := 108) kL_108 b4 ?_
  refine l_ld (k := 0) (w := .retAddr 600) (pc := 109) kL_109 rfl h0 (ld_a (k4 := 0) rfl) (p' := 110) rfl ?_
  refine l_ld (k := 4) (w := .int i) (pc := 110) kL_110 rfl h4 (ld_i) (p' := 112) rfl ?_
  refine l_op (pc := 112) kL_112 (st' := [.int (5 : Int32), .int i, .retAddr 600, .int (xs (i + (4 : Int32)).toNatClampNeg), .int (xs (i + (3 : Int32)).toNatClampNeg), .int (xs (i + (2 : Int32)).toNatClampNeg), .int (xs (i + (1 : Int32)).toNatClampNeg), .ref 0]) rfl (p' := 113) rfl ?_
  refine l_op (pc := 113) kL_113 (st' := [.int (i + (5 : Int32)), .retAddr 600, .int (xs (i + (4 : Int32)).toNatClampNeg), .int (xs (i + (3 : Int32)).toNatClampNeg), .int (xs (i + (2 : Int32)).toNatClampNeg), .int (xs (i + (1 : Int32)).toNatClampNeg), .ref 0]) rfl (p' := 114) rfl ?_
  refine l_cell (pc := 114) kL_114 b5 ?_
  refine l_cv (pc := 115) kL_115 p6 (r := []) rfl rfl rfl (by omega) (n := 42 + c.2.2.2) (F := cc_F c (mm_F m (zo w))) (j := 0) rfl rfl rfl (t6 c (xs (i + (1 : Int32)).toNatClampNeg) (xs (i + (2 : Int32)).toNatClampNeg) (xs (i + (3 : Int32)).toNatClampNeg) (xs (i + (4 : Int32)).toNatClampNeg) (xs (i + (5 : Int32)).toNatClampNeg) (q, c2) e1) (w2 := [.int q]) rfl ?_
  refine l_hp (show ch c2 (mm_F m (zo w)) = wd c2 m w from rfl) ?_
  refine l_ld (k := 2) (w := .ref 22) (pc := 118) kL_118 rfl h2 (ld_a (k4 := 2) rfl) (p' := 119) rfl ?_
  refine l_ld (k := 0) (w := .retAddr 600) (pc := 119) kL_119 rfl h0 (ld_a (k4 := 0) rfl) (p' := 120) rfl ?_
  refine l_ld (k := 4) (w := .int i) (pc := 120) kL_120 rfl h4 (ld_i) (p' := 122) rfl ?_
  refine l_op (pc := 122) kL_122 (st' := [.int (1 : Int32), .int i, .retAddr 600, .ref 22, .int q]) rfl (p' := 123) rfl ?_
  refine l_op (pc := 123) kL_123 (st' := [.int (i + (1 : Int32)), .retAddr 600, .ref 22, .int q]) rfl (p' := 124) rfl ?_
  refine l_cell (pc := 124) kL_124 b1 ?_
  refine l_ld (k := 0) (w := .retAddr 600) (pc := 125) kL_125 rfl h0 (ld_a (k4 := 0) rfl) (p' := 126) rfl ?_
  refine l_ld (k := 4) (w := .int i) (pc := 126) kL_126 rfl h4 (ld_i) (p' := 128) rfl ?_
  refine l_op (pc := 128) kL_128 (st' := [.int (2 : Int32), .int i, .retAddr 600, .int (xs (i + (1 : Int32)).toNatClampNeg), .ref 22, .int q]) rfl (p' := 129) rfl ?_
  refine l_op (pc := 129) kL_129 (st' := [.int (i + (2 : Int32)), .retAddr 600, .int (xs (i + (1 : Int32)).toNatClampNeg), .ref 22, .int q]) rfl (p' := 130) rfl ?_
  refine l_cell (pc := 130) kL_130 b2 ?_
  refine l_ld (k := 0) (w := .retAddr 600) (pc := 131) kL_131 rfl h0 (ld_a (k4 := 0) rfl) (p' := 132) rfl ?_
  refine l_ld (k := 4) (w := .int i) (pc := 132) kL_132 rfl h4 (ld_i) (p' := 134) rfl ?_
  refine l_op (pc := 134) kL_134 (st' := [.int (3 : Int32), .int i, .retAddr 600, .int (xs (i + (2 : Int32)).toNatClampNeg), .int (xs (i + (1 : Int32)).toNatClampNeg), .ref 22, .int q]) rfl (p' := 135) rfl ?_
  refine l_op (pc := 135) kL_135 (st' := [.int (i + (3 : Int32)), .retAddr 600, .int (xs (i + (2 : Int32)).toNatClampNeg), .int (xs (i + (1 : Int32)).toNatClampNeg), .ref 22, .int q]) rfl (p' := 136) rfl ?_
  refine l_cell (pc := 136) kL_136 b3 ?_
  refine l_ld (k := 0) (w := .retAddr 600) (pc := 137) kL_137 rfl h0 (ld_a (k4 := 0) rfl) (p' := 138) rfl ?_
  refine l_ld (k := 4) (w := .int i) (pc := 138) kL_138 rfl h4 (ld_i) (p' := 140) rfl ?_
  refine l_op (pc := 140) kL_140 (st' := [.int (4 : Int32), .int i, .retAddr 600, .int (xs (i + (3 : Int32)).toNatClampNeg), .int (xs (i + (2 : Int32)).toNatClampNeg), .int (xs (i + (1 : Int32)).toNatClampNeg), .ref 22, .int q]) rfl (p' := 141) rfl ?_
  refine l_op (pc := 141) kL_141 (st' := [.int (i + (4 : Int32)), .retAddr 600, .int (xs (i + (3 : Int32)).toNatClampNeg), .int (xs (i + (2 : Int32)).toNatClampNeg), .int (xs (i + (1 : Int32)).toNatClampNeg), .ref 22, .int q]) rfl (p' := 142) rfl ?_
  refine l_cell (pc := 142) kL_142 b4 ?_
  refine l_ld (k := 0) (w := .retAddr 600) (pc := 143) kL_143 rfl h0 (ld_a (k4 := 0) rfl) (p' := 144) rfl ?_
  refine l_ld (k := 4) (w := .int i) (pc := 144) kL_144 rfl h4 (ld_i) (p' := 146) rfl ?_
  refine l_op (pc := 146) kL_146 (st' := [.int (5 : Int32), .int i, .retAddr 600, .int (xs (i + (4 : Int32)).toNatClampNeg), .int (xs (i + (3 : Int32)).toNatClampNeg), .int (xs (i + (2 : Int32)).toNatClampNeg), .int (xs (i + (1 : Int32)).toNatClampNeg), .ref 22, .int q]) rfl (p' := 147) rfl ?_
  refine l_op (pc := 147) kL_147 (st' := [.int (i + (5 : Int32)), .retAddr 600, .int (xs (i + (4 : Int32)).toNatClampNeg), .int (xs (i + (3 : Int32)).toNatClampNeg), .int (xs (i + (2 : Int32)).toNatClampNeg), .int (xs (i + (1 : Int32)).toNatClampNeg), .ref 22, .int q]) rfl (p' := 148) rfl ?_
  refine l_cell (pc := 148) kL_148 b5 ?_
  refine l_hp (wd_m c2 m w) ?_
  refine l_cv (pc := 149) kL_149 p110 (r := [.int q]) rfl rfl rfl (by omega) (n := 42 + c2.2.2.2) (F := mm_F m (cc_F c2 (zo w))) (j := 22) rfl rfl rfl (t110 (by omega) m (xs (i + (1 : Int32)).toNatClampNeg) (xs (i + (2 : Int32)).toNatClampNeg) (xs (i + (3 : Int32)).toNatClampNeg) (xs (i + (4 : Int32)).toNatClampNeg) (xs (i + (5 : Int32)).toNatClampNeg) (q, m2) e2) (w2 := [.int q, .int q]) rfl ?_
  refine l_br (pc := 152) (t := 314) (st' := []) kL_152 rfl rfl rfl (by simp [ab_br, ab_if2]) ?_
  refine l_hp (wd_m c2 m2 w).symm ?_
  exact K l h0 h1 h2 h3 h4
theorem lw_end {xs : Nat → Int32} {L d : Nat} {c : cS} {m : mS} {w : Nat → Int64} {l : ab_L} {i : Int32} {v : Int32} {h' : ab_H} (h0 : ab_get l 0 = some (.retAddr 600)) (h1 : ab_get l 1 = some (.ref 0)) (h2 : ab_get l 2 = some (.ref 22)) (h3 : ab_get l 3 = some (.ref 41)) (h4 : ab_get l 4 = some (.int i)) (b0 : ib i L) (b1 : ib (i + (1 : Int32)) L) (b2 : ib (i + (2 : Int32)) L) (b3 : ib (i + (3 : Int32)) L) (b4 : ib (i + (4 : Int32)) L) (b5 : ib (i + (5 : Int32)) L) {m2 : mS} (e2 : f111 m (xs (i + (1 : Int32)).toNatClampNeg) = some ((f9 c (xs (i + (1 : Int32)).toNatClampNeg)).1, m2)) (K : ∀ l2 : ab_L, ab_get l2 0 = some (.retAddr 600) → ab_get l2 1 = some (.ref 0) → ab_get l2 2 = some (.ref 22) → ab_get l2 3 = some (.ref 41) → ab_get l2 4 = some (.int i) → ab_Rl xs L d 314 l2 [] (wd (f9 c (xs (i + (1 : Int32)).toNatClampNeg)).2 m2 w) v h') : ab_Rl xs L d 157 l [] (wd c m w) v h' := by
  refine l_ld (k := 1) (w := .ref 0) (pc := 157) kL_157 rfl h1 (ld_a (k4 := 1) rfl) (p' := 158) rfl ?_
  refine l_ld (k := 0) (w := .retAddr 600) (pc := 158) kL_158 rfl h0 (ld_a (k4 := 0) rfl) (p' := 159) rfl ?_
  refine l_ld (k := 4) (w := .int i) (pc := 159) kL_159 rfl h4 (ld_i) (p' := 161) rfl ?_
  refine l_op (pc := 161) kL_161 (st' := [.int (1 : Int32), .int i, .retAddr 600, .ref 0]) rfl (p' := 162) rfl ?_
  refine l_op (pc := 162) kL_162 (st' := [.int (i + (1 : Int32)), .retAddr 600, .ref 0]) rfl (p' := 163) rfl ?_
  refine l_cell (pc := 163) kL_163 b1 ?_
  refine l_cv (pc := 164) kL_164 p9 (r := []) rfl rfl rfl (by omega) (n := 42 + c.2.2.2) (F := cc_F c (mm_F m (zo w))) (j := 0) rfl rfl rfl (t9 c (xs (i + (1 : Int32)).toNatClampNeg) (f9 c (xs (i + (1 : Int32)).toNatClampNeg)) rfl) (w2 := [.int (f9 c (xs (i + (1 : Int32)).toNatClampNeg)).1]) rfl ?_
  refine l_hp (show ch (f9 c (xs (i + (1 : Int32)).toNatClampNeg)).2 (mm_F m (zo w)) = wd (f9 c (xs (i + (1 : Int32)).toNatClampNeg)).2 m w from rfl) ?_
  refine l_ld (k := 2) (w := .ref 22) (pc := 167) kL_167 rfl h2 (ld_a (k4 := 2) rfl) (p' := 168) rfl ?_
  refine l_ld (k := 0) (w := .retAddr 600) (pc := 168) kL_168 rfl h0 (ld_a (k4 := 0) rfl) (p' := 169) rfl ?_
  refine l_ld (k := 4) (w := .int i) (pc := 169) kL_169 rfl h4 (ld_i) (p' := 171) rfl ?_
  refine l_op (pc := 171) kL_171 (st' := [.int (1 : Int32), .int i, .retAddr 600, .ref 22, .int (f9 c (xs (i + (1 : Int32)).toNatClampNeg)).1]) rfl (p' := 172) rfl ?_
  refine l_op (pc := 172) kL_172 (st' := [.int (i + (1 : Int32)), .retAddr 600, .ref 22, .int (f9 c (xs (i + (1 : Int32)).toNatClampNeg)).1]) rfl (p' := 173) rfl ?_
  refine l_cell (pc := 173) kL_173 b1 ?_
  refine l_hp (wd_m (f9 c (xs (i + (1 : Int32)).toNatClampNeg)).2 m w) ?_
  refine l_cv (pc := 174) kL_174 p111 (r := [.int (f9 c (xs (i + (1 : Int32)).toNatClampNeg)).1]) rfl rfl rfl (by omega) (n := 42 + (f9 c (xs (i + (1 : Int32)).toNatClampNeg)).2.2.2.2) (F := mm_F m (cc_F (f9 c (xs (i + (1 : Int32)).toNatClampNeg)).2 (zo w))) (j := 22) rfl rfl rfl (t111 (by omega) m (xs (i + (1 : Int32)).toNatClampNeg) ((f9 c (xs (i + (1 : Int32)).toNatClampNeg)).1, m2) e2) (w2 := [.int (f9 c (xs (i + (1 : Int32)).toNatClampNeg)).1, .int (f9 c (xs (i + (1 : Int32)).toNatClampNeg)).1]) rfl ?_
  refine l_br (pc := 177) (t := 314) (st' := []) kL_177 rfl rfl rfl (by simp [ab_br, ab_if2]) ?_
  refine l_hp (wd_m (f9 c (xs (i + (1 : Int32)).toNatClampNeg)).2 m2 w).symm ?_
  exact K l h0 h1 h2 h3 h4
theorem lw_size {xs : Nat → Int32} {L d : Nat} {c : cS} {m : mS} {w : Nat → Int64} {l : ab_L} {i : Int32} {v : Int32} {h' : ab_H} (h0 : ab_get l 0 = some (.retAddr 600)) (h1 : ab_get l 1 = some (.ref 0)) (h2 : ab_get l 2 = some (.ref 22)) (h3 : ab_get l 3 = some (.ref 41)) (h4 : ab_get l 4 = some (.int i)) (b0 : ib i L) (b1 : ib (i + (1 : Int32)) L) (b2 : ib (i + (2 : Int32)) L) (b3 : ib (i + (3 : Int32)) L) (b4 : ib (i + (4 : Int32)) L) (b5 : ib (i + (5 : Int32)) L) {m2 : mS} (e2 : f112 m = some (f10 c, m2)) (K : ∀ l2 : ab_L, ab_get l2 0 = some (.retAddr 600) → ab_get l2 1 = some (.ref 0) → ab_get l2 2 = some (.ref 22) → ab_get l2 3 = some (.ref 41) → ab_get l2 4 = some (.int i) → ab_Rl xs L d 314 l2 [] (wd c m2 w) v h') : ab_Rl xs L d 182 l [] (wd c m w) v h' := by
  refine l_ld (k := 1) (w := .ref 0) (pc := 182) kL_182 rfl h1 (ld_a (k4 := 1) rfl) (p' := 183) rfl ?_
  refine l_cv (pc := 183) kL_183 p10 (r := []) rfl rfl rfl (by omega) (n := 42 + c.2.2.2) (F := cc_F c (mm_F m (zo w))) (j := 0) rfl rfl rfl (t10 c (f10 c) rfl) (w2 := [.int (f10 c)]) rfl ?_
  refine l_hp (show ch c (mm_F m (zo w)) = wd c m w from rfl) ?_
  refine l_ld (k := 2) (w := .ref 22) (pc := 186) kL_186 rfl h2 (ld_a (k4 := 2) rfl) (p' := 187) rfl ?_
  refine l_hp (wd_m c m w) ?_
  refine l_cv (pc := 187) kL_187 p112 (r := [.int (f10 c)]) rfl rfl rfl (by omega) (n := 42 + c.2.2.2) (F := mm_F m (cc_F c (zo w))) (j := 22) rfl rfl rfl (t112 (by omega) m (f10 c, m2) e2) (w2 := [.int (f10 c), .int (f10 c)]) rfl ?_
  refine l_br (pc := 190) (t := 314) (st' := []) kL_190 rfl rfl rfl (by simp [ab_br, ab_if2]) ?_
  refine l_hp (wd_m c m2 w).symm ?_
  exact K l h0 h1 h2 h3 h4
theorem lw_error {xs : Nat → Int32} {L d : Nat} {c : cS} {m : mS} {w : Nat → Int64} {l : ab_L} {i : Int32} {v : Int32} {h' : ab_H} (h0 : ab_get l 0 = some (.retAddr 600)) (h1 : ab_get l 1 = some (.ref 0)) (h2 : ab_get l 2 = some (.ref 22)) (h3 : ab_get l 3 = some (.ref 41)) (h4 : ab_get l 4 = some (.int i)) (b0 : ib i L) (b1 : ib (i + (1 : Int32)) L) (b2 : ib (i + (2 : Int32)) L) (b3 : ib (i + (3 : Int32)) L) (b4 : ib (i + (4 : Int32)) L) (b5 : ib (i + (5 : Int32)) L) {m2 : mS} (e2 : f174 m (xs (i + (1 : Int32)).toNatClampNeg) = some ((f11 c (xs (i + (1 : Int32)).toNatClampNeg)), m2)) (K : ∀ l2 : ab_L, ab_get l2 0 = some (.retAddr 600) → ab_get l2 1 = some (.ref 0) → ab_get l2 2 = some (.ref 22) → ab_get l2 3 = some (.ref 41) → ab_get l2 4 = some (.int i) → ab_Rl xs L (d + 0) 314 l2 [] (wd c m2 w) v h') : ab_Rl xs L (d + 0) 239 l [] (wd c m w) v h' := by
  refine l_ld (k := 1) (w := .ref 0) (pc := 239) kL_239 rfl h1 (ld_a (k4 := 1) rfl) (p' := 240) rfl ?_
  refine l_ld (k := 0) (w := .retAddr 600) (pc := 240) kL_240 rfl h0 (ld_a (k4 := 0) rfl) (p' := 241) rfl ?_
  refine l_ld (k := 4) (w := .int i) (pc := 241) kL_241 rfl h4 (ld_i) (p' := 243) rfl ?_
  refine l_op (pc := 243) kL_243 (st' := [.int (1 : Int32), .int i, .retAddr 600, .ref 0]) rfl (p' := 244) rfl ?_
  refine l_op (pc := 244) kL_244 (st' := [.int (i + (1 : Int32)), .retAddr 600, .ref 0]) rfl (p' := 245) rfl ?_
  refine l_cell (pc := 245) kL_245 b1 ?_
  refine l_cv (pc := 246) kL_246 p11 (r := []) rfl rfl rfl (by omega) (n := 42 + c.2.2.2) (F := cc_F c (mm_F m (zo w))) (j := 0) rfl rfl rfl (t11 c (xs (i + (1 : Int32)).toNatClampNeg) _ rfl) (w2 := [.int (f11 c (xs (i + (1 : Int32)).toNatClampNeg))]) rfl ?_
  refine l_hp (show ch c (mm_F m (zo w)) = wd c m w from rfl) ?_
  refine l_ld (k := 2) (w := .ref 22) (pc := 249) kL_249 rfl h2 (ld_a (k4 := 2) rfl) (p' := 250) rfl ?_
  refine l_ld (k := 0) (w := .retAddr 600) (pc := 250) kL_250 rfl h0 (ld_a (k4 := 0) rfl) (p' := 251) rfl ?_
  refine l_ld (k := 4) (w := .int i) (pc := 251) kL_251 rfl h4 (ld_i) (p' := 253) rfl ?_
  refine l_op (pc := 253) kL_253 (st' := [.int (1 : Int32), .int i, .retAddr 600, .ref 22, .int (f11 c (xs (i + (1 : Int32)).toNatClampNeg))]) rfl (p' := 254) rfl ?_
  refine l_op (pc := 254) kL_254 (st' := [.int (i + (1 : Int32)), .retAddr 600, .ref 22, .int (f11 c (xs (i + (1 : Int32)).toNatClampNeg))]) rfl (p' := 255) rfl ?_
  refine l_cell (pc := 255) kL_255 b1 ?_
  refine l_hp (wd_m c m w) ?_
  refine l_cv (pc := 256) kL_256 p174 (r := [.int (f11 c (xs (i + (1 : Int32)).toNatClampNeg))]) rfl rfl rfl (by omega) (n := 42 + c.2.2.2) (F := mm_F m (cc_F c (zo w))) (j := 22) rfl rfl rfl (t174 (by omega) m (xs (i + (1 : Int32)).toNatClampNeg) ((f11 c (xs (i + (1 : Int32)).toNatClampNeg)), m2) e2) (w2 := [.int (f11 c (xs (i + (1 : Int32)).toNatClampNeg)), .int (f11 c (xs (i + (1 : Int32)).toNatClampNeg))]) rfl ?_
  refine l_br (pc := 259) (t := 314) (st' := []) kL_259 rfl rfl rfl (by simp [ab_br, ab_if2]) ?_
  refine l_hp (wd_m c m2 w).symm ?_
  exact K l h0 h1 h2 h3 h4
theorem lw_image {xs : Nat → Int32} {L d : Nat} {c : cS} {m : mS} {w : Nat → Int64} {l : ab_L} {i : Int32} {v : Int32} {h' : ab_H} (h0 : ab_get l 0 = some (.retAddr 600)) (h1 : ab_get l 1 = some (.ref 0)) (h2 : ab_get l 2 = some (.ref 22)) (h3 : ab_get l 3 = some (.ref 41)) (h4 : ab_get l 4 = some (.int i)) (b0 : ib i L) (b1 : ib (i + (1 : Int32)) L) (b2 : ib (i + (2 : Int32)) L) (b3 : ib (i + (3 : Int32)) L) (b4 : ib (i + (4 : Int32)) L) (b5 : ib (i + (5 : Int32)) L) {q : Int32} {m2 : mS} (e1 : f12 c (xs (i + (1 : Int32)).toNatClampNeg) = some q) (e2 : f175 m (xs (i + (1 : Int32)).toNatClampNeg) = some (q, m2)) (K : ∀ l2 : ab_L, ab_get l2 0 = some (.retAddr 600) → ab_get l2 1 = some (.ref 0) → ab_get l2 2 = some (.ref 22) → ab_get l2 3 = some (.ref 41) → ab_get l2 4 = some (.int i) → ab_Rl xs L (d + 1) 314 l2 [] (wd c m2 w) v h') : ab_Rl xs L (d + 1) 264 l [] (wd c m w) v h' := by
  refine l_ld (k := 1) (w := .ref 0) (pc := 264) kL_264 rfl h1 (ld_a (k4 := 1) rfl) (p' := 265) rfl ?_
  refine l_ld (k := 0) (w := .retAddr 600) (pc := 265) kL_265 rfl h0 (ld_a (k4 := 0) rfl) (p' := 266) rfl ?_
  refine l_ld (k := 4) (w := .int i) (pc := 266) kL_266 rfl h4 (ld_i) (p' := 268) rfl ?_
  refine l_op (pc := 268) kL_268 (st' := [.int (1 : Int32), .int i, .retAddr 600, .ref 0]) rfl (p' := 269) rfl ?_
  refine l_op (pc := 269) kL_269 (st' := [.int (i + (1 : Int32)), .retAddr 600, .ref 0]) rfl (p' := 270) rfl ?_
  refine l_cell (pc := 270) kL_270 b1 ?_
  refine l_cv (pc := 271) kL_271 p12 (r := []) rfl rfl rfl (by omega) (n := 42 + c.2.2.2) (F := cc_F c (mm_F m (zo w))) (j := 0) rfl rfl rfl (t12 c (xs (i + (1 : Int32)).toNatClampNeg) q e1) (w2 := [.int q]) rfl ?_
  refine l_hp (show ch c (mm_F m (zo w)) = wd c m w from rfl) ?_
  refine l_ld (k := 2) (w := .ref 22) (pc := 274) kL_274 rfl h2 (ld_a (k4 := 2) rfl) (p' := 275) rfl ?_
  refine l_ld (k := 0) (w := .retAddr 600) (pc := 275) kL_275 rfl h0 (ld_a (k4 := 0) rfl) (p' := 276) rfl ?_
  refine l_ld (k := 4) (w := .int i) (pc := 276) kL_276 rfl h4 (ld_i) (p' := 278) rfl ?_
  refine l_op (pc := 278) kL_278 (st' := [.int (1 : Int32), .int i, .retAddr 600, .ref 22, .int q]) rfl (p' := 279) rfl ?_
  refine l_op (pc := 279) kL_279 (st' := [.int (i + (1 : Int32)), .retAddr 600, .ref 22, .int q]) rfl (p' := 280) rfl ?_
  refine l_cell (pc := 280) kL_280 b1 ?_
  refine l_hp (wd_m c m w) ?_
  refine l_cv (pc := 281) kL_281 p175 (r := [.int q]) rfl rfl rfl (by omega) (n := 42 + c.2.2.2) (F := mm_F m (cc_F c (zo w))) (j := 22) rfl rfl rfl (t175 (by omega) m (xs (i + (1 : Int32)).toNatClampNeg) (q, m2) e2) (w2 := [.int q, .int q]) rfl ?_
  refine l_br (pc := 284) (t := 314) (st' := []) kL_284 rfl rfl rfl (by simp [ab_br, ab_if2]) ?_
  refine l_hp (wd_m c m2 w).symm ?_
  exact K l h0 h1 h2 h3 h4
theorem lw_about {xs : Nat → Int32} {L d : Nat} {c : cS} {m : mS} {w : Nat → Int64} {l : ab_L} {i : Int32} {v : Int32} {h' : ab_H} (h0 : ab_get l 0 = some (.retAddr 600)) (h1 : ab_get l 1 = some (.ref 0)) (h2 : ab_get l 2 = some (.ref 22)) (h3 : ab_get l 3 = some (.ref 41)) (h4 : ab_get l 4 = some (.int i)) (b0 : ib i L) (b1 : ib (i + (1 : Int32)) L) (b2 : ib (i + (2 : Int32)) L) (b3 : ib (i + (3 : Int32)) L) (b4 : ib (i + (4 : Int32)) L) (b5 : ib (i + (5 : Int32)) L) {q : Int32} {m2 : mS} (e1 : f14 c (xs (i + (1 : Int32)).toNatClampNeg) = some q) (e2 : f176 m (xs (i + (1 : Int32)).toNatClampNeg) = some (q, m2)) (K : ∀ l2 : ab_L, ab_get l2 0 = some (.retAddr 600) → ab_get l2 1 = some (.ref 0) → ab_get l2 2 = some (.ref 22) → ab_get l2 3 = some (.ref 41) → ab_get l2 4 = some (.int i) → ab_Rl xs L (d + 0) 314 l2 [] (wd c m2 w) v h') : ab_Rl xs L (d + 0) 289 l [] (wd c m w) v h' := by
  refine l_ld (k := 1) (w := .ref 0) (pc := 289) kL_289 rfl h1 (ld_a (k4 := 1) rfl) (p' := 290) rfl ?_
  refine l_ld (k := 0) (w := .retAddr 600) (pc := 290) kL_290 rfl h0 (ld_a (k4 := 0) rfl) (p' := 291) rfl ?_
  refine l_ld (k := 4) (w := .int i) (pc := 291) kL_291 rfl h4 (ld_i) (p' := 293) rfl ?_
  refine l_op (pc := 293) kL_293 (st' := [.int (1 : Int32), .int i, .retAddr 600, .ref 0]) rfl (p' := 294) rfl ?_
  refine l_op (pc := 294) kL_294 (st' := [.int (i + (1 : Int32)), .retAddr 600, .ref 0]) rfl (p' := 295) rfl ?_
  refine l_cell (pc := 295) kL_295 b1 ?_
  refine l_cv (pc := 296) kL_296 p14 (r := []) rfl rfl rfl (by omega) (n := 42 + c.2.2.2) (F := cc_F c (mm_F m (zo w))) (j := 0) rfl rfl rfl (t14 c (xs (i + (1 : Int32)).toNatClampNeg) q e1) (w2 := [.int q]) rfl ?_
  refine l_hp (show ch c (mm_F m (zo w)) = wd c m w from rfl) ?_
  refine l_ld (k := 2) (w := .ref 22) (pc := 299) kL_299 rfl h2 (ld_a (k4 := 2) rfl) (p' := 300) rfl ?_
  refine l_ld (k := 0) (w := .retAddr 600) (pc := 300) kL_300 rfl h0 (ld_a (k4 := 0) rfl) (p' := 301) rfl ?_
  refine l_ld (k := 4) (w := .int i) (pc := 301) kL_301 rfl h4 (ld_i) (p' := 303) rfl ?_
  refine l_op (pc := 303) kL_303 (st' := [.int (1 : Int32), .int i, .retAddr 600, .ref 22, .int q]) rfl (p' := 304) rfl ?_
  refine l_op (pc := 304) kL_304 (st' := [.int (i + (1 : Int32)), .retAddr 600, .ref 22, .int q]) rfl (p' := 305) rfl ?_
  refine l_cell (pc := 305) kL_305 b1 ?_
  refine l_hp (wd_m c m w) ?_
  refine l_cv (pc := 306) kL_306 p176 (r := [.int q]) rfl rfl rfl (by omega) (n := 42 + c.2.2.2) (F := mm_F m (cc_F c (zo w))) (j := 22) rfl rfl rfl (t176 (by omega) m (xs (i + (1 : Int32)).toNatClampNeg) (q, m2) e2) (w2 := [.int q, .int q]) rfl ?_
  refine l_br (pc := 309) (t := 314) (st' := []) kL_309 rfl rfl rfl (by simp [ab_br, ab_if2]) ?_
  refine l_hp (wd_m c m2 w).symm ?_
  exact K l h0 h1 h2 h3 h4
theorem lw_la0 {d : Nat} {c c2 : cS} {m : mS} {w : Nat → Int64} {q : Int32} (e1 : f15 c = some (.inl (q, c2))) : ∃ n2, ab_la n2 (d + 458) (ab_hl (42 + c.2.2.2) (cc_F c (mm_F m (zo w)))) 0 41 = some (0, wd c2 m (vp_updL w 0 q.toInt64)) := by
  obtain ⟨n, hn⟩ := t15 (d := d) (Z := mm_F m (zo w)) c (.inl (q, c2)) e1
  refine ⟨n, ?_⟩
  have hn : ab_go n (d + 458) 15 0 [(0, .ref 0)] [] (ab_hl (42 + c.2.2.2) (cc_F c (mm_F m (zo w)))) = some (.inl (some (.int q)), wd c2 m w) := hn
  unfold ab_la
  rw [hn]
  simp only [wd_set]
theorem lw_la1 {d : Nat} {c c2 : cS} {m : mS} {w : Nat → Int64} (e1 : f15 c = some (.inr c2)) : ∃ n2, ab_la n2 (d + 458) (ab_hl (42 + c.2.2.2) (cc_F c (mm_F m (zo w)))) 0 41 = some (1, wd c2 m w) := by
  obtain ⟨n, hn⟩ := t15 (d := d) (Z := mm_F m (zo w)) c (.inr c2) e1
  refine ⟨n, ?_⟩
  have hn : ab_go n (d + 458) 15 0 [(0, .ref 0)] [] (ab_hl (42 + c.2.2.2) (cc_F c (mm_F m (zo w)))) = some (.inr (), wd c2 m w) := hn
  unfold ab_la
  rw [hn]
theorem lw_asm0 {xs : Nat → Int32} {L d : Nat} {c : cS} {m : mS} {w : Nat → Int64} {l : ab_L} {i : Int32} {v : Int32} {h' : ab_H} (h0 : ab_get l 0 = some (.retAddr 600)) (h1 : ab_get l 1 = some (.ref 0)) (h2 : ab_get l 2 = some (.ref 22)) (h3 : ab_get l 3 = some (.ref 41)) (h4 : ab_get l 4 = some (.int i)) (b0 : ib i L) (b1 : ib (i + (1 : Int32)) L) (b2 : ib (i + (2 : Int32)) L) (b3 : ib (i + (3 : Int32)) L) (b4 : ib (i + (4 : Int32)) L) (b5 : ib (i + (5 : Int32)) L) {c2 : cS} {m2 : mS} {q : Int32} (e1 : f15 c = some (.inl (q, c2))) (e2 : f113 m = some (q, m2)) (e3 : f109 m2 = 0) (K : ∀ l2 : ab_L, ab_get l2 0 = some (.retAddr 600) → ab_get l2 1 = some (.ref 0) → ab_get l2 2 = some (.ref 22) → ab_get l2 3 = some (.ref 41) → ab_get l2 4 = some (.int i) → ab_Rl xs L (d + 458) 314 l2 [] (wd c2 m2 (vp_updL w 0 q.toInt64)) v h') : ab_Rl xs L (d + 458) 195 l [] (wd c m w) v h' := by
  refine l_ld (k := 1) (w := .ref 0) (pc := 195) kL_195 rfl h1 (ld_a (k4 := 1) rfl) (p' := 196) rfl ?_
  refine l_ld (k := 3) (w := .ref 41) (pc := 196) kL_196 rfl h3 (ld_a (k4 := 3) rfl) (p' := 197) rfl ?_
  refine l_as (pc := 197) kL_197 (n := 42 + c.2.2.2) (F := cc_F c (mm_F m (zo w))) (by omega) rfl (r := []) rfl (k := 0) (h1 := wd c2 m (vp_updL w 0 q.toInt64)) (lw_la0 e1) ?_
  refine l_ist (pc := 200) (x := (0 : Int32)) kL_200 (by decide) (fun l g h5 => ?_)
  have h0 := g 0 _ (by decide) h0 (Or.inl rfl)
  have h1 := g 1 _ (by decide) h1 (Or.inl rfl)
  have h2 := g 2 _ (by decide) h2 (Or.inl rfl)
  have h3 := g 3 _ (by decide) h3 (Or.inl rfl)
  have h4 := g 4 _ (by decide) h4 (Or.inl rfl)
  refine l_ld (k := 2) (w := .ref 22) (pc := 202) kL_202 rfl h2 (ld_a (k4 := 2) rfl) (p' := 203) rfl ?_
  refine l_hp (wd_m c2 m (vp_updL w 0 q.toInt64)) ?_
  refine l_cv (pc := 203) kL_203 p113 (r := []) rfl rfl rfl (by omega) (n := 42 + c2.2.2.2) (F := mm_F m (cc_F c2 (zo (vp_updL w 0 q.toInt64)))) (j := 22) rfl rfl rfl (t113 (d := d + 446) (by omega) m (q, m2) e2) (w2 := [.int q]) rfl ?_
  refine l_ist (pc := 206) (x := q) kL_206 (by decide) (fun l g h6 => ?_)
  have h0 := g 0 _ (by decide) h0 (Or.inl rfl)
  have h1 := g 1 _ (by decide) h1 (Or.inl rfl)
  have h2 := g 2 _ (by decide) h2 (Or.inl rfl)
  have h3 := g 3 _ (by decide) h3 (Or.inl rfl)
  have h4 := g 4 _ (by decide) h4 (Or.inl rfl)
  have h5 := g 5 _ (by decide) h5 (Or.inl rfl)
  refine l_ld (k := 2) (w := .ref 22) (pc := 208) kL_208 rfl h2 (ld_a (k4 := 2) rfl) (p' := 209) rfl ?_
  refine l_cv (pc := 209) kL_209 p109 (r := []) rfl rfl rfl (by omega) (n := 42 + c2.2.2.2) (F := mm_F m2 (cc_F c2 (zo (vp_updL w 0 q.toInt64)))) (j := 22) rfl rfl rfl (t109 (by omega) m2 (0 : Int32) e3) (w2 := [.int (0 : Int32)]) rfl ?_
  refine l_ld (k := 5) (w := .int (0 : Int32)) (pc := 212) kL_212 rfl h5 (ld_i) (p' := 214) rfl ?_
  refine l_br (pc := 214) (t := 219) (st' := []) kL_214 rfl rfl rfl rfl ?_
  refine l_ld (k := 5) (w := .int (0 : Int32)) (pc := 219) kL_219 rfl h5 (ld_i) (p' := 221) rfl ?_
  refine l_br (pc := 221) (t := 224) (st' := []) kL_221 rfl rfl rfl rfl ?_
  refine l_ld (k := 3) (w := .ref 41) (pc := 224) kL_224 rfl h3 (ld_a (k4 := 3) rfl) (p' := 225) rfl ?_
  refine l_op (pc := 225) kL_225 (st' := [.int (0 : Int32), .ref 41]) rfl (p' := 226) rfl ?_
  refine l_lald (pc := 226) (i0 := 41) (m := 1) (f := vp_updL w 0 q.toInt64) kL_226 (by omega) rfl (by decide) ?_
  refine l_ld (k := 6) (w := .int q) (pc := 227) kL_227 rfl h6 (ld_i) (p' := 229) rfl ?_
  refine l_op (pc := 229) kL_229 (st' := [.long q.toInt64, .long ((vp_updL w 0 q.toInt64) (0 : Int32).toNatClampNeg)]) rfl (p' := 230) rfl ?_
  refine l_op (pc := 230) kL_230 (st' := [.int (lg_cmp ((vp_updL w 0 q.toInt64) (0 : Int32).toNatClampNeg) q.toInt64)]) rfl (p' := 231) rfl ?_
  have e9 : lg_cmp ((vp_updL w 0 q.toInt64) (0 : Int32).toNatClampNeg) q.toInt64 = 0 := by
    have : (vp_updL w 0 q.toInt64) (0 : Int32).toNatClampNeg = q.toInt64 := rfl
    rw [this]; simp [lg_cmp]
  rw [e9]
  refine l_br (pc := 231) (t := 236) (st' := []) kL_231 rfl rfl rfl rfl ?_
  refine l_br (pc := 236) (t := 314) (st' := []) kL_236 rfl rfl rfl rfl ?_
  refine l_hp (wd_m c2 m2 (vp_updL w 0 q.toInt64)).symm ?_
  exact K l h0 h1 h2 h3 h4
theorem lw_asm1 {xs : Nat → Int32} {L d : Nat} {c : cS} {m : mS} {w : Nat → Int64} {l : ab_L} {i : Int32} {v : Int32} {h' : ab_H} (h0 : ab_get l 0 = some (.retAddr 600)) (h1 : ab_get l 1 = some (.ref 0)) (h2 : ab_get l 2 = some (.ref 22)) (h3 : ab_get l 3 = some (.ref 41)) (h4 : ab_get l 4 = some (.int i)) (b0 : ib i L) (b1 : ib (i + (1 : Int32)) L) (b2 : ib (i + (2 : Int32)) L) (b3 : ib (i + (3 : Int32)) L) (b4 : ib (i + (4 : Int32)) L) (b5 : ib (i + (5 : Int32)) L) {c2 : cS} {m2 : mS} {q : Int32} (e1 : f15 c = some (.inr c2)) (e2 : f113 m = some (q, m2)) (e3 : f109 m2 = 1) (K : ∀ l2 : ab_L, ab_get l2 0 = some (.retAddr 600) → ab_get l2 1 = some (.ref 0) → ab_get l2 2 = some (.ref 22) → ab_get l2 3 = some (.ref 41) → ab_get l2 4 = some (.int i) → ab_Rl xs L (d + 458) 314 l2 [] (wd c2 m2 w) v h') : ab_Rl xs L (d + 458) 195 l [] (wd c m w) v h' := by
  refine l_ld (k := 1) (w := .ref 0) (pc := 195) kL_195 rfl h1 (ld_a (k4 := 1) rfl) (p' := 196) rfl ?_
  refine l_ld (k := 3) (w := .ref 41) (pc := 196) kL_196 rfl h3 (ld_a (k4 := 3) rfl) (p' := 197) rfl ?_
  refine l_as (pc := 197) kL_197 (n := 42 + c.2.2.2) (F := cc_F c (mm_F m (zo w))) (by omega) rfl (r := []) rfl (k := 1) (h1 := wd c2 m w) (lw_la1 e1) ?_
  refine l_ist (pc := 200) (x := (1 : Int32)) kL_200 (by decide) (fun l g h5 => ?_)
  have h0 := g 0 _ (by decide) h0 (Or.inl rfl)
  have h1 := g 1 _ (by decide) h1 (Or.inl rfl)
  have h2 := g 2 _ (by decide) h2 (Or.inl rfl)
  have h3 := g 3 _ (by decide) h3 (Or.inl rfl)
  have h4 := g 4 _ (by decide) h4 (Or.inl rfl)
  refine l_ld (k := 2) (w := .ref 22) (pc := 202) kL_202 rfl h2 (ld_a (k4 := 2) rfl) (p' := 203) rfl ?_
  refine l_hp (wd_m c2 m w) ?_
  refine l_cv (pc := 203) kL_203 p113 (r := []) rfl rfl rfl (by omega) (n := 42 + c2.2.2.2) (F := mm_F m (cc_F c2 (zo w))) (j := 22) rfl rfl rfl (t113 (d := d + 446) (by omega) m (q, m2) e2) (w2 := [.int q]) rfl ?_
  refine l_ist (pc := 206) (x := q) kL_206 (by decide) (fun l g h6 => ?_)
  have h0 := g 0 _ (by decide) h0 (Or.inl rfl)
  have h1 := g 1 _ (by decide) h1 (Or.inl rfl)
  have h2 := g 2 _ (by decide) h2 (Or.inl rfl)
  have h3 := g 3 _ (by decide) h3 (Or.inl rfl)
  have h4 := g 4 _ (by decide) h4 (Or.inl rfl)
  have h5 := g 5 _ (by decide) h5 (Or.inl rfl)
  refine l_ld (k := 2) (w := .ref 22) (pc := 208) kL_208 rfl h2 (ld_a (k4 := 2) rfl) (p' := 209) rfl ?_
  refine l_cv (pc := 209) kL_209 p109 (r := []) rfl rfl rfl (by omega) (n := 42 + c2.2.2.2) (F := mm_F m2 (cc_F c2 (zo w))) (j := 22) rfl rfl rfl (t109 (by omega) m2 (1 : Int32) e3) (w2 := [.int (1 : Int32)]) rfl ?_
  refine l_ld (k := 5) (w := .int (1 : Int32)) (pc := 212) kL_212 rfl h5 (ld_i) (p' := 214) rfl ?_
  refine l_br (pc := 214) (t := 219) (st' := []) kL_214 rfl rfl rfl rfl ?_
  refine l_ld (k := 5) (w := .int (1 : Int32)) (pc := 219) kL_219 rfl h5 (ld_i) (p' := 221) rfl ?_
  refine l_br (pc := 221) (t := 236) (st' := []) kL_221 rfl rfl rfl rfl ?_
  refine l_br (pc := 236) (t := 314) (st' := []) kL_236 rfl rfl rfl rfl ?_
  refine l_hp (wd_m c2 m2 w).symm ?_
  exact K l h0 h1 h2 h3 h4
