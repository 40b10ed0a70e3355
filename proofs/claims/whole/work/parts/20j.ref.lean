theorem p170 : ab_prog[170]? = some (ab_m170, ab_c170) := rfl
theorem k170_0 : ab_fetch ab_c170 0 = some (.aload_n 0, 1, 0, 0) := rfl
theorem k170_1 : ab_fetch ab_c170 1 = some (.getfield 278, 3, 6, 35) := rfl
theorem k170_4 : ab_fetch ab_c170 4 = some (.iconst 1, 1, 0, 0) := rfl
theorem k170_5 : ab_fetch ab_c170 5 = some (.iaload, 1, 0, 0) := rfl
theorem k170_6 : ab_fetch ab_c170 6 = some (.ifCond .le 7, 3, 13, 0) := rfl
theorem k170_9 : ab_fetch ab_c170 9 = some (.iconst 2, 1, 0, 0) := rfl
theorem k170_10 : ab_fetch ab_c170 10 = some (.goto 4, 3, 14, 0) := rfl
theorem k170_13 : ab_fetch ab_c170 13 = some (.iconst 1, 1, 0, 0) := rfl
theorem k170_14 : ab_fetch ab_c170 14 = some (.istore_n 1, 1, 0, 0) := rfl
theorem k170_15 : ab_fetch ab_c170 15 = some (.bipush 52, 2, 0, 0) := rfl
theorem k170_17 : ab_fetch ab_c170 17 = some (.bipush 32, 2, 0, 0) := rfl
theorem k170_19 : ab_fetch ab_c170 19 = some (.iload_n 1, 1, 0, 0) := rfl
theorem k170_20 : ab_fetch ab_c170 20 = some (.imul, 1, 0, 0) := rfl
theorem k170_21 : ab_fetch ab_c170 21 = some (.iadd, 1, 0, 0) := rfl
theorem k170_22 : ab_fetch ab_c170 22 = some (.istore_n 2, 1, 0, 0) := rfl
theorem k170_23 : ab_fetch ab_c170 23 = some (.iconst 0, 1, 0, 0) := rfl
theorem k170_24 : ab_fetch ab_c170 24 = some (.istore_n 3, 1, 0, 0) := rfl
theorem k170_25 : ab_fetch ab_c170 25 = some (.iload_n 3, 1, 0, 0) := rfl
theorem k170_26 : ab_fetch ab_c170 26 = some (.bipush 13, 2, 0, 0) := rfl
theorem k170_28 : ab_fetch ab_c170 28 = some (.if_icmp .ge 105, 3, 133, 0) := rfl
theorem k170_31 : ab_fetch ab_c170 31 = some (.aload_n 0, 1, 0, 0) := rfl
theorem k170_32 : ab_fetch ab_c170 32 = some (.iconst 4, 1, 0, 0) := rfl
theorem k170_33 : ab_fetch ab_c170 33 = some (.iload_n 3, 1, 0, 0) := rfl
theorem k170_34 : ab_fetch ab_c170 34 = some (.imul, 1, 0, 0) := rfl
theorem k170_35 : ab_fetch ab_c170 35 = some (.iload_n 3, 1, 0, 0) := rfl
theorem k170_36 : ab_fetch ab_c170 36 = some (.ifCond .ne 9, 3, 45, 0) := rfl
theorem k170_39 : ab_fetch ab_c170 39 = some (.ldc_w 569, 3, 1179403647, 0) := rfl
theorem k170_42 : ab_fetch ab_c170 42 = some (.goto 81, 3, 123, 0) := rfl
theorem k170_45 : ab_fetch ab_c170 45 = some (.iload_n 3, 1, 0, 0) := rfl
theorem k170_46 : ab_fetch ab_c170 46 = some (.iconst 1, 1, 0, 0) := rfl
theorem k170_47 : ab_fetch ab_c170 47 = some (.if_icmp .ne 9, 3, 56, 0) := rfl
theorem k170_50 : ab_fetch ab_c170 50 = some (.ldc_w 570, 3, 65793, 0) := rfl
theorem k170_53 : ab_fetch ab_c170 53 = some (.goto 70, 3, 123, 0) := rfl
theorem k170_56 : ab_fetch ab_c170 56 = some (.iload_n 3, 1, 0, 0) := rfl
theorem k170_57 : ab_fetch ab_c170 57 = some (.iconst 4, 1, 0, 0) := rfl
theorem k170_58 : ab_fetch ab_c170 58 = some (.if_icmp .ne 9, 3, 67, 0) := rfl
theorem k170_61 : ab_fetch ab_c170 61 = some (.ldc_w 571, 3, 15925250, 0) := rfl
theorem k170_64 : ab_fetch ab_c170 64 = some (.goto 59, 3, 123, 0) := rfl
theorem k170_67 : ab_fetch ab_c170 67 = some (.iload_n 3, 1, 0, 0) := rfl
theorem k170_68 : ab_fetch ab_c170 68 = some (.iconst 5, 1, 0, 0) := rfl
theorem k170_69 : ab_fetch ab_c170 69 = some (.if_icmp .ne 7, 3, 76, 0) := rfl
theorem k170_72 : ab_fetch ab_c170 72 = some (.iconst 1, 1, 0, 0) := rfl
theorem k170_73 : ab_fetch ab_c170 73 = some (.goto 50, 3, 123, 0) := rfl
theorem k170_76 : ab_fetch ab_c170 76 = some (.iload_n 3, 1, 0, 0) := rfl
theorem k170_77 : ab_fetch ab_c170 77 = some (.bipush 6, 2, 0, 0) := rfl
theorem k170_79 : ab_fetch ab_c170 79 = some (.if_icmp .ne 10, 3, 89, 0) := rfl
theorem k170_82 : ab_fetch ab_c170 82 = some (.aload_n 0, 1, 0, 0) := rfl
theorem k170_83 : ab_fetch ab_c170 83 = some (.invokevirtual 572, 3, 171, 0) := rfl
theorem k170_86 : ab_fetch ab_c170 86 = some (.goto 37, 3, 123, 0) := rfl
theorem k170_89 : ab_fetch ab_c170 89 = some (.iload_n 3, 1, 0, 0) := rfl
theorem k170_90 : ab_fetch ab_c170 90 = some (.bipush 7, 2, 0, 0) := rfl
theorem k170_92 : ab_fetch ab_c170 92 = some (.if_icmp .ne 8, 3, 100, 0) := rfl
theorem k170_95 : ab_fetch ab_c170 95 = some (.bipush 52, 2, 0, 0) := rfl
theorem k170_97 : ab_fetch ab_c170 97 = some (.goto 26, 3, 123, 0) := rfl
theorem k170_100 : ab_fetch ab_c170 100 = some (.iload_n 3, 1, 0, 0) := rfl
theorem k170_101 : ab_fetch ab_c170 101 = some (.bipush 10, 2, 0, 0) := rfl
theorem k170_103 : ab_fetch ab_c170 103 = some (.if_icmp .ne 9, 3, 112, 0) := rfl
theorem k170_106 : ab_fetch ab_c170 106 = some (.ldc_w 575, 3, 2097204, 0) := rfl
theorem k170_109 : ab_fetch ab_c170 109 = some (.goto 14, 3, 123, 0) := rfl
theorem k170_112 : ab_fetch ab_c170 112 = some (.iload_n 3, 1, 0, 0) := rfl
theorem k170_113 : ab_fetch ab_c170 113 = some (.bipush 11, 2, 0, 0) := rfl
theorem k170_115 : ab_fetch ab_c170 115 = some (.if_icmp .ne 7, 3, 122, 0) := rfl
theorem k170_118 : ab_fetch ab_c170 118 = some (.iload_n 1, 1, 0, 0) := rfl
theorem k170_119 : ab_fetch ab_c170 119 = some (.goto 4, 3, 123, 0) := rfl
theorem k170_122 : ab_fetch ab_c170 122 = some (.iconst 0, 1, 0, 0) := rfl
theorem k170_123 : ab_fetch ab_c170 123 = some (.iconst 4, 1, 0, 0) := rfl
theorem k170_124 : ab_fetch ab_c170 124 = some (.invokevirtual 563, 3, 172, 3) := rfl
theorem k170_127 : ab_fetch ab_c170 127 = some (.iinc 3 1, 3, 0, 0) := rfl
theorem k170_130 : ab_fetch ab_c170 130 = some (.goto (-105), 3, 25, 0) := rfl
theorem k170_133 : ab_fetch ab_c170 133 = some (.aload_n 0, 1, 0, 0) := rfl
theorem k170_134 : ab_fetch ab_c170 134 = some (.iconst 0, 1, 0, 0) := rfl
theorem k170_135 : ab_fetch ab_c170 135 = some (.iload_n 2, 1, 0, 0) := rfl
theorem k170_136 : ab_fetch ab_c170 136 = some (.iconst 0, 1, 0, 0) := rfl
theorem k170_137 : ab_fetch ab_c170 137 = some (.aload_n 0, 1, 0, 0) := rfl
theorem k170_138 : ab_fetch ab_c170 138 = some (.getfield 278, 3, 6, 35) := rfl
theorem k170_141 : ab_fetch ab_c170 141 = some (.iconst 0, 1, 0, 0) := rfl
theorem k170_142 : ab_fetch ab_c170 142 = some (.iaload, 1, 0, 0) := rfl
theorem k170_143 : ab_fetch ab_c170 143 = some (.iconst 5, 1, 0, 0) := rfl
theorem k170_144 : ab_fetch ab_c170 144 = some (.invokevirtual 576, 3, 173, 5) := rfl
theorem k170_147 : ab_fetch ab_c170 147 = some (.iload_n 1, 1, 0, 0) := rfl
theorem k170_148 : ab_fetch ab_c170 148 = some (.iconst 2, 1, 0, 0) := rfl
theorem k170_149 : ab_fetch ab_c170 149 = some (.if_icmp .ne 28, 3, 177, 0) := rfl
theorem k170_152 : ab_fetch ab_c170 152 = some (.aload_n 0, 1, 0, 0) := rfl
theorem k170_153 : ab_fetch ab_c170 153 = some (.iconst 1, 1, 0, 0) := rfl
theorem k170_154 : ab_fetch ab_c170 154 = some (.iload_n 2, 1, 0, 0) := rfl
theorem k170_155 : ab_fetch ab_c170 155 = some (.aload_n 0, 1, 0, 0) := rfl
theorem k170_156 : ab_fetch ab_c170 156 = some (.getfield 278, 3, 6, 35) := rfl
theorem k170_159 : ab_fetch ab_c170 159 = some (.iconst 0, 1, 0, 0) := rfl
theorem k170_160 : ab_fetch ab_c170 160 = some (.iaload, 1, 0, 0) := rfl
theorem k170_161 : ab_fetch ab_c170 161 = some (.iadd, 1, 0, 0) := rfl
theorem k170_162 : ab_fetch ab_c170 162 = some (.aload_n 0, 1, 0, 0) := rfl
theorem k170_163 : ab_fetch ab_c170 163 = some (.getfield 418, 3, 6, 34) := rfl
theorem k170_166 : ab_fetch ab_c170 166 = some (.aload_n 0, 1, 0, 0) := rfl
theorem k170_167 : ab_fetch ab_c170 167 = some (.getfield 278, 3, 6, 35) := rfl
theorem k170_170 : ab_fetch ab_c170 170 = some (.iconst 1, 1, 0, 0) := rfl
theorem k170_171 : ab_fetch ab_c170 171 = some (.iaload, 1, 0, 0) := rfl
theorem k170_172 : ab_fetch ab_c170 172 = some (.bipush 6, 2, 0, 0) := rfl
theorem k170_174 : ab_fetch ab_c170 174 = some (.invokevirtual 576, 3, 173, 5) := rfl
theorem k170_177 : ab_fetch ab_c170 177 = some (.aload_n 0, 1, 0, 0) := rfl
theorem k170_178 : ab_fetch ab_c170 178 = some (.aload_n 0, 1, 0, 0) := rfl
theorem k170_179 : ab_fetch ab_c170 179 = some (.getfield 278, 3, 6, 35) := rfl
theorem k170_182 : ab_fetch ab_c170 182 = some (.iconst 0, 1, 0, 0) := rfl
theorem k170_183 : ab_fetch ab_c170 183 = some (.iaload, 1, 0, 0) := rfl
theorem k170_184 : ab_fetch ab_c170 184 = some (.putfield 580, 3, 6, 8) := rfl
theorem k170_187 : ab_fetch ab_c170 187 = some (.aload_n 0, 1, 0, 0) := rfl
theorem k170_188 : ab_fetch ab_c170 188 = some (.aload_n 0, 1, 0, 0) := rfl
theorem k170_189 : ab_fetch ab_c170 189 = some (.getfield 278, 3, 6, 35) := rfl
theorem k170_192 : ab_fetch ab_c170 192 = some (.iconst 1, 1, 0, 0) := rfl
theorem k170_193 : ab_fetch ab_c170 193 = some (.iaload, 1, 0, 0) := rfl
theorem k170_194 : ab_fetch ab_c170 194 = some (.putfield 583, 3, 6, 9) := rfl
theorem k170_197 : ab_fetch ab_c170 197 = some (.iconst 0, 1, 0, 0) := rfl
theorem k170_198 : ab_fetch ab_c170 198 = some (.istore_n 3, 1, 0, 0) := rfl
theorem k170_199 : ab_fetch ab_c170 199 = some (.iload_n 3, 1, 0, 0) := rfl
theorem k170_200 : ab_fetch ab_c170 200 = some (.aload_n 0, 1, 0, 0) := rfl
theorem k170_201 : ab_fetch ab_c170 201 = some (.getfield 580, 3, 6, 8) := rfl
theorem k170_204 : ab_fetch ab_c170 204 = some (.aload_n 0, 1, 0, 0) := rfl
theorem k170_205 : ab_fetch ab_c170 205 = some (.getfield 583, 3, 6, 9) := rfl
theorem k170_208 : ab_fetch ab_c170 208 = some (.iadd, 1, 0, 0) := rfl
theorem k170_209 : ab_fetch ab_c170 209 = some (.if_icmp .ge 49, 3, 258, 0) := rfl
theorem k170_212 : ab_fetch ab_c170 212 = some (.aload_n 0, 1, 0, 0) := rfl
theorem k170_213 : ab_fetch ab_c170 213 = some (.getfield 257, 3, 6, 6) := rfl
theorem k170_216 : ab_fetch ab_c170 216 = some (.iload_n 2, 1, 0, 0) := rfl
theorem k170_217 : ab_fetch ab_c170 217 = some (.iload_n 3, 1, 0, 0) := rfl
theorem k170_218 : ab_fetch ab_c170 218 = some (.iadd, 1, 0, 0) := rfl
theorem k170_219 : ab_fetch ab_c170 219 = some (.iload_n 3, 1, 0, 0) := rfl
theorem k170_220 : ab_fetch ab_c170 220 = some (.aload_n 0, 1, 0, 0) := rfl
theorem k170_221 : ab_fetch ab_c170 221 = some (.getfield 580, 3, 6, 8) := rfl
theorem k170_224 : ab_fetch ab_c170 224 = some (.if_icmp .ge 12, 3, 236, 0) := rfl
theorem k170_227 : ab_fetch ab_c170 227 = some (.aload_n 0, 1, 0, 0) := rfl
theorem k170_228 : ab_fetch ab_c170 228 = some (.getfield 282, 3, 6, 36) := rfl
theorem k170_231 : ab_fetch ab_c170 231 = some (.iload_n 3, 1, 0, 0) := rfl
theorem k170_232 : ab_fetch ab_c170 232 = some (.baload, 1, 0, 0) := rfl
theorem k170_233 : ab_fetch ab_c170 233 = some (.goto 18, 3, 251, 0) := rfl
theorem k170_236 : ab_fetch ab_c170 236 = some (.aload_n 0, 1, 0, 0) := rfl
theorem k170_237 : ab_fetch ab_c170 237 = some (.getfield 282, 3, 6, 36) := rfl
theorem k170_240 : ab_fetch ab_c170 240 = some (.ldc_w 476, 3, 65420, 0) := rfl
theorem k170_243 : ab_fetch ab_c170 243 = some (.iload_n 3, 1, 0, 0) := rfl
theorem k170_244 : ab_fetch ab_c170 244 = some (.iadd, 1, 0, 0) := rfl
theorem k170_245 : ab_fetch ab_c170 245 = some (.aload_n 0, 1, 0, 0) := rfl
theorem k170_246 : ab_fetch ab_c170 246 = some (.getfield 580, 3, 6, 8) := rfl
theorem k170_249 : ab_fetch ab_c170 249 = some (.isub, 1, 0, 0) := rfl
theorem k170_250 : ab_fetch ab_c170 250 = some (.baload, 1, 0, 0) := rfl
theorem k170_251 : ab_fetch ab_c170 251 = some (.bastore, 1, 0, 0) := rfl
theorem k170_252 : ab_fetch ab_c170 252 = some (.iinc 3 1, 3, 0, 0) := rfl
theorem k170_255 : ab_fetch ab_c170 255 = some (.goto (-56), 3, 199, 0) := rfl
theorem k170_258 : ab_fetch ab_c170 258 = some (.aload_n 0, 1, 0, 0) := rfl
theorem k170_259 : ab_fetch ab_c170 259 = some (.iload_n 2, 1, 0, 0) := rfl
theorem k170_260 : ab_fetch ab_c170 260 = some (.aload_n 0, 1, 0, 0) := rfl
theorem k170_261 : ab_fetch ab_c170 261 = some (.getfield 580, 3, 6, 8) := rfl
theorem k170_264 : ab_fetch ab_c170 264 = some (.iadd, 1, 0, 0) := rfl
theorem k170_265 : ab_fetch ab_c170 265 = some (.aload_n 0, 1, 0, 0) := rfl
theorem k170_266 : ab_fetch ab_c170 266 = some (.getfield 583, 3, 6, 9) := rfl
theorem k170_269 : ab_fetch ab_c170 269 = some (.iadd, 1, 0, 0) := rfl
theorem k170_270 : ab_fetch ab_c170 270 = some (.putfield 586, 3, 6, 7) := rfl
theorem k170_273 : ab_fetch ab_c170 273 = some (.aload_n 0, 1, 0, 0) := rfl
theorem k170_274 : ab_fetch ab_c170 274 = some (.aload_n 0, 1, 0, 0) := rfl
theorem k170_275 : ab_fetch ab_c170 275 = some (.getfield 405, 3, 6, 26) := rfl
theorem k170_278 : ab_fetch ab_c170 278 = some (.putfield 589, 3, 6, 10) := rfl
theorem k170_281 : ab_fetch ab_c170 281 = some (.return_, 1, 0, 0) := rfl
/- CodeSmithModel build()V -/
def f170_258 (s : mS) (x2 : Int32) : Option mS := some (mg (mg s 7 ((x2 + (s.1 8)) + (s.1 9))) 10 (s.1 26))
theorem t170_258 {d n : Nat} {Z : Nat → ab_C} (hn : 42 ≤ n) : ∀ (s : mS) (l : ab_L) (x2 : Int32) (h0 : ab_get l 0 = some (.ref 22)) (h2 : ab_get l 2 = some (.int x2)) (r : mS) (e : f170_258 s x2 = some r), ab_Rn (d + 2) 170 258 l [] (ab_hl n (mm_F s Z)) (.inl none) (ab_hl n (mm_F r Z)) := by
  intro s l x2 h0 h2 r e
  unfold f170_258 at e
  refine r_aload_n (pc := 258) p170 k170_258 h0 ?_
  refine r_iload_n (pc := 259) p170 k170_259 h2 ?_
  refine r_aload_n (pc := 260) p170 k170_260 h0 ?_
  refine m_get hn (pc := 261) p170 k170_261 (v := .int (s.1 8)) rfl ?_
  refine r_iadd (pc := 264) p170 k170_264 ?_
  refine r_aload_n (pc := 265) p170 k170_265 h0 ?_
  refine m_get hn (pc := 266) p170 k170_266 (v := .int (s.1 9)) rfl ?_
  refine r_iadd (pc := 269) p170 k170_269 ?_
  refine m_put hn (pc := 270) p170 k170_270 rfl rfl rfl rfl ?_
  refine r_aload_n (pc := 273) p170 k170_273 h0 ?_
  refine r_aload_n (pc := 274) p170 k170_274 h0 ?_
  refine m_get hn (pc := 275) p170 k170_275 (v := .int (s.1 26)) rfl ?_
  refine m_put hn (pc := 278) p170 k170_278 rfl rfl rfl rfl ?_
  cases e
  exact r_retV (pc := 281) p170 k170_281 rfl
def f170_251 (q199 : mS → Int32 → Int32 → Option mS) (s : mS) (x2 : Int32) (x3 : Int32) (y0 : Int32) (y1 : Int32) : Option mS := if ib y1 65536 then q199 (mb s 6 y1 y0.toInt8.toInt32) x2 (x3 + (1 : Int32)) else none
theorem t170_251 {d n : Nat} {Z : Nat → ab_C} (hn : 42 ≤ n) (q199 : mS → Int32 → Int32 → Option mS) (hq199 : ∀ (s : mS) (l : ab_L) (x2 : Int32) (x3 : Int32) (h0 : ab_get l 0 = some (.ref 22)) (h2 : ab_get l 2 = some (.int x2)) (h3 : ab_get l 3 = some (.int x3)) (r : mS) (e : q199 s x2 x3 = some r), ab_Rn (d + 2) 170 199 l [] (ab_hl n (mm_F s Z)) (.inl none) (ab_hl n (mm_F r Z))) : ∀ (s : mS) (l : ab_L) (x2 : Int32) (x3 : Int32) (y0 : Int32) (y1 : Int32) (h0 : ab_get l 0 = some (.ref 22)) (h2 : ab_get l 2 = some (.int x2)) (h3 : ab_get l 3 = some (.int x3)) (r : mS) (e : f170_251 q199 s x2 x3 y0 y1 = some r), ab_Rn (d + 2) 170 251 l [.int y0, .int y1, .ref 27] (ab_hl n (mm_F s Z)) (.inl none) (ab_hl n (mm_F r Z)) := by
  intro s l x2 x3 y0 y1 h0 h2 h3 r e
  unfold f170_251 at e
  obtain ⟨c, e⟩ := of_if e
  refine m_bst hn rfl (pc := 251) p170 k170_251 (k := 6) rfl (mm_arr6 _ Z) c ?_
  refine r_iinc (pc := 252) p170 k170_252 h3 (by decide) (v := (x3 + (1 : Int32))) rfl (fun l g h3 => ?_)
  have h0 := g 0 _ (by decide) h0 (Or.inl rfl)
  have h2 := g 2 _ (by decide) h2 (Or.inl rfl)
  refine r_goto (pc := 255) p170 k170_255 ?_
  exact hq199 (mb s 6 y1 y0.toInt8.toInt32) l x2 (x3 + (1 : Int32)) h0 h2 h3 r e
def f170_199 : Nat → mS → Int32 → Int32 → Option mS
  | 0, _, _, _ => none
  | u + 1, s, x2, x3 => (if ((s.1 8) + (s.1 9)) ≤ x3 then f170_258 s x2 else (if (s.1 8) ≤ x3 then if ib (((65420 : Int32) + x3) - (s.1 8)) 130840 then f170_251 (f170_199 u) s x2 x3 ((s.2 36) (((65420 : Int32) + x3) - (s.1 8)).toNatClampNeg) (x2 + x3) else none else if ib x3 130840 then f170_251 (f170_199 u) s x2 x3 ((s.2 36) x3.toNatClampNeg) (x2 + x3) else none))
theorem t170_199 {d n : Nat} {Z : Nat → ab_C} (hn : 42 ≤ n) : ∀ u : Nat, ∀ (s : mS) (l : ab_L) (x2 : Int32) (x3 : Int32) (h0 : ab_get l 0 = some (.ref 22)) (h2 : ab_get l 2 = some (.int x2)) (h3 : ab_get l 3 = some (.int x3)) (r : mS) (e : f170_199 u s x2 x3 = some r), ab_Rn (d + 2) 170 199 l [] (ab_hl n (mm_F s Z)) (.inl none) (ab_hl n (mm_F r Z)) := by
  intro u
  induction u with
  | zero => intro s l x2 x3 h0 h2 h3 r e; rw [f170_199] at e; cases e
  | succ u ih =>
    intro s l x2 x3 h0 h2 h3 r e
    rw [f170_199] at e
    refine r_iload_n (pc := 199) p170 k170_199 h3 ?_
    refine r_aload_n (pc := 200) p170 k170_200 h0 ?_
    refine m_get hn (pc := 201) p170 k170_201 (v := .int (s.1 8)) rfl ?_
    refine r_aload_n (pc := 204) p170 k170_204 h0 ?_
    refine m_get hn (pc := 205) p170 k170_205 (v := .int (s.1 9)) rfl ?_
    refine r_iadd (pc := 208) p170 k170_208 ?_
    refine r_ic_ge (pc := 209) p170 k170_209 (fun c => ?_) (fun c => ?_)
    · have e := (if_pos c).symm.trans e
      exact t170_258 hn s l x2 h0 h2 r e
    · have e := (if_neg c).symm.trans e
      refine r_aload_n (pc := 212) p170 k170_212 h0 ?_
      refine m_get hn (pc := 213) p170 k170_213 (v := .ref 27) rfl ?_
      refine r_iload_n (pc := 216) p170 k170_216 h2 ?_
      refine r_iload_n (pc := 217) p170 k170_217 h3 ?_
      refine r_iadd (pc := 218) p170 k170_218 ?_
      refine r_iload_n (pc := 219) p170 k170_219 h3 ?_
      refine r_aload_n (pc := 220) p170 k170_220 h0 ?_
      refine m_get hn (pc := 221) p170 k170_221 (v := .int (s.1 8)) rfl ?_
      refine r_ic_ge (pc := 224) p170 k170_224 (fun c => ?_) (fun c => ?_)
      · have e := (if_pos c).symm.trans e
        refine r_aload_n (pc := 236) p170 k170_236 h0 ?_
        refine m_get hn (pc := 237) p170 k170_237 (v := .ref 35) rfl ?_
        refine r_ldcwI (pc := 240) p170 k170_240 (v := (65420 : Int32)) rfl ?_
        refine r_iload_n (pc := 243) p170 k170_243 h3 ?_
        refine r_iadd (pc := 244) p170 k170_244 ?_
        refine r_aload_n (pc := 245) p170 k170_245 h0 ?_
        refine m_get hn (pc := 246) p170 k170_246 (v := .int (s.1 8)) rfl ?_
        refine r_isub (pc := 249) p170 k170_249 ?_
        obtain ⟨c, e⟩ := of_if e
        refine r_bald (pc := 250) p170 k170_250 (m_lt hn rfl) (f := (s.2 36)) rfl c ?_
        exact t170_251 hn (f170_199 u) ih s l x2 x3 ((s.2 36) (((65420 : Int32) + x3) - (s.1 8)).toNatClampNeg) (x2 + x3) h0 h2 h3 r e
      · have e := (if_neg c).symm.trans e
        refine r_aload_n (pc := 227) p170 k170_227 h0 ?_
        refine m_get hn (pc := 228) p170 k170_228 (v := .ref 35) rfl ?_
        refine r_iload_n (pc := 231) p170 k170_231 h3 ?_
        obtain ⟨c, e⟩ := of_if e
        refine r_bald (pc := 232) p170 k170_232 (m_lt hn rfl) (f := (s.2 36)) rfl c ?_
        refine r_goto (pc := 233) p170 k170_233 ?_
        exact t170_251 hn (f170_199 u) ih s l x2 x3 ((s.2 36) x3.toNatClampNeg) (x2 + x3) h0 h2 h3 r e
def f170_177 (s : mS) (x2 : Int32) : Option mS := if ib (0 : Int32) 2 then if ib (1 : Int32) 2 then f170_199 mm_U (mg (mg s 8 ((s.2 35) (0 : Int32).toNatClampNeg)) 9 ((s.2 35) (1 : Int32).toNatClampNeg)) x2 (0 : Int32) else none else none
theorem t170_177 {d n : Nat} {Z : Nat → ab_C} (hn : 42 ≤ n) : ∀ (s : mS) (l : ab_L) (x2 : Int32) (h0 : ab_get l 0 = some (.ref 22)) (h2 : ab_get l 2 = some (.int x2)) (r : mS) (e : f170_177 s x2 = some r), ab_Rn (d + 2) 170 177 l [] (ab_hl n (mm_F s Z)) (.inl none) (ab_hl n (mm_F r Z)) := by
  intro s l x2 h0 h2 r e
  unfold f170_177 at e
  refine r_aload_n (pc := 177) p170 k170_177 h0 ?_
  refine r_aload_n (pc := 178) p170 k170_178 h0 ?_
  refine m_get hn (pc := 179) p170 k170_179 (v := .ref 34) rfl ?_
  refine r_iconst (pc := 182) p170 k170_182 (v := (0 : Int32)) rfl ?_
  obtain ⟨c, e⟩ := of_if e
  refine r_iald (pc := 183) p170 k170_183 (m_lt hn rfl) (f := (s.2 35)) rfl c ?_
  refine m_put hn (pc := 184) p170 k170_184 rfl rfl rfl rfl ?_
  refine r_aload_n (pc := 187) p170 k170_187 h0 ?_
  refine r_aload_n (pc := 188) p170 k170_188 h0 ?_
  refine m_get hn (pc := 189) p170 k170_189 (v := .ref 34) rfl ?_
  refine r_iconst (pc := 192) p170 k170_192 (v := (1 : Int32)) rfl ?_
  obtain ⟨c, e⟩ := of_if e
  refine r_iald (pc := 193) p170 k170_193 (m_lt hn rfl) (f := (s.2 35)) rfl c ?_
  refine m_put hn (pc := 194) p170 k170_194 rfl rfl rfl rfl ?_
  refine r_iconst (pc := 197) p170 k170_197 (v := (0 : Int32)) rfl ?_
  refine r_istore_n (pc := 198) p170 k170_198 (by decide) (fun l g h3 => ?_)
  have h0 := g 0 _ (by decide) h0 (Or.inl rfl)
  have h2 := g 2 _ (by decide) h2 (Or.inl rfl)
  exact t170_199 hn mm_U (mg (mg s 8 ((s.2 35) (0 : Int32).toNatClampNeg)) 9 ((s.2 35) (1 : Int32).toNatClampNeg)) l x2 (0 : Int32) h0 h2 h3 r e
def f170_133 (s : mS) (x1 : Int32) (x2 : Int32) : Option mS := if ib (0 : Int32) 2 then ((f173 s (0 : Int32) x2 (0 : Int32) ((s.2 35) (0 : Int32).toNatClampNeg) (5 : Int32)).bind fun r1 => (if x1 = (2 : Int32) then if ib (0 : Int32) 2 then if ib (1 : Int32) 2 then ((f173 r1 (1 : Int32) (x2 + ((r1.2 35) (0 : Int32).toNatClampNeg)) (r1.1 34) ((r1.2 35) (1 : Int32).toNatClampNeg) (6 : Int32)).bind fun r2 => f170_177 r2 x2) else none else none else f170_177 r1 x2)) else none
theorem t170_133 {d n : Nat} {Z : Nat → ab_C} (hn : 42 ≤ n) : ∀ (s : mS) (l : ab_L) (x1 : Int32) (x2 : Int32) (h0 : ab_get l 0 = some (.ref 22)) (h1 : ab_get l 1 = some (.int x1)) (h2 : ab_get l 2 = some (.int x2)) (r : mS) (e : f170_133 s x1 x2 = some r), ab_Rn (d + 2) 170 133 l [] (ab_hl n (mm_F s Z)) (.inl none) (ab_hl n (mm_F r Z)) := by
  intro s l x1 x2 h0 h1 h2 r e
  unfold f170_133 at e
  refine r_aload_n (pc := 133) p170 k170_133 h0 ?_
  refine r_iconst (pc := 134) p170 k170_134 (v := (0 : Int32)) rfl ?_
  refine r_iload_n (pc := 135) p170 k170_135 h2 ?_
  refine r_iconst (pc := 136) p170 k170_136 (v := (0 : Int32)) rfl ?_
  refine r_aload_n (pc := 137) p170 k170_137 h0 ?_
  refine m_get hn (pc := 138) p170 k170_138 (v := .ref 34) rfl ?_
  refine r_iconst (pc := 141) p170 k170_141 (v := (0 : Int32)) rfl ?_
  obtain ⟨c, e⟩ := of_if e
  refine r_iald (pc := 142) p170 k170_142 (m_lt hn rfl) (f := (s.2 35)) rfl c ?_
  refine r_iconst (pc := 143) p170 k170_143 (v := (5 : Int32)) rfl ?_
  obtain ⟨r1, er1, e⟩ := of_bind e
  refine m_cv hn (pc := 144) p170 k170_144 rfl p173 (r := []) rfl rfl rfl rfl rfl (t173 hn s (0 : Int32) x2 (0 : Int32) ((s.2 35) (0 : Int32).toNatClampNeg) (5 : Int32) r1 er1) (w := []) rfl ?_
  refine r_iload_n (pc := 147) p170 k170_147 h1 ?_
  refine r_iconst (pc := 148) p170 k170_148 (v := (2 : Int32)) rfl ?_
  refine r_ic_ne (pc := 149) p170 k170_149 (fun c => ?_) (fun c => ?_)
  · have e := (if_neg c).symm.trans e
    exact t170_177 hn r1 l x2 h0 h2 r e
  · have e := (if_pos c).symm.trans e
    refine r_aload_n (pc := 152) p170 k170_152 h0 ?_
    refine r_iconst (pc := 153) p170 k170_153 (v := (1 : Int32)) rfl ?_
    refine r_iload_n (pc := 154) p170 k170_154 h2 ?_
    refine r_aload_n (pc := 155) p170 k170_155 h0 ?_
    refine m_get hn (pc := 156) p170 k170_156 (v := .ref 34) rfl ?_
    refine r_iconst (pc := 159) p170 k170_159 (v := (0 : Int32)) rfl ?_
    obtain ⟨c, e⟩ := of_if e
    refine r_iald (pc := 160) p170 k170_160 (m_lt hn rfl) (f := (r1.2 35)) rfl c ?_
    refine r_iadd (pc := 161) p170 k170_161 ?_
    refine r_aload_n (pc := 162) p170 k170_162 h0 ?_
    refine m_get hn (pc := 163) p170 k170_163 (v := .int (r1.1 34)) rfl ?_
    refine r_aload_n (pc := 166) p170 k170_166 h0 ?_
    refine m_get hn (pc := 167) p170 k170_167 (v := .ref 34) rfl ?_
    refine r_iconst (pc := 170) p170 k170_170 (v := (1 : Int32)) rfl ?_
    obtain ⟨c, e⟩ := of_if e
    refine r_iald (pc := 171) p170 k170_171 (m_lt hn rfl) (f := (r1.2 35)) rfl c ?_
    refine r_bipush (pc := 172) p170 k170_172 (v := (6 : Int32)) rfl ?_
    obtain ⟨r2, er2, e⟩ := of_bind e
    refine m_cv hn (pc := 174) p170 k170_174 rfl p173 (r := []) rfl rfl rfl rfl rfl (t173 hn r1 (1 : Int32) (x2 + ((r1.2 35) (0 : Int32).toNatClampNeg)) (r1.1 34) ((r1.2 35) (1 : Int32).toNatClampNeg) (6 : Int32) r2 er2) (w := []) rfl ?_
    exact t170_177 hn r2 l x2 h0 h2 r e
def f170_123 (q25 : mS → Int32 → Int32 → Int32 → Option mS) (s : mS) (x1 : Int32) (x2 : Int32) (x3 : Int32) (y0 : Int32) (y1 : Int32) : Option mS := ((f172 s y1 y0 (4 : Int32)).bind fun r1 => q25 r1 x1 x2 (x3 + (1 : Int32)))
theorem t170_123 {d n : Nat} {Z : Nat → ab_C} (hn : 42 ≤ n) (q25 : mS → Int32 → Int32 → Int32 → Option mS) (hq25 : ∀ (s : mS) (l : ab_L) (x1 : Int32) (x2 : Int32) (x3 : Int32) (h0 : ab_get l 0 = some (.ref 22)) (h1 : ab_get l 1 = some (.int x1)) (h2 : ab_get l 2 = some (.int x2)) (h3 : ab_get l 3 = some (.int x3)) (r : mS) (e : q25 s x1 x2 x3 = some r), ab_Rn (d + 2) 170 25 l [] (ab_hl n (mm_F s Z)) (.inl none) (ab_hl n (mm_F r Z))) : ∀ (s : mS) (l : ab_L) (x1 : Int32) (x2 : Int32) (x3 : Int32) (y0 : Int32) (y1 : Int32) (h0 : ab_get l 0 = some (.ref 22)) (h1 : ab_get l 1 = some (.int x1)) (h2 : ab_get l 2 = some (.int x2)) (h3 : ab_get l 3 = some (.int x3)) (r : mS) (e : f170_123 q25 s x1 x2 x3 y0 y1 = some r), ab_Rn (d + 2) 170 123 l [.int y0, .int y1, .ref 22] (ab_hl n (mm_F s Z)) (.inl none) (ab_hl n (mm_F r Z)) := by
  intro s l x1 x2 x3 y0 y1 h0 h1 h2 h3 r e
  unfold f170_123 at e
  refine r_iconst (pc := 123) p170 k170_123 (v := (4 : Int32)) rfl ?_
  obtain ⟨r1, er1, e⟩ := of_bind e
  refine m_cv hn (pc := 124) p170 k170_124 rfl p172 (r := []) rfl rfl rfl rfl rfl (t172 hn s y1 y0 (4 : Int32) r1 er1) (w := []) rfl ?_
  refine r_iinc (pc := 127) p170 k170_127 h3 (by decide) (v := (x3 + (1 : Int32))) rfl (fun l g h3 => ?_)
  have h0 := g 0 _ (by decide) h0 (Or.inl rfl)
  have h1 := g 1 _ (by decide) h1 (Or.inl rfl)
  have h2 := g 2 _ (by decide) h2 (Or.inl rfl)
  refine r_goto (pc := 130) p170 k170_130 ?_
  exact hq25 r1 l x1 x2 (x3 + (1 : Int32)) h0 h1 h2 h3 r e
def f170_25 : Nat → mS → Int32 → Int32 → Int32 → Option mS
  | 0, _, _, _, _ => none
  | u + 1, s, x1, x2, x3 => (if (13 : Int32) ≤ x3 then f170_133 s x1 x2 else (if x3 = 0 then f170_123 (f170_25 u) s x1 x2 x3 (1179403647 : Int32) ((4 : Int32) * x3) else (if x3 = (1 : Int32) then f170_123 (f170_25 u) s x1 x2 x3 (65793 : Int32) ((4 : Int32) * x3) else (if x3 = (4 : Int32) then f170_123 (f170_25 u) s x1 x2 x3 (15925250 : Int32) ((4 : Int32) * x3) else (if x3 = (5 : Int32) then f170_123 (f170_25 u) s x1 x2 x3 (1 : Int32) ((4 : Int32) * x3) else (if x3 = (6 : Int32) then ((f171 s).bind fun r1 => f170_123 (f170_25 u) s x1 x2 x3 r1 ((4 : Int32) * x3)) else (if x3 = (7 : Int32) then f170_123 (f170_25 u) s x1 x2 x3 (52 : Int32) ((4 : Int32) * x3) else (if x3 = (10 : Int32) then f170_123 (f170_25 u) s x1 x2 x3 (2097204 : Int32) ((4 : Int32) * x3) else (if x3 = (11 : Int32) then f170_123 (f170_25 u) s x1 x2 x3 x1 ((4 : Int32) * x3) else f170_123 (f170_25 u) s x1 x2 x3 (0 : Int32) ((4 : Int32) * x3))))))))))
theorem t170_25 {d n : Nat} {Z : Nat → ab_C} (hn : 42 ≤ n) : ∀ u : Nat, ∀ (s : mS) (l : ab_L) (x1 : Int32) (x2 : Int32) (x3 : Int32) (h0 : ab_get l 0 = some (.ref 22)) (h1 : ab_get l 1 = some (.int x1)) (h2 : ab_get l 2 = some (.int x2)) (h3 : ab_get l 3 = some (.int x3)) (r : mS) (e : f170_25 u s x1 x2 x3 = some r), ab_Rn (d + 2) 170 25 l [] (ab_hl n (mm_F s Z)) (.inl none) (ab_hl n (mm_F r Z)) := by
  intro u
  induction u with
  | zero => intro s l x1 x2 x3 h0 h1 h2 h3 r e; rw [f170_25] at e; cases e
  | succ u ih =>
    intro s l x1 x2 x3 h0 h1 h2 h3 r e
    rw [f170_25] at e
    refine r_iload_n (pc := 25) p170 k170_25 h3 ?_
    refine r_bipush (pc := 26) p170 k170_26 (v := (13 : Int32)) rfl ?_
    refine r_ic_ge (pc := 28) p170 k170_28 (fun c => ?_) (fun c => ?_)
    · have e := (if_pos c).symm.trans e
      exact t170_133 hn s l x1 x2 h0 h1 h2 r e
    · have e := (if_neg c).symm.trans e
      refine r_aload_n (pc := 31) p170 k170_31 h0 ?_
      refine r_iconst (pc := 32) p170 k170_32 (v := (4 : Int32)) rfl ?_
      refine r_iload_n (pc := 33) p170 k170_33 h3 ?_
      refine r_imul (pc := 34) p170 k170_34 ?_
      refine r_iload_n (pc := 35) p170 k170_35 h3 ?_
      refine r_if_ne (pc := 36) p170 k170_36 (fun c => ?_) (fun c => ?_)
      · have e := (if_neg c).symm.trans e
        refine r_iload_n (pc := 45) p170 k170_45 h3 ?_
        refine r_iconst (pc := 46) p170 k170_46 (v := (1 : Int32)) rfl ?_
        refine r_ic_ne (pc := 47) p170 k170_47 (fun c => ?_) (fun c => ?_)
        · have e := (if_neg c).symm.trans e
          refine r_iload_n (pc := 56) p170 k170_56 h3 ?_
          refine r_iconst (pc := 57) p170 k170_57 (v := (4 : Int32)) rfl ?_
          refine r_ic_ne (pc := 58) p170 k170_58 (fun c => ?_) (fun c => ?_)
          · have e := (if_neg c).symm.trans e
            refine r_iload_n (pc := 67) p170 k170_67 h3 ?_
            refine r_iconst (pc := 68) p170 k170_68 (v := (5 : Int32)) rfl ?_
            refine r_ic_ne (pc := 69) p170 k170_69 (fun c => ?_) (fun c => ?_)
            · have e := (if_neg c).symm.trans e
              refine r_iload_n (pc := 76) p170 k170_76 h3 ?_
              refine r_bipush (pc := 77) p170 k170_77 (v := (6 : Int32)) rfl ?_
              refine r_ic_ne (pc := 79) p170 k170_79 (fun c => ?_) (fun c => ?_)
              · have e := (if_neg c).symm.trans e
                refine r_iload_n (pc := 89) p170 k170_89 h3 ?_
                refine r_bipush (pc := 90) p170 k170_90 (v := (7 : Int32)) rfl ?_
                refine r_ic_ne (pc := 92) p170 k170_92 (fun c => ?_) (fun c => ?_)
                · have e := (if_neg c).symm.trans e
                  refine r_iload_n (pc := 100) p170 k170_100 h3 ?_
                  refine r_bipush (pc := 101) p170 k170_101 (v := (10 : Int32)) rfl ?_
                  refine r_ic_ne (pc := 103) p170 k170_103 (fun c => ?_) (fun c => ?_)
                  · have e := (if_neg c).symm.trans e
                    refine r_iload_n (pc := 112) p170 k170_112 h3 ?_
                    refine r_bipush (pc := 113) p170 k170_113 (v := (11 : Int32)) rfl ?_
                    refine r_ic_ne (pc := 115) p170 k170_115 (fun c => ?_) (fun c => ?_)
                    · have e := (if_neg c).symm.trans e
                      refine r_iconst (pc := 122) p170 k170_122 (v := (0 : Int32)) rfl ?_
                      exact t170_123 hn (f170_25 u) ih s l x1 x2 x3 (0 : Int32) ((4 : Int32) * x3) h0 h1 h2 h3 r e
                    · have e := (if_pos c).symm.trans e
                      refine r_iload_n (pc := 118) p170 k170_118 h1 ?_
                      refine r_goto (pc := 119) p170 k170_119 ?_
                      exact t170_123 hn (f170_25 u) ih s l x1 x2 x3 x1 ((4 : Int32) * x3) h0 h1 h2 h3 r e
                  · have e := (if_pos c).symm.trans e
                    refine r_ldcwI (pc := 106) p170 k170_106 (v := (2097204 : Int32)) rfl ?_
                    refine r_goto (pc := 109) p170 k170_109 ?_
                    exact t170_123 hn (f170_25 u) ih s l x1 x2 x3 (2097204 : Int32) ((4 : Int32) * x3) h0 h1 h2 h3 r e
                · have e := (if_pos c).symm.trans e
                  refine r_bipush (pc := 95) p170 k170_95 (v := (52 : Int32)) rfl ?_
                  refine r_goto (pc := 97) p170 k170_97 ?_
                  exact t170_123 hn (f170_25 u) ih s l x1 x2 x3 (52 : Int32) ((4 : Int32) * x3) h0 h1 h2 h3 r e
              · have e := (if_pos c).symm.trans e
                refine r_aload_n (pc := 82) p170 k170_82 h0 ?_
                obtain ⟨r1, er1, e⟩ := of_bind e
                refine m_cv hn (pc := 83) p170 k170_83 rfl p171 (r := [.int ((4 : Int32) * x3), .ref 22]) rfl rfl rfl rfl rfl (t171 hn s r1 er1) (w := [.int r1, .int ((4 : Int32) * x3), .ref 22]) rfl ?_
                refine r_goto (pc := 86) p170 k170_86 ?_
                exact t170_123 hn (f170_25 u) ih s l x1 x2 x3 r1 ((4 : Int32) * x3) h0 h1 h2 h3 r e
            · have e := (if_pos c).symm.trans e
              refine r_iconst (pc := 72) p170 k170_72 (v := (1 : Int32)) rfl ?_
              refine r_goto (pc := 73) p170 k170_73 ?_
              exact t170_123 hn (f170_25 u) ih s l x1 x2 x3 (1 : Int32) ((4 : Int32) * x3) h0 h1 h2 h3 r e
          · have e := (if_pos c).symm.trans e
            refine r_ldcwI (pc := 61) p170 k170_61 (v := (15925250 : Int32)) rfl ?_
            refine r_goto (pc := 64) p170 k170_64 ?_
            exact t170_123 hn (f170_25 u) ih s l x1 x2 x3 (15925250 : Int32) ((4 : Int32) * x3) h0 h1 h2 h3 r e
        · have e := (if_pos c).symm.trans e
          refine r_ldcwI (pc := 50) p170 k170_50 (v := (65793 : Int32)) rfl ?_
          refine r_goto (pc := 53) p170 k170_53 ?_
          exact t170_123 hn (f170_25 u) ih s l x1 x2 x3 (65793 : Int32) ((4 : Int32) * x3) h0 h1 h2 h3 r e
      · have e := (if_pos c).symm.trans e
        refine r_ldcwI (pc := 39) p170 k170_39 (v := (1179403647 : Int32)) rfl ?_
        refine r_goto (pc := 42) p170 k170_42 ?_
        exact t170_123 hn (f170_25 u) ih s l x1 x2 x3 (1179403647 : Int32) ((4 : Int32) * x3) h0 h1 h2 h3 r e
def f170_14 (s : mS) (y0 : Int32) : Option mS := f170_25 mm_U s y0 ((52 : Int32) + ((32 : Int32) * y0)) (0 : Int32)
theorem t170_14 {d n : Nat} {Z : Nat → ab_C} (hn : 42 ≤ n) : ∀ (s : mS) (l : ab_L) (y0 : Int32) (h0 : ab_get l 0 = some (.ref 22)) (r : mS) (e : f170_14 s y0 = some r), ab_Rn (d + 2) 170 14 l [.int y0] (ab_hl n (mm_F s Z)) (.inl none) (ab_hl n (mm_F r Z)) := by
  intro s l y0 h0 r e
  unfold f170_14 at e
  refine r_istore_n (pc := 14) p170 k170_14 (by decide) (fun l g h1 => ?_)
  have h0 := g 0 _ (by decide) h0 (Or.inl rfl)
  refine r_bipush (pc := 15) p170 k170_15 (v := (52 : Int32)) rfl ?_
  refine r_bipush (pc := 17) p170 k170_17 (v := (32 : Int32)) rfl ?_
  refine r_iload_n (pc := 19) p170 k170_19 h1 ?_
  refine r_imul (pc := 20) p170 k170_20 ?_
  refine r_iadd (pc := 21) p170 k170_21 ?_
  refine r_istore_n (pc := 22) p170 k170_22 (by decide) (fun l g h2 => ?_)
  have h0 := g 0 _ (by decide) h0 (Or.inl rfl)
  have h1 := g 1 _ (by decide) h1 (Or.inl rfl)
  refine r_iconst (pc := 23) p170 k170_23 (v := (0 : Int32)) rfl ?_
  refine r_istore_n (pc := 24) p170 k170_24 (by decide) (fun l g h3 => ?_)
  have h0 := g 0 _ (by decide) h0 (Or.inl rfl)
  have h1 := g 1 _ (by decide) h1 (Or.inl rfl)
  have h2 := g 2 _ (by decide) h2 (Or.inl rfl)
  exact t170_25 hn mm_U s l y0 ((52 : Int32) + ((32 : Int32) * y0)) (0 : Int32) h0 h1 h2 h3 r e
def f170 (s : mS) : Option mS := if ib (1 : Int32) 2 then (if ((s.2 35) (1 : Int32).toNatClampNeg) ≤ 0 then f170_14 s (1 : Int32) else f170_14 s (2 : Int32)) else none
theorem t170 {d n : Nat} {Z : Nat → ab_C} (hn : 42 ≤ n) (s : mS) (r : mS) (e : f170 s = some r) : ab_Rn (d + 2) 170 0 (lv_args 0 [.ref 22]) [] (ab_hl n (mm_F s Z)) (.inl none) (ab_hl n (mm_F r Z)) := by
  unfold f170 at e
  obtain ⟨l, hl⟩ : ∃ l, l = (lv_args 0 [.ref 22]) := ⟨_, rfl⟩
  rw [← hl]
  have h0 : ab_get l 0 = some (.ref 22) := by rw [hl]; rfl
  refine r_aload_n (pc := 0) p170 k170_0 h0 ?_
  refine m_get hn (pc := 1) p170 k170_1 (v := .ref 34) rfl ?_
  refine r_iconst (pc := 4) p170 k170_4 (v := (1 : Int32)) rfl ?_
  obtain ⟨c, e⟩ := of_if e
  refine r_iald (pc := 5) p170 k170_5 (m_lt hn rfl) (f := (s.2 35)) rfl c ?_
  refine r_if_le (pc := 6) p170 k170_6 (fun c => ?_) (fun c => ?_)
  · have e := (if_pos c).symm.trans e
    refine r_iconst (pc := 13) p170 k170_13 (v := (1 : Int32)) rfl ?_
    exact t170_14 hn s l (1 : Int32) h0 r e
  · have e := (if_neg c).symm.trans e
    refine r_iconst (pc := 9) p170 k170_9 (v := (2 : Int32)) rfl ?_
    refine r_goto (pc := 10) p170 k170_10 ?_
    exact t170_14 hn s l (2 : Int32) h0 r e

theorem p113 : ab_prog[113]? = some (ab_m113, ab_c113) := rfl
theorem k113_0 : ab_fetch ab_c113 0 = some (.aload_n 0, 1, 0, 0) := rfl
theorem k113_1 : ab_fetch ab_c113 1 = some (.aload_n 0, 1, 0, 0) := rfl
theorem k113_2 : ab_fetch ab_c113 2 = some (.getfield 304, 3, 6, 5) := rfl
theorem k113_5 : ab_fetch ab_c113 5 = some (.putfield 557, 3, 6, 14) := rfl
theorem k113_8 : ab_fetch ab_c113 8 = some (.aload_n 0, 1, 0, 0) := rfl
theorem k113_9 : ab_fetch ab_c113 9 = some (.iconst 0, 1, 0, 0) := rfl
theorem k113_10 : ab_fetch ab_c113 10 = some (.putfield 304, 3, 6, 5) := rfl
theorem k113_13 : ab_fetch ab_c113 13 = some (.aload_n 0, 1, 0, 0) := rfl
theorem k113_14 : ab_fetch ab_c113 14 = some (.iconst 0, 1, 0, 0) := rfl
theorem k113_15 : ab_fetch ab_c113 15 = some (.putfield 307, 3, 6, 11) := rfl
theorem k113_18 : ab_fetch ab_c113 18 = some (.aload_n 0, 1, 0, 0) := rfl
theorem k113_19 : ab_fetch ab_c113 19 = some (.iconst 0, 1, 0, 0) := rfl
theorem k113_20 : ab_fetch ab_c113 20 = some (.putfield 405, 3, 6, 26) := rfl
theorem k113_23 : ab_fetch ab_c113 23 = some (.aload_n 0, 1, 0, 0) := rfl
theorem k113_24 : ab_fetch ab_c113 24 = some (.iconst 0, 1, 0, 0) := rfl
theorem k113_25 : ab_fetch ab_c113 25 = some (.putfield 408, 3, 6, 19) := rfl
theorem k113_28 : ab_fetch ab_c113 28 = some (.aload_n 0, 1, 0, 0) := rfl
theorem k113_29 : ab_fetch ab_c113 29 = some (.iconst 0, 1, 0, 0) := rfl
theorem k113_30 : ab_fetch ab_c113 30 = some (.putfield 418, 3, 6, 34) := rfl
theorem k113_33 : ab_fetch ab_c113 33 = some (.aload_n 0, 1, 0, 0) := rfl
theorem k113_34 : ab_fetch ab_c113 34 = some (.invokevirtual 592, 3, 114, 0) := rfl
theorem k113_37 : ab_fetch ab_c113 37 = some (.aload_n 0, 1, 0, 0) := rfl
theorem k113_38 : ab_fetch ab_c113 38 = some (.aload_n 0, 1, 0, 0) := rfl
theorem k113_39 : ab_fetch ab_c113 39 = some (.getfield 278, 3, 6, 35) := rfl
theorem k113_42 : ab_fetch ab_c113 42 = some (.iconst 0, 1, 0, 0) := rfl
theorem k113_43 : ab_fetch ab_c113 43 = some (.iaload, 1, 0, 0) := rfl
theorem k113_44 : ab_fetch ab_c113 44 = some (.sipush 4095, 3, 0, 0) := rfl
theorem k113_47 : ab_fetch ab_c113 47 = some (.iadd, 1, 0, 0) := rfl
theorem k113_48 : ab_fetch ab_c113 48 = some (.sipush 4096, 3, 0, 0) := rfl
theorem k113_51 : ab_fetch ab_c113 51 = some (.idiv, 1, 0, 0) := rfl
theorem k113_52 : ab_fetch ab_c113 52 = some (.sipush 4096, 3, 0, 0) := rfl
theorem k113_55 : ab_fetch ab_c113 55 = some (.imul, 1, 0, 0) := rfl
theorem k113_56 : ab_fetch ab_c113 56 = some (.putfield 418, 3, 6, 34) := rfl
theorem k113_59 : ab_fetch ab_c113 59 = some (.aload_n 0, 1, 0, 0) := rfl
theorem k113_60 : ab_fetch ab_c113 60 = some (.iconst 1, 1, 0, 0) := rfl
theorem k113_61 : ab_fetch ab_c113 61 = some (.putfield 408, 3, 6, 19) := rfl
theorem k113_64 : ab_fetch ab_c113 64 = some (.aload_n 0, 1, 0, 0) := rfl
theorem k113_65 : ab_fetch ab_c113 65 = some (.getfield 307, 3, 6, 11) := rfl
theorem k113_68 : ab_fetch ab_c113 68 = some (.ifCond .ne 7, 3, 75, 0) := rfl
theorem k113_71 : ab_fetch ab_c113 71 = some (.aload_n 0, 1, 0, 0) := rfl
theorem k113_72 : ab_fetch ab_c113 72 = some (.invokevirtual 592, 3, 114, 0) := rfl
theorem k113_75 : ab_fetch ab_c113 75 = some (.aload_n 0, 1, 0, 0) := rfl
theorem k113_76 : ab_fetch ab_c113 76 = some (.aload_n 0, 1, 0, 0) := rfl
theorem k113_77 : ab_fetch ab_c113 77 = some (.getfield 307, 3, 6, 11) := rfl
theorem k113_80 : ab_fetch ab_c113 80 = some (.ifCond .le 7, 3, 87, 0) := rfl
theorem k113_83 : ab_fetch ab_c113 83 = some (.iconst 1, 1, 0, 0) := rfl
theorem k113_84 : ab_fetch ab_c113 84 = some (.goto 4, 3, 88, 0) := rfl
theorem k113_87 : ab_fetch ab_c113 87 = some (.iconst 0, 1, 0, 0) := rfl
theorem k113_88 : ab_fetch ab_c113 88 = some (.putfield 300, 3, 6, 3) := rfl
theorem k113_91 : ab_fetch ab_c113 91 = some (.aload_n 0, 1, 0, 0) := rfl
theorem k113_92 : ab_fetch ab_c113 92 = some (.getfield 300, 3, 6, 3) := rfl
theorem k113_95 : ab_fetch ab_c113 95 = some (.ifCond .le 5, 3, 100, 0) := rfl
theorem k113_98 : ab_fetch ab_c113 98 = some (.iconst 0, 1, 0, 0) := rfl
theorem k113_99 : ab_fetch ab_c113 99 = some (.ireturn, 1, 0, 0) := rfl
theorem k113_100 : ab_fetch ab_c113 100 = some (.aload_n 0, 1, 0, 0) := rfl
theorem k113_101 : ab_fetch ab_c113 101 = some (.invokevirtual 595, 3, 170, 0) := rfl
theorem k113_104 : ab_fetch ab_c113 104 = some (.aload_n 0, 1, 0, 0) := rfl
theorem k113_105 : ab_fetch ab_c113 105 = some (.getfield 586, 3, 6, 7) := rfl
theorem k113_108 : ab_fetch ab_c113 108 = some (.ireturn, 1, 0, 0) := rfl
/- CodeSmithModel assemble()I -/
def f113_88 (s : mS) (y0 : Int32) : Option (Int32 × mS) := (if y0 ≤ 0 then ((f170 (mg s 3 y0)).bind fun r1 => some ((r1.1 7), r1)) else some ((0 : Int32), (mg s 3 y0)))
theorem t113_88 {d n : Nat} {Z : Nat → ab_C} (hn : 42 ≤ n) : ∀ (s : mS) (l : ab_L) (y0 : Int32) (h0 : ab_get l 0 = some (.ref 22)) (r : Int32 × mS) (e : f113_88 s y0 = some r), ab_Rn (d + 12) 113 88 l [.int y0, .ref 22] (ab_hl n (mm_F s Z)) (.inl (some (.int r.1))) (ab_hl n (mm_F r.2 Z)) := by
  intro s l y0 h0 r e
  unfold f113_88 at e
  refine m_put hn (pc := 88) p113 k113_88 rfl rfl rfl rfl ?_
  refine r_aload_n (pc := 91) p113 k113_91 h0 ?_
  refine m_get hn (pc := 92) p113 k113_92 (v := .int y0) rfl ?_
  refine r_if_le (pc := 95) p113 k113_95 (fun c => ?_) (fun c => ?_)
  · have e := (if_pos c).symm.trans e
    refine r_aload_n (pc := 100) p113 k113_100 h0 ?_
    obtain ⟨r1, er1, e⟩ := of_bind e
    refine m_cv hn (pc := 101) p113 k113_101 rfl p170 (r := []) rfl rfl rfl rfl rfl (t170 hn (mg s 3 y0) r1 er1) (w := []) rfl ?_
    refine r_aload_n (pc := 104) p113 k113_104 h0 ?_
    refine m_get hn (pc := 105) p113 k113_105 (v := .int (r1.1 7)) rfl ?_
    cases e
    exact r_retI (pc := 108) p113 k113_108 rfl
  · have e := (if_neg c).symm.trans e
    refine r_iconst (pc := 98) p113 k113_98 (v := (0 : Int32)) rfl ?_
    cases e
    exact r_retI (pc := 99) p113 k113_99 rfl
def f113_75 (s : mS) : Option (Int32 × mS) := (if (s.1 11) ≤ 0 then f113_88 s (0 : Int32) else f113_88 s (1 : Int32))
theorem t113_75 {d n : Nat} {Z : Nat → ab_C} (hn : 42 ≤ n) : ∀ (s : mS) (l : ab_L)  (h0 : ab_get l 0 = some (.ref 22)) (r : Int32 × mS) (e : f113_75 s  = some r), ab_Rn (d + 12) 113 75 l [] (ab_hl n (mm_F s Z)) (.inl (some (.int r.1))) (ab_hl n (mm_F r.2 Z)) := by
  intro s l h0 r e
  unfold f113_75 at e
  refine r_aload_n (pc := 75) p113 k113_75 h0 ?_
  refine r_aload_n (pc := 76) p113 k113_76 h0 ?_
  refine m_get hn (pc := 77) p113 k113_77 (v := .int (s.1 11)) rfl ?_
  refine r_if_le (pc := 80) p113 k113_80 (fun c => ?_) (fun c => ?_)
  · have e := (if_pos c).symm.trans e
    refine r_iconst (pc := 87) p113 k113_87 (v := (0 : Int32)) rfl ?_
    exact t113_88 hn s l (0 : Int32) h0 r e
  · have e := (if_neg c).symm.trans e
    refine r_iconst (pc := 83) p113 k113_83 (v := (1 : Int32)) rfl ?_
    refine r_goto (pc := 84) p113 k113_84 ?_
    exact t113_88 hn s l (1 : Int32) h0 r e
def f113 (s : mS) : Option (Int32 × mS) := ((f114 (mg (mg (mg (mg (mg (mg s 14 (s.1 5)) 5 (0 : Int32)) 11 (0 : Int32)) 26 (0 : Int32)) 19 (0 : Int32)) 34 (0 : Int32))).bind fun r1 => if ib (0 : Int32) 2 then (if (r1.1 11) = 0 then ((f114 (mg (mg r1 34 (((((r1.2 35) (0 : Int32).toNatClampNeg) + (4095 : Int32)) / (4096 : Int32)) * (4096 : Int32))) 19 (1 : Int32))).bind fun r2 => f113_75 r2) else f113_75 (mg (mg r1 34 (((((r1.2 35) (0 : Int32).toNatClampNeg) + (4095 : Int32)) / (4096 : Int32)) * (4096 : Int32))) 19 (1 : Int32))) else none)
theorem t113 {d n : Nat} {Z : Nat → ab_C} (hn : 42 ≤ n) (s : mS) (r : Int32 × mS) (e : f113 s = some r) : ab_Rn (d + 12) 113 0 (lv_args 0 [.ref 22]) [] (ab_hl n (mm_F s Z)) (.inl (some (.int r.1))) (ab_hl n (mm_F r.2 Z)) := by
  unfold f113 at e
  obtain ⟨l, hl⟩ : ∃ l, l = (lv_args 0 [.ref 22]) := ⟨_, rfl⟩
  rw [← hl]
  have h0 : ab_get l 0 = some (.ref 22) := by rw [hl]; rfl
  refine r_aload_n (pc := 0) p113 k113_0 h0 ?_
  refine r_aload_n (pc := 1) p113 k113_1 h0 ?_
  refine m_get hn (pc := 2) p113 k113_2 (v := .int (s.1 5)) rfl ?_
  refine m_put hn (pc := 5) p113 k113_5 rfl rfl rfl rfl ?_
  refine r_aload_n (pc := 8) p113 k113_8 h0 ?_
  refine r_iconst (pc := 9) p113 k113_9 (v := (0 : Int32)) rfl ?_
  refine m_put hn (pc := 10) p113 k113_10 rfl rfl rfl rfl ?_
  refine r_aload_n (pc := 13) p113 k113_13 h0 ?_
  refine r_iconst (pc := 14) p113 k113_14 (v := (0 : Int32)) rfl ?_
  refine m_put hn (pc := 15) p113 k113_15 rfl rfl rfl rfl ?_
  refine r_aload_n (pc := 18) p113 k113_18 h0 ?_
  refine r_iconst (pc := 19) p113 k113_19 (v := (0 : Int32)) rfl ?_
  refine m_put hn (pc := 20) p113 k113_20 rfl rfl rfl rfl ?_
  refine r_aload_n (pc := 23) p113 k113_23 h0 ?_
  refine r_iconst (pc := 24) p113 k113_24 (v := (0 : Int32)) rfl ?_
  refine m_put hn (pc := 25) p113 k113_25 rfl rfl rfl rfl ?_
  refine r_aload_n (pc := 28) p113 k113_28 h0 ?_
  refine r_iconst (pc := 29) p113 k113_29 (v := (0 : Int32)) rfl ?_
  refine m_put hn (pc := 30) p113 k113_30 rfl rfl rfl rfl ?_
  refine r_aload_n (pc := 33) p113 k113_33 h0 ?_
  obtain ⟨r1, er1, e⟩ := of_bind e
  refine m_cv hn (pc := 34) p113 k113_34 rfl p114 (r := []) rfl rfl rfl rfl rfl (t114 hn (mg (mg (mg (mg (mg (mg s 14 (s.1 5)) 5 (0 : Int32)) 11 (0 : Int32)) 26 (0 : Int32)) 19 (0 : Int32)) 34 (0 : Int32)) r1 er1) (w := []) rfl ?_
  refine r_aload_n (pc := 37) p113 k113_37 h0 ?_
  refine r_aload_n (pc := 38) p113 k113_38 h0 ?_
  refine m_get hn (pc := 39) p113 k113_39 (v := .ref 34) rfl ?_
  refine r_iconst (pc := 42) p113 k113_42 (v := (0 : Int32)) rfl ?_
  obtain ⟨c, e⟩ := of_if e
  refine r_iald (pc := 43) p113 k113_43 (m_lt hn rfl) (f := (r1.2 35)) rfl c ?_
  refine r_sipush (pc := 44) p113 k113_44 (v := (4095 : Int32)) rfl ?_
  refine r_iadd (pc := 47) p113 k113_47 ?_
  refine r_sipush (pc := 48) p113 k113_48 (v := (4096 : Int32)) rfl ?_
  refine r_idiv (pc := 51) p113 k113_51 (by decide) ?_
  refine r_sipush (pc := 52) p113 k113_52 (v := (4096 : Int32)) rfl ?_
  refine r_imul (pc := 55) p113 k113_55 ?_
  refine m_put hn (pc := 56) p113 k113_56 rfl rfl rfl rfl ?_
  refine r_aload_n (pc := 59) p113 k113_59 h0 ?_
  refine r_iconst (pc := 60) p113 k113_60 (v := (1 : Int32)) rfl ?_
  refine m_put hn (pc := 61) p113 k113_61 rfl rfl rfl rfl ?_
  refine r_aload_n (pc := 64) p113 k113_64 h0 ?_
  refine m_get hn (pc := 65) p113 k113_65 (v := .int (r1.1 11)) rfl ?_
  refine r_if_ne (pc := 68) p113 k113_68 (fun c => ?_) (fun c => ?_)
  · have e := (if_neg c).symm.trans e
    exact t113_75 hn (mg (mg r1 34 (((((r1.2 35) (0 : Int32).toNatClampNeg) + (4095 : Int32)) / (4096 : Int32)) * (4096 : Int32))) 19 (1 : Int32)) l h0 r e
  · have e := (if_pos c).symm.trans e
    refine r_aload_n (pc := 71) p113 k113_71 h0 ?_
    obtain ⟨r2, er2, e⟩ := of_bind e
    refine m_cv hn (pc := 72) p113 k113_72 rfl p114 (r := []) rfl rfl rfl rfl rfl (t114 hn (mg (mg r1 34 (((((r1.2 35) (0 : Int32).toNatClampNeg) + (4095 : Int32)) / (4096 : Int32)) * (4096 : Int32))) 19 (1 : Int32)) r2 er2) (w := []) rfl ?_
    exact t113_75 hn r2 l h0 r e

theorem p174 : ab_prog[174]? = some (ab_m174, ab_c174) := rfl
theorem k174_0 : ab_fetch ab_c174 0 = some (.aload_n 0, 1, 0, 0) := rfl
theorem k174_1 : ab_fetch ab_c174 1 = some (.iconst 0, 1, 0, 0) := rfl
theorem k174_2 : ab_fetch ab_c174 2 = some (.putfield 300, 3, 6, 3) := rfl
theorem k174_5 : ab_fetch ab_c174 5 = some (.aload_n 0, 1, 0, 0) := rfl
theorem k174_6 : ab_fetch ab_c174 6 = some (.getfield 307, 3, 6, 11) := rfl
theorem k174_9 : ab_fetch ab_c174 9 = some (.ifCond .ne 7, 3, 16, 0) := rfl
theorem k174_12 : ab_fetch ab_c174 12 = some (.iconst 0, 1, 0, 0) := rfl
theorem k174_13 : ab_fetch ab_c174 13 = some (.goto 39, 3, 52, 0) := rfl
theorem k174_16 : ab_fetch ab_c174 16 = some (.iload_n 1, 1, 0, 0) := rfl
theorem k174_17 : ab_fetch ab_c174 17 = some (.ifCond .ne 10, 3, 27, 0) := rfl
theorem k174_20 : ab_fetch ab_c174 20 = some (.aload_n 0, 1, 0, 0) := rfl
theorem k174_21 : ab_fetch ab_c174 21 = some (.getfield 319, 3, 6, 13) := rfl
theorem k174_24 : ab_fetch ab_c174 24 = some (.goto 28, 3, 52, 0) := rfl
theorem k174_27 : ab_fetch ab_c174 27 = some (.iload_n 1, 1, 0, 0) := rfl
theorem k174_28 : ab_fetch ab_c174 28 = some (.iconst 1, 1, 0, 0) := rfl
theorem k174_29 : ab_fetch ab_c174 29 = some (.if_icmp .ne 10, 3, 39, 0) := rfl
theorem k174_32 : ab_fetch ab_c174 32 = some (.aload_n 0, 1, 0, 0) := rfl
theorem k174_33 : ab_fetch ab_c174 33 = some (.getfield 313, 3, 6, 12) := rfl
theorem k174_36 : ab_fetch ab_c174 36 = some (.goto 16, 3, 52, 0) := rfl
theorem k174_39 : ab_fetch ab_c174 39 = some (.iload_n 1, 1, 0, 0) := rfl
theorem k174_40 : ab_fetch ab_c174 40 = some (.iconst 2, 1, 0, 0) := rfl
theorem k174_41 : ab_fetch ab_c174 41 = some (.if_icmp .ne 10, 3, 51, 0) := rfl
theorem k174_44 : ab_fetch ab_c174 44 = some (.aload_n 0, 1, 0, 0) := rfl
theorem k174_45 : ab_fetch ab_c174 45 = some (.getfield 307, 3, 6, 11) := rfl
theorem k174_48 : ab_fetch ab_c174 48 = some (.goto 4, 3, 52, 0) := rfl
theorem k174_51 : ab_fetch ab_c174 51 = some (.iconst 0, 1, 0, 0) := rfl
theorem k174_52 : ab_fetch ab_c174 52 = some (.ireturn, 1, 0, 0) := rfl
/- CodeSmithModel error(I)I -/
def f174 (s : mS) (x1 : Int32) : Option (Int32 × mS) := (if (s.1 11) = 0 then some ((0 : Int32), (mg s 3 (0 : Int32))) else (if x1 = 0 then some ((s.1 13), (mg s 3 (0 : Int32))) else (if x1 = (1 : Int32) then some ((s.1 12), (mg s 3 (0 : Int32))) else (if x1 = (2 : Int32) then some ((s.1 11), (mg s 3 (0 : Int32))) else some ((0 : Int32), (mg s 3 (0 : Int32)))))))
theorem t174 {d n : Nat} {Z : Nat → ab_C} (hn : 42 ≤ n) (s : mS) (x1 : Int32) (r : Int32 × mS) (e : f174 s x1 = some r) : ab_Rn d 174 0 (lv_args 0 [.ref 22, .int x1]) [] (ab_hl n (mm_F s Z)) (.inl (some (.int r.1))) (ab_hl n (mm_F r.2 Z)) := by
  unfold f174 at e
  obtain ⟨l, hl⟩ : ∃ l, l = (lv_args 0 [.ref 22, .int x1]) := ⟨_, rfl⟩
  rw [← hl]
  have h0 : ab_get l 0 = some (.ref 22) := by rw [hl]; rfl
  have h1 : ab_get l 1 = some (.int x1) := by rw [hl]; rfl
  refine r_aload_n (pc := 0) p174 k174_0 h0 ?_
  refine r_iconst (pc := 1) p174 k174_1 (v := (0 : Int32)) rfl ?_
  refine m_put hn (pc := 2) p174 k174_2 rfl rfl rfl rfl ?_
  refine r_aload_n (pc := 5) p174 k174_5 h0 ?_
  refine m_get hn (pc := 6) p174 k174_6 (v := .int (s.1 11)) rfl ?_
  refine r_if_ne (pc := 9) p174 k174_9 (fun c => ?_) (fun c => ?_)
  · have e := (if_neg c).symm.trans e
    refine r_iload_n (pc := 16) p174 k174_16 h1 ?_
    refine r_if_ne (pc := 17) p174 k174_17 (fun c => ?_) (fun c => ?_)
    · have e := (if_neg c).symm.trans e
      refine r_iload_n (pc := 27) p174 k174_27 h1 ?_
      refine r_iconst (pc := 28) p174 k174_28 (v := (1 : Int32)) rfl ?_
      refine r_ic_ne (pc := 29) p174 k174_29 (fun c => ?_) (fun c => ?_)
      · have e := (if_neg c).symm.trans e
        refine r_iload_n (pc := 39) p174 k174_39 h1 ?_
        refine r_iconst (pc := 40) p174 k174_40 (v := (2 : Int32)) rfl ?_
        refine r_ic_ne (pc := 41) p174 k174_41 (fun c => ?_) (fun c => ?_)
        · have e := (if_neg c).symm.trans e
          refine r_iconst (pc := 51) p174 k174_51 (v := (0 : Int32)) rfl ?_
          cases e
          exact r_retI (pc := 52) p174 k174_52 rfl
        · have e := (if_pos c).symm.trans e
          refine r_aload_n (pc := 44) p174 k174_44 h0 ?_
          refine m_get hn (pc := 45) p174 k174_45 (v := .int (s.1 11)) rfl ?_
          refine r_goto (pc := 48) p174 k174_48 ?_
          cases e
          exact r_retI (pc := 52) p174 k174_52 rfl
      · have e := (if_pos c).symm.trans e
        refine r_aload_n (pc := 32) p174 k174_32 h0 ?_
        refine m_get hn (pc := 33) p174 k174_33 (v := .int (s.1 12)) rfl ?_
        refine r_goto (pc := 36) p174 k174_36 ?_
        cases e
        exact r_retI (pc := 52) p174 k174_52 rfl
    · have e := (if_pos c).symm.trans e
      refine r_aload_n (pc := 20) p174 k174_20 h0 ?_
      refine m_get hn (pc := 21) p174 k174_21 (v := .int (s.1 13)) rfl ?_
      refine r_goto (pc := 24) p174 k174_24 ?_
      cases e
      exact r_retI (pc := 52) p174 k174_52 rfl
  · have e := (if_pos c).symm.trans e
    refine r_iconst (pc := 12) p174 k174_12 (v := (0 : Int32)) rfl ?_
    refine r_goto (pc := 13) p174 k174_13 ?_
    cases e
    exact r_retI (pc := 52) p174 k174_52 rfl

theorem p175 : ab_prog[175]? = some (ab_m175, ab_c175) := rfl
theorem k175_0 : ab_fetch ab_c175 0 = some (.aload_n 0, 1, 0, 0) := rfl
theorem k175_1 : ab_fetch ab_c175 1 = some (.iconst 0, 1, 0, 0) := rfl
theorem k175_2 : ab_fetch ab_c175 2 = some (.putfield 300, 3, 6, 3) := rfl
theorem k175_5 : ab_fetch ab_c175 5 = some (.iload_n 1, 1, 0, 0) := rfl
theorem k175_6 : ab_fetch ab_c175 6 = some (.ifCond .lt 24, 3, 30, 0) := rfl
theorem k175_9 : ab_fetch ab_c175 9 = some (.iload_n 1, 1, 0, 0) := rfl
theorem k175_10 : ab_fetch ab_c175 10 = some (.aload_n 0, 1, 0, 0) := rfl
theorem k175_11 : ab_fetch ab_c175 11 = some (.getfield 586, 3, 6, 7) := rfl
theorem k175_14 : ab_fetch ab_c175 14 = some (.if_icmp .ge 16, 3, 30, 0) := rfl
theorem k175_17 : ab_fetch ab_c175 17 = some (.aload_n 0, 1, 0, 0) := rfl
theorem k175_18 : ab_fetch ab_c175 18 = some (.getfield 257, 3, 6, 6) := rfl
theorem k175_21 : ab_fetch ab_c175 21 = some (.iload_n 1, 1, 0, 0) := rfl
theorem k175_22 : ab_fetch ab_c175 22 = some (.baload, 1, 0, 0) := rfl
theorem k175_23 : ab_fetch ab_c175 23 = some (.sipush 255, 3, 0, 0) := rfl
theorem k175_26 : ab_fetch ab_c175 26 = some (.iand, 1, 0, 0) := rfl
theorem k175_27 : ab_fetch ab_c175 27 = some (.goto 4, 3, 31, 0) := rfl
theorem k175_30 : ab_fetch ab_c175 30 = some (.iconst (-1), 1, 0, 0) := rfl
theorem k175_31 : ab_fetch ab_c175 31 = some (.ireturn, 1, 0, 0) := rfl
/- CodeSmithModel image(I)I -/
def f175 (s : mS) (x1 : Int32) : Option (Int32 × mS) := (if x1 < 0 then some ((-1 : Int32), (mg s 3 (0 : Int32))) else (if (s.1 7) ≤ x1 then some ((-1 : Int32), (mg s 3 (0 : Int32))) else if ib x1 65536 then some ((((s.2 6) x1.toNatClampNeg) &&& (255 : Int32)), (mg s 3 (0 : Int32))) else none))
theorem t175 {d n : Nat} {Z : Nat → ab_C} (hn : 42 ≤ n) (s : mS) (x1 : Int32) (r : Int32 × mS) (e : f175 s x1 = some r) : ab_Rn d 175 0 (lv_args 0 [.ref 22, .int x1]) [] (ab_hl n (mm_F s Z)) (.inl (some (.int r.1))) (ab_hl n (mm_F r.2 Z)) := by
  unfold f175 at e
  obtain ⟨l, hl⟩ : ∃ l, l = (lv_args 0 [.ref 22, .int x1]) := ⟨_, rfl⟩
  rw [← hl]
  have h0 : ab_get l 0 = some (.ref 22) := by rw [hl]; rfl
  have h1 : ab_get l 1 = some (.int x1) := by rw [hl]; rfl
  refine r_aload_n (pc := 0) p175 k175_0 h0 ?_
  refine r_iconst (pc := 1) p175 k175_1 (v := (0 : Int32)) rfl ?_
  refine m_put hn (pc := 2) p175 k175_2 rfl rfl rfl rfl ?_
  refine r_iload_n (pc := 5) p175 k175_5 h1 ?_
  refine r_if_lt (pc := 6) p175 k175_6 (fun c => ?_) (fun c => ?_)
  · have e := (if_pos c).symm.trans e
    refine r_iconst (pc := 30) p175 k175_30 (v := (-1 : Int32)) rfl ?_
    cases e
    exact r_retI (pc := 31) p175 k175_31 rfl
  · have e := (if_neg c).symm.trans e
    refine r_iload_n (pc := 9) p175 k175_9 h1 ?_
    refine r_aload_n (pc := 10) p175 k175_10 h0 ?_
    refine m_get hn (pc := 11) p175 k175_11 (v := .int (s.1 7)) rfl ?_
    refine r_ic_ge (pc := 14) p175 k175_14 (fun c => ?_) (fun c => ?_)
    · have e := (if_pos c).symm.trans e
      refine r_iconst (pc := 30) p175 k175_30 (v := (-1 : Int32)) rfl ?_
      cases e
      exact r_retI (pc := 31) p175 k175_31 rfl
    · have e := (if_neg c).symm.trans e
      refine r_aload_n (pc := 17) p175 k175_17 h0 ?_
      refine m_get hn (pc := 18) p175 k175_18 (v := .ref 27) rfl ?_
      refine r_iload_n (pc := 21) p175 k175_21 h1 ?_
      obtain ⟨c, e⟩ := of_if e
      refine r_bald (pc := 22) p175 k175_22 (m_lt hn rfl) (f := (s.2 6)) rfl c ?_
      refine r_sipush (pc := 23) p175 k175_23 (v := (255 : Int32)) rfl ?_
      refine r_iand (pc := 26) p175 k175_26 ?_
      refine r_goto (pc := 27) p175 k175_27 ?_
      cases e
      exact r_retI (pc := 31) p175 k175_31 rfl

theorem p176 : ab_prog[176]? = some (ab_m176, ab_c176) := rfl
theorem k176_0 : ab_fetch ab_c176 0 = some (.aload_n 0, 1, 0, 0) := rfl
theorem k176_1 : ab_fetch ab_c176 1 = some (.iconst 0, 1, 0, 0) := rfl
theorem k176_2 : ab_fetch ab_c176 2 = some (.putfield 300, 3, 6, 3) := rfl
theorem k176_5 : ab_fetch ab_c176 5 = some (.iload_n 1, 1, 0, 0) := rfl
theorem k176_6 : ab_fetch ab_c176 6 = some (.ifCond .lt 8, 3, 14, 0) := rfl
theorem k176_9 : ab_fetch ab_c176 9 = some (.iload_n 1, 1, 0, 0) := rfl
theorem k176_10 : ab_fetch ab_c176 10 = some (.iconst 3, 1, 0, 0) := rfl
theorem k176_11 : ab_fetch ab_c176 11 = some (.if_icmp .le 7, 3, 18, 0) := rfl
theorem k176_14 : ab_fetch ab_c176 14 = some (.iconst (-1), 1, 0, 0) := rfl
theorem k176_15 : ab_fetch ab_c176 15 = some (.goto 53, 3, 68, 0) := rfl
theorem k176_18 : ab_fetch ab_c176 18 = some (.aload_n 0, 1, 0, 0) := rfl
theorem k176_19 : ab_fetch ab_c176 19 = some (.getfield 586, 3, 6, 7) := rfl
theorem k176_22 : ab_fetch ab_c176 22 = some (.ifCond .ne 7, 3, 29, 0) := rfl
theorem k176_25 : ab_fetch ab_c176 25 = some (.iconst 0, 1, 0, 0) := rfl
theorem k176_26 : ab_fetch ab_c176 26 = some (.goto 42, 3, 68, 0) := rfl
theorem k176_29 : ab_fetch ab_c176 29 = some (.iload_n 1, 1, 0, 0) := rfl
theorem k176_30 : ab_fetch ab_c176 30 = some (.ifCond .ne 10, 3, 40, 0) := rfl
theorem k176_33 : ab_fetch ab_c176 33 = some (.aload_n 0, 1, 0, 0) := rfl
theorem k176_34 : ab_fetch ab_c176 34 = some (.getfield 586, 3, 6, 7) := rfl
theorem k176_37 : ab_fetch ab_c176 37 = some (.goto 31, 3, 68, 0) := rfl
theorem k176_40 : ab_fetch ab_c176 40 = some (.iload_n 1, 1, 0, 0) := rfl
theorem k176_41 : ab_fetch ab_c176 41 = some (.iconst 1, 1, 0, 0) := rfl
theorem k176_42 : ab_fetch ab_c176 42 = some (.if_icmp .ne 10, 3, 52, 0) := rfl
theorem k176_45 : ab_fetch ab_c176 45 = some (.aload_n 0, 1, 0, 0) := rfl
theorem k176_46 : ab_fetch ab_c176 46 = some (.getfield 580, 3, 6, 8) := rfl
theorem k176_49 : ab_fetch ab_c176 49 = some (.goto 19, 3, 68, 0) := rfl
theorem k176_52 : ab_fetch ab_c176 52 = some (.iload_n 1, 1, 0, 0) := rfl
theorem k176_53 : ab_fetch ab_c176 53 = some (.iconst 2, 1, 0, 0) := rfl
theorem k176_54 : ab_fetch ab_c176 54 = some (.if_icmp .ne 10, 3, 64, 0) := rfl
theorem k176_57 : ab_fetch ab_c176 57 = some (.aload_n 0, 1, 0, 0) := rfl
theorem k176_58 : ab_fetch ab_c176 58 = some (.getfield 583, 3, 6, 9) := rfl
theorem k176_61 : ab_fetch ab_c176 61 = some (.goto 7, 3, 68, 0) := rfl
theorem k176_64 : ab_fetch ab_c176 64 = some (.aload_n 0, 1, 0, 0) := rfl
theorem k176_65 : ab_fetch ab_c176 65 = some (.getfield 589, 3, 6, 10) := rfl
theorem k176_68 : ab_fetch ab_c176 68 = some (.ireturn, 1, 0, 0) := rfl
/- CodeSmithModel about(I)I -/
def f176_14 (s : mS) : Option (Int32 × mS) := some ((-1 : Int32), s)
theorem t176_14 {d n : Nat} {Z : Nat → ab_C} (hn : 42 ≤ n) : ∀ (s : mS) (l : ab_L)   (r : Int32 × mS) (e : f176_14 s  = some r), ab_Rn d 176 14 l [] (ab_hl n (mm_F s Z)) (.inl (some (.int r.1))) (ab_hl n (mm_F r.2 Z)) := by
  intro s l r e
  unfold f176_14 at e
  refine r_iconst (pc := 14) p176 k176_14 (v := (-1 : Int32)) rfl ?_
  refine r_goto (pc := 15) p176 k176_15 ?_
  cases e
  exact r_retI (pc := 68) p176 k176_68 rfl
def f176 (s : mS) (x1 : Int32) : Option (Int32 × mS) := (if x1 < 0 then f176_14 (mg s 3 (0 : Int32)) else (if x1 ≤ (3 : Int32) then (if (s.1 7) = 0 then some ((0 : Int32), (mg s 3 (0 : Int32))) else (if x1 = 0 then some ((s.1 7), (mg s 3 (0 : Int32))) else (if x1 = (1 : Int32) then some ((s.1 8), (mg s 3 (0 : Int32))) else (if x1 = (2 : Int32) then some ((s.1 9), (mg s 3 (0 : Int32))) else some ((s.1 10), (mg s 3 (0 : Int32))))))) else f176_14 (mg s 3 (0 : Int32))))
theorem t176 {d n : Nat} {Z : Nat → ab_C} (hn : 42 ≤ n) (s : mS) (x1 : Int32) (r : Int32 × mS) (e : f176 s x1 = some r) : ab_Rn d 176 0 (lv_args 0 [.ref 22, .int x1]) [] (ab_hl n (mm_F s Z)) (.inl (some (.int r.1))) (ab_hl n (mm_F r.2 Z)) := by
  unfold f176 at e
  obtain ⟨l, hl⟩ : ∃ l, l = (lv_args 0 [.ref 22, .int x1]) := ⟨_, rfl⟩
  rw [← hl]
  have h0 : ab_get l 0 = some (.ref 22) := by rw [hl]; rfl
  have h1 : ab_get l 1 = some (.int x1) := by rw [hl]; rfl
  refine r_aload_n (pc := 0) p176 k176_0 h0 ?_
  refine r_iconst (pc := 1) p176 k176_1 (v := (0 : Int32)) rfl ?_
  refine m_put hn (pc := 2) p176 k176_2 rfl rfl rfl rfl ?_
  refine r_iload_n (pc := 5) p176 k176_5 h1 ?_
  refine r_if_lt (pc := 6) p176 k176_6 (fun c => ?_) (fun c => ?_)
  · have e := (if_pos c).symm.trans e
    exact t176_14 hn (mg s 3 (0 : Int32)) l r e
  · have e := (if_neg c).symm.trans e
    refine r_iload_n (pc := 9) p176 k176_9 h1 ?_
    refine r_iconst (pc := 10) p176 k176_10 (v := (3 : Int32)) rfl ?_
    refine r_ic_le (pc := 11) p176 k176_11 (fun c => ?_) (fun c => ?_)
    · have e := (if_pos c).symm.trans e
      refine r_aload_n (pc := 18) p176 k176_18 h0 ?_
      refine m_get hn (pc := 19) p176 k176_19 (v := .int (s.1 7)) rfl ?_
      refine r_if_ne (pc := 22) p176 k176_22 (fun c => ?_) (fun c => ?_)
      · have e := (if_neg c).symm.trans e
        refine r_iload_n (pc := 29) p176 k176_29 h1 ?_
        refine r_if_ne (pc := 30) p176 k176_30 (fun c => ?_) (fun c => ?_)
        · have e := (if_neg c).symm.trans e
          refine r_iload_n (pc := 40) p176 k176_40 h1 ?_
          refine r_iconst (pc := 41) p176 k176_41 (v := (1 : Int32)) rfl ?_
          refine r_ic_ne (pc := 42) p176 k176_42 (fun c => ?_) (fun c => ?_)
          · have e := (if_neg c).symm.trans e
            refine r_iload_n (pc := 52) p176 k176_52 h1 ?_
            refine r_iconst (pc := 53) p176 k176_53 (v := (2 : Int32)) rfl ?_
            refine r_ic_ne (pc := 54) p176 k176_54 (fun c => ?_) (fun c => ?_)
            · have e := (if_neg c).symm.trans e
              refine r_aload_n (pc := 64) p176 k176_64 h0 ?_
              refine m_get hn (pc := 65) p176 k176_65 (v := .int (s.1 10)) rfl ?_
              cases e
              exact r_retI (pc := 68) p176 k176_68 rfl
            · have e := (if_pos c).symm.trans e
              refine r_aload_n (pc := 57) p176 k176_57 h0 ?_
              refine m_get hn (pc := 58) p176 k176_58 (v := .int (s.1 9)) rfl ?_
              refine r_goto (pc := 61) p176 k176_61 ?_
              cases e
              exact r_retI (pc := 68) p176 k176_68 rfl
          · have e := (if_pos c).symm.trans e
            refine r_aload_n (pc := 45) p176 k176_45 h0 ?_
            refine m_get hn (pc := 46) p176 k176_46 (v := .int (s.1 8)) rfl ?_
            refine r_goto (pc := 49) p176 k176_49 ?_
            cases e
            exact r_retI (pc := 68) p176 k176_68 rfl
        · have e := (if_pos c).symm.trans e
          refine r_aload_n (pc := 33) p176 k176_33 h0 ?_
          refine m_get hn (pc := 34) p176 k176_34 (v := .int (s.1 7)) rfl ?_
          refine r_goto (pc := 37) p176 k176_37 ?_
          cases e
          exact r_retI (pc := 68) p176 k176_68 rfl
      · have e := (if_pos c).symm.trans e
        refine r_iconst (pc := 25) p176 k176_25 (v := (0 : Int32)) rfl ?_
        refine r_goto (pc := 26) p176 k176_26 ?_
        cases e
        exact r_retI (pc := 68) p176 k176_68 rfl
    · have e := (if_neg c).symm.trans e
      exact t176_14 hn (mg s 3 (0 : Int32)) l r e
