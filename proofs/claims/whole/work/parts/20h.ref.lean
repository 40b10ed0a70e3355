theorem p166 : ab_prog[166]? = some (ab_m166, ab_c166) := rfl
theorem k166_0 : ab_fetch ab_c166 0 = some (.aload_n 0, 1, 0, 0) := rfl
theorem k166_1 : ab_fetch ab_c166 1 = some (.iload_n 2, 1, 0, 0) := rfl
theorem k166_2 : ab_fetch ab_c166 2 = some (.invokestatic 470, 3, 157, 1) := rfl
theorem k166_5 : ab_fetch ab_c166 5 = some (.bipush 12, 2, 0, 0) := rfl
theorem k166_7 : ab_fetch ab_c166 7 = some (.ishl, 1, 0, 0) := rfl
theorem k166_8 : ab_fetch ab_c166 8 = some (.iload_n 1, 1, 0, 0) := rfl
theorem k166_9 : ab_fetch ab_c166 9 = some (.bipush 7, 2, 0, 0) := rfl
theorem k166_11 : ab_fetch ab_c166 11 = some (.ishl, 1, 0, 0) := rfl
theorem k166_12 : ab_fetch ab_c166 12 = some (.ior, 1, 0, 0) := rfl
theorem k166_13 : ab_fetch ab_c166 13 = some (.bipush 55, 2, 0, 0) := rfl
theorem k166_15 : ab_fetch ab_c166 15 = some (.ior, 1, 0, 0) := rfl
theorem k166_16 : ab_fetch ab_c166 16 = some (.iconst 4, 1, 0, 0) := rfl
theorem k166_17 : ab_fetch ab_c166 17 = some (.invokevirtual 486, 3, 144, 2) := rfl
theorem k166_20 : ab_fetch ab_c166 20 = some (.aload_n 0, 1, 0, 0) := rfl
theorem k166_21 : ab_fetch ab_c166 21 = some (.iload_n 2, 1, 0, 0) := rfl
theorem k166_22 : ab_fetch ab_c166 22 = some (.invokestatic 427, 3, 158, 1) := rfl
theorem k166_25 : ab_fetch ab_c166 25 = some (.iload_n 1, 1, 0, 0) := rfl
theorem k166_26 : ab_fetch ab_c166 26 = some (.iconst 0, 1, 0, 0) := rfl
theorem k166_27 : ab_fetch ab_c166 27 = some (.iload_n 1, 1, 0, 0) := rfl
theorem k166_28 : ab_fetch ab_c166 28 = some (.bipush 19, 2, 0, 0) := rfl
theorem k166_30 : ab_fetch ab_c166 30 = some (.invokestatic 508, 3, 160, 5) := rfl
theorem k166_33 : ab_fetch ab_c166 33 = some (.iconst 4, 1, 0, 0) := rfl
theorem k166_34 : ab_fetch ab_c166 34 = some (.invokevirtual 486, 3, 144, 2) := rfl
theorem k166_37 : ab_fetch ab_c166 37 = some (.return_, 1, 0, 0) := rfl
/- CodeSmithModel far(II)V -/
def f166 (s : mS) (x1 : Int32) (x2 : Int32) : Option mS := ((f144 s ((((f157 x2) <<< ((12 : Int32) &&& 31)) ||| (x1 <<< ((7 : Int32) &&& 31))) ||| (55 : Int32)) (4 : Int32)).bind fun r1 => ((f144 r1 (f160 (f158 x2) x1 (0 : Int32) x1 (19 : Int32)) (4 : Int32)).bind fun r2 => some r2))
theorem t166 {d n : Nat} {Z : Nat → ab_C} (hn : 42 ≤ n) (s : mS) (x1 : Int32) (x2 : Int32) (r : mS) (e : f166 s x1 x2 = some r) : ab_Rn (d + 2) 166 0 (lv_args 0 [.ref 22, .int x1, .int x2]) [] (ab_hl n (mm_F s Z)) (.inl none) (ab_hl n (mm_F r Z)) := by
  unfold f166 at e
  obtain ⟨l, hl⟩ : ∃ l, l = (lv_args 0 [.ref 22, .int x1, .int x2]) := ⟨_, rfl⟩
  rw [← hl]
  have h0 : ab_get l 0 = some (.ref 22) := by rw [hl]; rfl
  have h1 : ab_get l 1 = some (.int x1) := by rw [hl]; rfl
  have h2 : ab_get l 2 = some (.int x2) := by rw [hl]; rfl
  refine r_aload_n (pc := 0) p166 k166_0 h0 ?_
  refine r_iload_n (pc := 1) p166 k166_1 h2 ?_
  refine r_csv (pc := 2) p166 k166_2 rfl rfl p157 (r := [.ref 22]) rfl rfl rfl rfl (t157 x2 _ rfl) (w := [.int (f157 x2), .ref 22]) rfl ?_
  refine r_bipush (pc := 5) p166 k166_5 (v := (12 : Int32)) rfl ?_
  refine r_ishl (pc := 7) p166 k166_7 ?_
  refine r_iload_n (pc := 8) p166 k166_8 h1 ?_
  refine r_bipush (pc := 9) p166 k166_9 (v := (7 : Int32)) rfl ?_
  refine r_ishl (pc := 11) p166 k166_11 ?_
  refine r_ior (pc := 12) p166 k166_12 ?_
  refine r_bipush (pc := 13) p166 k166_13 (v := (55 : Int32)) rfl ?_
  refine r_ior (pc := 15) p166 k166_15 ?_
  refine r_iconst (pc := 16) p166 k166_16 (v := (4 : Int32)) rfl ?_
  obtain ⟨r1, er1, e⟩ := of_bind e
  refine m_cv hn (pc := 17) p166 k166_17 rfl p144 (r := []) rfl rfl rfl rfl rfl (t144 hn s ((((f157 x2) <<< ((12 : Int32) &&& 31)) ||| (x1 <<< ((7 : Int32) &&& 31))) ||| (55 : Int32)) (4 : Int32) r1 er1) (w := []) rfl ?_
  refine r_aload_n (pc := 20) p166 k166_20 h0 ?_
  refine r_iload_n (pc := 21) p166 k166_21 h2 ?_
  refine r_csv (pc := 22) p166 k166_22 rfl rfl p158 (r := [.ref 22]) rfl rfl rfl rfl (t158 x2 _ rfl) (w := [.int (f158 x2), .ref 22]) rfl ?_
  refine r_iload_n (pc := 25) p166 k166_25 h1 ?_
  refine r_iconst (pc := 26) p166 k166_26 (v := (0 : Int32)) rfl ?_
  refine r_iload_n (pc := 27) p166 k166_27 h1 ?_
  refine r_bipush (pc := 28) p166 k166_28 (v := (19 : Int32)) rfl ?_
  refine r_csv (pc := 30) p166 k166_30 rfl rfl p160 (r := [.ref 22]) rfl rfl rfl rfl (t160 (f158 x2) x1 (0 : Int32) x1 (19 : Int32) _ rfl) (w := [.int (f160 (f158 x2) x1 (0 : Int32) x1 (19 : Int32)), .ref 22]) rfl ?_
  refine r_iconst (pc := 33) p166 k166_33 (v := (4 : Int32)) rfl ?_
  obtain ⟨r2, er2, e⟩ := of_bind e
  refine m_cv hn (pc := 34) p166 k166_34 rfl p144 (r := []) rfl rfl rfl rfl rfl (t144 hn r1 (f160 (f158 x2) x1 (0 : Int32) x1 (19 : Int32)) (4 : Int32) r2 er2) (w := []) rfl ?_
  cases e
  exact r_retV (pc := 37) p166 k166_37 rfl

theorem p165 : ab_prog[165]? = some (ab_m165, ab_c165) := rfl
theorem k165_0 : ab_fetch ab_c165 0 = some (.iload_n 1, 1, 0, 0) := rfl
theorem k165_1 : ab_fetch ab_c165 1 = some (.bipush 67, 2, 0, 0) := rfl
theorem k165_3 : ab_fetch ab_c165 3 = some (.if_icmp .ge 135, 3, 138, 0) := rfl
theorem k165_6 : ab_fetch ab_c165 6 = some (.aload_n 0, 1, 0, 0) := rfl
theorem k165_7 : ab_fetch ab_c165 7 = some (.invokevirtual 512, 3, 139, 0) := rfl
theorem k165_10 : ab_fetch ab_c165 10 = some (.istore_n 2, 1, 0, 0) := rfl
theorem k165_11 : ab_fetch ab_c165 11 = some (.aload_n 0, 1, 0, 0) := rfl
theorem k165_12 : ab_fetch ab_c165 12 = some (.invokevirtual 491, 3, 140, 0) := rfl
theorem k165_15 : ab_fetch ab_c165 15 = some (.istore_n 3, 1, 0, 0) := rfl
theorem k165_16 : ab_fetch ab_c165 16 = some (.aload_n 0, 1, 0, 0) := rfl
theorem k165_17 : ab_fetch ab_c165 17 = some (.iload_n 1, 1, 0, 0) := rfl
theorem k165_18 : ab_fetch ab_c165 18 = some (.bipush 60, 2, 0, 0) := rfl
theorem k165_20 : ab_fetch ab_c165 20 = some (.if_icmp .ne 15, 3, 35, 0) := rfl
theorem k165_23 : ab_fetch ab_c165 23 = some (.iconst 0, 1, 0, 0) := rfl
theorem k165_24 : ab_fetch ab_c165 24 = some (.iload_n 3, 1, 0, 0) := rfl
theorem k165_25 : ab_fetch ab_c165 25 = some (.iconst 0, 1, 0, 0) := rfl
theorem k165_26 : ab_fetch ab_c165 26 = some (.iload_n 2, 1, 0, 0) := rfl
theorem k165_27 : ab_fetch ab_c165 27 = some (.bipush 19, 2, 0, 0) := rfl
theorem k165_29 : ab_fetch ab_c165 29 = some (.invokestatic 508, 3, 160, 5) := rfl
theorem k165_32 : ab_fetch ab_c165 32 = some (.goto 99, 3, 131, 0) := rfl
theorem k165_35 : ab_fetch ab_c165 35 = some (.iload_n 1, 1, 0, 0) := rfl
theorem k165_36 : ab_fetch ab_c165 36 = some (.bipush 61, 2, 0, 0) := rfl
theorem k165_38 : ab_fetch ab_c165 38 = some (.if_icmp .ne 15, 3, 53, 0) := rfl
theorem k165_41 : ab_fetch ab_c165 41 = some (.iconst (-1), 1, 0, 0) := rfl
theorem k165_42 : ab_fetch ab_c165 42 = some (.iload_n 3, 1, 0, 0) := rfl
theorem k165_43 : ab_fetch ab_c165 43 = some (.iconst 4, 1, 0, 0) := rfl
theorem k165_44 : ab_fetch ab_c165 44 = some (.iload_n 2, 1, 0, 0) := rfl
theorem k165_45 : ab_fetch ab_c165 45 = some (.bipush 19, 2, 0, 0) := rfl
theorem k165_47 : ab_fetch ab_c165 47 = some (.invokestatic 508, 3, 160, 5) := rfl
theorem k165_50 : ab_fetch ab_c165 50 = some (.goto 81, 3, 131, 0) := rfl
theorem k165_53 : ab_fetch ab_c165 53 = some (.iload_n 1, 1, 0, 0) := rfl
theorem k165_54 : ab_fetch ab_c165 54 = some (.bipush 62, 2, 0, 0) := rfl
theorem k165_56 : ab_fetch ab_c165 56 = some (.if_icmp .ne 15, 3, 71, 0) := rfl
theorem k165_59 : ab_fetch ab_c165 59 = some (.bipush 32, 2, 0, 0) := rfl
theorem k165_61 : ab_fetch ab_c165 61 = some (.iload_n 3, 1, 0, 0) := rfl
theorem k165_62 : ab_fetch ab_c165 62 = some (.iconst 0, 1, 0, 0) := rfl
theorem k165_63 : ab_fetch ab_c165 63 = some (.iconst 0, 1, 0, 0) := rfl
theorem k165_64 : ab_fetch ab_c165 64 = some (.iload_n 2, 1, 0, 0) := rfl
theorem k165_65 : ab_fetch ab_c165 65 = some (.invokestatic 515, 3, 143, 5) := rfl
theorem k165_68 : ab_fetch ab_c165 68 = some (.goto 63, 3, 131, 0) := rfl
theorem k165_71 : ab_fetch ab_c165 71 = some (.iload_n 1, 1, 0, 0) := rfl
theorem k165_72 : ab_fetch ab_c165 72 = some (.bipush 63, 2, 0, 0) := rfl
theorem k165_74 : ab_fetch ab_c165 74 = some (.if_icmp .ne 15, 3, 89, 0) := rfl
theorem k165_77 : ab_fetch ab_c165 77 = some (.iconst 1, 1, 0, 0) := rfl
theorem k165_78 : ab_fetch ab_c165 78 = some (.iload_n 3, 1, 0, 0) := rfl
theorem k165_79 : ab_fetch ab_c165 79 = some (.iconst 3, 1, 0, 0) := rfl
theorem k165_80 : ab_fetch ab_c165 80 = some (.iload_n 2, 1, 0, 0) := rfl
theorem k165_81 : ab_fetch ab_c165 81 = some (.bipush 19, 2, 0, 0) := rfl
theorem k165_83 : ab_fetch ab_c165 83 = some (.invokestatic 508, 3, 160, 5) := rfl
theorem k165_86 : ab_fetch ab_c165 86 = some (.goto 45, 3, 131, 0) := rfl
theorem k165_89 : ab_fetch ab_c165 89 = some (.iload_n 1, 1, 0, 0) := rfl
theorem k165_90 : ab_fetch ab_c165 90 = some (.bipush 64, 2, 0, 0) := rfl
theorem k165_92 : ab_fetch ab_c165 92 = some (.if_icmp .ne 14, 3, 106, 0) := rfl
theorem k165_95 : ab_fetch ab_c165 95 = some (.iconst 0, 1, 0, 0) := rfl
theorem k165_96 : ab_fetch ab_c165 96 = some (.iload_n 3, 1, 0, 0) := rfl
theorem k165_97 : ab_fetch ab_c165 97 = some (.iconst 0, 1, 0, 0) := rfl
theorem k165_98 : ab_fetch ab_c165 98 = some (.iconst 3, 1, 0, 0) := rfl
theorem k165_99 : ab_fetch ab_c165 99 = some (.iload_n 2, 1, 0, 0) := rfl
theorem k165_100 : ab_fetch ab_c165 100 = some (.invokestatic 515, 3, 143, 5) := rfl
theorem k165_103 : ab_fetch ab_c165 103 = some (.goto 28, 3, 131, 0) := rfl
theorem k165_106 : ab_fetch ab_c165 106 = some (.iload_n 1, 1, 0, 0) := rfl
theorem k165_107 : ab_fetch ab_c165 107 = some (.bipush 65, 2, 0, 0) := rfl
theorem k165_109 : ab_fetch ab_c165 109 = some (.if_icmp .ne 14, 3, 123, 0) := rfl
theorem k165_112 : ab_fetch ab_c165 112 = some (.iconst 0, 1, 0, 0) := rfl
theorem k165_113 : ab_fetch ab_c165 113 = some (.iconst 0, 1, 0, 0) := rfl
theorem k165_114 : ab_fetch ab_c165 114 = some (.iload_n 3, 1, 0, 0) := rfl
theorem k165_115 : ab_fetch ab_c165 115 = some (.iconst 2, 1, 0, 0) := rfl
theorem k165_116 : ab_fetch ab_c165 116 = some (.iload_n 2, 1, 0, 0) := rfl
theorem k165_117 : ab_fetch ab_c165 117 = some (.invokestatic 515, 3, 143, 5) := rfl
theorem k165_120 : ab_fetch ab_c165 120 = some (.goto 11, 3, 131, 0) := rfl
theorem k165_123 : ab_fetch ab_c165 123 = some (.iconst 0, 1, 0, 0) := rfl
theorem k165_124 : ab_fetch ab_c165 124 = some (.iload_n 3, 1, 0, 0) := rfl
theorem k165_125 : ab_fetch ab_c165 125 = some (.iconst 0, 1, 0, 0) := rfl
theorem k165_126 : ab_fetch ab_c165 126 = some (.iconst 2, 1, 0, 0) := rfl
theorem k165_127 : ab_fetch ab_c165 127 = some (.iload_n 2, 1, 0, 0) := rfl
theorem k165_128 : ab_fetch ab_c165 128 = some (.invokestatic 515, 3, 143, 5) := rfl
theorem k165_131 : ab_fetch ab_c165 131 = some (.iconst 4, 1, 0, 0) := rfl
theorem k165_132 : ab_fetch ab_c165 132 = some (.invokevirtual 486, 3, 144, 2) := rfl
theorem k165_135 : ab_fetch ab_c165 135 = some (.goto 203, 3, 338, 0) := rfl
theorem k165_138 : ab_fetch ab_c165 138 = some (.iload_n 1, 1, 0, 0) := rfl
theorem k165_139 : ab_fetch ab_c165 139 = some (.bipush 69, 2, 0, 0) := rfl
theorem k165_141 : ab_fetch ab_c165 141 = some (.if_icmp .ge 18, 3, 159, 0) := rfl
theorem k165_144 : ab_fetch ab_c165 144 = some (.aload_n 0, 1, 0, 0) := rfl
theorem k165_145 : ab_fetch ab_c165 145 = some (.iload_n 1, 1, 0, 0) := rfl
theorem k165_146 : ab_fetch ab_c165 146 = some (.bipush 67, 2, 0, 0) := rfl
theorem k165_148 : ab_fetch ab_c165 148 = some (.isub, 1, 0, 0) := rfl
theorem k165_149 : ab_fetch ab_c165 149 = some (.aload_n 0, 1, 0, 0) := rfl
theorem k165_150 : ab_fetch ab_c165 150 = some (.invokevirtual 502, 3, 145, 0) := rfl
theorem k165_153 : ab_fetch ab_c165 153 = some (.invokevirtual 526, 3, 164, 2) := rfl
theorem k165_156 : ab_fetch ab_c165 156 = some (.goto 182, 3, 338, 0) := rfl
theorem k165_159 : ab_fetch ab_c165 159 = some (.iload_n 1, 1, 0, 0) := rfl
theorem k165_160 : ab_fetch ab_c165 160 = some (.bipush 69, 2, 0, 0) := rfl
theorem k165_162 : ab_fetch ab_c165 162 = some (.if_icmp .ne 23, 3, 185, 0) := rfl
theorem k165_165 : ab_fetch ab_c165 165 = some (.aload_n 0, 1, 0, 0) := rfl
theorem k165_166 : ab_fetch ab_c165 166 = some (.iconst 0, 1, 0, 0) := rfl
theorem k165_167 : ab_fetch ab_c165 167 = some (.aload_n 0, 1, 0, 0) := rfl
theorem k165_168 : ab_fetch ab_c165 168 = some (.invokevirtual 491, 3, 140, 0) := rfl
theorem k165_171 : ab_fetch ab_c165 171 = some (.iconst 0, 1, 0, 0) := rfl
theorem k165_172 : ab_fetch ab_c165 172 = some (.iconst 0, 1, 0, 0) := rfl
theorem k165_173 : ab_fetch ab_c165 173 = some (.bipush 103, 2, 0, 0) := rfl
theorem k165_175 : ab_fetch ab_c165 175 = some (.invokestatic 508, 3, 160, 5) := rfl
theorem k165_178 : ab_fetch ab_c165 178 = some (.iconst 4, 1, 0, 0) := rfl
theorem k165_179 : ab_fetch ab_c165 179 = some (.invokevirtual 486, 3, 144, 2) := rfl
theorem k165_182 : ab_fetch ab_c165 182 = some (.goto 156, 3, 338, 0) := rfl
theorem k165_185 : ab_fetch ab_c165 185 = some (.aload_n 0, 1, 0, 0) := rfl
theorem k165_186 : ab_fetch ab_c165 186 = some (.invokevirtual 512, 3, 139, 0) := rfl
theorem k165_189 : ab_fetch ab_c165 189 = some (.istore_n 2, 1, 0, 0) := rfl
theorem k165_190 : ab_fetch ab_c165 190 = some (.aload_n 0, 1, 0, 0) := rfl
theorem k165_191 : ab_fetch ab_c165 191 = some (.getfield 349, 3, 6, 21) := rfl
theorem k165_194 : ab_fetch ab_c165 194 = some (.istore_n 3, 1, 0, 0) := rfl
theorem k165_195 : ab_fetch ab_c165 195 = some (.aload_n 0, 1, 0, 0) := rfl
theorem k165_196 : ab_fetch ab_c165 196 = some (.iload_n 1, 1, 0, 0) := rfl
theorem k165_197 : ab_fetch ab_c165 197 = some (.bipush 70, 2, 0, 0) := rfl
theorem k165_199 : ab_fetch ab_c165 199 = some (.if_icmp .ne 7, 3, 206, 0) := rfl
theorem k165_202 : ab_fetch ab_c165 202 = some (.iconst 1, 1, 0, 0) := rfl
theorem k165_203 : ab_fetch ab_c165 203 = some (.goto 4, 3, 207, 0) := rfl
theorem k165_206 : ab_fetch ab_c165 206 = some (.iconst 0, 1, 0, 0) := rfl
theorem k165_207 : ab_fetch ab_c165 207 = some (.putfield 415, 3, 6, 38) := rfl
theorem k165_210 : ab_fetch ab_c165 210 = some (.aload_n 0, 1, 0, 0) := rfl
theorem k165_211 : ab_fetch ab_c165 211 = some (.aload_n 0, 1, 0, 0) := rfl
theorem k165_212 : ab_fetch ab_c165 212 = some (.getfield 415, 3, 6, 38) := rfl
theorem k165_215 : ab_fetch ab_c165 215 = some (.ifCond .eq 18, 3, 233, 0) := rfl
theorem k165_218 : ab_fetch ab_c165 218 = some (.aload_n 0, 1, 0, 0) := rfl
theorem k165_219 : ab_fetch ab_c165 219 = some (.getfield 408, 3, 6, 19) := rfl
theorem k165_222 : ab_fetch ab_c165 222 = some (.ifCond .eq 7, 3, 229, 0) := rfl
theorem k165_225 : ab_fetch ab_c165 225 = some (.iconst 2, 1, 0, 0) := rfl
theorem k165_226 : ab_fetch ab_c165 226 = some (.goto 8, 3, 234, 0) := rfl
theorem k165_229 : ab_fetch ab_c165 229 = some (.iconst 1, 1, 0, 0) := rfl
theorem k165_230 : ab_fetch ab_c165 230 = some (.goto 4, 3, 234, 0) := rfl
theorem k165_233 : ab_fetch ab_c165 233 = some (.iconst 3, 1, 0, 0) := rfl
theorem k165_234 : ab_fetch ab_c165 234 = some (.invokevirtual 473, 3, 146, 1) := rfl
theorem k165_237 : ab_fetch ab_c165 237 = some (.istore 4, 2, 0, 0) := rfl
theorem k165_239 : ab_fetch ab_c165 239 = some (.iload_n 1, 1, 0, 0) := rfl
theorem k165_240 : ab_fetch ab_c165 240 = some (.bipush 71, 2, 0, 0) := rfl
theorem k165_242 : ab_fetch ab_c165 242 = some (.if_icmp .ne 30, 3, 272, 0) := rfl
theorem k165_245 : ab_fetch ab_c165 245 = some (.aload_n 0, 1, 0, 0) := rfl
theorem k165_246 : ab_fetch ab_c165 246 = some (.getfield 415, 3, 6, 38) := rfl
theorem k165_249 : ab_fetch ab_c165 249 = some (.ifCond .ne 23, 3, 272, 0) := rfl
theorem k165_252 : ab_fetch ab_c165 252 = some (.iload 4, 2, 0, 0) := rfl
theorem k165_254 : ab_fetch ab_c165 254 = some (.sipush (-2048), 3, 0, 0) := rfl
theorem k165_257 : ab_fetch ab_c165 257 = some (.if_icmp .lt 15, 3, 272, 0) := rfl
theorem k165_260 : ab_fetch ab_c165 260 = some (.iload 4, 2, 0, 0) := rfl
theorem k165_262 : ab_fetch ab_c165 262 = some (.sipush 2047, 3, 0, 0) := rfl
theorem k165_265 : ab_fetch ab_c165 265 = some (.if_icmp .gt 7, 3, 272, 0) := rfl
theorem k165_268 : ab_fetch ab_c165 268 = some (.iconst 1, 1, 0, 0) := rfl
theorem k165_269 : ab_fetch ab_c165 269 = some (.goto 4, 3, 273, 0) := rfl
theorem k165_272 : ab_fetch ab_c165 272 = some (.iconst 0, 1, 0, 0) := rfl
theorem k165_273 : ab_fetch ab_c165 273 = some (.istore 5, 2, 0, 0) := rfl
theorem k165_275 : ab_fetch ab_c165 275 = some (.iload_n 1, 1, 0, 0) := rfl
theorem k165_276 : ab_fetch ab_c165 276 = some (.bipush 71, 2, 0, 0) := rfl
theorem k165_278 : ab_fetch ab_c165 278 = some (.if_icmp .ne 30, 3, 308, 0) := rfl
theorem k165_281 : ab_fetch ab_c165 281 = some (.iload 5, 2, 0, 0) := rfl
theorem k165_283 : ab_fetch ab_c165 283 = some (.ifCond .ne 25, 3, 308, 0) := rfl
theorem k165_286 : ab_fetch ab_c165 286 = some (.aload_n 0, 1, 0, 0) := rfl
theorem k165_287 : ab_fetch ab_c165 287 = some (.getfield 307, 3, 6, 11) := rfl
theorem k165_290 : ab_fetch ab_c165 290 = some (.ifCond .ne 18, 3, 308, 0) := rfl
theorem k165_293 : ab_fetch ab_c165 293 = some (.aload_n 0, 1, 0, 0) := rfl
theorem k165_294 : ab_fetch ab_c165 294 = some (.iload_n 3, 1, 0, 0) := rfl
theorem k165_295 : ab_fetch ab_c165 295 = some (.putfield 322, 3, 6, 18) := rfl
theorem k165_298 : ab_fetch ab_c165 298 = some (.aload_n 0, 1, 0, 0) := rfl
theorem k165_299 : ab_fetch ab_c165 299 = some (.invokevirtual 387, 3, 117, 0) := rfl
theorem k165_302 : ab_fetch ab_c165 302 = some (.aload_n 0, 1, 0, 0) := rfl
theorem k165_303 : ab_fetch ab_c165 303 = some (.invokevirtual 502, 3, 145, 0) := rfl
theorem k165_306 : ab_fetch ab_c165 306 = some (.istore 4, 2, 0, 0) := rfl
theorem k165_308 : ab_fetch ab_c165 308 = some (.iload 5, 2, 0, 0) := rfl
theorem k165_310 : ab_fetch ab_c165 310 = some (.ifCond .eq 21, 3, 331, 0) := rfl
theorem k165_313 : ab_fetch ab_c165 313 = some (.aload_n 0, 1, 0, 0) := rfl
theorem k165_314 : ab_fetch ab_c165 314 = some (.iload 4, 2, 0, 0) := rfl
theorem k165_316 : ab_fetch ab_c165 316 = some (.iconst 0, 1, 0, 0) := rfl
theorem k165_317 : ab_fetch ab_c165 317 = some (.iconst 0, 1, 0, 0) := rfl
theorem k165_318 : ab_fetch ab_c165 318 = some (.iload_n 2, 1, 0, 0) := rfl
theorem k165_319 : ab_fetch ab_c165 319 = some (.bipush 19, 2, 0, 0) := rfl
theorem k165_321 : ab_fetch ab_c165 321 = some (.invokestatic 508, 3, 160, 5) := rfl
theorem k165_324 : ab_fetch ab_c165 324 = some (.iconst 4, 1, 0, 0) := rfl
theorem k165_325 : ab_fetch ab_c165 325 = some (.invokevirtual 486, 3, 144, 2) := rfl
theorem k165_328 : ab_fetch ab_c165 328 = some (.goto 10, 3, 338, 0) := rfl
theorem k165_331 : ab_fetch ab_c165 331 = some (.aload_n 0, 1, 0, 0) := rfl
theorem k165_332 : ab_fetch ab_c165 332 = some (.iload_n 2, 1, 0, 0) := rfl
theorem k165_333 : ab_fetch ab_c165 333 = some (.iload 4, 2, 0, 0) := rfl
theorem k165_335 : ab_fetch ab_c165 335 = some (.invokevirtual 530, 3, 166, 2) := rfl
theorem k165_338 : ab_fetch ab_c165 338 = some (.return_, 1, 0, 0) := rfl
/- CodeSmithModel other(I)V -/
def f165_308 (s : mS) (x2 : Int32) (x4 : Int32) (x5 : Int32) : Option mS := (if x5 = 0 then ((f166 s x2 x4).bind fun r1 => some r1) else ((f144 s (f160 x4 (0 : Int32) (0 : Int32) x2 (19 : Int32)) (4 : Int32)).bind fun r1 => some r1))
theorem t165_308 {d n : Nat} {Z : Nat → ab_C} (hn : 42 ≤ n) : ∀ (s : mS) (l : ab_L) (x2 : Int32) (x4 : Int32) (x5 : Int32) (h0 : ab_get l 0 = some (.ref 22)) (h2 : ab_get l 2 = some (.int x2)) (h4 : ab_get l 4 = some (.int x4)) (h5 : ab_get l 5 = some (.int x5)) (r : mS) (e : f165_308 s x2 x4 x5 = some r), ab_Rn (d + 8) 165 308 l [] (ab_hl n (mm_F s Z)) (.inl none) (ab_hl n (mm_F r Z)) := by
  intro s l x2 x4 x5 h0 h2 h4 h5 r e
  unfold f165_308 at e
  refine r_iload (pc := 308) p165 k165_308 h5 ?_
  refine r_if_eq (pc := 310) p165 k165_310 (fun c => ?_) (fun c => ?_)
  · have e := (if_pos c).symm.trans e
    refine r_aload_n (pc := 331) p165 k165_331 h0 ?_
    refine r_iload_n (pc := 332) p165 k165_332 h2 ?_
    refine r_iload (pc := 333) p165 k165_333 h4 ?_
    obtain ⟨r1, er1, e⟩ := of_bind e
    refine m_cv hn (pc := 335) p165 k165_335 rfl p166 (r := []) rfl rfl rfl rfl rfl (t166 hn s x2 x4 r1 er1) (w := []) rfl ?_
    cases e
    exact r_retV (pc := 338) p165 k165_338 rfl
  · have e := (if_neg c).symm.trans e
    refine r_aload_n (pc := 313) p165 k165_313 h0 ?_
    refine r_iload (pc := 314) p165 k165_314 h4 ?_
    refine r_iconst (pc := 316) p165 k165_316 (v := (0 : Int32)) rfl ?_
    refine r_iconst (pc := 317) p165 k165_317 (v := (0 : Int32)) rfl ?_
    refine r_iload_n (pc := 318) p165 k165_318 h2 ?_
    refine r_bipush (pc := 319) p165 k165_319 (v := (19 : Int32)) rfl ?_
    refine r_csv (pc := 321) p165 k165_321 rfl rfl p160 (r := [.ref 22]) rfl rfl rfl rfl (t160 x4 (0 : Int32) (0 : Int32) x2 (19 : Int32) _ rfl) (w := [.int (f160 x4 (0 : Int32) (0 : Int32) x2 (19 : Int32)), .ref 22]) rfl ?_
    refine r_iconst (pc := 324) p165 k165_324 (v := (4 : Int32)) rfl ?_
    obtain ⟨r1, er1, e⟩ := of_bind e
    refine m_cv hn (pc := 325) p165 k165_325 rfl p144 (r := []) rfl rfl rfl rfl rfl (t144 hn s (f160 x4 (0 : Int32) (0 : Int32) x2 (19 : Int32)) (4 : Int32) r1 er1) (w := []) rfl ?_
    refine r_goto (pc := 328) p165 k165_328 ?_
    cases e
    exact r_retV (pc := 338) p165 k165_338 rfl
def f165_273 (s : mS) (x1 : Int32) (x2 : Int32) (x3 : Int32) (x4 : Int32) (y0 : Int32) : Option mS := (if x1 = (71 : Int32) then (if y0 = 0 then (if (s.1 11) = 0 then ((f117 (mg s 18 x3)).bind fun r1 => ((f145 r1).bind fun r2 => f165_308 r2.2 x2 r2.1 y0)) else f165_308 s x2 x4 y0) else f165_308 s x2 x4 y0) else f165_308 s x2 x4 y0)
theorem t165_273 {d n : Nat} {Z : Nat → ab_C} (hn : 42 ≤ n) : ∀ (s : mS) (l : ab_L) (x1 : Int32) (x2 : Int32) (x3 : Int32) (x4 : Int32) (y0 : Int32) (h0 : ab_get l 0 = some (.ref 22)) (h1 : ab_get l 1 = some (.int x1)) (h2 : ab_get l 2 = some (.int x2)) (h3 : ab_get l 3 = some (.int x3)) (h4 : ab_get l 4 = some (.int x4)) (r : mS) (e : f165_273 s x1 x2 x3 x4 y0 = some r), ab_Rn (d + 8) 165 273 l [.int y0] (ab_hl n (mm_F s Z)) (.inl none) (ab_hl n (mm_F r Z)) := by
  intro s l x1 x2 x3 x4 y0 h0 h1 h2 h3 h4 r e
  unfold f165_273 at e
  refine r_istore (pc := 273) p165 k165_273 (by decide) (fun l g h5 => ?_)
  have h0 := g 0 _ (by decide) h0 (Or.inl rfl)
  have h1 := g 1 _ (by decide) h1 (Or.inl rfl)
  have h2 := g 2 _ (by decide) h2 (Or.inl rfl)
  have h3 := g 3 _ (by decide) h3 (Or.inl rfl)
  have h4 := g 4 _ (by decide) h4 (Or.inl rfl)
  refine r_iload_n (pc := 275) p165 k165_275 h1 ?_
  refine r_bipush (pc := 276) p165 k165_276 (v := (71 : Int32)) rfl ?_
  refine r_ic_ne (pc := 278) p165 k165_278 (fun c => ?_) (fun c => ?_)
  · have e := (if_neg c).symm.trans e
    exact t165_308 hn s l x2 x4 y0 h0 h2 h4 h5 r e
  · have e := (if_pos c).symm.trans e
    refine r_iload (pc := 281) p165 k165_281 h5 ?_
    refine r_if_ne (pc := 283) p165 k165_283 (fun c => ?_) (fun c => ?_)
    · have e := (if_neg c).symm.trans e
      exact t165_308 hn s l x2 x4 y0 h0 h2 h4 h5 r e
    · have e := (if_pos c).symm.trans e
      refine r_aload_n (pc := 286) p165 k165_286 h0 ?_
      refine m_get hn (pc := 287) p165 k165_287 (v := .int (s.1 11)) rfl ?_
      refine r_if_ne (pc := 290) p165 k165_290 (fun c => ?_) (fun c => ?_)
      · have e := (if_neg c).symm.trans e
        exact t165_308 hn s l x2 x4 y0 h0 h2 h4 h5 r e
      · have e := (if_pos c).symm.trans e
        refine r_aload_n (pc := 293) p165 k165_293 h0 ?_
        refine r_iload_n (pc := 294) p165 k165_294 h3 ?_
        refine m_put hn (pc := 295) p165 k165_295 rfl rfl rfl rfl ?_
        refine r_aload_n (pc := 298) p165 k165_298 h0 ?_
        obtain ⟨r1, er1, e⟩ := of_bind e
        refine m_cv hn (pc := 299) p165 k165_299 rfl p117 (r := []) rfl rfl rfl rfl rfl (t117 hn (mg s 18 x3) r1 er1) (w := []) rfl ?_
        refine r_aload_n (pc := 302) p165 k165_302 h0 ?_
        obtain ⟨r2, er2, e⟩ := of_bind e
        refine m_cv hn (pc := 303) p165 k165_303 rfl p145 (r := []) rfl rfl rfl rfl rfl (t145 hn r1 r2 er2) (w := [.int r2.1]) rfl ?_
        refine r_istore (pc := 306) p165 k165_306 (by decide) (fun l g h4 => ?_)
        have h0 := g 0 _ (by decide) h0 (Or.inl rfl)
        have h2 := g 2 _ (by decide) h2 (Or.inl rfl)
        have h5 := g 5 _ (by decide) h5 (Or.inl rfl)
        exact t165_308 hn r2.2 l x2 r2.1 y0 h0 h2 h4 h5 r e
def f165_272 (s : mS) (x1 : Int32) (x2 : Int32) (x3 : Int32) (x4 : Int32) : Option mS := f165_273 s x1 x2 x3 x4 (0 : Int32)
theorem t165_272 {d n : Nat} {Z : Nat → ab_C} (hn : 42 ≤ n) : ∀ (s : mS) (l : ab_L) (x1 : Int32) (x2 : Int32) (x3 : Int32) (x4 : Int32) (h0 : ab_get l 0 = some (.ref 22)) (h1 : ab_get l 1 = some (.int x1)) (h2 : ab_get l 2 = some (.int x2)) (h3 : ab_get l 3 = some (.int x3)) (h4 : ab_get l 4 = some (.int x4)) (r : mS) (e : f165_272 s x1 x2 x3 x4 = some r), ab_Rn (d + 8) 165 272 l [] (ab_hl n (mm_F s Z)) (.inl none) (ab_hl n (mm_F r Z)) := by
  intro s l x1 x2 x3 x4 h0 h1 h2 h3 h4 r e
  unfold f165_272 at e
  refine r_iconst (pc := 272) p165 k165_272 (v := (0 : Int32)) rfl ?_
  exact t165_273 hn s l x1 x2 x3 x4 (0 : Int32) h0 h1 h2 h3 h4 r e
def f165_234 (s : mS) (x1 : Int32) (x2 : Int32) (x3 : Int32) (y0 : Int32) : Option mS := ((f146 s y0).bind fun r1 => (if x1 = (71 : Int32) then (if (r1.2.1 38) = 0 then (if r1.1 < (-2048 : Int32) then f165_272 r1.2 x1 x2 x3 r1.1 else (if (2047 : Int32) < r1.1 then f165_272 r1.2 x1 x2 x3 r1.1 else f165_273 r1.2 x1 x2 x3 r1.1 (1 : Int32))) else f165_272 r1.2 x1 x2 x3 r1.1) else f165_272 r1.2 x1 x2 x3 r1.1))
theorem t165_234 {d n : Nat} {Z : Nat → ab_C} (hn : 42 ≤ n) : ∀ (s : mS) (l : ab_L) (x1 : Int32) (x2 : Int32) (x3 : Int32) (y0 : Int32) (h0 : ab_get l 0 = some (.ref 22)) (h1 : ab_get l 1 = some (.int x1)) (h2 : ab_get l 2 = some (.int x2)) (h3 : ab_get l 3 = some (.int x3)) (r : mS) (e : f165_234 s x1 x2 x3 y0 = some r), ab_Rn (d + 8) 165 234 l [.int y0, .ref 22] (ab_hl n (mm_F s Z)) (.inl none) (ab_hl n (mm_F r Z)) := by
  intro s l x1 x2 x3 y0 h0 h1 h2 h3 r e
  unfold f165_234 at e
  obtain ⟨r1, er1, e⟩ := of_bind e
  refine m_cv hn (pc := 234) p165 k165_234 rfl p146 (r := []) rfl rfl rfl rfl rfl (t146 hn s y0 r1 er1) (w := [.int r1.1]) rfl ?_
  refine r_istore (pc := 237) p165 k165_237 (by decide) (fun l g h4 => ?_)
  have h0 := g 0 _ (by decide) h0 (Or.inl rfl)
  have h1 := g 1 _ (by decide) h1 (Or.inl rfl)
  have h2 := g 2 _ (by decide) h2 (Or.inl rfl)
  have h3 := g 3 _ (by decide) h3 (Or.inl rfl)
  refine r_iload_n (pc := 239) p165 k165_239 h1 ?_
  refine r_bipush (pc := 240) p165 k165_240 (v := (71 : Int32)) rfl ?_
  refine r_ic_ne (pc := 242) p165 k165_242 (fun c => ?_) (fun c => ?_)
  · have e := (if_neg c).symm.trans e
    exact t165_272 hn r1.2 l x1 x2 x3 r1.1 h0 h1 h2 h3 h4 r e
  · have e := (if_pos c).symm.trans e
    refine r_aload_n (pc := 245) p165 k165_245 h0 ?_
    refine m_get hn (pc := 246) p165 k165_246 (v := .int (r1.2.1 38)) rfl ?_
    refine r_if_ne (pc := 249) p165 k165_249 (fun c => ?_) (fun c => ?_)
    · have e := (if_neg c).symm.trans e
      exact t165_272 hn r1.2 l x1 x2 x3 r1.1 h0 h1 h2 h3 h4 r e
    · have e := (if_pos c).symm.trans e
      refine r_iload (pc := 252) p165 k165_252 h4 ?_
      refine r_sipush (pc := 254) p165 k165_254 (v := (-2048 : Int32)) rfl ?_
      refine r_ic_lt (pc := 257) p165 k165_257 (fun c => ?_) (fun c => ?_)
      · have e := (if_pos c).symm.trans e
        exact t165_272 hn r1.2 l x1 x2 x3 r1.1 h0 h1 h2 h3 h4 r e
      · have e := (if_neg c).symm.trans e
        refine r_iload (pc := 260) p165 k165_260 h4 ?_
        refine r_sipush (pc := 262) p165 k165_262 (v := (2047 : Int32)) rfl ?_
        refine r_ic_gt (pc := 265) p165 k165_265 (fun c => ?_) (fun c => ?_)
        · have e := (if_pos c).symm.trans e
          exact t165_272 hn r1.2 l x1 x2 x3 r1.1 h0 h1 h2 h3 h4 r e
        · have e := (if_neg c).symm.trans e
          refine r_iconst (pc := 268) p165 k165_268 (v := (1 : Int32)) rfl ?_
          refine r_goto (pc := 269) p165 k165_269 ?_
          exact t165_273 hn r1.2 l x1 x2 x3 r1.1 (1 : Int32) h0 h1 h2 h3 h4 r e
def f165_207 (s : mS) (x1 : Int32) (x2 : Int32) (x3 : Int32) (y0 : Int32) : Option mS := if bz y0 then (if y0 = 0 then f165_234 (mg s 38 y0) x1 x2 x3 (3 : Int32) else (if (s.1 19) = 0 then f165_234 (mg s 38 y0) x1 x2 x3 (1 : Int32) else f165_234 (mg s 38 y0) x1 x2 x3 (2 : Int32))) else none
theorem t165_207 {d n : Nat} {Z : Nat → ab_C} (hn : 42 ≤ n) : ∀ (s : mS) (l : ab_L) (x1 : Int32) (x2 : Int32) (x3 : Int32) (y0 : Int32) (h0 : ab_get l 0 = some (.ref 22)) (h1 : ab_get l 1 = some (.int x1)) (h2 : ab_get l 2 = some (.int x2)) (h3 : ab_get l 3 = some (.int x3)) (r : mS) (e : f165_207 s x1 x2 x3 y0 = some r), ab_Rn (d + 8) 165 207 l [.int y0, .ref 22] (ab_hl n (mm_F s Z)) (.inl none) (ab_hl n (mm_F r Z)) := by
  intro s l x1 x2 x3 y0 h0 h1 h2 h3 r e
  unfold f165_207 at e
  obtain ⟨c, e⟩ := of_if e
  refine m_put hn (pc := 207) p165 k165_207 rfl rfl (bz_fit c) rfl ?_
  refine r_aload_n (pc := 210) p165 k165_210 h0 ?_
  refine r_aload_n (pc := 211) p165 k165_211 h0 ?_
  refine m_get hn (pc := 212) p165 k165_212 (v := .int y0) rfl ?_
  refine r_if_eq (pc := 215) p165 k165_215 (fun c => ?_) (fun c => ?_)
  · have e := (if_pos c).symm.trans e
    refine r_iconst (pc := 233) p165 k165_233 (v := (3 : Int32)) rfl ?_
    exact t165_234 hn (mg s 38 y0) l x1 x2 x3 (3 : Int32) h0 h1 h2 h3 r e
  · have e := (if_neg c).symm.trans e
    refine r_aload_n (pc := 218) p165 k165_218 h0 ?_
    refine m_get hn (pc := 219) p165 k165_219 (v := .int (s.1 19)) rfl ?_
    refine r_if_eq (pc := 222) p165 k165_222 (fun c => ?_) (fun c => ?_)
    · have e := (if_pos c).symm.trans e
      refine r_iconst (pc := 229) p165 k165_229 (v := (1 : Int32)) rfl ?_
      refine r_goto (pc := 230) p165 k165_230 ?_
      exact t165_234 hn (mg s 38 y0) l x1 x2 x3 (1 : Int32) h0 h1 h2 h3 r e
    · have e := (if_neg c).symm.trans e
      refine r_iconst (pc := 225) p165 k165_225 (v := (2 : Int32)) rfl ?_
      refine r_goto (pc := 226) p165 k165_226 ?_
      exact t165_234 hn (mg s 38 y0) l x1 x2 x3 (2 : Int32) h0 h1 h2 h3 r e
def f165_131 (s : mS) (y0 : Int32) : Option mS := ((f144 s y0 (4 : Int32)).bind fun r1 => some r1)
theorem t165_131 {d n : Nat} {Z : Nat → ab_C} (hn : 42 ≤ n) : ∀ (s : mS) (l : ab_L) (y0 : Int32)  (r : mS) (e : f165_131 s y0 = some r), ab_Rn (d + 8) 165 131 l [.int y0, .ref 22] (ab_hl n (mm_F s Z)) (.inl none) (ab_hl n (mm_F r Z)) := by
  intro s l y0 r e
  unfold f165_131 at e
  refine r_iconst (pc := 131) p165 k165_131 (v := (4 : Int32)) rfl ?_
  obtain ⟨r1, er1, e⟩ := of_bind e
  refine m_cv hn (pc := 132) p165 k165_132 rfl p144 (r := []) rfl rfl rfl rfl rfl (t144 hn s y0 (4 : Int32) r1 er1) (w := []) rfl ?_
  refine r_goto (pc := 135) p165 k165_135 ?_
  cases e
  exact r_retV (pc := 338) p165 k165_338 rfl
def f165 (s : mS) (x1 : Int32) : Option mS := (if (67 : Int32) ≤ x1 then (if (69 : Int32) ≤ x1 then (if x1 = (69 : Int32) then ((f140 s).bind fun r1 => ((f144 r1.2 (f160 (0 : Int32) r1.1 (0 : Int32) (0 : Int32) (103 : Int32)) (4 : Int32)).bind fun r2 => some r2)) else ((f139 s).bind fun r1 => (if x1 = (70 : Int32) then f165_207 r1.2 x1 r1.1 (r1.2.1 21) (1 : Int32) else f165_207 r1.2 x1 r1.1 (r1.2.1 21) (0 : Int32)))) else ((f145 s).bind fun r1 => ((f164 r1.2 (x1 - (67 : Int32)) r1.1).bind fun r2 => some r2))) else ((f139 s).bind fun r1 => ((f140 r1.2).bind fun r2 => (if x1 = (60 : Int32) then f165_131 r2.2 (f160 (0 : Int32) r2.1 (0 : Int32) r1.1 (19 : Int32)) else (if x1 = (61 : Int32) then f165_131 r2.2 (f160 (-1 : Int32) r2.1 (4 : Int32) r1.1 (19 : Int32)) else (if x1 = (62 : Int32) then f165_131 r2.2 (f143 (32 : Int32) r2.1 (0 : Int32) (0 : Int32) r1.1) else (if x1 = (63 : Int32) then f165_131 r2.2 (f160 (1 : Int32) r2.1 (3 : Int32) r1.1 (19 : Int32)) else (if x1 = (64 : Int32) then f165_131 r2.2 (f143 (0 : Int32) r2.1 (0 : Int32) (3 : Int32) r1.1) else (if x1 = (65 : Int32) then f165_131 r2.2 (f143 (0 : Int32) (0 : Int32) r2.1 (2 : Int32) r1.1) else f165_131 r2.2 (f143 (0 : Int32) r2.1 (0 : Int32) (2 : Int32) r1.1))))))))))
theorem t165 {d n : Nat} {Z : Nat → ab_C} (hn : 42 ≤ n) (s : mS) (x1 : Int32) (r : mS) (e : f165 s x1 = some r) : ab_Rn (d + 8) 165 0 (lv_args 0 [.ref 22, .int x1]) [] (ab_hl n (mm_F s Z)) (.inl none) (ab_hl n (mm_F r Z)) := by
  unfold f165 at e
  obtain ⟨l, hl⟩ : ∃ l, l = (lv_args 0 [.ref 22, .int x1]) := ⟨_, rfl⟩
  rw [← hl]
  have h0 : ab_get l 0 = some (.ref 22) := by rw [hl]; rfl
  have h1 : ab_get l 1 = some (.int x1) := by rw [hl]; rfl
  refine r_iload_n (pc := 0) p165 k165_0 h1 ?_
  refine r_bipush (pc := 1) p165 k165_1 (v := (67 : Int32)) rfl ?_
  refine r_ic_ge (pc := 3) p165 k165_3 (fun c => ?_) (fun c => ?_)
  · have e := (if_pos c).symm.trans e
    refine r_iload_n (pc := 138) p165 k165_138 h1 ?_
    refine r_bipush (pc := 139) p165 k165_139 (v := (69 : Int32)) rfl ?_
    refine r_ic_ge (pc := 141) p165 k165_141 (fun c => ?_) (fun c => ?_)
    · have e := (if_pos c).symm.trans e
      refine r_iload_n (pc := 159) p165 k165_159 h1 ?_
      refine r_bipush (pc := 160) p165 k165_160 (v := (69 : Int32)) rfl ?_
      refine r_ic_ne (pc := 162) p165 k165_162 (fun c => ?_) (fun c => ?_)
      · have e := (if_neg c).symm.trans e
        refine r_aload_n (pc := 185) p165 k165_185 h0 ?_
        obtain ⟨r1, er1, e⟩ := of_bind e
        refine m_cv hn (pc := 186) p165 k165_186 rfl p139 (r := []) rfl rfl rfl rfl rfl (t139 hn s r1 er1) (w := [.int r1.1]) rfl ?_
        refine r_istore_n (pc := 189) p165 k165_189 (by decide) (fun l g h2 => ?_)
        have h0 := g 0 _ (by decide) h0 (Or.inl rfl)
        have h1 := g 1 _ (by decide) h1 (Or.inl rfl)
        refine r_aload_n (pc := 190) p165 k165_190 h0 ?_
        refine m_get hn (pc := 191) p165 k165_191 (v := .int (r1.2.1 21)) rfl ?_
        refine r_istore_n (pc := 194) p165 k165_194 (by decide) (fun l g h3 => ?_)
        have h0 := g 0 _ (by decide) h0 (Or.inl rfl)
        have h1 := g 1 _ (by decide) h1 (Or.inl rfl)
        have h2 := g 2 _ (by decide) h2 (Or.inl rfl)
        refine r_aload_n (pc := 195) p165 k165_195 h0 ?_
        refine r_iload_n (pc := 196) p165 k165_196 h1 ?_
        refine r_bipush (pc := 197) p165 k165_197 (v := (70 : Int32)) rfl ?_
        refine r_ic_ne (pc := 199) p165 k165_199 (fun c => ?_) (fun c => ?_)
        · have e := (if_neg c).symm.trans e
          refine r_iconst (pc := 206) p165 k165_206 (v := (0 : Int32)) rfl ?_
          exact t165_207 hn r1.2 l x1 r1.1 (r1.2.1 21) (0 : Int32) h0 h1 h2 h3 r e
        · have e := (if_pos c).symm.trans e
          refine r_iconst (pc := 202) p165 k165_202 (v := (1 : Int32)) rfl ?_
          refine r_goto (pc := 203) p165 k165_203 ?_
          exact t165_207 hn r1.2 l x1 r1.1 (r1.2.1 21) (1 : Int32) h0 h1 h2 h3 r e
      · have e := (if_pos c).symm.trans e
        refine r_aload_n (pc := 165) p165 k165_165 h0 ?_
        refine r_iconst (pc := 166) p165 k165_166 (v := (0 : Int32)) rfl ?_
        refine r_aload_n (pc := 167) p165 k165_167 h0 ?_
        obtain ⟨r1, er1, e⟩ := of_bind e
        refine m_cv hn (pc := 168) p165 k165_168 rfl p140 (r := [.int (0 : Int32), .ref 22]) rfl rfl rfl rfl rfl (t140 hn s r1 er1) (w := [.int r1.1, .int (0 : Int32), .ref 22]) rfl ?_
        refine r_iconst (pc := 171) p165 k165_171 (v := (0 : Int32)) rfl ?_
        refine r_iconst (pc := 172) p165 k165_172 (v := (0 : Int32)) rfl ?_
        refine r_bipush (pc := 173) p165 k165_173 (v := (103 : Int32)) rfl ?_
        refine r_csv (pc := 175) p165 k165_175 rfl rfl p160 (r := [.ref 22]) rfl rfl rfl rfl (t160 (0 : Int32) r1.1 (0 : Int32) (0 : Int32) (103 : Int32) _ rfl) (w := [.int (f160 (0 : Int32) r1.1 (0 : Int32) (0 : Int32) (103 : Int32)), .ref 22]) rfl ?_
        refine r_iconst (pc := 178) p165 k165_178 (v := (4 : Int32)) rfl ?_
        obtain ⟨r2, er2, e⟩ := of_bind e
        refine m_cv hn (pc := 179) p165 k165_179 rfl p144 (r := []) rfl rfl rfl rfl rfl (t144 hn r1.2 (f160 (0 : Int32) r1.1 (0 : Int32) (0 : Int32) (103 : Int32)) (4 : Int32) r2 er2) (w := []) rfl ?_
        refine r_goto (pc := 182) p165 k165_182 ?_
        cases e
        exact r_retV (pc := 338) p165 k165_338 rfl
    · have e := (if_neg c).symm.trans e
      refine r_aload_n (pc := 144) p165 k165_144 h0 ?_
      refine r_iload_n (pc := 145) p165 k165_145 h1 ?_
      refine r_bipush (pc := 146) p165 k165_146 (v := (67 : Int32)) rfl ?_
      refine r_isub (pc := 148) p165 k165_148 ?_
      refine r_aload_n (pc := 149) p165 k165_149 h0 ?_
      obtain ⟨r1, er1, e⟩ := of_bind e
      refine m_cv hn (pc := 150) p165 k165_150 rfl p145 (r := [.int (x1 - (67 : Int32)), .ref 22]) rfl rfl rfl rfl rfl (t145 hn s r1 er1) (w := [.int r1.1, .int (x1 - (67 : Int32)), .ref 22]) rfl ?_
      obtain ⟨r2, er2, e⟩ := of_bind e
      refine m_cv hn (pc := 153) p165 k165_153 rfl p164 (r := []) rfl rfl rfl rfl rfl (t164 hn r1.2 (x1 - (67 : Int32)) r1.1 r2 er2) (w := []) rfl ?_
      refine r_goto (pc := 156) p165 k165_156 ?_
      cases e
      exact r_retV (pc := 338) p165 k165_338 rfl
  · have e := (if_neg c).symm.trans e
    refine r_aload_n (pc := 6) p165 k165_6 h0 ?_
    obtain ⟨r1, er1, e⟩ := of_bind e
    refine m_cv hn (pc := 7) p165 k165_7 rfl p139 (r := []) rfl rfl rfl rfl rfl (t139 hn s r1 er1) (w := [.int r1.1]) rfl ?_
    refine r_istore_n (pc := 10) p165 k165_10 (by decide) (fun l g h2 => ?_)
    have h0 := g 0 _ (by decide) h0 (Or.inl rfl)
    have h1 := g 1 _ (by decide) h1 (Or.inl rfl)
    refine r_aload_n (pc := 11) p165 k165_11 h0 ?_
    obtain ⟨r2, er2, e⟩ := of_bind e
    refine m_cv hn (pc := 12) p165 k165_12 rfl p140 (r := []) rfl rfl rfl rfl rfl (t140 hn r1.2 r2 er2) (w := [.int r2.1]) rfl ?_
    refine r_istore_n (pc := 15) p165 k165_15 (by decide) (fun l g h3 => ?_)
    have h0 := g 0 _ (by decide) h0 (Or.inl rfl)
    have h1 := g 1 _ (by decide) h1 (Or.inl rfl)
    have h2 := g 2 _ (by decide) h2 (Or.inl rfl)
    refine r_aload_n (pc := 16) p165 k165_16 h0 ?_
    refine r_iload_n (pc := 17) p165 k165_17 h1 ?_
    refine r_bipush (pc := 18) p165 k165_18 (v := (60 : Int32)) rfl ?_
    refine r_ic_ne (pc := 20) p165 k165_20 (fun c => ?_) (fun c => ?_)
    · have e := (if_neg c).symm.trans e
      refine r_iload_n (pc := 35) p165 k165_35 h1 ?_
      refine r_bipush (pc := 36) p165 k165_36 (v := (61 : Int32)) rfl ?_
      refine r_ic_ne (pc := 38) p165 k165_38 (fun c => ?_) (fun c => ?_)
      · have e := (if_neg c).symm.trans e
        refine r_iload_n (pc := 53) p165 k165_53 h1 ?_
        refine r_bipush (pc := 54) p165 k165_54 (v := (62 : Int32)) rfl ?_
        refine r_ic_ne (pc := 56) p165 k165_56 (fun c => ?_) (fun c => ?_)
        · have e := (if_neg c).symm.trans e
          refine r_iload_n (pc := 71) p165 k165_71 h1 ?_
          refine r_bipush (pc := 72) p165 k165_72 (v := (63 : Int32)) rfl ?_
          refine r_ic_ne (pc := 74) p165 k165_74 (fun c => ?_) (fun c => ?_)
          · have e := (if_neg c).symm.trans e
            refine r_iload_n (pc := 89) p165 k165_89 h1 ?_
            refine r_bipush (pc := 90) p165 k165_90 (v := (64 : Int32)) rfl ?_
            refine r_ic_ne (pc := 92) p165 k165_92 (fun c => ?_) (fun c => ?_)
            · have e := (if_neg c).symm.trans e
              refine r_iload_n (pc := 106) p165 k165_106 h1 ?_
              refine r_bipush (pc := 107) p165 k165_107 (v := (65 : Int32)) rfl ?_
              refine r_ic_ne (pc := 109) p165 k165_109 (fun c => ?_) (fun c => ?_)
              · have e := (if_neg c).symm.trans e
                refine r_iconst (pc := 123) p165 k165_123 (v := (0 : Int32)) rfl ?_
                refine r_iload_n (pc := 124) p165 k165_124 h3 ?_
                refine r_iconst (pc := 125) p165 k165_125 (v := (0 : Int32)) rfl ?_
                refine r_iconst (pc := 126) p165 k165_126 (v := (2 : Int32)) rfl ?_
                refine r_iload_n (pc := 127) p165 k165_127 h2 ?_
                refine r_csv (pc := 128) p165 k165_128 rfl rfl p143 (r := [.ref 22]) rfl rfl rfl rfl (t143 (0 : Int32) r2.1 (0 : Int32) (2 : Int32) r1.1 _ rfl) (w := [.int (f143 (0 : Int32) r2.1 (0 : Int32) (2 : Int32) r1.1), .ref 22]) rfl ?_
                exact t165_131 hn r2.2 l (f143 (0 : Int32) r2.1 (0 : Int32) (2 : Int32) r1.1) r e
              · have e := (if_pos c).symm.trans e
                refine r_iconst (pc := 112) p165 k165_112 (v := (0 : Int32)) rfl ?_
                refine r_iconst (pc := 113) p165 k165_113 (v := (0 : Int32)) rfl ?_
                refine r_iload_n (pc := 114) p165 k165_114 h3 ?_
                refine r_iconst (pc := 115) p165 k165_115 (v := (2 : Int32)) rfl ?_
                refine r_iload_n (pc := 116) p165 k165_116 h2 ?_
                refine r_csv (pc := 117) p165 k165_117 rfl rfl p143 (r := [.ref 22]) rfl rfl rfl rfl (t143 (0 : Int32) (0 : Int32) r2.1 (2 : Int32) r1.1 _ rfl) (w := [.int (f143 (0 : Int32) (0 : Int32) r2.1 (2 : Int32) r1.1), .ref 22]) rfl ?_
                refine r_goto (pc := 120) p165 k165_120 ?_
                exact t165_131 hn r2.2 l (f143 (0 : Int32) (0 : Int32) r2.1 (2 : Int32) r1.1) r e
            · have e := (if_pos c).symm.trans e
              refine r_iconst (pc := 95) p165 k165_95 (v := (0 : Int32)) rfl ?_
              refine r_iload_n (pc := 96) p165 k165_96 h3 ?_
              refine r_iconst (pc := 97) p165 k165_97 (v := (0 : Int32)) rfl ?_
              refine r_iconst (pc := 98) p165 k165_98 (v := (3 : Int32)) rfl ?_
              refine r_iload_n (pc := 99) p165 k165_99 h2 ?_
              refine r_csv (pc := 100) p165 k165_100 rfl rfl p143 (r := [.ref 22]) rfl rfl rfl rfl (t143 (0 : Int32) r2.1 (0 : Int32) (3 : Int32) r1.1 _ rfl) (w := [.int (f143 (0 : Int32) r2.1 (0 : Int32) (3 : Int32) r1.1), .ref 22]) rfl ?_
              refine r_goto (pc := 103) p165 k165_103 ?_
              exact t165_131 hn r2.2 l (f143 (0 : Int32) r2.1 (0 : Int32) (3 : Int32) r1.1) r e
          · have e := (if_pos c).symm.trans e
            refine r_iconst (pc := 77) p165 k165_77 (v := (1 : Int32)) rfl ?_
            refine r_iload_n (pc := 78) p165 k165_78 h3 ?_
            refine r_iconst (pc := 79) p165 k165_79 (v := (3 : Int32)) rfl ?_
            refine r_iload_n (pc := 80) p165 k165_80 h2 ?_
            refine r_bipush (pc := 81) p165 k165_81 (v := (19 : Int32)) rfl ?_
            refine r_csv (pc := 83) p165 k165_83 rfl rfl p160 (r := [.ref 22]) rfl rfl rfl rfl (t160 (1 : Int32) r2.1 (3 : Int32) r1.1 (19 : Int32) _ rfl) (w := [.int (f160 (1 : Int32) r2.1 (3 : Int32) r1.1 (19 : Int32)), .ref 22]) rfl ?_
            refine r_goto (pc := 86) p165 k165_86 ?_
            exact t165_131 hn r2.2 l (f160 (1 : Int32) r2.1 (3 : Int32) r1.1 (19 : Int32)) r e
        · have e := (if_pos c).symm.trans e
          refine r_bipush (pc := 59) p165 k165_59 (v := (32 : Int32)) rfl ?_
          refine r_iload_n (pc := 61) p165 k165_61 h3 ?_
          refine r_iconst (pc := 62) p165 k165_62 (v := (0 : Int32)) rfl ?_
          refine r_iconst (pc := 63) p165 k165_63 (v := (0 : Int32)) rfl ?_
          refine r_iload_n (pc := 64) p165 k165_64 h2 ?_
          refine r_csv (pc := 65) p165 k165_65 rfl rfl p143 (r := [.ref 22]) rfl rfl rfl rfl (t143 (32 : Int32) r2.1 (0 : Int32) (0 : Int32) r1.1 _ rfl) (w := [.int (f143 (32 : Int32) r2.1 (0 : Int32) (0 : Int32) r1.1), .ref 22]) rfl ?_
          refine r_goto (pc := 68) p165 k165_68 ?_
          exact t165_131 hn r2.2 l (f143 (32 : Int32) r2.1 (0 : Int32) (0 : Int32) r1.1) r e
      · have e := (if_pos c).symm.trans e
        refine r_iconst (pc := 41) p165 k165_41 (v := (-1 : Int32)) rfl ?_
        refine r_iload_n (pc := 42) p165 k165_42 h3 ?_
        refine r_iconst (pc := 43) p165 k165_43 (v := (4 : Int32)) rfl ?_
        refine r_iload_n (pc := 44) p165 k165_44 h2 ?_
        refine r_bipush (pc := 45) p165 k165_45 (v := (19 : Int32)) rfl ?_
        refine r_csv (pc := 47) p165 k165_47 rfl rfl p160 (r := [.ref 22]) rfl rfl rfl rfl (t160 (-1 : Int32) r2.1 (4 : Int32) r1.1 (19 : Int32) _ rfl) (w := [.int (f160 (-1 : Int32) r2.1 (4 : Int32) r1.1 (19 : Int32)), .ref 22]) rfl ?_
        refine r_goto (pc := 50) p165 k165_50 ?_
        exact t165_131 hn r2.2 l (f160 (-1 : Int32) r2.1 (4 : Int32) r1.1 (19 : Int32)) r e
    · have e := (if_pos c).symm.trans e
      refine r_iconst (pc := 23) p165 k165_23 (v := (0 : Int32)) rfl ?_
      refine r_iload_n (pc := 24) p165 k165_24 h3 ?_
      refine r_iconst (pc := 25) p165 k165_25 (v := (0 : Int32)) rfl ?_
      refine r_iload_n (pc := 26) p165 k165_26 h2 ?_
      refine r_bipush (pc := 27) p165 k165_27 (v := (19 : Int32)) rfl ?_
      refine r_csv (pc := 29) p165 k165_29 rfl rfl p160 (r := [.ref 22]) rfl rfl rfl rfl (t160 (0 : Int32) r2.1 (0 : Int32) r1.1 (19 : Int32) _ rfl) (w := [.int (f160 (0 : Int32) r2.1 (0 : Int32) r1.1 (19 : Int32)), .ref 22]) rfl ?_
      refine r_goto (pc := 32) p165 k165_32 ?_
      exact t165_131 hn r2.2 l (f160 (0 : Int32) r2.1 (0 : Int32) r1.1 (19 : Int32)) r e

theorem p168 : ab_prog[168]? = some (ab_m168, ab_c168) := rfl
theorem k168_0 : ab_fetch ab_c168 0 = some (.iconst 0, 1, 0, 0) := rfl
theorem k168_1 : ab_fetch ab_c168 1 = some (.istore_n 2, 1, 0, 0) := rfl
theorem k168_2 : ab_fetch ab_c168 2 = some (.iload_n 2, 1, 0, 0) := rfl
theorem k168_3 : ab_fetch ab_c168 3 = some (.iload_n 1, 1, 0, 0) := rfl
theorem k168_4 : ab_fetch ab_c168 4 = some (.if_icmp .ge 42, 3, 46, 0) := rfl
theorem k168_7 : ab_fetch ab_c168 7 = some (.aload_n 0, 1, 0, 0) := rfl
theorem k168_8 : ab_fetch ab_c168 8 = some (.getfield 408, 3, 6, 19) := rfl
theorem k168_11 : ab_fetch ab_c168 11 = some (.ifCond .eq 35, 3, 46, 0) := rfl
theorem k168_14 : ab_fetch ab_c168 14 = some (.aload_n 0, 1, 0, 0) := rfl
theorem k168_15 : ab_fetch ab_c168 15 = some (.getfield 282, 3, 6, 36) := rfl
theorem k168_18 : ab_fetch ab_c168 18 = some (.ldc_w 476, 3, 65420, 0) := rfl
theorem k168_21 : ab_fetch ab_c168 21 = some (.aload_n 0, 1, 0, 0) := rfl
theorem k168_22 : ab_fetch ab_c168 22 = some (.getfield 477, 3, 6, 32) := rfl
theorem k168_25 : ab_fetch ab_c168 25 = some (.imul, 1, 0, 0) := rfl
theorem k168_26 : ab_fetch ab_c168 26 = some (.aload_n 0, 1, 0, 0) := rfl
theorem k168_27 : ab_fetch ab_c168 27 = some (.getfield 278, 3, 6, 35) := rfl
theorem k168_30 : ab_fetch ab_c168 30 = some (.aload_n 0, 1, 0, 0) := rfl
theorem k168_31 : ab_fetch ab_c168 31 = some (.getfield 477, 3, 6, 32) := rfl
theorem k168_34 : ab_fetch ab_c168 34 = some (.iaload, 1, 0, 0) := rfl
theorem k168_35 : ab_fetch ab_c168 35 = some (.iadd, 1, 0, 0) := rfl
theorem k168_36 : ab_fetch ab_c168 36 = some (.iload_n 2, 1, 0, 0) := rfl
theorem k168_37 : ab_fetch ab_c168 37 = some (.iadd, 1, 0, 0) := rfl
theorem k168_38 : ab_fetch ab_c168 38 = some (.iconst 0, 1, 0, 0) := rfl
theorem k168_39 : ab_fetch ab_c168 39 = some (.bastore, 1, 0, 0) := rfl
theorem k168_40 : ab_fetch ab_c168 40 = some (.iinc 2 1, 3, 0, 0) := rfl
theorem k168_43 : ab_fetch ab_c168 43 = some (.goto (-41), 3, 2, 0) := rfl
theorem k168_46 : ab_fetch ab_c168 46 = some (.aload_n 0, 1, 0, 0) := rfl
theorem k168_47 : ab_fetch ab_c168 47 = some (.getfield 278, 3, 6, 35) := rfl
theorem k168_50 : ab_fetch ab_c168 50 = some (.aload_n 0, 1, 0, 0) := rfl
theorem k168_51 : ab_fetch ab_c168 51 = some (.getfield 477, 3, 6, 32) := rfl
theorem k168_54 : ab_fetch ab_c168 54 = some (.dup2, 1, 0, 0) := rfl
theorem k168_55 : ab_fetch ab_c168 55 = some (.iaload, 1, 0, 0) := rfl
theorem k168_56 : ab_fetch ab_c168 56 = some (.iload_n 1, 1, 0, 0) := rfl
theorem k168_57 : ab_fetch ab_c168 57 = some (.iadd, 1, 0, 0) := rfl
theorem k168_58 : ab_fetch ab_c168 58 = some (.iastore, 1, 0, 0) := rfl
theorem k168_59 : ab_fetch ab_c168 59 = some (.return_, 1, 0, 0) := rfl
/- CodeSmithModel gap(I)V -/
def f168_46 (s : mS) (x1 : Int32) : Option mS := if ib (s.1 32) 2 then if ib (s.1 32) 2 then some (mb s 35 (s.1 32) (((s.2 35) (s.1 32).toNatClampNeg) + x1)) else none else none
theorem t168_46 {d n : Nat} {Z : Nat → ab_C} (hn : 42 ≤ n) : ∀ (s : mS) (l : ab_L) (x1 : Int32) (h0 : ab_get l 0 = some (.ref 22)) (h1 : ab_get l 1 = some (.int x1)) (r : mS) (e : f168_46 s x1 = some r), ab_Rn d 168 46 l [] (ab_hl n (mm_F s Z)) (.inl none) (ab_hl n (mm_F r Z)) := by
  intro s l x1 h0 h1 r e
  unfold f168_46 at e
  refine r_aload_n (pc := 46) p168 k168_46 h0 ?_
  refine m_get hn (pc := 47) p168 k168_47 (v := .ref 34) rfl ?_
  refine r_aload_n (pc := 50) p168 k168_50 h0 ?_
  refine m_get hn (pc := 51) p168 k168_51 (v := .int (s.1 32)) rfl ?_
  refine r_dup2 (pc := 54) p168 k168_54 ⟨rfl, rfl⟩ ?_
  obtain ⟨c, e⟩ := of_if e
  refine r_iald (pc := 55) p168 k168_55 (m_lt hn rfl) (f := (s.2 35)) rfl c ?_
  refine r_iload_n (pc := 56) p168 k168_56 h1 ?_
  refine r_iadd (pc := 57) p168 k168_57 ?_
  obtain ⟨c, e⟩ := of_if e
  refine m_ast hn rfl (pc := 58) p168 k168_58 (k := 35) rfl (mm_arr35 _ Z) c ?_
  cases e
  exact r_retV (pc := 59) p168 k168_59 rfl
def f168_2 : Nat → mS → Int32 → Int32 → Option mS
  | 0, _, _, _ => none
  | u + 1, s, x1, x2 => (if x1 ≤ x2 then f168_46 s x1 else (if (s.1 19) = 0 then f168_46 s x1 else if ib (s.1 32) 2 then if ib ((((65420 : Int32) * (s.1 32)) + ((s.2 35) (s.1 32).toNatClampNeg)) + x2) 130840 then f168_2 u (mb s 36 ((((65420 : Int32) * (s.1 32)) + ((s.2 35) (s.1 32).toNatClampNeg)) + x2) (0 : Int32).toInt8.toInt32) x1 (x2 + (1 : Int32)) else none else none))
theorem t168_2 {d n : Nat} {Z : Nat → ab_C} (hn : 42 ≤ n) : ∀ u : Nat, ∀ (s : mS) (l : ab_L) (x1 : Int32) (x2 : Int32) (h0 : ab_get l 0 = some (.ref 22)) (h1 : ab_get l 1 = some (.int x1)) (h2 : ab_get l 2 = some (.int x2)) (r : mS) (e : f168_2 u s x1 x2 = some r), ab_Rn d 168 2 l [] (ab_hl n (mm_F s Z)) (.inl none) (ab_hl n (mm_F r Z)) := by
  intro u
  induction u with
  | zero => intro s l x1 x2 h0 h1 h2 r e; rw [f168_2] at e; cases e
  | succ u ih =>
    intro s l x1 x2 h0 h1 h2 r e
    rw [f168_2] at e
    refine r_iload_n (pc := 2) p168 k168_2 h2 ?_
    refine r_iload_n (pc := 3) p168 k168_3 h1 ?_
    refine r_ic_ge (pc := 4) p168 k168_4 (fun c => ?_) (fun c => ?_)
    · have e := (if_pos c).symm.trans e
      exact t168_46 hn s l x1 h0 h1 r e
    · have e := (if_neg c).symm.trans e
      refine r_aload_n (pc := 7) p168 k168_7 h0 ?_
      refine m_get hn (pc := 8) p168 k168_8 (v := .int (s.1 19)) rfl ?_
      refine r_if_eq (pc := 11) p168 k168_11 (fun c => ?_) (fun c => ?_)
      · have e := (if_pos c).symm.trans e
        exact t168_46 hn s l x1 h0 h1 r e
      · have e := (if_neg c).symm.trans e
        refine r_aload_n (pc := 14) p168 k168_14 h0 ?_
        refine m_get hn (pc := 15) p168 k168_15 (v := .ref 35) rfl ?_
        refine r_ldcwI (pc := 18) p168 k168_18 (v := (65420 : Int32)) rfl ?_
        refine r_aload_n (pc := 21) p168 k168_21 h0 ?_
        refine m_get hn (pc := 22) p168 k168_22 (v := .int (s.1 32)) rfl ?_
        refine r_imul (pc := 25) p168 k168_25 ?_
        refine r_aload_n (pc := 26) p168 k168_26 h0 ?_
        refine m_get hn (pc := 27) p168 k168_27 (v := .ref 34) rfl ?_
        refine r_aload_n (pc := 30) p168 k168_30 h0 ?_
        refine m_get hn (pc := 31) p168 k168_31 (v := .int (s.1 32)) rfl ?_
        obtain ⟨c, e⟩ := of_if e
        refine r_iald (pc := 34) p168 k168_34 (m_lt hn rfl) (f := (s.2 35)) rfl c ?_
        refine r_iadd (pc := 35) p168 k168_35 ?_
        refine r_iload_n (pc := 36) p168 k168_36 h2 ?_
        refine r_iadd (pc := 37) p168 k168_37 ?_
        refine r_iconst (pc := 38) p168 k168_38 (v := (0 : Int32)) rfl ?_
        obtain ⟨c, e⟩ := of_if e
        refine m_bst hn rfl (pc := 39) p168 k168_39 (k := 36) rfl (mm_arr36 _ Z) c ?_
        refine r_iinc (pc := 40) p168 k168_40 h2 (by decide) (v := (x2 + (1 : Int32))) rfl (fun l g h2 => ?_)
        have h0 := g 0 _ (by decide) h0 (Or.inl rfl)
        have h1 := g 1 _ (by decide) h1 (Or.inl rfl)
        refine r_goto (pc := 43) p168 k168_43 ?_
        exact ih (mb s 36 ((((65420 : Int32) * (s.1 32)) + ((s.2 35) (s.1 32).toNatClampNeg)) + x2) (0 : Int32).toInt8.toInt32) l x1 (x2 + (1 : Int32)) h0 h1 h2 r e
def f168 (s : mS) (x1 : Int32) : Option mS := f168_2 mm_U s x1 (0 : Int32)
theorem t168 {d n : Nat} {Z : Nat → ab_C} (hn : 42 ≤ n) (s : mS) (x1 : Int32) (r : mS) (e : f168 s x1 = some r) : ab_Rn d 168 0 (lv_args 0 [.ref 22, .int x1]) [] (ab_hl n (mm_F s Z)) (.inl none) (ab_hl n (mm_F r Z)) := by
  unfold f168 at e
  obtain ⟨l, hl⟩ : ∃ l, l = (lv_args 0 [.ref 22, .int x1]) := ⟨_, rfl⟩
  rw [← hl]
  have h0 : ab_get l 0 = some (.ref 22) := by rw [hl]; rfl
  have h1 : ab_get l 1 = some (.int x1) := by rw [hl]; rfl
  refine r_iconst (pc := 0) p168 k168_0 (v := (0 : Int32)) rfl ?_
  refine r_istore_n (pc := 1) p168 k168_1 (by decide) (fun l g h2 => ?_)
  have h0 := g 0 _ (by decide) h0 (Or.inl rfl)
  have h1 := g 1 _ (by decide) h1 (Or.inl rfl)
  exact t168_2 hn mm_U s l x1 (0 : Int32) h0 h1 h2 r e

theorem p169 : ab_prog[169]? = some (ab_m169, ab_c169) := rfl
theorem k169_0 : ab_fetch ab_c169 0 = some (.aload_n 0, 1, 0, 0) := rfl
theorem k169_1 : ab_fetch ab_c169 1 = some (.getfield 358, 3, 6, 20) := rfl
theorem k169_4 : ab_fetch ab_c169 4 = some (.iconst 1, 1, 0, 0) := rfl
theorem k169_5 : ab_fetch ab_c169 5 = some (.if_icmp .eq 12, 3, 17, 0) := rfl
theorem k169_8 : ab_fetch ab_c169 8 = some (.aload_n 0, 1, 0, 0) := rfl
theorem k169_9 : ab_fetch ab_c169 9 = some (.iconst 1, 1, 0, 0) := rfl
theorem k169_10 : ab_fetch ab_c169 10 = some (.aload_n 0, 1, 0, 0) := rfl
theorem k169_11 : ab_fetch ab_c169 11 = some (.getfield 349, 3, 6, 21) := rfl
theorem k169_14 : ab_fetch ab_c169 14 = some (.invokevirtual 342, 3, 131, 2) := rfl
theorem k169_17 : ab_fetch ab_c169 17 = some (.aload_n 0, 1, 0, 0) := rfl
theorem k169_18 : ab_fetch ab_c169 18 = some (.invokevirtual 398, 3, 130, 0) := rfl
theorem k169_21 : ab_fetch ab_c169 21 = some (.aload_n 0, 1, 0, 0) := rfl
theorem k169_22 : ab_fetch ab_c169 22 = some (.getfield 349, 3, 6, 21) := rfl
theorem k169_25 : ab_fetch ab_c169 25 = some (.istore_n 2, 1, 0, 0) := rfl
theorem k169_26 : ab_fetch ab_c169 26 = some (.aload_n 0, 1, 0, 0) := rfl
theorem k169_27 : ab_fetch ab_c169 27 = some (.getfield 322, 3, 6, 18) := rfl
theorem k169_30 : ab_fetch ab_c169 30 = some (.aload_n 0, 1, 0, 0) := rfl
theorem k169_31 : ab_fetch ab_c169 31 = some (.getfield 349, 3, 6, 21) := rfl
theorem k169_34 : ab_fetch ab_c169 34 = some (.isub, 1, 0, 0) := rfl
theorem k169_35 : ab_fetch ab_c169 35 = some (.istore_n 3, 1, 0, 0) := rfl
theorem k169_36 : ab_fetch ab_c169 36 = some (.iload_n 1, 1, 0, 0) := rfl
theorem k169_37 : ab_fetch ab_c169 37 = some (.bipush 81, 2, 0, 0) := rfl
theorem k169_39 : ab_fetch ab_c169 39 = some (.if_icmp .ne 7, 3, 46, 0) := rfl
theorem k169_42 : ab_fetch ab_c169 42 = some (.aload_n 0, 1, 0, 0) := rfl
theorem k169_43 : ab_fetch ab_c169 43 = some (.invokevirtual 539, 3, 132, 0) := rfl
theorem k169_46 : ab_fetch ab_c169 46 = some (.aload_n 0, 1, 0, 0) := rfl
theorem k169_47 : ab_fetch ab_c169 47 = some (.getfield 307, 3, 6, 11) := rfl
theorem k169_50 : ab_fetch ab_c169 50 = some (.ifCond .ne 7, 3, 57, 0) := rfl
theorem k169_53 : ab_fetch ab_c169 53 = some (.aload_n 0, 1, 0, 0) := rfl
theorem k169_54 : ab_fetch ab_c169 54 = some (.invokevirtual 387, 3, 117, 0) := rfl
theorem k169_57 : ab_fetch ab_c169 57 = some (.iload_n 1, 1, 0, 0) := rfl
theorem k169_58 : ab_fetch ab_c169 58 = some (.bipush 82, 2, 0, 0) := rfl
theorem k169_60 : ab_fetch ab_c169 60 = some (.if_icmp .ne 4, 3, 64, 0) := rfl
theorem k169_63 : ab_fetch ab_c169 63 = some (.return_, 1, 0, 0) := rfl
theorem k169_64 : ab_fetch ab_c169 64 = some (.aload_n 0, 1, 0, 0) := rfl
theorem k169_65 : ab_fetch ab_c169 65 = some (.bipush 44, 2, 0, 0) := rfl
theorem k169_67 : ab_fetch ab_c169 67 = some (.invokevirtual 495, 3, 141, 1) := rfl
theorem k169_70 : ab_fetch ab_c169 70 = some (.aload_n 0, 1, 0, 0) := rfl
theorem k169_71 : ab_fetch ab_c169 71 = some (.iconst 1, 1, 0, 0) := rfl
theorem k169_72 : ab_fetch ab_c169 72 = some (.iload_n 2, 1, 0, 0) := rfl
theorem k169_73 : ab_fetch ab_c169 73 = some (.iload_n 3, 1, 0, 0) := rfl
theorem k169_74 : ab_fetch ab_c169 74 = some (.aload_n 0, 1, 0, 0) := rfl
theorem k169_75 : ab_fetch ab_c169 75 = some (.getfield 307, 3, 6, 11) := rfl
theorem k169_78 : ab_fetch ab_c169 78 = some (.ifCond .ne 11, 3, 89, 0) := rfl
theorem k169_81 : ab_fetch ab_c169 81 = some (.aload_n 0, 1, 0, 0) := rfl
theorem k169_82 : ab_fetch ab_c169 82 = some (.iconst 0, 1, 0, 0) := rfl
theorem k169_83 : ab_fetch ab_c169 83 = some (.invokevirtual 473, 3, 146, 1) := rfl
theorem k169_86 : ab_fetch ab_c169 86 = some (.goto 4, 3, 90, 0) := rfl
theorem k169_89 : ab_fetch ab_c169 89 = some (.iconst 0, 1, 0, 0) := rfl
theorem k169_90 : ab_fetch ab_c169 90 = some (.invokevirtual 542, 3, 137, 4) := rfl
theorem k169_93 : ab_fetch ab_c169 93 = some (.return_, 1, 0, 0) := rfl
/- CodeSmithModel constant(I)V -/
def f169_90 (s : mS) (y0 : Int32) (y1 : Int32) (y2 : Int32) (y3 : Int32) : Option mS := ((f137 s y3 y2 y1 y0).bind fun r1 => some r1)
theorem t169_90 {d n : Nat} {Z : Nat → ab_C} (hn : 42 ≤ n) : ∀ (s : mS) (l : ab_L) (y0 : Int32) (y1 : Int32) (y2 : Int32) (y3 : Int32)  (r : mS) (e : f169_90 s y0 y1 y2 y3 = some r), ab_Rn (d + 7) 169 90 l [.int y0, .int y1, .int y2, .int y3, .ref 22] (ab_hl n (mm_F s Z)) (.inl none) (ab_hl n (mm_F r Z)) := by
  intro s l y0 y1 y2 y3 r e
  unfold f169_90 at e
  obtain ⟨r1, er1, e⟩ := of_bind e
  refine m_cv hn (pc := 90) p169 k169_90 rfl p137 (r := []) rfl rfl rfl rfl rfl (t137 hn s y3 y2 y1 y0 r1 er1) (w := []) rfl ?_
  cases e
  exact r_retV (pc := 93) p169 k169_93 rfl
def f169_57 (s : mS) (x1 : Int32) (x2 : Int32) (x3 : Int32) : Option mS := (if x1 = (82 : Int32) then some s else ((f141 s (44 : Int32)).bind fun r1 => (if (r1.1 11) = 0 then ((f146 r1 (0 : Int32)).bind fun r2 => f169_90 r2.2 r2.1 x3 x2 (1 : Int32)) else f169_90 r1 (0 : Int32) x3 x2 (1 : Int32))))
theorem t169_57 {d n : Nat} {Z : Nat → ab_C} (hn : 42 ≤ n) : ∀ (s : mS) (l : ab_L) (x1 : Int32) (x2 : Int32) (x3 : Int32) (h0 : ab_get l 0 = some (.ref 22)) (h1 : ab_get l 1 = some (.int x1)) (h2 : ab_get l 2 = some (.int x2)) (h3 : ab_get l 3 = some (.int x3)) (r : mS) (e : f169_57 s x1 x2 x3 = some r), ab_Rn (d + 7) 169 57 l [] (ab_hl n (mm_F s Z)) (.inl none) (ab_hl n (mm_F r Z)) := by
  intro s l x1 x2 x3 h0 h1 h2 h3 r e
  unfold f169_57 at e
  refine r_iload_n (pc := 57) p169 k169_57 h1 ?_
  refine r_bipush (pc := 58) p169 k169_58 (v := (82 : Int32)) rfl ?_
  refine r_ic_ne (pc := 60) p169 k169_60 (fun c => ?_) (fun c => ?_)
  · have e := (if_neg c).symm.trans e
    refine r_aload_n (pc := 64) p169 k169_64 h0 ?_
    refine r_bipush (pc := 65) p169 k169_65 (v := (44 : Int32)) rfl ?_
    obtain ⟨r1, er1, e⟩ := of_bind e
    refine m_cv hn (pc := 67) p169 k169_67 rfl p141 (r := []) rfl rfl rfl rfl rfl (t141 hn s (44 : Int32) r1 er1) (w := []) rfl ?_
    refine r_aload_n (pc := 70) p169 k169_70 h0 ?_
    refine r_iconst (pc := 71) p169 k169_71 (v := (1 : Int32)) rfl ?_
    refine r_iload_n (pc := 72) p169 k169_72 h2 ?_
    refine r_iload_n (pc := 73) p169 k169_73 h3 ?_
    refine r_aload_n (pc := 74) p169 k169_74 h0 ?_
    refine m_get hn (pc := 75) p169 k169_75 (v := .int (r1.1 11)) rfl ?_
    refine r_if_ne (pc := 78) p169 k169_78 (fun c => ?_) (fun c => ?_)
    · have e := (if_neg c).symm.trans e
      refine r_iconst (pc := 89) p169 k169_89 (v := (0 : Int32)) rfl ?_
      exact t169_90 hn r1 l (0 : Int32) x3 x2 (1 : Int32) r e
    · have e := (if_pos c).symm.trans e
      refine r_aload_n (pc := 81) p169 k169_81 h0 ?_
      refine r_iconst (pc := 82) p169 k169_82 (v := (0 : Int32)) rfl ?_
      obtain ⟨r2, er2, e⟩ := of_bind e
      refine m_cv hn (pc := 83) p169 k169_83 rfl p146 (r := [.int x3, .int x2, .int (1 : Int32), .ref 22]) rfl rfl rfl rfl rfl (t146 hn r1 (0 : Int32) r2 er2) (w := [.int r2.1, .int x3, .int x2, .int (1 : Int32), .ref 22]) rfl ?_
      refine r_goto (pc := 86) p169 k169_86 ?_
      exact t169_90 hn r2.2 l r2.1 x3 x2 (1 : Int32) r e
  · have e := (if_pos c).symm.trans e
    cases e
    exact r_retV (pc := 63) p169 k169_63 rfl
def f169_46 (s : mS) (x1 : Int32) (x2 : Int32) (x3 : Int32) : Option mS := (if (s.1 11) = 0 then ((f117 s).bind fun r1 => f169_57 r1 x1 x2 x3) else f169_57 s x1 x2 x3)
theorem t169_46 {d n : Nat} {Z : Nat → ab_C} (hn : 42 ≤ n) : ∀ (s : mS) (l : ab_L) (x1 : Int32) (x2 : Int32) (x3 : Int32) (h0 : ab_get l 0 = some (.ref 22)) (h1 : ab_get l 1 = some (.int x1)) (h2 : ab_get l 2 = some (.int x2)) (h3 : ab_get l 3 = some (.int x3)) (r : mS) (e : f169_46 s x1 x2 x3 = some r), ab_Rn (d + 7) 169 46 l [] (ab_hl n (mm_F s Z)) (.inl none) (ab_hl n (mm_F r Z)) := by
  intro s l x1 x2 x3 h0 h1 h2 h3 r e
  unfold f169_46 at e
  refine r_aload_n (pc := 46) p169 k169_46 h0 ?_
  refine m_get hn (pc := 47) p169 k169_47 (v := .int (s.1 11)) rfl ?_
  refine r_if_ne (pc := 50) p169 k169_50 (fun c => ?_) (fun c => ?_)
  · have e := (if_neg c).symm.trans e
    exact t169_57 hn s l x1 x2 x3 h0 h1 h2 h3 r e
  · have e := (if_pos c).symm.trans e
    refine r_aload_n (pc := 53) p169 k169_53 h0 ?_
    obtain ⟨r1, er1, e⟩ := of_bind e
    refine m_cv hn (pc := 54) p169 k169_54 rfl p117 (r := []) rfl rfl rfl rfl rfl (t117 hn s r1 er1) (w := []) rfl ?_
    exact t169_57 hn r1 l x1 x2 x3 h0 h1 h2 h3 r e
def f169_17 (s : mS) (x1 : Int32) : Option mS := ((f130 s).bind fun r1 => (if x1 = (81 : Int32) then ((f132 r1).bind fun r2 => f169_46 r2 x1 (r1.1 21) ((r1.1 18) - (r1.1 21))) else f169_46 r1 x1 (r1.1 21) ((r1.1 18) - (r1.1 21))))
theorem t169_17 {d n : Nat} {Z : Nat → ab_C} (hn : 42 ≤ n) : ∀ (s : mS) (l : ab_L) (x1 : Int32) (h0 : ab_get l 0 = some (.ref 22)) (h1 : ab_get l 1 = some (.int x1)) (r : mS) (e : f169_17 s x1 = some r), ab_Rn (d + 7) 169 17 l [] (ab_hl n (mm_F s Z)) (.inl none) (ab_hl n (mm_F r Z)) := by
  intro s l x1 h0 h1 r e
  unfold f169_17 at e
  refine r_aload_n (pc := 17) p169 k169_17 h0 ?_
  obtain ⟨r1, er1, e⟩ := of_bind e
  refine m_cv hn (pc := 18) p169 k169_18 rfl p130 (r := []) rfl rfl rfl rfl rfl (t130 hn s r1 er1) (w := []) rfl ?_
  refine r_aload_n (pc := 21) p169 k169_21 h0 ?_
  refine m_get hn (pc := 22) p169 k169_22 (v := .int (r1.1 21)) rfl ?_
  refine r_istore_n (pc := 25) p169 k169_25 (by decide) (fun l g h2 => ?_)
  have h0 := g 0 _ (by decide) h0 (Or.inl rfl)
  have h1 := g 1 _ (by decide) h1 (Or.inl rfl)
  refine r_aload_n (pc := 26) p169 k169_26 h0 ?_
  refine m_get hn (pc := 27) p169 k169_27 (v := .int (r1.1 18)) rfl ?_
  refine r_aload_n (pc := 30) p169 k169_30 h0 ?_
  refine m_get hn (pc := 31) p169 k169_31 (v := .int (r1.1 21)) rfl ?_
  refine r_isub (pc := 34) p169 k169_34 ?_
  refine r_istore_n (pc := 35) p169 k169_35 (by decide) (fun l g h3 => ?_)
  have h0 := g 0 _ (by decide) h0 (Or.inl rfl)
  have h1 := g 1 _ (by decide) h1 (Or.inl rfl)
  have h2 := g 2 _ (by decide) h2 (Or.inl rfl)
  refine r_iload_n (pc := 36) p169 k169_36 h1 ?_
  refine r_bipush (pc := 37) p169 k169_37 (v := (81 : Int32)) rfl ?_
  refine r_ic_ne (pc := 39) p169 k169_39 (fun c => ?_) (fun c => ?_)
  · have e := (if_neg c).symm.trans e
    exact t169_46 hn r1 l x1 (r1.1 21) ((r1.1 18) - (r1.1 21)) h0 h1 h2 h3 r e
  · have e := (if_pos c).symm.trans e
    refine r_aload_n (pc := 42) p169 k169_42 h0 ?_
    obtain ⟨r2, er2, e⟩ := of_bind e
    refine m_cv hn (pc := 43) p169 k169_43 rfl p132 (r := []) rfl rfl rfl rfl rfl (t132 hn r1 r2 er2) (w := []) rfl ?_
    exact t169_46 hn r2 l x1 (r1.1 21) ((r1.1 18) - (r1.1 21)) h0 h1 h2 h3 r e
def f169 (s : mS) (x1 : Int32) : Option mS := (if (s.1 20) = (1 : Int32) then f169_17 s x1 else ((f131 s (1 : Int32) (s.1 21)).bind fun r1 => f169_17 r1 x1))
theorem t169 {d n : Nat} {Z : Nat → ab_C} (hn : 42 ≤ n) (s : mS) (x1 : Int32) (r : mS) (e : f169 s x1 = some r) : ab_Rn (d + 7) 169 0 (lv_args 0 [.ref 22, .int x1]) [] (ab_hl n (mm_F s Z)) (.inl none) (ab_hl n (mm_F r Z)) := by
  unfold f169 at e
  obtain ⟨l, hl⟩ : ∃ l, l = (lv_args 0 [.ref 22, .int x1]) := ⟨_, rfl⟩
  rw [← hl]
  have h0 : ab_get l 0 = some (.ref 22) := by rw [hl]; rfl
  have h1 : ab_get l 1 = some (.int x1) := by rw [hl]; rfl
  refine r_aload_n (pc := 0) p169 k169_0 h0 ?_
  refine m_get hn (pc := 1) p169 k169_1 (v := .int (s.1 20)) rfl ?_
  refine r_iconst (pc := 4) p169 k169_4 (v := (1 : Int32)) rfl ?_
  refine r_ic_eq (pc := 5) p169 k169_5 (fun c => ?_) (fun c => ?_)
  · have e := (if_pos c).symm.trans e
    exact t169_17 hn s l x1 h0 h1 r e
  · have e := (if_neg c).symm.trans e
    refine r_aload_n (pc := 8) p169 k169_8 h0 ?_
    refine r_iconst (pc := 9) p169 k169_9 (v := (1 : Int32)) rfl ?_
    refine r_aload_n (pc := 10) p169 k169_10 h0 ?_
    refine m_get hn (pc := 11) p169 k169_11 (v := .int (s.1 21)) rfl ?_
    obtain ⟨r1, er1, e⟩ := of_bind e
    refine m_cv hn (pc := 14) p169 k169_14 rfl p131 (r := []) rfl rfl rfl rfl rfl (t131 hn s (1 : Int32) (s.1 21) r1 er1) (w := []) rfl ?_
    exact t169_17 hn r1 l x1 h0 h1 r e

theorem p167 : ab_prog[167]? = some (ab_m167, ab_c167) := rfl
theorem k167_0 : ab_fetch ab_c167 0 = some (.iload_n 1, 1, 0, 0) := rfl
theorem k167_1 : ab_fetch ab_c167 1 = some (.bipush 74, 2, 0, 0) := rfl
theorem k167_3 : ab_fetch ab_c167 3 = some (.if_icmp .ge 14, 3, 17, 0) := rfl
theorem k167_6 : ab_fetch ab_c167 6 = some (.aload_n 0, 1, 0, 0) := rfl
theorem k167_7 : ab_fetch ab_c167 7 = some (.iload_n 1, 1, 0, 0) := rfl
theorem k167_8 : ab_fetch ab_c167 8 = some (.bipush 72, 2, 0, 0) := rfl
theorem k167_10 : ab_fetch ab_c167 10 = some (.isub, 1, 0, 0) := rfl
theorem k167_11 : ab_fetch ab_c167 11 = some (.putfield 477, 3, 6, 32) := rfl
theorem k167_14 : ab_fetch ab_c167 14 = some (.goto 272, 3, 286, 0) := rfl
theorem k167_17 : ab_fetch ab_c167 17 = some (.iload_n 1, 1, 0, 0) := rfl
theorem k167_18 : ab_fetch ab_c167 18 = some (.bipush 77, 2, 0, 0) := rfl
theorem k167_20 : ab_fetch ab_c167 20 = some (.if_icmp .ge 62, 3, 82, 0) := rfl
theorem k167_23 : ab_fetch ab_c167 23 = some (.iload_n 1, 1, 0, 0) := rfl
theorem k167_24 : ab_fetch ab_c167 24 = some (.bipush 74, 2, 0, 0) := rfl
theorem k167_26 : ab_fetch ab_c167 26 = some (.if_icmp .ne 7, 3, 33, 0) := rfl
theorem k167_29 : ab_fetch ab_c167 29 = some (.iconst 1, 1, 0, 0) := rfl
theorem k167_30 : ab_fetch ab_c167 30 = some (.goto 14, 3, 44, 0) := rfl
theorem k167_33 : ab_fetch ab_c167 33 = some (.iload_n 1, 1, 0, 0) := rfl
theorem k167_34 : ab_fetch ab_c167 34 = some (.bipush 75, 2, 0, 0) := rfl
theorem k167_36 : ab_fetch ab_c167 36 = some (.if_icmp .ne 7, 3, 43, 0) := rfl
theorem k167_39 : ab_fetch ab_c167 39 = some (.iconst 2, 1, 0, 0) := rfl
theorem k167_40 : ab_fetch ab_c167 40 = some (.goto 4, 3, 44, 0) := rfl
theorem k167_43 : ab_fetch ab_c167 43 = some (.iconst 4, 1, 0, 0) := rfl
theorem k167_44 : ab_fetch ab_c167 44 = some (.istore_n 2, 1, 0, 0) := rfl
theorem k167_45 : ab_fetch ab_c167 45 = some (.aload_n 0, 1, 0, 0) := rfl
theorem k167_46 : ab_fetch ab_c167 46 = some (.aload_n 0, 1, 0, 0) := rfl
theorem k167_47 : ab_fetch ab_c167 47 = some (.invokevirtual 502, 3, 145, 0) := rfl
theorem k167_50 : ab_fetch ab_c167 50 = some (.iload_n 2, 1, 0, 0) := rfl
theorem k167_51 : ab_fetch ab_c167 51 = some (.invokevirtual 486, 3, 144, 2) := rfl
theorem k167_54 : ab_fetch ab_c167 54 = some (.aload_n 0, 1, 0, 0) := rfl
theorem k167_55 : ab_fetch ab_c167 55 = some (.bipush 44, 2, 0, 0) := rfl
theorem k167_57 : ab_fetch ab_c167 57 = some (.invokevirtual 384, 3, 142, 1) := rfl
theorem k167_60 : ab_fetch ab_c167 60 = some (.ifCond .eq 19, 3, 79, 0) := rfl
theorem k167_63 : ab_fetch ab_c167 63 = some (.aload_n 0, 1, 0, 0) := rfl
theorem k167_64 : ab_fetch ab_c167 64 = some (.invokevirtual 387, 3, 117, 0) := rfl
theorem k167_67 : ab_fetch ab_c167 67 = some (.aload_n 0, 1, 0, 0) := rfl
theorem k167_68 : ab_fetch ab_c167 68 = some (.aload_n 0, 1, 0, 0) := rfl
theorem k167_69 : ab_fetch ab_c167 69 = some (.invokevirtual 502, 3, 145, 0) := rfl
theorem k167_72 : ab_fetch ab_c167 72 = some (.iload_n 2, 1, 0, 0) := rfl
theorem k167_73 : ab_fetch ab_c167 73 = some (.invokevirtual 486, 3, 144, 2) := rfl
theorem k167_76 : ab_fetch ab_c167 76 = some (.goto (-22), 3, 54, 0) := rfl
theorem k167_79 : ab_fetch ab_c167 79 = some (.goto 207, 3, 286, 0) := rfl
theorem k167_82 : ab_fetch ab_c167 82 = some (.iload_n 1, 1, 0, 0) := rfl
theorem k167_83 : ab_fetch ab_c167 83 = some (.bipush 79, 2, 0, 0) := rfl
theorem k167_85 : ab_fetch ab_c167 85 = some (.if_icmp .ge 81, 3, 166, 0) := rfl
theorem k167_88 : ab_fetch ab_c167 88 = some (.aload_n 0, 1, 0, 0) := rfl
theorem k167_89 : ab_fetch ab_c167 89 = some (.getfield 358, 3, 6, 20) := rfl
theorem k167_92 : ab_fetch ab_c167 92 = some (.iconst 3, 1, 0, 0) := rfl
theorem k167_93 : ab_fetch ab_c167 93 = some (.if_icmp .eq 12, 3, 105, 0) := rfl
theorem k167_96 : ab_fetch ab_c167 96 = some (.aload_n 0, 1, 0, 0) := rfl
theorem k167_97 : ab_fetch ab_c167 97 = some (.iconst 1, 1, 0, 0) := rfl
theorem k167_98 : ab_fetch ab_c167 98 = some (.aload_n 0, 1, 0, 0) := rfl
theorem k167_99 : ab_fetch ab_c167 99 = some (.getfield 349, 3, 6, 21) := rfl
theorem k167_102 : ab_fetch ab_c167 102 = some (.invokevirtual 342, 3, 131, 2) := rfl
theorem k167_105 : ab_fetch ab_c167 105 = some (.aload_n 0, 1, 0, 0) := rfl
theorem k167_106 : ab_fetch ab_c167 106 = some (.invokevirtual 398, 3, 130, 0) := rfl
theorem k167_109 : ab_fetch ab_c167 109 = some (.iconst 0, 1, 0, 0) := rfl
theorem k167_110 : ab_fetch ab_c167 110 = some (.istore_n 2, 1, 0, 0) := rfl
theorem k167_111 : ab_fetch ab_c167 111 = some (.iload_n 2, 1, 0, 0) := rfl
theorem k167_112 : ab_fetch ab_c167 112 = some (.aload_n 0, 1, 0, 0) := rfl
theorem k167_113 : ab_fetch ab_c167 113 = some (.getfield 381, 3, 6, 24) := rfl
theorem k167_116 : ab_fetch ab_c167 116 = some (.if_icmp .ge 27, 3, 143, 0) := rfl
theorem k167_119 : ab_fetch ab_c167 119 = some (.aload_n 0, 1, 0, 0) := rfl
theorem k167_120 : ab_fetch ab_c167 120 = some (.getfield 307, 3, 6, 11) := rfl
theorem k167_123 : ab_fetch ab_c167 123 = some (.ifCond .ne 20, 3, 143, 0) := rfl
theorem k167_126 : ab_fetch ab_c167 126 = some (.aload_n 0, 1, 0, 0) := rfl
theorem k167_127 : ab_fetch ab_c167 127 = some (.aload_n 0, 1, 0, 0) := rfl
theorem k167_128 : ab_fetch ab_c167 128 = some (.getfield 260, 3, 6, 25) := rfl
theorem k167_131 : ab_fetch ab_c167 131 = some (.iload_n 2, 1, 0, 0) := rfl
theorem k167_132 : ab_fetch ab_c167 132 = some (.baload, 1, 0, 0) := rfl
theorem k167_133 : ab_fetch ab_c167 133 = some (.iconst 1, 1, 0, 0) := rfl
theorem k167_134 : ab_fetch ab_c167 134 = some (.invokevirtual 486, 3, 144, 2) := rfl
theorem k167_137 : ab_fetch ab_c167 137 = some (.iinc 2 1, 3, 0, 0) := rfl
theorem k167_140 : ab_fetch ab_c167 140 = some (.goto (-29), 3, 111, 0) := rfl
theorem k167_143 : ab_fetch ab_c167 143 = some (.aload_n 0, 1, 0, 0) := rfl
theorem k167_144 : ab_fetch ab_c167 144 = some (.iconst 0, 1, 0, 0) := rfl
theorem k167_145 : ab_fetch ab_c167 145 = some (.iload_n 1, 1, 0, 0) := rfl
theorem k167_146 : ab_fetch ab_c167 146 = some (.bipush 78, 2, 0, 0) := rfl
theorem k167_148 : ab_fetch ab_c167 148 = some (.if_icmp .ne 7, 3, 155, 0) := rfl
theorem k167_151 : ab_fetch ab_c167 151 = some (.iconst 1, 1, 0, 0) := rfl
theorem k167_152 : ab_fetch ab_c167 152 = some (.goto 4, 3, 156, 0) := rfl
theorem k167_155 : ab_fetch ab_c167 155 = some (.iconst 0, 1, 0, 0) := rfl
theorem k167_156 : ab_fetch ab_c167 156 = some (.invokevirtual 486, 3, 144, 2) := rfl
theorem k167_159 : ab_fetch ab_c167 159 = some (.aload_n 0, 1, 0, 0) := rfl
theorem k167_160 : ab_fetch ab_c167 160 = some (.invokevirtual 387, 3, 117, 0) := rfl
theorem k167_163 : ab_fetch ab_c167 163 = some (.goto 123, 3, 286, 0) := rfl
theorem k167_166 : ab_fetch ab_c167 166 = some (.iload_n 1, 1, 0, 0) := rfl
theorem k167_167 : ab_fetch ab_c167 167 = some (.bipush 81, 2, 0, 0) := rfl
theorem k167_169 : ab_fetch ab_c167 169 = some (.if_icmp .ge 112, 3, 281, 0) := rfl
theorem k167_172 : ab_fetch ab_c167 172 = some (.aload_n 0, 1, 0, 0) := rfl
theorem k167_173 : ab_fetch ab_c167 173 = some (.iconst 0, 1, 0, 0) := rfl
theorem k167_174 : ab_fetch ab_c167 174 = some (.invokevirtual 473, 3, 146, 1) := rfl
theorem k167_177 : ab_fetch ab_c167 177 = some (.istore_n 2, 1, 0, 0) := rfl
theorem k167_178 : ab_fetch ab_c167 178 = some (.iload_n 2, 1, 0, 0) := rfl
theorem k167_179 : ab_fetch ab_c167 179 = some (.ifCond .lt 25, 3, 204, 0) := rfl
theorem k167_182 : ab_fetch ab_c167 182 = some (.iload_n 2, 1, 0, 0) := rfl
theorem k167_183 : ab_fetch ab_c167 183 = some (.iload_n 1, 1, 0, 0) := rfl
theorem k167_184 : ab_fetch ab_c167 184 = some (.bipush 79, 2, 0, 0) := rfl
theorem k167_186 : ab_fetch ab_c167 186 = some (.if_icmp .ne 9, 3, 195, 0) := rfl
theorem k167_189 : ab_fetch ab_c167 189 = some (.ldc_w 476, 3, 65420, 0) := rfl
theorem k167_192 : ab_fetch ab_c167 192 = some (.goto 5, 3, 197, 0) := rfl
theorem k167_195 : ab_fetch ab_c167 195 = some (.bipush 12, 2, 0, 0) := rfl
theorem k167_197 : ab_fetch ab_c167 197 = some (.if_icmp .gt 7, 3, 204, 0) := rfl
theorem k167_200 : ab_fetch ab_c167 200 = some (.iconst 1, 1, 0, 0) := rfl
theorem k167_201 : ab_fetch ab_c167 201 = some (.goto 4, 3, 205, 0) := rfl
theorem k167_204 : ab_fetch ab_c167 204 = some (.iconst 0, 1, 0, 0) := rfl
theorem k167_205 : ab_fetch ab_c167 205 = some (.istore_n 3, 1, 0, 0) := rfl
theorem k167_206 : ab_fetch ab_c167 206 = some (.aload_n 0, 1, 0, 0) := rfl
theorem k167_207 : ab_fetch ab_c167 207 = some (.iload_n 3, 1, 0, 0) := rfl
theorem k167_208 : ab_fetch ab_c167 208 = some (.ifCond .ne 7, 3, 215, 0) := rfl
theorem k167_211 : ab_fetch ab_c167 211 = some (.iconst 1, 1, 0, 0) := rfl
theorem k167_212 : ab_fetch ab_c167 212 = some (.goto 4, 3, 216, 0) := rfl
theorem k167_215 : ab_fetch ab_c167 215 = some (.iconst 0, 1, 0, 0) := rfl
theorem k167_216 : ab_fetch ab_c167 216 = some (.putfield 480, 3, 6, 37) := rfl
theorem k167_219 : ab_fetch ab_c167 219 = some (.iload_n 3, 1, 0, 0) := rfl
theorem k167_220 : ab_fetch ab_c167 220 = some (.ifCond .eq 15, 3, 235, 0) := rfl
theorem k167_223 : ab_fetch ab_c167 223 = some (.iload_n 1, 1, 0, 0) := rfl
theorem k167_224 : ab_fetch ab_c167 224 = some (.bipush 80, 2, 0, 0) := rfl
theorem k167_226 : ab_fetch ab_c167 226 = some (.if_icmp .ne 9, 3, 235, 0) := rfl
theorem k167_229 : ab_fetch ab_c167 229 = some (.iconst 1, 1, 0, 0) := rfl
theorem k167_230 : ab_fetch ab_c167 230 = some (.iload_n 2, 1, 0, 0) := rfl
theorem k167_231 : ab_fetch ab_c167 231 = some (.ishl, 1, 0, 0) := rfl
theorem k167_232 : ab_fetch ab_c167 232 = some (.goto 4, 3, 236, 0) := rfl
theorem k167_235 : ab_fetch ab_c167 235 = some (.iconst 1, 1, 0, 0) := rfl
theorem k167_236 : ab_fetch ab_c167 236 = some (.istore 4, 2, 0, 0) := rfl
theorem k167_238 : ab_fetch ab_c167 238 = some (.aload_n 0, 1, 0, 0) := rfl
theorem k167_239 : ab_fetch ab_c167 239 = some (.iload_n 3, 1, 0, 0) := rfl
theorem k167_240 : ab_fetch ab_c167 240 = some (.ifCond .ne 7, 3, 247, 0) := rfl
theorem k167_243 : ab_fetch ab_c167 243 = some (.iconst 0, 1, 0, 0) := rfl
theorem k167_244 : ab_fetch ab_c167 244 = some (.goto 31, 3, 275, 0) := rfl
theorem k167_247 : ab_fetch ab_c167 247 = some (.iload_n 1, 1, 0, 0) := rfl
theorem k167_248 : ab_fetch ab_c167 248 = some (.bipush 79, 2, 0, 0) := rfl
theorem k167_250 : ab_fetch ab_c167 250 = some (.if_icmp .ne 7, 3, 257, 0) := rfl
theorem k167_253 : ab_fetch ab_c167 253 = some (.iload_n 2, 1, 0, 0) := rfl
theorem k167_254 : ab_fetch ab_c167 254 = some (.goto 21, 3, 275, 0) := rfl
theorem k167_257 : ab_fetch ab_c167 257 = some (.iload 4, 2, 0, 0) := rfl
theorem k167_259 : ab_fetch ab_c167 259 = some (.aload_n 0, 1, 0, 0) := rfl
theorem k167_260 : ab_fetch ab_c167 260 = some (.getfield 278, 3, 6, 35) := rfl
theorem k167_263 : ab_fetch ab_c167 263 = some (.aload_n 0, 1, 0, 0) := rfl
theorem k167_264 : ab_fetch ab_c167 264 = some (.getfield 477, 3, 6, 32) := rfl
theorem k167_267 : ab_fetch ab_c167 267 = some (.iaload, 1, 0, 0) := rfl
theorem k167_268 : ab_fetch ab_c167 268 = some (.iload 4, 2, 0, 0) := rfl
theorem k167_270 : ab_fetch ab_c167 270 = some (.irem, 1, 0, 0) := rfl
theorem k167_271 : ab_fetch ab_c167 271 = some (.isub, 1, 0, 0) := rfl
theorem k167_272 : ab_fetch ab_c167 272 = some (.iload 4, 2, 0, 0) := rfl
theorem k167_274 : ab_fetch ab_c167 274 = some (.irem, 1, 0, 0) := rfl
theorem k167_275 : ab_fetch ab_c167 275 = some (.invokevirtual 533, 3, 168, 1) := rfl
theorem k167_278 : ab_fetch ab_c167 278 = some (.goto 8, 3, 286, 0) := rfl
theorem k167_281 : ab_fetch ab_c167 281 = some (.aload_n 0, 1, 0, 0) := rfl
theorem k167_282 : ab_fetch ab_c167 282 = some (.iload_n 1, 1, 0, 0) := rfl
theorem k167_283 : ab_fetch ab_c167 283 = some (.invokevirtual 536, 3, 169, 1) := rfl
theorem k167_286 : ab_fetch ab_c167 286 = some (.return_, 1, 0, 0) := rfl
/- CodeSmithModel directive(I)V -/
def f167_275 (s : mS) (y0 : Int32) : Option mS := ((f168 s y0).bind fun r1 => some r1)
theorem t167_275 {d n : Nat} {Z : Nat → ab_C} (hn : 42 ≤ n) : ∀ (s : mS) (l : ab_L) (y0 : Int32)  (r : mS) (e : f167_275 s y0 = some r), ab_Rn (d + 8) 167 275 l [.int y0, .ref 22] (ab_hl n (mm_F s Z)) (.inl none) (ab_hl n (mm_F r Z)) := by
  intro s l y0 r e
  unfold f167_275 at e
  obtain ⟨r1, er1, e⟩ := of_bind e
  refine m_cv hn (pc := 275) p167 k167_275 rfl p168 (r := []) rfl rfl rfl rfl rfl (t168 hn s y0 r1 er1) (w := []) rfl ?_
  refine r_goto (pc := 278) p167 k167_278 ?_
  cases e
  exact r_retV (pc := 286) p167 k167_286 rfl
def f167_236 (s : mS) (x1 : Int32) (x2 : Int32) (x3 : Int32) (y0 : Int32) : Option mS := (if x3 = 0 then f167_275 s (0 : Int32) else (if x1 = (79 : Int32) then f167_275 s x2 else if ib (s.1 32) 2 then if ¬ y0 = 0 then if ¬ y0 = 0 then f167_275 s ((y0 - (((s.2 35) (s.1 32).toNatClampNeg) - ((s.2 35) (s.1 32).toNatClampNeg) / y0 * y0)) - (y0 - (((s.2 35) (s.1 32).toNatClampNeg) - ((s.2 35) (s.1 32).toNatClampNeg) / y0 * y0)) / y0 * y0) else none else none else none))
theorem t167_236 {d n : Nat} {Z : Nat → ab_C} (hn : 42 ≤ n) : ∀ (s : mS) (l : ab_L) (x1 : Int32) (x2 : Int32) (x3 : Int32) (y0 : Int32) (h0 : ab_get l 0 = some (.ref 22)) (h1 : ab_get l 1 = some (.int x1)) (h2 : ab_get l 2 = some (.int x2)) (h3 : ab_get l 3 = some (.int x3)) (r : mS) (e : f167_236 s x1 x2 x3 y0 = some r), ab_Rn (d + 8) 167 236 l [.int y0] (ab_hl n (mm_F s Z)) (.inl none) (ab_hl n (mm_F r Z)) := by
  intro s l x1 x2 x3 y0 h0 h1 h2 h3 r e
  unfold f167_236 at e
  refine r_istore (pc := 236) p167 k167_236 (by decide) (fun l g h4 => ?_)
  have h0 := g 0 _ (by decide) h0 (Or.inl rfl)
  have h1 := g 1 _ (by decide) h1 (Or.inl rfl)
  have h2 := g 2 _ (by decide) h2 (Or.inl rfl)
  have h3 := g 3 _ (by decide) h3 (Or.inl rfl)
  refine r_aload_n (pc := 238) p167 k167_238 h0 ?_
  refine r_iload_n (pc := 239) p167 k167_239 h3 ?_
  refine r_if_ne (pc := 240) p167 k167_240 (fun c => ?_) (fun c => ?_)
  · have e := (if_neg c).symm.trans e
    refine r_iload_n (pc := 247) p167 k167_247 h1 ?_
    refine r_bipush (pc := 248) p167 k167_248 (v := (79 : Int32)) rfl ?_
    refine r_ic_ne (pc := 250) p167 k167_250 (fun c => ?_) (fun c => ?_)
    · have e := (if_neg c).symm.trans e
      refine r_iload (pc := 257) p167 k167_257 h4 ?_
      refine r_aload_n (pc := 259) p167 k167_259 h0 ?_
      refine m_get hn (pc := 260) p167 k167_260 (v := .ref 34) rfl ?_
      refine r_aload_n (pc := 263) p167 k167_263 h0 ?_
      refine m_get hn (pc := 264) p167 k167_264 (v := .int (s.1 32)) rfl ?_
      obtain ⟨c, e⟩ := of_if e
      refine r_iald (pc := 267) p167 k167_267 (m_lt hn rfl) (f := (s.2 35)) rfl c ?_
      refine r_iload (pc := 268) p167 k167_268 h4 ?_
      obtain ⟨c, e⟩ := of_if e
      refine r_irem (pc := 270) p167 k167_270 c ?_
      refine r_isub (pc := 271) p167 k167_271 ?_
      refine r_iload (pc := 272) p167 k167_272 h4 ?_
      obtain ⟨c, e⟩ := of_if e
      refine r_irem (pc := 274) p167 k167_274 c ?_
      exact t167_275 hn s l ((y0 - (((s.2 35) (s.1 32).toNatClampNeg) - ((s.2 35) (s.1 32).toNatClampNeg) / y0 * y0)) - (y0 - (((s.2 35) (s.1 32).toNatClampNeg) - ((s.2 35) (s.1 32).toNatClampNeg) / y0 * y0)) / y0 * y0) r e
    · have e := (if_pos c).symm.trans e
      refine r_iload_n (pc := 253) p167 k167_253 h2 ?_
      refine r_goto (pc := 254) p167 k167_254 ?_
      exact t167_275 hn s l x2 r e
  · have e := (if_pos c).symm.trans e
    refine r_iconst (pc := 243) p167 k167_243 (v := (0 : Int32)) rfl ?_
    refine r_goto (pc := 244) p167 k167_244 ?_
    exact t167_275 hn s l (0 : Int32) r e
def f167_235 (s : mS) (x1 : Int32) (x2 : Int32) (x3 : Int32) : Option mS := f167_236 s x1 x2 x3 (1 : Int32)
theorem t167_235 {d n : Nat} {Z : Nat → ab_C} (hn : 42 ≤ n) : ∀ (s : mS) (l : ab_L) (x1 : Int32) (x2 : Int32) (x3 : Int32) (h0 : ab_get l 0 = some (.ref 22)) (h1 : ab_get l 1 = some (.int x1)) (h2 : ab_get l 2 = some (.int x2)) (h3 : ab_get l 3 = some (.int x3)) (r : mS) (e : f167_235 s x1 x2 x3 = some r), ab_Rn (d + 8) 167 235 l [] (ab_hl n (mm_F s Z)) (.inl none) (ab_hl n (mm_F r Z)) := by
  intro s l x1 x2 x3 h0 h1 h2 h3 r e
  unfold f167_235 at e
  refine r_iconst (pc := 235) p167 k167_235 (v := (1 : Int32)) rfl ?_
  exact t167_236 hn s l x1 x2 x3 (1 : Int32) h0 h1 h2 h3 r e
def f167_216 (s : mS) (x1 : Int32) (x2 : Int32) (x3 : Int32) (y0 : Int32) : Option mS := if bz y0 then (if x3 = 0 then f167_235 (mg s 37 y0) x1 x2 x3 else (if x1 = (80 : Int32) then f167_236 (mg s 37 y0) x1 x2 x3 ((1 : Int32) <<< (x2 &&& 31)) else f167_235 (mg s 37 y0) x1 x2 x3)) else none
theorem t167_216 {d n : Nat} {Z : Nat → ab_C} (hn : 42 ≤ n) : ∀ (s : mS) (l : ab_L) (x1 : Int32) (x2 : Int32) (x3 : Int32) (y0 : Int32) (h0 : ab_get l 0 = some (.ref 22)) (h1 : ab_get l 1 = some (.int x1)) (h2 : ab_get l 2 = some (.int x2)) (h3 : ab_get l 3 = some (.int x3)) (r : mS) (e : f167_216 s x1 x2 x3 y0 = some r), ab_Rn (d + 8) 167 216 l [.int y0, .ref 22] (ab_hl n (mm_F s Z)) (.inl none) (ab_hl n (mm_F r Z)) := by
  intro s l x1 x2 x3 y0 h0 h1 h2 h3 r e
  unfold f167_216 at e
  obtain ⟨c, e⟩ := of_if e
  refine m_put hn (pc := 216) p167 k167_216 rfl rfl (bz_fit c) rfl ?_
  refine r_iload_n (pc := 219) p167 k167_219 h3 ?_
  refine r_if_eq (pc := 220) p167 k167_220 (fun c => ?_) (fun c => ?_)
  · have e := (if_pos c).symm.trans e
    exact t167_235 hn (mg s 37 y0) l x1 x2 x3 h0 h1 h2 h3 r e
  · have e := (if_neg c).symm.trans e
    refine r_iload_n (pc := 223) p167 k167_223 h1 ?_
    refine r_bipush (pc := 224) p167 k167_224 (v := (80 : Int32)) rfl ?_
    refine r_ic_ne (pc := 226) p167 k167_226 (fun c => ?_) (fun c => ?_)
    · have e := (if_neg c).symm.trans e
      exact t167_235 hn (mg s 37 y0) l x1 x2 x3 h0 h1 h2 h3 r e
    · have e := (if_pos c).symm.trans e
      refine r_iconst (pc := 229) p167 k167_229 (v := (1 : Int32)) rfl ?_
      refine r_iload_n (pc := 230) p167 k167_230 h2 ?_
      refine r_ishl (pc := 231) p167 k167_231 ?_
      refine r_goto (pc := 232) p167 k167_232 ?_
      exact t167_236 hn (mg s 37 y0) l x1 x2 x3 ((1 : Int32) <<< (x2 &&& 31)) h0 h1 h2 h3 r e
def f167_205 (s : mS) (x1 : Int32) (x2 : Int32) (y0 : Int32) : Option mS := (if y0 = 0 then f167_216 s x1 x2 y0 (1 : Int32) else f167_216 s x1 x2 y0 (0 : Int32))
theorem t167_205 {d n : Nat} {Z : Nat → ab_C} (hn : 42 ≤ n) : ∀ (s : mS) (l : ab_L) (x1 : Int32) (x2 : Int32) (y0 : Int32) (h0 : ab_get l 0 = some (.ref 22)) (h1 : ab_get l 1 = some (.int x1)) (h2 : ab_get l 2 = some (.int x2)) (r : mS) (e : f167_205 s x1 x2 y0 = some r), ab_Rn (d + 8) 167 205 l [.int y0] (ab_hl n (mm_F s Z)) (.inl none) (ab_hl n (mm_F r Z)) := by
  intro s l x1 x2 y0 h0 h1 h2 r e
  unfold f167_205 at e
  refine r_istore_n (pc := 205) p167 k167_205 (by decide) (fun l g h3 => ?_)
  have h0 := g 0 _ (by decide) h0 (Or.inl rfl)
  have h1 := g 1 _ (by decide) h1 (Or.inl rfl)
  have h2 := g 2 _ (by decide) h2 (Or.inl rfl)
  refine r_aload_n (pc := 206) p167 k167_206 h0 ?_
  refine r_iload_n (pc := 207) p167 k167_207 h3 ?_
  refine r_if_ne (pc := 208) p167 k167_208 (fun c => ?_) (fun c => ?_)
  · have e := (if_neg c).symm.trans e
    refine r_iconst (pc := 215) p167 k167_215 (v := (0 : Int32)) rfl ?_
    exact t167_216 hn s l x1 x2 y0 (0 : Int32) h0 h1 h2 h3 r e
  · have e := (if_pos c).symm.trans e
    refine r_iconst (pc := 211) p167 k167_211 (v := (1 : Int32)) rfl ?_
    refine r_goto (pc := 212) p167 k167_212 ?_
    exact t167_216 hn s l x1 x2 y0 (1 : Int32) h0 h1 h2 h3 r e
def f167_204 (s : mS) (x1 : Int32) (x2 : Int32) : Option mS := f167_205 s x1 x2 (0 : Int32)
theorem t167_204 {d n : Nat} {Z : Nat → ab_C} (hn : 42 ≤ n) : ∀ (s : mS) (l : ab_L) (x1 : Int32) (x2 : Int32) (h0 : ab_get l 0 = some (.ref 22)) (h1 : ab_get l 1 = some (.int x1)) (h2 : ab_get l 2 = some (.int x2)) (r : mS) (e : f167_204 s x1 x2 = some r), ab_Rn (d + 8) 167 204 l [] (ab_hl n (mm_F s Z)) (.inl none) (ab_hl n (mm_F r Z)) := by
  intro s l x1 x2 h0 h1 h2 r e
  unfold f167_204 at e
  refine r_iconst (pc := 204) p167 k167_204 (v := (0 : Int32)) rfl ?_
  exact t167_205 hn s l x1 x2 (0 : Int32) h0 h1 h2 r e
def f167_197 (s : mS) (x1 : Int32) (x2 : Int32) (y0 : Int32) (y1 : Int32) : Option mS := (if y0 < y1 then f167_204 s x1 x2 else f167_205 s x1 x2 (1 : Int32))
theorem t167_197 {d n : Nat} {Z : Nat → ab_C} (hn : 42 ≤ n) : ∀ (s : mS) (l : ab_L) (x1 : Int32) (x2 : Int32) (y0 : Int32) (y1 : Int32) (h0 : ab_get l 0 = some (.ref 22)) (h1 : ab_get l 1 = some (.int x1)) (h2 : ab_get l 2 = some (.int x2)) (r : mS) (e : f167_197 s x1 x2 y0 y1 = some r), ab_Rn (d + 8) 167 197 l [.int y0, .int y1] (ab_hl n (mm_F s Z)) (.inl none) (ab_hl n (mm_F r Z)) := by
  intro s l x1 x2 y0 y1 h0 h1 h2 r e
  unfold f167_197 at e
  refine r_ic_gt (pc := 197) p167 k167_197 (fun c => ?_) (fun c => ?_)
  · have e := (if_pos c).symm.trans e
    exact t167_204 hn s l x1 x2 h0 h1 h2 r e
  · have e := (if_neg c).symm.trans e
    refine r_iconst (pc := 200) p167 k167_200 (v := (1 : Int32)) rfl ?_
    refine r_goto (pc := 201) p167 k167_201 ?_
    exact t167_205 hn s l x1 x2 (1 : Int32) h0 h1 h2 r e
def f167_156 (s : mS) (y0 : Int32) (y1 : Int32) : Option mS := ((f144 s y1 y0).bind fun r1 => ((f117 r1).bind fun r2 => some r2))
theorem t167_156 {d n : Nat} {Z : Nat → ab_C} (hn : 42 ≤ n) : ∀ (s : mS) (l : ab_L) (y0 : Int32) (y1 : Int32) (h0 : ab_get l 0 = some (.ref 22)) (r : mS) (e : f167_156 s y0 y1 = some r), ab_Rn (d + 8) 167 156 l [.int y0, .int y1, .ref 22] (ab_hl n (mm_F s Z)) (.inl none) (ab_hl n (mm_F r Z)) := by
  intro s l y0 y1 h0 r e
  unfold f167_156 at e
  obtain ⟨r1, er1, e⟩ := of_bind e
  refine m_cv hn (pc := 156) p167 k167_156 rfl p144 (r := []) rfl rfl rfl rfl rfl (t144 hn s y1 y0 r1 er1) (w := []) rfl ?_
  refine r_aload_n (pc := 159) p167 k167_159 h0 ?_
  obtain ⟨r2, er2, e⟩ := of_bind e
  refine m_cv hn (pc := 160) p167 k167_160 rfl p117 (r := []) rfl rfl rfl rfl rfl (t117 hn r1 r2 er2) (w := []) rfl ?_
  refine r_goto (pc := 163) p167 k167_163 ?_
  cases e
  exact r_retV (pc := 286) p167 k167_286 rfl
def f167_143 (s : mS) (x1 : Int32) : Option mS := (if x1 = (78 : Int32) then f167_156 s (1 : Int32) (0 : Int32) else f167_156 s (0 : Int32) (0 : Int32))
theorem t167_143 {d n : Nat} {Z : Nat → ab_C} (hn : 42 ≤ n) : ∀ (s : mS) (l : ab_L) (x1 : Int32) (h0 : ab_get l 0 = some (.ref 22)) (h1 : ab_get l 1 = some (.int x1)) (r : mS) (e : f167_143 s x1 = some r), ab_Rn (d + 8) 167 143 l [] (ab_hl n (mm_F s Z)) (.inl none) (ab_hl n (mm_F r Z)) := by
  intro s l x1 h0 h1 r e
  unfold f167_143 at e
  refine r_aload_n (pc := 143) p167 k167_143 h0 ?_
  refine r_iconst (pc := 144) p167 k167_144 (v := (0 : Int32)) rfl ?_
  refine r_iload_n (pc := 145) p167 k167_145 h1 ?_
  refine r_bipush (pc := 146) p167 k167_146 (v := (78 : Int32)) rfl ?_
  refine r_ic_ne (pc := 148) p167 k167_148 (fun c => ?_) (fun c => ?_)
  · have e := (if_neg c).symm.trans e
    refine r_iconst (pc := 155) p167 k167_155 (v := (0 : Int32)) rfl ?_
    exact t167_156 hn s l (0 : Int32) (0 : Int32) h0 r e
  · have e := (if_pos c).symm.trans e
    refine r_iconst (pc := 151) p167 k167_151 (v := (1 : Int32)) rfl ?_
    refine r_goto (pc := 152) p167 k167_152 ?_
    exact t167_156 hn s l (1 : Int32) (0 : Int32) h0 r e
def f167_111 : Nat → mS → Int32 → Int32 → Option mS
  | 0, _, _, _ => none
  | u + 1, s, x1, x2 => (if (s.1 24) ≤ x2 then f167_143 s x1 else (if (s.1 11) = 0 then if ib x2 65536 then ((f144 s ((s.2 25) x2.toNatClampNeg) (1 : Int32)).bind fun r1 => f167_111 u r1 x1 (x2 + (1 : Int32))) else none else f167_143 s x1))
theorem t167_111 {d n : Nat} {Z : Nat → ab_C} (hn : 42 ≤ n) : ∀ u : Nat, ∀ (s : mS) (l : ab_L) (x1 : Int32) (x2 : Int32) (h0 : ab_get l 0 = some (.ref 22)) (h1 : ab_get l 1 = some (.int x1)) (h2 : ab_get l 2 = some (.int x2)) (r : mS) (e : f167_111 u s x1 x2 = some r), ab_Rn (d + 8) 167 111 l [] (ab_hl n (mm_F s Z)) (.inl none) (ab_hl n (mm_F r Z)) := by
  intro u
  induction u with
  | zero => intro s l x1 x2 h0 h1 h2 r e; rw [f167_111] at e; cases e
  | succ u ih =>
    intro s l x1 x2 h0 h1 h2 r e
    rw [f167_111] at e
    refine r_iload_n (pc := 111) p167 k167_111 h2 ?_
    refine r_aload_n (pc := 112) p167 k167_112 h0 ?_
    refine m_get hn (pc := 113) p167 k167_113 (v := .int (s.1 24)) rfl ?_
    refine r_ic_ge (pc := 116) p167 k167_116 (fun c => ?_) (fun c => ?_)
    · have e := (if_pos c).symm.trans e
      exact t167_143 hn s l x1 h0 h1 r e
    · have e := (if_neg c).symm.trans e
      refine r_aload_n (pc := 119) p167 k167_119 h0 ?_
      refine m_get hn (pc := 120) p167 k167_120 (v := .int (s.1 11)) rfl ?_
      refine r_if_ne (pc := 123) p167 k167_123 (fun c => ?_) (fun c => ?_)
      · have e := (if_neg c).symm.trans e
        exact t167_143 hn s l x1 h0 h1 r e
      · have e := (if_pos c).symm.trans e
        refine r_aload_n (pc := 126) p167 k167_126 h0 ?_
        refine r_aload_n (pc := 127) p167 k167_127 h0 ?_
        refine m_get hn (pc := 128) p167 k167_128 (v := .ref 28) rfl ?_
        refine r_iload_n (pc := 131) p167 k167_131 h2 ?_
        obtain ⟨c, e⟩ := of_if e
        refine r_bald (pc := 132) p167 k167_132 (m_lt hn rfl) (f := (s.2 25)) rfl c ?_
        refine r_iconst (pc := 133) p167 k167_133 (v := (1 : Int32)) rfl ?_
        obtain ⟨r1, er1, e⟩ := of_bind e
        refine m_cv hn (pc := 134) p167 k167_134 rfl p144 (r := []) rfl rfl rfl rfl rfl (t144 hn s ((s.2 25) x2.toNatClampNeg) (1 : Int32) r1 er1) (w := []) rfl ?_
        refine r_iinc (pc := 137) p167 k167_137 h2 (by decide) (v := (x2 + (1 : Int32))) rfl (fun l g h2 => ?_)
        have h0 := g 0 _ (by decide) h0 (Or.inl rfl)
        have h1 := g 1 _ (by decide) h1 (Or.inl rfl)
        refine r_goto (pc := 140) p167 k167_140 ?_
        exact ih r1 l x1 (x2 + (1 : Int32)) h0 h1 h2 r e
def f167_105 (s : mS) (x1 : Int32) : Option mS := ((f130 s).bind fun r1 => f167_111 mm_U r1 x1 (0 : Int32))
theorem t167_105 {d n : Nat} {Z : Nat → ab_C} (hn : 42 ≤ n) : ∀ (s : mS) (l : ab_L) (x1 : Int32) (h0 : ab_get l 0 = some (.ref 22)) (h1 : ab_get l 1 = some (.int x1)) (r : mS) (e : f167_105 s x1 = some r), ab_Rn (d + 8) 167 105 l [] (ab_hl n (mm_F s Z)) (.inl none) (ab_hl n (mm_F r Z)) := by
  intro s l x1 h0 h1 r e
  unfold f167_105 at e
  refine r_aload_n (pc := 105) p167 k167_105 h0 ?_
  obtain ⟨r1, er1, e⟩ := of_bind e
  refine m_cv hn (pc := 106) p167 k167_106 rfl p130 (r := []) rfl rfl rfl rfl rfl (t130 hn s r1 er1) (w := []) rfl ?_
  refine r_iconst (pc := 109) p167 k167_109 (v := (0 : Int32)) rfl ?_
  refine r_istore_n (pc := 110) p167 k167_110 (by decide) (fun l g h2 => ?_)
  have h0 := g 0 _ (by decide) h0 (Or.inl rfl)
  have h1 := g 1 _ (by decide) h1 (Or.inl rfl)
  exact t167_111 hn mm_U r1 l x1 (0 : Int32) h0 h1 h2 r e
def f167_79 (s : mS) : Option mS := some s
theorem t167_79 {d n : Nat} {Z : Nat → ab_C} (hn : 42 ≤ n) : ∀ (s : mS) (l : ab_L)   (r : mS) (e : f167_79 s  = some r), ab_Rn (d + 8) 167 79 l [] (ab_hl n (mm_F s Z)) (.inl none) (ab_hl n (mm_F r Z)) := by
  intro s l r e
  unfold f167_79 at e
  refine r_goto (pc := 79) p167 k167_79 ?_
  cases e
  exact r_retV (pc := 286) p167 k167_286 rfl
def f167_54 : Nat → mS → Int32 → Option mS
  | 0, _, _ => none
  | u + 1, s, x2 => (if (f142 s (44 : Int32)) = 0 then f167_79 s else ((f117 s).bind fun r1 => ((f145 r1).bind fun r2 => ((f144 r2.2 r2.1 x2).bind fun r3 => f167_54 u r3 x2))))
theorem t167_54 {d n : Nat} {Z : Nat → ab_C} (hn : 42 ≤ n) : ∀ u : Nat, ∀ (s : mS) (l : ab_L) (x2 : Int32) (h0 : ab_get l 0 = some (.ref 22)) (h2 : ab_get l 2 = some (.int x2)) (r : mS) (e : f167_54 u s x2 = some r), ab_Rn (d + 8) 167 54 l [] (ab_hl n (mm_F s Z)) (.inl none) (ab_hl n (mm_F r Z)) := by
  intro u
  induction u with
  | zero => intro s l x2 h0 h2 r e; rw [f167_54] at e; cases e
  | succ u ih =>
    intro s l x2 h0 h2 r e
    rw [f167_54] at e
    refine r_aload_n (pc := 54) p167 k167_54 h0 ?_
    refine r_bipush (pc := 55) p167 k167_55 (v := (44 : Int32)) rfl ?_
    refine m_cv hn (pc := 57) p167 k167_57 rfl p142 (r := []) rfl rfl rfl rfl rfl (t142 hn s (44 : Int32) _ rfl) (w := [.int (f142 s (44 : Int32))]) rfl ?_
    refine r_if_eq (pc := 60) p167 k167_60 (fun c => ?_) (fun c => ?_)
    · have e := (if_pos c).symm.trans e
      exact t167_79 hn s l r e
    · have e := (if_neg c).symm.trans e
      refine r_aload_n (pc := 63) p167 k167_63 h0 ?_
      obtain ⟨r1, er1, e⟩ := of_bind e
      refine m_cv hn (pc := 64) p167 k167_64 rfl p117 (r := []) rfl rfl rfl rfl rfl (t117 hn s r1 er1) (w := []) rfl ?_
      refine r_aload_n (pc := 67) p167 k167_67 h0 ?_
      refine r_aload_n (pc := 68) p167 k167_68 h0 ?_
      obtain ⟨r2, er2, e⟩ := of_bind e
      refine m_cv hn (pc := 69) p167 k167_69 rfl p145 (r := [.ref 22]) rfl rfl rfl rfl rfl (t145 hn r1 r2 er2) (w := [.int r2.1, .ref 22]) rfl ?_
      refine r_iload_n (pc := 72) p167 k167_72 h2 ?_
      obtain ⟨r3, er3, e⟩ := of_bind e
      refine m_cv hn (pc := 73) p167 k167_73 rfl p144 (r := []) rfl rfl rfl rfl rfl (t144 hn r2.2 r2.1 x2 r3 er3) (w := []) rfl ?_
      refine r_goto (pc := 76) p167 k167_76 ?_
      exact ih r3 l x2 h0 h2 r e
def f167_44 (s : mS) (y0 : Int32) : Option mS := ((f145 s).bind fun r1 => ((f144 r1.2 r1.1 y0).bind fun r2 => f167_54 mm_U r2 y0))
theorem t167_44 {d n : Nat} {Z : Nat → ab_C} (hn : 42 ≤ n) : ∀ (s : mS) (l : ab_L) (y0 : Int32) (h0 : ab_get l 0 = some (.ref 22)) (r : mS) (e : f167_44 s y0 = some r), ab_Rn (d + 8) 167 44 l [.int y0] (ab_hl n (mm_F s Z)) (.inl none) (ab_hl n (mm_F r Z)) := by
  intro s l y0 h0 r e
  unfold f167_44 at e
  refine r_istore_n (pc := 44) p167 k167_44 (by decide) (fun l g h2 => ?_)
  have h0 := g 0 _ (by decide) h0 (Or.inl rfl)
  refine r_aload_n (pc := 45) p167 k167_45 h0 ?_
  refine r_aload_n (pc := 46) p167 k167_46 h0 ?_
  obtain ⟨r1, er1, e⟩ := of_bind e
  refine m_cv hn (pc := 47) p167 k167_47 rfl p145 (r := [.ref 22]) rfl rfl rfl rfl rfl (t145 hn s r1 er1) (w := [.int r1.1, .ref 22]) rfl ?_
  refine r_iload_n (pc := 50) p167 k167_50 h2 ?_
  obtain ⟨r2, er2, e⟩ := of_bind e
  refine m_cv hn (pc := 51) p167 k167_51 rfl p144 (r := []) rfl rfl rfl rfl rfl (t144 hn r1.2 r1.1 y0 r2 er2) (w := []) rfl ?_
  exact t167_54 hn mm_U r2 l y0 h0 h2 r e
def f167 (s : mS) (x1 : Int32) : Option mS := (if (74 : Int32) ≤ x1 then (if (77 : Int32) ≤ x1 then (if (79 : Int32) ≤ x1 then (if (81 : Int32) ≤ x1 then ((f169 s x1).bind fun r1 => some r1) else ((f146 s (0 : Int32)).bind fun r1 => (if r1.1 < 0 then f167_204 r1.2 x1 r1.1 else (if x1 = (79 : Int32) then f167_197 r1.2 x1 r1.1 (65420 : Int32) r1.1 else f167_197 r1.2 x1 r1.1 (12 : Int32) r1.1)))) else (if (s.1 20) = (3 : Int32) then f167_105 s x1 else ((f131 s (1 : Int32) (s.1 21)).bind fun r1 => f167_105 r1 x1))) else (if x1 = (74 : Int32) then f167_44 s (1 : Int32) else (if x1 = (75 : Int32) then f167_44 s (2 : Int32) else f167_44 s (4 : Int32)))) else some (mg s 32 (x1 - (72 : Int32))))
theorem t167 {d n : Nat} {Z : Nat → ab_C} (hn : 42 ≤ n) (s : mS) (x1 : Int32) (r : mS) (e : f167 s x1 = some r) : ab_Rn (d + 8) 167 0 (lv_args 0 [.ref 22, .int x1]) [] (ab_hl n (mm_F s Z)) (.inl none) (ab_hl n (mm_F r Z)) := by
  unfold f167 at e
  obtain ⟨l, hl⟩ : ∃ l, l = (lv_args 0 [.ref 22, .int x1]) := ⟨_, rfl⟩
  rw [← hl]
  have h0 : ab_get l 0 = some (.ref 22) := by rw [hl]; rfl
  have h1 : ab_get l 1 = some (.int x1) := by rw [hl]; rfl
  refine r_iload_n (pc := 0) p167 k167_0 h1 ?_
  refine r_bipush (pc := 1) p167 k167_1 (v := (74 : Int32)) rfl ?_
  refine r_ic_ge (pc := 3) p167 k167_3 (fun c => ?_) (fun c => ?_)
  · have e := (if_pos c).symm.trans e
    refine r_iload_n (pc := 17) p167 k167_17 h1 ?_
    refine r_bipush (pc := 18) p167 k167_18 (v := (77 : Int32)) rfl ?_
    refine r_ic_ge (pc := 20) p167 k167_20 (fun c => ?_) (fun c => ?_)
    · have e := (if_pos c).symm.trans e
      refine r_iload_n (pc := 82) p167 k167_82 h1 ?_
      refine r_bipush (pc := 83) p167 k167_83 (v := (79 : Int32)) rfl ?_
      refine r_ic_ge (pc := 85) p167 k167_85 (fun c => ?_) (fun c => ?_)
      · have e := (if_pos c).symm.trans e
        refine r_iload_n (pc := 166) p167 k167_166 h1 ?_
        refine r_bipush (pc := 167) p167 k167_167 (v := (81 : Int32)) rfl ?_
        refine r_ic_ge (pc := 169) p167 k167_169 (fun c => ?_) (fun c => ?_)
        · have e := (if_pos c).symm.trans e
          refine r_aload_n (pc := 281) p167 k167_281 h0 ?_
          refine r_iload_n (pc := 282) p167 k167_282 h1 ?_
          obtain ⟨r1, er1, e⟩ := of_bind e
          refine m_cv hn (pc := 283) p167 k167_283 rfl p169 (r := []) rfl rfl rfl rfl rfl (t169 hn s x1 r1 er1) (w := []) rfl ?_
          cases e
          exact r_retV (pc := 286) p167 k167_286 rfl
        · have e := (if_neg c).symm.trans e
          refine r_aload_n (pc := 172) p167 k167_172 h0 ?_
          refine r_iconst (pc := 173) p167 k167_173 (v := (0 : Int32)) rfl ?_
          obtain ⟨r1, er1, e⟩ := of_bind e
          refine m_cv hn (pc := 174) p167 k167_174 rfl p146 (r := []) rfl rfl rfl rfl rfl (t146 hn s (0 : Int32) r1 er1) (w := [.int r1.1]) rfl ?_
          refine r_istore_n (pc := 177) p167 k167_177 (by decide) (fun l g h2 => ?_)
          have h0 := g 0 _ (by decide) h0 (Or.inl rfl)
          have h1 := g 1 _ (by decide) h1 (Or.inl rfl)
          refine r_iload_n (pc := 178) p167 k167_178 h2 ?_
          refine r_if_lt (pc := 179) p167 k167_179 (fun c => ?_) (fun c => ?_)
          · have e := (if_pos c).symm.trans e
            exact t167_204 hn r1.2 l x1 r1.1 h0 h1 h2 r e
          · have e := (if_neg c).symm.trans e
            refine r_iload_n (pc := 182) p167 k167_182 h2 ?_
            refine r_iload_n (pc := 183) p167 k167_183 h1 ?_
            refine r_bipush (pc := 184) p167 k167_184 (v := (79 : Int32)) rfl ?_
            refine r_ic_ne (pc := 186) p167 k167_186 (fun c => ?_) (fun c => ?_)
            · have e := (if_neg c).symm.trans e
              refine r_bipush (pc := 195) p167 k167_195 (v := (12 : Int32)) rfl ?_
              exact t167_197 hn r1.2 l x1 r1.1 (12 : Int32) r1.1 h0 h1 h2 r e
            · have e := (if_pos c).symm.trans e
              refine r_ldcwI (pc := 189) p167 k167_189 (v := (65420 : Int32)) rfl ?_
              refine r_goto (pc := 192) p167 k167_192 ?_
              exact t167_197 hn r1.2 l x1 r1.1 (65420 : Int32) r1.1 h0 h1 h2 r e
      · have e := (if_neg c).symm.trans e
        refine r_aload_n (pc := 88) p167 k167_88 h0 ?_
        refine m_get hn (pc := 89) p167 k167_89 (v := .int (s.1 20)) rfl ?_
        refine r_iconst (pc := 92) p167 k167_92 (v := (3 : Int32)) rfl ?_
        refine r_ic_eq (pc := 93) p167 k167_93 (fun c => ?_) (fun c => ?_)
        · have e := (if_pos c).symm.trans e
          exact t167_105 hn s l x1 h0 h1 r e
        · have e := (if_neg c).symm.trans e
          refine r_aload_n (pc := 96) p167 k167_96 h0 ?_
          refine r_iconst (pc := 97) p167 k167_97 (v := (1 : Int32)) rfl ?_
          refine r_aload_n (pc := 98) p167 k167_98 h0 ?_
          refine m_get hn (pc := 99) p167 k167_99 (v := .int (s.1 21)) rfl ?_
          obtain ⟨r1, er1, e⟩ := of_bind e
          refine m_cv hn (pc := 102) p167 k167_102 rfl p131 (r := []) rfl rfl rfl rfl rfl (t131 hn s (1 : Int32) (s.1 21) r1 er1) (w := []) rfl ?_
          exact t167_105 hn r1 l x1 h0 h1 r e
    · have e := (if_neg c).symm.trans e
      refine r_iload_n (pc := 23) p167 k167_23 h1 ?_
      refine r_bipush (pc := 24) p167 k167_24 (v := (74 : Int32)) rfl ?_
      refine r_ic_ne (pc := 26) p167 k167_26 (fun c => ?_) (fun c => ?_)
      · have e := (if_neg c).symm.trans e
        refine r_iload_n (pc := 33) p167 k167_33 h1 ?_
        refine r_bipush (pc := 34) p167 k167_34 (v := (75 : Int32)) rfl ?_
        refine r_ic_ne (pc := 36) p167 k167_36 (fun c => ?_) (fun c => ?_)
        · have e := (if_neg c).symm.trans e
          refine r_iconst (pc := 43) p167 k167_43 (v := (4 : Int32)) rfl ?_
          exact t167_44 hn s l (4 : Int32) h0 r e
        · have e := (if_pos c).symm.trans e
          refine r_iconst (pc := 39) p167 k167_39 (v := (2 : Int32)) rfl ?_
          refine r_goto (pc := 40) p167 k167_40 ?_
          exact t167_44 hn s l (2 : Int32) h0 r e
      · have e := (if_pos c).symm.trans e
        refine r_iconst (pc := 29) p167 k167_29 (v := (1 : Int32)) rfl ?_
        refine r_goto (pc := 30) p167 k167_30 ?_
        exact t167_44 hn s l (1 : Int32) h0 r e
  · have e := (if_neg c).symm.trans e
    refine r_aload_n (pc := 6) p167 k167_6 h0 ?_
    refine r_iload_n (pc := 7) p167 k167_7 h1 ?_
    refine r_bipush (pc := 8) p167 k167_8 (v := (72 : Int32)) rfl ?_
    refine r_isub (pc := 10) p167 k167_10 ?_
    refine m_put hn (pc := 11) p167 k167_11 rfl rfl rfl rfl ?_
    refine r_goto (pc := 14) p167 k167_14 ?_
    cases e
    exact r_retV (pc := 286) p167 k167_286 rfl
