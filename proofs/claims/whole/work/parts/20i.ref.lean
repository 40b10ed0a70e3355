theorem p115 : ab_prog[115]? = some (ab_m115, ab_c115) := rfl
theorem k115_0 : ab_fetch ab_c115 0 = some (.aload_n 0, 1, 0, 0) := rfl
theorem k115_1 : ab_fetch ab_c115 1 = some (.invokevirtual 545, 3, 116, 0) := rfl
theorem k115_4 : ab_fetch ab_c115 4 = some (.aload_n 0, 1, 0, 0) := rfl
theorem k115_5 : ab_fetch ab_c115 5 = some (.getfield 307, 3, 6, 11) := rfl
theorem k115_8 : ab_fetch ab_c115 8 = some (.ifCond .gt 10, 3, 18, 0) := rfl
theorem k115_11 : ab_fetch ab_c115 11 = some (.aload_n 0, 1, 0, 0) := rfl
theorem k115_12 : ab_fetch ab_c115 12 = some (.getfield 358, 3, 6, 20) := rfl
theorem k115_15 : ab_fetch ab_c115 15 = some (.ifCond .ne 4, 3, 19, 0) := rfl
theorem k115_18 : ab_fetch ab_c115 18 = some (.return_, 1, 0, 0) := rfl
theorem k115_19 : ab_fetch ab_c115 19 = some (.aload_n 0, 1, 0, 0) := rfl
theorem k115_20 : ab_fetch ab_c115 20 = some (.getfield 358, 3, 6, 20) := rfl
theorem k115_23 : ab_fetch ab_c115 23 = some (.iconst 1, 1, 0, 0) := rfl
theorem k115_24 : ab_fetch ab_c115 24 = some (.if_icmp .ne 27, 3, 51, 0) := rfl
theorem k115_27 : ab_fetch ab_c115 27 = some (.aload_n 0, 1, 0, 0) := rfl
theorem k115_28 : ab_fetch ab_c115 28 = some (.aload_n 0, 1, 0, 0) := rfl
theorem k115_29 : ab_fetch ab_c115 29 = some (.getfield 245, 3, 6, 1) := rfl
theorem k115_32 : ab_fetch ab_c115 32 = some (.aload_n 0, 1, 0, 0) := rfl
theorem k115_33 : ab_fetch ab_c115 33 = some (.getfield 349, 3, 6, 21) := rfl
theorem k115_36 : ab_fetch ab_c115 36 = some (.aload_n 0, 1, 0, 0) := rfl
theorem k115_37 : ab_fetch ab_c115 37 = some (.getfield 322, 3, 6, 18) := rfl
theorem k115_40 : ab_fetch ab_c115 40 = some (.aload_n 0, 1, 0, 0) := rfl
theorem k115_41 : ab_fetch ab_c115 41 = some (.getfield 349, 3, 6, 21) := rfl
theorem k115_44 : ab_fetch ab_c115 44 = some (.isub, 1, 0, 0) := rfl
theorem k115_45 : ab_fetch ab_c115 45 = some (.invokevirtual 394, 3, 135, 3) := rfl
theorem k115_48 : ab_fetch ab_c115 48 = some (.goto 4, 3, 52, 0) := rfl
theorem k115_51 : ab_fetch ab_c115 51 = some (.iconst (-1), 1, 0, 0) := rfl
theorem k115_52 : ab_fetch ab_c115 52 = some (.istore_n 1, 1, 0, 0) := rfl
theorem k115_53 : ab_fetch ab_c115 53 = some (.iload_n 1, 1, 0, 0) := rfl
theorem k115_54 : ab_fetch ab_c115 54 = some (.ifCond .ge 25, 3, 79, 0) := rfl
theorem k115_57 : ab_fetch ab_c115 57 = some (.aload_n 0, 1, 0, 0) := rfl
theorem k115_58 : ab_fetch ab_c115 58 = some (.aload_n 0, 1, 0, 0) := rfl
theorem k115_59 : ab_fetch ab_c115 59 = some (.getfield 358, 3, 6, 20) := rfl
theorem k115_62 : ab_fetch ab_c115 62 = some (.iconst 1, 1, 0, 0) := rfl
theorem k115_63 : ab_fetch ab_c115 63 = some (.if_icmp .ne 7, 3, 70, 0) := rfl
theorem k115_66 : ab_fetch ab_c115 66 = some (.iconst 3, 1, 0, 0) := rfl
theorem k115_67 : ab_fetch ab_c115 67 = some (.goto 4, 3, 71, 0) := rfl
theorem k115_70 : ab_fetch ab_c115 70 = some (.iconst 1, 1, 0, 0) := rfl
theorem k115_71 : ab_fetch ab_c115 71 = some (.aload_n 0, 1, 0, 0) := rfl
theorem k115_72 : ab_fetch ab_c115 72 = some (.getfield 349, 3, 6, 21) := rfl
theorem k115_75 : ab_fetch ab_c115 75 = some (.invokevirtual 342, 3, 131, 2) := rfl
theorem k115_78 : ab_fetch ab_c115 78 = some (.return_, 1, 0, 0) := rfl
theorem k115_79 : ab_fetch ab_c115 79 = some (.aload_n 0, 1, 0, 0) := rfl
theorem k115_80 : ab_fetch ab_c115 80 = some (.getfield 349, 3, 6, 21) := rfl
theorem k115_83 : ab_fetch ab_c115 83 = some (.istore_n 2, 1, 0, 0) := rfl
theorem k115_84 : ab_fetch ab_c115 84 = some (.aload_n 0, 1, 0, 0) := rfl
theorem k115_85 : ab_fetch ab_c115 85 = some (.aload_n 0, 1, 0, 0) := rfl
theorem k115_86 : ab_fetch ab_c115 86 = some (.getfield 278, 3, 6, 35) := rfl
theorem k115_89 : ab_fetch ab_c115 89 = some (.aload_n 0, 1, 0, 0) := rfl
theorem k115_90 : ab_fetch ab_c115 90 = some (.getfield 477, 3, 6, 32) := rfl
theorem k115_93 : ab_fetch ab_c115 93 = some (.iaload, 1, 0, 0) := rfl
theorem k115_94 : ab_fetch ab_c115 94 = some (.aload_n 0, 1, 0, 0) := rfl
theorem k115_95 : ab_fetch ab_c115 95 = some (.getfield 477, 3, 6, 32) := rfl
theorem k115_98 : ab_fetch ab_c115 98 = some (.iconst 1, 1, 0, 0) := rfl
theorem k115_99 : ab_fetch ab_c115 99 = some (.if_icmp .ne 10, 3, 109, 0) := rfl
theorem k115_102 : ab_fetch ab_c115 102 = some (.aload_n 0, 1, 0, 0) := rfl
theorem k115_103 : ab_fetch ab_c115 103 = some (.getfield 418, 3, 6, 34) := rfl
theorem k115_106 : ab_fetch ab_c115 106 = some (.goto 4, 3, 110, 0) := rfl
theorem k115_109 : ab_fetch ab_c115 109 = some (.iconst 0, 1, 0, 0) := rfl
theorem k115_110 : ab_fetch ab_c115 110 = some (.iadd, 1, 0, 0) := rfl
theorem k115_111 : ab_fetch ab_c115 111 = some (.putfield 449, 3, 6, 33) := rfl
theorem k115_114 : ab_fetch ab_c115 114 = some (.aload_n 0, 1, 0, 0) := rfl
theorem k115_115 : ab_fetch ab_c115 115 = some (.iconst 0, 1, 0, 0) := rfl
theorem k115_116 : ab_fetch ab_c115 116 = some (.putfield 480, 3, 6, 37) := rfl
theorem k115_119 : ab_fetch ab_c115 119 = some (.aload_n 0, 1, 0, 0) := rfl
theorem k115_120 : ab_fetch ab_c115 120 = some (.invokevirtual 387, 3, 117, 0) := rfl
theorem k115_123 : ab_fetch ab_c115 123 = some (.iload_n 1, 1, 0, 0) := rfl
theorem k115_124 : ab_fetch ab_c115 124 = some (.bipush 60, 2, 0, 0) := rfl
theorem k115_126 : ab_fetch ab_c115 126 = some (.if_icmp .ge 11, 3, 137, 0) := rfl
theorem k115_129 : ab_fetch ab_c115 129 = some (.aload_n 0, 1, 0, 0) := rfl
theorem k115_130 : ab_fetch ab_c115 130 = some (.iload_n 1, 1, 0, 0) := rfl
theorem k115_131 : ab_fetch ab_c115 131 = some (.invokevirtual 548, 3, 138, 1) := rfl
theorem k115_134 : ab_fetch ab_c115 134 = some (.goto 22, 3, 156, 0) := rfl
theorem k115_137 : ab_fetch ab_c115 137 = some (.iload_n 1, 1, 0, 0) := rfl
theorem k115_138 : ab_fetch ab_c115 138 = some (.bipush 72, 2, 0, 0) := rfl
theorem k115_140 : ab_fetch ab_c115 140 = some (.if_icmp .ge 11, 3, 151, 0) := rfl
theorem k115_143 : ab_fetch ab_c115 143 = some (.aload_n 0, 1, 0, 0) := rfl
theorem k115_144 : ab_fetch ab_c115 144 = some (.iload_n 1, 1, 0, 0) := rfl
theorem k115_145 : ab_fetch ab_c115 145 = some (.invokevirtual 551, 3, 165, 1) := rfl
theorem k115_148 : ab_fetch ab_c115 148 = some (.goto 8, 3, 156, 0) := rfl
theorem k115_151 : ab_fetch ab_c115 151 = some (.aload_n 0, 1, 0, 0) := rfl
theorem k115_152 : ab_fetch ab_c115 152 = some (.iload_n 1, 1, 0, 0) := rfl
theorem k115_153 : ab_fetch ab_c115 153 = some (.invokevirtual 554, 3, 167, 1) := rfl
theorem k115_156 : ab_fetch ab_c115 156 = some (.aload_n 0, 1, 0, 0) := rfl
theorem k115_157 : ab_fetch ab_c115 157 = some (.getfield 358, 3, 6, 20) := rfl
theorem k115_160 : ab_fetch ab_c115 160 = some (.ifCond .eq 12, 3, 172, 0) := rfl
theorem k115_163 : ab_fetch ab_c115 163 = some (.aload_n 0, 1, 0, 0) := rfl
theorem k115_164 : ab_fetch ab_c115 164 = some (.iconst 1, 1, 0, 0) := rfl
theorem k115_165 : ab_fetch ab_c115 165 = some (.aload_n 0, 1, 0, 0) := rfl
theorem k115_166 : ab_fetch ab_c115 166 = some (.getfield 349, 3, 6, 21) := rfl
theorem k115_169 : ab_fetch ab_c115 169 = some (.invokevirtual 342, 3, 131, 2) := rfl
theorem k115_172 : ab_fetch ab_c115 172 = some (.iload_n 1, 1, 0, 0) := rfl
theorem k115_173 : ab_fetch ab_c115 173 = some (.bipush 72, 2, 0, 0) := rfl
theorem k115_175 : ab_fetch ab_c115 175 = some (.if_icmp .ge 19, 3, 194, 0) := rfl
theorem k115_178 : ab_fetch ab_c115 178 = some (.aload_n 0, 1, 0, 0) := rfl
theorem k115_179 : ab_fetch ab_c115 179 = some (.getfield 449, 3, 6, 33) := rfl
theorem k115_182 : ab_fetch ab_c115 182 = some (.iconst 4, 1, 0, 0) := rfl
theorem k115_183 : ab_fetch ab_c115 183 = some (.irem, 1, 0, 0) := rfl
theorem k115_184 : ab_fetch ab_c115 184 = some (.ifCond .eq 10, 3, 194, 0) := rfl
theorem k115_187 : ab_fetch ab_c115 187 = some (.aload_n 0, 1, 0, 0) := rfl
theorem k115_188 : ab_fetch ab_c115 188 = some (.bipush 7, 2, 0, 0) := rfl
theorem k115_190 : ab_fetch ab_c115 190 = some (.iload_n 2, 1, 0, 0) := rfl
theorem k115_191 : ab_fetch ab_c115 191 = some (.invokevirtual 342, 3, 131, 2) := rfl
theorem k115_194 : ab_fetch ab_c115 194 = some (.aload_n 0, 1, 0, 0) := rfl
theorem k115_195 : ab_fetch ab_c115 195 = some (.getfield 408, 3, 6, 19) := rfl
theorem k115_198 : ab_fetch ab_c115 198 = some (.ifCond .ne 36, 3, 234, 0) := rfl
theorem k115_201 : ab_fetch ab_c115 201 = some (.aload_n 0, 1, 0, 0) := rfl
theorem k115_202 : ab_fetch ab_c115 202 = some (.getfield 480, 3, 6, 37) := rfl
theorem k115_205 : ab_fetch ab_c115 205 = some (.ifCond .ne 22, 3, 227, 0) := rfl
theorem k115_208 : ab_fetch ab_c115 208 = some (.aload_n 0, 1, 0, 0) := rfl
theorem k115_209 : ab_fetch ab_c115 209 = some (.getfield 278, 3, 6, 35) := rfl
theorem k115_212 : ab_fetch ab_c115 212 = some (.iconst 0, 1, 0, 0) := rfl
theorem k115_213 : ab_fetch ab_c115 213 = some (.iaload, 1, 0, 0) := rfl
theorem k115_214 : ab_fetch ab_c115 214 = some (.aload_n 0, 1, 0, 0) := rfl
theorem k115_215 : ab_fetch ab_c115 215 = some (.getfield 278, 3, 6, 35) := rfl
theorem k115_218 : ab_fetch ab_c115 218 = some (.iconst 1, 1, 0, 0) := rfl
theorem k115_219 : ab_fetch ab_c115 219 = some (.iaload, 1, 0, 0) := rfl
theorem k115_220 : ab_fetch ab_c115 220 = some (.iadd, 1, 0, 0) := rfl
theorem k115_221 : ab_fetch ab_c115 221 = some (.ldc_w 476, 3, 65420, 0) := rfl
theorem k115_224 : ab_fetch ab_c115 224 = some (.if_icmp .le 10, 3, 234, 0) := rfl
theorem k115_227 : ab_fetch ab_c115 227 = some (.aload_n 0, 1, 0, 0) := rfl
theorem k115_228 : ab_fetch ab_c115 228 = some (.bipush 6, 2, 0, 0) := rfl
theorem k115_230 : ab_fetch ab_c115 230 = some (.iload_n 2, 1, 0, 0) := rfl
theorem k115_231 : ab_fetch ab_c115 231 = some (.invokevirtual 342, 3, 131, 2) := rfl
theorem k115_234 : ab_fetch ab_c115 234 = some (.aload_n 0, 1, 0, 0) := rfl
theorem k115_235 : ab_fetch ab_c115 235 = some (.getfield 408, 3, 6, 19) := rfl
theorem k115_238 : ab_fetch ab_c115 238 = some (.ifCond .eq 17, 3, 255, 0) := rfl
theorem k115_241 : ab_fetch ab_c115 241 = some (.aload_n 0, 1, 0, 0) := rfl
theorem k115_242 : ab_fetch ab_c115 242 = some (.getfield 480, 3, 6, 37) := rfl
theorem k115_245 : ab_fetch ab_c115 245 = some (.ifCond .eq 10, 3, 255, 0) := rfl
theorem k115_248 : ab_fetch ab_c115 248 = some (.aload_n 0, 1, 0, 0) := rfl
theorem k115_249 : ab_fetch ab_c115 249 = some (.bipush 10, 2, 0, 0) := rfl
theorem k115_251 : ab_fetch ab_c115 251 = some (.iload_n 2, 1, 0, 0) := rfl
theorem k115_252 : ab_fetch ab_c115 252 = some (.invokevirtual 342, 3, 131, 2) := rfl
theorem k115_255 : ab_fetch ab_c115 255 = some (.return_, 1, 0, 0) := rfl
/- CodeSmithModel statement()V -/
def f115_234 (s : mS) (x2 : Int32) : Option mS := (if (s.1 19) = 0 then some s else (if (s.1 37) = 0 then some s else ((f131 s (10 : Int32) x2).bind fun r1 => some r1)))
theorem t115_234 {d n : Nat} {Z : Nat → ab_C} (hn : 42 ≤ n) : ∀ (s : mS) (l : ab_L) (x2 : Int32) (h0 : ab_get l 0 = some (.ref 22)) (h2 : ab_get l 2 = some (.int x2)) (r : mS) (e : f115_234 s x2 = some r), ab_Rn (d + 10) 115 234 l [] (ab_hl n (mm_F s Z)) (.inl none) (ab_hl n (mm_F r Z)) := by
  intro s l x2 h0 h2 r e
  unfold f115_234 at e
  refine r_aload_n (pc := 234) p115 k115_234 h0 ?_
  refine m_get hn (pc := 235) p115 k115_235 (v := .int (s.1 19)) rfl ?_
  refine r_if_eq (pc := 238) p115 k115_238 (fun c => ?_) (fun c => ?_)
  · have e := (if_pos c).symm.trans e
    cases e
    exact r_retV (pc := 255) p115 k115_255 rfl
  · have e := (if_neg c).symm.trans e
    refine r_aload_n (pc := 241) p115 k115_241 h0 ?_
    refine m_get hn (pc := 242) p115 k115_242 (v := .int (s.1 37)) rfl ?_
    refine r_if_eq (pc := 245) p115 k115_245 (fun c => ?_) (fun c => ?_)
    · have e := (if_pos c).symm.trans e
      cases e
      exact r_retV (pc := 255) p115 k115_255 rfl
    · have e := (if_neg c).symm.trans e
      refine r_aload_n (pc := 248) p115 k115_248 h0 ?_
      refine r_bipush (pc := 249) p115 k115_249 (v := (10 : Int32)) rfl ?_
      refine r_iload_n (pc := 251) p115 k115_251 h2 ?_
      obtain ⟨r1, er1, e⟩ := of_bind e
      refine m_cv hn (pc := 252) p115 k115_252 rfl p131 (r := []) rfl rfl rfl rfl rfl (t131 hn s (10 : Int32) x2 r1 er1) (w := []) rfl ?_
      cases e
      exact r_retV (pc := 255) p115 k115_255 rfl
def f115_227 (s : mS) (x2 : Int32) : Option mS := ((f131 s (6 : Int32) x2).bind fun r1 => f115_234 r1 x2)
theorem t115_227 {d n : Nat} {Z : Nat → ab_C} (hn : 42 ≤ n) : ∀ (s : mS) (l : ab_L) (x2 : Int32) (h0 : ab_get l 0 = some (.ref 22)) (h2 : ab_get l 2 = some (.int x2)) (r : mS) (e : f115_227 s x2 = some r), ab_Rn (d + 10) 115 227 l [] (ab_hl n (mm_F s Z)) (.inl none) (ab_hl n (mm_F r Z)) := by
  intro s l x2 h0 h2 r e
  unfold f115_227 at e
  refine r_aload_n (pc := 227) p115 k115_227 h0 ?_
  refine r_bipush (pc := 228) p115 k115_228 (v := (6 : Int32)) rfl ?_
  refine r_iload_n (pc := 230) p115 k115_230 h2 ?_
  obtain ⟨r1, er1, e⟩ := of_bind e
  refine m_cv hn (pc := 231) p115 k115_231 rfl p131 (r := []) rfl rfl rfl rfl rfl (t131 hn s (6 : Int32) x2 r1 er1) (w := []) rfl ?_
  exact t115_234 hn r1 l x2 h0 h2 r e
def f115_194 (s : mS) (x2 : Int32) : Option mS := (if (s.1 19) = 0 then (if (s.1 37) = 0 then if ib (0 : Int32) 2 then if ib (1 : Int32) 2 then (if (((s.2 35) (0 : Int32).toNatClampNeg) + ((s.2 35) (1 : Int32).toNatClampNeg)) ≤ (65420 : Int32) then f115_234 s x2 else f115_227 s x2) else none else none else f115_227 s x2) else f115_234 s x2)
theorem t115_194 {d n : Nat} {Z : Nat → ab_C} (hn : 42 ≤ n) : ∀ (s : mS) (l : ab_L) (x2 : Int32) (h0 : ab_get l 0 = some (.ref 22)) (h2 : ab_get l 2 = some (.int x2)) (r : mS) (e : f115_194 s x2 = some r), ab_Rn (d + 10) 115 194 l [] (ab_hl n (mm_F s Z)) (.inl none) (ab_hl n (mm_F r Z)) := by
  intro s l x2 h0 h2 r e
  unfold f115_194 at e
  refine r_aload_n (pc := 194) p115 k115_194 h0 ?_
  refine m_get hn (pc := 195) p115 k115_195 (v := .int (s.1 19)) rfl ?_
  refine r_if_ne (pc := 198) p115 k115_198 (fun c => ?_) (fun c => ?_)
  · have e := (if_neg c).symm.trans e
    exact t115_234 hn s l x2 h0 h2 r e
  · have e := (if_pos c).symm.trans e
    refine r_aload_n (pc := 201) p115 k115_201 h0 ?_
    refine m_get hn (pc := 202) p115 k115_202 (v := .int (s.1 37)) rfl ?_
    refine r_if_ne (pc := 205) p115 k115_205 (fun c => ?_) (fun c => ?_)
    · have e := (if_neg c).symm.trans e
      exact t115_227 hn s l x2 h0 h2 r e
    · have e := (if_pos c).symm.trans e
      refine r_aload_n (pc := 208) p115 k115_208 h0 ?_
      refine m_get hn (pc := 209) p115 k115_209 (v := .ref 34) rfl ?_
      refine r_iconst (pc := 212) p115 k115_212 (v := (0 : Int32)) rfl ?_
      obtain ⟨c, e⟩ := of_if e
      refine r_iald (pc := 213) p115 k115_213 (m_lt hn rfl) (f := (s.2 35)) rfl c ?_
      refine r_aload_n (pc := 214) p115 k115_214 h0 ?_
      refine m_get hn (pc := 215) p115 k115_215 (v := .ref 34) rfl ?_
      refine r_iconst (pc := 218) p115 k115_218 (v := (1 : Int32)) rfl ?_
      obtain ⟨c, e⟩ := of_if e
      refine r_iald (pc := 219) p115 k115_219 (m_lt hn rfl) (f := (s.2 35)) rfl c ?_
      refine r_iadd (pc := 220) p115 k115_220 ?_
      refine r_ldcwI (pc := 221) p115 k115_221 (v := (65420 : Int32)) rfl ?_
      refine r_ic_le (pc := 224) p115 k115_224 (fun c => ?_) (fun c => ?_)
      · have e := (if_pos c).symm.trans e
        exact t115_234 hn s l x2 h0 h2 r e
      · have e := (if_neg c).symm.trans e
        exact t115_227 hn s l x2 h0 h2 r e
def f115_172 (s : mS) (x1 : Int32) (x2 : Int32) : Option mS := (if (72 : Int32) ≤ x1 then f115_194 s x2 else (if ((s.1 33) - (s.1 33) / (4 : Int32) * (4 : Int32)) = 0 then f115_194 s x2 else ((f131 s (7 : Int32) x2).bind fun r1 => f115_194 r1 x2)))
theorem t115_172 {d n : Nat} {Z : Nat → ab_C} (hn : 42 ≤ n) : ∀ (s : mS) (l : ab_L) (x1 : Int32) (x2 : Int32) (h0 : ab_get l 0 = some (.ref 22)) (h1 : ab_get l 1 = some (.int x1)) (h2 : ab_get l 2 = some (.int x2)) (r : mS) (e : f115_172 s x1 x2 = some r), ab_Rn (d + 10) 115 172 l [] (ab_hl n (mm_F s Z)) (.inl none) (ab_hl n (mm_F r Z)) := by
  intro s l x1 x2 h0 h1 h2 r e
  unfold f115_172 at e
  refine r_iload_n (pc := 172) p115 k115_172 h1 ?_
  refine r_bipush (pc := 173) p115 k115_173 (v := (72 : Int32)) rfl ?_
  refine r_ic_ge (pc := 175) p115 k115_175 (fun c => ?_) (fun c => ?_)
  · have e := (if_pos c).symm.trans e
    exact t115_194 hn s l x2 h0 h2 r e
  · have e := (if_neg c).symm.trans e
    refine r_aload_n (pc := 178) p115 k115_178 h0 ?_
    refine m_get hn (pc := 179) p115 k115_179 (v := .int (s.1 33)) rfl ?_
    refine r_iconst (pc := 182) p115 k115_182 (v := (4 : Int32)) rfl ?_
    refine r_irem (pc := 183) p115 k115_183 (by decide) ?_
    refine r_if_eq (pc := 184) p115 k115_184 (fun c => ?_) (fun c => ?_)
    · have e := (if_pos c).symm.trans e
      exact t115_194 hn s l x2 h0 h2 r e
    · have e := (if_neg c).symm.trans e
      refine r_aload_n (pc := 187) p115 k115_187 h0 ?_
      refine r_bipush (pc := 188) p115 k115_188 (v := (7 : Int32)) rfl ?_
      refine r_iload_n (pc := 190) p115 k115_190 h2 ?_
      obtain ⟨r1, er1, e⟩ := of_bind e
      refine m_cv hn (pc := 191) p115 k115_191 rfl p131 (r := []) rfl rfl rfl rfl rfl (t131 hn s (7 : Int32) x2 r1 er1) (w := []) rfl ?_
      exact t115_194 hn r1 l x2 h0 h2 r e
def f115_156 (s : mS) (x1 : Int32) (x2 : Int32) : Option mS := (if (s.1 20) = 0 then f115_172 s x1 x2 else ((f131 s (1 : Int32) (s.1 21)).bind fun r1 => f115_172 r1 x1 x2))
theorem t115_156 {d n : Nat} {Z : Nat → ab_C} (hn : 42 ≤ n) : ∀ (s : mS) (l : ab_L) (x1 : Int32) (x2 : Int32) (h0 : ab_get l 0 = some (.ref 22)) (h1 : ab_get l 1 = some (.int x1)) (h2 : ab_get l 2 = some (.int x2)) (r : mS) (e : f115_156 s x1 x2 = some r), ab_Rn (d + 10) 115 156 l [] (ab_hl n (mm_F s Z)) (.inl none) (ab_hl n (mm_F r Z)) := by
  intro s l x1 x2 h0 h1 h2 r e
  unfold f115_156 at e
  refine r_aload_n (pc := 156) p115 k115_156 h0 ?_
  refine m_get hn (pc := 157) p115 k115_157 (v := .int (s.1 20)) rfl ?_
  refine r_if_eq (pc := 160) p115 k115_160 (fun c => ?_) (fun c => ?_)
  · have e := (if_pos c).symm.trans e
    exact t115_172 hn s l x1 x2 h0 h1 h2 r e
  · have e := (if_neg c).symm.trans e
    refine r_aload_n (pc := 163) p115 k115_163 h0 ?_
    refine r_iconst (pc := 164) p115 k115_164 (v := (1 : Int32)) rfl ?_
    refine r_aload_n (pc := 165) p115 k115_165 h0 ?_
    refine m_get hn (pc := 166) p115 k115_166 (v := .int (s.1 21)) rfl ?_
    obtain ⟨r1, er1, e⟩ := of_bind e
    refine m_cv hn (pc := 169) p115 k115_169 rfl p131 (r := []) rfl rfl rfl rfl rfl (t131 hn s (1 : Int32) (s.1 21) r1 er1) (w := []) rfl ?_
    exact t115_172 hn r1 l x1 x2 h0 h1 h2 r e
def f115_110 (s : mS) (x1 : Int32) (x2 : Int32) (y0 : Int32) (y1 : Int32) : Option mS := ((f117 (mg (mg s 33 (y1 + y0)) 37 (0 : Int32))).bind fun r1 => (if (60 : Int32) ≤ x1 then (if (72 : Int32) ≤ x1 then ((f167 r1 x1).bind fun r2 => f115_156 r2 x1 x2) else ((f165 r1 x1).bind fun r2 => f115_156 r2 x1 x2)) else ((f138 r1 x1).bind fun r2 => f115_156 r2 x1 x2)))
theorem t115_110 {d n : Nat} {Z : Nat → ab_C} (hn : 42 ≤ n) : ∀ (s : mS) (l : ab_L) (x1 : Int32) (x2 : Int32) (y0 : Int32) (y1 : Int32) (h0 : ab_get l 0 = some (.ref 22)) (h1 : ab_get l 1 = some (.int x1)) (h2 : ab_get l 2 = some (.int x2)) (r : mS) (e : f115_110 s x1 x2 y0 y1 = some r), ab_Rn (d + 10) 115 110 l [.int y0, .int y1, .ref 22] (ab_hl n (mm_F s Z)) (.inl none) (ab_hl n (mm_F r Z)) := by
  intro s l x1 x2 y0 y1 h0 h1 h2 r e
  unfold f115_110 at e
  refine r_iadd (pc := 110) p115 k115_110 ?_
  refine m_put hn (pc := 111) p115 k115_111 rfl rfl rfl rfl ?_
  refine r_aload_n (pc := 114) p115 k115_114 h0 ?_
  refine r_iconst (pc := 115) p115 k115_115 (v := (0 : Int32)) rfl ?_
  refine m_put hn (pc := 116) p115 k115_116 rfl rfl rfl rfl ?_
  refine r_aload_n (pc := 119) p115 k115_119 h0 ?_
  obtain ⟨r1, er1, e⟩ := of_bind e
  refine m_cv hn (pc := 120) p115 k115_120 rfl p117 (r := []) rfl rfl rfl rfl rfl (t117 hn (mg (mg s 33 (y1 + y0)) 37 (0 : Int32)) r1 er1) (w := []) rfl ?_
  refine r_iload_n (pc := 123) p115 k115_123 h1 ?_
  refine r_bipush (pc := 124) p115 k115_124 (v := (60 : Int32)) rfl ?_
  refine r_ic_ge (pc := 126) p115 k115_126 (fun c => ?_) (fun c => ?_)
  · have e := (if_pos c).symm.trans e
    refine r_iload_n (pc := 137) p115 k115_137 h1 ?_
    refine r_bipush (pc := 138) p115 k115_138 (v := (72 : Int32)) rfl ?_
    refine r_ic_ge (pc := 140) p115 k115_140 (fun c => ?_) (fun c => ?_)
    · have e := (if_pos c).symm.trans e
      refine r_aload_n (pc := 151) p115 k115_151 h0 ?_
      refine r_iload_n (pc := 152) p115 k115_152 h1 ?_
      obtain ⟨r2, er2, e⟩ := of_bind e
      refine m_cv hn (pc := 153) p115 k115_153 rfl p167 (r := []) rfl rfl rfl rfl rfl (t167 hn r1 x1 r2 er2) (w := []) rfl ?_
      exact t115_156 hn r2 l x1 x2 h0 h1 h2 r e
    · have e := (if_neg c).symm.trans e
      refine r_aload_n (pc := 143) p115 k115_143 h0 ?_
      refine r_iload_n (pc := 144) p115 k115_144 h1 ?_
      obtain ⟨r2, er2, e⟩ := of_bind e
      refine m_cv hn (pc := 145) p115 k115_145 rfl p165 (r := []) rfl rfl rfl rfl rfl (t165 hn r1 x1 r2 er2) (w := []) rfl ?_
      refine r_goto (pc := 148) p115 k115_148 ?_
      exact t115_156 hn r2 l x1 x2 h0 h1 h2 r e
  · have e := (if_neg c).symm.trans e
    refine r_aload_n (pc := 129) p115 k115_129 h0 ?_
    refine r_iload_n (pc := 130) p115 k115_130 h1 ?_
    obtain ⟨r2, er2, e⟩ := of_bind e
    refine m_cv hn (pc := 131) p115 k115_131 rfl p138 (r := []) rfl rfl rfl rfl rfl (t138 hn r1 x1 r2 er2) (w := []) rfl ?_
    refine r_goto (pc := 134) p115 k115_134 ?_
    exact t115_156 hn r2 l x1 x2 h0 h1 h2 r e
def f115_71 (s : mS) (y0 : Int32) : Option mS := ((f131 s y0 (s.1 21)).bind fun r1 => some r1)
theorem t115_71 {d n : Nat} {Z : Nat → ab_C} (hn : 42 ≤ n) : ∀ (s : mS) (l : ab_L) (y0 : Int32) (h0 : ab_get l 0 = some (.ref 22)) (r : mS) (e : f115_71 s y0 = some r), ab_Rn (d + 10) 115 71 l [.int y0, .ref 22] (ab_hl n (mm_F s Z)) (.inl none) (ab_hl n (mm_F r Z)) := by
  intro s l y0 h0 r e
  unfold f115_71 at e
  refine r_aload_n (pc := 71) p115 k115_71 h0 ?_
  refine m_get hn (pc := 72) p115 k115_72 (v := .int (s.1 21)) rfl ?_
  obtain ⟨r1, er1, e⟩ := of_bind e
  refine m_cv hn (pc := 75) p115 k115_75 rfl p131 (r := []) rfl rfl rfl rfl rfl (t131 hn s y0 (s.1 21) r1 er1) (w := []) rfl ?_
  cases e
  exact r_retV (pc := 78) p115 k115_78 rfl
def f115_52 (s : mS) (y0 : Int32) : Option mS := (if 0 ≤ y0 then if ib (s.1 32) 2 then (if (s.1 32) = (1 : Int32) then f115_110 s y0 (s.1 21) (s.1 34) ((s.2 35) (s.1 32).toNatClampNeg) else f115_110 s y0 (s.1 21) (0 : Int32) ((s.2 35) (s.1 32).toNatClampNeg)) else none else (if (s.1 20) = (1 : Int32) then f115_71 s (3 : Int32) else f115_71 s (1 : Int32)))
theorem t115_52 {d n : Nat} {Z : Nat → ab_C} (hn : 42 ≤ n) : ∀ (s : mS) (l : ab_L) (y0 : Int32) (h0 : ab_get l 0 = some (.ref 22)) (r : mS) (e : f115_52 s y0 = some r), ab_Rn (d + 10) 115 52 l [.int y0] (ab_hl n (mm_F s Z)) (.inl none) (ab_hl n (mm_F r Z)) := by
  intro s l y0 h0 r e
  unfold f115_52 at e
  refine r_istore_n (pc := 52) p115 k115_52 (by decide) (fun l g h1 => ?_)
  have h0 := g 0 _ (by decide) h0 (Or.inl rfl)
  refine r_iload_n (pc := 53) p115 k115_53 h1 ?_
  refine r_if_ge (pc := 54) p115 k115_54 (fun c => ?_) (fun c => ?_)
  · have e := (if_pos c).symm.trans e
    refine r_aload_n (pc := 79) p115 k115_79 h0 ?_
    refine m_get hn (pc := 80) p115 k115_80 (v := .int (s.1 21)) rfl ?_
    refine r_istore_n (pc := 83) p115 k115_83 (by decide) (fun l g h2 => ?_)
    have h0 := g 0 _ (by decide) h0 (Or.inl rfl)
    have h1 := g 1 _ (by decide) h1 (Or.inl rfl)
    refine r_aload_n (pc := 84) p115 k115_84 h0 ?_
    refine r_aload_n (pc := 85) p115 k115_85 h0 ?_
    refine m_get hn (pc := 86) p115 k115_86 (v := .ref 34) rfl ?_
    refine r_aload_n (pc := 89) p115 k115_89 h0 ?_
    refine m_get hn (pc := 90) p115 k115_90 (v := .int (s.1 32)) rfl ?_
    obtain ⟨c, e⟩ := of_if e
    refine r_iald (pc := 93) p115 k115_93 (m_lt hn rfl) (f := (s.2 35)) rfl c ?_
    refine r_aload_n (pc := 94) p115 k115_94 h0 ?_
    refine m_get hn (pc := 95) p115 k115_95 (v := .int (s.1 32)) rfl ?_
    refine r_iconst (pc := 98) p115 k115_98 (v := (1 : Int32)) rfl ?_
    refine r_ic_ne (pc := 99) p115 k115_99 (fun c => ?_) (fun c => ?_)
    · have e := (if_neg c).symm.trans e
      refine r_iconst (pc := 109) p115 k115_109 (v := (0 : Int32)) rfl ?_
      exact t115_110 hn s l y0 (s.1 21) (0 : Int32) ((s.2 35) (s.1 32).toNatClampNeg) h0 h1 h2 r e
    · have e := (if_pos c).symm.trans e
      refine r_aload_n (pc := 102) p115 k115_102 h0 ?_
      refine m_get hn (pc := 103) p115 k115_103 (v := .int (s.1 34)) rfl ?_
      refine r_goto (pc := 106) p115 k115_106 ?_
      exact t115_110 hn s l y0 (s.1 21) (s.1 34) ((s.2 35) (s.1 32).toNatClampNeg) h0 h1 h2 r e
  · have e := (if_neg c).symm.trans e
    refine r_aload_n (pc := 57) p115 k115_57 h0 ?_
    refine r_aload_n (pc := 58) p115 k115_58 h0 ?_
    refine m_get hn (pc := 59) p115 k115_59 (v := .int (s.1 20)) rfl ?_
    refine r_iconst (pc := 62) p115 k115_62 (v := (1 : Int32)) rfl ?_
    refine r_ic_ne (pc := 63) p115 k115_63 (fun c => ?_) (fun c => ?_)
    · have e := (if_neg c).symm.trans e
      refine r_iconst (pc := 70) p115 k115_70 (v := (1 : Int32)) rfl ?_
      exact t115_71 hn s l (1 : Int32) h0 r e
    · have e := (if_pos c).symm.trans e
      refine r_iconst (pc := 66) p115 k115_66 (v := (3 : Int32)) rfl ?_
      refine r_goto (pc := 67) p115 k115_67 ?_
      exact t115_71 hn s l (3 : Int32) h0 r e
def f115 (s : mS) : Option mS := ((f116 s).bind fun r1 => (if 0 < (r1.1 11) then some r1 else (if (r1.1 20) = 0 then some r1 else (if (r1.1 20) = (1 : Int32) then ((f135_24 r1 (r1.1 21) ((r1.1 18) - (r1.1 21))).bind fun r2 => f115_52 r1 r2) else f115_52 r1 (-1 : Int32)))))
theorem t115 {d n : Nat} {Z : Nat → ab_C} (hn : 42 ≤ n) (s : mS) (r : mS) (e : f115 s = some r) : ab_Rn (d + 10) 115 0 (lv_args 0 [.ref 22]) [] (ab_hl n (mm_F s Z)) (.inl none) (ab_hl n (mm_F r Z)) := by
  unfold f115 at e
  obtain ⟨l, hl⟩ : ∃ l, l = (lv_args 0 [.ref 22]) := ⟨_, rfl⟩
  rw [← hl]
  have h0 : ab_get l 0 = some (.ref 22) := by rw [hl]; rfl
  refine r_aload_n (pc := 0) p115 k115_0 h0 ?_
  obtain ⟨r1, er1, e⟩ := of_bind e
  refine m_cv hn (pc := 1) p115 k115_1 rfl p116 (r := []) rfl rfl rfl rfl rfl (t116 hn s r1 er1) (w := []) rfl ?_
  refine r_aload_n (pc := 4) p115 k115_4 h0 ?_
  refine m_get hn (pc := 5) p115 k115_5 (v := .int (r1.1 11)) rfl ?_
  refine r_if_gt (pc := 8) p115 k115_8 (fun c => ?_) (fun c => ?_)
  · have e := (if_pos c).symm.trans e
    cases e
    exact r_retV (pc := 18) p115 k115_18 rfl
  · have e := (if_neg c).symm.trans e
    refine r_aload_n (pc := 11) p115 k115_11 h0 ?_
    refine m_get hn (pc := 12) p115 k115_12 (v := .int (r1.1 20)) rfl ?_
    refine r_if_ne (pc := 15) p115 k115_15 (fun c => ?_) (fun c => ?_)
    · have e := (if_neg c).symm.trans e
      refine r_aload_n (pc := 19) p115 k115_19 h0 ?_
      refine m_get hn (pc := 20) p115 k115_20 (v := .int (r1.1 20)) rfl ?_
      refine r_iconst (pc := 23) p115 k115_23 (v := (1 : Int32)) rfl ?_
      refine r_ic_ne (pc := 24) p115 k115_24 (fun c => ?_) (fun c => ?_)
      · have e := (if_neg c).symm.trans e
        refine r_iconst (pc := 51) p115 k115_51 (v := (-1 : Int32)) rfl ?_
        exact t115_52 hn r1 l (-1 : Int32) h0 r e
      · have e := (if_pos c).symm.trans e
        refine r_aload_n (pc := 27) p115 k115_27 h0 ?_
        refine r_aload_n (pc := 28) p115 k115_28 h0 ?_
        refine m_get hn (pc := 29) p115 k115_29 (v := .ref 24) rfl ?_
        refine r_aload_n (pc := 32) p115 k115_32 h0 ?_
        refine m_get hn (pc := 33) p115 k115_33 (v := .int (r1.1 21)) rfl ?_
        refine r_aload_n (pc := 36) p115 k115_36 h0 ?_
        refine m_get hn (pc := 37) p115 k115_37 (v := .int (r1.1 18)) rfl ?_
        refine r_aload_n (pc := 40) p115 k115_40 h0 ?_
        refine m_get hn (pc := 41) p115 k115_41 (v := .int (r1.1 21)) rfl ?_
        refine r_isub (pc := 44) p115 k115_44 ?_
        obtain ⟨r2, er2, e⟩ := of_bind e
        refine m_cv hn (pc := 45) p115 k115_45 rfl p135 (r := []) rfl rfl rfl rfl rfl (t135_24 hn r1 (r1.1 21) ((r1.1 18) - (r1.1 21)) r2 er2) (w := [.int r2]) rfl ?_
        refine r_goto (pc := 48) p115 k115_48 ?_
        exact t115_52 hn r1 l r2 h0 r e
    · have e := (if_pos c).symm.trans e
      cases e
      exact r_retV (pc := 18) p115 k115_18 rfl

theorem p114 : ab_prog[114]? = some (ab_m114, ab_c114) := rfl
theorem k114_0 : ab_fetch ab_c114 0 = some (.aload_n 0, 1, 0, 0) := rfl
theorem k114_1 : ab_fetch ab_c114 1 = some (.iconst 0, 1, 0, 0) := rfl
theorem k114_2 : ab_fetch ab_c114 2 = some (.putfield 477, 3, 6, 32) := rfl
theorem k114_5 : ab_fetch ab_c114 5 = some (.aload_n 0, 1, 0, 0) := rfl
theorem k114_6 : ab_fetch ab_c114 6 = some (.getfield 278, 3, 6, 35) := rfl
theorem k114_9 : ab_fetch ab_c114 9 = some (.iconst 0, 1, 0, 0) := rfl
theorem k114_10 : ab_fetch ab_c114 10 = some (.iconst 0, 1, 0, 0) := rfl
theorem k114_11 : ab_fetch ab_c114 11 = some (.iastore, 1, 0, 0) := rfl
theorem k114_12 : ab_fetch ab_c114 12 = some (.aload_n 0, 1, 0, 0) := rfl
theorem k114_13 : ab_fetch ab_c114 13 = some (.getfield 278, 3, 6, 35) := rfl
theorem k114_16 : ab_fetch ab_c114 16 = some (.iconst 1, 1, 0, 0) := rfl
theorem k114_17 : ab_fetch ab_c114 17 = some (.iconst 0, 1, 0, 0) := rfl
theorem k114_18 : ab_fetch ab_c114 18 = some (.iastore, 1, 0, 0) := rfl
theorem k114_19 : ab_fetch ab_c114 19 = some (.aload_n 0, 1, 0, 0) := rfl
theorem k114_20 : ab_fetch ab_c114 20 = some (.iconst 0, 1, 0, 0) := rfl
theorem k114_21 : ab_fetch ab_c114 21 = some (.putfield 316, 3, 6, 15) := rfl
theorem k114_24 : ab_fetch ab_c114 24 = some (.iconst 0, 1, 0, 0) := rfl
theorem k114_25 : ab_fetch ab_c114 25 = some (.istore_n 1, 1, 0, 0) := rfl
theorem k114_26 : ab_fetch ab_c114 26 = some (.iload_n 1, 1, 0, 0) := rfl
theorem k114_27 : ab_fetch ab_c114 27 = some (.aload_n 0, 1, 0, 0) := rfl
theorem k114_28 : ab_fetch ab_c114 28 = some (.getfield 557, 3, 6, 14) := rfl
theorem k114_31 : ab_fetch ab_c114 31 = some (.if_icmp .ge 73, 3, 104, 0) := rfl
theorem k114_34 : ab_fetch ab_c114 34 = some (.aload_n 0, 1, 0, 0) := rfl
theorem k114_35 : ab_fetch ab_c114 35 = some (.getfield 307, 3, 6, 11) := rfl
theorem k114_38 : ab_fetch ab_c114 38 = some (.ifCond .ne 66, 3, 104, 0) := rfl
theorem k114_41 : ab_fetch ab_c114 41 = some (.aload_n 0, 1, 0, 0) := rfl
theorem k114_42 : ab_fetch ab_c114 42 = some (.dup, 1, 0, 0) := rfl
theorem k114_43 : ab_fetch ab_c114 43 = some (.getfield 316, 3, 6, 15) := rfl
theorem k114_46 : ab_fetch ab_c114 46 = some (.iconst 1, 1, 0, 0) := rfl
theorem k114_47 : ab_fetch ab_c114 47 = some (.iadd, 1, 0, 0) := rfl
theorem k114_48 : ab_fetch ab_c114 48 = some (.putfield 316, 3, 6, 15) := rfl
theorem k114_51 : ab_fetch ab_c114 51 = some (.aload_n 0, 1, 0, 0) := rfl
theorem k114_52 : ab_fetch ab_c114 52 = some (.iload_n 1, 1, 0, 0) := rfl
theorem k114_53 : ab_fetch ab_c114 53 = some (.putfield 310, 3, 6, 16) := rfl
theorem k114_56 : ab_fetch ab_c114 56 = some (.iload_n 1, 1, 0, 0) := rfl
theorem k114_57 : ab_fetch ab_c114 57 = some (.aload_n 0, 1, 0, 0) := rfl
theorem k114_58 : ab_fetch ab_c114 58 = some (.getfield 557, 3, 6, 14) := rfl
theorem k114_61 : ab_fetch ab_c114 61 = some (.if_icmp .ge 20, 3, 81, 0) := rfl
theorem k114_64 : ab_fetch ab_c114 64 = some (.aload_n 0, 1, 0, 0) := rfl
theorem k114_65 : ab_fetch ab_c114 65 = some (.getfield 253, 3, 6, 4) := rfl
theorem k114_68 : ab_fetch ab_c114 68 = some (.iload_n 1, 1, 0, 0) := rfl
theorem k114_69 : ab_fetch ab_c114 69 = some (.baload, 1, 0, 0) := rfl
theorem k114_70 : ab_fetch ab_c114 70 = some (.bipush 10, 2, 0, 0) := rfl
theorem k114_72 : ab_fetch ab_c114 72 = some (.if_icmp .eq 9, 3, 81, 0) := rfl
theorem k114_75 : ab_fetch ab_c114 75 = some (.iinc 1 1, 3, 0, 0) := rfl
theorem k114_78 : ab_fetch ab_c114 78 = some (.goto (-22), 3, 56, 0) := rfl
theorem k114_81 : ab_fetch ab_c114 81 = some (.aload_n 0, 1, 0, 0) := rfl
theorem k114_82 : ab_fetch ab_c114 82 = some (.iload_n 1, 1, 0, 0) := rfl
theorem k114_83 : ab_fetch ab_c114 83 = some (.putfield 325, 3, 6, 17) := rfl
theorem k114_86 : ab_fetch ab_c114 86 = some (.aload_n 0, 1, 0, 0) := rfl
theorem k114_87 : ab_fetch ab_c114 87 = some (.aload_n 0, 1, 0, 0) := rfl
theorem k114_88 : ab_fetch ab_c114 88 = some (.getfield 310, 3, 6, 16) := rfl
theorem k114_91 : ab_fetch ab_c114 91 = some (.putfield 322, 3, 6, 18) := rfl
theorem k114_94 : ab_fetch ab_c114 94 = some (.aload_n 0, 1, 0, 0) := rfl
theorem k114_95 : ab_fetch ab_c114 95 = some (.invokevirtual 560, 3, 115, 0) := rfl
theorem k114_98 : ab_fetch ab_c114 98 = some (.iinc 1 1, 3, 0, 0) := rfl
theorem k114_101 : ab_fetch ab_c114 101 = some (.goto (-75), 3, 26, 0) := rfl
theorem k114_104 : ab_fetch ab_c114 104 = some (.return_, 1, 0, 0) := rfl
/- CodeSmithModel pass()V -/
def f114_81 (q26 : mS → Int32 → Option mS) (s : mS) (x1 : Int32) : Option mS := ((f115 (mg (mg s 17 x1) 18 (s.1 16))).bind fun r1 => q26 r1 (x1 + (1 : Int32)))
theorem t114_81 {d n : Nat} {Z : Nat → ab_C} (hn : 42 ≤ n) (q26 : mS → Int32 → Option mS) (hq26 : ∀ (s : mS) (l : ab_L) (x1 : Int32) (h0 : ab_get l 0 = some (.ref 22)) (h1 : ab_get l 1 = some (.int x1)) (r : mS) (e : q26 s x1 = some r), ab_Rn (d + 11) 114 26 l [] (ab_hl n (mm_F s Z)) (.inl none) (ab_hl n (mm_F r Z))) : ∀ (s : mS) (l : ab_L) (x1 : Int32) (h0 : ab_get l 0 = some (.ref 22)) (h1 : ab_get l 1 = some (.int x1)) (r : mS) (e : f114_81 q26 s x1 = some r), ab_Rn (d + 11) 114 81 l [] (ab_hl n (mm_F s Z)) (.inl none) (ab_hl n (mm_F r Z)) := by
  intro s l x1 h0 h1 r e
  unfold f114_81 at e
  refine r_aload_n (pc := 81) p114 k114_81 h0 ?_
  refine r_iload_n (pc := 82) p114 k114_82 h1 ?_
  refine m_put hn (pc := 83) p114 k114_83 rfl rfl rfl rfl ?_
  refine r_aload_n (pc := 86) p114 k114_86 h0 ?_
  refine r_aload_n (pc := 87) p114 k114_87 h0 ?_
  refine m_get hn (pc := 88) p114 k114_88 (v := .int (s.1 16)) rfl ?_
  refine m_put hn (pc := 91) p114 k114_91 rfl rfl rfl rfl ?_
  refine r_aload_n (pc := 94) p114 k114_94 h0 ?_
  obtain ⟨r1, er1, e⟩ := of_bind e
  refine m_cv hn (pc := 95) p114 k114_95 rfl p115 (r := []) rfl rfl rfl rfl rfl (t115 hn (mg (mg s 17 x1) 18 (s.1 16)) r1 er1) (w := []) rfl ?_
  refine r_iinc (pc := 98) p114 k114_98 h1 (by decide) (v := (x1 + (1 : Int32))) rfl (fun l g h1 => ?_)
  have h0 := g 0 _ (by decide) h0 (Or.inl rfl)
  refine r_goto (pc := 101) p114 k114_101 ?_
  exact hq26 r1 l (x1 + (1 : Int32)) h0 h1 r e
def f114_56 (q26 : mS → Int32 → Option mS) : Nat → mS → Int32 → Option mS
  | 0, _, _ => none
  | u + 1, s, x1 => (if (s.1 14) ≤ x1 then f114_81 q26 s x1 else if ib x1 65536 then (if ((s.2 4) x1.toNatClampNeg) = (10 : Int32) then f114_81 q26 s x1 else f114_56 q26 u s (x1 + (1 : Int32))) else none)
theorem t114_56 {d n : Nat} {Z : Nat → ab_C} (hn : 42 ≤ n) (q26 : mS → Int32 → Option mS) (hq26 : ∀ (s : mS) (l : ab_L) (x1 : Int32) (h0 : ab_get l 0 = some (.ref 22)) (h1 : ab_get l 1 = some (.int x1)) (r : mS) (e : q26 s x1 = some r), ab_Rn (d + 11) 114 26 l [] (ab_hl n (mm_F s Z)) (.inl none) (ab_hl n (mm_F r Z))) : ∀ u : Nat, ∀ (s : mS) (l : ab_L) (x1 : Int32) (h0 : ab_get l 0 = some (.ref 22)) (h1 : ab_get l 1 = some (.int x1)) (r : mS) (e : f114_56 q26 u s x1 = some r), ab_Rn (d + 11) 114 56 l [] (ab_hl n (mm_F s Z)) (.inl none) (ab_hl n (mm_F r Z)) := by
  intro u
  induction u with
  | zero => intro s l x1 h0 h1 r e; rw [f114_56] at e; cases e
  | succ u ih =>
    intro s l x1 h0 h1 r e
    rw [f114_56] at e
    refine r_iload_n (pc := 56) p114 k114_56 h1 ?_
    refine r_aload_n (pc := 57) p114 k114_57 h0 ?_
    refine m_get hn (pc := 58) p114 k114_58 (v := .int (s.1 14)) rfl ?_
    refine r_ic_ge (pc := 61) p114 k114_61 (fun c => ?_) (fun c => ?_)
    · have e := (if_pos c).symm.trans e
      exact t114_81 hn q26 hq26 s l x1 h0 h1 r e
    · have e := (if_neg c).symm.trans e
      refine r_aload_n (pc := 64) p114 k114_64 h0 ?_
      refine m_get hn (pc := 65) p114 k114_65 (v := .ref 26) rfl ?_
      refine r_iload_n (pc := 68) p114 k114_68 h1 ?_
      obtain ⟨c, e⟩ := of_if e
      refine r_bald (pc := 69) p114 k114_69 (m_lt hn rfl) (f := (s.2 4)) rfl c ?_
      refine r_bipush (pc := 70) p114 k114_70 (v := (10 : Int32)) rfl ?_
      refine r_ic_eq (pc := 72) p114 k114_72 (fun c => ?_) (fun c => ?_)
      · have e := (if_pos c).symm.trans e
        exact t114_81 hn q26 hq26 s l x1 h0 h1 r e
      · have e := (if_neg c).symm.trans e
        refine r_iinc (pc := 75) p114 k114_75 h1 (by decide) (v := (x1 + (1 : Int32))) rfl (fun l g h1 => ?_)
        have h0 := g 0 _ (by decide) h0 (Or.inl rfl)
        refine r_goto (pc := 78) p114 k114_78 ?_
        exact ih s l (x1 + (1 : Int32)) h0 h1 r e
def f114_26 : Nat → mS → Int32 → Option mS
  | 0, _, _ => none
  | u + 1, s, x1 => (if (s.1 14) ≤ x1 then some s else (if (s.1 11) = 0 then f114_56 (f114_26 u) mm_U (mg (mg s 15 ((s.1 15) + (1 : Int32))) 16 x1) x1 else some s))
theorem t114_26 {d n : Nat} {Z : Nat → ab_C} (hn : 42 ≤ n) : ∀ u : Nat, ∀ (s : mS) (l : ab_L) (x1 : Int32) (h0 : ab_get l 0 = some (.ref 22)) (h1 : ab_get l 1 = some (.int x1)) (r : mS) (e : f114_26 u s x1 = some r), ab_Rn (d + 11) 114 26 l [] (ab_hl n (mm_F s Z)) (.inl none) (ab_hl n (mm_F r Z)) := by
  intro u
  induction u with
  | zero => intro s l x1 h0 h1 r e; rw [f114_26] at e; cases e
  | succ u ih =>
    intro s l x1 h0 h1 r e
    rw [f114_26] at e
    refine r_iload_n (pc := 26) p114 k114_26 h1 ?_
    refine r_aload_n (pc := 27) p114 k114_27 h0 ?_
    refine m_get hn (pc := 28) p114 k114_28 (v := .int (s.1 14)) rfl ?_
    refine r_ic_ge (pc := 31) p114 k114_31 (fun c => ?_) (fun c => ?_)
    · have e := (if_pos c).symm.trans e
      cases e
      exact r_retV (pc := 104) p114 k114_104 rfl
    · have e := (if_neg c).symm.trans e
      refine r_aload_n (pc := 34) p114 k114_34 h0 ?_
      refine m_get hn (pc := 35) p114 k114_35 (v := .int (s.1 11)) rfl ?_
      refine r_if_ne (pc := 38) p114 k114_38 (fun c => ?_) (fun c => ?_)
      · have e := (if_neg c).symm.trans e
        cases e
        exact r_retV (pc := 104) p114 k114_104 rfl
      · have e := (if_pos c).symm.trans e
        refine r_aload_n (pc := 41) p114 k114_41 h0 ?_
        refine r_dup (pc := 42) p114 k114_42 rfl ?_
        refine m_get hn (pc := 43) p114 k114_43 (v := .int (s.1 15)) rfl ?_
        refine r_iconst (pc := 46) p114 k114_46 (v := (1 : Int32)) rfl ?_
        refine r_iadd (pc := 47) p114 k114_47 ?_
        refine m_put hn (pc := 48) p114 k114_48 rfl rfl rfl rfl ?_
        refine r_aload_n (pc := 51) p114 k114_51 h0 ?_
        refine r_iload_n (pc := 52) p114 k114_52 h1 ?_
        refine m_put hn (pc := 53) p114 k114_53 rfl rfl rfl rfl ?_
        exact t114_56 hn (f114_26 u) ih mm_U (mg (mg s 15 ((s.1 15) + (1 : Int32))) 16 x1) l x1 h0 h1 r e
def f114 (s : mS) : Option mS := if ib (0 : Int32) 2 then if ib (1 : Int32) 2 then f114_26 mm_U (mg (mb (mb (mg s 32 (0 : Int32)) 35 (0 : Int32) (0 : Int32)) 35 (1 : Int32) (0 : Int32)) 15 (0 : Int32)) (0 : Int32) else none else none
theorem t114 {d n : Nat} {Z : Nat → ab_C} (hn : 42 ≤ n) (s : mS) (r : mS) (e : f114 s = some r) : ab_Rn (d + 11) 114 0 (lv_args 0 [.ref 22]) [] (ab_hl n (mm_F s Z)) (.inl none) (ab_hl n (mm_F r Z)) := by
  unfold f114 at e
  obtain ⟨l, hl⟩ : ∃ l, l = (lv_args 0 [.ref 22]) := ⟨_, rfl⟩
  rw [← hl]
  have h0 : ab_get l 0 = some (.ref 22) := by rw [hl]; rfl
  refine r_aload_n (pc := 0) p114 k114_0 h0 ?_
  refine r_iconst (pc := 1) p114 k114_1 (v := (0 : Int32)) rfl ?_
  refine m_put hn (pc := 2) p114 k114_2 rfl rfl rfl rfl ?_
  refine r_aload_n (pc := 5) p114 k114_5 h0 ?_
  refine m_get hn (pc := 6) p114 k114_6 (v := .ref 34) rfl ?_
  refine r_iconst (pc := 9) p114 k114_9 (v := (0 : Int32)) rfl ?_
  refine r_iconst (pc := 10) p114 k114_10 (v := (0 : Int32)) rfl ?_
  obtain ⟨c, e⟩ := of_if e
  refine m_ast hn rfl (pc := 11) p114 k114_11 (k := 35) rfl (mm_arr35 _ Z) c ?_
  refine r_aload_n (pc := 12) p114 k114_12 h0 ?_
  refine m_get hn (pc := 13) p114 k114_13 (v := .ref 34) rfl ?_
  refine r_iconst (pc := 16) p114 k114_16 (v := (1 : Int32)) rfl ?_
  refine r_iconst (pc := 17) p114 k114_17 (v := (0 : Int32)) rfl ?_
  obtain ⟨c, e⟩ := of_if e
  refine m_ast hn rfl (pc := 18) p114 k114_18 (k := 35) rfl (mm_arr35 _ Z) c ?_
  refine r_aload_n (pc := 19) p114 k114_19 h0 ?_
  refine r_iconst (pc := 20) p114 k114_20 (v := (0 : Int32)) rfl ?_
  refine m_put hn (pc := 21) p114 k114_21 rfl rfl rfl rfl ?_
  refine r_iconst (pc := 24) p114 k114_24 (v := (0 : Int32)) rfl ?_
  refine r_istore_n (pc := 25) p114 k114_25 (by decide) (fun l g h1 => ?_)
  have h0 := g 0 _ (by decide) h0 (Or.inl rfl)
  exact t114_26 hn mm_U (mg (mb (mb (mg s 32 (0 : Int32)) 35 (0 : Int32) (0 : Int32)) 35 (1 : Int32) (0 : Int32)) 15 (0 : Int32)) l (0 : Int32) h0 h1 r e

theorem p171 : ab_prog[171]? = some (ab_m171, ab_c171) := rfl
theorem k171_0 : ab_fetch ab_c171 0 = some (.iconst 0, 1, 0, 0) := rfl
theorem k171_1 : ab_fetch ab_c171 1 = some (.istore_n 1, 1, 0, 0) := rfl
theorem k171_2 : ab_fetch ab_c171 2 = some (.iconst 0, 1, 0, 0) := rfl
theorem k171_3 : ab_fetch ab_c171 3 = some (.istore_n 2, 1, 0, 0) := rfl
theorem k171_4 : ab_fetch ab_c171 4 = some (.iload_n 2, 1, 0, 0) := rfl
theorem k171_5 : ab_fetch ab_c171 5 = some (.aload_n 0, 1, 0, 0) := rfl
theorem k171_6 : ab_fetch ab_c171 6 = some (.getfield 405, 3, 6, 26) := rfl
theorem k171_9 : ab_fetch ab_c171 9 = some (.if_icmp .ge 87, 3, 96, 0) := rfl
theorem k171_12 : ab_fetch ab_c171 12 = some (.aload_n 0, 1, 0, 0) := rfl
theorem k171_13 : ab_fetch ab_c171 13 = some (.getfield 266, 3, 6, 28) := rfl
theorem k171_16 : ab_fetch ab_c171 16 = some (.iload_n 2, 1, 0, 0) := rfl
theorem k171_17 : ab_fetch ab_c171 17 = some (.iaload, 1, 0, 0) := rfl
theorem k171_18 : ab_fetch ab_c171 18 = some (.iconst 5, 1, 0, 0) := rfl
theorem k171_19 : ab_fetch ab_c171 19 = some (.if_icmp .ne 35, 3, 54, 0) := rfl
theorem k171_22 : ab_fetch ab_c171 22 = some (.aload_n 0, 1, 0, 0) := rfl
theorem k171_23 : ab_fetch ab_c171 23 = some (.getfield 269, 3, 6, 29) := rfl
theorem k171_26 : ab_fetch ab_c171 26 = some (.iload_n 2, 1, 0, 0) := rfl
theorem k171_27 : ab_fetch ab_c171 27 = some (.iaload, 1, 0, 0) := rfl
theorem k171_28 : ab_fetch ab_c171 28 = some (.iconst 1, 1, 0, 0) := rfl
theorem k171_29 : ab_fetch ab_c171 29 = some (.if_icmp .le 25, 3, 54, 0) := rfl
theorem k171_32 : ab_fetch ab_c171 32 = some (.aload_n 0, 1, 0, 0) := rfl
theorem k171_33 : ab_fetch ab_c171 33 = some (.aload_n 0, 1, 0, 0) := rfl
theorem k171_34 : ab_fetch ab_c171 34 = some (.getfield 263, 3, 6, 27) := rfl
theorem k171_37 : ab_fetch ab_c171 37 = some (.iload_n 2, 1, 0, 0) := rfl
theorem k171_38 : ab_fetch ab_c171 38 = some (.iaload, 1, 0, 0) := rfl
theorem k171_39 : ab_fetch ab_c171 39 = some (.iconst 5, 1, 0, 0) := rfl
theorem k171_40 : ab_fetch ab_c171 40 = some (.invokevirtual 390, 3, 136, 2) := rfl
theorem k171_43 : ab_fetch ab_c171 43 = some (.ldc2_w 567, 3, 495873782388, 0) := rfl
theorem k171_46 : ab_fetch ab_c171 46 = some (.lcmp, 1, 0, 0) := rfl
theorem k171_47 : ab_fetch ab_c171 47 = some (.ifCond .ne 7, 3, 54, 0) := rfl
theorem k171_50 : ab_fetch ab_c171 50 = some (.iconst 1, 1, 0, 0) := rfl
theorem k171_51 : ab_fetch ab_c171 51 = some (.goto 4, 3, 55, 0) := rfl
theorem k171_54 : ab_fetch ab_c171 54 = some (.iconst 0, 1, 0, 0) := rfl
theorem k171_55 : ab_fetch ab_c171 55 = some (.istore_n 3, 1, 0, 0) := rfl
theorem k171_56 : ab_fetch ab_c171 56 = some (.iload_n 3, 1, 0, 0) := rfl
theorem k171_57 : ab_fetch ab_c171 57 = some (.ifCond .eq 31, 3, 88, 0) := rfl
theorem k171_60 : ab_fetch ab_c171 60 = some (.aload_n 0, 1, 0, 0) := rfl
theorem k171_61 : ab_fetch ab_c171 61 = some (.getfield 272, 3, 6, 30) := rfl
theorem k171_64 : ab_fetch ab_c171 64 = some (.iload_n 2, 1, 0, 0) := rfl
theorem k171_65 : ab_fetch ab_c171 65 = some (.iaload, 1, 0, 0) := rfl
theorem k171_66 : ab_fetch ab_c171 66 = some (.aload_n 0, 1, 0, 0) := rfl
theorem k171_67 : ab_fetch ab_c171 67 = some (.getfield 269, 3, 6, 29) := rfl
theorem k171_70 : ab_fetch ab_c171 70 = some (.iload_n 2, 1, 0, 0) := rfl
theorem k171_71 : ab_fetch ab_c171 71 = some (.iaload, 1, 0, 0) := rfl
theorem k171_72 : ab_fetch ab_c171 72 = some (.iconst 3, 1, 0, 0) := rfl
theorem k171_73 : ab_fetch ab_c171 73 = some (.if_icmp .ne 10, 3, 83, 0) := rfl
theorem k171_76 : ab_fetch ab_c171 76 = some (.aload_n 0, 1, 0, 0) := rfl
theorem k171_77 : ab_fetch ab_c171 77 = some (.getfield 418, 3, 6, 34) := rfl
theorem k171_80 : ab_fetch ab_c171 80 = some (.goto 4, 3, 84, 0) := rfl
theorem k171_83 : ab_fetch ab_c171 83 = some (.iconst 0, 1, 0, 0) := rfl
theorem k171_84 : ab_fetch ab_c171 84 = some (.iadd, 1, 0, 0) := rfl
theorem k171_85 : ab_fetch ab_c171 85 = some (.goto 4, 3, 89, 0) := rfl
theorem k171_88 : ab_fetch ab_c171 88 = some (.iload_n 1, 1, 0, 0) := rfl
theorem k171_89 : ab_fetch ab_c171 89 = some (.istore_n 1, 1, 0, 0) := rfl
theorem k171_90 : ab_fetch ab_c171 90 = some (.iinc 2 1, 3, 0, 0) := rfl
theorem k171_93 : ab_fetch ab_c171 93 = some (.goto (-89), 3, 4, 0) := rfl
theorem k171_96 : ab_fetch ab_c171 96 = some (.iload_n 1, 1, 0, 0) := rfl
theorem k171_97 : ab_fetch ab_c171 97 = some (.ireturn, 1, 0, 0) := rfl
/- CodeSmithModel entry()I -/
def f171_89 (q4 : mS → Int32 → Int32 → Option Int32) (s : mS) (x2 : Int32) (y0 : Int32) : Option Int32 := q4 s y0 (x2 + (1 : Int32))
theorem t171_89 {d n : Nat} {Z : Nat → ab_C} (hn : 42 ≤ n) (q4 : mS → Int32 → Int32 → Option Int32) (hq4 : ∀ (s : mS) (l : ab_L) (x1 : Int32) (x2 : Int32) (h0 : ab_get l 0 = some (.ref 22)) (h1 : ab_get l 1 = some (.int x1)) (h2 : ab_get l 2 = some (.int x2)) (r : Int32) (e : q4 s x1 x2 = some r), ab_Rn (d + 1) 171 4 l [] (ab_hl n (mm_F s Z)) (.inl (some (.int r))) (ab_hl n (mm_F s Z))) : ∀ (s : mS) (l : ab_L) (x2 : Int32) (y0 : Int32) (h0 : ab_get l 0 = some (.ref 22)) (h2 : ab_get l 2 = some (.int x2)) (r : Int32) (e : f171_89 q4 s x2 y0 = some r), ab_Rn (d + 1) 171 89 l [.int y0] (ab_hl n (mm_F s Z)) (.inl (some (.int r))) (ab_hl n (mm_F s Z)) := by
  intro s l x2 y0 h0 h2 r e
  unfold f171_89 at e
  refine r_istore_n (pc := 89) p171 k171_89 (by decide) (fun l g h1 => ?_)
  have h0 := g 0 _ (by decide) h0 (Or.inl rfl)
  have h2 := g 2 _ (by decide) h2 (Or.inl rfl)
  refine r_iinc (pc := 90) p171 k171_90 h2 (by decide) (v := (x2 + (1 : Int32))) rfl (fun l g h2 => ?_)
  have h0 := g 0 _ (by decide) h0 (Or.inl rfl)
  have h1 := g 1 _ (by decide) h1 (Or.inl rfl)
  refine r_goto (pc := 93) p171 k171_93 ?_
  exact hq4 s l y0 (x2 + (1 : Int32)) h0 h1 h2 r e
def f171_84 (q4 : mS → Int32 → Int32 → Option Int32) (s : mS) (x2 : Int32) (y0 : Int32) (y1 : Int32) : Option Int32 := f171_89 q4 s x2 (y1 + y0)
theorem t171_84 {d n : Nat} {Z : Nat → ab_C} (hn : 42 ≤ n) (q4 : mS → Int32 → Int32 → Option Int32) (hq4 : ∀ (s : mS) (l : ab_L) (x1 : Int32) (x2 : Int32) (h0 : ab_get l 0 = some (.ref 22)) (h1 : ab_get l 1 = some (.int x1)) (h2 : ab_get l 2 = some (.int x2)) (r : Int32) (e : q4 s x1 x2 = some r), ab_Rn (d + 1) 171 4 l [] (ab_hl n (mm_F s Z)) (.inl (some (.int r))) (ab_hl n (mm_F s Z))) : ∀ (s : mS) (l : ab_L) (x2 : Int32) (y0 : Int32) (y1 : Int32) (h0 : ab_get l 0 = some (.ref 22)) (h2 : ab_get l 2 = some (.int x2)) (r : Int32) (e : f171_84 q4 s x2 y0 y1 = some r), ab_Rn (d + 1) 171 84 l [.int y0, .int y1] (ab_hl n (mm_F s Z)) (.inl (some (.int r))) (ab_hl n (mm_F s Z)) := by
  intro s l x2 y0 y1 h0 h2 r e
  unfold f171_84 at e
  refine r_iadd (pc := 84) p171 k171_84 ?_
  refine r_goto (pc := 85) p171 k171_85 ?_
  exact t171_89 hn q4 hq4 s l x2 (y1 + y0) h0 h2 r e
def f171_55 (q4 : mS → Int32 → Int32 → Option Int32) (s : mS) (x1 : Int32) (x2 : Int32) (y0 : Int32) : Option Int32 := (if y0 = 0 then f171_89 q4 s x2 x1 else if ib x2 17500 then if ib x2 17500 then (if ((s.2 29) x2.toNatClampNeg) = (3 : Int32) then f171_84 q4 s x2 (s.1 34) ((s.2 30) x2.toNatClampNeg) else f171_84 q4 s x2 (0 : Int32) ((s.2 30) x2.toNatClampNeg)) else none else none)
theorem t171_55 {d n : Nat} {Z : Nat → ab_C} (hn : 42 ≤ n) (q4 : mS → Int32 → Int32 → Option Int32) (hq4 : ∀ (s : mS) (l : ab_L) (x1 : Int32) (x2 : Int32) (h0 : ab_get l 0 = some (.ref 22)) (h1 : ab_get l 1 = some (.int x1)) (h2 : ab_get l 2 = some (.int x2)) (r : Int32) (e : q4 s x1 x2 = some r), ab_Rn (d + 1) 171 4 l [] (ab_hl n (mm_F s Z)) (.inl (some (.int r))) (ab_hl n (mm_F s Z))) : ∀ (s : mS) (l : ab_L) (x1 : Int32) (x2 : Int32) (y0 : Int32) (h0 : ab_get l 0 = some (.ref 22)) (h1 : ab_get l 1 = some (.int x1)) (h2 : ab_get l 2 = some (.int x2)) (r : Int32) (e : f171_55 q4 s x1 x2 y0 = some r), ab_Rn (d + 1) 171 55 l [.int y0] (ab_hl n (mm_F s Z)) (.inl (some (.int r))) (ab_hl n (mm_F s Z)) := by
  intro s l x1 x2 y0 h0 h1 h2 r e
  unfold f171_55 at e
  refine r_istore_n (pc := 55) p171 k171_55 (by decide) (fun l g h3 => ?_)
  have h0 := g 0 _ (by decide) h0 (Or.inl rfl)
  have h1 := g 1 _ (by decide) h1 (Or.inl rfl)
  have h2 := g 2 _ (by decide) h2 (Or.inl rfl)
  refine r_iload_n (pc := 56) p171 k171_56 h3 ?_
  refine r_if_eq (pc := 57) p171 k171_57 (fun c => ?_) (fun c => ?_)
  · have e := (if_pos c).symm.trans e
    refine r_iload_n (pc := 88) p171 k171_88 h1 ?_
    exact t171_89 hn q4 hq4 s l x2 x1 h0 h2 r e
  · have e := (if_neg c).symm.trans e
    refine r_aload_n (pc := 60) p171 k171_60 h0 ?_
    refine m_get hn (pc := 61) p171 k171_61 (v := .ref 32) rfl ?_
    refine r_iload_n (pc := 64) p171 k171_64 h2 ?_
    obtain ⟨c, e⟩ := of_if e
    refine r_iald (pc := 65) p171 k171_65 (m_lt hn rfl) (f := (s.2 30)) rfl c ?_
    refine r_aload_n (pc := 66) p171 k171_66 h0 ?_
    refine m_get hn (pc := 67) p171 k171_67 (v := .ref 31) rfl ?_
    refine r_iload_n (pc := 70) p171 k171_70 h2 ?_
    obtain ⟨c, e⟩ := of_if e
    refine r_iald (pc := 71) p171 k171_71 (m_lt hn rfl) (f := (s.2 29)) rfl c ?_
    refine r_iconst (pc := 72) p171 k171_72 (v := (3 : Int32)) rfl ?_
    refine r_ic_ne (pc := 73) p171 k171_73 (fun c => ?_) (fun c => ?_)
    · have e := (if_neg c).symm.trans e
      refine r_iconst (pc := 83) p171 k171_83 (v := (0 : Int32)) rfl ?_
      exact t171_84 hn q4 hq4 s l x2 (0 : Int32) ((s.2 30) x2.toNatClampNeg) h0 h2 r e
    · have e := (if_pos c).symm.trans e
      refine r_aload_n (pc := 76) p171 k171_76 h0 ?_
      refine m_get hn (pc := 77) p171 k171_77 (v := .int (s.1 34)) rfl ?_
      refine r_goto (pc := 80) p171 k171_80 ?_
      exact t171_84 hn q4 hq4 s l x2 (s.1 34) ((s.2 30) x2.toNatClampNeg) h0 h2 r e
def f171_54 (q4 : mS → Int32 → Int32 → Option Int32) (s : mS) (x1 : Int32) (x2 : Int32) : Option Int32 := f171_55 q4 s x1 x2 (0 : Int32)
theorem t171_54 {d n : Nat} {Z : Nat → ab_C} (hn : 42 ≤ n) (q4 : mS → Int32 → Int32 → Option Int32) (hq4 : ∀ (s : mS) (l : ab_L) (x1 : Int32) (x2 : Int32) (h0 : ab_get l 0 = some (.ref 22)) (h1 : ab_get l 1 = some (.int x1)) (h2 : ab_get l 2 = some (.int x2)) (r : Int32) (e : q4 s x1 x2 = some r), ab_Rn (d + 1) 171 4 l [] (ab_hl n (mm_F s Z)) (.inl (some (.int r))) (ab_hl n (mm_F s Z))) : ∀ (s : mS) (l : ab_L) (x1 : Int32) (x2 : Int32) (h0 : ab_get l 0 = some (.ref 22)) (h1 : ab_get l 1 = some (.int x1)) (h2 : ab_get l 2 = some (.int x2)) (r : Int32) (e : f171_54 q4 s x1 x2 = some r), ab_Rn (d + 1) 171 54 l [] (ab_hl n (mm_F s Z)) (.inl (some (.int r))) (ab_hl n (mm_F s Z)) := by
  intro s l x1 x2 h0 h1 h2 r e
  unfold f171_54 at e
  refine r_iconst (pc := 54) p171 k171_54 (v := (0 : Int32)) rfl ?_
  exact t171_55 hn q4 hq4 s l x1 x2 (0 : Int32) h0 h1 h2 r e
def f171_4 : Nat → mS → Int32 → Int32 → Option Int32
  | 0, _, _, _ => none
  | u + 1, s, x1, x2 => (if (s.1 26) ≤ x2 then some x1 else if ib x2 17500 then (if ((s.2 28) x2.toNatClampNeg) = (5 : Int32) then if ib x2 17500 then (if ((s.2 29) x2.toNatClampNeg) ≤ (1 : Int32) then f171_54 (f171_4 u) s x1 x2 else if ib x2 17500 then ((f136 s ((s.2 27) x2.toNatClampNeg) (5 : Int32)).bind fun r1 => (if (lg_cmp r1 (495873782388 : Int64)) = 0 then f171_55 (f171_4 u) s x1 x2 (1 : Int32) else f171_54 (f171_4 u) s x1 x2)) else none) else none else f171_54 (f171_4 u) s x1 x2) else none)
theorem t171_4 {d n : Nat} {Z : Nat → ab_C} (hn : 42 ≤ n) : ∀ u : Nat, ∀ (s : mS) (l : ab_L) (x1 : Int32) (x2 : Int32) (h0 : ab_get l 0 = some (.ref 22)) (h1 : ab_get l 1 = some (.int x1)) (h2 : ab_get l 2 = some (.int x2)) (r : Int32) (e : f171_4 u s x1 x2 = some r), ab_Rn (d + 1) 171 4 l [] (ab_hl n (mm_F s Z)) (.inl (some (.int r))) (ab_hl n (mm_F s Z)) := by
  intro u
  induction u with
  | zero => intro s l x1 x2 h0 h1 h2 r e; rw [f171_4] at e; cases e
  | succ u ih =>
    intro s l x1 x2 h0 h1 h2 r e
    rw [f171_4] at e
    refine r_iload_n (pc := 4) p171 k171_4 h2 ?_
    refine r_aload_n (pc := 5) p171 k171_5 h0 ?_
    refine m_get hn (pc := 6) p171 k171_6 (v := .int (s.1 26)) rfl ?_
    refine r_ic_ge (pc := 9) p171 k171_9 (fun c => ?_) (fun c => ?_)
    · have e := (if_pos c).symm.trans e
      refine r_iload_n (pc := 96) p171 k171_96 h1 ?_
      cases e
      exact r_retI (pc := 97) p171 k171_97 rfl
    · have e := (if_neg c).symm.trans e
      refine r_aload_n (pc := 12) p171 k171_12 h0 ?_
      refine m_get hn (pc := 13) p171 k171_13 (v := .ref 30) rfl ?_
      refine r_iload_n (pc := 16) p171 k171_16 h2 ?_
      obtain ⟨c, e⟩ := of_if e
      refine r_iald (pc := 17) p171 k171_17 (m_lt hn rfl) (f := (s.2 28)) rfl c ?_
      refine r_iconst (pc := 18) p171 k171_18 (v := (5 : Int32)) rfl ?_
      refine r_ic_ne (pc := 19) p171 k171_19 (fun c => ?_) (fun c => ?_)
      · have e := (if_neg c).symm.trans e
        exact t171_54 hn (f171_4 u) ih s l x1 x2 h0 h1 h2 r e
      · have e := (if_pos c).symm.trans e
        refine r_aload_n (pc := 22) p171 k171_22 h0 ?_
        refine m_get hn (pc := 23) p171 k171_23 (v := .ref 31) rfl ?_
        refine r_iload_n (pc := 26) p171 k171_26 h2 ?_
        obtain ⟨c, e⟩ := of_if e
        refine r_iald (pc := 27) p171 k171_27 (m_lt hn rfl) (f := (s.2 29)) rfl c ?_
        refine r_iconst (pc := 28) p171 k171_28 (v := (1 : Int32)) rfl ?_
        refine r_ic_le (pc := 29) p171 k171_29 (fun c => ?_) (fun c => ?_)
        · have e := (if_pos c).symm.trans e
          exact t171_54 hn (f171_4 u) ih s l x1 x2 h0 h1 h2 r e
        · have e := (if_neg c).symm.trans e
          refine r_aload_n (pc := 32) p171 k171_32 h0 ?_
          refine r_aload_n (pc := 33) p171 k171_33 h0 ?_
          refine m_get hn (pc := 34) p171 k171_34 (v := .ref 29) rfl ?_
          refine r_iload_n (pc := 37) p171 k171_37 h2 ?_
          obtain ⟨c, e⟩ := of_if e
          refine r_iald (pc := 38) p171 k171_38 (m_lt hn rfl) (f := (s.2 27)) rfl c ?_
          refine r_iconst (pc := 39) p171 k171_39 (v := (5 : Int32)) rfl ?_
          obtain ⟨r1, er1, e⟩ := of_bind e
          refine m_cv hn (pc := 40) p171 k171_40 rfl p136 (r := []) rfl rfl rfl rfl rfl (t136 hn s ((s.2 27) x2.toNatClampNeg) (5 : Int32) r1 er1) (w := [.long r1]) rfl ?_
          refine r_ldcL (pc := 43) p171 k171_43 (v := (495873782388 : Int64)) rfl ?_
          refine r_lcmp (pc := 46) p171 k171_46 ?_
          refine r_if_ne (pc := 47) p171 k171_47 (fun c => ?_) (fun c => ?_)
          · have e := (if_neg c).symm.trans e
            exact t171_54 hn (f171_4 u) ih s l x1 x2 h0 h1 h2 r e
          · have e := (if_pos c).symm.trans e
            refine r_iconst (pc := 50) p171 k171_50 (v := (1 : Int32)) rfl ?_
            refine r_goto (pc := 51) p171 k171_51 ?_
            exact t171_55 hn (f171_4 u) ih s l x1 x2 (1 : Int32) h0 h1 h2 r e
def f171 (s : mS) : Option Int32 := f171_4 mm_U s (0 : Int32) (0 : Int32)
theorem t171 {d n : Nat} {Z : Nat → ab_C} (hn : 42 ≤ n) (s : mS) (r : Int32) (e : f171 s = some r) : ab_Rn (d + 1) 171 0 (lv_args 0 [.ref 22]) [] (ab_hl n (mm_F s Z)) (.inl (some (.int r))) (ab_hl n (mm_F s Z)) := by
  unfold f171 at e
  obtain ⟨l, hl⟩ : ∃ l, l = (lv_args 0 [.ref 22]) := ⟨_, rfl⟩
  rw [← hl]
  have h0 : ab_get l 0 = some (.ref 22) := by rw [hl]; rfl
  refine r_iconst (pc := 0) p171 k171_0 (v := (0 : Int32)) rfl ?_
  refine r_istore_n (pc := 1) p171 k171_1 (by decide) (fun l g h1 => ?_)
  have h0 := g 0 _ (by decide) h0 (Or.inl rfl)
  refine r_iconst (pc := 2) p171 k171_2 (v := (0 : Int32)) rfl ?_
  refine r_istore_n (pc := 3) p171 k171_3 (by decide) (fun l g h2 => ?_)
  have h0 := g 0 _ (by decide) h0 (Or.inl rfl)
  have h1 := g 1 _ (by decide) h1 (Or.inl rfl)
  exact t171_4 hn mm_U s l (0 : Int32) (0 : Int32) h0 h1 h2 r e

theorem p172 : ab_prog[172]? = some (ab_m172, ab_c172) := rfl
theorem k172_0 : ab_fetch ab_c172 0 = some (.iconst 0, 1, 0, 0) := rfl
theorem k172_1 : ab_fetch ab_c172 1 = some (.istore 4, 2, 0, 0) := rfl
theorem k172_3 : ab_fetch ab_c172 3 = some (.iload 4, 2, 0, 0) := rfl
theorem k172_5 : ab_fetch ab_c172 5 = some (.iload_n 3, 1, 0, 0) := rfl
theorem k172_6 : ab_fetch ab_c172 6 = some (.if_icmp .ge 26, 3, 32, 0) := rfl
theorem k172_9 : ab_fetch ab_c172 9 = some (.aload_n 0, 1, 0, 0) := rfl
theorem k172_10 : ab_fetch ab_c172 10 = some (.getfield 257, 3, 6, 6) := rfl
theorem k172_13 : ab_fetch ab_c172 13 = some (.iload_n 1, 1, 0, 0) := rfl
theorem k172_14 : ab_fetch ab_c172 14 = some (.iload 4, 2, 0, 0) := rfl
theorem k172_16 : ab_fetch ab_c172 16 = some (.iadd, 1, 0, 0) := rfl
theorem k172_17 : ab_fetch ab_c172 17 = some (.iload_n 2, 1, 0, 0) := rfl
theorem k172_18 : ab_fetch ab_c172 18 = some (.bipush 8, 2, 0, 0) := rfl
theorem k172_20 : ab_fetch ab_c172 20 = some (.iload 4, 2, 0, 0) := rfl
theorem k172_22 : ab_fetch ab_c172 22 = some (.imul, 1, 0, 0) := rfl
theorem k172_23 : ab_fetch ab_c172 23 = some (.ishr, 1, 0, 0) := rfl
theorem k172_24 : ab_fetch ab_c172 24 = some (.i2b, 1, 0, 0) := rfl
theorem k172_25 : ab_fetch ab_c172 25 = some (.bastore, 1, 0, 0) := rfl
theorem k172_26 : ab_fetch ab_c172 26 = some (.iinc 4 1, 3, 0, 0) := rfl
theorem k172_29 : ab_fetch ab_c172 29 = some (.goto (-26), 3, 3, 0) := rfl
theorem k172_32 : ab_fetch ab_c172 32 = some (.return_, 1, 0, 0) := rfl
/- CodeSmithModel lay(III)V -/
def f172_3 : Nat → mS → Int32 → Int32 → Int32 → Int32 → Option mS
  | 0, _, _, _, _, _ => none
  | u + 1, s, x1, x2, x3, x4 => (if x3 ≤ x4 then some s else if ib (x1 + x4) 65536 then f172_3 u (mb s 6 (x1 + x4) (x2 >>> (((8 : Int32) * x4) &&& 31)).toInt8.toInt32.toInt8.toInt32) x1 x2 x3 (x4 + (1 : Int32)) else none)
theorem t172_3 {d n : Nat} {Z : Nat → ab_C} (hn : 42 ≤ n) : ∀ u : Nat, ∀ (s : mS) (l : ab_L) (x1 : Int32) (x2 : Int32) (x3 : Int32) (x4 : Int32) (h0 : ab_get l 0 = some (.ref 22)) (h1 : ab_get l 1 = some (.int x1)) (h2 : ab_get l 2 = some (.int x2)) (h3 : ab_get l 3 = some (.int x3)) (h4 : ab_get l 4 = some (.int x4)) (r : mS) (e : f172_3 u s x1 x2 x3 x4 = some r), ab_Rn d 172 3 l [] (ab_hl n (mm_F s Z)) (.inl none) (ab_hl n (mm_F r Z)) := by
  intro u
  induction u with
  | zero => intro s l x1 x2 x3 x4 h0 h1 h2 h3 h4 r e; rw [f172_3] at e; cases e
  | succ u ih =>
    intro s l x1 x2 x3 x4 h0 h1 h2 h3 h4 r e
    rw [f172_3] at e
    refine r_iload (pc := 3) p172 k172_3 h4 ?_
    refine r_iload_n (pc := 5) p172 k172_5 h3 ?_
    refine r_ic_ge (pc := 6) p172 k172_6 (fun c => ?_) (fun c => ?_)
    · have e := (if_pos c).symm.trans e
      cases e
      exact r_retV (pc := 32) p172 k172_32 rfl
    · have e := (if_neg c).symm.trans e
      refine r_aload_n (pc := 9) p172 k172_9 h0 ?_
      refine m_get hn (pc := 10) p172 k172_10 (v := .ref 27) rfl ?_
      refine r_iload_n (pc := 13) p172 k172_13 h1 ?_
      refine r_iload (pc := 14) p172 k172_14 h4 ?_
      refine r_iadd (pc := 16) p172 k172_16 ?_
      refine r_iload_n (pc := 17) p172 k172_17 h2 ?_
      refine r_bipush (pc := 18) p172 k172_18 (v := (8 : Int32)) rfl ?_
      refine r_iload (pc := 20) p172 k172_20 h4 ?_
      refine r_imul (pc := 22) p172 k172_22 ?_
      refine r_ishr (pc := 23) p172 k172_23 ?_
      refine r_i2b (pc := 24) p172 k172_24 ?_
      obtain ⟨c, e⟩ := of_if e
      refine m_bst hn rfl (pc := 25) p172 k172_25 (k := 6) rfl (mm_arr6 _ Z) c ?_
      refine r_iinc (pc := 26) p172 k172_26 h4 (by decide) (v := (x4 + (1 : Int32))) rfl (fun l g h4 => ?_)
      have h0 := g 0 _ (by decide) h0 (Or.inl rfl)
      have h1 := g 1 _ (by decide) h1 (Or.inl rfl)
      have h2 := g 2 _ (by decide) h2 (Or.inl rfl)
      have h3 := g 3 _ (by decide) h3 (Or.inl rfl)
      refine r_goto (pc := 29) p172 k172_29 ?_
      exact ih (mb s 6 (x1 + x4) (x2 >>> (((8 : Int32) * x4) &&& 31)).toInt8.toInt32.toInt8.toInt32) l x1 x2 x3 (x4 + (1 : Int32)) h0 h1 h2 h3 h4 r e
def f172 (s : mS) (x1 : Int32) (x2 : Int32) (x3 : Int32) : Option mS := f172_3 mm_U s x1 x2 x3 (0 : Int32)
theorem t172 {d n : Nat} {Z : Nat → ab_C} (hn : 42 ≤ n) (s : mS) (x1 : Int32) (x2 : Int32) (x3 : Int32) (r : mS) (e : f172 s x1 x2 x3 = some r) : ab_Rn d 172 0 (lv_args 0 [.ref 22, .int x1, .int x2, .int x3]) [] (ab_hl n (mm_F s Z)) (.inl none) (ab_hl n (mm_F r Z)) := by
  unfold f172 at e
  obtain ⟨l, hl⟩ : ∃ l, l = (lv_args 0 [.ref 22, .int x1, .int x2, .int x3]) := ⟨_, rfl⟩
  rw [← hl]
  have h0 : ab_get l 0 = some (.ref 22) := by rw [hl]; rfl
  have h1 : ab_get l 1 = some (.int x1) := by rw [hl]; rfl
  have h2 : ab_get l 2 = some (.int x2) := by rw [hl]; rfl
  have h3 : ab_get l 3 = some (.int x3) := by rw [hl]; rfl
  refine r_iconst (pc := 0) p172 k172_0 (v := (0 : Int32)) rfl ?_
  refine r_istore (pc := 1) p172 k172_1 (by decide) (fun l g h4 => ?_)
  have h0 := g 0 _ (by decide) h0 (Or.inl rfl)
  have h1 := g 1 _ (by decide) h1 (Or.inl rfl)
  have h2 := g 2 _ (by decide) h2 (Or.inl rfl)
  have h3 := g 3 _ (by decide) h3 (Or.inl rfl)
  exact t172_3 hn mm_U s l x1 x2 x3 (0 : Int32) h0 h1 h2 h3 h4 r e

theorem p173 : ab_prog[173]? = some (ab_m173, ab_c173) := rfl
theorem k173_0 : ab_fetch ab_c173 0 = some (.iconst 0, 1, 0, 0) := rfl
theorem k173_1 : ab_fetch ab_c173 1 = some (.istore 6, 2, 0, 0) := rfl
theorem k173_3 : ab_fetch ab_c173 3 = some (.iload 6, 2, 0, 0) := rfl
theorem k173_5 : ab_fetch ab_c173 5 = some (.bipush 8, 2, 0, 0) := rfl
theorem k173_7 : ab_fetch ab_c173 7 = some (.if_icmp .ge 82, 3, 89, 0) := rfl
theorem k173_10 : ab_fetch ab_c173 10 = some (.aload_n 0, 1, 0, 0) := rfl
theorem k173_11 : ab_fetch ab_c173 11 = some (.bipush 52, 2, 0, 0) := rfl
theorem k173_13 : ab_fetch ab_c173 13 = some (.bipush 32, 2, 0, 0) := rfl
theorem k173_15 : ab_fetch ab_c173 15 = some (.iload_n 1, 1, 0, 0) := rfl
theorem k173_16 : ab_fetch ab_c173 16 = some (.imul, 1, 0, 0) := rfl
theorem k173_17 : ab_fetch ab_c173 17 = some (.iadd, 1, 0, 0) := rfl
theorem k173_18 : ab_fetch ab_c173 18 = some (.iconst 4, 1, 0, 0) := rfl
theorem k173_19 : ab_fetch ab_c173 19 = some (.iload 6, 2, 0, 0) := rfl
theorem k173_21 : ab_fetch ab_c173 21 = some (.imul, 1, 0, 0) := rfl
theorem k173_22 : ab_fetch ab_c173 22 = some (.iadd, 1, 0, 0) := rfl
theorem k173_23 : ab_fetch ab_c173 23 = some (.iload 6, 2, 0, 0) := rfl
theorem k173_25 : ab_fetch ab_c173 25 = some (.ifCond .ne 7, 3, 32, 0) := rfl
theorem k173_28 : ab_fetch ab_c173 28 = some (.iconst 1, 1, 0, 0) := rfl
theorem k173_29 : ab_fetch ab_c173 29 = some (.goto 50, 3, 79, 0) := rfl
theorem k173_32 : ab_fetch ab_c173 32 = some (.iload 6, 2, 0, 0) := rfl
theorem k173_34 : ab_fetch ab_c173 34 = some (.iconst 1, 1, 0, 0) := rfl
theorem k173_35 : ab_fetch ab_c173 35 = some (.if_icmp .ne 7, 3, 42, 0) := rfl
theorem k173_38 : ab_fetch ab_c173 38 = some (.iload_n 2, 1, 0, 0) := rfl
theorem k173_39 : ab_fetch ab_c173 39 = some (.goto 40, 3, 79, 0) := rfl
theorem k173_42 : ab_fetch ab_c173 42 = some (.iload 6, 2, 0, 0) := rfl
theorem k173_44 : ab_fetch ab_c173 44 = some (.iconst 4, 1, 0, 0) := rfl
theorem k173_45 : ab_fetch ab_c173 45 = some (.if_icmp .ge 7, 3, 52, 0) := rfl
theorem k173_48 : ab_fetch ab_c173 48 = some (.iload_n 3, 1, 0, 0) := rfl
theorem k173_49 : ab_fetch ab_c173 49 = some (.goto 30, 3, 79, 0) := rfl
theorem k173_52 : ab_fetch ab_c173 52 = some (.iload 6, 2, 0, 0) := rfl
theorem k173_54 : ab_fetch ab_c173 54 = some (.bipush 6, 2, 0, 0) := rfl
theorem k173_56 : ab_fetch ab_c173 56 = some (.if_icmp .ge 8, 3, 64, 0) := rfl
theorem k173_59 : ab_fetch ab_c173 59 = some (.iload 4, 2, 0, 0) := rfl
theorem k173_61 : ab_fetch ab_c173 61 = some (.goto 18, 3, 79, 0) := rfl
theorem k173_64 : ab_fetch ab_c173 64 = some (.iload 6, 2, 0, 0) := rfl
theorem k173_66 : ab_fetch ab_c173 66 = some (.bipush 6, 2, 0, 0) := rfl
theorem k173_68 : ab_fetch ab_c173 68 = some (.if_icmp .ne 8, 3, 76, 0) := rfl
theorem k173_71 : ab_fetch ab_c173 71 = some (.iload 5, 2, 0, 0) := rfl
theorem k173_73 : ab_fetch ab_c173 73 = some (.goto 6, 3, 79, 0) := rfl
theorem k173_76 : ab_fetch ab_c173 76 = some (.sipush 4096, 3, 0, 0) := rfl
theorem k173_79 : ab_fetch ab_c173 79 = some (.iconst 4, 1, 0, 0) := rfl
theorem k173_80 : ab_fetch ab_c173 80 = some (.invokevirtual 563, 3, 172, 3) := rfl
theorem k173_83 : ab_fetch ab_c173 83 = some (.iinc 6 1, 3, 0, 0) := rfl
theorem k173_86 : ab_fetch ab_c173 86 = some (.goto (-83), 3, 3, 0) := rfl
theorem k173_89 : ab_fetch ab_c173 89 = some (.return_, 1, 0, 0) := rfl
/- CodeSmithModel part(IIIII)V -/
def f173_79 (q3 : mS → Int32 → Int32 → Int32 → Int32 → Int32 → Int32 → Option mS) (s : mS) (x1 : Int32) (x2 : Int32) (x3 : Int32) (x4 : Int32) (x5 : Int32) (x6 : Int32) (y0 : Int32) (y1 : Int32) : Option mS := ((f172 s y1 y0 (4 : Int32)).bind fun r1 => q3 r1 x1 x2 x3 x4 x5 (x6 + (1 : Int32)))
theorem t173_79 {d n : Nat} {Z : Nat → ab_C} (hn : 42 ≤ n) (q3 : mS → Int32 → Int32 → Int32 → Int32 → Int32 → Int32 → Option mS) (hq3 : ∀ (s : mS) (l : ab_L) (x1 : Int32) (x2 : Int32) (x3 : Int32) (x4 : Int32) (x5 : Int32) (x6 : Int32) (h0 : ab_get l 0 = some (.ref 22)) (h1 : ab_get l 1 = some (.int x1)) (h2 : ab_get l 2 = some (.int x2)) (h3 : ab_get l 3 = some (.int x3)) (h4 : ab_get l 4 = some (.int x4)) (h5 : ab_get l 5 = some (.int x5)) (h6 : ab_get l 6 = some (.int x6)) (r : mS) (e : q3 s x1 x2 x3 x4 x5 x6 = some r), ab_Rn (d + 1) 173 3 l [] (ab_hl n (mm_F s Z)) (.inl none) (ab_hl n (mm_F r Z))) : ∀ (s : mS) (l : ab_L) (x1 : Int32) (x2 : Int32) (x3 : Int32) (x4 : Int32) (x5 : Int32) (x6 : Int32) (y0 : Int32) (y1 : Int32) (h0 : ab_get l 0 = some (.ref 22)) (h1 : ab_get l 1 = some (.int x1)) (h2 : ab_get l 2 = some (.int x2)) (h3 : ab_get l 3 = some (.int x3)) (h4 : ab_get l 4 = some (.int x4)) (h5 : ab_get l 5 = some (.int x5)) (h6 : ab_get l 6 = some (.int x6)) (r : mS) (e : f173_79 q3 s x1 x2 x3 x4 x5 x6 y0 y1 = some r), ab_Rn (d + 1) 173 79 l [.int y0, .int y1, .ref 22] (ab_hl n (mm_F s Z)) (.inl none) (ab_hl n (mm_F r Z)) := by
  intro s l x1 x2 x3 x4 x5 x6 y0 y1 h0 h1 h2 h3 h4 h5 h6 r e
  unfold f173_79 at e
  refine r_iconst (pc := 79) p173 k173_79 (v := (4 : Int32)) rfl ?_
  obtain ⟨r1, er1, e⟩ := of_bind e
  refine m_cv hn (pc := 80) p173 k173_80 rfl p172 (r := []) rfl rfl rfl rfl rfl (t172 hn s y1 y0 (4 : Int32) r1 er1) (w := []) rfl ?_
  refine r_iinc (pc := 83) p173 k173_83 h6 (by decide) (v := (x6 + (1 : Int32))) rfl (fun l g h6 => ?_)
  have h0 := g 0 _ (by decide) h0 (Or.inl rfl)
  have h1 := g 1 _ (by decide) h1 (Or.inl rfl)
  have h2 := g 2 _ (by decide) h2 (Or.inl rfl)
  have h3 := g 3 _ (by decide) h3 (Or.inl rfl)
  have h4 := g 4 _ (by decide) h4 (Or.inl rfl)
  have h5 := g 5 _ (by decide) h5 (Or.inl rfl)
  refine r_goto (pc := 86) p173 k173_86 ?_
  exact hq3 r1 l x1 x2 x3 x4 x5 (x6 + (1 : Int32)) h0 h1 h2 h3 h4 h5 h6 r e
def f173_3 : Nat → mS → Int32 → Int32 → Int32 → Int32 → Int32 → Int32 → Option mS
  | 0, _, _, _, _, _, _, _ => none
  | u + 1, s, x1, x2, x3, x4, x5, x6 => (if (8 : Int32) ≤ x6 then some s else (if x6 = 0 then f173_79 (f173_3 u) s x1 x2 x3 x4 x5 x6 (1 : Int32) (((52 : Int32) + ((32 : Int32) * x1)) + ((4 : Int32) * x6)) else (if x6 = (1 : Int32) then f173_79 (f173_3 u) s x1 x2 x3 x4 x5 x6 x2 (((52 : Int32) + ((32 : Int32) * x1)) + ((4 : Int32) * x6)) else (if (4 : Int32) ≤ x6 then (if (6 : Int32) ≤ x6 then (if x6 = (6 : Int32) then f173_79 (f173_3 u) s x1 x2 x3 x4 x5 x6 x5 (((52 : Int32) + ((32 : Int32) * x1)) + ((4 : Int32) * x6)) else f173_79 (f173_3 u) s x1 x2 x3 x4 x5 x6 (4096 : Int32) (((52 : Int32) + ((32 : Int32) * x1)) + ((4 : Int32) * x6))) else f173_79 (f173_3 u) s x1 x2 x3 x4 x5 x6 x4 (((52 : Int32) + ((32 : Int32) * x1)) + ((4 : Int32) * x6))) else f173_79 (f173_3 u) s x1 x2 x3 x4 x5 x6 x3 (((52 : Int32) + ((32 : Int32) * x1)) + ((4 : Int32) * x6))))))
theorem t173_3 {d n : Nat} {Z : Nat → ab_C} (hn : 42 ≤ n) : ∀ u : Nat, ∀ (s : mS) (l : ab_L) (x1 : Int32) (x2 : Int32) (x3 : Int32) (x4 : Int32) (x5 : Int32) (x6 : Int32) (h0 : ab_get l 0 = some (.ref 22)) (h1 : ab_get l 1 = some (.int x1)) (h2 : ab_get l 2 = some (.int x2)) (h3 : ab_get l 3 = some (.int x3)) (h4 : ab_get l 4 = some (.int x4)) (h5 : ab_get l 5 = some (.int x5)) (h6 : ab_get l 6 = some (.int x6)) (r : mS) (e : f173_3 u s x1 x2 x3 x4 x5 x6 = some r), ab_Rn (d + 1) 173 3 l [] (ab_hl n (mm_F s Z)) (.inl none) (ab_hl n (mm_F r Z)) := by
  intro u
  induction u with
  | zero => intro s l x1 x2 x3 x4 x5 x6 h0 h1 h2 h3 h4 h5 h6 r e; rw [f173_3] at e; cases e
  | succ u ih =>
    intro s l x1 x2 x3 x4 x5 x6 h0 h1 h2 h3 h4 h5 h6 r e
    rw [f173_3] at e
    refine r_iload (pc := 3) p173 k173_3 h6 ?_
    refine r_bipush (pc := 5) p173 k173_5 (v := (8 : Int32)) rfl ?_
    refine r_ic_ge (pc := 7) p173 k173_7 (fun c => ?_) (fun c => ?_)
    · have e := (if_pos c).symm.trans e
      cases e
      exact r_retV (pc := 89) p173 k173_89 rfl
    · have e := (if_neg c).symm.trans e
      refine r_aload_n (pc := 10) p173 k173_10 h0 ?_
      refine r_bipush (pc := 11) p173 k173_11 (v := (52 : Int32)) rfl ?_
      refine r_bipush (pc := 13) p173 k173_13 (v := (32 : Int32)) rfl ?_
      refine r_iload_n (pc := 15) p173 k173_15 h1 ?_
      refine r_imul (pc := 16) p173 k173_16 ?_
      refine r_iadd (pc := 17) p173 k173_17 ?_
      refine r_iconst (pc := 18) p173 k173_18 (v := (4 : Int32)) rfl ?_
      refine r_iload (pc := 19) p173 k173_19 h6 ?_
      refine r_imul (pc := 21) p173 k173_21 ?_
      refine r_iadd (pc := 22) p173 k173_22 ?_
      refine r_iload (pc := 23) p173 k173_23 h6 ?_
      refine r_if_ne (pc := 25) p173 k173_25 (fun c => ?_) (fun c => ?_)
      · have e := (if_neg c).symm.trans e
        refine r_iload (pc := 32) p173 k173_32 h6 ?_
        refine r_iconst (pc := 34) p173 k173_34 (v := (1 : Int32)) rfl ?_
        refine r_ic_ne (pc := 35) p173 k173_35 (fun c => ?_) (fun c => ?_)
        · have e := (if_neg c).symm.trans e
          refine r_iload (pc := 42) p173 k173_42 h6 ?_
          refine r_iconst (pc := 44) p173 k173_44 (v := (4 : Int32)) rfl ?_
          refine r_ic_ge (pc := 45) p173 k173_45 (fun c => ?_) (fun c => ?_)
          · have e := (if_pos c).symm.trans e
            refine r_iload (pc := 52) p173 k173_52 h6 ?_
            refine r_bipush (pc := 54) p173 k173_54 (v := (6 : Int32)) rfl ?_
            refine r_ic_ge (pc := 56) p173 k173_56 (fun c => ?_) (fun c => ?_)
            · have e := (if_pos c).symm.trans e
              refine r_iload (pc := 64) p173 k173_64 h6 ?_
              refine r_bipush (pc := 66) p173 k173_66 (v := (6 : Int32)) rfl ?_
              refine r_ic_ne (pc := 68) p173 k173_68 (fun c => ?_) (fun c => ?_)
              · have e := (if_neg c).symm.trans e
                refine r_sipush (pc := 76) p173 k173_76 (v := (4096 : Int32)) rfl ?_
                exact t173_79 hn (f173_3 u) ih s l x1 x2 x3 x4 x5 x6 (4096 : Int32) (((52 : Int32) + ((32 : Int32) * x1)) + ((4 : Int32) * x6)) h0 h1 h2 h3 h4 h5 h6 r e
              · have e := (if_pos c).symm.trans e
                refine r_iload (pc := 71) p173 k173_71 h5 ?_
                refine r_goto (pc := 73) p173 k173_73 ?_
                exact t173_79 hn (f173_3 u) ih s l x1 x2 x3 x4 x5 x6 x5 (((52 : Int32) + ((32 : Int32) * x1)) + ((4 : Int32) * x6)) h0 h1 h2 h3 h4 h5 h6 r e
            · have e := (if_neg c).symm.trans e
              refine r_iload (pc := 59) p173 k173_59 h4 ?_
              refine r_goto (pc := 61) p173 k173_61 ?_
              exact t173_79 hn (f173_3 u) ih s l x1 x2 x3 x4 x5 x6 x4 (((52 : Int32) + ((32 : Int32) * x1)) + ((4 : Int32) * x6)) h0 h1 h2 h3 h4 h5 h6 r e
          · have e := (if_neg c).symm.trans e
            refine r_iload_n (pc := 48) p173 k173_48 h3 ?_
            refine r_goto (pc := 49) p173 k173_49 ?_
            exact t173_79 hn (f173_3 u) ih s l x1 x2 x3 x4 x5 x6 x3 (((52 : Int32) + ((32 : Int32) * x1)) + ((4 : Int32) * x6)) h0 h1 h2 h3 h4 h5 h6 r e
        · have e := (if_pos c).symm.trans e
          refine r_iload_n (pc := 38) p173 k173_38 h2 ?_
          refine r_goto (pc := 39) p173 k173_39 ?_
          exact t173_79 hn (f173_3 u) ih s l x1 x2 x3 x4 x5 x6 x2 (((52 : Int32) + ((32 : Int32) * x1)) + ((4 : Int32) * x6)) h0 h1 h2 h3 h4 h5 h6 r e
      · have e := (if_pos c).symm.trans e
        refine r_iconst (pc := 28) p173 k173_28 (v := (1 : Int32)) rfl ?_
        refine r_goto (pc := 29) p173 k173_29 ?_
        exact t173_79 hn (f173_3 u) ih s l x1 x2 x3 x4 x5 x6 (1 : Int32) (((52 : Int32) + ((32 : Int32) * x1)) + ((4 : Int32) * x6)) h0 h1 h2 h3 h4 h5 h6 r e
def f173 (s : mS) (x1 : Int32) (x2 : Int32) (x3 : Int32) (x4 : Int32) (x5 : Int32) : Option mS := f173_3 mm_U s x1 x2 x3 x4 x5 (0 : Int32)
theorem t173 {d n : Nat} {Z : Nat → ab_C} (hn : 42 ≤ n) (s : mS) (x1 : Int32) (x2 : Int32) (x3 : Int32) (x4 : Int32) (x5 : Int32) (r : mS) (e : f173 s x1 x2 x3 x4 x5 = some r) : ab_Rn (d + 1) 173 0 (lv_args 0 [.ref 22, .int x1, .int x2, .int x3, .int x4, .int x5]) [] (ab_hl n (mm_F s Z)) (.inl none) (ab_hl n (mm_F r Z)) := by
  unfold f173 at e
  obtain ⟨l, hl⟩ : ∃ l, l = (lv_args 0 [.ref 22, .int x1, .int x2, .int x3, .int x4, .int x5]) := ⟨_, rfl⟩
  rw [← hl]
  have h0 : ab_get l 0 = some (.ref 22) := by rw [hl]; rfl
  have h1 : ab_get l 1 = some (.int x1) := by rw [hl]; rfl
  have h2 : ab_get l 2 = some (.int x2) := by rw [hl]; rfl
  have h3 : ab_get l 3 = some (.int x3) := by rw [hl]; rfl
  have h4 : ab_get l 4 = some (.int x4) := by rw [hl]; rfl
  have h5 : ab_get l 5 = some (.int x5) := by rw [hl]; rfl
  refine r_iconst (pc := 0) p173 k173_0 (v := (0 : Int32)) rfl ?_
  refine r_istore (pc := 1) p173 k173_1 (by decide) (fun l g h6 => ?_)
  have h0 := g 0 _ (by decide) h0 (Or.inl rfl)
  have h1 := g 1 _ (by decide) h1 (Or.inl rfl)
  have h2 := g 2 _ (by decide) h2 (Or.inl rfl)
  have h3 := g 3 _ (by decide) h3 (Or.inl rfl)
  have h4 := g 4 _ (by decide) h4 (Or.inl rfl)
  have h5 := g 5 _ (by decide) h5 (Or.inl rfl)
  exact t173_3 hn mm_U s l x1 x2 x3 x4 x5 (0 : Int32) h0 h1 h2 h3 h4 h5 h6 r e
