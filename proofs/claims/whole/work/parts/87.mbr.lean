/-! THE REFERENCE's instructions: memory, branches, jumps, the others. -/
section MJ
variable {m : mS} {B : Nat → Nat} {tl z ln : Nat} {tb : List Sy} {base here : Int32} {ag : Bool} {P : Ps} {d : Rx (List Tk)}
theorem f16_hi {x : Nat} {y0 : Int32} (h1 : 27 ≤ x) (h2 : x < 83) : f138_16 m (nn x) y0 = (if x < 35 then ((f139 m).bind fun r1 => ((f161 r1.2).bind fun r2 => (if 32 ≤ x then f138_244 r2.2 (((((((r2.1 >>> ((5 : Int32) &&& 31)) <<< ((25 : Int32) &&& 31)) ||| (r1.1 <<< ((20 : Int32) &&& 31))) ||| ((r2.2.1 47) <<< ((15 : Int32) &&& 31))) ||| (y0 <<< ((12 : Int32) &&& 31))) ||| ((r2.1 &&& (31 : Int32)) <<< ((7 : Int32) &&& 31))) ||| (35 : Int32)) else f138_244 r2.2 (f160 r2.1 (r2.2.1 47) y0 r1.1 (3 : Int32))))) else if x < 51 then ((f139 m).bind fun r1 => (if 45 ≤ x then f138_276 r1.2 (nn x) y0 r1.1 (0 : Int32) else ((f139 r1.2).bind fun r2 => f138_276 r2.2 (nn x) y0 r1.1 r2.1))) else f138_16 m (nn x) y0) := by
  by_cases c1 : x < 35
  · rw [if_pos c1]
    unfold f138_16
    rw [show (18 : Int32) = nn 18 from rfl, nn_le2 (by omega) (by omega), if_pos (by omega), show (27 : Int32) = nn 27 from rfl, nn_le2 (by omega) (by omega), if_pos (by omega), show (35 : Int32) = nn 35 from rfl, nn_le2 (by omega) (by omega), if_neg (by omega)]
    have : ∀ {α : Type} (A C : α), (if (32 : Int32) ≤ nn x then A else C) = if 32 ≤ x then A else C := fun A C => by rw [show (32 : Int32) = nn 32 from rfl, nn_le2 (by omega) (by omega)]
    simp only [this]
  · rw [if_neg c1]
    by_cases c2 : x < 51
    · rw [if_pos c2]
      unfold f138_16
      rw [show (18 : Int32) = nn 18 from rfl, nn_le2 (by omega) (by omega), if_pos (by omega), show (27 : Int32) = nn 27 from rfl, nn_le2 (by omega) (by omega), if_pos (by omega), show (35 : Int32) = nn 35 from rfl, nn_le2 (by omega) (by omega), if_pos (by omega), show (51 : Int32) = nn 51 from rfl, nn_le2 (by omega) (by omega), if_neg (by omega)]
      have : ∀ {α : Type} (A C : α), (if (45 : Int32) ≤ nn x then A else C) = if 45 ≤ x then A else C := fun A C => by rw [show (45 : Int32) = nn 45 from rfl, nn_le2 (by omega) (by omega)]
      simp only [this]
    · rw [if_neg c2]
theorem fin4b {m1 : mS} {d' : Rx (List Tk)} (C : MCX m1 B tl z tb ln base here ag P) (M : MSx m1 B z d') (hr : ag = true → sEnd P + 4 ≤ 65420) (v : Int32) : ∃ m', ((f144 m1 v 4).bind fun r => some r) = some m' ∧ FR [] [35, 36] m1 m' ∧ MSx m' B z d' ∧ PSm m' ag P (le v 4 0) := by
  obtain ⟨m', a1, a2⟩ := fin4 C M hr v
  exact ⟨m', by rw [a1]; rfl, a2⟩
/-- loads: d,e(a) -/
theorem i_C {x : Nat} (h1 : 27 ≤ x) (h2 : x < 32) (y0 : Int32) (C : MCX m B tl z tb ln base here ag P) (h37 : m.1 37 = 0) (hr : ag = true → sEnd P + 4 ≤ 65420) (o0 : Op) (ho : o0.2.2.2.1 = 0) (M : MSx m B z d) : ∃ m' o d' v, f138_16 m (nn x) y0 = some m' ∧ IRX m m' B z (B, tb, ln, base, here, if ag = true then 2 else 1) [100, 44, 101, 40, 97, 41] o0 d o d' ag P (f160 v o.2.1 y0 o.1 3) ∧ o.2.2.1 = o0.2.2.1 ∧ (ag = true → v = o.2.2.2.1) ∧ m'.1 37 = if ag = true ∧ (v < -2048 ∨ (2047 : Int32) < v) then 1 else 0 := by
  obtain ⟨v1, m1, d1, e1, a1, a2, a3, a4, a5⟩ := m_139 (MCX_Y C) M
  have C1 := MCX_fr (fq a2) C
  obtain ⟨v, v', e', m2, e2, b1, b2, b3, b4, b5, b6⟩ := m_161 (o := (v1, o0.2)) ho [] C1 (by rw [a2.1 37 (by decide)]; exact h37) a3
  have C2 := MCX_fr b2 C1
  obtain ⟨m5, g1, g2, g3, g4⟩ := fin4b C2 b3 hr (f160 v (m2.1 47) y0 v1 3)
  refine ⟨m5, (v1, m2.1 47, o0.2.2.1, v', e'), e2, v, ?_, ⟨FR_trans (FR_mono a2 (by decide) (by decide)) (FR_trans (FR_mono b2 (by decide) (by decide)) (FR_mono g2 (by decide) (by decide))), g3, ?_, g4⟩, rfl, b6, by rw [g2.1 37 (by decide)]; exact b4⟩
  · rw [f16_hi h1 (by omega), if_pos (by omega), a1, Option.bind_some, b1, Option.bind_some, if_neg (by omega)]
    exact g1
  · have t1 : xD (xOps (B, tb, ln, base, here, if ag = true then 2 else 1) [100, 44, 101, 40, 97, 41] o0) d = xD (xOps (B, tb, ln, base, here, if ag = true then 2 else 1) [101, 40, 97, 41] (v1, o0.2)) e1 := (ops_d (E := (B, tb, ln, base, here, if ag = true then 2 else 1)) (ps := [44, 101, 40, 97, 41]) (o := o0) a4).trans (ops_s (k := 44) (ps := [101, 40, 97, 41]) (o := (v1, o0.2)) (Or.inl rfl) a5)
    rw [t1, b5]
    exact ops_0
/-- stores: b,e(a) -/
theorem i_S {x : Nat} (h1 : 32 ≤ x) (h2 : x < 35) (y0 : Int32) (C : MCX m B tl z tb ln base here ag P) (h37 : m.1 37 = 0) (hr : ag = true → sEnd P + 4 ≤ 65420) (o0 : Op) (ho : o0.2.2.2.1 = 0) (M : MSx m B z d) : ∃ m' o d' v, f138_16 m (nn x) y0 = some m' ∧ IRX m m' B z (B, tb, ln, base, here, if ag = true then 2 else 1) [98, 44, 101, 40, 97, 41] o0 d o d' ag P (((((((v >>> ((5 : Int32) &&& 31)) <<< ((25 : Int32) &&& 31)) ||| (o.2.2.1 <<< ((20 : Int32) &&& 31))) ||| (o.2.1 <<< ((15 : Int32) &&& 31))) ||| (y0 <<< ((12 : Int32) &&& 31))) ||| ((v &&& (31 : Int32)) <<< ((7 : Int32) &&& 31))) ||| (35 : Int32)) ∧ o.1 = o0.1 ∧ (ag = true → v = o.2.2.2.1) ∧ m'.1 37 = if ag = true ∧ (v < -2048 ∨ (2047 : Int32) < v) then 1 else 0 := by
  obtain ⟨v1, m1, d1, e1, a1, a2, a3, a4, a5⟩ := m_139 (MCX_Y C) M
  have C1 := MCX_fr (fq a2) C
  obtain ⟨v, v', e', m2, e2, b1, b2, b3, b4, b5, b6⟩ := m_161 (o := (o0.1, o0.2.1, v1, o0.2.2.2)) ho [] C1 (by rw [a2.1 37 (by decide)]; exact h37) a3
  have C2 := MCX_fr b2 C1
  obtain ⟨m5, g1, g2, g3, g4⟩ := fin4b C2 b3 hr (((((((v >>> ((5 : Int32) &&& 31)) <<< ((25 : Int32) &&& 31)) ||| (v1 <<< ((20 : Int32) &&& 31))) ||| ((m2.1 47) <<< ((15 : Int32) &&& 31))) ||| (y0 <<< ((12 : Int32) &&& 31))) ||| ((v &&& (31 : Int32)) <<< ((7 : Int32) &&& 31))) ||| (35 : Int32))
  refine ⟨m5, (o0.1, m2.1 47, v1, v', e'), e2, v, ?_, ⟨FR_trans (FR_mono a2 (by decide) (by decide)) (FR_trans (FR_mono b2 (by decide) (by decide)) (FR_mono g2 (by decide) (by decide))), g3, ?_, g4⟩, rfl, b6, by rw [g2.1 37 (by decide)]; exact b4⟩
  · rw [f16_hi (by omega) (by omega), if_pos (by omega), a1, Option.bind_some, b1, Option.bind_some, if_pos (by omega)]
    exact g1
  · have t1 : xD (xOps (B, tb, ln, base, here, if ag = true then 2 else 1) [98, 44, 101, 40, 97, 41] o0) d = xD (xOps (B, tb, ln, base, here, if ag = true then 2 else 1) [101, 40, 97, 41] (o0.1, o0.2.1, v1, o0.2.2.2)) e1 := (ops_b (E := (B, tb, ln, base, here, if ag = true then 2 else 1)) (ps := [44, 101, 40, 97, 41]) (o := o0) a4).trans (ops_s (k := 44) (ps := [101, 40, 97, 41]) (o := (o0.1, o0.2.1, v1, o0.2.2.2)) (Or.inl rfl) a5)
    rw [t1, b5]
    exact ops_0
/-- odd, or too far -/
def far (v h lo hi : Int32) : Prop := (v - h) < lo ∨ hi < (v - h) ∨ ¬ (v - h) - (v - h) / 2 * 2 = 0
def bBr (f3 a b r : Int32) : Int32 := ((((((((((r >>> ((12 : Int32) &&& 31)) &&& (1 : Int32)) <<< ((31 : Int32) &&& 31)) ||| (((r >>> ((5 : Int32) &&& 31)) &&& (63 : Int32)) <<< ((25 : Int32) &&& 31))) ||| (b <<< ((20 : Int32) &&& 31))) ||| (a <<< ((15 : Int32) &&& 31))) ||| (f3 <<< ((12 : Int32) &&& 31))) ||| (((r >>> ((1 : Int32) &&& 31)) &&& (15 : Int32)) <<< ((8 : Int32) &&& 31))) ||| (((r >>> ((11 : Int32) &&& 31)) &&& (1 : Int32)) <<< ((7 : Int32) &&& 31))) ||| (99 : Int32))
def bJp (rd r : Int32) : Int32 := (((((((r >>> ((20 : Int32) &&& 31)) &&& (1 : Int32)) <<< ((31 : Int32) &&& 31)) ||| (((r >>> ((1 : Int32) &&& 31)) &&& (1023 : Int32)) <<< ((21 : Int32) &&& 31))) ||| (((r >>> ((11 : Int32) &&& 31)) &&& (1 : Int32)) <<< ((20 : Int32) &&& 31))) ||| (((r >>> ((12 : Int32) &&& 31)) &&& (255 : Int32)) <<< ((12 : Int32) &&& 31))) ||| (rd <<< ((7 : Int32) &&& 31))) ||| (111 : Int32)
theorem m_163 (C : MCX m B tl z tb ln base here ag P) (h37 : m.1 37 = 0) (hr : ag = true → sEnd P + 4 ≤ 65420) (M : MSx m B z d) (f3 a b v : Int32) : ∃ m', f163 m f3 a b v = some m' ∧ FR IQ AQ m m' ∧ MSx m' B z d ∧ PSm m' ag P (le (bBr f3 a b (v - here)) 4 0) ∧ (ag = false → m'.1 37 = 0) ∧ (ag = true → (far v here (-4096) 4094 → m'.1 37 = 1) ∧ (¬ far v here (-4096) 4094 → m'.1 37 = 0)) := by
  have h19 := C.1.2.2.2.2.2.2.2
  have hh := C.2.1
  have w9 := f159_at (ag := ag) h37 h19 (v - m.1 33) (-4096) 4094
  have b0 : bz (0 : Int32) := Or.inl rfl
  have b1 : bz (1 : Int32) := Or.inr rfl
  -- the put, with either flag
  have fin : ∀ y x : Int32, ∃ m', f144 (mg (mg m 37 y) 37 x) (bBr f3 a b (v - here)) 4 = some m' ∧ FR IQ AQ m m' ∧ MSx m' B z d ∧ PSm m' ag P (le (bBr f3 a b (v - here)) 4 0) ∧ m'.1 37 = x := by
    intro y x
    have F : FR [37] [] m (mg (mg m 37 y) 37 x) := FR_g (FR_g (FR_refl _ _ _) (by decide) _) (by decide) _
    obtain ⟨m5, g1, g2, g3, g4⟩ := fin4 (MCX_fr (FR_mono F (by decide) (by decide)) C) (MSx_fr F (by decide) (by decide) M) hr (bBr f3 a b (v - here))
    exact ⟨m5, g1, FR_trans (FR_mono F (by decide) (by decide)) (FR_mono g2 (by decide) (by decide)), g3, g4, by rw [g2.1 37 (by decide)]; rfl⟩
  have e46 : ∀ y x : Int32, bz x → f163_46 (mg m 37 y) f3 a b (v - here) x = (f144 (mg (mg m 37 y) 37 x) (bBr f3 a b (v - here)) 4).bind fun r => some r := by
    intro y x hx
    unfold f163_46
    rw [if_pos hx]
    rfl
  unfold f163
  rw [w9, Option.bind_some, hh]
  show ∃ m', (if (mg m 37 _).1 37 = 0 then (if (mg m 37 _).1 19 = 0 then f163_45 (mg m 37 _) f3 a b (v - here) else (if (v - here) - (v - here) / 2 * 2 = 0 then f163_45 (mg m 37 _) f3 a b (v - here) else f163_41 (mg m 37 _) f3 a b (v - here))) else f163_41 (mg m 37 _) f3 a b (v - here)) = some m' ∧ _
  have e19 : ∀ y, (mg m 37 y).1 19 = eb ag := fun y => h19
  rw [e19]
  unfold f163_45 f163_41
  rw [e46 _ _ b0, e46 _ _ b1]
  cases ag with
  | false =>
    rw [if_neg (show ¬ (false = true ∧ (v - here < -4096 ∨ (4094 : Int32) < v - here)) from fun h => by cases h.1)]
    obtain ⟨m', g1, g2, g3, g4, g5⟩ := fin 0 0
    exact ⟨m', by rw [if_pos (show (mg m 37 0).1 37 = 0 from rfl), if_pos (show eb false = 0 from rfl), g1]; rfl, g2, g3, g4, fun _ => g5, fun h => by cases h⟩
  | true =>
    by_cases c : v - here < -4096 ∨ (4094 : Int32) < v - here
    · obtain ⟨m', g1, g2, g3, g4, g5⟩ := fin 1 1
      have hf : far v here (-4096) 4094 := by rcases c with c | c; exact Or.inl c; exact Or.inr (Or.inl c)
      refine ⟨m', ?_, g2, g3, g4, (fun h => by cases h), fun _ => ⟨fun _ => g5, fun h => absurd hf h⟩⟩
      rw [if_pos (show true = true ∧ (v - here < -4096 ∨ (4094 : Int32) < v - here) from ⟨rfl, c⟩), if_neg (show ¬ (mg m 37 1).1 37 = 0 from (by decide : ¬ (1 : Int32) = 0)), g1]
      rfl
    · rw [if_neg (show ¬ (true = true ∧ (v - here < -4096 ∨ (4094 : Int32) < v - here)) from fun h => c h.2), if_pos (show (mg m 37 0).1 37 = 0 from rfl), if_neg (show ¬ eb true = 0 by decide)]
      by_cases c2 : (v - here) - (v - here) / 2 * 2 = 0
      · obtain ⟨m', g1, g2, g3, g4, g5⟩ := fin 0 0
        have hf : ¬ far v here (-4096) 4094 := by
          intro h
          rcases h with h | h | h
          · exact c (Or.inl h)
          · exact c (Or.inr h)
          · exact h c2
        exact ⟨m', by rw [if_pos c2, g1]; rfl, g2, g3, g4, (fun h => by cases h), fun _ => ⟨fun h => absurd h hf, fun _ => g5⟩⟩
      · obtain ⟨m', g1, g2, g3, g4, g5⟩ := fin 0 1
        have hf : far v here (-4096) 4094 := Or.inr (Or.inr c2)
        exact ⟨m', by rw [if_neg c2, g1]; rfl, g2, g3, g4, (fun h => by cases h), fun _ => ⟨fun _ => g5, fun h => absurd hf h⟩⟩
theorem m_164 (C : MCX m B tl z tb ln base here ag P) (h37 : m.1 37 = 0) (hr : ag = true → sEnd P + 4 ≤ 65420) (M : MSx m B z d) (rd v : Int32) : ∃ m', f164 m rd v = some m' ∧ FR IQ AQ m m' ∧ MSx m' B z d ∧ PSm m' ag P (le (bJp rd (v - here)) 4 0) ∧ (ag = false → m'.1 37 = 0) ∧ (ag = true → (far v here (-1048576) 1048574 → m'.1 37 = 1) ∧ (¬ far v here (-1048576) 1048574 → m'.1 37 = 0)) := by
  have h19 := C.1.2.2.2.2.2.2.2
  have hh := C.2.1
  have w9 := f159_at (ag := ag) h37 h19 (v - m.1 33) (-1048576) 1048574
  have b0 : bz (0 : Int32) := Or.inl rfl
  have b1 : bz (1 : Int32) := Or.inr rfl
  have fin : ∀ y x : Int32, ∃ m', f144 (mg (mg m 37 y) 37 x) (bJp rd (v - here)) 4 = some m' ∧ FR IQ AQ m m' ∧ MSx m' B z d ∧ PSm m' ag P (le (bJp rd (v - here)) 4 0) ∧ m'.1 37 = x := by
    intro y x
    have F : FR [37] [] m (mg (mg m 37 y) 37 x) := FR_g (FR_g (FR_refl _ _ _) (by decide) _) (by decide) _
    obtain ⟨m5, g1, g2, g3, g4⟩ := fin4 (MCX_fr (FR_mono F (by decide) (by decide)) C) (MSx_fr F (by decide) (by decide) M) hr (bJp rd (v - here))
    exact ⟨m5, g1, FR_trans (FR_mono F (by decide) (by decide)) (FR_mono g2 (by decide) (by decide)), g3, g4, by rw [g2.1 37 (by decide)]; rfl⟩
  have e46 : ∀ y x : Int32, bz x → f164_43 (mg m 37 y) rd (v - here) x = (f144 (mg (mg m 37 y) 37 x) (bJp rd (v - here)) 4).bind fun r => some r := by
    intro y x hx
    unfold f164_43
    rw [if_pos hx]
    rfl
  unfold f164
  rw [w9, Option.bind_some, hh]
  show ∃ m', (if (mg m 37 _).1 37 = 0 then (if (mg m 37 _).1 19 = 0 then f164_42 (mg m 37 _) rd (v - here) else (if (v - here) - (v - here) / 2 * 2 = 0 then f164_42 (mg m 37 _) rd (v - here) else f164_38 (mg m 37 _) rd (v - here))) else f164_38 (mg m 37 _) rd (v - here)) = some m' ∧ _
  have e19 : ∀ y, (mg m 37 y).1 19 = eb ag := fun y => h19
  rw [e19]
  unfold f164_42 f164_38
  rw [e46 _ _ b0, e46 _ _ b1]
  cases ag with
  | false =>
    rw [if_neg (show ¬ (false = true ∧ (v - here < -1048576 ∨ (1048574 : Int32) < v - here)) from fun h => by cases h.1)]
    obtain ⟨m', g1, g2, g3, g4, g5⟩ := fin 0 0
    exact ⟨m', by rw [if_pos (show (mg m 37 0).1 37 = 0 from rfl), if_pos (show eb false = 0 from rfl), g1]; rfl, g2, g3, g4, fun _ => g5, fun h => by cases h⟩
  | true =>
    by_cases c : v - here < -1048576 ∨ (1048574 : Int32) < v - here
    · obtain ⟨m', g1, g2, g3, g4, g5⟩ := fin 1 1
      have hf : far v here (-1048576) 1048574 := by rcases c with c | c; exact Or.inl c; exact Or.inr (Or.inl c)
      refine ⟨m', ?_, g2, g3, g4, (fun h => by cases h), fun _ => ⟨fun _ => g5, fun h => absurd hf h⟩⟩
      rw [if_pos (show true = true ∧ (v - here < -1048576 ∨ (1048574 : Int32) < v - here) from ⟨rfl, c⟩), if_neg (show ¬ (mg m 37 1).1 37 = 0 from (by decide : ¬ (1 : Int32) = 0)), g1]
      rfl
    · rw [if_neg (show ¬ (true = true ∧ (v - here < -1048576 ∨ (1048574 : Int32) < v - here)) from fun h => c h.2), if_pos (show (mg m 37 0).1 37 = 0 from rfl), if_neg (show ¬ eb true = 0 by decide)]
      by_cases c2 : (v - here) - (v - here) / 2 * 2 = 0
      · obtain ⟨m', g1, g2, g3, g4, g5⟩ := fin 0 0
        have hf : ¬ far v here (-1048576) 1048574 := by
          intro h
          rcases h with h | h | h
          · exact c (Or.inl h)
          · exact c (Or.inr h)
          · exact h c2
        exact ⟨m', by rw [if_pos c2, g1]; rfl, g2, g3, g4, (fun h => by cases h), fun _ => ⟨fun h => absurd h hf, fun _ => g5⟩⟩
      · obtain ⟨m', g1, g2, g3, g4, g5⟩ := fin 0 1
        have hf : far v here (-1048576) 1048574 := Or.inr (Or.inr c2)
        exact ⟨m', by rw [if_neg c2, g1]; rfl, g2, g3, g4, (fun h => by cases h), fun _ => ⟨fun _ => g5, fun h => absurd hf h⟩⟩
/-- which registers a branch compares: the other way round or not -/
def sw (x : Nat) : Bool := decide ((41 ≤ x ∧ x ≤ 44) ∨ 49 ≤ x)
theorem f276_at {x : Nat} (h2 : x < 51) (y0 r1 r2 : Int32) : f138_276 m (nn x) y0 r1 r2 = if sw x = true then f138_327 m r1 r2 y0 else f138_327 m r2 r1 y0 := by
  have e0 : f138_301 m y0 r1 r2 0 = f138_327 m r2 r1 y0 := rfl
  have e1 : f138_301 m y0 r1 r2 1 = f138_327 m r1 r2 y0 := rfl
  have h290 : f138_290 m (nn x) y0 r1 r2 = if x ≤ 48 then f138_327 m r2 r1 y0 else f138_327 m r1 r2 y0 := by
    unfold f138_290 f138_296
    rw [show (48 : Int32) = nn 48 from rfl, nn_le2 (by omega) (by omega), e0, e1]
  unfold f138_276 f138_296
  have lt45 : ∀ {α : Type} (A C : α), (if nn x < (45 : Int32) then A else C) = if x < 45 then A else C := fun A C => by
    have : (nn x < (45 : Int32)) = (x < 45) := propext (nn_lt (b := 45) (by omega) (by omega))
    simp only [this]
  rw [show (40 : Int32) = nn 40 from rfl, nn_le2 (by omega) (by omega), lt45, h290, e1]
  unfold sw
  by_cases c1 : x ≤ 40
  · rw [if_pos c1, if_pos (by omega), if_neg (by simp; omega)]
  · rw [if_neg c1]
    by_cases c2 : x < 45
    · rw [if_pos c2, if_pos (by simp; omega)]
    · rw [if_neg c2]
      by_cases c3 : x ≤ 48
      · rw [if_pos c3, if_neg (by simp; omega)]
      · rw [if_neg c3, if_pos (by simp; omega)]
/-- behind the registers of a branch -/
theorem i_D0 {E : Ev} (hE : E = (B, tb, ln, base, here, if ag = true then 2 else 1)) (C : MCX m B tl z tb ln base here ag P) (h37 : m.1 37 = 0) (hr : ag = true → sEnd P + 4 ≤ 65420) (o : Op) (M : MSx m B z d) (y0 a b : Int32) : ∃ m' d' v v' e', f138_327 m b a y0 = some m' ∧ FR IQ AQ m m' ∧ MSx m' B z d' ∧ xD (xOps E [101] o) d = some (pr (o.1, o.2.1, o.2.2.1, v', e') d') ∧ (ag = true → v = v') ∧ PSm m' ag P (le (bBr y0 a b (v - here)) 4 0) ∧ (ag = false → m'.1 37 = 0) ∧ (ag = true → (far v here (-4096) 4094 → m'.1 37 = 1) ∧ (¬ far v here (-4096) 4094 → m'.1 37 = 0)) := by
  subst hE
  obtain ⟨v, m1, d1, v', e', a1, a2, a3, a4, a5⟩ := m_145 C.1 C.2.1 o.2.2.2.2 M
  have C1 := MCX_fr (fq a2) C
  obtain ⟨m2, b1, b2, b3, b4, b5, b6⟩ := m_163 C1 (by rw [a2.1 37 (by decide)]; exact h37) hr a3 y0 a b v
  refine ⟨m2, d1, v, v', e', ?_, FR_trans (FR_mono a2 (by decide) (by decide)) b2, b3, ?_, a5, b4, b5, b6⟩
  · unfold f138_327
    rw [a1, Option.bind_some, b1]
    rfl
  · exact (ops_e (E := (B, tb, ln, base, here, if ag = true then 2 else 1)) (ps := []) (o := o) (al_no (fun p r h => by cases h)) a4).trans ops_0
end MJ
