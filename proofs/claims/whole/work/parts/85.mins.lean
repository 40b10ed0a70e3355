/-! THE REFERENCE's instructions. -/
def IQ : List Nat := 37 :: 47 :: IP
def AQ : List Nat := 35 :: 36 :: AP
/-- what an instruction of the reference finds -/
def MCX (m : mS) (B : Nat → Nat) (tl z : Nat) (tb : List Sy) (ln : Nat) (base here : Int32) (ag : Bool) (P : Ps) : Prop := SCm m B tl z tb ln base ag ∧ m.1 33 = here ∧ PSm m ag P [] ∧ sEnd P ≤ 70000
/-- where a number may lie -/
theorem f159_at {m : mS} {ag : Bool} (h37 : m.1 37 = 0) (h19 : m.1 19 = eb ag) (v lo hi : Int32) : f159 m v lo hi = some (v, mg m 37 (if ag = true ∧ (v < lo ∨ hi < v) then 1 else 0)) := by
  unfold f159
  rw [if_pos h37, h19]
  have b0 : bz (0 : Int32) := Or.inl rfl
  have b1 : bz (1 : Int32) := Or.inr rfl
  cases ag with
  | false =>
    rw [if_pos (show eb false = 0 from rfl), if_neg (fun h => by cases h.1)]
    unfold f159_29 f159_30
    rw [if_pos b0]
  | true =>
    rw [if_neg (show ¬ eb true = 0 by decide)]
    by_cases c1 : v < lo
    · rw [if_pos c1, if_pos ⟨rfl, Or.inl c1⟩]
      unfold f159_25 f159_30
      rw [if_pos b1]
    · rw [if_neg c1]
      by_cases c2 : hi < v
      · rw [if_neg (Int32.not_le.mpr c2), if_pos ⟨rfl, Or.inr c2⟩]
        unfold f159_25 f159_30
        rw [if_pos b1]
      · rw [if_pos (Int32.not_lt.mp c2), if_neg (fun h => h.2.elim c1 c2)]
        unfold f159_29 f159_30
        rw [if_pos b0]
section MI
variable {m : mS} {B : Nat → Nat} {tl z ln : Nat} {tb : List Sy} {base here : Int32} {ag : Bool} {P : Ps} {d : Rx (List Tk)}
/-- reading goes on -/
theorem MCX_fr {m' : mS} (F : FR IQ AP m m') (C : MCX m B tl z tb ln base here ag P) : MCX m' B tl z tb ln base here ag P := ⟨SCm_fr F (by decide) (by decide) C.1, by rw [F.1 33 (by decide)]; exact C.2.1, PSm_fr F (by decide) (by decide) (by decide) C.2.2.1, C.2.2.2⟩
theorem fq {m' : mS} (F : FR IP AP m m') : FR IQ AP m m' := FR_mono F (by decide) (fun _ h => h)
theorem MCX_Y (C : MCX m B tl z tb ln base here ag P) : ∀ i, (m.2 4 i).toInt8.toInt32 = m.2 4 i := C.1.1.2.2.1
/-- the end of an instruction: four bytes -/
theorem fin4 {m1 : mS} {d' : Rx (List Tk)} (C : MCX m1 B tl z tb ln base here ag P) (M : MSx m1 B z d') (hr : ag = true → sEnd P + 4 ≤ 65420) (v : Int32) : ∃ m', f144 m1 v 4 = some m' ∧ FR [] [35, 36] m1 m' ∧ MSx m' B z d' ∧ PSm m' ag P (le v 4 0) := by
  obtain ⟨m', a1, a2, a3⟩ := m_pt (ag := ag) C.1.2.2.2.2.2.2.2 C.2.2.1 v (w := 4) (by decide) (by have := C.2.2.2; show sEnd P + 0 + 4 ≤ _; omega) (fun h => hr h)
  exact ⟨m', a1, a2, MSx_fr a2 (by decide) (by decide) M, a3⟩
/-- an instruction's end: o the operands, v what is put -/
def IRX (m m' : mS) (B : Nat → Nat) (z : Nat) (E : Ev) (ps : List Int32) (o0 : Op) (d : Rx (List Tk)) (o : Op) (d' : Rx (List Tk)) (ag : Bool) (P : Ps) (v : Int32) : Prop := FR IQ AQ m m' ∧ MSx m' B z d' ∧ xD (xOps E ps o0) d = some (pr o d') ∧ PSm m' ag P (le v 4 0)
theorem bnd_i {α : Type} {o : Option α} {x : α} {β : Type} (g : α → Option β) (h : o = some x) : o.bind g = g x := by rw [h]; rfl
/-- d,a,b -/
theorem i_A {x : Nat} (hx : x < 18) (y0 : Int32) (C : MCX m B tl z tb ln base here ag P) (hr : ag = true → sEnd P + 4 ≤ 65420) (E : Ev) (hE : E.1 = B) (o0 : Op) (M : MSx m B z d) : ∃ m' o d', f138_16 m (nn x) y0 = some m' ∧ IRX m m' B z E [100, 44, 97, 44, 98] o0 d o d' ag P (f143 (if x = 1 ∨ x = 7 then 32 else if x ≤ 9 then 0 else 1) o.2.2.1 o.2.1 y0 o.1) ∧ m'.1 37 = m.1 37 := by
  subst hE
  obtain ⟨v1, m1, d1, e1, a1, a2, a3, a4, a5⟩ := m_139 (MCX_Y C) M
  have C1 := MCX_fr (fq a2) C
  obtain ⟨v2, m2, d2, e2, b1, b2, b3, b4, b5⟩ := m_139 (MCX_Y C1) a3
  have C2 := MCX_fr (fq b2) C1
  obtain ⟨v3, m3, e3, c1, c2, c3, c4⟩ := m_140 (MCX_Y C2) b3
  have C3 := MCX_fr (fq c2) C2
  obtain ⟨m4, g1, g2, g3, g4⟩ := fin4 C3 c3 hr (f143 (if x = 1 ∨ x = 7 then 32 else if x ≤ 9 then 0 else 1) v3 v2 y0 v1)
  refine ⟨m4, (v1, v2, v3, o0.2.2.2), e3, ?_, ⟨FR_trans (FR_trans (FR_mono a2 (by decide) (by decide)) (FR_mono b2 (by decide) (by decide))) (FR_trans (FR_mono c2 (by decide) (by decide)) (FR_mono g2 (by decide) (by decide))), g3, ?_, g4⟩, by rw [g2.1 37 (by decide), c2.1 37 (by decide), b2.1 37 (by decide), a2.1 37 (by decide)]⟩
  · have fin : ∀ c, f138_62 m2 y0 v1 v2 c = (f144 m3 (f143 c v3 v2 y0 v1) 4).bind fun r => some r := by
      intro c
      unfold f138_62
      rw [c1]
      rfl
    unfold f138_16
    rw [show (18 : Int32) = nn 18 from rfl, nn_le2 (by omega) (by omega), if_neg (by omega), a1, Option.bind_some, b1, Option.bind_some, q_eq (x := 1) (k := 1) rfl (by omega) (by decide), q_eq (x := 7) (k := 7) rfl (by omega) (by decide), show (9 : Int32) = nn 9 from rfl, nn_le2 (by omega) (by omega)]
    show (if x = 1 then f138_46 m2 y0 v1 v2 else if x = 7 then f138_46 m2 y0 v1 v2 else if x ≤ 9 then f138_62 m2 y0 v1 v2 0 else f138_62 m2 y0 v1 v2 1) = some m4
    unfold f138_46
    by_cases q1 : x = 1
    · rw [if_pos q1, fin]
      rw [if_pos (Or.inl q1)] at g1
      rw [g1]; rfl
    rw [if_neg q1]
    by_cases q7 : x = 7
    · rw [if_pos q7, fin]
      rw [if_pos (Or.inr q7)] at g1
      rw [g1]; rfl
    rw [if_neg q7]
    rw [if_neg (fun h => h.elim q1 q7)] at g1
    by_cases q9 : x ≤ 9
    · rw [if_pos q9, fin]
      rw [if_pos q9] at g1
      rw [g1]; rfl
    · rw [if_neg q9, fin]
      rw [if_neg q9] at g1
      rw [g1]; rfl
  · have := ops_s (E := E) (k := 44) (ps := [97, 44, 98]) (o := (v1, o0.2)) (Or.inl rfl) a5
    have t1 : xD (xOps E [100, 44, 97, 44, 98] o0) d = xD (xOps E [97, 44, 98] (v1, o0.2)) e1 := (ops_d (ps := [44, 97, 44, 98]) (o := o0) a4).trans (ops_s (k := 44) (ps := [97, 44, 98]) (o := (v1, o0.2)) (Or.inl rfl) a5)
    have t2 : xD (xOps E [97, 44, 98] (v1, o0.2)) e1 = xD (xOps E [98] (v1, v2, o0.2.2)) e2 := (ops_a (ps := [44, 98]) (o := (v1, o0.2)) b4).trans (ops_s (k := 44) (ps := [98]) (o := (v1, v2, o0.2.2)) (Or.inl rfl) b5)
    rw [t1, t2]
    exact (ops_b (ps := []) (o := (v1, v2, o0.2.2)) c4).trans ops_0
/-- alone can't be where no bracket comes -/
theorem al_no {E : Ev} {ps : List Int32} {d : Rx (List Tk)} (h : ∀ p r, ps = p :: r → ¬ p = 40) : ∀ ts, d = .inl ts → ¬ alone E.1 ps ts = true := by
  intro ts _ ha
  cases ps with
  | nil => cases ts <;> cases ha
  | cons p r =>
    cases ts with
    | nil => cases ha
    | cons t r2 =>
      have := of_decide_eq_true ha
      exact h p r rfl this.1
/-- d,a,e -/
theorem i_B {x : Nat} (h1 : 18 ≤ x) (h2 : x < 27) (y0 : Int32) (C : MCX m B tl z tb ln base here ag P) (h37 : m.1 37 = 0) (hr : ag = true → sEnd P + 4 ≤ 65420) (o0 : Op) (M : MSx m B z d) : ∃ m' o d' v, f138_16 m (nn x) y0 = some m' ∧ IRX m m' B z (B, tb, ln, base, here, if ag = true then 2 else 1) [100, 44, 97, 44, 101] o0 d o d' ag P (f160 (if x = 26 then v ||| 1024 else v) o.2.1 y0 o.1 19) ∧ o.2.2.1 = o0.2.2.1 ∧ (ag = true → v = o.2.2.2.1) ∧ m'.1 37 = if ag = true ∧ (v < (if 24 ≤ x then 0 else -2048) ∨ (if 24 ≤ x then 31 else 2047) < v) then 1 else 0 := by
  obtain ⟨v1, m1, d1, e1, a1, a2, a3, a4, a5⟩ := m_139 (MCX_Y C) M
  have C1 := MCX_fr (fq a2) C
  obtain ⟨v2, m2, d2, e2, b1, b2, b3, b4, b5⟩ := m_139 (MCX_Y C1) a3
  have C2 := MCX_fr (fq b2) C1
  obtain ⟨v, m3, e3, v', e', c1, c2, c3, c4, c5⟩ := m_145 C2.1 C2.2.1 o0.2.2.2.2 b3
  have C3 := MCX_fr (fq c2) C2
  have k37 : m3.1 37 = 0 := by rw [c2.1 37 (by decide), b2.1 37 (by decide), a2.1 37 (by decide)]; exact h37
  have w9 := f159_at (ag := ag) k37 C3.1.2.2.2.2.2.2.2 v (if 24 ≤ x then 0 else -2048) (if 24 ≤ x then 31 else 2047)
  have F4 : FR [37] [] m3 (mg m3 37 (if ag = true ∧ (v < (if 24 ≤ x then 0 else -2048) ∨ (if 24 ≤ x then 31 else 2047) < v) then 1 else 0)) := FR_g (FR_refl _ _ _) (by decide) _
  have C4 := MCX_fr (FR_mono F4 (by decide) (by decide)) C3
  have M4 := MSx_fr F4 (by decide) (by decide) c3
  obtain ⟨m5, g1, g2, g3, g4⟩ := fin4 C4 M4 hr (f160 (if x = 26 then v ||| 1024 else v) v2 y0 v1 19)
  refine ⟨m5, (v1, v2, o0.2.2.1, v', e'), e3, v, ?_, ⟨FR_trans (FR_trans (FR_mono a2 (by decide) (by decide)) (FR_mono b2 (by decide) (by decide))) (FR_trans (FR_mono c2 (by decide) (by decide)) (FR_trans (FR_mono F4 (by decide) (by decide)) (FR_mono g2 (by decide) (by decide)))), g3, ?_, g4⟩, rfl, c5, by rw [g2.1 37 (by decide)]; rfl⟩
  · unfold f138_16
    rw [show (18 : Int32) = nn 18 from rfl, nn_le2 (by omega) (by omega), if_pos (by omega), show (27 : Int32) = nn 27 from rfl, nn_le2 (by omega) (by omega), if_neg (by omega), a1, Option.bind_some, b1, Option.bind_some, c1, Option.bind_some, show (24 : Int32) = nn 24 from rfl, nn_le2 (by omega) (by omega)]
    have fin : f138_129 m3 (nn x) y0 v1 v2 (if 24 ≤ x then 31 else 2047) (if 24 ≤ x then 0 else -2048) v = some m5 := by
      unfold f138_129
      rw [w9, Option.bind_some, q_eq (x := 26) (k := 26) rfl (by omega) (by decide)]
      show (if x = 26 then f138_152 (mg m3 37 _) y0 v1 v2 (v ||| 1024) else f138_152 (mg m3 37 _) y0 v1 v2 v) = _
      unfold f138_152
      by_cases q : x = 26
      · rw [if_pos q]
        rw [if_pos q] at g1
        rw [g1]; rfl
      · rw [if_neg q]
        rw [if_neg q] at g1
        rw [g1]; rfl
    show (if 24 ≤ x then f138_115 m3 (nn x) y0 v1 v2 0 v else f138_115 m3 (nn x) y0 v1 v2 (-2048) v) = _
    have h115 : ∀ w, f138_115 m3 (nn x) y0 v1 v2 w v = if 24 ≤ x then f138_129 m3 (nn x) y0 v1 v2 31 w v else f138_129 m3 (nn x) y0 v1 v2 2047 w v := by
      intro w
      unfold f138_115
      rw [show (24 : Int32) = nn 24 from rfl, nn_le2 (by omega) (by omega)]
    rw [h115, h115]
    by_cases q : 24 ≤ x
    · rw [if_pos q, if_pos q] at fin
      rw [if_pos q, if_pos q]; exact fin
    · rw [if_neg q, if_neg q] at fin
      rw [if_neg q, if_neg q]; exact fin
  · have t1 : xD (xOps (B, tb, ln, base, here, if ag = true then 2 else 1) [100, 44, 97, 44, 101] o0) d = xD (xOps (B, tb, ln, base, here, if ag = true then 2 else 1) [97, 44, 101] (v1, o0.2)) e1 := (ops_d (E := (B, tb, ln, base, here, if ag = true then 2 else 1)) (ps := [44, 97, 44, 101]) (o := o0) a4).trans (ops_s (k := 44) (ps := [97, 44, 101]) (o := (v1, o0.2)) (Or.inl rfl) a5)
    have t2 : xD (xOps (B, tb, ln, base, here, if ag = true then 2 else 1) [97, 44, 101] (v1, o0.2)) e1 = xD (xOps (B, tb, ln, base, here, if ag = true then 2 else 1) [101] (v1, v2, o0.2.2)) e2 := (ops_a (E := (B, tb, ln, base, here, if ag = true then 2 else 1)) (ps := [44, 101]) (o := (v1, o0.2)) b4).trans (ops_s (k := 44) (ps := [101]) (o := (v1, v2, o0.2.2)) (Or.inl rfl) b5)
    rw [t1, t2]
    exact (ops_e (ps := []) (o := (v1, v2, o0.2.2)) (al_no (fun p r h => by cases h)) c4).trans ops_0
/-- d,e : lui, auipc -/
theorem i_E {x : Nat} (h1 : 51 ≤ x) (h2 : x < 53) (y0 : Int32) (C : MCX m B tl z tb ln base here ag P) (h37 : m.1 37 = 0) (hr : ag = true → sEnd P + 4 ≤ 65420) (o0 : Op) (M : MSx m B z d) : ∃ m' o d' v, f138_16 m (nn x) y0 = some m' ∧ IRX m m' B z (B, tb, ln, base, here, if ag = true then 2 else 1) [100, 44, 101] o0 d o d' ag P (((v <<< ((12 : Int32) &&& 31)) ||| (o.1 <<< ((7 : Int32) &&& 31))) ||| (if x = 51 then 55 else 23)) ∧ o.2.1 = o0.2.1 ∧ o.2.2.1 = o0.2.2.1 ∧ (ag = true → v = o.2.2.2.1) ∧ m'.1 37 = if ag = true ∧ (v < 0 ∨ (1048575 : Int32) < v) then 1 else 0 := by
  obtain ⟨v1, m1, d1, e1, a1, a2, a3, a4, a5⟩ := m_139 (MCX_Y C) M
  have C1 := MCX_fr (fq a2) C
  obtain ⟨v, m3, e3, v', e', c1, c2, c3, c4, c5⟩ := m_145 C1.1 C1.2.1 o0.2.2.2.2 a3
  have C3 := MCX_fr (fq c2) C1
  have k37 : m3.1 37 = 0 := by rw [c2.1 37 (by decide), a2.1 37 (by decide)]; exact h37
  have w9 := f159_at (ag := ag) k37 C3.1.2.2.2.2.2.2.2 v 0 1048575
  have F4 : FR [37] [] m3 (mg m3 37 (if ag = true ∧ (v < 0 ∨ (1048575 : Int32) < v) then 1 else 0)) := FR_g (FR_refl _ _ _) (by decide) _
  have C4 := MCX_fr (FR_mono F4 (by decide) (by decide)) C3
  have M4 := MSx_fr F4 (by decide) (by decide) c3
  obtain ⟨m5, g1, g2, g3, g4⟩ := fin4 C4 M4 hr (((v <<< ((12 : Int32) &&& 31)) ||| (v1 <<< ((7 : Int32) &&& 31))) ||| (if x = 51 then 55 else 23))
  refine ⟨m5, (v1, o0.2.1, o0.2.2.1, v', e'), e3, v, ?_, ⟨FR_trans (FR_mono a2 (by decide) (by decide)) (FR_trans (FR_mono c2 (by decide) (by decide)) (FR_trans (FR_mono F4 (by decide) (by decide)) (FR_mono g2 (by decide) (by decide)))), g3, ?_, g4⟩, rfl, rfl, c5, by rw [g2.1 37 (by decide)]; rfl⟩
  · unfold f138_16
    rw [show (18 : Int32) = nn 18 from rfl, nn_le2 (by omega) (by omega), if_pos (by omega), show (27 : Int32) = nn 27 from rfl, nn_le2 (by omega) (by omega), if_pos (by omega), show (35 : Int32) = nn 35 from rfl, nn_le2 (by omega) (by omega), if_pos (by omega), show (51 : Int32) = nn 51 from rfl, nn_le2 (by omega) (by omega), if_pos (by omega), show (53 : Int32) = nn 53 from rfl, nn_le2 (by omega) (by omega), if_neg (by omega), a1, Option.bind_some, c1, Option.bind_some, w9, Option.bind_some, q_eq (x := nn 51) (k := 51) rfl (by omega) (by decide)]
    unfold f138_382
    by_cases q : x = 51
    · rw [if_pos q] at g1 ⊢
      rw [g1]; rfl
    · rw [if_neg q] at g1 ⊢
      rw [g1]; rfl
  · have t1 : xD (xOps (B, tb, ln, base, here, if ag = true then 2 else 1) [100, 44, 101] o0) d = xD (xOps (B, tb, ln, base, here, if ag = true then 2 else 1) [101] (v1, o0.2)) e1 := (ops_d (E := (B, tb, ln, base, here, if ag = true then 2 else 1)) (ps := [44, 101]) (o := o0) a4).trans (ops_s (k := 44) (ps := [101]) (o := (v1, o0.2)) (Or.inl rfl) a5)
    rw [t1]
    exact (ops_e (ps := []) (o := (v1, o0.2)) (al_no (fun p r h => by cases h)) c4).trans ops_0
end MI
