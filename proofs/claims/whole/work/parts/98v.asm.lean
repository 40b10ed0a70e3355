/-! THE CALL assemble, in both programs. -/
section AV
variable {k : Nat} {c : cS} {m : mS}
/-- what an assembling leaves of the state before it -/
theorem kp_c {L Ls : Nat} {s s' : cS} (R : RSX c k L Ls) (h1 : ∀ i j, ¬ (i, j) ∈ IS0 → s.1 i j = c.1 i j) (h2 : ∀ p q, ¬ (p, q) = (11, 7) → ¬ (p, q) = (2, 1) → s.2.1 p q = c.2.1 p q) (h3 : ∀ q, ¬ q = c.2.1 2 2 → s.2.2.1 q = c.2.2.1 q) (K : KP s s') : s'.2.1 0 0 = c.2.1 0 0 ∧ s'.2.1 16 0 = c.2.1 16 0 ∧ s'.2.1 (c.2.1 16 0) 4 = c.2.1 (c.2.1 16 0) 4 ∧ s'.2.2.1 (c.2.1 0 0) = c.2.2.1 (c.2.1 0 0) ∧ s'.2.2.1 (c.2.1 (c.2.1 16 0) 4) = c.2.2.1 (c.2.1 (c.2.1 16 0) 4) ∧ ∀ j, s'.1 (c.2.1 16 0) j = c.1 (c.2.1 16 0) j := by
  obtain ⟨k1, k2, k3, k4, k5, k6, k7, k8, k9⟩ := K
  have SP := R.2.2.2.2.2.2.2.1
  have R12 := R.2.2.2.2.2.2.2.2.2.2.2.1
  have e00 := h2 0 0 (by decide) (by decide)
  have e160 := h2 16 0 (by decide) (by decide)
  have eq4 : s.2.1 (c.2.1 16 0) 4 = c.2.1 (c.2.1 16 0) 4 := h2 _ _ (fun h => by have := congrArg Prod.snd h; simp only at this; omega) (fun h => by have := congrArg Prod.snd h; simp only at this; omega)
  rw [e160] at k2 k4 k6 k8
  rw [e00] at k3 k7
  rw [eq4] at k6 k8
  have a00 : s.2.2.1 (c.2.1 0 0) = c.2.2.1 (c.2.1 0 0) := h3 _ (fun h => by have := SP.1 (0, 0) (by decide) (2, 2) (by decide) h; cases this)
  have aq4 : s.2.2.1 (c.2.1 (c.2.1 16 0) 4) = c.2.2.1 (c.2.1 (c.2.1 16 0) 4) := by
    refine h3 _ (fun h => ?_)
    rcases R12 with g | g <;> rw [g.1] at h
    · have := SP.1 (18, 4) (by decide) (2, 2) (by decide) h; cases this
    · have := SP.1 (20, 4) (by decide) (2, 2) (by decide) h; cases this
  refine ⟨k3, k4, k6, k7.trans a00, k8.trans aq4, fun j => (k2 j).trans (h1 _ _ ?_)⟩
  rcases R12 with g | g <;> rw [g.1] <;> simp [IS0]
theorem e_113 (h : CMX k c m) (hk : k < 512) : (∃ v c' m', f15 c = some (.inl (v, c')) ∧ f113 m = some (v, m') ∧ f109 m' = 0 ∧ CMX (k + 1) c' m') ∨ (∃ v c' m', f15 c = some (.inr c') ∧ f113 m = some (v, m') ∧ f109 m' = 1 ∧ CMX (k + 1) c' m') := by
  obtain ⟨tl, L, Ls, R, h1, ⟨t1, t2, t3, t4, t5, t6⟩, h3, h4, h5⟩ := h
  have hX : MXT m (fun i => b8 (m.2 4 i)) tl := ⟨by omega, fun _ _ => rfl, t6, fun i => b8_lt _⟩
  generalize hB : (fun i => b8 (m.2 4 i)) = B at hX
  have hT : TAP c B tl := ⟨t1, t3, fun i hi => by rw [← hB]; exact t4 i hi, t5⟩
  obtain ⟨s, ⟨s1, s2, s3, s4, s5, s6, s7⟩, H⟩ := k_both R hT hX t2 h3 (by omega)
  rcases H with ⟨e, s', m', a1, ⟨⟨L', Ls', R'⟩, K, d6, d9⟩, a2, ⟨g1, g2, g3, g4, g5, g6⟩, F⟩ | ⟨P, s', m', ln, a, ln', a1, ⟨⟨L', Ls', Y, X, S, l2, l6, l7, l21, R', K, l10⟩, KK, k9, I⟩, htd, hP, a2, ⟨x1, x2, x3, x4, x5, x6, x7, x8, x9, x10⟩, F⟩
  · -- an error
    obtain ⟨p1, p2, p3, p4, p5, p6⟩ := kp_c R s5 s6 s7 K
    have hne : ¬ m'.1 11 ≤ 0 := by
      rw [g1]
      intro h
      have := (nn_le (b := 0) (by omega) (by decide)).mp h
      omega
    have hn0 : ¬ m'.1 11 = 0 := fun h => hne (by rw [h]; decide)
    have r9 := R'.2.2.2.2.2.2.2.2.1.1
    have SP' := R'.2.2.2.2.2.2.2.1
    have R12 := R.2.2.2.2.2.2.2.2.2.2.2.1
    have hk46 : ∀ q, ¬ q = 42 + s'.2.2.2 → (f46 s' (nn e.2.2.1) (nn e.2.2.2)).2.2.1 q = s'.2.2.1 q := fun q hq => by
      show (if q = 42 + s'.2.2.2 then _ else s'.2.2.1 q) = _
      rw [if_neg hq]
    have h46 : ∀ i j, ¬ i = 11 → (f46 s' (nn e.2.2.1) (nn e.2.2.2)).1 i j = s'.1 i j := fun i j hi => by
      have G : CF [(11, 0), (11, 1), (11, 2)] s' (cg (cg (cg s' 11 0 (s'.1 11 6)) 11 1 (nn e.2.2.1 - s'.1 11 9)) 11 2 (nn e.2.2.2)) := CF_g (CF_g (CF_g (CF_refl _ _) (by decide) _) (by decide) _) (by decide) _
      exact G.1 i j (by simp [hi])
    have q00 : ¬ c.2.1 0 0 = 42 + s'.2.2.2 := by have := r9.2.1; rw [p1] at this; omega
    have qq4 : ¬ c.2.1 (c.2.1 16 0) 4 = 42 + s'.2.2.2 := by
      rcases R12 with g | g <;> rw [g.1] at p3 ⊢
      · have := SP'.2 (18, 4) (by decide)
        rw [show s'.2.1 (18, 4).1 (18, 4).2 = c.2.1 18 4 from p3] at this; omega
      · have := SP'.2 (20, 4) (by decide)
        rw [show s'.2.1 (20, 4).1 (20, 4).2 = c.2.1 20 4 from p3] at this; omega
    refine Or.inr ⟨0, f46 s' (nn e.2.2.1) (nn e.2.2.2), mg m' 3 1, a1, ?_, rfl, 0, L', Ls', RSX_46 R' _ _, Nat.zero_le _, ⟨?_, ?_, Nat.zero_le _, fun i hi => absurd hi (Nat.not_lt_zero _), ?_, ?_⟩, g6, Or.inr ⟨hn0, ?_, ?_, rfl.trans g1.symm⟩, ?_⟩
    · rw [a2]
      unfold f113_75 f113_88
      rw [if_neg hne, if_neg (by decide)]
    · rw [h46 0 1 (by decide), K.1 1, s1]; rfl
    · show m'.1 5 = _
      rw [F.1 5 (by decide)]; rfl
    · intro i
      show (((f46 s' (nn e.2.2.1) (nn e.2.2.2)).2.2.1 (s'.2.1 0 0)).2.2 i).toInt8.toInt32 = ((f46 s' (nn e.2.2.1) (nn e.2.2.2)).2.2.1 (s'.2.1 0 0)).2.2 i
      rw [p1, hk46 _ q00, p4]
      exact t5 i
    · intro i
      show (m'.2 4 i).toInt8.toInt32 = m'.2 4 i
      rw [F.2 4 (by decide)]
      exact t6 i
    · show s'.1 11 6 = m'.1 13
      rw [d6, g5]
    · show nn e.2.2.1 - s'.1 11 9 = m'.1 12
      rw [d9, g4]
    · refine IMX_of (m' := mg m' 3 1) p2 (fun j => ?_) p3 ?_ (F.1 7 (by decide)) (F.1 8 (by decide)) (F.1 9 (by decide)) (F.1 10 (by decide)) (F.2 6 (by decide)) h5
      · rw [h46 _ j (by omega)]; exact p6 j
      · rw [hk46 _ qq4]; exact p5
  · -- an image
    obtain ⟨p1, p2, p3, p4, p5, p6⟩ := kp_c R s5 s6 s7 K
    obtain ⟨i1, i2, i3, i4, i5, i6, i7, i8, i9, i10, i11, i12⟩ := I rfl
    have R12 := R.2.2.2.2.2.2.2.2.2.2.2.1
    have R12' := R'.2.2.2.2.2.2.2.2.2.2.2.1
    have SP' := R'.2.2.2.2.2.2.2.1
    obtain ⟨tt, htt⟩ : ∃ tt, tt = P.2.2.1.length := ⟨_, rfl⟩
    obtain ⟨dd, hdd⟩ : ∃ dd, dd = P.2.2.2.length := ⟨_, rfl⟩
    obtain ⟨base, hbase⟩ : ∃ base, base = nn (bas P.2.2.1.length) := ⟨_, rfl⟩
    obtain ⟨ent, hent⟩ : ∃ ent, ent = sVal P.1 base (entI B P.1) := ⟨_, rfl⟩
    rw [← hbase] at l2 x5
    rw [← htt, ← hdd] at htd
    rw [← htt] at i2
    rw [← hdd] at i3
    rw [← htt, ← hdd] at i4 i6
    rw [← htt] at i10 i11
    rw [← hdd] at i10 i11 i12
    have hh := hdl_le dd
    have e73 : f73 s' (s'.1 16 9) (s'.1 17 2) = some ent := by
      rw [k9, l2, hent]
      exact c_val S (fun j hj => entF_lt B P.1 _ j hj) base
    obtain ⟨r2, b1, W2, A2⟩ := c_106 (s0 := s') (q := s'.2.1 16 1) (tt := tt) (dd := dd) ⟨i4, i6, i7, i5⟩ i2 i3 (by omega) ent base
    have er : r2.2.1 = s'.2.1 := W2.2.1
    have ei : ∀ i j, r2.1 i j = s'.1 i j := fun i j => W2.1 i j (by simp)
    have hq2 : cQ (r2.2.1 16 1) := by rw [er]; exact i1
    have e105 : f105 s' = some ((cr (cr (cg r2 (r2.2.1 16 1) 3 (r2.1 2 0)) 16 0 (r2.2.1 16 1)) 16 1 (r2.2.1 16 0)).1 (r2.2.1 16 1) 0, cr (cr (cg r2 (r2.2.1 16 1) 3 (r2.1 2 0)) 16 0 (r2.2.1 16 1)) 16 1 (r2.2.1 16 0)) := by
      unfold f105
      rw [e73, Option.bind_some, if_pos i1, l2, b1, Option.bind_some, if_pos hq2, if_pos hq2]
    have R3 : RSX (cr (cr (cg r2 (r2.2.1 16 1) 3 (r2.1 2 0)) 16 0 (r2.2.1 16 1)) 16 1 (r2.2.1 16 0)) k L' Ls' := RSX_sw (s := cg r2 (r2.2.1 16 1) 3 (r2.1 2 0)) (RSX_sh (c := r2) rfl rfl (fun q => ⟨rfl, rfl⟩) (RSX_wf W2 R'))
    have f0 : (cr (cr (cg r2 (r2.2.1 16 1) 3 (r2.1 2 0)) 16 0 (r2.2.1 16 1)) 16 1 (r2.2.1 16 0)).2.1 16 0 = r2.2.1 16 1 := rfl
    have fr : ∀ p q, ¬ p = 16 → (cr (cr (cg r2 (r2.2.1 16 1) 3 (r2.1 2 0)) 16 0 (r2.2.1 16 1)) 16 1 (r2.2.1 16 0)).2.1 p q = r2.2.1 p q := by
      intro p q h
      show (if q = 1 ∧ p = 16 then _ else if q = 0 ∧ p = 16 then _ else r2.2.1 p q) = _
      rw [if_neg (fun hh => h hh.2), if_neg (fun hh => h hh.2)]
    have fi : ∀ i j, (cr (cr (cg r2 (r2.2.1 16 1) 3 (r2.1 2 0)) 16 0 (r2.2.1 16 1)) 16 1 (r2.2.1 16 0)).1 i j = if j = 3 ∧ i = r2.2.1 16 1 then r2.1 2 0 else r2.1 i j := fun _ _ => rfl
    have fa : (cr (cr (cg r2 (r2.2.1 16 1) 3 (r2.1 2 0)) 16 0 (r2.2.1 16 1)) 16 1 (r2.2.1 16 0)).2.2 = r2.2.2 := rfl
    generalize cr (cr (cg r2 (r2.2.1 16 1) 3 (r2.1 2 0)) 16 0 (r2.2.1 16 1)) 16 1 (r2.2.1 16 0) = c' at e105 R3 f0 fr fi fa
    have hx : s'.2.1 16 1 = 18 ∨ s'.2.1 16 1 = 20 := i1
    rw [er] at e105 f0 fr fi
    obtain ⟨x0, hx0⟩ : ∃ x0, x0 = s'.2.1 16 1 := ⟨_, rfl⟩
    rw [← hx0] at i2 i3 i4 i5 i6 i7 i10 i11 i12 b1 W2 A2 e105 f0 fi hx
    have j2 : ∀ i j, ¬ i = x0 → c'.1 i j = s'.1 i j := fun i j h => by rw [fi, if_neg (fun hh => h hh.2), ei]
    have v0 : c'.1 x0 0 = nn (hdl dd + tt + dd) := by rw [fi, if_neg (fun hh => by omega), ei, i4]
    have v1 : c'.1 x0 1 = nn tt := by rw [fi, if_neg (fun hh => by omega), ei, i2]
    have v2 : c'.1 x0 2 = nn dd := by rw [fi, if_neg (fun hh => by omega), ei, i3]
    have v3 : c'.1 x0 3 = nn P.1.length := by rw [fi, if_pos ⟨rfl, rfl⟩, ei, S.1]
    have w00 : c'.2.1 0 0 = c.2.1 0 0 := by rw [fr 0 0 (by decide)]; exact p1
    have wx4 : c'.2.1 x0 4 = s'.2.1 x0 4 := fr x0 4 (by omega)
    have hne : ¬ c.2.1 0 0 = s'.2.1 x0 4 := by
      intro hh
      rw [← p1] at hh
      rcases hx with g | g <;> rw [g] at hh
      · have := SP'.1 (0, 0) (by decide) (18, 4) (by decide) hh; cases this
      · have := SP'.1 (0, 0) (by decide) (20, 4) (by decide) hh; cases this
    have a00 : c'.2.2.1 (c.2.1 0 0) = c.2.2.1 (c.2.1 0 0) := by
      rw [fa, W2.2.2.2.2 _ (by rw [List.mem_singleton]; exact hne)]
      exact p4
    -- the reference
    obtain ⟨_, y2, y3, y4, y5, y6, y7⟩ := x8
    obtain ⟨_, _, y8, y9⟩ := y7 rfl
    rw [sAdd_nil] at y3 y4 y8 y9
    have hm171 : ∀ m1 g, RD (mg m' 3 0) g m1 → f171 m1 = some ent := by
      intro m1 g D
      have d1 : m1.1 = (mg m' 3 0).1 := D.1
      have dk : ∀ kk, ¬ kk = 6 → m1.2 kk = m'.2 kk := fun kk h => D.2.1 kk h
      rw [hent]
      refine m_171 (tl := tl) ?_ ?_ ?_
      · unfold MXT
        rw [dk 4 (by decide)]
        exact x1
      · unfold SYMm
        rw [dk 27 (by decide), dk 28 (by decide), dk 29 (by decide), dk 30 (by decide), dk 31 (by decide), d1]
        exact x2
      · rw [d1]
        exact x5
    obtain ⟨m2, c1, F2, n7, n8, n9, n10, n6⟩ := m_170 (m := mg m' 3 0) (tt := tt) (dd := dd) (ent := ent) (base := base) (by rw [htt]; exact y3) (by rw [hdd]; exact y4) x5 htd hm171
    have g5 : ∀ j, ¬ j = 3 → ¬ j ∈ [7, 8, 9, 10] → m2.1 j = m'.1 j := fun j h3 hj => by
      rw [F2.1 j hj]
      show upd m'.1 3 0 j = _
      unfold upd
      rw [if_neg h3]
    have gk : ∀ kk, ¬ kk = 6 → m2.2 kk = m'.2 kk := fun kk h => F2.2 kk (by simpa using h)
    refine Or.inl ⟨nn (hdl dd + tt + dd), c', m2, ?_, ?_, ?_, 0, L', Ls', RSX_k R3, Nat.zero_le _, ⟨?_, ?_, Nat.zero_le _, fun i hi => absurd hi (Nat.not_lt_zero _), ?_, ?_⟩, ?_, Or.inl ⟨?_, ?_, ?_, ?_⟩, hdl dd + tt + dd, ?_, ?_, n7, ?_, Or.inr ⟨by omega, ?_, ?_, ?_⟩⟩
    · rw [a1]
      unfold f15_109
      rw [e105, Option.bind_some, v0]
    · rw [a2]
      unfold f113_75 f113_88
      rw [if_pos (by rw [x9]; decide), if_pos (by decide), c1, Option.bind_some, n7]
    · show m2.1 3 = 0
      rw [F2.1 3 (by decide)]; rfl
    · rw [j2 0 1 (by omega), K.1 1, s1]; rfl
    · rw [g5 5 (by decide) (by decide), F.1 5 (by decide)]; rfl
    · intro i
      rw [w00, a00]
      exact t5 i
    · intro i
      rw [gk 4 (by decide), F.2 4 (by decide)]
      exact t6 i
    · rw [g5 38 (by decide) (by decide)]; exact x10
    · rw [g5 11 (by decide) (by decide)]; exact x9
    · rw [j2 11 0 (by omega), K.2.2.2.2.2.2.2.2.2.1]; exact s2
    · rw [j2 11 1 (by omega), K.2.2.2.2.2.2.2.2.2.2.1]; exact s3
    · rw [j2 11 2 (by omega), K.2.2.2.2.2.2.2.2.2.2.2]; exact s4
    · rw [f0, wx4]
      show _ ≤ (c'.2.2.1 _).2.1
      rw [fa, (W2.2.2.2.1 _).2]
      exact i6
    · rw [f0]; exact v0
    · intro i hi
      rw [f0, wx4, fa, A2, n6]
      show _ = (if hdl dd ≤ i ∧ i < hdl dd + (tt + dd) then sby (mg m' 3 0) tt (i - hdl dd) else RHD ((mg m' 3 0).2 6) ent base tt dd i) &&& 255
      obtain ⟨q1, q2⟩ := hd_all (f := (s'.2.2.1 (s'.2.1 x0 4)).2.2) (g := (mg m' 3 0).2 6) (ent := ent) (base := base) (tt := tt) (dd := dd) i12
      by_cases ca : i < hdl dd
      · rw [if_neg (by omega), q1 i ca]
      · rw [if_pos (by omega), q2 i (by omega)]
        unfold sby
        rw [and_i8]
        by_cases cb : tt ≤ i - hdl dd
        · rw [if_pos cb]
          have z1 := i11 (i - hdl dd - tt) (by omega)
          rw [show hdl dd + tt + (i - hdl dd - tt) = i by omega] at z1
          have z2 := y9 (i - hdl dd - tt) (by omega)
          rw [z1]
          show _ = m'.2 36 _ &&& 255
          rw [show 65420 + (i - hdl dd) - tt = 65420 + (i - hdl dd - tt) by omega, z2]
        · rw [if_neg cb]
          have z1 := i10 (i - hdl dd) (by omega)
          rw [show hdl dd + (i - hdl dd) = i by omega] at z1
          have z2 := y8 (i - hdl dd) (by omega)
          rw [z1]
          show _ = m'.2 36 _ &&& 255
          rw [z2]
    · rw [f0, v1, n8]
    · rw [f0, v2, n9]
    · rw [f0, v3, n10]
      exact x2.1.symm
end AV
