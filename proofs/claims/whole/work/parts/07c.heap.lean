/-! New cells; the three natives (Math.min, Math.max, System.arraycopy); the heap step as one. -/
theorem ab_rv_dfl (N0 : Nat) (adS : Nat → Nat) (t : FieldType) : ab_rv N0 adS (defaultValue t) = defaultValue t := by cases t <;> rfl
section AB7C
variable {p : Program} {l : Launch} {e : Env} {R : Room} {s : State} {m : MethodId} {args : Array Value} {below : List Frame} {meth : Method} {c : Code} {H : Heap} {locs : List Loc} {cells slots : Nat} {Q : State → Prop} {cc : ByteArray} {pc : Nat} {ls : Array Slot} {N0 : Nat} {adS : Nat → Nat} {D : va_G} {cA : Nat → ClassId} {h h' : ab_H} {own : String} {Ts : List Cond} {st st' : List Value} {o a b idx n0 : Nat} {ini : Bool}
theorem ab_nw_sim (hx : p.tables.exec = Jvm.exec) (hb : c.code = cc) (hown : s.vm.findClass own = some m.cls) (hts : ∀ w ∈ Ts, w.before args s = true) (hT : ∀ w ∈ ab_T, w ∈ Ts) (hK : va_K D ab_cl (ab_tys cA) s) (hW : ab_Wd D cA N0 adS h H) (hS : va_S (ab_A N0) s.heap H locs)
    (ho : ab_own[o]? = some own) (hs : s.heap.size = N0 + n0) (hc : cells + n0 = h.length) (hR1 : cells + h'.length ≤ R.cells + h.length) (hR2 : slots + ab_sz h' ≤ R.slots + ab_sz h) (hp : ab_pN.any (fun z => z.1 == o && z.2.1 == idx && z.2.2.1 == a) = true) (hd : decode cc pc = .ok (.new idx, 3)) (hh : ab_nw a h st = some (st', h'))
    (k : ab_kk p l e R s m args below meth c cells slots Q D cA N0 adS h h' (F0 m (pc + 3) ls (st'.map (ab_rv N0 adS)))) : W p l e R s m args below meth c H locs cells slots Q (F0 m pc ls (st.map (ab_rv N0 adS))) := by
  unfold ab_nw at hh
  split at hh
  · rename_i ha
    cases hh
    obtain ⟨C, hC, hlk⟩ := ab_pN_use ho hp
    obtain ⟨hi1, hi2⟩ := ab_cl_ins ha hC
    have hl := ab_dfl_len hC
    have hz1 : ab_sz1 (.inr (a, ab_dfl a)) = C.2.2 := by
      simp only [ab_sz1]
      rw [if_neg (by omega), hl]
    rw [List.length_append, List.length_singleton] at hR1
    rw [ab_sz_push, hz1] at hR2
    refine va_new (C := C.1) (T := C.2.1) (N := C.2.2) (ci := a) (fs := (ab_dfl a).map (ab_rv N0 adS)) hx hb hts (fun w hw => hT w (ab_cl_in hC w hw)) (ab_ty a) (ab_cl_ty hC) hown (hts _ (hT _ hlk)) (hts _ (hT _ hi1)) (hts _ (hT _ hi2)) hK hW (ab_ws_D cA N0 adS h) hS (fun q hq => Nat.le_trans (by omega) hq) hC ?_ (by omega) (by omega) hd (fun q H1 hP1 hD1 hS1 => ?_)
    · intro j hj
      unfold vp_V ab_dfl
      rw [hC]
      simp [List.getD, hj, ab_rv_dfl]
    · intro T hT9 X
      have hz : T.heap.size ≤ s.heap.size + (cells + 1) := X.same.2.2.1
      rw [hT9] at hz
      have hq := ab_new_q hD1 hP1 (by omega)
      subst hq
      exact k H1 locs (cells + 1) (slots + C.2.2) (by unfold ab_Wd; rw [← ab_ws_push]; exact hP1) hS1 (by rw [List.length_append, List.length_singleton]; omega) (by rw [ab_sz_push, hz1]; omega) T hT9 X
  · cases hh
theorem ab_nwa_sim {ty : ArrayType} (hx : p.tables.exec = Jvm.exec) (hb : c.code = cc) (hts : ∀ w ∈ Ts, w.before args s = true) (hT : ∀ w ∈ ab_T, w ∈ Ts) (hK : va_K D ab_cl (ab_tys cA) s) (hW : ab_Wd D cA N0 adS h H) (hS : va_S (ab_A N0) s.heap H locs)
    (hs : s.heap.size = N0 + n0) (hc : cells + n0 = h.length) (hR1 : cells + h'.length ≤ R.cells + h.length) (hR2 : slots + ab_sz h' ≤ R.slots + ab_sz h) (hd : decode cc pc = .ok (.newarray ty, 2)) (hh : ab_nwa ty h st = some (st', h'))
    (k : ab_kk p l e R s m args below meth c cells slots Q D cA N0 adS h h' (F0 m (pc + 2) ls (st'.map (ab_rv N0 adS)))) : W p l e R s m args below meth c H locs cells slots Q (F0 m pc ls (st.map (ab_rv N0 adS))) := by
  unfold ab_nwa at hh
  split at hh
  · rename_i n r
    split at hh
    · rename_i hq0
      cases hh
      obtain ⟨ht, hn, hn2⟩ := hq0
      have hz1 : ab_sz1 (ab_a0 (ab_at ty) n.toNatClampNeg) = n.toNatClampNeg := by
        unfold ab_a0
        split <;> rfl
      rw [List.length_append, List.length_singleton] at hR1
      rw [ab_sz_push, hz1] at hR2
      have go : ∀ (t : Nat) (fty : FieldType) (a0 : vp_A), ab_at ty = t → newarray.typeOf ty = fty → (Cond.arrayClass fty) ∈ lw_tbl → (ab_tys cA)[t]? = some (cA t, fty) → (∀ (U : State) (cB : ClassId), va_RA U cB fty ↔ U.vm.findClass ("[" ++ fty.toString) = some cB) → ab_a0 (ab_at ty) n.toNatClampNeg = .inl (t, a0) → (∀ cB : ClassId, vp_cell cB a0 = arrV cB n.toNatClampNeg (fun _ => defaultValue fty)) → componentBytes fty ≤ 8 →
          W p l e R s m args below meth c H locs cells slots Q (F0 m pc ls (.int n :: r.map (ab_rv N0 adS))) := by
        intro t fty a0 h1 h2 h3 h4 h5 h6 h7 h8
        subst h2
        refine va_newa (a0 := a0) hx hb (hts _ (hT _ (List.mem_filter.mpr ⟨h3, rfl⟩))) rfl hK hW (ab_ws_D cA N0 adS h) hS (fun q hq => Nat.le_trans (by omega) hq) h7 hn rfl (by
          have := Nat.mul_le_mul hn2 h8
          omega) (by omega) (by omega) hd (fun q cB H1 hK1 hP1 hD1 hS1 => ?_)
        intro T hT9 X
        have hz : T.heap.size ≤ s.heap.size + (cells + 1) := X.same.2.2.1
        rw [hT9] at hz
        have hq := ab_new_q hD1 hP1 (by omega)
        subst hq
        have hB : va_RA s cB (newarray.typeOf ty) := (hK1.2 3 (cB, newarray.typeOf ty) rfl).2
        have hA9 : va_RA s (cA t) (newarray.typeOf ty) := (hK.2 t _ h4).2
        have heq : cB = cA t := Option.some.inj (((h5 s cB).mp hB).symm.trans ((h5 s (cA t)).mp hA9))
        subst heq
        exact k H1 locs (cells + 1) (slots + n.toNatClampNeg) (by unfold ab_Wd; rw [← ab_ws_push, h6]; exact hP1) hS1 (by rw [List.length_append, List.length_singleton]; omega) (by rw [ab_sz_push, hz1]; omega) T hT9 X
      cases ty <;> first | (exact absurd ht (by decide)) | skip
      · exact go 0 .byte (n.toNatClampNeg, .inl (fun _ => 0)) rfl rfl ab_arrw.1 rfl (fun _ _ => Iff.rfl) rfl (fun _ => rfl) (by decide)
      · exact go 1 .int (n.toNatClampNeg, .inl (fun _ => 0)) rfl rfl ab_arrw.2.1 rfl (fun _ _ => Iff.rfl) rfl (fun _ => rfl) (by decide)
      · exact go 2 .long (n.toNatClampNeg, .inr (.inl (fun _ => 0))) rfl rfl ab_arrw.2.2 rfl (fun _ _ => Iff.rfl) rfl (fun _ => rfl) (by decide)
    · cases hh
  · cases hh
end AB7C
