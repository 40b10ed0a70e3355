/-! the law's one handler takes what is thrown in its body (over the library without its rest) -/
section ABCat
variable {p : Program} {l : Launch} {e : Env} {R : Room} {s : State} {m : MethodId} {args : Array Value} {below : List Frame} {meth : Method} {c : Code} {H : Heap} {locs : List Loc} {cells slots : Nat} {Q : State → Prop}
variable {pc : Nat} {ls : Array Slot} {rest : List Value}
/-- the search for a handler answers alike where the first row's class is noted already: only the note is made on the way -/
theorem ab_seek_noted {S : State} {g : JFrame} {q : Addr} {mt : Method} {cd : Code} {x : ExceptionTableEntry} {suf : List ExceptionTableEntry} {k : ClassId}
    (hm : S.vm.method? g.method = some mt) (hc : mt.code = some cd) (htab : cd.exceptionTable.toList = x :: suf) (hx : covers x g.pc = true) (h0 : x.catchType ≠ 0)
    (hl : S.vm.ClassLinks e.platform g.method.cls x.catchType k) (P : Handler → Pre) (E : CtlPost) (d : Bool) (acts : List Action) :
    wp (findHandler g q) P E e d acts S ↔ wp (findHandler g q) P E e d acts (S.setVm (S.vm.noted g.method.cls x.catchType (.cls k))) := by
  have ha := (Vm.Alike.refl S.vm).noted g.method.cls x.catchType (.cls k)
  have hm2 : (S.setVm (S.vm.noted g.method.cls x.catchType (.cls k))).vm.method? g.method = some mt := by
    show (S.vm.noted g.method.cls x.catchType (.cls k)).method? g.method = some mt
    rw [ha.method?]; exact hm
  obtain ⟨r1, r2⟩ := (resolveClass_links e.toSetting hl).op (op := VmOp.resolveClass g.method.cls x.catchType) rfl
  obtain ⟨k9, h9, h8⟩ := hl.ready
  obtain ⟨r3, r4⟩ := resolveClass_memo e h9 h8
  rw [Jvm.W.findHandler_eq hm hc, Jvm.W.findHandler_eq hm2 hc, htab]
  simp only [covers] at hx
  have hid : (S.setVm (S.vm.noted g.method.cls x.catchType (.cls k))).setVm (S.vm.noted g.method.cls x.catchType (.cls k)) = S.setVm (S.vm.noted g.method.cls x.catchType (.cls k)) := rfl
  simp [findHandler.go, hx, h0, r1, r2, r3, r4, hid, VmOp.dirties, VmOp.acts]
/-- so one step of the unwinding stands in the handler, and the class is noted -/
theorem ab_catch_step {S : State} {g : JFrame} {q : Addr} {r : List Frame} {mt : Method} {cd : Code} {x : ExceptionTableEntry} {suf : List ExceptionTableEntry} {k : ClassId} {ce : Cell}
    (hm : S.vm.method? g.method = some mt) (hc : mt.code = some cd) (htab : cd.exceptionTable.toList = x :: suf) (hx : covers x g.pc = true) (h0 : x.catchType ≠ 0)
    (hl : S.vm.ClassLinks e.platform g.method.cls x.catchType k) (hcell : S.heap[q]? = some ce) (hv : ce.vm = .none) (hfit : S.vm.assignable ce.cls k = true) (hk : ∃ z, S.vm.classes[k]? = some z) :
    (stepThrowing e S q (.java g :: r)).1 = (S.setVm (S.vm.noted g.method.cls x.catchType (.cls k))).setFrames (.java { g with pc := x.handlerPc, stack := [.ref q] } :: r) := by
  have ha := (Vm.Alike.refl S.vm).noted g.method.cls x.catchType (.cls k)
  have hm2 : (S.setVm (S.vm.noted g.method.cls x.catchType (.cls k))).vm.method? g.method = some mt := by
    show (S.vm.noted g.method.cls x.catchType (.cls k)).method? g.method = some mt
    rw [ha.method?]; exact hm
  have hcls : ∀ y : ClassId, (∃ z, S.vm.classes[y]? = some z) → ∃ z, (S.vm.noted g.method.cls x.catchType (.cls k)).classes[y]? = some z := fun y hy => by
    obtain ⟨z, hz⟩ := hy
    obtain ⟨z', hz', -⟩ := ha.2.2 _ _ hz
    exact ⟨z', hz'⟩
  have hfin : Finds e (S.setVm (S.vm.noted g.method.cls x.catchType (.cls k))) g q (.found x.handlerPc) :=
    Finds.catchReady hm2 hc [] x suf htab (fun _ hy => nomatch hy) hx h0 hl.ready hcell (VmData.ne_statics_of (by rw [hv]; rfl)) (hcls _ (Vm.classAt_of_assignable hfit hk)) (hcls _ hk)
      (by show (S.vm.noted g.method.cls x.catchType (.cls k)).assignable ce.cls k = true
          rw [ha.assignable]; exact hfit)
  simp only [stepThrowing, searchFrame, vmDo]
  generalize hr : Sem.go _ e false [] S = res
  obtain ⟨as, rfl, -⟩ := Sem.eq_ok_of hr (a := Handler.found x.handlerPc) (s' := S.setVm (S.vm.noted g.method.cls x.catchType (.cls k))) (acts' := [])
    (by simp [ab_seek_noted hm hc htab hx h0 hl, hfin _ _ _ _])
  rfl
/-- the first row of the method's table takes the object: the walk goes on in the handler -/
theorem ab_catch {own name : String} {E : String} {ce : Cell} {q : Addr} (hown : s.vm.findClass own = some m.cls) (x : ExceptionTableEntry) (suf : List ExceptionTableEntry) (htab : c.exceptionTable.toList = x :: suf)
    (hx : covers x pc = true) (h0 : x.catchType ≠ 0) (hlink : (Cond.classLink own x.catchType name).before args s = true) (hcast : (Cond.castable E name).before args s = true)
    (hcell : H[q]? = some ce) (hv : ce.vm = .none) (hcl : s.vm.findClass E = some ce.cls)
    (kk : W p l e R s m args below meth c H locs cells slots Q (F0 m x.handlerPc ls [.ref q])) : vx_W p l e R s m args below meth c H locs cells slots Q (F0 m pc ls rest) q := by
  intro T hT X
  obtain ⟨i1, i2, hi1, hi2, hfit⟩ := Cond.castable_spec hcast
  obtain rfl : i1 = ce.cls := Option.some.inj (hi1.symm.trans hcl)
  obtain ⟨i3, hi3, hli⟩ := Cond.classLink_spec hown hlink e.platform (by rw [X.admits.platform])
  obtain rfl : i2 = i3 := Option.some.inj (hi2.symm.trans hi3)
  obtain ⟨g0, hfr⟩ := X.frames_eq
  have ha := X.warmed.alike
  obtain ⟨z2, hz2⟩ := Vm.classAt_of_findClass hi2
  obtain ⟨z3, hz3, -⟩ := ha.2.2 _ _ hz2
  obtain ⟨dk, _, _, _, hd, _, _, _, _, _, _, hop⟩ := hli.here
  obtain ⟨t, a1, b1⟩ := kk (T.setVm (T.vm.noted m.cls x.catchType (.cls i2))) hT (X.noted (X.warmed.noted hd hop (State.rightAt_cls hli)))
  refine ⟨t, ?_, b1⟩
  obtain ⟨hgo, hw⟩ := At.throwing (g := F0 m pc ls rest) X.here q
  refine Steps.head hgo hw ?_
  have hS : ((T.setTop (F0 m pc ls rest)).pushFrame (.throwing q)).frames = .throwing q :: .java (F0 m pc ls rest) :: below := by
    rw [frames_entered X.here.top, hfr]; rfl
  rw [stepThread_throwing hS, ab_catch_step (S := (T.setTop (F0 m pc ls rest)).pushFrame (.throwing q)) (g := F0 m pc ls rest) (k := i2) (ce := ce) X.method' X.code htab hx h0 (X.warmed.classLinks hli)
    (by show T.heap[q]? = some ce
        rw [hT]; exact hcell) hv
    (by show T.vm.assignable ce.cls i2 = true
        rw [ha.assignable]; exact hfit) ⟨z3, hz3⟩]
  have hfr2 : (T.setVm (T.vm.noted m.cls x.catchType (.cls i2))).frames = .java g0 :: below := hfr
  rw [State.setTop_of_frames _ hfr2] at a1
  have hflat : ∀ (V : Vm) (G : List Frame), (((T.setTop (F0 m pc ls rest)).pushFrame (.throwing q)).setVm V).setFrames G = (T.setVm V).setFrames G := fun V G => by
    rw [State.setTop_of_frames _ hfr]
    show (((T.setVm V).setFrames _).setFrames _).setFrames G = _
    rw [State.setFrames_setFrames, State.setFrames_setFrames]
  rw [hflat]
  exact a1
end ABCat
