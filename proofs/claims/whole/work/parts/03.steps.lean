
/-! THE ABSTRACT MACHINE, its first third: steps on the operand stack, on the locals, branches. A value is the machine's own, but '.ref i' names cell i of the abstract heap and '.retAddr k' the constant object k; ab_rv says which real value that is. -/
def ab_rv (N0 : Nat) (adS : Nat → Nat) (v : Value) : Value := match v with
  | .ref i => .ref (N0 + i)
  | .retAddr k => .ref (adS k)
  | .int x => .int x
  | .long x => .long x
  | .float x => bif x == 1 then (bif adS 501 == 0 then .null else .ref (adS 501 - 1)) else .float x
  | .double x => .double x
  | .null => .null
theorem ab_rv_cat (N0 : Nat) (adS : Nat → Nat) (v : Value) : (ab_rv N0 adS v).category = v.category := by
  cases v
  case float x =>
    simp only [ab_rv]
    cases x == 1
    · rfl
    · cases adS 501 == 0 <;> rfl
  all_goals rfl
abbrev ab_L : Type := List (Nat × Value)
def ab_rl (N0 : Nat) (adS : Nat → Nat) (l : ab_L) : ab_L := l.map (fun q => (q.1, ab_rv N0 adS q.2))
/-- the length of an instruction (0: a switch, whose length isn't asked) -/
def ab_len (i : Instr) : Nat := match i with
  | .bipush _ => 2 | .sipush _ => 3 | .iload _ => 2 | .aload _ => 2 | .lload _ => 2 | .istore _ => 2 | .astore _ => 2 | .lstore _ => 2 | .iinc _ _ => 3
  | .ldc _ => 2 | .ldc_w _ => 3 | .ldc2_w _ => 3 | .getstatic _ => 3 | .getfield _ => 3 | .putfield _ => 3 | .new _ => 3 | .newarray _ => 2
  | .invokevirtual _ => 3 | .invokespecial _ => 3 | .invokestatic _ => 3 | .ifCond _ _ => 3 | .if_icmp _ _ => 3 | .if_acmp _ _ => 3 | .ifnull _ => 3 | .ifnonnull _ => 3 | .goto _ => 3
  | .tableswitch _ _ _ _ => 0 | .lookupswitch _ _ => 0 | _ => 1
def ab_ii (f : Int32 → Int32 → Int32) (st : List Value) : Option (List Value) := match st with
  | .int y :: .int x :: r => some (.int (f x y) :: r)
  | _ => none
def ab_dv (f : Int32 → Int32 → Int32) (st : List Value) : Option (List Value) := match st with
  | .int y :: .int x :: r => if y = 0 then none else some (.int (f x y) :: r)
  | _ => none
def ab_i1 (f : Int32 → Value) (st : List Value) : Option (List Value) := match st with
  | .int x :: r => some (f x :: r)
  | _ => none
def ab_ll (f : Int64 → Int64 → Value) (st : List Value) : Option (List Value) := match st with
  | .long y :: .long x :: r => some (f x y :: r)
  | _ => none
def ab_lsh (st : List Value) : Option (List Value) := match st with
  | .int y :: .long x :: r => some (.long (x <<< (y.toInt64 &&& 63)) :: r)
  | _ => none
def ab_s1 (f : Value → List Value) (st : List Value) : Option (List Value) := match st with
  | a :: r => if a.category = 1 then some (f a ++ r) else none
  | _ => none
def ab_s2 (f : Value → Value → List Value) (st : List Value) : Option (List Value) := match st with
  | a :: b :: r => if a.category = 1 ∧ b.category = 1 then some (f a b ++ r) else none
  | _ => none
/-- steps on the operand stack alone -/
def ab_op (i : Instr) (st : List Value) : Option (List Value) := match i with
  | .iconst n => some (.int (Int32.ofInt n) :: st)
  | .bipush n => some (.int (Int8.ofInt n).toInt32 :: st)
  | .sipush n => some (.int (Int16.ofInt n).toInt32 :: st)
  | .lconst n => some (.long (Int64.ofNat (n : Nat)) :: st)
  | .aconst_null => some (.null :: st)
  | .iadd => ab_ii (fun x y => x + y) st
  | .isub => ab_ii (fun x y => x - y) st
  | .imul => ab_ii (fun x y => x * y) st
  | .iand => ab_ii (fun x y => x &&& y) st
  | .ior => ab_ii (fun x y => x ||| y) st
  | .ixor => ab_ii (fun x y => x ^^^ y) st
  | .ishl => ab_ii (fun x y => x <<< (y &&& 31)) st
  | .ishr => ab_ii (fun x y => x >>> (y &&& 31)) st
  | .iushr => ab_ii (fun x y => (x.toUInt32 >>> (y.toUInt32 &&& Int32.toUInt32 31)).toInt32) st
  | .idiv => ab_dv (fun x y => x / y) st
  | .irem => ab_dv (fun x y => x - x / y * y) st
  | .ineg => ab_i1 (fun x => .int (-x)) st
  | .i2b => ab_i1 (fun x => .int x.toInt8.toInt32) st
  | .i2c => ab_i1 (fun x => .int (x.toUInt32 % 65536).toInt32) st
  | .i2l => ab_i1 (fun x => .long x.toInt64) st
  | .lor => ab_ll (fun x y => .long (x ||| y)) st
  | .lcmp => ab_ll (fun x y => .int (lg_cmp x y)) st
  | .lshl => ab_lsh st
  | .dup => ab_s1 (fun a => [a, a]) st
  | .pop => ab_s1 (fun _ => []) st
  | .dup_x1 => ab_s2 (fun a b => [a, b, a]) st
  | .dup2 => ab_s2 (fun a b => [a, b, a, b]) st
  | _ => none
def ab_get (l : ab_L) (i : Nat) : Option Value := (l.find? (fun q => q.1 == i)).map (fun q => q.2)
def ab_k (w : Nat) (v : Option Value) : Option Value := match v with
  | some (.int x) => if w = 0 then some (.int x) else none
  | some (.long x) => if w = 1 then some (.long x) else none
  | some (.ref x) => if w = 2 then some (.ref x) else none
  | some (.retAddr x) => if w = 2 then some (.retAddr x) else none
  | some .null => if w = 2 then some .null else none
  | _ => none
/-- loads: which value comes -/
def ab_ld (i : Instr) (l : ab_L) : Option Value := match i with
  | .iload k => ab_k 0 (ab_get l k)
  | .iload_n k => ab_k 0 (ab_get l k)
  | .lload k => ab_k 1 (ab_get l k)
  | .lload_n k => ab_k 1 (ab_get l k)
  | .aload k => ab_k 2 (ab_get l k)
  | .aload_n k => ab_k 2 (ab_get l k)
  | _ => none
def ab_set1 (l : ab_L) (i : Nat) (v : Value) : ab_L := (i, v) :: l.filter (fun q => !(q.1 == i) && !(q.1 + 1 == i && q.2.category == 2))
def ab_set2 (l : ab_L) (i : Nat) (v : Value) : ab_L := (i, v) :: l.filter (fun q => !(q.1 == i) && (!(q.1 == i + 1) && !(q.1 + 1 == i && q.2.category == 2)))
def ab_st1 (w nL k : Nat) (l : ab_L) (st : List Value) : Option (ab_L × List Value) := match st with
  | v :: r => match ab_k w (some v) with
    | some v' => if k < nL then some (ab_set1 l k v', r) else none
    | none => none
  | _ => none
def ab_st2 (nL k : Nat) (l : ab_L) (st : List Value) : Option (ab_L × List Value) := match st with
  | .long x :: r => if k + 1 < nL then some (ab_set2 l k (.long x), r) else none
  | _ => none
/-- stores and iinc -/
def ab_sto (nL : Nat) (i : Instr) (l : ab_L) (st : List Value) : Option (ab_L × List Value) := match i with
  | .istore k => ab_st1 0 nL k l st
  | .istore_n k => ab_st1 0 nL k l st
  | .astore k => ab_st1 2 nL k l st
  | .astore_n k => ab_st1 2 nL k l st
  | .lstore k => ab_st2 nL k l st
  | .lstore_n k => ab_st2 nL k l st
  | .iinc k n => match ab_get l k with
    | some (.int x) => if k < nL then some (ab_set1 l k (.int (x + Int32.ofInt n)), st) else none
    | _ => none
  | _ => none
def ab_if1 (f : Int32 → Bool) (tgt nxt : Nat) (st : List Value) : Option (Nat × List Value) := match st with
  | .int x :: r => some (bif f x then tgt else nxt, r)
  | _ => none
def ab_if2 (f : Int32 → Int32 → Bool) (tgt nxt : Nat) (st : List Value) : Option (Nat × List Value) := match st with
  | .int y :: .int x :: r => some (bif f x y then tgt else nxt, r)
  | _ => none
def ab_nul (a b : Nat) (st : List Value) : Option (Nat × List Value) := match st with
  | .null :: r => some (a, r)
  | .ref _ :: r => some (b, r)
  | .retAddr _ :: r => some (b, r)
  | _ => none
def ab_tsw (pc : Nat) (dflt lo hi : Int) (offs : Array Int) (st : List Value) : Option (Nat × List Value) := match st with
  | .int x :: r =>
    let off := if x.toInt < lo ∨ hi < x.toInt then some dflt else offs[(x.toInt - lo).toNat]?
    match off with
    | some o => if 0 ≤ (pc : Int) + o then some (((pc : Int) + o).toNat, r) else none
    | none => none
  | _ => none
def ab_lsw (pc : Nat) (dflt : Int) (ps : Array (Int × Int)) (st : List Value) : Option (Nat × List Value) := match st with
  | .int x :: r =>
    if (ps.toList.zip (ps.toList.drop 1)).all (fun (a, next) => a.1 < next.1) = true ∧ 0 ≤ (pc : Int) + Op.lookupswitch.offset ps.toList dflt x.toInt then some (((pc : Int) + Op.lookupswitch.offset ps.toList dflt x.toInt).toNat, r) else none
  | _ => none
/-- branches: where it goes on -/
def ab_br (i : Instr) (pc tgt : Nat) (st : List Value) : Option (Nat × List Value) := match i with
  | .goto _ => some (tgt, st)
  | .ifCond .eq _ => ab_if1 (fun x => x == 0) tgt (pc + 3) st
  | .ifCond .ne _ => ab_if1 (fun x => x != 0) tgt (pc + 3) st
  | .ifCond .lt _ => ab_if1 (fun x => decide (x < 0)) tgt (pc + 3) st
  | .ifCond .ge _ => ab_if1 (fun x => decide (0 ≤ x)) tgt (pc + 3) st
  | .ifCond .gt _ => ab_if1 (fun x => decide (0 < x)) tgt (pc + 3) st
  | .ifCond .le _ => ab_if1 (fun x => decide (x ≤ 0)) tgt (pc + 3) st
  | .if_icmp .eq _ => ab_if2 (fun x y => x == y) tgt (pc + 3) st
  | .if_icmp .ne _ => ab_if2 (fun x y => x != y) tgt (pc + 3) st
  | .if_icmp .lt _ => ab_if2 (fun x y => decide (x < y)) tgt (pc + 3) st
  | .if_icmp .ge _ => ab_if2 (fun x y => decide (y ≤ x)) tgt (pc + 3) st
  | .if_icmp .gt _ => ab_if2 (fun x y => decide (y < x)) tgt (pc + 3) st
  | .if_icmp .le _ => ab_if2 (fun x y => decide (x ≤ y)) tgt (pc + 3) st
  | .ifnull _ => ab_nul tgt (pc + 3) st
  | .ifnonnull _ => ab_nul (pc + 3) tgt st
  | .tableswitch dflt lo hi offs => ab_tsw pc dflt lo hi offs st
  | .lookupswitch dflt ps => ab_lsw pc dflt ps st
  | _ => none
/-- the target that stands beside a branch is the one of its offset -/
def ab_tok (i : Instr) (pc tgt : Nat) : Bool := match i with
  | .goto o => (pc : Int) + o == (tgt : Int)
  | .ifCond _ o => (pc : Int) + o == (tgt : Int)
  | .if_icmp _ o => (pc : Int) + o == (tgt : Int)
  | .if_acmp _ o => (pc : Int) + o == (tgt : Int)
  | .ifnull o => (pc : Int) + o == (tgt : Int)
  | .ifnonnull o => (pc : Int) + o == (tgt : Int)
  | _ => true
theorem ab_rl_get {N0 : Nat} {adS : Nat → Nat} {ls : Array Slot} {nL : Nat} {l : ab_L} (h : lv_has ls nL (ab_rl N0 adS l)) {i : Nat} {v : Value} (hg : ab_get l i = some v) : ls[i]? = some (.val (ab_rv N0 adS v)) := by
  unfold ab_get at hg
  cases hf : l.find? (fun q => q.1 == i) with
  | none => rw [hf] at hg; cases hg
  | some q =>
    rw [hf] at hg
    have h1 : q.1 = i := by simpa using List.find?_some hf
    have h2 := List.mem_of_find?_eq_some hf
    cases hg
    rw [← h1]
    exact h.2.2 (q.1, ab_rv N0 adS q.2) (List.mem_map.mpr ⟨q, h2, rfl⟩)
theorem ab_rl_set1 (N0 : Nat) (adS : Nat → Nat) (l : ab_L) (i : Nat) (v : Value) : (i, ab_rv N0 adS v) :: (ab_rl N0 adS l).filter (fun q => !(q.1 == i) && !(q.1 + 1 == i && q.2.category == 2)) = ab_rl N0 adS (ab_set1 l i v) := by
  unfold ab_rl ab_set1
  rw [List.map_cons, List.filter_map]
  congr 2
  apply List.filter_congr
  intro q _
  simp [Function.comp, ab_rv_cat]
theorem ab_rl_set2 (N0 : Nat) (adS : Nat → Nat) (l : ab_L) (i : Nat) (v : Value) : (i, ab_rv N0 adS v) :: (ab_rl N0 adS l).filter (fun q => !(q.1 == i) && (!(q.1 == i + 1) && !(q.1 + 1 == i && q.2.category == 2))) = ab_rl N0 adS (ab_set2 l i v) := by
  unfold ab_rl ab_set2
  rw [List.map_cons, List.filter_map]
  congr 2
  apply List.filter_congr
  intro q _
  simp [Function.comp, ab_rv_cat]
section AB3
variable {p : Program} {l : Launch} {e : Env} {R : Room} {s : State} {m : MethodId} {args : Array Value} {below : List Frame} {meth : Method} {c : Code} {H : Heap} {locs : List Loc} {cells slots : Nat} {Q : State → Prop} {cc : ByteArray} {pc : Nat} {ls : Array Slot} {N0 : Nat} {adS : Nat → Nat}

set_option maxHeartbeats 4000000 in
theorem ab_op_sim {i : Instr} {st st' : List Value} (hx : p.tables.exec = Jvm.exec) (hb : c.code = cc) (hd : decode cc pc = .ok (i, ab_len i)) (h : ab_op i st = some st')
    (k : W p l e R s m args below meth c H locs cells slots Q (F0 m (pc + ab_len i) ls (st'.map (ab_rv N0 adS)))) : W p l e R s m args below meth c H locs cells slots Q (F0 m pc ls (st.map (ab_rv N0 adS))) := by
  cases i
  case iconst n => cases h; exact lv_iconst hx hb hd rfl k
  case bipush n => cases h; exact lv_bipush hx hb hd rfl k
  case sipush n => cases h; exact lv_sipush hx hb hd rfl k
  case lconst n => cases h; exact lv_lconst hx hb hd rfl k
  case aconst_null => cases h; exact lv_null hx hb hd k
  case iadd => simp only [ab_op, ab_ii] at h; split at h <;> first | (cases h; done) | (cases h; exact lv_iadd hx hb hd k)
  case isub => simp only [ab_op, ab_ii] at h; split at h <;> first | (cases h; done) | (cases h; exact lv_isub hx hb hd k)
  case imul => simp only [ab_op, ab_ii] at h; split at h <;> first | (cases h; done) | (cases h; exact lv_imul hx hb hd k)
  case iand => simp only [ab_op, ab_ii] at h; split at h <;> first | (cases h; done) | (cases h; exact lv_iand hx hb hd k)
  case ior => simp only [ab_op, ab_ii] at h; split at h <;> first | (cases h; done) | (cases h; exact lv_ior hx hb hd k)
  case ixor => simp only [ab_op, ab_ii] at h; split at h <;> first | (cases h; done) | (cases h; exact lv_ixor hx hb hd k)
  case ishl => simp only [ab_op, ab_ii] at h; split at h <;> first | (cases h; done) | (cases h; exact lv_ishl hx hb hd k)
  case ishr => simp only [ab_op, ab_ii] at h; split at h <;> first | (cases h; done) | (cases h; exact lv_ishr hx hb hd k)
  case iushr => simp only [ab_op, ab_ii] at h; split at h <;> first | (cases h; done) | (cases h; exact lv_iushr hx hb hd rfl k)
  case idiv => simp only [ab_op, ab_dv] at h; split at h; (split at h; (cases h); (cases h; exact lv_idiv hx hb hd (by assumption) k)); (cases h)
  case irem => simp only [ab_op, ab_dv] at h; split at h; (split at h; (cases h); (cases h; exact lv_irem hx hb hd (by assumption) k)); (cases h)
  case ineg => simp only [ab_op, ab_i1] at h; split at h <;> first | (cases h; done) | (cases h; exact lv_ineg hx hb hd k)
  case i2b => simp only [ab_op, ab_i1] at h; split at h <;> first | (cases h; done) | (cases h; exact lv_i2b hx hb hd rfl k)
  case i2c => simp only [ab_op, ab_i1] at h; split at h <;> first | (cases h; done) | (cases h; exact lv_i2c hx hb hd rfl k)
  case i2l => simp only [ab_op, ab_i1] at h; split at h <;> first | (cases h; done) | (cases h; exact lv_i2l hx hb hd rfl k)
  case lor => simp only [ab_op, ab_ll] at h; split at h <;> first | (cases h; done) | (cases h; exact lv_lor hx hb hd k)
  case lcmp => simp only [ab_op, ab_ll] at h; split at h <;> first | (cases h; done) | (cases h; exact W.lcmp hx hb hd k)
  case lshl => simp only [ab_op, ab_lsh] at h; split at h <;> first | (cases h; done) | (cases h; exact lv_lshl hx hb hd rfl k)
  case dup => simp only [ab_op, ab_s1] at h; split at h; (split at h; (cases h; rename_i hc; exact lv_dup hx hb hd ((ab_rv_cat _ _ _).trans hc) k); (cases h)); (cases h)
  case pop => simp only [ab_op, ab_s1] at h; split at h; (split at h; (cases h; rename_i hc; exact lv_pop hx hb hd ((ab_rv_cat _ _ _).trans hc) k); (cases h)); (cases h)
  case dup_x1 => simp only [ab_op, ab_s2] at h; split at h; (split at h; (cases h; rename_i hc; exact lv_dup_x1 hx hb hd ((ab_rv_cat _ _ _).trans hc.1) ((ab_rv_cat _ _ _).trans hc.2) k); (cases h)); (cases h)
  case dup2 => simp only [ab_op, ab_s2] at h; split at h; (split at h; (cases h; rename_i hc; exact lv_dup2_11 hx hb hd ((ab_rv_cat _ _ _).trans hc.1) ((ab_rv_cat _ _ _).trans hc.2) k); (cases h)); (cases h)
  all_goals (simp only [ab_op, reduceCtorEq] at h)
set_option maxHeartbeats 4000000 in
theorem ab_ld_sim {i : Instr} {v : Value} {nL : Nat} {lv : ab_L} {rest : List Value} (hx : p.tables.exec = Jvm.exec) (hb : c.code = cc) (hd : decode cc pc = .ok (i, ab_len i)) (hl : lv_has ls nL (ab_rl N0 adS lv)) (h : ab_ld i lv = some v)
    (k : W p l e R s m args below meth c H locs cells slots Q (F0 m (pc + ab_len i) ls (ab_rv N0 adS v :: rest))) : W p l e R s m args below meth c H locs cells slots Q (F0 m pc ls rest) := by
  cases i
  case iload q => simp only [ab_ld, ab_k] at h; split at h <;> first | (cases h; done) | (rename_i hg; split at h <;> first | (cases h; done) | (rename_i hw; first | (exact absurd hw (by decide)) | (cases h; (exact lv_iload hx hb hd (ab_rl_get hl hg) k))))
  case iload_n q => simp only [ab_ld, ab_k] at h; split at h <;> first | (cases h; done) | (rename_i hg; split at h <;> first | (cases h; done) | (rename_i hw; first | (exact absurd hw (by decide)) | (cases h; (exact lv_iload_n hx hb hd rfl (ab_rl_get hl hg) k))))
  case lload q => simp only [ab_ld, ab_k] at h; split at h <;> first | (cases h; done) | (rename_i hg; split at h <;> first | (cases h; done) | (rename_i hw; first | (exact absurd hw (by decide)) | (cases h; (exact lv_lload hx hb hd (ab_rl_get hl hg) k))))
  case lload_n q => simp only [ab_ld, ab_k] at h; split at h <;> first | (cases h; done) | (rename_i hg; split at h <;> first | (cases h; done) | (rename_i hw; first | (exact absurd hw (by decide)) | (cases h; (exact lv_lload_n hx hb hd rfl (ab_rl_get hl hg) k))))
  case aload q => simp only [ab_ld, ab_k] at h; split at h <;> first | (cases h; done) | (rename_i hg; split at h <;> first | (cases h; done) | (rename_i hw; first | (exact absurd hw (by decide)) | (cases h; (first | exact lv_aload hx hb hd (ab_rl_get hl hg) k | exact lv_aloadN hx hb hd (ab_rl_get hl hg) k))))
  case aload_n q => simp only [ab_ld, ab_k] at h; split at h <;> first | (cases h; done) | (rename_i hg; split at h <;> first | (cases h; done) | (rename_i hw; first | (exact absurd hw (by decide)) | (cases h; (first | exact lv_aload_n hx hb hd rfl (ab_rl_get hl hg) k | exact lv_aload_nN hx hb hd rfl (ab_rl_get hl hg) k))))
  all_goals (simp only [ab_ld, reduceCtorEq] at h)
set_option maxHeartbeats 4000000 in
theorem ab_sto_sim {i : Instr} {nL : Nat} {lv lv' : ab_L} {st st' : List Value} (hx : p.tables.exec = Jvm.exec) (hb : c.code = cc) (hd : decode cc pc = .ok (i, ab_len i)) (hl : lv_has ls nL (ab_rl N0 adS lv)) (h : ab_sto nL i lv st = some (lv', st'))
    (k : ∀ ls' : Array Slot, lv_has ls' nL (ab_rl N0 adS lv') → W p l e R s m args below meth c H locs cells slots Q (F0 m (pc + ab_len i) ls' (st'.map (ab_rv N0 adS)))) : W p l e R s m args below meth c H locs cells slots Q (F0 m pc ls (st.map (ab_rv N0 adS))) := by
  cases i
  case istore q =>
    simp only [ab_sto] at h
    unfold ab_st1 at h
    split at h
    · rename_i v r
      cases v <;> simp [ab_k] at h
      · rename_i x; obtain ⟨hn, rfl, rfl⟩ := h; exact lv_istore hx hb hd hl hn (ab_rl_set1 N0 adS lv _ (.int x)) k
    · cases h
  case istore_n q =>
    simp only [ab_sto] at h
    unfold ab_st1 at h
    split at h
    · rename_i v r
      cases v <;> simp [ab_k] at h
      · rename_i x; obtain ⟨hn, rfl, rfl⟩ := h; exact lv_istore_n hx hb hd rfl hl hn (ab_rl_set1 N0 adS lv _ (.int x)) k
    · cases h
  case astore q =>
    simp only [ab_sto] at h
    unfold ab_st1 at h
    split at h
    · rename_i v r
      cases v <;> simp [ab_k] at h
      · obtain ⟨hn, rfl, rfl⟩ := h; exact lv_astoreN hx hb hd hl hn (ab_rl_set1 N0 adS lv _ (.null)) k
      · rename_i x; obtain ⟨hn, rfl, rfl⟩ := h; exact lv_astore hx hb hd hl hn (ab_rl_set1 N0 adS lv _ (.ref x)) k
      · rename_i x; obtain ⟨hn, rfl, rfl⟩ := h; exact lv_astore hx hb hd hl hn (ab_rl_set1 N0 adS lv _ (.retAddr x)) k
    · cases h
  case astore_n q =>
    simp only [ab_sto] at h
    unfold ab_st1 at h
    split at h
    · rename_i v r
      cases v <;> simp [ab_k] at h
      · obtain ⟨hn, rfl, rfl⟩ := h; exact lv_astore_nN hx hb hd rfl hl hn (ab_rl_set1 N0 adS lv _ (.null)) k
      · rename_i x; obtain ⟨hn, rfl, rfl⟩ := h; exact lv_astore_n hx hb hd rfl hl hn (ab_rl_set1 N0 adS lv _ (.ref x)) k
      · rename_i x; obtain ⟨hn, rfl, rfl⟩ := h; exact lv_astore_n hx hb hd rfl hl hn (ab_rl_set1 N0 adS lv _ (.retAddr x)) k
    · cases h
  case lstore q =>
    simp only [ab_sto, ab_st2] at h
    split at h
    · split at h
      · rename_i hn
        cases h
        exact lv_lstore hx hb hd hl hn (ab_rl_set2 N0 adS lv _ (.long _)) k
      · cases h
    · cases h
  case lstore_n q =>
    simp only [ab_sto, ab_st2] at h
    split at h
    · split at h
      · rename_i hn
        cases h
        exact lv_lstore_n hx hb hd rfl hl hn (ab_rl_set2 N0 adS lv _ (.long _)) k
      · cases h
    · cases h
  case iinc q n =>
    simp only [ab_sto] at h
    split at h
    · rename_i x hg
      split at h
      · rename_i hn
        cases h
        unfold ab_get at hg
        cases hf : lv.find? (fun z => z.1 == q) with
        | none => rw [hf] at hg; cases hg
        | some z =>
          rw [hf] at hg
          have h1 : z.1 = q := by simpa using List.find?_some hf
          obtain ⟨j, hj⟩ := List.getElem?_of_mem (List.mem_of_find?_eq_some hf)
          have hz : z = (q, .int x) := by
            cases z
            cases hg
            cases h1
            rfl
          subst hz
          exact lv_iinc hx hb hd hl (k := j) (by unfold ab_rl; rw [List.getElem?_map, hj]; rfl) rfl hn (ab_rl_set1 N0 adS lv _ (.int (x + Int32.ofInt n))) k
      · cases h
    · cases h
  all_goals (simp only [ab_sto, reduceCtorEq] at h)
set_option maxHeartbeats 4000000 in
theorem ab_br_sim {i : Instr} {tgt pc' n : Nat} {st st' : List Value} (hx : p.tables.exec = Jvm.exec) (hb : c.code = cc) (hd : decode cc pc = .ok (i, n)) (hn : n = ab_len i ∨ ab_len i = 0) (ht : ab_tok i pc tgt = true) (h : ab_br i pc tgt st = some (pc', st'))
    (k : W p l e R s m args below meth c H locs cells slots Q (F0 m pc' ls (st'.map (ab_rv N0 adS)))) : W p l e R s m args below meth c H locs cells slots Q (F0 m pc ls (st.map (ab_rv N0 adS))) := by
  cases i
  case goto o =>
    have hn : n = 3 := hn.elim id (fun q => absurd q (by simp [ab_len]))
    subst hn
    have ht2 : (pc : Int) + o = (tgt : Int) := by simpa [ab_tok] using ht
    cases h
    exact lv_goto hx hb hd ht2 k
  case ifCond cd o =>
    have hn : n = 3 := hn.elim id (fun q => absurd q (by simp [ab_len]))
    subst hn
    have ht2 : (pc : Int) + o = (tgt : Int) := by simpa [ab_tok] using ht
    cases cd
    case eq =>
      simp only [ab_br, ab_if1] at h
      split at h
      · rename_i x r
        cases h
        exact lv_if_eq hx hb hd ht2 (fun q => by rw [show (x == 0) = true by simpa using q] at k; exact k) (fun q => by rw [show (x == 0) = false by simpa using q] at k; exact k)
      · cases h
    case ne =>
      simp only [ab_br, ab_if1] at h
      split at h
      · rename_i x r
        cases h
        exact lv_if_ne hx hb hd ht2 (fun q => by rw [show (x != 0) = true by simpa using q] at k; exact k) (fun q => by rw [show (x != 0) = false by simpa using q] at k; exact k)
      · cases h
    case lt =>
      simp only [ab_br, ab_if1] at h
      split at h
      · rename_i x r
        cases h
        exact lv_if_lt hx hb hd ht2 (fun q => by rw [show decide (x < 0) = true by simpa using q] at k; exact k) (fun q => by rw [show decide (x < 0) = false by simpa using q] at k; exact k)
      · cases h
    case ge =>
      simp only [ab_br, ab_if1] at h
      split at h
      · rename_i x r
        cases h
        exact lv_if_ge hx hb hd ht2 (fun q => by rw [show decide (0 ≤ x) = true by simpa using q] at k; exact k) (fun q => by rw [show decide (0 ≤ x) = false by simpa using q] at k; exact k)
      · cases h
    case gt =>
      simp only [ab_br, ab_if1] at h
      split at h
      · rename_i x r
        cases h
        exact lv_if_gt hx hb hd ht2 (fun q => by rw [show decide (0 < x) = true by simpa using q] at k; exact k) (fun q => by rw [show decide (0 < x) = false by simpa using q] at k; exact k)
      · cases h
    case le =>
      simp only [ab_br, ab_if1] at h
      split at h
      · rename_i x r
        cases h
        exact lv_if_le hx hb hd ht2 (fun q => by rw [show decide (x ≤ 0) = true by simpa using q] at k; exact k) (fun q => by rw [show decide (x ≤ 0) = false by simpa using q] at k; exact k)
      · cases h
  case if_icmp cd o =>
    have hn : n = 3 := hn.elim id (fun q => absurd q (by simp [ab_len]))
    subst hn
    have ht2 : (pc : Int) + o = (tgt : Int) := by simpa [ab_tok] using ht
    cases cd
    case eq =>
      simp only [ab_br, ab_if2] at h
      split at h
      · rename_i y x r
        cases h
        exact lv_icmp_eq hx hb hd ht2 (fun q => by rw [show (x == y) = true by simpa using q] at k; exact k) (fun q => by rw [show (x == y) = false by simpa using q] at k; exact k)
      · cases h
    case ne =>
      simp only [ab_br, ab_if2] at h
      split at h
      · rename_i y x r
        cases h
        exact lv_icmp_ne hx hb hd ht2 (fun q => by rw [show (x != y) = true by simpa using q] at k; exact k) (fun q => by rw [show (x != y) = false by simpa using q] at k; exact k)
      · cases h
    case lt =>
      simp only [ab_br, ab_if2] at h
      split at h
      · rename_i y x r
        cases h
        exact lv_icmp_lt hx hb hd ht2 (fun q => by rw [show decide (x < y) = true by simpa using q] at k; exact k) (fun q => by rw [show decide (x < y) = false by simpa using q] at k; exact k)
      · cases h
    case ge =>
      simp only [ab_br, ab_if2] at h
      split at h
      · rename_i y x r
        cases h
        exact lv_icmp_ge hx hb hd ht2 (fun q => by rw [show decide (y ≤ x) = true by simpa using q] at k; exact k) (fun q => by rw [show decide (y ≤ x) = false by simpa using q] at k; exact k)
      · cases h
    case gt =>
      simp only [ab_br, ab_if2] at h
      split at h
      · rename_i y x r
        cases h
        exact lv_icmp_gt hx hb hd ht2 (fun q => by rw [show decide (y < x) = true by simpa using q] at k; exact k) (fun q => by rw [show decide (y < x) = false by simpa using q] at k; exact k)
      · cases h
    case le =>
      simp only [ab_br, ab_if2] at h
      split at h
      · rename_i y x r
        cases h
        exact lv_icmp_le hx hb hd ht2 (fun q => by rw [show decide (x ≤ y) = true by simpa using q] at k; exact k) (fun q => by rw [show decide (x ≤ y) = false by simpa using q] at k; exact k)
      · cases h
  case ifnull o =>
    have hn : n = 3 := hn.elim id (fun q => absurd q (by simp [ab_len]))
    subst hn
    have ht2 : (pc : Int) + o = (tgt : Int) := by simpa [ab_tok] using ht
    simp only [ab_br, ab_nul] at h
    split at h <;> first | (cases h; done) | (cases h; first | exact lv_ifnullN hx hb hd ht2 k | exact lv_ifnull hx hb hd k)
  case ifnonnull o =>
    have hn : n = 3 := hn.elim id (fun q => absurd q (by simp [ab_len]))
    subst hn
    have ht2 : (pc : Int) + o = (tgt : Int) := by simpa [ab_tok] using ht
    simp only [ab_br, ab_nul] at h
    split at h <;> first | (cases h; done) | (cases h; first | exact lv_ifnonnullN hx hb hd k | exact lv_ifnonnull hx hb hd ht2 k)
  case tableswitch dflt lo hi offs =>
    simp only [ab_br, ab_tsw] at h
    split at h
    · rename_i x r
      split at h
      · rename_i o ho
        split at h
        · rename_i h0
          cases h
          by_cases hc : x.toInt < lo ∨ hi < x.toInt
          · rw [if_pos hc] at ho
            cases ho
            exact lv_tableOut hx hb hd hc (by omega) k
          · rw [if_neg hc] at ho
            exact lv_tableIn hx hb hd (fun q => hc (Or.inl q)) (fun q => hc (Or.inr q)) ho (by omega) k
        · cases h
      · cases h
    · cases h
  case lookupswitch dflt ps =>
    simp only [ab_br, ab_lsw] at h
    split at h
    · split at h
      · rename_i h0
        cases h
        exact lv_lookup hx hb hd h0.1 rfl (by omega) k
      · cases h
    · cases h
  all_goals (simp only [ab_br, reduceCtorEq] at h)
end AB3
