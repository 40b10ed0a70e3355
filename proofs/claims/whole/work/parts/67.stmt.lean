/-! STATEMENTS: what a line does, as both programs have it. -/
/-- n bytes of v from the k-th on -/
def le (v : Int32) : Nat → Nat → List Int32
  | 0, _ => []
  | n + 1, k => (v >>> (nn (8 * k) &&& 31)).toInt8.toInt32 :: le v n (k + 1)
theorem le_len (v : Int32) : ∀ n k, (le v n k).length = n := by
  intro n
  induction n with
  | zero => intro k; rfl
  | succ n ih => intro k; rw [le, List.length_cons, ih]
/-- operands: d, a, b, the number, whether it is known early -/
abbrev Op := Int32 × Int32 × Int32 × Int32 × Bool
def op0 : Op := (0, 0, 0, 0, true)
def xReg (B : Nat → Nat) (ts : List Tk) : Option (Rx (Int32 × List Tk)) := match ts with
  | [] => none
  | t :: _ => xb (xExp 1 ts) fun r => match rg (tname B t) with
    | none => some (.inr (t.2.1, 1))
    | some n => some (.inl (nn n, r))
/-- a register's name comes -/
def isR (B : Nat → Nat) (ts : List Tk) : Bool := match ts with
  | [] => false
  | t :: _ => decide (t.1 = 1 ∧ ¬ rg (tname B t) = none)
/-- (a) stands where e(a) can be -/
def alone (B : Nat → Nat) (ps : List Int32) (ts : List Tk) : Bool := match ps, ts with
  | p :: _, t :: r => decide (p = 40 ∧ t.1 = 40 ∧ isR B r = true)
  | _, _ => false
/-- the operands, by the pattern -/
def xOps (E : Ev) : List Int32 → Op → List Tk → Option (Rx (Op × List Tk))
  | [], o, ts => some (.inl (o, ts))
  | p :: ps, o, ts =>
    if p = 97 then xb (xReg E.1 ts) fun q => xOps E ps (o.1, q.1, o.2.2) q.2
    else if p = 98 then xb (xReg E.1 ts) fun q => xOps E ps (o.1, o.2.1, q.1, o.2.2.2) q.2
    else if p = 100 then xb (xReg E.1 ts) fun q => xOps E ps (q.1, o.2) q.2
    else if p = 101 then (if alone E.1 ps ts = true then xOps E ps o ts else xb (xX E o.2.2.2.2 ts) fun q => xOps E ps (o.1, o.2.1, o.2.2.1, q.1, q.2.1) q.2.2)
    else if p = 110 then xb (xExp 1 ts) fun r => xOps E ps o r
    else xb (xExp p.toNatClampNeg ts) fun r => xOps E ps o r
/-- a list of expressions, so many bytes each -/
def xLst (E : Ev) (w : Nat) : Nat → Bool → List Tk → Option (Rx (List Int32 × Bool × List Tk))
  | 0, _, _ => none
  | u + 1, e, ts => xb (xX E e ts) fun q => match q.2.2 with
    | [] => none
    | t :: _ => if t.1 = 44 then xb (xExp 44 q.2.2) fun r => xb (xLst E w u q.2.1 r) fun l => some (.inl (le q.1 w 0 ++ l.1, l.2)) else some (.inl (le q.1 w 0, q.2.1, q.2.2))
/-- a name is new: neither a register's nor a symbol's -/
def isNew (B : Nat → Nat) (tb : List Sy) (t : Tk) : Bool := decide (rg (tname B t) = none ∧ sfind B tb (tname B t) = none)
def tsy (t : Tk) (sec : Nat) (v : Int32) (ln : Nat) : Sy := (t.2.1, t.2.2.2.1 - t.2.1, sec, v, ln)
/-- the labels of a line -/
def xLab (B : Nat → Nat) (ag : Bool) (sec : Nat) (off : Int32) (ln : Nat) : List Tk → List Sy → Rx (List Tk × List Sy)
  | t :: t2 :: r, tb => if t.1 = 1 ∧ t.2.2.2.2 = none ∧ t2.1 = 58 then (if ag = true then xLab B ag sec off ln r tb else if isNew B tb t = true then xLab B ag sec off ln r (tb ++ [tsy t sec off ln]) else .inr (t.2.1, 2)) else .inl (t :: t2 :: r, tb)
  | ts, tb => .inl (ts, tb)
/-- statement j: the number of its pattern, its form, its code -/
def sPat (j : Nat) : Nat := (ab_enm.getD j (0, 0, 0, 0)).2.1
def sFrm (j : Nat) : Int32 := (ab_enm.getD j (0, 0, 0, 0)).2.2.1
def sCod (j : Nat) : Int32 := (ab_enm.getD j (0, 0, 0, 0)).2.2.2
theorem en_j (j : Nat) : en (400 + j) = ab_enm.getD j (0, 0, 0, 0) := by unfold en; rw [Nat.add_sub_cancel_left]
theorem en_p (j : Nat) : (en (400 + j)).2.1 = sPat j := by rw [en_j]; rfl
theorem en_f (j : Nat) : (en (400 + j)).2.2.1 = sFrm j := by rw [en_j]; rfl
theorem en_c (j : Nat) : (en (400 + j)).2.2.2 = sCod j := by rw [en_j]; rfl
def pat (k : Nat) : List Int32 := ab_strs.getD k []
/-- jal and jalr have a shorter pattern, too -/
def xPat (B : Nat → Nat) (j : Nat) (ts : List Tk) : Nat × Int32 := if j = 39 ∧ isR B ts = false then (6, 1) else if j = 40 ∧ (match ts with | _ :: t :: _ => decide (t.1 = 44) | _ => false) = false then (7, 1) else (sPat j, 0)
/-- what is read: operands, bytes of a list or a string, a new constant, the tokens left -/
abbrev Rd := Op × List Int32 × Option Sy × List Tk
def xEqu (B : Nat → Nat) (ag : Bool) (tb : List Sy) (ln : Nat) (E : Ev) (ts : List Tk) : Option (Rx Rd) := match ts with
  | [] => none
  | t :: _ => xb (xExp 1 ts) fun r => if ag = false ∧ isNew B tb t = false then some (.inr (t.2.1, 2)) else xb (xExp 44 r) fun r2 => xb (xX E true r2) fun q => some (.inl ((0, 0, 0, 0, q.2.1), [], if ag = true then none else some (tsy t 2 q.1 ln), q.2.2))
def xStr (B : Nat → Nat) (z : Nat) (zeros : Nat) (ts : List Tk) : Option (Rx Rd) := match ts with
  | [] => none
  | t :: _ => xb (xExp 3 ts) fun r => some (.inl (op0, (strL B z (z - t.2.1) (t.2.1 + 1)).map nn ++ List.replicate zeros 0, none, r))
def eMode (ag : Bool) (f : Int32) : Nat := if f = 4 ∨ f = 5 ∨ f = 6 then 0 else if ag = true then 2 else 1
def xRead (B : Nat → Nat) (z : Nat) (ag : Bool) (tb : List Sy) (ln : Nat) (base here : Int32) (j : Nat) (ts : List Tk) : Option (Rx Rd) :=
  if sFrm j = 2 then xb (xLst (B, tb, ln, base, here, eMode ag (sFrm j)) (sCod j).toNatClampNeg (ts.length + 1) true ts) fun q => some (.inl ((0, 0, 0, 0, q.2.1), q.1, none, q.2.2))
  else if sFrm j = 3 then xStr B z (sCod j).toNatClampNeg ts
  else if sFrm j = 6 then xEqu B ag tb ln (B, tb, ln, base, here, eMode ag (sFrm j)) ts
  else xb (xOps (B, tb, ln, base, here, eMode ag (sFrm j)) (pat (xPat B j ts).1) ((xPat B j ts).2, op0.2) ts) fun q => some (.inl (q.1, [], none, q.2))
/-- li and la: whether the number is short -/
def isSh (o : Op) : Bool := o.2.2.2.2 && decide (¬ o.2.2.2.1 < -2048 ∧ ¬ (2047 : Int32) < o.2.2.2.1)
/-- how many bytes a statement has -/
def sSz (f : Int32) (off : Nat) (q : Rd) : Nat :=
  if f = 0 ∨ f = 1 ∨ f = 6 then 0 else if f = 2 ∨ f = 3 then q.2.1.length else if f = 4 then q.1.2.2.2.1.toNatClampNeg else if f = 5 then (2 ^ q.1.2.2.2.1.toNatClampNeg - off % 2 ^ q.1.2.2.2.1.toNatClampNeg) % 2 ^ q.1.2.2.2.1.toNatClampNeg else if f = 14 then 8 else if f = 15 then (if isSh q.1 = true then 4 else 8) else 4
/-- the errors of the first time behind the reading -/
def sChk (f : Int32) (off tot pl : Nat) (q : Rd) : Option (Nat × Nat) :=
  if 7 ≤ f ∧ ¬ off % 4 = 0 then some (pl, 7) else if f = 4 ∧ (q.1.2.2.2.1 < 0 ∨ (65420 : Int32) < q.1.2.2.2.1) then some (pl, 6) else if f = 5 ∧ (q.1.2.2.2.1 < 0 ∨ (12 : Int32) < q.1.2.2.2.1) then some (pl, 6) else if 65420 < tot + sSz f off q then some (pl, 6) else none
/-- what stands in the instruction's bits anyway -/
def sAlw (code : Int32) (o : Op) : Int32 := ((code ||| (o.1 <<< ((7 : Int32) &&& 31))) ||| (o.2.1 <<< ((15 : Int32) &&& 31))) ||| (o.2.2.1 <<< ((20 : Int32) &&& 31))
def sFar (o : Op) : List Int32 := le ((sCod 48 ||| (o.1 <<< ((7 : Int32) &&& 31))) ||| ((f77 o.2.2.2.1) <<< ((12 : Int32) &&& 31))) 4 0 ++ le (((sCod 12 ||| (o.1 <<< ((7 : Int32) &&& 31))) ||| (o.1 <<< ((15 : Int32) &&& 31))) ||| ((f78 o.2.2.2.1) <<< ((20 : Int32) &&& 31))) 4 0
/-- a number that doesn't fit -/
def sBad (f here : Int32) (o : Op) : Bool := decide (
  if f = 8 ∨ f = 10 then o.2.2.2.1 < -2048 ∨ (2047 : Int32) < o.2.2.2.1
  else if f = 9 then o.2.2.2.1 < 0 ∨ (31 : Int32) < o.2.2.2.1
  else if f = 12 then o.2.2.2.1 < 0 ∨ (1048575 : Int32) < o.2.2.2.1
  else if f = 11 then ¬ (o.2.2.2.1 - here) &&& 1 = 0 ∨ o.2.2.2.1 - here < -4096 ∨ (4096 : Int32) ≤ o.2.2.2.1 - here
  else if f = 13 then ¬ (o.2.2.2.1 - here) &&& 1 = 0 ∨ o.2.2.2.1 - here < -1048576 ∨ (1048576 : Int32) ≤ o.2.2.2.1 - here
  else False)
/-- the bytes of a statement, the second time -/
def sByt (f code here : Int32) (off : Nat) (q : Rd) : List Int32 :=
  if f = 2 ∨ f = 3 then q.2.1 else if f = 7 then le (sAlw code q.1) 4 0 else if f = 8 ∨ f = 9 then le (sAlw code q.1 ||| (q.1.2.2.2.1 <<< ((20 : Int32) &&& 31))) 4 0
  else if f = 10 then le ((sAlw code q.1 ||| ((q.1.2.2.2.1 >>> ((5 : Int32) &&& 31)) <<< ((25 : Int32) &&& 31))) ||| ((q.1.2.2.2.1 &&& (31 : Int32)) <<< ((7 : Int32) &&& 31))) 4 0
  else if f = 11 then le (sAlw code q.1 ||| f95 (q.1.2.2.2.1 - here)) 4 0
  else if f = 12 then le (sAlw code q.1 ||| (q.1.2.2.2.1 <<< ((12 : Int32) &&& 31))) 4 0
  else if f = 13 then le (sAlw code q.1 ||| f96 (q.1.2.2.2.1 - here)) 4 0
  else if f = 14 then sFar q.1
  else if f = 15 then (if isSh q.1 = true then le ((sCod 12 ||| (q.1.1 <<< ((7 : Int32) &&& 31))) ||| (q.1.2.2.2.1 <<< ((20 : Int32) &&& 31))) 4 0 else sFar q.1)
  else List.replicate (sSz f off q) 0
/-- a pass at a line: the symbols, the section, the bytes of both sections so far (the first time zeros) -/
abbrev Ps := List Sy × Nat × List Int32 × List Int32
def sEnd (P : Ps) : Nat := if P.2.1 = 0 then P.2.2.1.length else P.2.2.2.length
def sHere (P : Ps) (base : Int32) : Int32 := nn (sEnd P) + if P.2.1 = 1 then base else 0
def sAdd (P : Ps) (bs : List Int32) : Ps := if P.2.1 = 0 then (P.1, P.2.1, P.2.2.1 ++ bs, P.2.2.2) else (P.1, P.2.1, P.2.2.1, P.2.2.2 ++ bs)
def sSec (j : Nat) (P : Ps) : Ps := if sFrm j = 1 then (P.1, (sCod j).toNatClampNeg, P.2.2) else P
def oSy (o : Option Sy) : List Sy := match o with
  | none => []
  | some s => [s]
/-- what is done behind the reading of a statement, whose name stands at pl -/
def xDo (ag : Bool) (base : Int32) (j pl : Nat) (P : Ps) (q : Rd) : Option (Rx Ps) := match q.2.2.2 with
    | [] => none
    | t :: _ => if t.1 = 0 then
        (if ag = true then (if sBad (sFrm j) (sHere P base) q.1 = true then some (.inr (pl, 10)) else some (.inl (sSec j (sAdd P (sByt (sFrm j) (sCod j) (sHere P base) (sEnd P) q)))))
         else match sChk (sFrm j) (sEnd P) (P.2.2.1.length + P.2.2.2.length) pl q with
           | some p => some (.inr p)
           | none => some (.inl (sSec j (sAdd (P.1 ++ oSy q.2.2.1, P.2) (List.replicate (sSz (sFrm j) (sEnd P) q) 0)))))
      else some (.inr (t.2.1, 1))
def xStm (B : Nat → Nat) (z : Nat) (ag : Bool) (base : Int32) (ln j pl : Nat) (ts : List Tk) (P : Ps) : Option (Rx Ps) := xb (xRead B z ag P.1 ln base (sHere P base) j ts) (xDo ag base j pl P)
/-- a line -/
def xLine (B : Nat → Nat) (z : Nat) (ag : Bool) (base : Int32) (ln : Nat) (ts : List Tk) (P : Ps) : Option (Rx Ps) :=
  xb (some (xLab B ag P.2.1 (nn (sEnd P)) ln ts P.1)) fun l => match l.1 with
    | [] => none
    | t :: _ => if t.1 = 0 then some (.inl (l.2, P.2)) else xb (xExp 1 l.1) fun r => match stOf (tname B t) with
      | none => some (.inr (t.2.1, 3))
      | some j => xStm B z ag base ln j t.2.1 r (l.2, P.2)
