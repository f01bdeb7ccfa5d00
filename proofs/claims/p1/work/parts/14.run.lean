/-! THE ABSTRACT MACHINE, 4: a step of a method, what its tables must say, and a run -/
def zall (n : Nat) (lv stk : List Value) (st : zS) : Bool := lv.all (zsc n) && stk.all (zsc n) && st.all (zscC n) && decide (n < 500)
def znew (fs : List Value) (ci N MC MS pc : Nat) (lv stk : List Value) (st : zS) (c s : Nat) : zO :=
  if zall st.length lv stk st = true ∧ c + 1 ≤ MC ∧ s + N ≤ MS then zn (pc + 3) lv (.ref st.length :: stk) (st ++ [.inl (ci, fs)]) (c + 1) (s + N) else none
def znewN (t MC MS pc : Nat) (lv stk : List Value) (st : zS) (c s : Nat) : zO := match stk with
  | .int n :: r => if zall st.length lv r st = true ∧ ¬ n < 0 ∧ c + 1 ≤ MC ∧ s + n.toNatClampNeg ≤ MS ∧ n.toNatClampNeg ≤ 60000000 then zn (pc + 2) lv (.ref st.length :: r) (st ++ [.inr (.inl (t, n.toNatClampNeg, 0, []))]) (c + 1) (s + n.toNatClampNeg) else none
  | _ => none
def znewA (t MC MS pc : Nat) (lv stk : List Value) (st : zS) (c s : Nat) : zO := match stk with
  | .int n :: r => if zall st.length lv r st = true ∧ ¬ n < 0 ∧ c + 1 ≤ MC ∧ s + n.toNatClampNeg ≤ MS ∧ n.toNatClampNeg ≤ 60000000 then zn (pc + 3) lv (.ref st.length :: r) (st ++ [.inr (.inr (t, List.replicate n.toNatClampNeg none))]) (c + 1) (s + n.toNatClampNeg) else none
  | _ => none
/-- ci: the class of what is put; 400: a constant text -/
def zastV (ci v : Nat) (st : zS) : Bool := if ci = 400 then decide (500 ≤ v) && (zstrs[v - 500]?).isSome else match st[v]? with
  | some (.inl (ci', _)) => decide (ci' = ci)
  | _ => false
def zastA (t ci pc : Nat) (lv stk : List Value) (st : zS) (c s : Nat) : zO := match stk with
  | .ref v :: .int i :: .ref a :: r => match st[a]? with
    | some (.inr (.inr (t', rs))) => if t' = t ∧ zin i rs.length = true ∧ zastV ci v st = true then zn (pc + 1) lv r (st.set a (.inr (.inr (t, rs.set i.toNatClampNeg (some v))))) c s else none
    | _ => none
  | _ => none
def zmin (pc : Nat) (lv stk : List Value) (st : zS) (c s : Nat) : zO := match stk with
  | .int y :: .int x :: r => if (r.map fun v => v.category).sum ≤ 8 then zn (pc + 3) lv (.int (if y < x then y else x) :: r) st c s else none
  | _ => none
def zmax (pc : Nat) (lv stk : List Value) (st : zS) (c s : Nat) : zO := match stk with
  | .int y :: .int x :: r => if (r.map fun v => v.category).sum ≤ 8 then zn (pc + 3) lv (.int (if x < y then y else x) :: r) st c s else none
  | _ => none
def zobj (pc : Nat) (lv stk : List Value) (st : zS) (c s : Nat) : zO := match stk with
  | .ref _ :: r => if (r.map fun v => v.category).sum ≤ 8 then zn (pc + 3) lv r st c s else none
  | _ => none
/-- String.length of a constant text -/
def zslen (pc : Nat) (lv stk : List Value) (st : zS) (c s : Nat) : zO := match stk with
  | .ref v :: r => if 500 ≤ v ∧ (r.map fun v => v.category).sum ≤ 8 then (match zstrs[v - 500]? with
    | some (_, _, tx) => zn (pc + 3) lv (.int (Int32.ofNat tx.length) :: r) st c s
    | none => none) else none
  | _ => none
/-- System.arraycopy of no bytes -/
def zcopy (pc : Nat) (lv stk : List Value) (st : zS) (c s : Nat) : zO := match stk with
  | .int n :: .int dp :: .ref a1 :: .int sp :: .ref a0 :: r => (match st[a0]?, st[a1]? with
    | some (.inr (.inl (t0, n0, _, _))), some (.inr (.inl (t1, n1, _, _))) => if n = 0 ∧ ¬ sp < 0 ∧ ¬ dp < 0 ∧ sp.toNatClampNeg ≤ n0 ∧ dp.toNatClampNeg ≤ n1 ∧ t0 = 1 ∧ t1 = 1 ∧ (r.map fun v => v.category).sum ≤ 8 then zn (pc + 3) lv r st c s else none
    | _, _ => none)
  | _ => none
/-- what a call begins with: an object of the method's class (0, virtual), anything (1, static), a reference (2, special) -/
def zrcv0 (m : zMth) (as : List Value) (st : zS) : Bool := match as with
  | .ref r :: _ => (match st[r]? with
    | some (.inl (ci, _)) => (match zcl[ci]? with
      | some (C, _, _) => decide (C = m.1.cls)
      | none => false)
    | _ => false)
  | _ => false
def zrcv2 (as : List Value) : Bool := match as with
  | .ref _ :: _ => true
  | _ => false
def zrcv (how : Nat) (m : zMth) (as : List Value) (st : zS) : Bool := if how = 0 then zrcv0 m as st else if how = 1 then true else zrcv2 as
/-- a call of method n, with k values from the stack -/
def zcall (how MC MS n k pc : Nat) (lv stk : List Value) (st : zS) (c s : Nat) : zO := match zMs[n]? with
  | some m => if (k ≤ stk.length ∧ zrcv how m (stk.take k).reverse st = true ∧ (zargs (stk.take k).reverse).length ≤ zmL m) ∧ (((stk.drop k).map fun v => v.category).sum ≤ 8 ∧ lv.all (zsc st.length) = true ∧ (stk.drop k).all (zsc st.length) = true) ∧ (c + zmC m ≤ MC ∧ s + zmS m ≤ MS) then
      some (.inr (.inl (n, (stk.take k).reverse, pc + 3, lv, stk.drop k, st, c + zmC m, s + zmS m))) else none
  | none => none
def zret (b : Nat) (stk : List Value) : zO := match stk with
  | [.int v] => if b = 0 ∨ v = 0 ∨ v = 1 then some (.inr (.inr (some (.int v)))) else none
  | _ => none
def zretA (stk : List Value) : zO := match stk with
  | [.ref v] => some (.inr (.inr (some (.ref v))))
  | _ => none
def zretV (stk : List Value) : zO := match stk with
  | [] => some (.inr (.inr none))
  | _ => none
def zstep (m : zMth) (x : zX) : zO := match x with
  | (pc, lv, stk, st, c, s) => match zfind pc (zmI m) with
    | none => none
    | some (ins, len, a, b, _, sw) => match ins with
      | .iconst n => zn (pc + 1) lv (.int (Int32.ofInt n) :: stk) st c s
      | .bipush n => zn (pc + 2) lv (.int (Int8.ofInt n).toInt32 :: stk) st c s
      | .sipush n => zn (pc + 3) lv (.int (Int16.ofInt n).toInt32 :: stk) st c s
      | .ldc _ => if a < 400 then zn (pc + 2) lv (.ref (500 + a) :: stk) st c s else none
      | .iload i => zldI i 2 pc lv stk st c s
      | .iload_n i => zldI i 1 pc lv stk st c s
      | .aload i => zldA i 2 pc lv stk st c s
      | .aload_n i => zldA i 1 pc lv stk st c s
      | .istore i => zsoI i 2 pc lv stk st c s
      | .istore_n i => zsoI i 1 pc lv stk st c s
      | .astore i => zsoA i 2 pc lv stk st c s
      | .astore_n i => zsoA i 1 pc lv stk st c s
      | .iinc i n => zinc i n pc lv stk st c s
      | .iadd => zbin (fun x y => x + y) pc lv stk st c s
      | .isub => zbin (fun x y => x - y) pc lv stk st c s
      | .imul => zbin (fun x y => x * y) pc lv stk st c s
      | .iand => zbin (fun x y => x &&& y) pc lv stk st c s
      | .ishr => zbin (fun x y => x >>> (y &&& 31)) pc lv stk st c s
      | .irem => zrem pc lv stk st c s
      | .i2b => zi2b pc lv stk st c s
      | .dup => zdup pc lv stk st c s
      | .dup2 => zdup2 pc lv stk st c s
      | .pop => zpop pc lv stk st c s
      | .goto _ => zn a lv stk st c s
      | .ifCond k _ => zif1 k a pc lv stk st c s
      | .if_icmp k _ => zif2 k a pc lv stk st c s
      | .tableswitch _ _ _ _ => zsw a sw lv stk st c s
      | .getfield _ => zgetf a b pc lv stk st c s
      | .putfield _ => (match zfty[a]? with
        | some f => zputf (f b) a b pc lv stk st c s
        | none => none)
      | .iaload => zaldN 0 pc lv stk st c s
      | .baload => zaldN 1 pc lv stk st c s
      | .iastore => zastN 0 pc id lv stk st c s
      | .bastore => zastN 1 pc (fun x => vp_nar .byte x) lv stk st c s
      | .aaload => zaldA pc lv stk st c s
      | .aastore => zastA a b pc lv stk st c s
      | .arraylength => zlen pc lv stk st c s
      | .new _ => (match zdf[a]? with
        | some fs => znew fs a fs.length (zmC m) (zmS m) pc lv stk st c s
        | none => none)
      | .newarray _ => znewN a (zmC m) (zmS m) pc lv stk st c s
      | .anewarray _ => znewA a (zmC m) (zmS m) pc lv stk st c s
      | .invokespecial _ => if a = 1000 then zobj pc lv stk st c s else zcall 2 (zmC m) (zmS m) a b pc lv stk st c s
      | .invokestatic _ => if a = 1001 then zmin pc lv stk st c s else if a = 1002 then zmax pc lv stk st c s else if a = 1004 then zcopy pc lv stk st c s else zcall 1 (zmC m) (zmS m) a b pc lv stk st c s
      | .invokevirtual _ => if a = 1003 then zslen pc lv stk st c s else zcall 0 (zmC m) (zmS m) a b pc lv stk st c s
      | .ireturn => zret a stk
      | .areturn => zretA stk
      | .return_ => zretV stk
      | _ => none
def zgo (call : Nat → List Value → zS → Option (Option Value × zS)) (m : zMth) : Nat → zX → Option (Option Value × zS)
  | 0, _ => none
  | f + 1, x => match zstep m x with
    | none => none
    | some (.inl y) => zgo call m f y
    | some (.inr (.inl (n, as, pc, lv, stk, st, c, s))) => (match call n as st with
      | none => none
      | some (v, st') => zgo call m f (pc, lv, v.toList ++ stk, st', c, s))
    | some (.inr (.inr v)) => some (v, x.2.2.2.1)
def zrun (F : Nat) : Nat → Nat → List Value → zS → Option (Option Value × zS)
  | 0 => fun _ _ _ => none
  | d + 1 => fun n as st => match zMs[n]? with
    | none => none
    | some m => if (zargs as).length ≤ zmL m then zgo (zrun F d) m F (0, zlocals (zmL m) as, [], st, 0, 0) else none
