/-! THE ABSTRACT MACHINE, 3: one step -/
/-- an instruction, its length, three numbers, the places of a switch -/
abbrev zI : Type := Instr × Nat × Nat × Nat × Nat × List (Int32 × Nat)
/-- a method: its name, its bytes, its locals, what it returns, its class, the cells and slots that it may make, the places of its words, its instructions -/
abbrev zMth : Type := MethodName × ByteArray × Nat × Option FieldType × String × Nat × Nat × List Nat × List (Nat × zI)
def zmL (m : zMth) : Nat := m.2.2.1
def zmC (m : zMth) : Nat := m.2.2.2.2.2.1
def zmS (m : zMth) : Nat := m.2.2.2.2.2.2.1
def zmI (m : zMth) : List (Nat × zI) := m.2.2.2.2.2.2.2.2
/-- a point: place, locals, stack, cells; how many cells and slots were made -/
abbrev zX : Type := Nat × List Value × List Value × zS × Nat × Nat
abbrev zO : Type := Option (zX ⊕ ((Nat × List Value × zX) ⊕ Option Value))
def zfind (pc : Nat) : List (Nat × zI) → Option zI
  | [] => none
  | (k, e) :: r => if k = pc then some e else zfind pc r
def zn (pc : Nat) (lv stk : List Value) (st : zS) (c s : Nat) : zO := some (.inl (pc, lv, stk, st, c, s))
def zbin (f : Int32 → Int32 → Int32) (pc : Nat) (lv stk : List Value) (st : zS) (c s : Nat) : zO := match stk with
  | .int y :: .int x :: r => zn (pc + 1) lv (.int (f x y) :: r) st c s
  | _ => none
def zrem (pc : Nat) (lv stk : List Value) (st : zS) (c s : Nat) : zO := match stk with
  | .int y :: .int x :: r => if y = 0 then none else zn (pc + 1) lv (.int (x - x / y * y) :: r) st c s
  | _ => none
def zi2b (pc : Nat) (lv stk : List Value) (st : zS) (c s : Nat) : zO := match stk with
  | .int x :: r => zn (pc + 1) lv (.int x.toInt8.toInt32 :: r) st c s
  | _ => none
def zldI (i len pc : Nat) (lv stk : List Value) (st : zS) (c s : Nat) : zO := match lv[i]? with
  | some (.int x) => zn (pc + len) lv (.int x :: stk) st c s
  | _ => none
def zldA (i len pc : Nat) (lv stk : List Value) (st : zS) (c s : Nat) : zO := match lv[i]? with
  | some (.ref x) => zn (pc + len) lv (.ref x :: stk) st c s
  | _ => none
def zsoI (i len pc : Nat) (lv stk : List Value) (st : zS) (c s : Nat) : zO := match stk with
  | .int x :: r => if i < lv.length then zn (pc + len) (zset lv i (.int x)) r st c s else none
  | _ => none
def zsoA (i len pc : Nat) (lv stk : List Value) (st : zS) (c s : Nat) : zO := match stk with
  | .ref x :: r => if i < lv.length then zn (pc + len) (zset lv i (.ref x)) r st c s else none
  | _ => none
def zinc (i : Nat) (n : Int) (pc : Nat) (lv stk : List Value) (st : zS) (c s : Nat) : zO := match lv[i]? with
  | some (.int x) => zn (pc + 3) (zset lv i (.int (x + Int32.ofInt n))) stk st c s
  | _ => none
def zif1 (k : ClassFile.Cond) (tgt pc : Nat) (lv stk : List Value) (st : zS) (c s : Nat) : zO := match stk with
  | .int x :: r => match k with
    | .eq => if x = 0 then zn tgt lv r st c s else zn (pc + 3) lv r st c s
    | .ne => if ¬ x = 0 then zn tgt lv r st c s else zn (pc + 3) lv r st c s
    | .lt => if x < 0 then zn tgt lv r st c s else zn (pc + 3) lv r st c s
    | .ge => if 0 ≤ x then zn tgt lv r st c s else zn (pc + 3) lv r st c s
    | .gt => if 0 < x then zn tgt lv r st c s else zn (pc + 3) lv r st c s
    | .le => if x ≤ 0 then zn tgt lv r st c s else zn (pc + 3) lv r st c s
  | _ => none
def zif2 (k : ClassFile.Cond) (tgt pc : Nat) (lv stk : List Value) (st : zS) (c s : Nat) : zO := match stk with
  | .int y :: .int x :: r => match k with
    | .eq => if x = y then zn tgt lv r st c s else zn (pc + 3) lv r st c s
    | .ne => if ¬ x = y then zn tgt lv r st c s else zn (pc + 3) lv r st c s
    | .lt => if x < y then zn tgt lv r st c s else zn (pc + 3) lv r st c s
    | .ge => if y ≤ x then zn tgt lv r st c s else zn (pc + 3) lv r st c s
    | .gt => if y < x then zn tgt lv r st c s else zn (pc + 3) lv r st c s
    | .le => if x ≤ y then zn tgt lv r st c s else zn (pc + 3) lv r st c s
  | _ => none
def zswT (x : Int32) (d : Nat) : List (Int32 × Nat) → Nat
  | [] => d
  | (k, t) :: r => if x = k then t else zswT x d r
def zsw (d : Nat) (ps : List (Int32 × Nat)) (lv stk : List Value) (st : zS) (c s : Nat) : zO := match stk with
  | .int x :: r => zn (zswT x d ps) lv r st c s
  | _ => none
/-- does a place lie in an array -/
def zin (i : Int32) (n : Nat) : Bool := !(decide (i < 0) || decide (n ≤ i.toNatClampNeg))
def zgetf (ci k pc : Nat) (lv stk : List Value) (st : zS) (c s : Nat) : zO := match stk with
  | .ref a :: r => match st[a]? with
    | some (.inl (ci', fs)) => if ci' = ci then (match fs[k]? with
      | some v => zn (pc + 3) lv (v :: r) st c s
      | none => none) else none
    | _ => none
  | _ => none
/-- what a field of a type takes -/
def zfits : FieldType → Value → Bool
  | .int, .int _ => true
  | .boolean, .int x => x == 0 || x == 1
  | .object _, .ref _ => true
  | .array _, .ref _ => true
  | _, _ => false
def zputf (ty : FieldType) (ci k pc : Nat) (lv stk : List Value) (st : zS) (c s : Nat) : zO := match stk with
  | v :: .ref a :: r => match st[a]? with
    | some (.inl (ci', fs)) => if ci' = ci ∧ k < fs.length ∧ zfits ty v = true then zn (pc + 3) lv r (st.set a (.inl (ci, fs.set k v))) c s else none
    | _ => none
  | _ => none
/-- t: the type of the array -/
def zaldN (t pc : Nat) (lv stk : List Value) (st : zS) (c s : Nat) : zO := match stk with
  | .int i :: .ref a :: r => match st[a]? with
    | some (.inr (.inl (t', n, d, u))) => if t' = t ∧ zin i n = true then zn (pc + 1) lv (.int (zfun d u i.toNatClampNeg) :: r) st c s else none
    | _ => none
  | _ => none
def zastN (t pc : Nat) (nar : Int32 → Int32) (lv stk : List Value) (st : zS) (c s : Nat) : zO := match stk with
  | .int x :: .int i :: .ref a :: r => match st[a]? with
    | some (.inr (.inl (t', n, d, u))) => if t' = t ∧ zin i n = true then zn (pc + 1) lv r (st.set a (.inr (.inl (t, n, d, (i.toNatClampNeg, nar x) :: u)))) c s else none
    | _ => none
  | _ => none
def zaldA (pc : Nat) (lv stk : List Value) (st : zS) (c s : Nat) : zO := match stk with
  | .int i :: .ref a :: r => match st[a]? with
    | some (.inr (.inr (t, rs))) => if t = 2 ∧ zin i rs.length = true then (match rs.getD i.toNatClampNeg none with
      | some q => zn (pc + 1) lv (.ref q :: r) st c s
      | none => none) else none
    | _ => none
  | _ => none
def zlen (pc : Nat) (lv stk : List Value) (st : zS) (c s : Nat) : zO := match stk with
  | .ref a :: r => match st[a]? with
    | some (.inr (.inl (t, n, _))) => if t < 4 then zn (pc + 1) lv (.int (Int32.ofNat n) :: r) st c s else none
    | some (.inr (.inr (t, rs))) => if t < 4 then zn (pc + 1) lv (.int (Int32.ofNat rs.length) :: r) st c s else none
    | _ => none
  | _ => none
def zdup (pc : Nat) (lv stk : List Value) (st : zS) (c s : Nat) : zO := match stk with
  | v :: r => if v.category = 1 then zn (pc + 1) lv (v :: v :: r) st c s else none
  | _ => none
def zdup2 (pc : Nat) (lv stk : List Value) (st : zS) (c s : Nat) : zO := match stk with
  | v :: w :: r => if v.category = 1 ∧ w.category = 1 then zn (pc + 1) lv (v :: w :: v :: w :: r) st c s else none
  | _ => none
def zpop (pc : Nat) (lv stk : List Value) (st : zS) (c s : Nat) : zO := match stk with
  | v :: r => if v.category = 1 then zn (pc + 1) lv r st c s else none
  | _ => none
