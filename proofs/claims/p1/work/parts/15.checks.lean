/-! THE ABSTRACT MACHINE, 5: what its tables must say of the class files; the machine's own point for a point of its -/
/-- the words that may be handed on to a callee -/
def zT : List Cond := lw_tbl.filter goodWord
def zmO (m : zMth) : String := m.2.2.2.2.1
def zmR (m : zMth) : Option FieldType := m.2.2.2.1
def zmW (m : zMth) : List Nat := m.2.2.2.2.2.2.2.1
def zws (m : zMth) : List Cond := .code m.1 m.2.1 (zmL m) (zmR m) :: zT
def zrm (d : Nat) (m : zMth) : Room := { frames := d + 1, cells := zmC m, slots := zmS m, locals := 64 * (d + 1) }
def zlenI : Instr → Nat
  | .iconst _ => 1
  | .bipush _ => 2
  | .sipush _ => 3
  | .ldc _ => 2
  | .iload _ => 2
  | .aload _ => 2
  | .istore _ => 2
  | .astore _ => 2
  | .iinc _ _ => 3
  | .goto _ => 3
  | .ifCond _ _ => 3
  | .if_icmp _ _ => 3
  | .getfield _ => 3
  | .putfield _ => 3
  | .new _ => 3
  | .newarray _ => 2
  | .anewarray _ => 3
  | .invokespecial _ => 3
  | .invokestatic _ => 3
  | .invokevirtual _ => 3
  | _ => 1
def zokF (own : String) (idx a b c : Nat) : Bool := match zcl[a]? with
  | some (_, T, N) => decide (b < N) && decide (zT[c]? = some (.fieldLink own idx (T b).1 (T b).2.1 (T b).2.2.1))
  | none => false
def zokP (m : zMth) (a b : Nat) : Bool := match zcl[a]? with
  | some (_, T, _) => !(T b).2.2.2 || (decide (m.1.name = "<init>") && decide ((T b).1 = zmO m))
  | none => false
def zokN (own : String) (idx a c : Nat) : Bool := match zcl[a]?, zclw[a]?, zdf[a]? with
  | some (C, _, N), some (i, j), some fs => decide (zT[c]? = some (.classLink own idx C)) && decide (zT[i]? = some (.instantiable C N)) && decide (zT[j]? = some (.initialized C)) && decide (fs.length = N)
  | _, _, _ => false
def zokA (own : String) (idx a c : Nat) : Bool := match ztys[a]? with
  | some (.object C) => decide (zT[c]? = some (.classLink own idx C))
  | _ => false
def zokSw (pc : Nat) (lo hi : Int) (offs : Array Int) (sw : List (Int32 × Nat)) : Bool := decide (sw.map (fun q => (q.1.toInt, (q.2 : Int))) = offs.toList.mapIdx (fun i o => (lo + (i : Int), (pc : Int) + o))) && decide ((offs.size : Int) = hi - lo + 1)
def zokM1 (own : String) (idx c : Nat) (y : MethodName) : Bool := decide (zT[c]? = some (.methodLink own idx y))
def znpar (y : MethodName) : Option Nat := (parseMethodDescriptor y.desc).map (fun d => d.parameters.length)
def zcw0 (m : zMth) : Bool := match zmW m with
  | [i, j, k, n] => decide (zT[i]? = some (.code m.1 m.2.1 (zmL m) (zmR m))) && decide (zT[j]? = some (.instanceMethod m.1)) && decide (zT[k]? = some (.initialized m.1.cls)) && decide (zT[n]? = some (.selects m.1.cls m.1 m.1))
  | _ => false
def zcw1 (m : zMth) : Bool := match zmW m with
  | [i, j, k] => decide (zT[i]? = some (.code m.1 m.2.1 (zmL m) (zmR m))) && decide (zT[j]? = some (.static m.1)) && decide (zT[k]? = some (.initialized m.1.cls))
  | _ => false
def zcw2 (m : zMth) : Bool := match zmW m with
  | [i, j, k] => decide (zT[i]? = some (.code m.1 m.2.1 (zmL m) (zmR m))) && decide (zT[j]? = some (.instanceMethod m.1)) && decide (zT[k]? = some (.initialized m.1.cls)) && decide (m.1.name = "<init>" ∧ zmR m = none)
  | _ => false
/-- a call's words: how it is called (0 virtual, 1 static, 2 special), its number of values, its link -/
def zokC (own : String) (how idx a b c : Nat) : Bool := match zMs[a]? with
  | some m => (zokM1 own idx c m.1 && decide (m.1.cls ≠ "java/lang/invoke/MethodHandle" ∧ m.1.cls ≠ "java/lang/invoke/VarHandle") && decide (zmL m ≤ 40) && decide (znpar m.1 = some (if how = 1 then b else b - 1))) && (if how = 0 then zcw0 m else if how = 1 then zcw1 m else zcw2 m)
  | none => false
def zokI (m : zMth) (pc : Nat) (e : zI) : Bool := match e with
  | (ins, len, a, b, c, sw) => match ins with
    | .tableswitch d lo hi offs => decide (decode m.2.1 pc = .ok (.tableswitch d lo hi offs, len)) && decide ((pc : Int) + d = (a : Int)) && zokSw pc lo hi offs sw
    | _ => decide (decode m.2.1 pc = .ok (ins, zlenI ins)) && (match ins with
      | .ldc idx => if a < 400 then (match zstrs[a]? with
        | some (o, k, _) => decide (o = zmO m ∧ k = idx)
        | none => false) else true
      | .goto o => decide ((pc : Int) + o = (a : Int))
      | .ifCond _ o => decide ((pc : Int) + o = (a : Int))
      | .if_icmp _ o => decide ((pc : Int) + o = (a : Int))
      | .getfield idx => zokF (zmO m) idx a b c
      | .putfield idx => zokF (zmO m) idx a b c && zokP m a b
      | .new idx => zokN (zmO m) idx a c
      | .newarray t => decide ((a = 0 ∧ t = .int) ∨ (a = 1 ∧ t = .byte))
      | .anewarray idx => zokA (zmO m) idx a c
      | .aastore => decide ((a = 2 ∧ b = 0) ∨ (a = 3 ∧ b = 400))
      | .invokespecial idx => if a = 1000 then zokM1 (zmO m) idx c objectInit else if a < 1000 then zokC (zmO m) 2 idx a b c else true
      | .invokestatic idx => if a = 1001 then zokM1 (zmO m) idx c Lib.Math.min.name else if a = 1002 then zokM1 (zmO m) idx c Lib.Math.max.name else if a = 1004 then zokM1 (zmO m) idx c arraycopyName else if a < 1000 then zokC (zmO m) 1 idx a b c else true
      | .invokevirtual idx => if a = 1003 then zokM1 (zmO m) idx c ⟨"java/lang/String", "length", "()I"⟩ else if a < 1000 then zokC (zmO m) 0 idx a b c else true
      | .ireturn => decide ((a = 0 ∧ zmR m = some .int) ∨ (a = 1 ∧ zmR m = some .boolean))
      | .areturn => (match zmR m with
        | some (.object _) => true
        | _ => false)
      | .return_ => decide (zmR m = none)
      | _ => true)
def zokT (m : zMth) : Bool := (zmI m).all (fun q => zokI m q.1 q.2)
def zokM (m : zMth) : Bool := (plainName m.1.cls && decide (m.1.cls = zmO m) && decide (Cond.code m.1 m.2.1 (zmL m) (zmR m) ∈ zT)) && zokT m
theorem zfind_mem {pc : Nat} {e : zI} : ∀ {l : List (Nat × zI)}, zfind pc l = some e → (pc, e) ∈ l := by
  intro l
  induction l with
  | nil => intro h; cases h
  | cons q r ih =>
    obtain ⟨k, e'⟩ := q
    intro h
    unfold zfind at h
    by_cases hk : k = pc
    · rw [if_pos hk] at h
      cases h
      subst hk
      exact List.mem_cons_self
    · rw [if_neg hk] at h
      exact List.mem_cons_of_mem _ (ih h)
theorem zok_of {m : zMth} {pc : Nat} {e : zI} (h : zokT m = true) (hf : zfind pc (zmI m) = some e) : zokI m pc e = true := List.all_eq_true.mp h _ (zfind_mem hf)
