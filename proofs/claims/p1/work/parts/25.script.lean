/-! THE SCRIPT: an array that isn't of the world, number 700 -/
section ZSND
variable {p : Program} {l : Launch} {e : Env} {R : Room} {s : State} {m : MethodId} {args : Array Value} {below : List Frame} {meth : Method} {cd : Code} {Q : State → Prop}
variable {D : va_G} {cA : Nat → ClassId} {A : Nat → Prop} {M : zMth} {ad0 : Nat → Nat} {n0 B : Nat}
variable {pc : Nat} {lv r : List Value} {st : zS} {c k b L : Nat} {xs : Nat → Int32}
theorem zk_sld (F : zFx p R s m args meth cd D cA A M ad0 B) (hX : va_X b L xs s s.heap) (hbl : b < s.heap.size) (hbA : ¬ A b) (h7 : ad0 700 = b) (hd : decode M.2.1 pc = .ok (.iaload, 1)) {i : Int32} (hin : vp_in i L) (hk : zKp p l e R s m args below meth cd Q D cA A M ad0 n0 (pc + 1, lv, .int (xs i.toNatClampNeg) :: r, st, c, k)) : zKp p l e R s m args below meth cd Q D cA A M ad0 n0 (pc, lv, .int i :: .ref 700 :: r, st, c, k) := by
  intro ad ls H locs I
  have e7 : ad 700 = b := (I.2.2.2.1 700 (Or.inr (by decide))).trans h7
  show W p l e R s m args below meth cd H locs c k Q (F0 m pc ls (.int i :: .ref (ad 700) :: r.map (zcv ad)))
  rw [e7]
  exact va_sld F.1.1 F.1.2.1 hX hbl hbA I.2.1.2.2 hin hd (hk ad ls H locs I)
theorem zk_slenS (F : zFx p R s m args meth cd D cA A M ad0 B) (hX : va_X b L xs s s.heap) (hbl : b < s.heap.size) (hbA : ¬ A b) (h7 : ad0 700 = b) (hd : decode M.2.1 pc = .ok (.arraylength, 1)) (hk : zKp p l e R s m args below meth cd Q D cA A M ad0 n0 (pc + 1, lv, .int (Int32.ofNat L) :: r, st, c, k)) : zKp p l e R s m args below meth cd Q D cA A M ad0 n0 (pc, lv, .ref 700 :: r, st, c, k) := by
  intro ad ls H locs I
  have e7 : ad 700 = b := (I.2.2.2.1 700 (Or.inr (by decide))).trans h7
  show W p l e R s m args below meth cd H locs c k Q (F0 m pc ls (.ref (ad 700) :: r.map (zcv ad)))
  rw [e7]
  exact va_slen F.1.1 F.1.2.1 hX hbl hbA I.2.1.2.2 hd (hk ad ls H locs I)
end ZSND
/-- a chain of steps -/
theorem zg_nx {call : Nat → List Value → zS → Option (Option Value × zS)} {m : zMth} {f : Nat} {x y : zX} {o : Option (Option Value × zS)} (h : zstep m x = some (.inl y)) (k : zgo call m f y = o) : zgo call m (f + 1) x = o := by
  show (match zstep m x with
    | none => none
    | some (.inl y) => zgo call m f y
    | some (.inr (.inl (n, as, pc, lv, stk, st, c, s))) => (match call n as st with
      | none => none
      | some (v, st') => zgo call m f (pc, lv, v.toList ++ stk, st', c, s))
    | some (.inr (.inr v)) => some (v, x.2.2.2.1)) = o
  rw [h]
  exact k
theorem zg_call {call : Nat → List Value → zS → Option (Option Value × zS)} {m : zMth} {f n pc c s : Nat} {x : zX} {as lv stk : List Value} {st st' : zS} {v : Option Value} {o : Option (Option Value × zS)} (h : zstep m x = some (.inr (.inl (n, as, pc, lv, stk, st, c, s)))) (hc : call n as st = some (v, st')) (k : zgo call m f (pc, lv, v.toList ++ stk, st', c, s) = o) : zgo call m (f + 1) x = o := by
  show (match zstep m x with
    | none => none
    | some (.inl y) => zgo call m f y
    | some (.inr (.inl (n, as, pc, lv, stk, st, c, s))) => (match call n as st with
      | none => none
      | some (v, st') => zgo call m f (pc, lv, v.toList ++ stk, st', c, s))
    | some (.inr (.inr v)) => some (v, x.2.2.2.1)) = o
  rw [h]
  dsimp only
  rw [hc]
  exact k
theorem zg_ret {call : Nat → List Value → zS → Option (Option Value × zS)} {m : zMth} {f : Nat} {x : zX} {v : Option Value} (h : zstep m x = some (.inr (.inr v))) : zgo call m (f + 1) x = some (v, x.2.2.2.1) := by
  show (match zstep m x with
    | none => none
    | some (.inl y) => zgo call m f y
    | some (.inr (.inl (n, as, pc, lv, stk, st, c, s))) => (match call n as st with
      | none => none
      | some (v, st') => zgo call m f (pc, lv, v.toList ++ stk, st', c, s))
    | some (.inr (.inr v)) => some (v, x.2.2.2.1)) = _
  rw [h]
theorem zr_of {F d n : Nat} {as : List Value} {st : zS} {m : zMth} {o : Option (Option Value × zS)} (hm : zMs[n]? = some m) (ha : (zargs as).length ≤ zmL m) (h : zgo (zrun F d) m F (0, zlocals (zmL m) as, [], st, 0, 0) = o) : zrun F (d + 1) n as st = o := by
  show (match zMs[n]? with
    | none => none
    | some m => if (zargs as).length ≤ zmL m then zgo (zrun F d) m F (0, zlocals (zmL m) as, [], st, 0, 0) else none) = o
  rw [hm]
  dsimp only
  rw [if_pos ha]
  exact h
