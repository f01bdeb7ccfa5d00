/-! CHAINS: branches and switches on unknown numbers -/
theorem zg_brT {call : Nat → List Value → zS → Option (Option Value × zS)} {m : zMth} {f : Nat} {x : zX} {o : Option (Option Value × zS)} {P : Prop} [Decidable P] {b : zO} {pc : Nat} {lv stk : List Value} {st : zS} {c s : Nat} (e : zstep m x = if P then zn pc lv stk st c s else b) (h : P) (k : zgo call m f (pc, lv, stk, st, c, s) = o) : zgo call m (f + 1) x = o := zg_nx (e.trans (if_pos h)) k
theorem zg_brF {call : Nat → List Value → zS → Option (Option Value × zS)} {m : zMth} {f : Nat} {x : zX} {o : Option (Option Value × zS)} {P : Prop} [Decidable P] {a : zO} {pc : Nat} {lv stk : List Value} {st : zS} {c s : Nat} (e : zstep m x = if P then a else zn pc lv stk st c s) (h : ¬ P) (k : zgo call m f (pc, lv, stk, st, c, s) = o) : zgo call m (f + 1) x = o := zg_nx (e.trans (if_neg h)) k
theorem zg_sw {call : Nat → List Value → zS → Option (Option Value × zS)} {m : zMth} {f : Nat} {x : zX} {o : Option (Option Value × zS)} {T pc : Nat} {lv stk : List Value} {st : zS} {c s : Nat} (e : zstep m x = zn T lv stk st c s) (h : T = pc) (k : zgo call m f (pc, lv, stk, st, c, s) = o) : zgo call m (f + 1) x = o := zg_nx (y := (pc, lv, stk, st, c, s)) (by rw [e, h]; rfl) k
/-! numbers -/
theorem zi_lt {a b : Int32} : (a < b) = (a.toInt < b.toInt) := propext Int32.lt_iff_toInt_lt
theorem zi_le {a b : Int32} : (a ≤ b) = (a.toInt ≤ b.toInt) := propext Int32.le_iff_toInt_le
theorem zi_eq {a b : Int32} : (a = b) = (a.toInt = b.toInt) := propext Int32.toInt_inj.symm
theorem zi_0 : (0 : Int32).toInt = 0 := rfl
theorem zi_1 : (1 : Int32).toInt = 1 := rfl
theorem zi_2 : (2 : Int32).toInt = 2 := rfl
theorem zi_m1 : (-1 : Int32).toInt = -1 := rfl
theorem zi_tree (t : Int32) : t < 0 ∨ t = 0 ∨ t = 1 ∨ 2 ≤ t := by
  simp only [zi_lt, zi_le, zi_eq, zi_0, zi_1, zi_2]
  omega
theorem zi_node (k : Int32) : k < 0 ∨ k = 0 ∨ 1 ≤ k := by
  simp only [zi_lt, zi_le, zi_eq, zi_0, zi_1]
  omega
theorem zi_len (n : Int32) : n < -1 ∨ n = -1 ∨ n = 0 ∨ 1 ≤ n := by
  simp only [zi_lt, zi_le, zi_eq, zi_0, zi_1, zi_m1]
  omega
theorem zi_neg (i : Int32) : i < 0 ∨ 0 ≤ i := by
  simp only [zi_lt, zi_le, zi_0]
  omega
