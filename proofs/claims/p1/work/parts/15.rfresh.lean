/-! equality of cells, by program -/
def zeqC : zC → zC → Bool
  | .inl a, .inl b => decide (a = b)
  | .inr (.inl a), .inr (.inl b) => decide (a = b)
  | .inr (.inr a), .inr (.inr b) => decide (a = b)
  | _, _ => false
theorem zeqC_eq {a b : zC} (h : zeqC a b = true) : a = b := by
  unfold zeqC at h
  split at h
  · rw [of_decide_eq_true h]
  · rw [of_decide_eq_true h]
  · rw [of_decide_eq_true h]
  · cases h
def zeqS : zS → zS → Bool
  | [], [] => true
  | a :: r, b :: t => zeqC a b && zeqS r t
  | _, _ => false
theorem zeqS_eq : ∀ {a b : zS}, zeqS a b = true → a = b
  | [], [], _ => rfl
  | a :: r, b :: t, h => by
    have h1 := Bool.and_eq_true_iff.mp h
    rw [zeqC_eq h1.1, zeqS_eq h1.2]
  | [], b :: t, h => by cases h
  | a :: r, [], h => by cases h
def zis (r : Option (Option Value × zS)) (v : Option Value) (st : zS) : Bool := match r with
  | some (v', st') => decide (v' = v) && zeqS st' st
  | none => false
theorem zis_eq {r : Option (Option Value × zS)} {v : Option Value} {st : zS} (h : zis r v st = true) : r = some (v, st) := by
  unfold zis at h
  split at h
  · have h1 := Bool.and_eq_true_iff.mp h
    rw [of_decide_eq_true h1.1, zeqS_eq h1.2]
  · cases h

/-! the cells behind the constructors, by program (wip/sim.py) -/
def zst0 : zS := [.inl (5, [.null, .null, .null, .null, .null, .null, .int 0])]
def zst1 : zS := [
  .inl (5, [.ref 1, .ref 18, .ref 24, .ref 28, .ref 32, .ref 23, .int 0]),
  .inr (.inr (2, [some 2, some 10])),
  .inl (0, [.ref 3, .ref 4, .ref 5, .ref 6, .ref 7, .ref 8, .ref 9, .int 1]),
  .inr (.inl (0, 12011, 0, [(0, 0)])),
  .inr (.inl (0, 12011, 0, [(0, -1)])),
  .inr (.inl (0, 12011, 0, [(0, 0)])),
  .inr (.inl (0, 12011, 0, [(0, 1), (0, 1)])),
  .inr (.inl (0, 12011, 0, [(0, 0)])),
  .inr (.inl (0, 12011, 0, [(0, -1)])),
  .inr (.inl (0, 12011, 0, [])),
  .inl (0, [.ref 11, .ref 12, .ref 13, .ref 14, .ref 15, .ref 16, .ref 17, .int 1]),
  .inr (.inl (0, 12011, 0, [(0, 0)])),
  .inr (.inl (0, 12011, 0, [(0, -1)])),
  .inr (.inl (0, 12011, 0, [(0, 0)])),
  .inr (.inl (0, 12011, 0, [(0, 1), (0, 1)])),
  .inr (.inl (0, 12011, 0, [(0, 0)])),
  .inr (.inl (0, 12011, 0, [(0, -1)])),
  .inr (.inl (0, 12011, 0, [])),
  .inl (1, [.ref 19, .ref 20, .ref 21, .ref 22, .int 0]),
  .inr (.inl (1, 10240, 0, [])),
  .inr (.inl (0, 5121, 0, [])),
  .inr (.inl (0, 1024, 0, ((List.range 1024).map (fun i => (i, (-1 : Int32)))).reverse)),
  .inr (.inl (0, 5120, 0, [])),
  .inr (.inl (1, 8000, 0, [])),
  .inl (2, [.ref 25, .ref 26, .ref 27, .ref 23, .int 0, .int 0, .int 0]),
  .inr (.inl (0, 8001, 0, [])),
  .inr (.inl (0, 8001, 0, [])),
  .inr (.inl (0, 8001, 0, [])),
  .inl (3, [.ref 24, .ref 18, .ref 2, .ref 29, .ref 30, .ref 31, .int 0]),
  .inr (.inl (0, 480, 0, [])),
  .inr (.inl (0, 480, 0, [])),
  .inr (.inl (0, 480, 0, [])),
  .inl (4, [.ref 18, .ref 33, .int 0, .ref 34, .int 0, .int 0]),
  .inr (.inl (1, 8000, 0, [])),
  .inr (.inl (1, 8000, 0, []))]
def zmod : zC := .inl (6, [.null, .null, .int 0, .int 0, .null, .int 0, .null, .int 0, .null, .null, .null, .int 0, .int 0, .int 0, .int 0, .null, .null, .null, .null, .null, .null, .int 0, .null, .null, .null, .null, .null, .null, .null, .null, .null, .int 0])
def zst2 : zS := zst1 ++ [
  .inl (6, [.ref 57, .ref 36, .int 0, .int 0, .ref 37, .int 0, .ref 38, .int 0, .ref 39, .ref 40, .ref 41, .int 0, .int 0, .int 0, .int (-1), .ref 42, .ref 43, .ref 44, .ref 45, .ref 46, .ref 47, .int 0, .ref 48, .ref 49, .ref 50, .ref 51, .ref 52, .ref 53, .ref 54, .ref 55, .ref 56, .int 0]),
  .inr (.inl (0, 8000, 0, [])),
  .inr (.inl (0, 8000, 0, [])),
  .inr (.inl (0, 8001, 0, [])),
  .inr (.inl (0, 8002, 0, [])),
  .inr (.inl (0, 8002, 0, [])),
  .inr (.inl (0, 8002, 0, [])),
  .inr (.inl (0, 26000, 0, [])),
  .inr (.inl (0, 26000, 0, [])),
  .inr (.inl (0, 26000, 0, [])),
  .inr (.inl (0, 26000, 0, [])),
  .inr (.inl (0, 26000, 0, [])),
  .inr (.inl (0, 26000, 0, [])),
  .inr (.inl (0, 26000, 0, [])),
  .inr (.inl (0, 26000, 0, [(13000, 0), (0, 0)])),
  .inr (.inl (0, 26000, 0, [(13000, -1), (0, -1)])),
  .inr (.inl (0, 26000, 0, [(13000, 0), (0, 0)])),
  .inr (.inl (0, 26000, 0, [(13000, -1), (0, -1)])),
  .inr (.inl (0, 26000, 0, [(13000, 1), (0, 1)])),
  .inr (.inl (0, 2, 0, [(1, 1), (1, 0), (0, 1), (0, 0)])),
  .inr (.inl (0, 256, 0, [])),
  .inr (.inl (0, 64, 0, [])),
  .inr (.inr (3, [some 500, some 501, some 502, some 503, some 504, some 505, some 506, some 507, some 508, some 509, some 510, some 511, some 512, some 513, some 514, some 515, some 516, some 517, some 518]))]
set_option maxRecDepth 1000000 in
theorem zrun_1 : zrun 20000 8 0 [.ref 0] zst0 = some (none, zst1) := zis_eq (by decide +kernel)
set_option maxRecDepth 1000000 in
theorem zrun_2 : zrun 20000 8 16 [.ref 35] (zst1 ++ [zmod]) = some (none, zst2) := zis_eq (by decide +kernel)
