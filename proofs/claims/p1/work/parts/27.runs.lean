/-! RUNS with unknown numbers, printed by wip/gen3.py, gen4.py -/
/-- the cells behind both constructors, with what feed changes: the number of bytes and the bytes, of the class and of the reference -/
def zsF (fc : Int32) (v : List (Nat × Int32)) (n : Int32) (u : List (Nat × Int32)) : zS := [
  .inl (5, [.ref 1, .ref 18, .ref 24, .ref 28, .ref 32, .ref 23, .int fc]),
  .inr (.inr (2, [some 2, some 10])),
  .inl (0, [.ref 3, .ref 4, .ref 5, .ref 6, .ref 7, .ref 8, .ref 9, .int 1]),
  .inr (.inl (0, 12011, 0, [(0, 0)])),
  .inr (.inl (0, 12011, 0, [(0, -1)])),
  .inr (.inl (0, 12011, 0, [(0, 0)])),
  .inr (.inl (0, 12011, 0, [(0, 1), (0, 1)])),
  .inr (.inl (0, 12011, 0, [(0, 0)])),
  .inr (.inl (0, 12011, 0, [(0, -1)])),
  .inr (.inl (0, 12011, 0, [])),
  .inl (0, [.ref 11, .ref 12, .ref 13, .ref 14, .ref 15, .ref 16, .ref 17, .int 1]),
  .inr (.inl (0, 12011, 0, [(0, 0)])),
  .inr (.inl (0, 12011, 0, [(0, -1)])),
  .inr (.inl (0, 12011, 0, [(0, 0)])),
  .inr (.inl (0, 12011, 0, [(0, 1), (0, 1)])),
  .inr (.inl (0, 12011, 0, [(0, 0)])),
  .inr (.inl (0, 12011, 0, [(0, -1)])),
  .inr (.inl (0, 12011, 0, [])),
  .inl (1, [.ref 19, .ref 20, .ref 21, .ref 22, .int 0]),
  .inr (.inl (1, 10240, 0, [])),
  .inr (.inl (0, 5121, 0, [])),
  .inr (.inl (0, 1024, 0, ((List.range 1024).map (fun i => (i, (-1 : Int32)))).reverse)),
  .inr (.inl (0, 5120, 0, [])),
  .inr (.inl (1, 8000, 0, v)),
  .inl (2, [.ref 25, .ref 26, .ref 27, .ref 23, .int 0, .int 0, .int 0]),
  .inr (.inl (0, 8001, 0, [])),
  .inr (.inl (0, 8001, 0, [])),
  .inr (.inl (0, 8001, 0, [])),
  .inl (3, [.ref 24, .ref 18, .ref 2, .ref 29, .ref 30, .ref 31, .int 0]),
  .inr (.inl (0, 480, 0, [])),
  .inr (.inl (0, 480, 0, [])),
  .inr (.inl (0, 480, 0, [])),
  .inl (4, [.ref 18, .ref 33, .int 0, .ref 34, .int 0, .int 0]),
  .inr (.inl (1, 8000, 0, [])),
  .inr (.inl (1, 8000, 0, [])),
  .inl (6, [.ref 57, .ref 36, .int n, .int 0, .ref 37, .int 0, .ref 38, .int 0, .ref 39, .ref 40, .ref 41, .int 0, .int 0, .int 0, .int (-1), .ref 42, .ref 43, .ref 44, .ref 45, .ref 46, .ref 47, .int 0, .ref 48, .ref 49, .ref 50, .ref 51, .ref 52, .ref 53, .ref 54, .ref 55, .ref 56, .int 0]),
  .inr (.inl (0, 8000, 0, u)),
  .inr (.inl (0, 8000, 0, [])),
  .inr (.inl (0, 8001, 0, [])),
  .inr (.inl (0, 8002, 0, [])),
  .inr (.inl (0, 8002, 0, [])),
  .inr (.inl (0, 8002, 0, [])),
  .inr (.inl (0, 26000, 0, [])),
  .inr (.inl (0, 26000, 0, [])),
  .inr (.inl (0, 26000, 0, [])),
  .inr (.inl (0, 26000, 0, [])),
  .inr (.inl (0, 26000, 0, [])),
  .inr (.inl (0, 26000, 0, [])),
  .inr (.inl (0, 26000, 0, [])),
  .inr (.inl (0, 26000, 0, [(13000, 0), (0, 0)])),
  .inr (.inl (0, 26000, 0, [(13000, -1), (0, -1)])),
  .inr (.inl (0, 26000, 0, [(13000, 0), (0, 0)])),
  .inr (.inl (0, 26000, 0, [(13000, -1), (0, -1)])),
  .inr (.inl (0, 26000, 0, [(13000, 1), (0, 1)])),
  .inr (.inl (0, 2, 0, [(1, 1), (1, 0), (0, 1), (0, 0)])),
  .inr (.inl (0, 256, 0, [])),
  .inr (.inl (0, 64, 0, [])),
  .inr (.inr (3, [some 500, some 501, some 502, some 503, some 504, some 505, some 506, some 507, some 508, some 509, some 510, some 511, some 512, some 513, some 514, some 515, some 516, some 517, some 518]))]
/-- DesignReader.isTree -/
theorem zq_1 {t : Int32} (h0 : t < 0) : zrun 20000 7 13 [.ref 0, .int t] (zsF 0 [] 0 []) = some (some (.int 0), (zsF 0 [] 0 [])) := by
  refine zr_of (m := zm_D_isTree) rfl (Nat.le_of_ble_eq_true rfl) ?_
  show zgo _ _ _ (0, [.ref 0, .int t], [], (zsF 0 [] 0 []), 0, 0) = _
  refine zg_nx (y := (1, [.ref 0, .int t], [.int t], (zsF 0 [] 0 []), 0, 0)) rfl ?_
  refine zg_brT (P := t < 0) (b := (zn 4 [.ref 0, .int t] [] (zsF 0 [] 0 []) 0 0)) (pc := 13) (lv := [.ref 0, .int t]) (stk := []) (st := (zsF 0 [] 0 [])) (c := 0) (s := 0) rfl h0 ?_
  refine zg_nx (y := (14, [.ref 0, .int t], [.int 0], (zsF 0 [] 0 []), 0, 0)) rfl ?_
  exact zg_ret rfl

/-- DesignReader.nodes -/
theorem zq_2 {t : Int32} (h0 : t < 0) : zrun 20000 8 3 [.ref 0, .int t] (zsF 0 [] 0 []) = some (some (.int 0), (zsF 0 [] 0 [])) := by
  refine zr_of (m := zm_D_nodes) rfl (Nat.le_of_ble_eq_true rfl) ?_
  show zgo _ _ _ (0, [.ref 0, .int t], [], (zsF 0 [] 0 []), 0, 0) = _
  refine zg_nx (y := (1, [.ref 0, .int t], [.ref 0], (zsF 0 [] 0 []), 0, 0)) rfl ?_
  refine zg_nx (y := (2, [.ref 0, .int t], [.int t, .ref 0], (zsF 0 [] 0 []), 0, 0)) rfl ?_
  refine zg_call (n := 13) (as := [.ref 0, .int t]) (pc := 5) (lv := [.ref 0, .int t]) (stk := []) (st := (zsF 0 [] 0 [])) (c := 0) (s := 0) (v := (some (.int 0))) (st' := (zsF 0 [] 0 [])) rfl (zq_1 h0) ?_
  show zgo _ _ _ (5, [.ref 0, .int t], [.int 0], (zsF 0 [] 0 []), 0, 0) = _
  refine zg_nx (y := (20, [.ref 0, .int t], [], (zsF 0 [] 0 []), 0, 0)) rfl ?_
  refine zg_nx (y := (21, [.ref 0, .int t], [.int 0], (zsF 0 [] 0 []), 0, 0)) rfl ?_
  exact zg_ret rfl

/-- DesignReaderModel.nodes -/
theorem zq_3 {t : Int32} (h0 : t < 0) : zrun 20000 8 25 [.ref 35, .int t] (zsF 0 [] 0 []) = some (some (.int 0), (zsF 0 [] 0 [])) := by
  refine zr_of (m := zm_R_nodes) rfl (Nat.le_of_ble_eq_true rfl) ?_
  show zgo _ _ _ (0, [.ref 35, .int t], [], (zsF 0 [] 0 []), 0, 0) = _
  refine zg_nx (y := (1, [.ref 35, .int t], [.int t], (zsF 0 [] 0 []), 0, 0)) rfl ?_
  refine zg_brT (P := t < 0) (b := (zn 4 [.ref 35, .int t] [] (zsF 0 [] 0 []) 0 0)) (pc := 9) (lv := [.ref 35, .int t]) (stk := []) (st := (zsF 0 [] 0 [])) (c := 0) (s := 0) rfl h0 ?_
  refine zg_nx (y := (10, [.ref 35, .int t], [.int 0], (zsF 0 [] 0 []), 0, 0)) rfl ?_
  refine zg_nx (y := (19, [.ref 35, .int t], [.int 0], (zsF 0 [] 0 []), 0, 0)) rfl ?_
  exact zg_ret rfl

/-- DesignReader.isTree -/
theorem zq_4 {t : Int32} (h0 : ¬ (t < 0)) (h1 : 2 ≤ t) : zrun 20000 7 13 [.ref 0, .int t] (zsF 0 [] 0 []) = some (some (.int 0), (zsF 0 [] 0 [])) := by
  refine zr_of (m := zm_D_isTree) rfl (Nat.le_of_ble_eq_true rfl) ?_
  show zgo _ _ _ (0, [.ref 0, .int t], [], (zsF 0 [] 0 []), 0, 0) = _
  refine zg_nx (y := (1, [.ref 0, .int t], [.int t], (zsF 0 [] 0 []), 0, 0)) rfl ?_
  refine zg_brF (P := t < 0) (a := (zn 13 [.ref 0, .int t] [] (zsF 0 [] 0 []) 0 0)) (pc := 4) (lv := [.ref 0, .int t]) (stk := []) (st := (zsF 0 [] 0 [])) (c := 0) (s := 0) rfl h0 ?_
  refine zg_nx (y := (5, [.ref 0, .int t], [.int t], (zsF 0 [] 0 []), 0, 0)) rfl ?_
  refine zg_nx (y := (6, [.ref 0, .int t], [.int 2, .int t], (zsF 0 [] 0 []), 0, 0)) rfl ?_
  refine zg_brT (P := 2 ≤ t) (b := (zn 9 [.ref 0, .int t] [] (zsF 0 [] 0 []) 0 0)) (pc := 13) (lv := [.ref 0, .int t]) (stk := []) (st := (zsF 0 [] 0 [])) (c := 0) (s := 0) rfl h1 ?_
  refine zg_nx (y := (14, [.ref 0, .int t], [.int 0], (zsF 0 [] 0 []), 0, 0)) rfl ?_
  exact zg_ret rfl

/-- DesignReader.nodes -/
theorem zq_5 {t : Int32} (h0 : ¬ (t < 0)) (h1 : 2 ≤ t) : zrun 20000 8 3 [.ref 0, .int t] (zsF 0 [] 0 []) = some (some (.int 0), (zsF 0 [] 0 [])) := by
  refine zr_of (m := zm_D_nodes) rfl (Nat.le_of_ble_eq_true rfl) ?_
  show zgo _ _ _ (0, [.ref 0, .int t], [], (zsF 0 [] 0 []), 0, 0) = _
  refine zg_nx (y := (1, [.ref 0, .int t], [.ref 0], (zsF 0 [] 0 []), 0, 0)) rfl ?_
  refine zg_nx (y := (2, [.ref 0, .int t], [.int t, .ref 0], (zsF 0 [] 0 []), 0, 0)) rfl ?_
  refine zg_call (n := 13) (as := [.ref 0, .int t]) (pc := 5) (lv := [.ref 0, .int t]) (stk := []) (st := (zsF 0 [] 0 [])) (c := 0) (s := 0) (v := (some (.int 0))) (st' := (zsF 0 [] 0 [])) rfl (zq_4 h0 h1) ?_
  show zgo _ _ _ (5, [.ref 0, .int t], [.int 0], (zsF 0 [] 0 []), 0, 0) = _
  refine zg_nx (y := (20, [.ref 0, .int t], [], (zsF 0 [] 0 []), 0, 0)) rfl ?_
  refine zg_nx (y := (21, [.ref 0, .int t], [.int 0], (zsF 0 [] 0 []), 0, 0)) rfl ?_
  exact zg_ret rfl

/-- DesignReaderModel.nodes -/
theorem zq_6 {t : Int32} (h0 : ¬ (t < 0)) (h1 : ¬ (t ≤ 1)) : zrun 20000 8 25 [.ref 35, .int t] (zsF 0 [] 0 []) = some (some (.int 0), (zsF 0 [] 0 [])) := by
  refine zr_of (m := zm_R_nodes) rfl (Nat.le_of_ble_eq_true rfl) ?_
  show zgo _ _ _ (0, [.ref 35, .int t], [], (zsF 0 [] 0 []), 0, 0) = _
  refine zg_nx (y := (1, [.ref 35, .int t], [.int t], (zsF 0 [] 0 []), 0, 0)) rfl ?_
  refine zg_brF (P := t < 0) (a := (zn 9 [.ref 35, .int t] [] (zsF 0 [] 0 []) 0 0)) (pc := 4) (lv := [.ref 35, .int t]) (stk := []) (st := (zsF 0 [] 0 [])) (c := 0) (s := 0) rfl h0 ?_
  refine zg_nx (y := (5, [.ref 35, .int t], [.int t], (zsF 0 [] 0 []), 0, 0)) rfl ?_
  refine zg_nx (y := (6, [.ref 35, .int t], [.int 1, .int t], (zsF 0 [] 0 []), 0, 0)) rfl ?_
  refine zg_brF (P := t ≤ 1) (a := (zn 13 [.ref 35, .int t] [] (zsF 0 [] 0 []) 0 0)) (pc := 9) (lv := [.ref 35, .int t]) (stk := []) (st := (zsF 0 [] 0 [])) (c := 0) (s := 0) rfl h1 ?_
  refine zg_nx (y := (10, [.ref 35, .int t], [.int 0], (zsF 0 [] 0 []), 0, 0)) rfl ?_
  refine zg_nx (y := (19, [.ref 35, .int t], [.int 0], (zsF 0 [] 0 []), 0, 0)) rfl ?_
  exact zg_ret rfl

/-- DesignReader.read -/
theorem zq_7 {t n : Int32} (h0 : t < 0) : zrun 20000 8 2 [.ref 0, .int t, .int n] (zsF 0 [] 0 []) = some (some (.int (-2)), (zsF 0 [] 0 [])) := by
  refine zr_of (m := zm_D_read) rfl (Nat.le_of_ble_eq_true rfl) ?_
  show zgo _ _ _ (0, [.ref 0, .int t, .int n], [], (zsF 0 [] 0 []), 0, 0) = _
  refine zg_nx (y := (1, [.ref 0, .int t, .int n], [.ref 0], (zsF 0 [] 0 []), 0, 0)) rfl ?_
  refine zg_nx (y := (2, [.ref 0, .int t, .int n], [.int t, .ref 0], (zsF 0 [] 0 []), 0, 0)) rfl ?_
  refine zg_call (n := 13) (as := [.ref 0, .int t]) (pc := 5) (lv := [.ref 0, .int t, .int n]) (stk := []) (st := (zsF 0 [] 0 [])) (c := 0) (s := 0) (v := (some (.int 0))) (st' := (zsF 0 [] 0 [])) rfl (zq_1 h0) ?_
  show zgo _ _ _ (5, [.ref 0, .int t, .int n], [.int 0], (zsF 0 [] 0 []), 0, 0) = _
  refine zg_nx (y := (21, [.ref 0, .int t, .int n], [], (zsF 0 [] 0 []), 0, 0)) rfl ?_
  refine zg_nx (y := (23, [.ref 0, .int t, .int n], [.int (-2)], (zsF 0 [] 0 []), 0, 0)) rfl ?_
  exact zg_ret rfl

/-- DesignReaderModel.read -/
theorem zq_8 {t n : Int32} (h0 : t < 0) : zrun 20000 8 23 [.ref 35, .int t, .int n] (zsF 0 [] 0 []) = some (some (.int (-2)), (zsF 0 [] 0 [])) := by
  refine zr_of (m := zm_R_read) rfl (Nat.le_of_ble_eq_true rfl) ?_
  show zgo _ _ _ (0, [.ref 35, .int t, .int n, zu], [], (zsF 0 [] 0 []), 0, 0) = _
  refine zg_nx (y := (1, [.ref 35, .int t, .int n, zu], [.int t], (zsF 0 [] 0 []), 0, 0)) rfl ?_
  refine zg_brT (P := t < 0) (b := (zn 4 [.ref 35, .int t, .int n, zu] [] (zsF 0 [] 0 []) 0 0)) (pc := 22) (lv := [.ref 35, .int t, .int n, zu]) (stk := []) (st := (zsF 0 [] 0 [])) (c := 0) (s := 0) rfl h0 ?_
  refine zg_nx (y := (24, [.ref 35, .int t, .int n, zu], [.int (-2)], (zsF 0 [] 0 []), 0, 0)) rfl ?_
  exact zg_ret rfl

/-- DesignReader.isTree -/
theorem zq_9 : zrun 20000 7 13 [.ref 0, .int 0] (zsF 0 [] 0 []) = some (some (.int 1), (zsF 0 [] 0 [])) := by
  refine zr_of (m := zm_D_isTree) rfl (Nat.le_of_ble_eq_true rfl) ?_
  show zgo _ _ _ (0, [.ref 0, .int 0], [], (zsF 0 [] 0 []), 0, 0) = _
  refine zg_nx (y := (1, [.ref 0, .int 0], [.int 0], (zsF 0 [] 0 []), 0, 0)) rfl ?_
  refine zg_nx (y := (4, [.ref 0, .int 0], [], (zsF 0 [] 0 []), 0, 0)) rfl ?_
  refine zg_nx (y := (5, [.ref 0, .int 0], [.int 0], (zsF 0 [] 0 []), 0, 0)) rfl ?_
  refine zg_nx (y := (6, [.ref 0, .int 0], [.int 2, .int 0], (zsF 0 [] 0 []), 0, 0)) rfl ?_
  refine zg_nx (y := (9, [.ref 0, .int 0], [], (zsF 0 [] 0 []), 0, 0)) rfl ?_
  refine zg_nx (y := (10, [.ref 0, .int 0], [.int 1], (zsF 0 [] 0 []), 0, 0)) rfl ?_
  refine zg_nx (y := (14, [.ref 0, .int 0], [.int 1], (zsF 0 [] 0 []), 0, 0)) rfl ?_
  exact zg_ret rfl

/-- DesignReader.read -/
theorem zq_10 {n : Int32} (h0 : n < (-1)) : zrun 20000 8 2 [.ref 0, .int 0, .int n] (zsF 0 [] 0 []) = some (some (.int (-2)), (zsF 0 [] 0 [])) := by
  refine zr_of (m := zm_D_read) rfl (Nat.le_of_ble_eq_true rfl) ?_
  show zgo _ _ _ (0, [.ref 0, .int 0, .int n], [], (zsF 0 [] 0 []), 0, 0) = _
  refine zg_nx (y := (1, [.ref 0, .int 0, .int n], [.ref 0], (zsF 0 [] 0 []), 0, 0)) rfl ?_
  refine zg_nx (y := (2, [.ref 0, .int 0, .int n], [.int 0, .ref 0], (zsF 0 [] 0 []), 0, 0)) rfl ?_
  refine zg_call (n := 13) (as := [.ref 0, .int 0]) (pc := 5) (lv := [.ref 0, .int 0, .int n]) (stk := []) (st := (zsF 0 [] 0 [])) (c := 0) (s := 0) (v := (some (.int 1))) (st' := (zsF 0 [] 0 [])) rfl (zq_9) ?_
  show zgo _ _ _ (5, [.ref 0, .int 0, .int n], [.int 1], (zsF 0 [] 0 []), 0, 0) = _
  refine zg_nx (y := (8, [.ref 0, .int 0, .int n], [], (zsF 0 [] 0 []), 0, 0)) rfl ?_
  refine zg_nx (y := (9, [.ref 0, .int 0, .int n], [.int n], (zsF 0 [] 0 []), 0, 0)) rfl ?_
  refine zg_nx (y := (10, [.ref 0, .int 0, .int n], [.int (-1), .int n], (zsF 0 [] 0 []), 0, 0)) rfl ?_
  refine zg_brT (P := n < (-1)) (b := (zn 13 [.ref 0, .int 0, .int n] [] (zsF 0 [] 0 []) 0 0)) (pc := 21) (lv := [.ref 0, .int 0, .int n]) (stk := []) (st := (zsF 0 [] 0 [])) (c := 0) (s := 0) rfl h0 ?_
  refine zg_nx (y := (23, [.ref 0, .int 0, .int n], [.int (-2)], (zsF 0 [] 0 []), 0, 0)) rfl ?_
  exact zg_ret rfl

/-- DesignReaderModel.read -/
theorem zq_11 {n : Int32} (h0 : n < (-1)) : zrun 20000 8 23 [.ref 35, .int 0, .int n] (zsF 0 [] 0 []) = some (some (.int (-2)), (zsF 0 [] 0 [])) := by
  refine zr_of (m := zm_R_read) rfl (Nat.le_of_ble_eq_true rfl) ?_
  show zgo _ _ _ (0, [.ref 35, .int 0, .int n, zu], [], (zsF 0 [] 0 []), 0, 0) = _
  refine zg_nx (y := (1, [.ref 35, .int 0, .int n, zu], [.int 0], (zsF 0 [] 0 []), 0, 0)) rfl ?_
  refine zg_nx (y := (4, [.ref 35, .int 0, .int n, zu], [], (zsF 0 [] 0 []), 0, 0)) rfl ?_
  refine zg_nx (y := (5, [.ref 35, .int 0, .int n, zu], [.int 0], (zsF 0 [] 0 []), 0, 0)) rfl ?_
  refine zg_nx (y := (6, [.ref 35, .int 0, .int n, zu], [.int 1, .int 0], (zsF 0 [] 0 []), 0, 0)) rfl ?_
  refine zg_nx (y := (9, [.ref 35, .int 0, .int n, zu], [], (zsF 0 [] 0 []), 0, 0)) rfl ?_
  refine zg_nx (y := (10, [.ref 35, .int 0, .int n, zu], [.int n], (zsF 0 [] 0 []), 0, 0)) rfl ?_
  refine zg_nx (y := (11, [.ref 35, .int 0, .int n, zu], [.int (-1), .int n], (zsF 0 [] 0 []), 0, 0)) rfl ?_
  refine zg_brT (P := n < (-1)) (b := (zn 14 [.ref 35, .int 0, .int n, zu] [] (zsF 0 [] 0 []) 0 0)) (pc := 22) (lv := [.ref 35, .int 0, .int n, zu]) (stk := []) (st := (zsF 0 [] 0 [])) (c := 0) (s := 0) rfl h0 ?_
  refine zg_nx (y := (24, [.ref 35, .int 0, .int n, zu], [.int (-2)], (zsF 0 [] 0 []), 0, 0)) rfl ?_
  exact zg_ret rfl

/-- DesignReader.read -/
theorem zq_12 {n : Int32} (h0 : ¬ (n < (-1))) (h1 : ¬ (n ≤ 0)) : zrun 20000 8 2 [.ref 0, .int 0, .int n] (zsF 0 [] 0 []) = some (some (.int (-2)), (zsF 0 [] 0 [])) := by
  refine zr_of (m := zm_D_read) rfl (Nat.le_of_ble_eq_true rfl) ?_
  show zgo _ _ _ (0, [.ref 0, .int 0, .int n], [], (zsF 0 [] 0 []), 0, 0) = _
  refine zg_nx (y := (1, [.ref 0, .int 0, .int n], [.ref 0], (zsF 0 [] 0 []), 0, 0)) rfl ?_
  refine zg_nx (y := (2, [.ref 0, .int 0, .int n], [.int 0, .ref 0], (zsF 0 [] 0 []), 0, 0)) rfl ?_
  refine zg_call (n := 13) (as := [.ref 0, .int 0]) (pc := 5) (lv := [.ref 0, .int 0, .int n]) (stk := []) (st := (zsF 0 [] 0 [])) (c := 0) (s := 0) (v := (some (.int 1))) (st' := (zsF 0 [] 0 [])) rfl (zq_9) ?_
  show zgo _ _ _ (5, [.ref 0, .int 0, .int n], [.int 1], (zsF 0 [] 0 []), 0, 0) = _
  refine zg_nx (y := (8, [.ref 0, .int 0, .int n], [], (zsF 0 [] 0 []), 0, 0)) rfl ?_
  refine zg_nx (y := (9, [.ref 0, .int 0, .int n], [.int n], (zsF 0 [] 0 []), 0, 0)) rfl ?_
  refine zg_nx (y := (10, [.ref 0, .int 0, .int n], [.int (-1), .int n], (zsF 0 [] 0 []), 0, 0)) rfl ?_
  refine zg_brF (P := n < (-1)) (a := (zn 21 [.ref 0, .int 0, .int n] [] (zsF 0 [] 0 []) 0 0)) (pc := 13) (lv := [.ref 0, .int 0, .int n]) (stk := []) (st := (zsF 0 [] 0 [])) (c := 0) (s := 0) rfl h0 ?_
  refine zg_nx (y := (14, [.ref 0, .int 0, .int n], [.int n], (zsF 0 [] 0 []), 0, 0)) rfl ?_
  refine zg_nx (y := (15, [.ref 0, .int 0, .int n], [.ref 0, .int n], (zsF 0 [] 0 []), 0, 0)) rfl ?_
  refine zg_nx (y := (18, [.ref 0, .int 0, .int n], [.int 0, .int n], (zsF 0 [] 0 []), 0, 0)) rfl ?_
  refine zg_brF (P := n ≤ 0) (a := (zn 24 [.ref 0, .int 0, .int n] [] (zsF 0 [] 0 []) 0 0)) (pc := 21) (lv := [.ref 0, .int 0, .int n]) (stk := []) (st := (zsF 0 [] 0 [])) (c := 0) (s := 0) rfl h1 ?_
  refine zg_nx (y := (23, [.ref 0, .int 0, .int n], [.int (-2)], (zsF 0 [] 0 []), 0, 0)) rfl ?_
  exact zg_ret rfl

/-- DesignReaderModel.read -/
theorem zq_13 {n : Int32} (h0 : ¬ (n < (-1))) (h1 : ¬ (n ≤ 0)) : zrun 20000 8 23 [.ref 35, .int 0, .int n] (zsF 0 [] 0 []) = some (some (.int (-2)), (zsF 0 [] 0 [])) := by
  refine zr_of (m := zm_R_read) rfl (Nat.le_of_ble_eq_true rfl) ?_
  show zgo _ _ _ (0, [.ref 35, .int 0, .int n, zu], [], (zsF 0 [] 0 []), 0, 0) = _
  refine zg_nx (y := (1, [.ref 35, .int 0, .int n, zu], [.int 0], (zsF 0 [] 0 []), 0, 0)) rfl ?_
  refine zg_nx (y := (4, [.ref 35, .int 0, .int n, zu], [], (zsF 0 [] 0 []), 0, 0)) rfl ?_
  refine zg_nx (y := (5, [.ref 35, .int 0, .int n, zu], [.int 0], (zsF 0 [] 0 []), 0, 0)) rfl ?_
  refine zg_nx (y := (6, [.ref 35, .int 0, .int n, zu], [.int 1, .int 0], (zsF 0 [] 0 []), 0, 0)) rfl ?_
  refine zg_nx (y := (9, [.ref 35, .int 0, .int n, zu], [], (zsF 0 [] 0 []), 0, 0)) rfl ?_
  refine zg_nx (y := (10, [.ref 35, .int 0, .int n, zu], [.int n], (zsF 0 [] 0 []), 0, 0)) rfl ?_
  refine zg_nx (y := (11, [.ref 35, .int 0, .int n, zu], [.int (-1), .int n], (zsF 0 [] 0 []), 0, 0)) rfl ?_
  refine zg_brF (P := n < (-1)) (a := (zn 22 [.ref 35, .int 0, .int n, zu] [] (zsF 0 [] 0 []) 0 0)) (pc := 14) (lv := [.ref 35, .int 0, .int n, zu]) (stk := []) (st := (zsF 0 [] 0 [])) (c := 0) (s := 0) rfl h0 ?_
  refine zg_nx (y := (15, [.ref 35, .int 0, .int n, zu], [.int n], (zsF 0 [] 0 []), 0, 0)) rfl ?_
  refine zg_nx (y := (16, [.ref 35, .int 0, .int n, zu], [.ref 35, .int n], (zsF 0 [] 0 []), 0, 0)) rfl ?_
  refine zg_nx (y := (19, [.ref 35, .int 0, .int n, zu], [.int 0, .int n], (zsF 0 [] 0 []), 0, 0)) rfl ?_
  refine zg_brF (P := n ≤ 0) (a := (zn 25 [.ref 35, .int 0, .int n, zu] [] (zsF 0 [] 0 []) 0 0)) (pc := 22) (lv := [.ref 35, .int 0, .int n, zu]) (stk := []) (st := (zsF 0 [] 0 [])) (c := 0) (s := 0) rfl h1 ?_
  refine zg_nx (y := (24, [.ref 35, .int 0, .int n, zu], [.int (-2)], (zsF 0 [] 0 []), 0, 0)) rfl ?_
  exact zg_ret rfl

/-- DesignReader.isTree -/
theorem zq_14 : zrun 20000 7 13 [.ref 0, .int 1] (zsF 0 [] 0 []) = some (some (.int 1), (zsF 0 [] 0 [])) := by
  refine zr_of (m := zm_D_isTree) rfl (Nat.le_of_ble_eq_true rfl) ?_
  show zgo _ _ _ (0, [.ref 0, .int 1], [], (zsF 0 [] 0 []), 0, 0) = _
  refine zg_nx (y := (1, [.ref 0, .int 1], [.int 1], (zsF 0 [] 0 []), 0, 0)) rfl ?_
  refine zg_nx (y := (4, [.ref 0, .int 1], [], (zsF 0 [] 0 []), 0, 0)) rfl ?_
  refine zg_nx (y := (5, [.ref 0, .int 1], [.int 1], (zsF 0 [] 0 []), 0, 0)) rfl ?_
  refine zg_nx (y := (6, [.ref 0, .int 1], [.int 2, .int 1], (zsF 0 [] 0 []), 0, 0)) rfl ?_
  refine zg_nx (y := (9, [.ref 0, .int 1], [], (zsF 0 [] 0 []), 0, 0)) rfl ?_
  refine zg_nx (y := (10, [.ref 0, .int 1], [.int 1], (zsF 0 [] 0 []), 0, 0)) rfl ?_
  refine zg_nx (y := (14, [.ref 0, .int 1], [.int 1], (zsF 0 [] 0 []), 0, 0)) rfl ?_
  exact zg_ret rfl

/-- DesignReader.read -/
theorem zq_15 {n : Int32} (h0 : n < (-1)) : zrun 20000 8 2 [.ref 0, .int 1, .int n] (zsF 0 [] 0 []) = some (some (.int (-2)), (zsF 0 [] 0 [])) := by
  refine zr_of (m := zm_D_read) rfl (Nat.le_of_ble_eq_true rfl) ?_
  show zgo _ _ _ (0, [.ref 0, .int 1, .int n], [], (zsF 0 [] 0 []), 0, 0) = _
  refine zg_nx (y := (1, [.ref 0, .int 1, .int n], [.ref 0], (zsF 0 [] 0 []), 0, 0)) rfl ?_
  refine zg_nx (y := (2, [.ref 0, .int 1, .int n], [.int 1, .ref 0], (zsF 0 [] 0 []), 0, 0)) rfl ?_
  refine zg_call (n := 13) (as := [.ref 0, .int 1]) (pc := 5) (lv := [.ref 0, .int 1, .int n]) (stk := []) (st := (zsF 0 [] 0 [])) (c := 0) (s := 0) (v := (some (.int 1))) (st' := (zsF 0 [] 0 [])) rfl (zq_14) ?_
  show zgo _ _ _ (5, [.ref 0, .int 1, .int n], [.int 1], (zsF 0 [] 0 []), 0, 0) = _
  refine zg_nx (y := (8, [.ref 0, .int 1, .int n], [], (zsF 0 [] 0 []), 0, 0)) rfl ?_
  refine zg_nx (y := (9, [.ref 0, .int 1, .int n], [.int n], (zsF 0 [] 0 []), 0, 0)) rfl ?_
  refine zg_nx (y := (10, [.ref 0, .int 1, .int n], [.int (-1), .int n], (zsF 0 [] 0 []), 0, 0)) rfl ?_
  refine zg_brT (P := n < (-1)) (b := (zn 13 [.ref 0, .int 1, .int n] [] (zsF 0 [] 0 []) 0 0)) (pc := 21) (lv := [.ref 0, .int 1, .int n]) (stk := []) (st := (zsF 0 [] 0 [])) (c := 0) (s := 0) rfl h0 ?_
  refine zg_nx (y := (23, [.ref 0, .int 1, .int n], [.int (-2)], (zsF 0 [] 0 []), 0, 0)) rfl ?_
  exact zg_ret rfl

/-- DesignReaderModel.read -/
theorem zq_16 {n : Int32} (h0 : n < (-1)) : zrun 20000 8 23 [.ref 35, .int 1, .int n] (zsF 0 [] 0 []) = some (some (.int (-2)), (zsF 0 [] 0 [])) := by
  refine zr_of (m := zm_R_read) rfl (Nat.le_of_ble_eq_true rfl) ?_
  show zgo _ _ _ (0, [.ref 35, .int 1, .int n, zu], [], (zsF 0 [] 0 []), 0, 0) = _
  refine zg_nx (y := (1, [.ref 35, .int 1, .int n, zu], [.int 1], (zsF 0 [] 0 []), 0, 0)) rfl ?_
  refine zg_nx (y := (4, [.ref 35, .int 1, .int n, zu], [], (zsF 0 [] 0 []), 0, 0)) rfl ?_
  refine zg_nx (y := (5, [.ref 35, .int 1, .int n, zu], [.int 1], (zsF 0 [] 0 []), 0, 0)) rfl ?_
  refine zg_nx (y := (6, [.ref 35, .int 1, .int n, zu], [.int 1, .int 1], (zsF 0 [] 0 []), 0, 0)) rfl ?_
  refine zg_nx (y := (9, [.ref 35, .int 1, .int n, zu], [], (zsF 0 [] 0 []), 0, 0)) rfl ?_
  refine zg_nx (y := (10, [.ref 35, .int 1, .int n, zu], [.int n], (zsF 0 [] 0 []), 0, 0)) rfl ?_
  refine zg_nx (y := (11, [.ref 35, .int 1, .int n, zu], [.int (-1), .int n], (zsF 0 [] 0 []), 0, 0)) rfl ?_
  refine zg_brT (P := n < (-1)) (b := (zn 14 [.ref 35, .int 1, .int n, zu] [] (zsF 0 [] 0 []) 0 0)) (pc := 22) (lv := [.ref 35, .int 1, .int n, zu]) (stk := []) (st := (zsF 0 [] 0 [])) (c := 0) (s := 0) rfl h0 ?_
  refine zg_nx (y := (24, [.ref 35, .int 1, .int n, zu], [.int (-2)], (zsF 0 [] 0 []), 0, 0)) rfl ?_
  exact zg_ret rfl

/-- DesignReader.read -/
theorem zq_17 {n : Int32} (h0 : ¬ (n < (-1))) (h1 : ¬ (n ≤ 0)) : zrun 20000 8 2 [.ref 0, .int 1, .int n] (zsF 0 [] 0 []) = some (some (.int (-2)), (zsF 0 [] 0 [])) := by
  refine zr_of (m := zm_D_read) rfl (Nat.le_of_ble_eq_true rfl) ?_
  show zgo _ _ _ (0, [.ref 0, .int 1, .int n], [], (zsF 0 [] 0 []), 0, 0) = _
  refine zg_nx (y := (1, [.ref 0, .int 1, .int n], [.ref 0], (zsF 0 [] 0 []), 0, 0)) rfl ?_
  refine zg_nx (y := (2, [.ref 0, .int 1, .int n], [.int 1, .ref 0], (zsF 0 [] 0 []), 0, 0)) rfl ?_
  refine zg_call (n := 13) (as := [.ref 0, .int 1]) (pc := 5) (lv := [.ref 0, .int 1, .int n]) (stk := []) (st := (zsF 0 [] 0 [])) (c := 0) (s := 0) (v := (some (.int 1))) (st' := (zsF 0 [] 0 [])) rfl (zq_14) ?_
  show zgo _ _ _ (5, [.ref 0, .int 1, .int n], [.int 1], (zsF 0 [] 0 []), 0, 0) = _
  refine zg_nx (y := (8, [.ref 0, .int 1, .int n], [], (zsF 0 [] 0 []), 0, 0)) rfl ?_
  refine zg_nx (y := (9, [.ref 0, .int 1, .int n], [.int n], (zsF 0 [] 0 []), 0, 0)) rfl ?_
  refine zg_nx (y := (10, [.ref 0, .int 1, .int n], [.int (-1), .int n], (zsF 0 [] 0 []), 0, 0)) rfl ?_
  refine zg_brF (P := n < (-1)) (a := (zn 21 [.ref 0, .int 1, .int n] [] (zsF 0 [] 0 []) 0 0)) (pc := 13) (lv := [.ref 0, .int 1, .int n]) (stk := []) (st := (zsF 0 [] 0 [])) (c := 0) (s := 0) rfl h0 ?_
  refine zg_nx (y := (14, [.ref 0, .int 1, .int n], [.int n], (zsF 0 [] 0 []), 0, 0)) rfl ?_
  refine zg_nx (y := (15, [.ref 0, .int 1, .int n], [.ref 0, .int n], (zsF 0 [] 0 []), 0, 0)) rfl ?_
  refine zg_nx (y := (18, [.ref 0, .int 1, .int n], [.int 0, .int n], (zsF 0 [] 0 []), 0, 0)) rfl ?_
  refine zg_brF (P := n ≤ 0) (a := (zn 24 [.ref 0, .int 1, .int n] [] (zsF 0 [] 0 []) 0 0)) (pc := 21) (lv := [.ref 0, .int 1, .int n]) (stk := []) (st := (zsF 0 [] 0 [])) (c := 0) (s := 0) rfl h1 ?_
  refine zg_nx (y := (23, [.ref 0, .int 1, .int n], [.int (-2)], (zsF 0 [] 0 []), 0, 0)) rfl ?_
  exact zg_ret rfl

/-- DesignReaderModel.read -/
theorem zq_18 {n : Int32} (h0 : ¬ (n < (-1))) (h1 : ¬ (n ≤ 0)) : zrun 20000 8 23 [.ref 35, .int 1, .int n] (zsF 0 [] 0 []) = some (some (.int (-2)), (zsF 0 [] 0 [])) := by
  refine zr_of (m := zm_R_read) rfl (Nat.le_of_ble_eq_true rfl) ?_
  show zgo _ _ _ (0, [.ref 35, .int 1, .int n, zu], [], (zsF 0 [] 0 []), 0, 0) = _
  refine zg_nx (y := (1, [.ref 35, .int 1, .int n, zu], [.int 1], (zsF 0 [] 0 []), 0, 0)) rfl ?_
  refine zg_nx (y := (4, [.ref 35, .int 1, .int n, zu], [], (zsF 0 [] 0 []), 0, 0)) rfl ?_
  refine zg_nx (y := (5, [.ref 35, .int 1, .int n, zu], [.int 1], (zsF 0 [] 0 []), 0, 0)) rfl ?_
  refine zg_nx (y := (6, [.ref 35, .int 1, .int n, zu], [.int 1, .int 1], (zsF 0 [] 0 []), 0, 0)) rfl ?_
  refine zg_nx (y := (9, [.ref 35, .int 1, .int n, zu], [], (zsF 0 [] 0 []), 0, 0)) rfl ?_
  refine zg_nx (y := (10, [.ref 35, .int 1, .int n, zu], [.int n], (zsF 0 [] 0 []), 0, 0)) rfl ?_
  refine zg_nx (y := (11, [.ref 35, .int 1, .int n, zu], [.int (-1), .int n], (zsF 0 [] 0 []), 0, 0)) rfl ?_
  refine zg_brF (P := n < (-1)) (a := (zn 22 [.ref 35, .int 1, .int n, zu] [] (zsF 0 [] 0 []) 0 0)) (pc := 14) (lv := [.ref 35, .int 1, .int n, zu]) (stk := []) (st := (zsF 0 [] 0 [])) (c := 0) (s := 0) rfl h0 ?_
  refine zg_nx (y := (15, [.ref 35, .int 1, .int n, zu], [.int n], (zsF 0 [] 0 []), 0, 0)) rfl ?_
  refine zg_nx (y := (16, [.ref 35, .int 1, .int n, zu], [.ref 35, .int n], (zsF 0 [] 0 []), 0, 0)) rfl ?_
  refine zg_nx (y := (19, [.ref 35, .int 1, .int n, zu], [.int 0, .int n], (zsF 0 [] 0 []), 0, 0)) rfl ?_
  refine zg_brF (P := n ≤ 0) (a := (zn 25 [.ref 35, .int 1, .int n, zu] [] (zsF 0 [] 0 []) 0 0)) (pc := 22) (lv := [.ref 35, .int 1, .int n, zu]) (stk := []) (st := (zsF 0 [] 0 [])) (c := 0) (s := 0) rfl h1 ?_
  refine zg_nx (y := (24, [.ref 35, .int 1, .int n, zu], [.int (-2)], (zsF 0 [] 0 []), 0, 0)) rfl ?_
  exact zg_ret rfl

/-- DesignReader.read -/
theorem zq_19 {t n : Int32} (h0 : ¬ (t < 0)) (h1 : 2 ≤ t) : zrun 20000 8 2 [.ref 0, .int t, .int n] (zsF 0 [] 0 []) = some (some (.int (-2)), (zsF 0 [] 0 [])) := by
  refine zr_of (m := zm_D_read) rfl (Nat.le_of_ble_eq_true rfl) ?_
  show zgo _ _ _ (0, [.ref 0, .int t, .int n], [], (zsF 0 [] 0 []), 0, 0) = _
  refine zg_nx (y := (1, [.ref 0, .int t, .int n], [.ref 0], (zsF 0 [] 0 []), 0, 0)) rfl ?_
  refine zg_nx (y := (2, [.ref 0, .int t, .int n], [.int t, .ref 0], (zsF 0 [] 0 []), 0, 0)) rfl ?_
  refine zg_call (n := 13) (as := [.ref 0, .int t]) (pc := 5) (lv := [.ref 0, .int t, .int n]) (stk := []) (st := (zsF 0 [] 0 [])) (c := 0) (s := 0) (v := (some (.int 0))) (st' := (zsF 0 [] 0 [])) rfl (zq_4 h0 h1) ?_
  show zgo _ _ _ (5, [.ref 0, .int t, .int n], [.int 0], (zsF 0 [] 0 []), 0, 0) = _
  refine zg_nx (y := (21, [.ref 0, .int t, .int n], [], (zsF 0 [] 0 []), 0, 0)) rfl ?_
  refine zg_nx (y := (23, [.ref 0, .int t, .int n], [.int (-2)], (zsF 0 [] 0 []), 0, 0)) rfl ?_
  exact zg_ret rfl

/-- DesignReaderModel.read -/
theorem zq_20 {t n : Int32} (h0 : ¬ (t < 0)) (h1 : 1 < t) : zrun 20000 8 23 [.ref 35, .int t, .int n] (zsF 0 [] 0 []) = some (some (.int (-2)), (zsF 0 [] 0 [])) := by
  refine zr_of (m := zm_R_read) rfl (Nat.le_of_ble_eq_true rfl) ?_
  show zgo _ _ _ (0, [.ref 35, .int t, .int n, zu], [], (zsF 0 [] 0 []), 0, 0) = _
  refine zg_nx (y := (1, [.ref 35, .int t, .int n, zu], [.int t], (zsF 0 [] 0 []), 0, 0)) rfl ?_
  refine zg_brF (P := t < 0) (a := (zn 22 [.ref 35, .int t, .int n, zu] [] (zsF 0 [] 0 []) 0 0)) (pc := 4) (lv := [.ref 35, .int t, .int n, zu]) (stk := []) (st := (zsF 0 [] 0 [])) (c := 0) (s := 0) rfl h0 ?_
  refine zg_nx (y := (5, [.ref 35, .int t, .int n, zu], [.int t], (zsF 0 [] 0 []), 0, 0)) rfl ?_
  refine zg_nx (y := (6, [.ref 35, .int t, .int n, zu], [.int 1, .int t], (zsF 0 [] 0 []), 0, 0)) rfl ?_
  refine zg_brT (P := 1 < t) (b := (zn 9 [.ref 35, .int t, .int n, zu] [] (zsF 0 [] 0 []) 0 0)) (pc := 22) (lv := [.ref 35, .int t, .int n, zu]) (stk := []) (st := (zsF 0 [] 0 [])) (c := 0) (s := 0) rfl h1 ?_
  refine zg_nx (y := (24, [.ref 35, .int t, .int n, zu], [.int (-2)], (zsF 0 [] 0 []), 0, 0)) rfl ?_
  exact zg_ret rfl

/-- DesignReader.isTree -/
theorem zq_21 {t : Int32} (h0 : t < 0) : zrun 20000 6 13 [.ref 0, .int t] (zsF 0 [] 0 []) = some (some (.int 0), (zsF 0 [] 0 [])) := by
  refine zr_of (m := zm_D_isTree) rfl (Nat.le_of_ble_eq_true rfl) ?_
  show zgo _ _ _ (0, [.ref 0, .int t], [], (zsF 0 [] 0 []), 0, 0) = _
  refine zg_nx (y := (1, [.ref 0, .int t], [.int t], (zsF 0 [] 0 []), 0, 0)) rfl ?_
  refine zg_brT (P := t < 0) (b := (zn 4 [.ref 0, .int t] [] (zsF 0 [] 0 []) 0 0)) (pc := 13) (lv := [.ref 0, .int t]) (stk := []) (st := (zsF 0 [] 0 [])) (c := 0) (s := 0) rfl h0 ?_
  refine zg_nx (y := (14, [.ref 0, .int t], [.int 0], (zsF 0 [] 0 []), 0, 0)) rfl ?_
  exact zg_ret rfl

/-- DesignReader.isNode -/
theorem zq_22 {t k : Int32} (h0 : t < 0) : zrun 20000 7 14 [.ref 0, .int t, .int k] (zsF 0 [] 0 []) = some (some (.int 0), (zsF 0 [] 0 [])) := by
  refine zr_of (m := zm_D_isNode) rfl (Nat.le_of_ble_eq_true rfl) ?_
  show zgo _ _ _ (0, [.ref 0, .int t, .int k], [], (zsF 0 [] 0 []), 0, 0) = _
  refine zg_nx (y := (1, [.ref 0, .int t, .int k], [.ref 0], (zsF 0 [] 0 []), 0, 0)) rfl ?_
  refine zg_nx (y := (2, [.ref 0, .int t, .int k], [.int t, .ref 0], (zsF 0 [] 0 []), 0, 0)) rfl ?_
  refine zg_call (n := 13) (as := [.ref 0, .int t]) (pc := 5) (lv := [.ref 0, .int t, .int k]) (stk := []) (st := (zsF 0 [] 0 [])) (c := 0) (s := 0) (v := (some (.int 0))) (st' := (zsF 0 [] 0 [])) rfl (zq_21 h0) ?_
  show zgo _ _ _ (5, [.ref 0, .int t, .int k], [.int 0], (zsF 0 [] 0 []), 0, 0) = _
  refine zg_nx (y := (29, [.ref 0, .int t, .int k], [], (zsF 0 [] 0 []), 0, 0)) rfl ?_
  refine zg_nx (y := (30, [.ref 0, .int t, .int k], [.int 0], (zsF 0 [] 0 []), 0, 0)) rfl ?_
  exact zg_ret rfl

/-- DesignReader.whole -/
theorem zq_23 {t k : Int32} (h0 : t < 0) : zrun 20000 8 6 [.ref 0, .int t, .int k] (zsF 0 [] 0 []) = some (some (.int (-1)), (zsF 0 [] 0 [])) := by
  refine zr_of (m := zm_D_whole) rfl (Nat.le_of_ble_eq_true rfl) ?_
  show zgo _ _ _ (0, [.ref 0, .int t, .int k], [], (zsF 0 [] 0 []), 0, 0) = _
  refine zg_nx (y := (1, [.ref 0, .int t, .int k], [.ref 0], (zsF 0 [] 0 []), 0, 0)) rfl ?_
  refine zg_nx (y := (2, [.ref 0, .int t, .int k], [.int t, .ref 0], (zsF 0 [] 0 []), 0, 0)) rfl ?_
  refine zg_nx (y := (3, [.ref 0, .int t, .int k], [.int k, .int t, .ref 0], (zsF 0 [] 0 []), 0, 0)) rfl ?_
  refine zg_call (n := 14) (as := [.ref 0, .int t, .int k]) (pc := 6) (lv := [.ref 0, .int t, .int k]) (stk := []) (st := (zsF 0 [] 0 [])) (c := 0) (s := 0) (v := (some (.int 0))) (st' := (zsF 0 [] 0 [])) rfl (zq_22 h0) ?_
  show zgo _ _ _ (6, [.ref 0, .int t, .int k], [.int 0], (zsF 0 [] 0 []), 0, 0) = _
  refine zg_nx (y := (23, [.ref 0, .int t, .int k], [], (zsF 0 [] 0 []), 0, 0)) rfl ?_
  refine zg_nx (y := (24, [.ref 0, .int t, .int k], [.int (-1)], (zsF 0 [] 0 []), 0, 0)) rfl ?_
  exact zg_ret rfl

/-- DesignReaderModel.has -/
theorem zq_24 {t k : Int32} (h0 : t < 0) : zrun 20000 7 24 [.ref 35, .int t, .int k] (zsF 0 [] 0 []) = some (some (.int 0), (zsF 0 [] 0 [])) := by
  refine zr_of (m := zm_R_has) rfl (Nat.le_of_ble_eq_true rfl) ?_
  show zgo _ _ _ (0, [.ref 35, .int t, .int k], [], (zsF 0 [] 0 []), 0, 0) = _
  refine zg_nx (y := (1, [.ref 35, .int t, .int k], [.int t], (zsF 0 [] 0 []), 0, 0)) rfl ?_
  refine zg_brT (P := t < 0) (b := (zn 4 [.ref 35, .int t, .int k] [] (zsF 0 [] 0 []) 0 0)) (pc := 27) (lv := [.ref 35, .int t, .int k]) (stk := []) (st := (zsF 0 [] 0 [])) (c := 0) (s := 0) rfl h0 ?_
  refine zg_nx (y := (28, [.ref 35, .int t, .int k], [.int 0], (zsF 0 [] 0 []), 0, 0)) rfl ?_
  exact zg_ret rfl

/-- DesignReaderModel.whole -/
theorem zq_25 {t k : Int32} (h0 : t < 0) : zrun 20000 8 29 [.ref 35, .int t, .int k] (zsF 0 [] 0 []) = some (some (.int (-1)), (zsF 0 [] 0 [])) := by
  refine zr_of (m := zm_R_whole) rfl (Nat.le_of_ble_eq_true rfl) ?_
  show zgo _ _ _ (0, [.ref 35, .int t, .int k], [], (zsF 0 [] 0 []), 0, 0) = _
  refine zg_nx (y := (1, [.ref 35, .int t, .int k], [.ref 35], (zsF 0 [] 0 []), 0, 0)) rfl ?_
  refine zg_nx (y := (2, [.ref 35, .int t, .int k], [.int t, .ref 35], (zsF 0 [] 0 []), 0, 0)) rfl ?_
  refine zg_nx (y := (3, [.ref 35, .int t, .int k], [.int k, .int t, .ref 35], (zsF 0 [] 0 []), 0, 0)) rfl ?_
  refine zg_call (n := 24) (as := [.ref 35, .int t, .int k]) (pc := 6) (lv := [.ref 35, .int t, .int k]) (stk := []) (st := (zsF 0 [] 0 [])) (c := 0) (s := 0) (v := (some (.int 0))) (st' := (zsF 0 [] 0 [])) rfl (zq_24 h0) ?_
  show zgo _ _ _ (6, [.ref 35, .int t, .int k], [.int 0], (zsF 0 [] 0 []), 0, 0) = _
  refine zg_nx (y := (24, [.ref 35, .int t, .int k], [], (zsF 0 [] 0 []), 0, 0)) rfl ?_
  refine zg_nx (y := (25, [.ref 35, .int t, .int k], [.int (-1)], (zsF 0 [] 0 []), 0, 0)) rfl ?_
  exact zg_ret rfl

/-- DesignReader.isTree -/
theorem zq_26 : zrun 20000 6 13 [.ref 0, .int 0] (zsF 0 [] 0 []) = some (some (.int 1), (zsF 0 [] 0 [])) := by
  refine zr_of (m := zm_D_isTree) rfl (Nat.le_of_ble_eq_true rfl) ?_
  show zgo _ _ _ (0, [.ref 0, .int 0], [], (zsF 0 [] 0 []), 0, 0) = _
  refine zg_nx (y := (1, [.ref 0, .int 0], [.int 0], (zsF 0 [] 0 []), 0, 0)) rfl ?_
  refine zg_nx (y := (4, [.ref 0, .int 0], [], (zsF 0 [] 0 []), 0, 0)) rfl ?_
  refine zg_nx (y := (5, [.ref 0, .int 0], [.int 0], (zsF 0 [] 0 []), 0, 0)) rfl ?_
  refine zg_nx (y := (6, [.ref 0, .int 0], [.int 2, .int 0], (zsF 0 [] 0 []), 0, 0)) rfl ?_
  refine zg_nx (y := (9, [.ref 0, .int 0], [], (zsF 0 [] 0 []), 0, 0)) rfl ?_
  refine zg_nx (y := (10, [.ref 0, .int 0], [.int 1], (zsF 0 [] 0 []), 0, 0)) rfl ?_
  refine zg_nx (y := (14, [.ref 0, .int 0], [.int 1], (zsF 0 [] 0 []), 0, 0)) rfl ?_
  exact zg_ret rfl

/-- DesignReader.isNode -/
theorem zq_27 {k : Int32} (h0 : k < 0) : zrun 20000 7 14 [.ref 0, .int 0, .int k] (zsF 0 [] 0 []) = some (some (.int 0), (zsF 0 [] 0 [])) := by
  refine zr_of (m := zm_D_isNode) rfl (Nat.le_of_ble_eq_true rfl) ?_
  show zgo _ _ _ (0, [.ref 0, .int 0, .int k], [], (zsF 0 [] 0 []), 0, 0) = _
  refine zg_nx (y := (1, [.ref 0, .int 0, .int k], [.ref 0], (zsF 0 [] 0 []), 0, 0)) rfl ?_
  refine zg_nx (y := (2, [.ref 0, .int 0, .int k], [.int 0, .ref 0], (zsF 0 [] 0 []), 0, 0)) rfl ?_
  refine zg_call (n := 13) (as := [.ref 0, .int 0]) (pc := 5) (lv := [.ref 0, .int 0, .int k]) (stk := []) (st := (zsF 0 [] 0 [])) (c := 0) (s := 0) (v := (some (.int 1))) (st' := (zsF 0 [] 0 [])) rfl (zq_26) ?_
  show zgo _ _ _ (5, [.ref 0, .int 0, .int k], [.int 1], (zsF 0 [] 0 []), 0, 0) = _
  refine zg_nx (y := (8, [.ref 0, .int 0, .int k], [], (zsF 0 [] 0 []), 0, 0)) rfl ?_
  refine zg_nx (y := (9, [.ref 0, .int 0, .int k], [.int k], (zsF 0 [] 0 []), 0, 0)) rfl ?_
  refine zg_brT (P := k < 0) (b := (zn 12 [.ref 0, .int 0, .int k] [] (zsF 0 [] 0 []) 0 0)) (pc := 29) (lv := [.ref 0, .int 0, .int k]) (stk := []) (st := (zsF 0 [] 0 [])) (c := 0) (s := 0) rfl h0 ?_
  refine zg_nx (y := (30, [.ref 0, .int 0, .int k], [.int 0], (zsF 0 [] 0 []), 0, 0)) rfl ?_
  exact zg_ret rfl

/-- DesignReader.whole -/
theorem zq_28 {k : Int32} (h0 : k < 0) : zrun 20000 8 6 [.ref 0, .int 0, .int k] (zsF 0 [] 0 []) = some (some (.int (-1)), (zsF 0 [] 0 [])) := by
  refine zr_of (m := zm_D_whole) rfl (Nat.le_of_ble_eq_true rfl) ?_
  show zgo _ _ _ (0, [.ref 0, .int 0, .int k], [], (zsF 0 [] 0 []), 0, 0) = _
  refine zg_nx (y := (1, [.ref 0, .int 0, .int k], [.ref 0], (zsF 0 [] 0 []), 0, 0)) rfl ?_
  refine zg_nx (y := (2, [.ref 0, .int 0, .int k], [.int 0, .ref 0], (zsF 0 [] 0 []), 0, 0)) rfl ?_
  refine zg_nx (y := (3, [.ref 0, .int 0, .int k], [.int k, .int 0, .ref 0], (zsF 0 [] 0 []), 0, 0)) rfl ?_
  refine zg_call (n := 14) (as := [.ref 0, .int 0, .int k]) (pc := 6) (lv := [.ref 0, .int 0, .int k]) (stk := []) (st := (zsF 0 [] 0 [])) (c := 0) (s := 0) (v := (some (.int 0))) (st' := (zsF 0 [] 0 [])) rfl (zq_27 h0) ?_
  show zgo _ _ _ (6, [.ref 0, .int 0, .int k], [.int 0], (zsF 0 [] 0 []), 0, 0) = _
  refine zg_nx (y := (23, [.ref 0, .int 0, .int k], [], (zsF 0 [] 0 []), 0, 0)) rfl ?_
  refine zg_nx (y := (24, [.ref 0, .int 0, .int k], [.int (-1)], (zsF 0 [] 0 []), 0, 0)) rfl ?_
  exact zg_ret rfl

/-- DesignReaderModel.has -/
theorem zq_29 {k : Int32} (h0 : k < 0) : zrun 20000 7 24 [.ref 35, .int 0, .int k] (zsF 0 [] 0 []) = some (some (.int 0), (zsF 0 [] 0 [])) := by
  refine zr_of (m := zm_R_has) rfl (Nat.le_of_ble_eq_true rfl) ?_
  show zgo _ _ _ (0, [.ref 35, .int 0, .int k], [], (zsF 0 [] 0 []), 0, 0) = _
  refine zg_nx (y := (1, [.ref 35, .int 0, .int k], [.int 0], (zsF 0 [] 0 []), 0, 0)) rfl ?_
  refine zg_nx (y := (4, [.ref 35, .int 0, .int k], [], (zsF 0 [] 0 []), 0, 0)) rfl ?_
  refine zg_nx (y := (5, [.ref 35, .int 0, .int k], [.int 0], (zsF 0 [] 0 []), 0, 0)) rfl ?_
  refine zg_nx (y := (6, [.ref 35, .int 0, .int k], [.int 2, .int 0], (zsF 0 [] 0 []), 0, 0)) rfl ?_
  refine zg_nx (y := (9, [.ref 35, .int 0, .int k], [], (zsF 0 [] 0 []), 0, 0)) rfl ?_
  refine zg_nx (y := (10, [.ref 35, .int 0, .int k], [.int k], (zsF 0 [] 0 []), 0, 0)) rfl ?_
  refine zg_brT (P := k < 0) (b := (zn 13 [.ref 35, .int 0, .int k] [] (zsF 0 [] 0 []) 0 0)) (pc := 27) (lv := [.ref 35, .int 0, .int k]) (stk := []) (st := (zsF 0 [] 0 [])) (c := 0) (s := 0) rfl h0 ?_
  refine zg_nx (y := (28, [.ref 35, .int 0, .int k], [.int 0], (zsF 0 [] 0 []), 0, 0)) rfl ?_
  exact zg_ret rfl

/-- DesignReaderModel.whole -/
theorem zq_30 {k : Int32} (h0 : k < 0) : zrun 20000 8 29 [.ref 35, .int 0, .int k] (zsF 0 [] 0 []) = some (some (.int (-1)), (zsF 0 [] 0 [])) := by
  refine zr_of (m := zm_R_whole) rfl (Nat.le_of_ble_eq_true rfl) ?_
  show zgo _ _ _ (0, [.ref 35, .int 0, .int k], [], (zsF 0 [] 0 []), 0, 0) = _
  refine zg_nx (y := (1, [.ref 35, .int 0, .int k], [.ref 35], (zsF 0 [] 0 []), 0, 0)) rfl ?_
  refine zg_nx (y := (2, [.ref 35, .int 0, .int k], [.int 0, .ref 35], (zsF 0 [] 0 []), 0, 0)) rfl ?_
  refine zg_nx (y := (3, [.ref 35, .int 0, .int k], [.int k, .int 0, .ref 35], (zsF 0 [] 0 []), 0, 0)) rfl ?_
  refine zg_call (n := 24) (as := [.ref 35, .int 0, .int k]) (pc := 6) (lv := [.ref 35, .int 0, .int k]) (stk := []) (st := (zsF 0 [] 0 [])) (c := 0) (s := 0) (v := (some (.int 0))) (st' := (zsF 0 [] 0 [])) rfl (zq_29 h0) ?_
  show zgo _ _ _ (6, [.ref 35, .int 0, .int k], [.int 0], (zsF 0 [] 0 []), 0, 0) = _
  refine zg_nx (y := (24, [.ref 35, .int 0, .int k], [], (zsF 0 [] 0 []), 0, 0)) rfl ?_
  refine zg_nx (y := (25, [.ref 35, .int 0, .int k], [.int (-1)], (zsF 0 [] 0 []), 0, 0)) rfl ?_
  exact zg_ret rfl

/-- DesignReader.isNode -/
theorem zq_31 {k : Int32} (h0 : ¬ (k < 0)) (h1 : 1 ≤ k) : zrun 20000 7 14 [.ref 0, .int 0, .int k] (zsF 0 [] 0 []) = some (some (.int 0), (zsF 0 [] 0 [])) := by
  refine zr_of (m := zm_D_isNode) rfl (Nat.le_of_ble_eq_true rfl) ?_
  show zgo _ _ _ (0, [.ref 0, .int 0, .int k], [], (zsF 0 [] 0 []), 0, 0) = _
  refine zg_nx (y := (1, [.ref 0, .int 0, .int k], [.ref 0], (zsF 0 [] 0 []), 0, 0)) rfl ?_
  refine zg_nx (y := (2, [.ref 0, .int 0, .int k], [.int 0, .ref 0], (zsF 0 [] 0 []), 0, 0)) rfl ?_
  refine zg_call (n := 13) (as := [.ref 0, .int 0]) (pc := 5) (lv := [.ref 0, .int 0, .int k]) (stk := []) (st := (zsF 0 [] 0 [])) (c := 0) (s := 0) (v := (some (.int 1))) (st' := (zsF 0 [] 0 [])) rfl (zq_26) ?_
  show zgo _ _ _ (5, [.ref 0, .int 0, .int k], [.int 1], (zsF 0 [] 0 []), 0, 0) = _
  refine zg_nx (y := (8, [.ref 0, .int 0, .int k], [], (zsF 0 [] 0 []), 0, 0)) rfl ?_
  refine zg_nx (y := (9, [.ref 0, .int 0, .int k], [.int k], (zsF 0 [] 0 []), 0, 0)) rfl ?_
  refine zg_brF (P := k < 0) (a := (zn 29 [.ref 0, .int 0, .int k] [] (zsF 0 [] 0 []) 0 0)) (pc := 12) (lv := [.ref 0, .int 0, .int k]) (stk := []) (st := (zsF 0 [] 0 [])) (c := 0) (s := 0) rfl h0 ?_
  refine zg_nx (y := (13, [.ref 0, .int 0, .int k], [.int k], (zsF 0 [] 0 []), 0, 0)) rfl ?_
  refine zg_nx (y := (14, [.ref 0, .int 0, .int k], [.ref 0, .int k], (zsF 0 [] 0 []), 0, 0)) rfl ?_
  refine zg_nx (y := (17, [.ref 0, .int 0, .int k], [.ref 1, .int k], (zsF 0 [] 0 []), 0, 0)) rfl ?_
  refine zg_nx (y := (18, [.ref 0, .int 0, .int k], [.int 0, .ref 1, .int k], (zsF 0 [] 0 []), 0, 0)) rfl ?_
  refine zg_nx (y := (19, [.ref 0, .int 0, .int k], [.ref 2, .int k], (zsF 0 [] 0 []), 0, 0)) rfl ?_
  refine zg_nx (y := (22, [.ref 0, .int 0, .int k], [.int 1, .int k], (zsF 0 [] 0 []), 0, 0)) rfl ?_
  refine zg_brT (P := 1 ≤ k) (b := (zn 25 [.ref 0, .int 0, .int k] [] (zsF 0 [] 0 []) 0 0)) (pc := 29) (lv := [.ref 0, .int 0, .int k]) (stk := []) (st := (zsF 0 [] 0 [])) (c := 0) (s := 0) rfl h1 ?_
  refine zg_nx (y := (30, [.ref 0, .int 0, .int k], [.int 0], (zsF 0 [] 0 []), 0, 0)) rfl ?_
  exact zg_ret rfl

/-- DesignReader.whole -/
theorem zq_32 {k : Int32} (h0 : ¬ (k < 0)) (h1 : 1 ≤ k) : zrun 20000 8 6 [.ref 0, .int 0, .int k] (zsF 0 [] 0 []) = some (some (.int (-1)), (zsF 0 [] 0 [])) := by
  refine zr_of (m := zm_D_whole) rfl (Nat.le_of_ble_eq_true rfl) ?_
  show zgo _ _ _ (0, [.ref 0, .int 0, .int k], [], (zsF 0 [] 0 []), 0, 0) = _
  refine zg_nx (y := (1, [.ref 0, .int 0, .int k], [.ref 0], (zsF 0 [] 0 []), 0, 0)) rfl ?_
  refine zg_nx (y := (2, [.ref 0, .int 0, .int k], [.int 0, .ref 0], (zsF 0 [] 0 []), 0, 0)) rfl ?_
  refine zg_nx (y := (3, [.ref 0, .int 0, .int k], [.int k, .int 0, .ref 0], (zsF 0 [] 0 []), 0, 0)) rfl ?_
  refine zg_call (n := 14) (as := [.ref 0, .int 0, .int k]) (pc := 6) (lv := [.ref 0, .int 0, .int k]) (stk := []) (st := (zsF 0 [] 0 [])) (c := 0) (s := 0) (v := (some (.int 0))) (st' := (zsF 0 [] 0 [])) rfl (zq_31 h0 h1) ?_
  show zgo _ _ _ (6, [.ref 0, .int 0, .int k], [.int 0], (zsF 0 [] 0 []), 0, 0) = _
  refine zg_nx (y := (23, [.ref 0, .int 0, .int k], [], (zsF 0 [] 0 []), 0, 0)) rfl ?_
  refine zg_nx (y := (24, [.ref 0, .int 0, .int k], [.int (-1)], (zsF 0 [] 0 []), 0, 0)) rfl ?_
  exact zg_ret rfl

/-- DesignReaderModel.has -/
theorem zq_33 {k : Int32} (h0 : ¬ (k < 0)) (h1 : 1 ≤ k) : zrun 20000 7 24 [.ref 35, .int 0, .int k] (zsF 0 [] 0 []) = some (some (.int 0), (zsF 0 [] 0 [])) := by
  refine zr_of (m := zm_R_has) rfl (Nat.le_of_ble_eq_true rfl) ?_
  show zgo _ _ _ (0, [.ref 35, .int 0, .int k], [], (zsF 0 [] 0 []), 0, 0) = _
  refine zg_nx (y := (1, [.ref 35, .int 0, .int k], [.int 0], (zsF 0 [] 0 []), 0, 0)) rfl ?_
  refine zg_nx (y := (4, [.ref 35, .int 0, .int k], [], (zsF 0 [] 0 []), 0, 0)) rfl ?_
  refine zg_nx (y := (5, [.ref 35, .int 0, .int k], [.int 0], (zsF 0 [] 0 []), 0, 0)) rfl ?_
  refine zg_nx (y := (6, [.ref 35, .int 0, .int k], [.int 2, .int 0], (zsF 0 [] 0 []), 0, 0)) rfl ?_
  refine zg_nx (y := (9, [.ref 35, .int 0, .int k], [], (zsF 0 [] 0 []), 0, 0)) rfl ?_
  refine zg_nx (y := (10, [.ref 35, .int 0, .int k], [.int k], (zsF 0 [] 0 []), 0, 0)) rfl ?_
  refine zg_brF (P := k < 0) (a := (zn 27 [.ref 35, .int 0, .int k] [] (zsF 0 [] 0 []) 0 0)) (pc := 13) (lv := [.ref 35, .int 0, .int k]) (stk := []) (st := (zsF 0 [] 0 [])) (c := 0) (s := 0) rfl h0 ?_
  refine zg_nx (y := (14, [.ref 35, .int 0, .int k], [.int k], (zsF 0 [] 0 []), 0, 0)) rfl ?_
  refine zg_nx (y := (15, [.ref 35, .int 0, .int k], [.ref 35, .int k], (zsF 0 [] 0 []), 0, 0)) rfl ?_
  refine zg_nx (y := (18, [.ref 35, .int 0, .int k], [.ref 54, .int k], (zsF 0 [] 0 []), 0, 0)) rfl ?_
  refine zg_nx (y := (19, [.ref 35, .int 0, .int k], [.int 0, .ref 54, .int k], (zsF 0 [] 0 []), 0, 0)) rfl ?_
  refine zg_nx (y := (20, [.ref 35, .int 0, .int k], [.int 1, .int k], (zsF 0 [] 0 []), 0, 0)) rfl ?_
  refine zg_brT (P := 1 ≤ k) (b := (zn 23 [.ref 35, .int 0, .int k] [] (zsF 0 [] 0 []) 0 0)) (pc := 27) (lv := [.ref 35, .int 0, .int k]) (stk := []) (st := (zsF 0 [] 0 [])) (c := 0) (s := 0) rfl h1 ?_
  refine zg_nx (y := (28, [.ref 35, .int 0, .int k], [.int 0], (zsF 0 [] 0 []), 0, 0)) rfl ?_
  exact zg_ret rfl

/-- DesignReaderModel.whole -/
theorem zq_34 {k : Int32} (h0 : ¬ (k < 0)) (h1 : 1 ≤ k) : zrun 20000 8 29 [.ref 35, .int 0, .int k] (zsF 0 [] 0 []) = some (some (.int (-1)), (zsF 0 [] 0 [])) := by
  refine zr_of (m := zm_R_whole) rfl (Nat.le_of_ble_eq_true rfl) ?_
  show zgo _ _ _ (0, [.ref 35, .int 0, .int k], [], (zsF 0 [] 0 []), 0, 0) = _
  refine zg_nx (y := (1, [.ref 35, .int 0, .int k], [.ref 35], (zsF 0 [] 0 []), 0, 0)) rfl ?_
  refine zg_nx (y := (2, [.ref 35, .int 0, .int k], [.int 0, .ref 35], (zsF 0 [] 0 []), 0, 0)) rfl ?_
  refine zg_nx (y := (3, [.ref 35, .int 0, .int k], [.int k, .int 0, .ref 35], (zsF 0 [] 0 []), 0, 0)) rfl ?_
  refine zg_call (n := 24) (as := [.ref 35, .int 0, .int k]) (pc := 6) (lv := [.ref 35, .int 0, .int k]) (stk := []) (st := (zsF 0 [] 0 [])) (c := 0) (s := 0) (v := (some (.int 0))) (st' := (zsF 0 [] 0 [])) rfl (zq_33 h0 h1) ?_
  show zgo _ _ _ (6, [.ref 35, .int 0, .int k], [.int 0], (zsF 0 [] 0 []), 0, 0) = _
  refine zg_nx (y := (24, [.ref 35, .int 0, .int k], [], (zsF 0 [] 0 []), 0, 0)) rfl ?_
  refine zg_nx (y := (25, [.ref 35, .int 0, .int k], [.int (-1)], (zsF 0 [] 0 []), 0, 0)) rfl ?_
  exact zg_ret rfl

/-- DesignReader.isTree -/
theorem zq_35 : zrun 20000 6 13 [.ref 0, .int 1] (zsF 0 [] 0 []) = some (some (.int 1), (zsF 0 [] 0 [])) := by
  refine zr_of (m := zm_D_isTree) rfl (Nat.le_of_ble_eq_true rfl) ?_
  show zgo _ _ _ (0, [.ref 0, .int 1], [], (zsF 0 [] 0 []), 0, 0) = _
  refine zg_nx (y := (1, [.ref 0, .int 1], [.int 1], (zsF 0 [] 0 []), 0, 0)) rfl ?_
  refine zg_nx (y := (4, [.ref 0, .int 1], [], (zsF 0 [] 0 []), 0, 0)) rfl ?_
  refine zg_nx (y := (5, [.ref 0, .int 1], [.int 1], (zsF 0 [] 0 []), 0, 0)) rfl ?_
  refine zg_nx (y := (6, [.ref 0, .int 1], [.int 2, .int 1], (zsF 0 [] 0 []), 0, 0)) rfl ?_
  refine zg_nx (y := (9, [.ref 0, .int 1], [], (zsF 0 [] 0 []), 0, 0)) rfl ?_
  refine zg_nx (y := (10, [.ref 0, .int 1], [.int 1], (zsF 0 [] 0 []), 0, 0)) rfl ?_
  refine zg_nx (y := (14, [.ref 0, .int 1], [.int 1], (zsF 0 [] 0 []), 0, 0)) rfl ?_
  exact zg_ret rfl

/-- DesignReader.isNode -/
theorem zq_36 {k : Int32} (h0 : k < 0) : zrun 20000 7 14 [.ref 0, .int 1, .int k] (zsF 0 [] 0 []) = some (some (.int 0), (zsF 0 [] 0 [])) := by
  refine zr_of (m := zm_D_isNode) rfl (Nat.le_of_ble_eq_true rfl) ?_
  show zgo _ _ _ (0, [.ref 0, .int 1, .int k], [], (zsF 0 [] 0 []), 0, 0) = _
  refine zg_nx (y := (1, [.ref 0, .int 1, .int k], [.ref 0], (zsF 0 [] 0 []), 0, 0)) rfl ?_
  refine zg_nx (y := (2, [.ref 0, .int 1, .int k], [.int 1, .ref 0], (zsF 0 [] 0 []), 0, 0)) rfl ?_
  refine zg_call (n := 13) (as := [.ref 0, .int 1]) (pc := 5) (lv := [.ref 0, .int 1, .int k]) (stk := []) (st := (zsF 0 [] 0 [])) (c := 0) (s := 0) (v := (some (.int 1))) (st' := (zsF 0 [] 0 [])) rfl (zq_35) ?_
  show zgo _ _ _ (5, [.ref 0, .int 1, .int k], [.int 1], (zsF 0 [] 0 []), 0, 0) = _
  refine zg_nx (y := (8, [.ref 0, .int 1, .int k], [], (zsF 0 [] 0 []), 0, 0)) rfl ?_
  refine zg_nx (y := (9, [.ref 0, .int 1, .int k], [.int k], (zsF 0 [] 0 []), 0, 0)) rfl ?_
  refine zg_brT (P := k < 0) (b := (zn 12 [.ref 0, .int 1, .int k] [] (zsF 0 [] 0 []) 0 0)) (pc := 29) (lv := [.ref 0, .int 1, .int k]) (stk := []) (st := (zsF 0 [] 0 [])) (c := 0) (s := 0) rfl h0 ?_
  refine zg_nx (y := (30, [.ref 0, .int 1, .int k], [.int 0], (zsF 0 [] 0 []), 0, 0)) rfl ?_
  exact zg_ret rfl

/-- DesignReader.whole -/
theorem zq_37 {k : Int32} (h0 : k < 0) : zrun 20000 8 6 [.ref 0, .int 1, .int k] (zsF 0 [] 0 []) = some (some (.int (-1)), (zsF 0 [] 0 [])) := by
  refine zr_of (m := zm_D_whole) rfl (Nat.le_of_ble_eq_true rfl) ?_
  show zgo _ _ _ (0, [.ref 0, .int 1, .int k], [], (zsF 0 [] 0 []), 0, 0) = _
  refine zg_nx (y := (1, [.ref 0, .int 1, .int k], [.ref 0], (zsF 0 [] 0 []), 0, 0)) rfl ?_
  refine zg_nx (y := (2, [.ref 0, .int 1, .int k], [.int 1, .ref 0], (zsF 0 [] 0 []), 0, 0)) rfl ?_
  refine zg_nx (y := (3, [.ref 0, .int 1, .int k], [.int k, .int 1, .ref 0], (zsF 0 [] 0 []), 0, 0)) rfl ?_
  refine zg_call (n := 14) (as := [.ref 0, .int 1, .int k]) (pc := 6) (lv := [.ref 0, .int 1, .int k]) (stk := []) (st := (zsF 0 [] 0 [])) (c := 0) (s := 0) (v := (some (.int 0))) (st' := (zsF 0 [] 0 [])) rfl (zq_36 h0) ?_
  show zgo _ _ _ (6, [.ref 0, .int 1, .int k], [.int 0], (zsF 0 [] 0 []), 0, 0) = _
  refine zg_nx (y := (23, [.ref 0, .int 1, .int k], [], (zsF 0 [] 0 []), 0, 0)) rfl ?_
  refine zg_nx (y := (24, [.ref 0, .int 1, .int k], [.int (-1)], (zsF 0 [] 0 []), 0, 0)) rfl ?_
  exact zg_ret rfl

/-- DesignReaderModel.has -/
theorem zq_38 {k : Int32} (h0 : k < 0) : zrun 20000 7 24 [.ref 35, .int 1, .int k] (zsF 0 [] 0 []) = some (some (.int 0), (zsF 0 [] 0 [])) := by
  refine zr_of (m := zm_R_has) rfl (Nat.le_of_ble_eq_true rfl) ?_
  show zgo _ _ _ (0, [.ref 35, .int 1, .int k], [], (zsF 0 [] 0 []), 0, 0) = _
  refine zg_nx (y := (1, [.ref 35, .int 1, .int k], [.int 1], (zsF 0 [] 0 []), 0, 0)) rfl ?_
  refine zg_nx (y := (4, [.ref 35, .int 1, .int k], [], (zsF 0 [] 0 []), 0, 0)) rfl ?_
  refine zg_nx (y := (5, [.ref 35, .int 1, .int k], [.int 1], (zsF 0 [] 0 []), 0, 0)) rfl ?_
  refine zg_nx (y := (6, [.ref 35, .int 1, .int k], [.int 2, .int 1], (zsF 0 [] 0 []), 0, 0)) rfl ?_
  refine zg_nx (y := (9, [.ref 35, .int 1, .int k], [], (zsF 0 [] 0 []), 0, 0)) rfl ?_
  refine zg_nx (y := (10, [.ref 35, .int 1, .int k], [.int k], (zsF 0 [] 0 []), 0, 0)) rfl ?_
  refine zg_brT (P := k < 0) (b := (zn 13 [.ref 35, .int 1, .int k] [] (zsF 0 [] 0 []) 0 0)) (pc := 27) (lv := [.ref 35, .int 1, .int k]) (stk := []) (st := (zsF 0 [] 0 [])) (c := 0) (s := 0) rfl h0 ?_
  refine zg_nx (y := (28, [.ref 35, .int 1, .int k], [.int 0], (zsF 0 [] 0 []), 0, 0)) rfl ?_
  exact zg_ret rfl

/-- DesignReaderModel.whole -/
theorem zq_39 {k : Int32} (h0 : k < 0) : zrun 20000 8 29 [.ref 35, .int 1, .int k] (zsF 0 [] 0 []) = some (some (.int (-1)), (zsF 0 [] 0 [])) := by
  refine zr_of (m := zm_R_whole) rfl (Nat.le_of_ble_eq_true rfl) ?_
  show zgo _ _ _ (0, [.ref 35, .int 1, .int k], [], (zsF 0 [] 0 []), 0, 0) = _
  refine zg_nx (y := (1, [.ref 35, .int 1, .int k], [.ref 35], (zsF 0 [] 0 []), 0, 0)) rfl ?_
  refine zg_nx (y := (2, [.ref 35, .int 1, .int k], [.int 1, .ref 35], (zsF 0 [] 0 []), 0, 0)) rfl ?_
  refine zg_nx (y := (3, [.ref 35, .int 1, .int k], [.int k, .int 1, .ref 35], (zsF 0 [] 0 []), 0, 0)) rfl ?_
  refine zg_call (n := 24) (as := [.ref 35, .int 1, .int k]) (pc := 6) (lv := [.ref 35, .int 1, .int k]) (stk := []) (st := (zsF 0 [] 0 [])) (c := 0) (s := 0) (v := (some (.int 0))) (st' := (zsF 0 [] 0 [])) rfl (zq_38 h0) ?_
  show zgo _ _ _ (6, [.ref 35, .int 1, .int k], [.int 0], (zsF 0 [] 0 []), 0, 0) = _
  refine zg_nx (y := (24, [.ref 35, .int 1, .int k], [], (zsF 0 [] 0 []), 0, 0)) rfl ?_
  refine zg_nx (y := (25, [.ref 35, .int 1, .int k], [.int (-1)], (zsF 0 [] 0 []), 0, 0)) rfl ?_
  exact zg_ret rfl

/-- DesignReader.isNode -/
theorem zq_40 {k : Int32} (h0 : ¬ (k < 0)) (h1 : 1 ≤ k) : zrun 20000 7 14 [.ref 0, .int 1, .int k] (zsF 0 [] 0 []) = some (some (.int 0), (zsF 0 [] 0 [])) := by
  refine zr_of (m := zm_D_isNode) rfl (Nat.le_of_ble_eq_true rfl) ?_
  show zgo _ _ _ (0, [.ref 0, .int 1, .int k], [], (zsF 0 [] 0 []), 0, 0) = _
  refine zg_nx (y := (1, [.ref 0, .int 1, .int k], [.ref 0], (zsF 0 [] 0 []), 0, 0)) rfl ?_
  refine zg_nx (y := (2, [.ref 0, .int 1, .int k], [.int 1, .ref 0], (zsF 0 [] 0 []), 0, 0)) rfl ?_
  refine zg_call (n := 13) (as := [.ref 0, .int 1]) (pc := 5) (lv := [.ref 0, .int 1, .int k]) (stk := []) (st := (zsF 0 [] 0 [])) (c := 0) (s := 0) (v := (some (.int 1))) (st' := (zsF 0 [] 0 [])) rfl (zq_35) ?_
  show zgo _ _ _ (5, [.ref 0, .int 1, .int k], [.int 1], (zsF 0 [] 0 []), 0, 0) = _
  refine zg_nx (y := (8, [.ref 0, .int 1, .int k], [], (zsF 0 [] 0 []), 0, 0)) rfl ?_
  refine zg_nx (y := (9, [.ref 0, .int 1, .int k], [.int k], (zsF 0 [] 0 []), 0, 0)) rfl ?_
  refine zg_brF (P := k < 0) (a := (zn 29 [.ref 0, .int 1, .int k] [] (zsF 0 [] 0 []) 0 0)) (pc := 12) (lv := [.ref 0, .int 1, .int k]) (stk := []) (st := (zsF 0 [] 0 [])) (c := 0) (s := 0) rfl h0 ?_
  refine zg_nx (y := (13, [.ref 0, .int 1, .int k], [.int k], (zsF 0 [] 0 []), 0, 0)) rfl ?_
  refine zg_nx (y := (14, [.ref 0, .int 1, .int k], [.ref 0, .int k], (zsF 0 [] 0 []), 0, 0)) rfl ?_
  refine zg_nx (y := (17, [.ref 0, .int 1, .int k], [.ref 1, .int k], (zsF 0 [] 0 []), 0, 0)) rfl ?_
  refine zg_nx (y := (18, [.ref 0, .int 1, .int k], [.int 1, .ref 1, .int k], (zsF 0 [] 0 []), 0, 0)) rfl ?_
  refine zg_nx (y := (19, [.ref 0, .int 1, .int k], [.ref 10, .int k], (zsF 0 [] 0 []), 0, 0)) rfl ?_
  refine zg_nx (y := (22, [.ref 0, .int 1, .int k], [.int 1, .int k], (zsF 0 [] 0 []), 0, 0)) rfl ?_
  refine zg_brT (P := 1 ≤ k) (b := (zn 25 [.ref 0, .int 1, .int k] [] (zsF 0 [] 0 []) 0 0)) (pc := 29) (lv := [.ref 0, .int 1, .int k]) (stk := []) (st := (zsF 0 [] 0 [])) (c := 0) (s := 0) rfl h1 ?_
  refine zg_nx (y := (30, [.ref 0, .int 1, .int k], [.int 0], (zsF 0 [] 0 []), 0, 0)) rfl ?_
  exact zg_ret rfl

/-- DesignReader.whole -/
theorem zq_41 {k : Int32} (h0 : ¬ (k < 0)) (h1 : 1 ≤ k) : zrun 20000 8 6 [.ref 0, .int 1, .int k] (zsF 0 [] 0 []) = some (some (.int (-1)), (zsF 0 [] 0 [])) := by
  refine zr_of (m := zm_D_whole) rfl (Nat.le_of_ble_eq_true rfl) ?_
  show zgo _ _ _ (0, [.ref 0, .int 1, .int k], [], (zsF 0 [] 0 []), 0, 0) = _
  refine zg_nx (y := (1, [.ref 0, .int 1, .int k], [.ref 0], (zsF 0 [] 0 []), 0, 0)) rfl ?_
  refine zg_nx (y := (2, [.ref 0, .int 1, .int k], [.int 1, .ref 0], (zsF 0 [] 0 []), 0, 0)) rfl ?_
  refine zg_nx (y := (3, [.ref 0, .int 1, .int k], [.int k, .int 1, .ref 0], (zsF 0 [] 0 []), 0, 0)) rfl ?_
  refine zg_call (n := 14) (as := [.ref 0, .int 1, .int k]) (pc := 6) (lv := [.ref 0, .int 1, .int k]) (stk := []) (st := (zsF 0 [] 0 [])) (c := 0) (s := 0) (v := (some (.int 0))) (st' := (zsF 0 [] 0 [])) rfl (zq_40 h0 h1) ?_
  show zgo _ _ _ (6, [.ref 0, .int 1, .int k], [.int 0], (zsF 0 [] 0 []), 0, 0) = _
  refine zg_nx (y := (23, [.ref 0, .int 1, .int k], [], (zsF 0 [] 0 []), 0, 0)) rfl ?_
  refine zg_nx (y := (24, [.ref 0, .int 1, .int k], [.int (-1)], (zsF 0 [] 0 []), 0, 0)) rfl ?_
  exact zg_ret rfl

/-- DesignReaderModel.has -/
theorem zq_42 {k : Int32} (h0 : ¬ (k < 0)) (h1 : 1 ≤ k) : zrun 20000 7 24 [.ref 35, .int 1, .int k] (zsF 0 [] 0 []) = some (some (.int 0), (zsF 0 [] 0 [])) := by
  refine zr_of (m := zm_R_has) rfl (Nat.le_of_ble_eq_true rfl) ?_
  show zgo _ _ _ (0, [.ref 35, .int 1, .int k], [], (zsF 0 [] 0 []), 0, 0) = _
  refine zg_nx (y := (1, [.ref 35, .int 1, .int k], [.int 1], (zsF 0 [] 0 []), 0, 0)) rfl ?_
  refine zg_nx (y := (4, [.ref 35, .int 1, .int k], [], (zsF 0 [] 0 []), 0, 0)) rfl ?_
  refine zg_nx (y := (5, [.ref 35, .int 1, .int k], [.int 1], (zsF 0 [] 0 []), 0, 0)) rfl ?_
  refine zg_nx (y := (6, [.ref 35, .int 1, .int k], [.int 2, .int 1], (zsF 0 [] 0 []), 0, 0)) rfl ?_
  refine zg_nx (y := (9, [.ref 35, .int 1, .int k], [], (zsF 0 [] 0 []), 0, 0)) rfl ?_
  refine zg_nx (y := (10, [.ref 35, .int 1, .int k], [.int k], (zsF 0 [] 0 []), 0, 0)) rfl ?_
  refine zg_brF (P := k < 0) (a := (zn 27 [.ref 35, .int 1, .int k] [] (zsF 0 [] 0 []) 0 0)) (pc := 13) (lv := [.ref 35, .int 1, .int k]) (stk := []) (st := (zsF 0 [] 0 [])) (c := 0) (s := 0) rfl h0 ?_
  refine zg_nx (y := (14, [.ref 35, .int 1, .int k], [.int k], (zsF 0 [] 0 []), 0, 0)) rfl ?_
  refine zg_nx (y := (15, [.ref 35, .int 1, .int k], [.ref 35, .int k], (zsF 0 [] 0 []), 0, 0)) rfl ?_
  refine zg_nx (y := (18, [.ref 35, .int 1, .int k], [.ref 54, .int k], (zsF 0 [] 0 []), 0, 0)) rfl ?_
  refine zg_nx (y := (19, [.ref 35, .int 1, .int k], [.int 1, .ref 54, .int k], (zsF 0 [] 0 []), 0, 0)) rfl ?_
  refine zg_nx (y := (20, [.ref 35, .int 1, .int k], [.int 1, .int k], (zsF 0 [] 0 []), 0, 0)) rfl ?_
  refine zg_brT (P := 1 ≤ k) (b := (zn 23 [.ref 35, .int 1, .int k] [] (zsF 0 [] 0 []) 0 0)) (pc := 27) (lv := [.ref 35, .int 1, .int k]) (stk := []) (st := (zsF 0 [] 0 [])) (c := 0) (s := 0) rfl h1 ?_
  refine zg_nx (y := (28, [.ref 35, .int 1, .int k], [.int 0], (zsF 0 [] 0 []), 0, 0)) rfl ?_
  exact zg_ret rfl

/-- DesignReaderModel.whole -/
theorem zq_43 {k : Int32} (h0 : ¬ (k < 0)) (h1 : 1 ≤ k) : zrun 20000 8 29 [.ref 35, .int 1, .int k] (zsF 0 [] 0 []) = some (some (.int (-1)), (zsF 0 [] 0 [])) := by
  refine zr_of (m := zm_R_whole) rfl (Nat.le_of_ble_eq_true rfl) ?_
  show zgo _ _ _ (0, [.ref 35, .int 1, .int k], [], (zsF 0 [] 0 []), 0, 0) = _
  refine zg_nx (y := (1, [.ref 35, .int 1, .int k], [.ref 35], (zsF 0 [] 0 []), 0, 0)) rfl ?_
  refine zg_nx (y := (2, [.ref 35, .int 1, .int k], [.int 1, .ref 35], (zsF 0 [] 0 []), 0, 0)) rfl ?_
  refine zg_nx (y := (3, [.ref 35, .int 1, .int k], [.int k, .int 1, .ref 35], (zsF 0 [] 0 []), 0, 0)) rfl ?_
  refine zg_call (n := 24) (as := [.ref 35, .int 1, .int k]) (pc := 6) (lv := [.ref 35, .int 1, .int k]) (stk := []) (st := (zsF 0 [] 0 [])) (c := 0) (s := 0) (v := (some (.int 0))) (st' := (zsF 0 [] 0 [])) rfl (zq_42 h0 h1) ?_
  show zgo _ _ _ (6, [.ref 35, .int 1, .int k], [.int 0], (zsF 0 [] 0 []), 0, 0) = _
  refine zg_nx (y := (24, [.ref 35, .int 1, .int k], [], (zsF 0 [] 0 []), 0, 0)) rfl ?_
  refine zg_nx (y := (25, [.ref 35, .int 1, .int k], [.int (-1)], (zsF 0 [] 0 []), 0, 0)) rfl ?_
  exact zg_ret rfl

/-- DesignReader.isTree -/
theorem zq_44 {t : Int32} (h0 : ¬ (t < 0)) (h1 : 2 ≤ t) : zrun 20000 6 13 [.ref 0, .int t] (zsF 0 [] 0 []) = some (some (.int 0), (zsF 0 [] 0 [])) := by
  refine zr_of (m := zm_D_isTree) rfl (Nat.le_of_ble_eq_true rfl) ?_
  show zgo _ _ _ (0, [.ref 0, .int t], [], (zsF 0 [] 0 []), 0, 0) = _
  refine zg_nx (y := (1, [.ref 0, .int t], [.int t], (zsF 0 [] 0 []), 0, 0)) rfl ?_
  refine zg_brF (P := t < 0) (a := (zn 13 [.ref 0, .int t] [] (zsF 0 [] 0 []) 0 0)) (pc := 4) (lv := [.ref 0, .int t]) (stk := []) (st := (zsF 0 [] 0 [])) (c := 0) (s := 0) rfl h0 ?_
  refine zg_nx (y := (5, [.ref 0, .int t], [.int t], (zsF 0 [] 0 []), 0, 0)) rfl ?_
  refine zg_nx (y := (6, [.ref 0, .int t], [.int 2, .int t], (zsF 0 [] 0 []), 0, 0)) rfl ?_
  refine zg_brT (P := 2 ≤ t) (b := (zn 9 [.ref 0, .int t] [] (zsF 0 [] 0 []) 0 0)) (pc := 13) (lv := [.ref 0, .int t]) (stk := []) (st := (zsF 0 [] 0 [])) (c := 0) (s := 0) rfl h1 ?_
  refine zg_nx (y := (14, [.ref 0, .int t], [.int 0], (zsF 0 [] 0 []), 0, 0)) rfl ?_
  exact zg_ret rfl

/-- DesignReader.isNode -/
theorem zq_45 {t k : Int32} (h0 : ¬ (t < 0)) (h1 : 2 ≤ t) : zrun 20000 7 14 [.ref 0, .int t, .int k] (zsF 0 [] 0 []) = some (some (.int 0), (zsF 0 [] 0 [])) := by
  refine zr_of (m := zm_D_isNode) rfl (Nat.le_of_ble_eq_true rfl) ?_
  show zgo _ _ _ (0, [.ref 0, .int t, .int k], [], (zsF 0 [] 0 []), 0, 0) = _
  refine zg_nx (y := (1, [.ref 0, .int t, .int k], [.ref 0], (zsF 0 [] 0 []), 0, 0)) rfl ?_
  refine zg_nx (y := (2, [.ref 0, .int t, .int k], [.int t, .ref 0], (zsF 0 [] 0 []), 0, 0)) rfl ?_
  refine zg_call (n := 13) (as := [.ref 0, .int t]) (pc := 5) (lv := [.ref 0, .int t, .int k]) (stk := []) (st := (zsF 0 [] 0 [])) (c := 0) (s := 0) (v := (some (.int 0))) (st' := (zsF 0 [] 0 [])) rfl (zq_44 h0 h1) ?_
  show zgo _ _ _ (5, [.ref 0, .int t, .int k], [.int 0], (zsF 0 [] 0 []), 0, 0) = _
  refine zg_nx (y := (29, [.ref 0, .int t, .int k], [], (zsF 0 [] 0 []), 0, 0)) rfl ?_
  refine zg_nx (y := (30, [.ref 0, .int t, .int k], [.int 0], (zsF 0 [] 0 []), 0, 0)) rfl ?_
  exact zg_ret rfl

/-- DesignReader.whole -/
theorem zq_46 {t k : Int32} (h0 : ¬ (t < 0)) (h1 : 2 ≤ t) : zrun 20000 8 6 [.ref 0, .int t, .int k] (zsF 0 [] 0 []) = some (some (.int (-1)), (zsF 0 [] 0 [])) := by
  refine zr_of (m := zm_D_whole) rfl (Nat.le_of_ble_eq_true rfl) ?_
  show zgo _ _ _ (0, [.ref 0, .int t, .int k], [], (zsF 0 [] 0 []), 0, 0) = _
  refine zg_nx (y := (1, [.ref 0, .int t, .int k], [.ref 0], (zsF 0 [] 0 []), 0, 0)) rfl ?_
  refine zg_nx (y := (2, [.ref 0, .int t, .int k], [.int t, .ref 0], (zsF 0 [] 0 []), 0, 0)) rfl ?_
  refine zg_nx (y := (3, [.ref 0, .int t, .int k], [.int k, .int t, .ref 0], (zsF 0 [] 0 []), 0, 0)) rfl ?_
  refine zg_call (n := 14) (as := [.ref 0, .int t, .int k]) (pc := 6) (lv := [.ref 0, .int t, .int k]) (stk := []) (st := (zsF 0 [] 0 [])) (c := 0) (s := 0) (v := (some (.int 0))) (st' := (zsF 0 [] 0 [])) rfl (zq_45 h0 h1) ?_
  show zgo _ _ _ (6, [.ref 0, .int t, .int k], [.int 0], (zsF 0 [] 0 []), 0, 0) = _
  refine zg_nx (y := (23, [.ref 0, .int t, .int k], [], (zsF 0 [] 0 []), 0, 0)) rfl ?_
  refine zg_nx (y := (24, [.ref 0, .int t, .int k], [.int (-1)], (zsF 0 [] 0 []), 0, 0)) rfl ?_
  exact zg_ret rfl

/-- DesignReaderModel.has -/
theorem zq_47 {t k : Int32} (h0 : ¬ (t < 0)) (h1 : 2 ≤ t) : zrun 20000 7 24 [.ref 35, .int t, .int k] (zsF 0 [] 0 []) = some (some (.int 0), (zsF 0 [] 0 [])) := by
  refine zr_of (m := zm_R_has) rfl (Nat.le_of_ble_eq_true rfl) ?_
  show zgo _ _ _ (0, [.ref 35, .int t, .int k], [], (zsF 0 [] 0 []), 0, 0) = _
  refine zg_nx (y := (1, [.ref 35, .int t, .int k], [.int t], (zsF 0 [] 0 []), 0, 0)) rfl ?_
  refine zg_brF (P := t < 0) (a := (zn 27 [.ref 35, .int t, .int k] [] (zsF 0 [] 0 []) 0 0)) (pc := 4) (lv := [.ref 35, .int t, .int k]) (stk := []) (st := (zsF 0 [] 0 [])) (c := 0) (s := 0) rfl h0 ?_
  refine zg_nx (y := (5, [.ref 35, .int t, .int k], [.int t], (zsF 0 [] 0 []), 0, 0)) rfl ?_
  refine zg_nx (y := (6, [.ref 35, .int t, .int k], [.int 2, .int t], (zsF 0 [] 0 []), 0, 0)) rfl ?_
  refine zg_brT (P := 2 ≤ t) (b := (zn 9 [.ref 35, .int t, .int k] [] (zsF 0 [] 0 []) 0 0)) (pc := 27) (lv := [.ref 35, .int t, .int k]) (stk := []) (st := (zsF 0 [] 0 [])) (c := 0) (s := 0) rfl h1 ?_
  refine zg_nx (y := (28, [.ref 35, .int t, .int k], [.int 0], (zsF 0 [] 0 []), 0, 0)) rfl ?_
  exact zg_ret rfl

/-- DesignReaderModel.whole -/
theorem zq_48 {t k : Int32} (h0 : ¬ (t < 0)) (h1 : 2 ≤ t) : zrun 20000 8 29 [.ref 35, .int t, .int k] (zsF 0 [] 0 []) = some (some (.int (-1)), (zsF 0 [] 0 [])) := by
  refine zr_of (m := zm_R_whole) rfl (Nat.le_of_ble_eq_true rfl) ?_
  show zgo _ _ _ (0, [.ref 35, .int t, .int k], [], (zsF 0 [] 0 []), 0, 0) = _
  refine zg_nx (y := (1, [.ref 35, .int t, .int k], [.ref 35], (zsF 0 [] 0 []), 0, 0)) rfl ?_
  refine zg_nx (y := (2, [.ref 35, .int t, .int k], [.int t, .ref 35], (zsF 0 [] 0 []), 0, 0)) rfl ?_
  refine zg_nx (y := (3, [.ref 35, .int t, .int k], [.int k, .int t, .ref 35], (zsF 0 [] 0 []), 0, 0)) rfl ?_
  refine zg_call (n := 24) (as := [.ref 35, .int t, .int k]) (pc := 6) (lv := [.ref 35, .int t, .int k]) (stk := []) (st := (zsF 0 [] 0 [])) (c := 0) (s := 0) (v := (some (.int 0))) (st' := (zsF 0 [] 0 [])) rfl (zq_47 h0 h1) ?_
  show zgo _ _ _ (6, [.ref 35, .int t, .int k], [.int 0], (zsF 0 [] 0 []), 0, 0) = _
  refine zg_nx (y := (24, [.ref 35, .int t, .int k], [], (zsF 0 [] 0 []), 0, 0)) rfl ?_
  refine zg_nx (y := (25, [.ref 35, .int t, .int k], [.int (-1)], (zsF 0 [] 0 []), 0, 0)) rfl ?_
  exact zg_ret rfl

/-- DesignReader.write -/
theorem zq_49 {t k : Int32} (h0 : t < 0) : zrun 20000 8 9 [.ref 0, .int t, .int k] (zsF 0 [] 0 []) = some (some (.int (-1)), (zsF 0 [] 0 [])) := by
  refine zr_of (m := zm_D_write) rfl (Nat.le_of_ble_eq_true rfl) ?_
  show zgo _ _ _ (0, [.ref 0, .int t, .int k], [], (zsF 0 [] 0 []), 0, 0) = _
  refine zg_nx (y := (1, [.ref 0, .int t, .int k], [.ref 0], (zsF 0 [] 0 []), 0, 0)) rfl ?_
  refine zg_nx (y := (2, [.ref 0, .int t, .int k], [.int t, .ref 0], (zsF 0 [] 0 []), 0, 0)) rfl ?_
  refine zg_nx (y := (3, [.ref 0, .int t, .int k], [.int k, .int t, .ref 0], (zsF 0 [] 0 []), 0, 0)) rfl ?_
  refine zg_call (n := 14) (as := [.ref 0, .int t, .int k]) (pc := 6) (lv := [.ref 0, .int t, .int k]) (stk := []) (st := (zsF 0 [] 0 [])) (c := 0) (s := 0) (v := (some (.int 0))) (st' := (zsF 0 [] 0 [])) rfl (zq_22 h0) ?_
  show zgo _ _ _ (6, [.ref 0, .int t, .int k], [.int 0], (zsF 0 [] 0 []), 0, 0) = _
  refine zg_nx (y := (26, [.ref 0, .int t, .int k], [], (zsF 0 [] 0 []), 0, 0)) rfl ?_
  refine zg_nx (y := (27, [.ref 0, .int t, .int k], [.int (-1)], (zsF 0 [] 0 []), 0, 0)) rfl ?_
  exact zg_ret rfl

/-- DesignReaderModel.write -/
theorem zq_50 {t k : Int32} (h0 : t < 0) : zrun 20000 8 36 [.ref 35, .int t, .int k] (zsF 0 [] 0 []) = some (some (.int (-1)), (zsF 0 [] 0 [])) := by
  refine zr_of (m := zm_R_write) rfl (Nat.le_of_ble_eq_true rfl) ?_
  show zgo _ _ _ (0, [.ref 35, .int t, .int k, zu], [], (zsF 0 [] 0 []), 0, 0) = _
  refine zg_nx (y := (1, [.ref 35, .int t, .int k, zu], [.ref 35], (zsF 0 [] 0 []), 0, 0)) rfl ?_
  refine zg_nx (y := (2, [.ref 35, .int t, .int k, zu], [.int t, .ref 35], (zsF 0 [] 0 []), 0, 0)) rfl ?_
  refine zg_nx (y := (3, [.ref 35, .int t, .int k, zu], [.int k, .int t, .ref 35], (zsF 0 [] 0 []), 0, 0)) rfl ?_
  refine zg_call (n := 24) (as := [.ref 35, .int t, .int k]) (pc := 6) (lv := [.ref 35, .int t, .int k, zu]) (stk := []) (st := (zsF 0 [] 0 [])) (c := 0) (s := 0) (v := (some (.int 0))) (st' := (zsF 0 [] 0 [])) rfl (zq_24 h0) ?_
  show zgo _ _ _ (6, [.ref 35, .int t, .int k, zu], [.int 0], (zsF 0 [] 0 []), 0, 0) = _
  refine zg_nx (y := (9, [.ref 35, .int t, .int k, zu], [], (zsF 0 [] 0 []), 0, 0)) rfl ?_
  refine zg_nx (y := (10, [.ref 35, .int t, .int k, zu], [.int (-1)], (zsF 0 [] 0 []), 0, 0)) rfl ?_
  exact zg_ret rfl

/-- DesignReader.write -/
theorem zq_51 {k : Int32} (h0 : k < 0) : zrun 20000 8 9 [.ref 0, .int 0, .int k] (zsF 0 [] 0 []) = some (some (.int (-1)), (zsF 0 [] 0 [])) := by
  refine zr_of (m := zm_D_write) rfl (Nat.le_of_ble_eq_true rfl) ?_
  show zgo _ _ _ (0, [.ref 0, .int 0, .int k], [], (zsF 0 [] 0 []), 0, 0) = _
  refine zg_nx (y := (1, [.ref 0, .int 0, .int k], [.ref 0], (zsF 0 [] 0 []), 0, 0)) rfl ?_
  refine zg_nx (y := (2, [.ref 0, .int 0, .int k], [.int 0, .ref 0], (zsF 0 [] 0 []), 0, 0)) rfl ?_
  refine zg_nx (y := (3, [.ref 0, .int 0, .int k], [.int k, .int 0, .ref 0], (zsF 0 [] 0 []), 0, 0)) rfl ?_
  refine zg_call (n := 14) (as := [.ref 0, .int 0, .int k]) (pc := 6) (lv := [.ref 0, .int 0, .int k]) (stk := []) (st := (zsF 0 [] 0 [])) (c := 0) (s := 0) (v := (some (.int 0))) (st' := (zsF 0 [] 0 [])) rfl (zq_27 h0) ?_
  show zgo _ _ _ (6, [.ref 0, .int 0, .int k], [.int 0], (zsF 0 [] 0 []), 0, 0) = _
  refine zg_nx (y := (26, [.ref 0, .int 0, .int k], [], (zsF 0 [] 0 []), 0, 0)) rfl ?_
  refine zg_nx (y := (27, [.ref 0, .int 0, .int k], [.int (-1)], (zsF 0 [] 0 []), 0, 0)) rfl ?_
  exact zg_ret rfl

/-- DesignReaderModel.write -/
theorem zq_52 {k : Int32} (h0 : k < 0) : zrun 20000 8 36 [.ref 35, .int 0, .int k] (zsF 0 [] 0 []) = some (some (.int (-1)), (zsF 0 [] 0 [])) := by
  refine zr_of (m := zm_R_write) rfl (Nat.le_of_ble_eq_true rfl) ?_
  show zgo _ _ _ (0, [.ref 35, .int 0, .int k, zu], [], (zsF 0 [] 0 []), 0, 0) = _
  refine zg_nx (y := (1, [.ref 35, .int 0, .int k, zu], [.ref 35], (zsF 0 [] 0 []), 0, 0)) rfl ?_
  refine zg_nx (y := (2, [.ref 35, .int 0, .int k, zu], [.int 0, .ref 35], (zsF 0 [] 0 []), 0, 0)) rfl ?_
  refine zg_nx (y := (3, [.ref 35, .int 0, .int k, zu], [.int k, .int 0, .ref 35], (zsF 0 [] 0 []), 0, 0)) rfl ?_
  refine zg_call (n := 24) (as := [.ref 35, .int 0, .int k]) (pc := 6) (lv := [.ref 35, .int 0, .int k, zu]) (stk := []) (st := (zsF 0 [] 0 [])) (c := 0) (s := 0) (v := (some (.int 0))) (st' := (zsF 0 [] 0 [])) rfl (zq_29 h0) ?_
  show zgo _ _ _ (6, [.ref 35, .int 0, .int k, zu], [.int 0], (zsF 0 [] 0 []), 0, 0) = _
  refine zg_nx (y := (9, [.ref 35, .int 0, .int k, zu], [], (zsF 0 [] 0 []), 0, 0)) rfl ?_
  refine zg_nx (y := (10, [.ref 35, .int 0, .int k, zu], [.int (-1)], (zsF 0 [] 0 []), 0, 0)) rfl ?_
  exact zg_ret rfl

/-- DesignReader.write -/
theorem zq_53 {k : Int32} (h0 : ¬ (k < 0)) (h1 : 1 ≤ k) : zrun 20000 8 9 [.ref 0, .int 0, .int k] (zsF 0 [] 0 []) = some (some (.int (-1)), (zsF 0 [] 0 [])) := by
  refine zr_of (m := zm_D_write) rfl (Nat.le_of_ble_eq_true rfl) ?_
  show zgo _ _ _ (0, [.ref 0, .int 0, .int k], [], (zsF 0 [] 0 []), 0, 0) = _
  refine zg_nx (y := (1, [.ref 0, .int 0, .int k], [.ref 0], (zsF 0 [] 0 []), 0, 0)) rfl ?_
  refine zg_nx (y := (2, [.ref 0, .int 0, .int k], [.int 0, .ref 0], (zsF 0 [] 0 []), 0, 0)) rfl ?_
  refine zg_nx (y := (3, [.ref 0, .int 0, .int k], [.int k, .int 0, .ref 0], (zsF 0 [] 0 []), 0, 0)) rfl ?_
  refine zg_call (n := 14) (as := [.ref 0, .int 0, .int k]) (pc := 6) (lv := [.ref 0, .int 0, .int k]) (stk := []) (st := (zsF 0 [] 0 [])) (c := 0) (s := 0) (v := (some (.int 0))) (st' := (zsF 0 [] 0 [])) rfl (zq_31 h0 h1) ?_
  show zgo _ _ _ (6, [.ref 0, .int 0, .int k], [.int 0], (zsF 0 [] 0 []), 0, 0) = _
  refine zg_nx (y := (26, [.ref 0, .int 0, .int k], [], (zsF 0 [] 0 []), 0, 0)) rfl ?_
  refine zg_nx (y := (27, [.ref 0, .int 0, .int k], [.int (-1)], (zsF 0 [] 0 []), 0, 0)) rfl ?_
  exact zg_ret rfl

/-- DesignReaderModel.write -/
theorem zq_54 {k : Int32} (h0 : ¬ (k < 0)) (h1 : 1 ≤ k) : zrun 20000 8 36 [.ref 35, .int 0, .int k] (zsF 0 [] 0 []) = some (some (.int (-1)), (zsF 0 [] 0 [])) := by
  refine zr_of (m := zm_R_write) rfl (Nat.le_of_ble_eq_true rfl) ?_
  show zgo _ _ _ (0, [.ref 35, .int 0, .int k, zu], [], (zsF 0 [] 0 []), 0, 0) = _
  refine zg_nx (y := (1, [.ref 35, .int 0, .int k, zu], [.ref 35], (zsF 0 [] 0 []), 0, 0)) rfl ?_
  refine zg_nx (y := (2, [.ref 35, .int 0, .int k, zu], [.int 0, .ref 35], (zsF 0 [] 0 []), 0, 0)) rfl ?_
  refine zg_nx (y := (3, [.ref 35, .int 0, .int k, zu], [.int k, .int 0, .ref 35], (zsF 0 [] 0 []), 0, 0)) rfl ?_
  refine zg_call (n := 24) (as := [.ref 35, .int 0, .int k]) (pc := 6) (lv := [.ref 35, .int 0, .int k, zu]) (stk := []) (st := (zsF 0 [] 0 [])) (c := 0) (s := 0) (v := (some (.int 0))) (st' := (zsF 0 [] 0 [])) rfl (zq_33 h0 h1) ?_
  show zgo _ _ _ (6, [.ref 35, .int 0, .int k, zu], [.int 0], (zsF 0 [] 0 []), 0, 0) = _
  refine zg_nx (y := (9, [.ref 35, .int 0, .int k, zu], [], (zsF 0 [] 0 []), 0, 0)) rfl ?_
  refine zg_nx (y := (10, [.ref 35, .int 0, .int k, zu], [.int (-1)], (zsF 0 [] 0 []), 0, 0)) rfl ?_
  exact zg_ret rfl

/-- DesignReader.write -/
theorem zq_55 {k : Int32} (h0 : k < 0) : zrun 20000 8 9 [.ref 0, .int 1, .int k] (zsF 0 [] 0 []) = some (some (.int (-1)), (zsF 0 [] 0 [])) := by
  refine zr_of (m := zm_D_write) rfl (Nat.le_of_ble_eq_true rfl) ?_
  show zgo _ _ _ (0, [.ref 0, .int 1, .int k], [], (zsF 0 [] 0 []), 0, 0) = _
  refine zg_nx (y := (1, [.ref 0, .int 1, .int k], [.ref 0], (zsF 0 [] 0 []), 0, 0)) rfl ?_
  refine zg_nx (y := (2, [.ref 0, .int 1, .int k], [.int 1, .ref 0], (zsF 0 [] 0 []), 0, 0)) rfl ?_
  refine zg_nx (y := (3, [.ref 0, .int 1, .int k], [.int k, .int 1, .ref 0], (zsF 0 [] 0 []), 0, 0)) rfl ?_
  refine zg_call (n := 14) (as := [.ref 0, .int 1, .int k]) (pc := 6) (lv := [.ref 0, .int 1, .int k]) (stk := []) (st := (zsF 0 [] 0 [])) (c := 0) (s := 0) (v := (some (.int 0))) (st' := (zsF 0 [] 0 [])) rfl (zq_36 h0) ?_
  show zgo _ _ _ (6, [.ref 0, .int 1, .int k], [.int 0], (zsF 0 [] 0 []), 0, 0) = _
  refine zg_nx (y := (26, [.ref 0, .int 1, .int k], [], (zsF 0 [] 0 []), 0, 0)) rfl ?_
  refine zg_nx (y := (27, [.ref 0, .int 1, .int k], [.int (-1)], (zsF 0 [] 0 []), 0, 0)) rfl ?_
  exact zg_ret rfl

/-- DesignReaderModel.write -/
theorem zq_56 {k : Int32} (h0 : k < 0) : zrun 20000 8 36 [.ref 35, .int 1, .int k] (zsF 0 [] 0 []) = some (some (.int (-1)), (zsF 0 [] 0 [])) := by
  refine zr_of (m := zm_R_write) rfl (Nat.le_of_ble_eq_true rfl) ?_
  show zgo _ _ _ (0, [.ref 35, .int 1, .int k, zu], [], (zsF 0 [] 0 []), 0, 0) = _
  refine zg_nx (y := (1, [.ref 35, .int 1, .int k, zu], [.ref 35], (zsF 0 [] 0 []), 0, 0)) rfl ?_
  refine zg_nx (y := (2, [.ref 35, .int 1, .int k, zu], [.int 1, .ref 35], (zsF 0 [] 0 []), 0, 0)) rfl ?_
  refine zg_nx (y := (3, [.ref 35, .int 1, .int k, zu], [.int k, .int 1, .ref 35], (zsF 0 [] 0 []), 0, 0)) rfl ?_
  refine zg_call (n := 24) (as := [.ref 35, .int 1, .int k]) (pc := 6) (lv := [.ref 35, .int 1, .int k, zu]) (stk := []) (st := (zsF 0 [] 0 [])) (c := 0) (s := 0) (v := (some (.int 0))) (st' := (zsF 0 [] 0 [])) rfl (zq_38 h0) ?_
  show zgo _ _ _ (6, [.ref 35, .int 1, .int k, zu], [.int 0], (zsF 0 [] 0 []), 0, 0) = _
  refine zg_nx (y := (9, [.ref 35, .int 1, .int k, zu], [], (zsF 0 [] 0 []), 0, 0)) rfl ?_
  refine zg_nx (y := (10, [.ref 35, .int 1, .int k, zu], [.int (-1)], (zsF 0 [] 0 []), 0, 0)) rfl ?_
  exact zg_ret rfl

/-- DesignReader.write -/
theorem zq_57 {k : Int32} (h0 : ¬ (k < 0)) (h1 : 1 ≤ k) : zrun 20000 8 9 [.ref 0, .int 1, .int k] (zsF 0 [] 0 []) = some (some (.int (-1)), (zsF 0 [] 0 [])) := by
  refine zr_of (m := zm_D_write) rfl (Nat.le_of_ble_eq_true rfl) ?_
  show zgo _ _ _ (0, [.ref 0, .int 1, .int k], [], (zsF 0 [] 0 []), 0, 0) = _
  refine zg_nx (y := (1, [.ref 0, .int 1, .int k], [.ref 0], (zsF 0 [] 0 []), 0, 0)) rfl ?_
  refine zg_nx (y := (2, [.ref 0, .int 1, .int k], [.int 1, .ref 0], (zsF 0 [] 0 []), 0, 0)) rfl ?_
  refine zg_nx (y := (3, [.ref 0, .int 1, .int k], [.int k, .int 1, .ref 0], (zsF 0 [] 0 []), 0, 0)) rfl ?_
  refine zg_call (n := 14) (as := [.ref 0, .int 1, .int k]) (pc := 6) (lv := [.ref 0, .int 1, .int k]) (stk := []) (st := (zsF 0 [] 0 [])) (c := 0) (s := 0) (v := (some (.int 0))) (st' := (zsF 0 [] 0 [])) rfl (zq_40 h0 h1) ?_
  show zgo _ _ _ (6, [.ref 0, .int 1, .int k], [.int 0], (zsF 0 [] 0 []), 0, 0) = _
  refine zg_nx (y := (26, [.ref 0, .int 1, .int k], [], (zsF 0 [] 0 []), 0, 0)) rfl ?_
  refine zg_nx (y := (27, [.ref 0, .int 1, .int k], [.int (-1)], (zsF 0 [] 0 []), 0, 0)) rfl ?_
  exact zg_ret rfl

/-- DesignReaderModel.write -/
theorem zq_58 {k : Int32} (h0 : ¬ (k < 0)) (h1 : 1 ≤ k) : zrun 20000 8 36 [.ref 35, .int 1, .int k] (zsF 0 [] 0 []) = some (some (.int (-1)), (zsF 0 [] 0 [])) := by
  refine zr_of (m := zm_R_write) rfl (Nat.le_of_ble_eq_true rfl) ?_
  show zgo _ _ _ (0, [.ref 35, .int 1, .int k, zu], [], (zsF 0 [] 0 []), 0, 0) = _
  refine zg_nx (y := (1, [.ref 35, .int 1, .int k, zu], [.ref 35], (zsF 0 [] 0 []), 0, 0)) rfl ?_
  refine zg_nx (y := (2, [.ref 35, .int 1, .int k, zu], [.int 1, .ref 35], (zsF 0 [] 0 []), 0, 0)) rfl ?_
  refine zg_nx (y := (3, [.ref 35, .int 1, .int k, zu], [.int k, .int 1, .ref 35], (zsF 0 [] 0 []), 0, 0)) rfl ?_
  refine zg_call (n := 24) (as := [.ref 35, .int 1, .int k]) (pc := 6) (lv := [.ref 35, .int 1, .int k, zu]) (stk := []) (st := (zsF 0 [] 0 [])) (c := 0) (s := 0) (v := (some (.int 0))) (st' := (zsF 0 [] 0 [])) rfl (zq_42 h0 h1) ?_
  show zgo _ _ _ (6, [.ref 35, .int 1, .int k, zu], [.int 0], (zsF 0 [] 0 []), 0, 0) = _
  refine zg_nx (y := (9, [.ref 35, .int 1, .int k, zu], [], (zsF 0 [] 0 []), 0, 0)) rfl ?_
  refine zg_nx (y := (10, [.ref 35, .int 1, .int k, zu], [.int (-1)], (zsF 0 [] 0 []), 0, 0)) rfl ?_
  exact zg_ret rfl

/-- DesignReader.write -/
theorem zq_59 {t k : Int32} (h0 : ¬ (t < 0)) (h1 : 2 ≤ t) : zrun 20000 8 9 [.ref 0, .int t, .int k] (zsF 0 [] 0 []) = some (some (.int (-1)), (zsF 0 [] 0 [])) := by
  refine zr_of (m := zm_D_write) rfl (Nat.le_of_ble_eq_true rfl) ?_
  show zgo _ _ _ (0, [.ref 0, .int t, .int k], [], (zsF 0 [] 0 []), 0, 0) = _
  refine zg_nx (y := (1, [.ref 0, .int t, .int k], [.ref 0], (zsF 0 [] 0 []), 0, 0)) rfl ?_
  refine zg_nx (y := (2, [.ref 0, .int t, .int k], [.int t, .ref 0], (zsF 0 [] 0 []), 0, 0)) rfl ?_
  refine zg_nx (y := (3, [.ref 0, .int t, .int k], [.int k, .int t, .ref 0], (zsF 0 [] 0 []), 0, 0)) rfl ?_
  refine zg_call (n := 14) (as := [.ref 0, .int t, .int k]) (pc := 6) (lv := [.ref 0, .int t, .int k]) (stk := []) (st := (zsF 0 [] 0 [])) (c := 0) (s := 0) (v := (some (.int 0))) (st' := (zsF 0 [] 0 [])) rfl (zq_45 h0 h1) ?_
  show zgo _ _ _ (6, [.ref 0, .int t, .int k], [.int 0], (zsF 0 [] 0 []), 0, 0) = _
  refine zg_nx (y := (26, [.ref 0, .int t, .int k], [], (zsF 0 [] 0 []), 0, 0)) rfl ?_
  refine zg_nx (y := (27, [.ref 0, .int t, .int k], [.int (-1)], (zsF 0 [] 0 []), 0, 0)) rfl ?_
  exact zg_ret rfl

/-- DesignReaderModel.write -/
theorem zq_60 {t k : Int32} (h0 : ¬ (t < 0)) (h1 : 2 ≤ t) : zrun 20000 8 36 [.ref 35, .int t, .int k] (zsF 0 [] 0 []) = some (some (.int (-1)), (zsF 0 [] 0 [])) := by
  refine zr_of (m := zm_R_write) rfl (Nat.le_of_ble_eq_true rfl) ?_
  show zgo _ _ _ (0, [.ref 35, .int t, .int k, zu], [], (zsF 0 [] 0 []), 0, 0) = _
  refine zg_nx (y := (1, [.ref 35, .int t, .int k, zu], [.ref 35], (zsF 0 [] 0 []), 0, 0)) rfl ?_
  refine zg_nx (y := (2, [.ref 35, .int t, .int k, zu], [.int t, .ref 35], (zsF 0 [] 0 []), 0, 0)) rfl ?_
  refine zg_nx (y := (3, [.ref 35, .int t, .int k, zu], [.int k, .int t, .ref 35], (zsF 0 [] 0 []), 0, 0)) rfl ?_
  refine zg_call (n := 24) (as := [.ref 35, .int t, .int k]) (pc := 6) (lv := [.ref 35, .int t, .int k, zu]) (stk := []) (st := (zsF 0 [] 0 [])) (c := 0) (s := 0) (v := (some (.int 0))) (st' := (zsF 0 [] 0 [])) rfl (zq_47 h0 h1) ?_
  show zgo _ _ _ (6, [.ref 35, .int t, .int k, zu], [.int 0], (zsF 0 [] 0 []), 0, 0) = _
  refine zg_nx (y := (9, [.ref 35, .int t, .int k, zu], [], (zsF 0 [] 0 []), 0, 0)) rfl ?_
  refine zg_nx (y := (10, [.ref 35, .int t, .int k, zu], [.int (-1)], (zsF 0 [] 0 []), 0, 0)) rfl ?_
  exact zg_ret rfl

/-- DesignReader.part -/
theorem zq_61 {t k i : Int32} (h0 : t < 0) : zrun 20000 8 5 [.ref 0, .int t, .int k, .int i] (zsF 0 [] 0 []) = some (some (.int (-1)), (zsF 0 [] 0 [])) := by
  refine zr_of (m := zm_D_part) rfl (Nat.le_of_ble_eq_true rfl) ?_
  show zgo _ _ _ (0, [.ref 0, .int t, .int k, .int i], [], (zsF 0 [] 0 []), 0, 0) = _
  refine zg_nx (y := (1, [.ref 0, .int t, .int k, .int i], [.ref 0], (zsF 0 [] 0 []), 0, 0)) rfl ?_
  refine zg_nx (y := (2, [.ref 0, .int t, .int k, .int i], [.int t, .ref 0], (zsF 0 [] 0 []), 0, 0)) rfl ?_
  refine zg_nx (y := (3, [.ref 0, .int t, .int k, .int i], [.int k, .int t, .ref 0], (zsF 0 [] 0 []), 0, 0)) rfl ?_
  refine zg_call (n := 14) (as := [.ref 0, .int t, .int k]) (pc := 6) (lv := [.ref 0, .int t, .int k, .int i]) (stk := []) (st := (zsF 0 [] 0 [])) (c := 0) (s := 0) (v := (some (.int 0))) (st' := (zsF 0 [] 0 [])) rfl (zq_22 h0) ?_
  show zgo _ _ _ (6, [.ref 0, .int t, .int k, .int i], [.int 0], (zsF 0 [] 0 []), 0, 0) = _
  refine zg_nx (y := (23, [.ref 0, .int t, .int k, .int i], [], (zsF 0 [] 0 []), 0, 0)) rfl ?_
  refine zg_nx (y := (24, [.ref 0, .int t, .int k, .int i], [.int (-1)], (zsF 0 [] 0 []), 0, 0)) rfl ?_
  exact zg_ret rfl

/-- DesignReaderModel.part -/
theorem zq_62 {t k i : Int32} (h0 : t < 0) : zrun 20000 8 27 [.ref 35, .int t, .int k, .int i] (zsF 0 [] 0 []) = some (some (.int (-1)), (zsF 0 [] 0 [])) := by
  refine zr_of (m := zm_R_part) rfl (Nat.le_of_ble_eq_true rfl) ?_
  show zgo _ _ _ (0, [.ref 35, .int t, .int k, .int i, zu, zu], [], (zsF 0 [] 0 []), 0, 0) = _
  refine zg_nx (y := (1, [.ref 35, .int t, .int k, .int i, zu, zu], [.ref 35], (zsF 0 [] 0 []), 0, 0)) rfl ?_
  refine zg_nx (y := (2, [.ref 35, .int t, .int k, .int i, zu, zu], [.int t, .ref 35], (zsF 0 [] 0 []), 0, 0)) rfl ?_
  refine zg_nx (y := (3, [.ref 35, .int t, .int k, .int i, zu, zu], [.int k, .int t, .ref 35], (zsF 0 [] 0 []), 0, 0)) rfl ?_
  refine zg_call (n := 24) (as := [.ref 35, .int t, .int k]) (pc := 6) (lv := [.ref 35, .int t, .int k, .int i, zu, zu]) (stk := []) (st := (zsF 0 [] 0 [])) (c := 0) (s := 0) (v := (some (.int 0))) (st' := (zsF 0 [] 0 [])) rfl (zq_24 h0) ?_
  show zgo _ _ _ (6, [.ref 35, .int t, .int k, .int i, zu, zu], [.int 0], (zsF 0 [] 0 []), 0, 0) = _
  refine zg_nx (y := (13, [.ref 35, .int t, .int k, .int i, zu, zu], [], (zsF 0 [] 0 []), 0, 0)) rfl ?_
  refine zg_nx (y := (14, [.ref 35, .int t, .int k, .int i, zu, zu], [.int (-1)], (zsF 0 [] 0 []), 0, 0)) rfl ?_
  exact zg_ret rfl

/-- DesignReader.isNode -/
theorem zq_63 : zrun 20000 7 14 [.ref 0, .int 0, .int 0] (zsF 0 [] 0 []) = some (some (.int 1), (zsF 0 [] 0 [])) := by
  refine zr_of (m := zm_D_isNode) rfl (Nat.le_of_ble_eq_true rfl) ?_
  show zgo _ _ _ (0, [.ref 0, .int 0, .int 0], [], (zsF 0 [] 0 []), 0, 0) = _
  refine zg_nx (y := (1, [.ref 0, .int 0, .int 0], [.ref 0], (zsF 0 [] 0 []), 0, 0)) rfl ?_
  refine zg_nx (y := (2, [.ref 0, .int 0, .int 0], [.int 0, .ref 0], (zsF 0 [] 0 []), 0, 0)) rfl ?_
  refine zg_call (n := 13) (as := [.ref 0, .int 0]) (pc := 5) (lv := [.ref 0, .int 0, .int 0]) (stk := []) (st := (zsF 0 [] 0 [])) (c := 0) (s := 0) (v := (some (.int 1))) (st' := (zsF 0 [] 0 [])) rfl (zq_26) ?_
  show zgo _ _ _ (5, [.ref 0, .int 0, .int 0], [.int 1], (zsF 0 [] 0 []), 0, 0) = _
  refine zg_nx (y := (8, [.ref 0, .int 0, .int 0], [], (zsF 0 [] 0 []), 0, 0)) rfl ?_
  refine zg_nx (y := (9, [.ref 0, .int 0, .int 0], [.int 0], (zsF 0 [] 0 []), 0, 0)) rfl ?_
  refine zg_nx (y := (12, [.ref 0, .int 0, .int 0], [], (zsF 0 [] 0 []), 0, 0)) rfl ?_
  refine zg_nx (y := (13, [.ref 0, .int 0, .int 0], [.int 0], (zsF 0 [] 0 []), 0, 0)) rfl ?_
  refine zg_nx (y := (14, [.ref 0, .int 0, .int 0], [.ref 0, .int 0], (zsF 0 [] 0 []), 0, 0)) rfl ?_
  refine zg_nx (y := (17, [.ref 0, .int 0, .int 0], [.ref 1, .int 0], (zsF 0 [] 0 []), 0, 0)) rfl ?_
  refine zg_nx (y := (18, [.ref 0, .int 0, .int 0], [.int 0, .ref 1, .int 0], (zsF 0 [] 0 []), 0, 0)) rfl ?_
  refine zg_nx (y := (19, [.ref 0, .int 0, .int 0], [.ref 2, .int 0], (zsF 0 [] 0 []), 0, 0)) rfl ?_
  refine zg_nx (y := (22, [.ref 0, .int 0, .int 0], [.int 1, .int 0], (zsF 0 [] 0 []), 0, 0)) rfl ?_
  refine zg_nx (y := (25, [.ref 0, .int 0, .int 0], [], (zsF 0 [] 0 []), 0, 0)) rfl ?_
  refine zg_nx (y := (26, [.ref 0, .int 0, .int 0], [.int 1], (zsF 0 [] 0 []), 0, 0)) rfl ?_
  refine zg_nx (y := (30, [.ref 0, .int 0, .int 0], [.int 1], (zsF 0 [] 0 []), 0, 0)) rfl ?_
  exact zg_ret rfl

/-- DesignReader$Tree.partOf -/
theorem zq_64 {i : Int32} (h0 : i < 0) : zrun 20000 7 55 [.ref 2, .int 0, .int i] (zsF 0 [] 0 []) = some (some (.int (-1)), (zsF 0 [] 0 [])) := by
  refine zr_of (m := zm_T_partOf) rfl (Nat.le_of_ble_eq_true rfl) ?_
  show zgo _ _ _ (0, [.ref 2, .int 0, .int i, zu, zu], [], (zsF 0 [] 0 []), 0, 0) = _
  refine zg_nx (y := (1, [.ref 2, .int 0, .int i, zu, zu], [.int i], (zsF 0 [] 0 []), 0, 0)) rfl ?_
  refine zg_brT (P := i < 0) (b := (zn 4 [.ref 2, .int 0, .int i, zu, zu] [] (zsF 0 [] 0 []) 0 0)) (pc := 14) (lv := [.ref 2, .int 0, .int i, zu, zu]) (stk := []) (st := (zsF 0 [] 0 [])) (c := 0) (s := 0) rfl h0 ?_
  refine zg_nx (y := (15, [.ref 2, .int 0, .int i, zu, zu], [.int (-1)], (zsF 0 [] 0 []), 0, 0)) rfl ?_
  exact zg_ret rfl

/-- DesignReader.part -/
theorem zq_65 {i : Int32} (h0 : i < 0) : zrun 20000 8 5 [.ref 0, .int 0, .int 0, .int i] (zsF 0 [] 0 []) = some (some (.int (-1)), (zsF 0 [] 0 [])) := by
  refine zr_of (m := zm_D_part) rfl (Nat.le_of_ble_eq_true rfl) ?_
  show zgo _ _ _ (0, [.ref 0, .int 0, .int 0, .int i], [], (zsF 0 [] 0 []), 0, 0) = _
  refine zg_nx (y := (1, [.ref 0, .int 0, .int 0, .int i], [.ref 0], (zsF 0 [] 0 []), 0, 0)) rfl ?_
  refine zg_nx (y := (2, [.ref 0, .int 0, .int 0, .int i], [.int 0, .ref 0], (zsF 0 [] 0 []), 0, 0)) rfl ?_
  refine zg_nx (y := (3, [.ref 0, .int 0, .int 0, .int i], [.int 0, .int 0, .ref 0], (zsF 0 [] 0 []), 0, 0)) rfl ?_
  refine zg_call (n := 14) (as := [.ref 0, .int 0, .int 0]) (pc := 6) (lv := [.ref 0, .int 0, .int 0, .int i]) (stk := []) (st := (zsF 0 [] 0 [])) (c := 0) (s := 0) (v := (some (.int 1))) (st' := (zsF 0 [] 0 [])) rfl (zq_63) ?_
  show zgo _ _ _ (6, [.ref 0, .int 0, .int 0, .int i], [.int 1], (zsF 0 [] 0 []), 0, 0) = _
  refine zg_nx (y := (9, [.ref 0, .int 0, .int 0, .int i], [], (zsF 0 [] 0 []), 0, 0)) rfl ?_
  refine zg_nx (y := (10, [.ref 0, .int 0, .int 0, .int i], [.ref 0], (zsF 0 [] 0 []), 0, 0)) rfl ?_
  refine zg_nx (y := (13, [.ref 0, .int 0, .int 0, .int i], [.ref 1], (zsF 0 [] 0 []), 0, 0)) rfl ?_
  refine zg_nx (y := (14, [.ref 0, .int 0, .int 0, .int i], [.int 0, .ref 1], (zsF 0 [] 0 []), 0, 0)) rfl ?_
  refine zg_nx (y := (15, [.ref 0, .int 0, .int 0, .int i], [.ref 2], (zsF 0 [] 0 []), 0, 0)) rfl ?_
  refine zg_nx (y := (16, [.ref 0, .int 0, .int 0, .int i], [.int 0, .ref 2], (zsF 0 [] 0 []), 0, 0)) rfl ?_
  refine zg_nx (y := (17, [.ref 0, .int 0, .int 0, .int i], [.int i, .int 0, .ref 2], (zsF 0 [] 0 []), 0, 0)) rfl ?_
  refine zg_call (n := 55) (as := [.ref 2, .int 0, .int i]) (pc := 20) (lv := [.ref 0, .int 0, .int 0, .int i]) (stk := []) (st := (zsF 0 [] 0 [])) (c := 0) (s := 0) (v := (some (.int (-1)))) (st' := (zsF 0 [] 0 [])) rfl (zq_64 h0) ?_
  show zgo _ _ _ (20, [.ref 0, .int 0, .int 0, .int i], [.int (-1)], (zsF 0 [] 0 []), 0, 0) = _
  refine zg_nx (y := (24, [.ref 0, .int 0, .int 0, .int i], [.int (-1)], (zsF 0 [] 0 []), 0, 0)) rfl ?_
  exact zg_ret rfl

/-- DesignReaderModel.has -/
theorem zq_66 : zrun 20000 7 24 [.ref 35, .int 0, .int 0] (zsF 0 [] 0 []) = some (some (.int 1), (zsF 0 [] 0 [])) := by
  refine zr_of (m := zm_R_has) rfl (Nat.le_of_ble_eq_true rfl) ?_
  show zgo _ _ _ (0, [.ref 35, .int 0, .int 0], [], (zsF 0 [] 0 []), 0, 0) = _
  refine zg_nx (y := (1, [.ref 35, .int 0, .int 0], [.int 0], (zsF 0 [] 0 []), 0, 0)) rfl ?_
  refine zg_nx (y := (4, [.ref 35, .int 0, .int 0], [], (zsF 0 [] 0 []), 0, 0)) rfl ?_
  refine zg_nx (y := (5, [.ref 35, .int 0, .int 0], [.int 0], (zsF 0 [] 0 []), 0, 0)) rfl ?_
  refine zg_nx (y := (6, [.ref 35, .int 0, .int 0], [.int 2, .int 0], (zsF 0 [] 0 []), 0, 0)) rfl ?_
  refine zg_nx (y := (9, [.ref 35, .int 0, .int 0], [], (zsF 0 [] 0 []), 0, 0)) rfl ?_
  refine zg_nx (y := (10, [.ref 35, .int 0, .int 0], [.int 0], (zsF 0 [] 0 []), 0, 0)) rfl ?_
  refine zg_nx (y := (13, [.ref 35, .int 0, .int 0], [], (zsF 0 [] 0 []), 0, 0)) rfl ?_
  refine zg_nx (y := (14, [.ref 35, .int 0, .int 0], [.int 0], (zsF 0 [] 0 []), 0, 0)) rfl ?_
  refine zg_nx (y := (15, [.ref 35, .int 0, .int 0], [.ref 35, .int 0], (zsF 0 [] 0 []), 0, 0)) rfl ?_
  refine zg_nx (y := (18, [.ref 35, .int 0, .int 0], [.ref 54, .int 0], (zsF 0 [] 0 []), 0, 0)) rfl ?_
  refine zg_nx (y := (19, [.ref 35, .int 0, .int 0], [.int 0, .ref 54, .int 0], (zsF 0 [] 0 []), 0, 0)) rfl ?_
  refine zg_nx (y := (20, [.ref 35, .int 0, .int 0], [.int 1, .int 0], (zsF 0 [] 0 []), 0, 0)) rfl ?_
  refine zg_nx (y := (23, [.ref 35, .int 0, .int 0], [], (zsF 0 [] 0 []), 0, 0)) rfl ?_
  refine zg_nx (y := (24, [.ref 35, .int 0, .int 0], [.int 1], (zsF 0 [] 0 []), 0, 0)) rfl ?_
  refine zg_nx (y := (28, [.ref 35, .int 0, .int 0], [.int 1], (zsF 0 [] 0 []), 0, 0)) rfl ?_
  exact zg_ret rfl

/-- DesignReaderModel.part -/
theorem zq_67 {i : Int32} (h0 : ¬ (0 ≤ i)) : zrun 20000 8 27 [.ref 35, .int 0, .int 0, .int i] (zsF 0 [] 0 []) = some (some (.int (-1)), (zsF 0 [] 0 [])) := by
  refine zr_of (m := zm_R_part) rfl (Nat.le_of_ble_eq_true rfl) ?_
  show zgo _ _ _ (0, [.ref 35, .int 0, .int 0, .int i, zu, zu], [], (zsF 0 [] 0 []), 0, 0) = _
  refine zg_nx (y := (1, [.ref 35, .int 0, .int 0, .int i, zu, zu], [.ref 35], (zsF 0 [] 0 []), 0, 0)) rfl ?_
  refine zg_nx (y := (2, [.ref 35, .int 0, .int 0, .int i, zu, zu], [.int 0, .ref 35], (zsF 0 [] 0 []), 0, 0)) rfl ?_
  refine zg_nx (y := (3, [.ref 35, .int 0, .int 0, .int i, zu, zu], [.int 0, .int 0, .ref 35], (zsF 0 [] 0 []), 0, 0)) rfl ?_
  refine zg_call (n := 24) (as := [.ref 35, .int 0, .int 0]) (pc := 6) (lv := [.ref 35, .int 0, .int 0, .int i, zu, zu]) (stk := []) (st := (zsF 0 [] 0 [])) (c := 0) (s := 0) (v := (some (.int 1))) (st' := (zsF 0 [] 0 [])) rfl (zq_66) ?_
  show zgo _ _ _ (6, [.ref 35, .int 0, .int 0, .int i, zu, zu], [.int 1], (zsF 0 [] 0 []), 0, 0) = _
  refine zg_nx (y := (9, [.ref 35, .int 0, .int 0, .int i, zu, zu], [], (zsF 0 [] 0 []), 0, 0)) rfl ?_
  refine zg_nx (y := (10, [.ref 35, .int 0, .int 0, .int i, zu, zu], [.int i], (zsF 0 [] 0 []), 0, 0)) rfl ?_
  refine zg_brF (P := 0 ≤ i) (a := (zn 15 [.ref 35, .int 0, .int 0, .int i, zu, zu] [] (zsF 0 [] 0 []) 0 0)) (pc := 13) (lv := [.ref 35, .int 0, .int 0, .int i, zu, zu]) (stk := []) (st := (zsF 0 [] 0 [])) (c := 0) (s := 0) rfl h0 ?_
  refine zg_nx (y := (14, [.ref 35, .int 0, .int 0, .int i, zu, zu], [.int (-1)], (zsF 0 [] 0 []), 0, 0)) rfl ?_
  exact zg_ret rfl

/-- DesignReader$Tree.partOf -/
theorem zq_68 {i : Int32} (h0 : ¬ (i < 0)) : zrun 20000 7 55 [.ref 2, .int 0, .int i] (zsF 0 [] 0 []) = some (some (.int (-1)), (zsF 0 [] 0 [])) := by
  refine zr_of (m := zm_T_partOf) rfl (Nat.le_of_ble_eq_true rfl) ?_
  show zgo _ _ _ (0, [.ref 2, .int 0, .int i, zu, zu], [], (zsF 0 [] 0 []), 0, 0) = _
  refine zg_nx (y := (1, [.ref 2, .int 0, .int i, zu, zu], [.int i], (zsF 0 [] 0 []), 0, 0)) rfl ?_
  refine zg_brF (P := i < 0) (a := (zn 14 [.ref 2, .int 0, .int i, zu, zu] [] (zsF 0 [] 0 []) 0 0)) (pc := 4) (lv := [.ref 2, .int 0, .int i, zu, zu]) (stk := []) (st := (zsF 0 [] 0 [])) (c := 0) (s := 0) rfl h0 ?_
  refine zg_nx (y := (5, [.ref 2, .int 0, .int i, zu, zu], [.int i], (zsF 0 [] 0 []), 0, 0)) rfl ?_
  refine zg_nx (y := (6, [.ref 2, .int 0, .int i, zu, zu], [.ref 2, .int i], (zsF 0 [] 0 []), 0, 0)) rfl ?_
  refine zg_nx (y := (9, [.ref 2, .int 0, .int i, zu, zu], [.ref 7, .int i], (zsF 0 [] 0 []), 0, 0)) rfl ?_
  refine zg_nx (y := (10, [.ref 2, .int 0, .int i, zu, zu], [.int 0, .ref 7, .int i], (zsF 0 [] 0 []), 0, 0)) rfl ?_
  refine zg_nx (y := (11, [.ref 2, .int 0, .int i, zu, zu], [.int 0, .int i], (zsF 0 [] 0 []), 0, 0)) rfl ?_
  refine zg_brF (P := i < 0) (a := (zn 16 [.ref 2, .int 0, .int i, zu, zu] [] (zsF 0 [] 0 []) 0 0)) (pc := 14) (lv := [.ref 2, .int 0, .int i, zu, zu]) (stk := []) (st := (zsF 0 [] 0 [])) (c := 0) (s := 0) rfl h0 ?_
  refine zg_nx (y := (15, [.ref 2, .int 0, .int i, zu, zu], [.int (-1)], (zsF 0 [] 0 []), 0, 0)) rfl ?_
  exact zg_ret rfl

/-- DesignReader.part -/
theorem zq_69 {i : Int32} (h0 : ¬ (i < 0)) : zrun 20000 8 5 [.ref 0, .int 0, .int 0, .int i] (zsF 0 [] 0 []) = some (some (.int (-1)), (zsF 0 [] 0 [])) := by
  refine zr_of (m := zm_D_part) rfl (Nat.le_of_ble_eq_true rfl) ?_
  show zgo _ _ _ (0, [.ref 0, .int 0, .int 0, .int i], [], (zsF 0 [] 0 []), 0, 0) = _
  refine zg_nx (y := (1, [.ref 0, .int 0, .int 0, .int i], [.ref 0], (zsF 0 [] 0 []), 0, 0)) rfl ?_
  refine zg_nx (y := (2, [.ref 0, .int 0, .int 0, .int i], [.int 0, .ref 0], (zsF 0 [] 0 []), 0, 0)) rfl ?_
  refine zg_nx (y := (3, [.ref 0, .int 0, .int 0, .int i], [.int 0, .int 0, .ref 0], (zsF 0 [] 0 []), 0, 0)) rfl ?_
  refine zg_call (n := 14) (as := [.ref 0, .int 0, .int 0]) (pc := 6) (lv := [.ref 0, .int 0, .int 0, .int i]) (stk := []) (st := (zsF 0 [] 0 [])) (c := 0) (s := 0) (v := (some (.int 1))) (st' := (zsF 0 [] 0 [])) rfl (zq_63) ?_
  show zgo _ _ _ (6, [.ref 0, .int 0, .int 0, .int i], [.int 1], (zsF 0 [] 0 []), 0, 0) = _
  refine zg_nx (y := (9, [.ref 0, .int 0, .int 0, .int i], [], (zsF 0 [] 0 []), 0, 0)) rfl ?_
  refine zg_nx (y := (10, [.ref 0, .int 0, .int 0, .int i], [.ref 0], (zsF 0 [] 0 []), 0, 0)) rfl ?_
  refine zg_nx (y := (13, [.ref 0, .int 0, .int 0, .int i], [.ref 1], (zsF 0 [] 0 []), 0, 0)) rfl ?_
  refine zg_nx (y := (14, [.ref 0, .int 0, .int 0, .int i], [.int 0, .ref 1], (zsF 0 [] 0 []), 0, 0)) rfl ?_
  refine zg_nx (y := (15, [.ref 0, .int 0, .int 0, .int i], [.ref 2], (zsF 0 [] 0 []), 0, 0)) rfl ?_
  refine zg_nx (y := (16, [.ref 0, .int 0, .int 0, .int i], [.int 0, .ref 2], (zsF 0 [] 0 []), 0, 0)) rfl ?_
  refine zg_nx (y := (17, [.ref 0, .int 0, .int 0, .int i], [.int i, .int 0, .ref 2], (zsF 0 [] 0 []), 0, 0)) rfl ?_
  refine zg_call (n := 55) (as := [.ref 2, .int 0, .int i]) (pc := 20) (lv := [.ref 0, .int 0, .int 0, .int i]) (stk := []) (st := (zsF 0 [] 0 [])) (c := 0) (s := 0) (v := (some (.int (-1)))) (st' := (zsF 0 [] 0 [])) rfl (zq_68 h0) ?_
  show zgo _ _ _ (20, [.ref 0, .int 0, .int 0, .int i], [.int (-1)], (zsF 0 [] 0 []), 0, 0) = _
  refine zg_nx (y := (24, [.ref 0, .int 0, .int 0, .int i], [.int (-1)], (zsF 0 [] 0 []), 0, 0)) rfl ?_
  exact zg_ret rfl

/-- DesignReaderModel.part -/
theorem zq_70 {i : Int32} (h0 : 0 ≤ i) : zrun 20000 8 27 [.ref 35, .int 0, .int 0, .int i] (zsF 0 [] 0 []) = some (some (.int (-1)), (zsF 0 [] 0 [])) := by
  refine zr_of (m := zm_R_part) rfl (Nat.le_of_ble_eq_true rfl) ?_
  show zgo _ _ _ (0, [.ref 35, .int 0, .int 0, .int i, zu, zu], [], (zsF 0 [] 0 []), 0, 0) = _
  refine zg_nx (y := (1, [.ref 35, .int 0, .int 0, .int i, zu, zu], [.ref 35], (zsF 0 [] 0 []), 0, 0)) rfl ?_
  refine zg_nx (y := (2, [.ref 35, .int 0, .int 0, .int i, zu, zu], [.int 0, .ref 35], (zsF 0 [] 0 []), 0, 0)) rfl ?_
  refine zg_nx (y := (3, [.ref 35, .int 0, .int 0, .int i, zu, zu], [.int 0, .int 0, .ref 35], (zsF 0 [] 0 []), 0, 0)) rfl ?_
  refine zg_call (n := 24) (as := [.ref 35, .int 0, .int 0]) (pc := 6) (lv := [.ref 35, .int 0, .int 0, .int i, zu, zu]) (stk := []) (st := (zsF 0 [] 0 [])) (c := 0) (s := 0) (v := (some (.int 1))) (st' := (zsF 0 [] 0 [])) rfl (zq_66) ?_
  show zgo _ _ _ (6, [.ref 35, .int 0, .int 0, .int i, zu, zu], [.int 1], (zsF 0 [] 0 []), 0, 0) = _
  refine zg_nx (y := (9, [.ref 35, .int 0, .int 0, .int i, zu, zu], [], (zsF 0 [] 0 []), 0, 0)) rfl ?_
  refine zg_nx (y := (10, [.ref 35, .int 0, .int 0, .int i, zu, zu], [.int i], (zsF 0 [] 0 []), 0, 0)) rfl ?_
  refine zg_brT (P := 0 ≤ i) (b := (zn 13 [.ref 35, .int 0, .int 0, .int i, zu, zu] [] (zsF 0 [] 0 []) 0 0)) (pc := 15) (lv := [.ref 35, .int 0, .int 0, .int i, zu, zu]) (stk := []) (st := (zsF 0 [] 0 [])) (c := 0) (s := 0) rfl h0 ?_
  refine zg_nx (y := (16, [.ref 35, .int 0, .int 0, .int i, zu, zu], [.int 0], (zsF 0 [] 0 []), 0, 0)) rfl ?_
  refine zg_nx (y := (18, [.ref 35, .int 0, .int 0, .int i, .int 0, zu], [], (zsF 0 [] 0 []), 0, 0)) rfl ?_
  refine zg_nx (y := (19, [.ref 35, .int 0, .int 0, .int i, .int 0, zu], [.int 0], (zsF 0 [] 0 []), 0, 0)) rfl ?_
  refine zg_nx (y := (20, [.ref 35, .int 0, .int 0, .int i, .int 0, zu], [.int 1, .int 0], (zsF 0 [] 0 []), 0, 0)) rfl ?_
  refine zg_nx (y := (21, [.ref 35, .int 0, .int 0, .int i, .int 0, zu], [.int 1], (zsF 0 [] 0 []), 0, 0)) rfl ?_
  refine zg_nx (y := (23, [.ref 35, .int 0, .int 0, .int i, .int 0, .int 1], [], (zsF 0 [] 0 []), 0, 0)) rfl ?_
  refine zg_nx (y := (25, [.ref 35, .int 0, .int 0, .int i, .int 0, .int 1], [.int 1], (zsF 0 [] 0 []), 0, 0)) rfl ?_
  refine zg_nx (y := (26, [.ref 35, .int 0, .int 0, .int i, .int 0, .int 1], [.int 0, .int 1], (zsF 0 [] 0 []), 0, 0)) rfl ?_
  refine zg_nx (y := (27, [.ref 35, .int 0, .int 0, .int i, .int 0, .int 1], [.ref 35, .int 0, .int 1], (zsF 0 [] 0 []), 0, 0)) rfl ?_
  refine zg_nx (y := (30, [.ref 35, .int 0, .int 0, .int i, .int 0, .int 1], [.ref 53, .int 0, .int 1], (zsF 0 [] 0 []), 0, 0)) rfl ?_
  refine zg_nx (y := (33, [.ref 35, .int 0, .int 0, .int i, .int 0, .int 1], [.int 13000, .ref 53, .int 0, .int 1], (zsF 0 [] 0 []), 0, 0)) rfl ?_
  refine zg_nx (y := (34, [.ref 35, .int 0, .int 0, .int i, .int 0, .int 1], [.int 0, .int 13000, .ref 53, .int 0, .int 1], (zsF 0 [] 0 []), 0, 0)) rfl ?_
  refine zg_nx (y := (35, [.ref 35, .int 0, .int 0, .int i, .int 0, .int 1], [.int 0, .ref 53, .int 0, .int 1], (zsF 0 [] 0 []), 0, 0)) rfl ?_
  refine zg_nx (y := (36, [.ref 35, .int 0, .int 0, .int i, .int 0, .int 1], [.int 0, .int 0, .ref 53, .int 0, .int 1], (zsF 0 [] 0 []), 0, 0)) rfl ?_
  refine zg_nx (y := (37, [.ref 35, .int 0, .int 0, .int i, .int 0, .int 1], [.int 0, .ref 53, .int 0, .int 1], (zsF 0 [] 0 []), 0, 0)) rfl ?_
  refine zg_nx (y := (38, [.ref 35, .int 0, .int 0, .int i, .int 0, .int 1], [.int 1, .int 0, .int 1], (zsF 0 [] 0 []), 0, 0)) rfl ?_
  refine zg_nx (y := (39, [.ref 35, .int 0, .int 0, .int i, .int 0, .int 1], [.int 1, .int 1], (zsF 0 [] 0 []), 0, 0)) rfl ?_
  refine zg_nx (y := (75, [.ref 35, .int 0, .int 0, .int i, .int 0, .int 1], [], (zsF 0 [] 0 []), 0, 0)) rfl ?_
  refine zg_nx (y := (76, [.ref 35, .int 0, .int 0, .int i, .int 0, .int 1], [.int (-1)], (zsF 0 [] 0 []), 0, 0)) rfl ?_
  exact zg_ret rfl

/-- DesignReader.part -/
theorem zq_71 {k i : Int32} (h0 : k < 0) : zrun 20000 8 5 [.ref 0, .int 0, .int k, .int i] (zsF 0 [] 0 []) = some (some (.int (-1)), (zsF 0 [] 0 [])) := by
  refine zr_of (m := zm_D_part) rfl (Nat.le_of_ble_eq_true rfl) ?_
  show zgo _ _ _ (0, [.ref 0, .int 0, .int k, .int i], [], (zsF 0 [] 0 []), 0, 0) = _
  refine zg_nx (y := (1, [.ref 0, .int 0, .int k, .int i], [.ref 0], (zsF 0 [] 0 []), 0, 0)) rfl ?_
  refine zg_nx (y := (2, [.ref 0, .int 0, .int k, .int i], [.int 0, .ref 0], (zsF 0 [] 0 []), 0, 0)) rfl ?_
  refine zg_nx (y := (3, [.ref 0, .int 0, .int k, .int i], [.int k, .int 0, .ref 0], (zsF 0 [] 0 []), 0, 0)) rfl ?_
  refine zg_call (n := 14) (as := [.ref 0, .int 0, .int k]) (pc := 6) (lv := [.ref 0, .int 0, .int k, .int i]) (stk := []) (st := (zsF 0 [] 0 [])) (c := 0) (s := 0) (v := (some (.int 0))) (st' := (zsF 0 [] 0 [])) rfl (zq_27 h0) ?_
  show zgo _ _ _ (6, [.ref 0, .int 0, .int k, .int i], [.int 0], (zsF 0 [] 0 []), 0, 0) = _
  refine zg_nx (y := (23, [.ref 0, .int 0, .int k, .int i], [], (zsF 0 [] 0 []), 0, 0)) rfl ?_
  refine zg_nx (y := (24, [.ref 0, .int 0, .int k, .int i], [.int (-1)], (zsF 0 [] 0 []), 0, 0)) rfl ?_
  exact zg_ret rfl

/-- DesignReaderModel.part -/
theorem zq_72 {k i : Int32} (h0 : k < 0) : zrun 20000 8 27 [.ref 35, .int 0, .int k, .int i] (zsF 0 [] 0 []) = some (some (.int (-1)), (zsF 0 [] 0 [])) := by
  refine zr_of (m := zm_R_part) rfl (Nat.le_of_ble_eq_true rfl) ?_
  show zgo _ _ _ (0, [.ref 35, .int 0, .int k, .int i, zu, zu], [], (zsF 0 [] 0 []), 0, 0) = _
  refine zg_nx (y := (1, [.ref 35, .int 0, .int k, .int i, zu, zu], [.ref 35], (zsF 0 [] 0 []), 0, 0)) rfl ?_
  refine zg_nx (y := (2, [.ref 35, .int 0, .int k, .int i, zu, zu], [.int 0, .ref 35], (zsF 0 [] 0 []), 0, 0)) rfl ?_
  refine zg_nx (y := (3, [.ref 35, .int 0, .int k, .int i, zu, zu], [.int k, .int 0, .ref 35], (zsF 0 [] 0 []), 0, 0)) rfl ?_
  refine zg_call (n := 24) (as := [.ref 35, .int 0, .int k]) (pc := 6) (lv := [.ref 35, .int 0, .int k, .int i, zu, zu]) (stk := []) (st := (zsF 0 [] 0 [])) (c := 0) (s := 0) (v := (some (.int 0))) (st' := (zsF 0 [] 0 [])) rfl (zq_29 h0) ?_
  show zgo _ _ _ (6, [.ref 35, .int 0, .int k, .int i, zu, zu], [.int 0], (zsF 0 [] 0 []), 0, 0) = _
  refine zg_nx (y := (13, [.ref 35, .int 0, .int k, .int i, zu, zu], [], (zsF 0 [] 0 []), 0, 0)) rfl ?_
  refine zg_nx (y := (14, [.ref 35, .int 0, .int k, .int i, zu, zu], [.int (-1)], (zsF 0 [] 0 []), 0, 0)) rfl ?_
  exact zg_ret rfl

/-- DesignReader.part -/
theorem zq_73 {k i : Int32} (h0 : ¬ (k < 0)) (h1 : 1 ≤ k) : zrun 20000 8 5 [.ref 0, .int 0, .int k, .int i] (zsF 0 [] 0 []) = some (some (.int (-1)), (zsF 0 [] 0 [])) := by
  refine zr_of (m := zm_D_part) rfl (Nat.le_of_ble_eq_true rfl) ?_
  show zgo _ _ _ (0, [.ref 0, .int 0, .int k, .int i], [], (zsF 0 [] 0 []), 0, 0) = _
  refine zg_nx (y := (1, [.ref 0, .int 0, .int k, .int i], [.ref 0], (zsF 0 [] 0 []), 0, 0)) rfl ?_
  refine zg_nx (y := (2, [.ref 0, .int 0, .int k, .int i], [.int 0, .ref 0], (zsF 0 [] 0 []), 0, 0)) rfl ?_
  refine zg_nx (y := (3, [.ref 0, .int 0, .int k, .int i], [.int k, .int 0, .ref 0], (zsF 0 [] 0 []), 0, 0)) rfl ?_
  refine zg_call (n := 14) (as := [.ref 0, .int 0, .int k]) (pc := 6) (lv := [.ref 0, .int 0, .int k, .int i]) (stk := []) (st := (zsF 0 [] 0 [])) (c := 0) (s := 0) (v := (some (.int 0))) (st' := (zsF 0 [] 0 [])) rfl (zq_31 h0 h1) ?_
  show zgo _ _ _ (6, [.ref 0, .int 0, .int k, .int i], [.int 0], (zsF 0 [] 0 []), 0, 0) = _
  refine zg_nx (y := (23, [.ref 0, .int 0, .int k, .int i], [], (zsF 0 [] 0 []), 0, 0)) rfl ?_
  refine zg_nx (y := (24, [.ref 0, .int 0, .int k, .int i], [.int (-1)], (zsF 0 [] 0 []), 0, 0)) rfl ?_
  exact zg_ret rfl

/-- DesignReaderModel.part -/
theorem zq_74 {k i : Int32} (h0 : ¬ (k < 0)) (h1 : 1 ≤ k) : zrun 20000 8 27 [.ref 35, .int 0, .int k, .int i] (zsF 0 [] 0 []) = some (some (.int (-1)), (zsF 0 [] 0 [])) := by
  refine zr_of (m := zm_R_part) rfl (Nat.le_of_ble_eq_true rfl) ?_
  show zgo _ _ _ (0, [.ref 35, .int 0, .int k, .int i, zu, zu], [], (zsF 0 [] 0 []), 0, 0) = _
  refine zg_nx (y := (1, [.ref 35, .int 0, .int k, .int i, zu, zu], [.ref 35], (zsF 0 [] 0 []), 0, 0)) rfl ?_
  refine zg_nx (y := (2, [.ref 35, .int 0, .int k, .int i, zu, zu], [.int 0, .ref 35], (zsF 0 [] 0 []), 0, 0)) rfl ?_
  refine zg_nx (y := (3, [.ref 35, .int 0, .int k, .int i, zu, zu], [.int k, .int 0, .ref 35], (zsF 0 [] 0 []), 0, 0)) rfl ?_
  refine zg_call (n := 24) (as := [.ref 35, .int 0, .int k]) (pc := 6) (lv := [.ref 35, .int 0, .int k, .int i, zu, zu]) (stk := []) (st := (zsF 0 [] 0 [])) (c := 0) (s := 0) (v := (some (.int 0))) (st' := (zsF 0 [] 0 [])) rfl (zq_33 h0 h1) ?_
  show zgo _ _ _ (6, [.ref 35, .int 0, .int k, .int i, zu, zu], [.int 0], (zsF 0 [] 0 []), 0, 0) = _
  refine zg_nx (y := (13, [.ref 35, .int 0, .int k, .int i, zu, zu], [], (zsF 0 [] 0 []), 0, 0)) rfl ?_
  refine zg_nx (y := (14, [.ref 35, .int 0, .int k, .int i, zu, zu], [.int (-1)], (zsF 0 [] 0 []), 0, 0)) rfl ?_
  exact zg_ret rfl

/-- DesignReader.isNode -/
theorem zq_75 : zrun 20000 7 14 [.ref 0, .int 1, .int 0] (zsF 0 [] 0 []) = some (some (.int 1), (zsF 0 [] 0 [])) := by
  refine zr_of (m := zm_D_isNode) rfl (Nat.le_of_ble_eq_true rfl) ?_
  show zgo _ _ _ (0, [.ref 0, .int 1, .int 0], [], (zsF 0 [] 0 []), 0, 0) = _
  refine zg_nx (y := (1, [.ref 0, .int 1, .int 0], [.ref 0], (zsF 0 [] 0 []), 0, 0)) rfl ?_
  refine zg_nx (y := (2, [.ref 0, .int 1, .int 0], [.int 1, .ref 0], (zsF 0 [] 0 []), 0, 0)) rfl ?_
  refine zg_call (n := 13) (as := [.ref 0, .int 1]) (pc := 5) (lv := [.ref 0, .int 1, .int 0]) (stk := []) (st := (zsF 0 [] 0 [])) (c := 0) (s := 0) (v := (some (.int 1))) (st' := (zsF 0 [] 0 [])) rfl (zq_35) ?_
  show zgo _ _ _ (5, [.ref 0, .int 1, .int 0], [.int 1], (zsF 0 [] 0 []), 0, 0) = _
  refine zg_nx (y := (8, [.ref 0, .int 1, .int 0], [], (zsF 0 [] 0 []), 0, 0)) rfl ?_
  refine zg_nx (y := (9, [.ref 0, .int 1, .int 0], [.int 0], (zsF 0 [] 0 []), 0, 0)) rfl ?_
  refine zg_nx (y := (12, [.ref 0, .int 1, .int 0], [], (zsF 0 [] 0 []), 0, 0)) rfl ?_
  refine zg_nx (y := (13, [.ref 0, .int 1, .int 0], [.int 0], (zsF 0 [] 0 []), 0, 0)) rfl ?_
  refine zg_nx (y := (14, [.ref 0, .int 1, .int 0], [.ref 0, .int 0], (zsF 0 [] 0 []), 0, 0)) rfl ?_
  refine zg_nx (y := (17, [.ref 0, .int 1, .int 0], [.ref 1, .int 0], (zsF 0 [] 0 []), 0, 0)) rfl ?_
  refine zg_nx (y := (18, [.ref 0, .int 1, .int 0], [.int 1, .ref 1, .int 0], (zsF 0 [] 0 []), 0, 0)) rfl ?_
  refine zg_nx (y := (19, [.ref 0, .int 1, .int 0], [.ref 10, .int 0], (zsF 0 [] 0 []), 0, 0)) rfl ?_
  refine zg_nx (y := (22, [.ref 0, .int 1, .int 0], [.int 1, .int 0], (zsF 0 [] 0 []), 0, 0)) rfl ?_
  refine zg_nx (y := (25, [.ref 0, .int 1, .int 0], [], (zsF 0 [] 0 []), 0, 0)) rfl ?_
  refine zg_nx (y := (26, [.ref 0, .int 1, .int 0], [.int 1], (zsF 0 [] 0 []), 0, 0)) rfl ?_
  refine zg_nx (y := (30, [.ref 0, .int 1, .int 0], [.int 1], (zsF 0 [] 0 []), 0, 0)) rfl ?_
  exact zg_ret rfl

/-- DesignReader$Tree.partOf -/
theorem zq_76 {i : Int32} (h0 : i < 0) : zrun 20000 7 55 [.ref 10, .int 0, .int i] (zsF 0 [] 0 []) = some (some (.int (-1)), (zsF 0 [] 0 [])) := by
  refine zr_of (m := zm_T_partOf) rfl (Nat.le_of_ble_eq_true rfl) ?_
  show zgo _ _ _ (0, [.ref 10, .int 0, .int i, zu, zu], [], (zsF 0 [] 0 []), 0, 0) = _
  refine zg_nx (y := (1, [.ref 10, .int 0, .int i, zu, zu], [.int i], (zsF 0 [] 0 []), 0, 0)) rfl ?_
  refine zg_brT (P := i < 0) (b := (zn 4 [.ref 10, .int 0, .int i, zu, zu] [] (zsF 0 [] 0 []) 0 0)) (pc := 14) (lv := [.ref 10, .int 0, .int i, zu, zu]) (stk := []) (st := (zsF 0 [] 0 [])) (c := 0) (s := 0) rfl h0 ?_
  refine zg_nx (y := (15, [.ref 10, .int 0, .int i, zu, zu], [.int (-1)], (zsF 0 [] 0 []), 0, 0)) rfl ?_
  exact zg_ret rfl

/-- DesignReader.part -/
theorem zq_77 {i : Int32} (h0 : i < 0) : zrun 20000 8 5 [.ref 0, .int 1, .int 0, .int i] (zsF 0 [] 0 []) = some (some (.int (-1)), (zsF 0 [] 0 [])) := by
  refine zr_of (m := zm_D_part) rfl (Nat.le_of_ble_eq_true rfl) ?_
  show zgo _ _ _ (0, [.ref 0, .int 1, .int 0, .int i], [], (zsF 0 [] 0 []), 0, 0) = _
  refine zg_nx (y := (1, [.ref 0, .int 1, .int 0, .int i], [.ref 0], (zsF 0 [] 0 []), 0, 0)) rfl ?_
  refine zg_nx (y := (2, [.ref 0, .int 1, .int 0, .int i], [.int 1, .ref 0], (zsF 0 [] 0 []), 0, 0)) rfl ?_
  refine zg_nx (y := (3, [.ref 0, .int 1, .int 0, .int i], [.int 0, .int 1, .ref 0], (zsF 0 [] 0 []), 0, 0)) rfl ?_
  refine zg_call (n := 14) (as := [.ref 0, .int 1, .int 0]) (pc := 6) (lv := [.ref 0, .int 1, .int 0, .int i]) (stk := []) (st := (zsF 0 [] 0 [])) (c := 0) (s := 0) (v := (some (.int 1))) (st' := (zsF 0 [] 0 [])) rfl (zq_75) ?_
  show zgo _ _ _ (6, [.ref 0, .int 1, .int 0, .int i], [.int 1], (zsF 0 [] 0 []), 0, 0) = _
  refine zg_nx (y := (9, [.ref 0, .int 1, .int 0, .int i], [], (zsF 0 [] 0 []), 0, 0)) rfl ?_
  refine zg_nx (y := (10, [.ref 0, .int 1, .int 0, .int i], [.ref 0], (zsF 0 [] 0 []), 0, 0)) rfl ?_
  refine zg_nx (y := (13, [.ref 0, .int 1, .int 0, .int i], [.ref 1], (zsF 0 [] 0 []), 0, 0)) rfl ?_
  refine zg_nx (y := (14, [.ref 0, .int 1, .int 0, .int i], [.int 1, .ref 1], (zsF 0 [] 0 []), 0, 0)) rfl ?_
  refine zg_nx (y := (15, [.ref 0, .int 1, .int 0, .int i], [.ref 10], (zsF 0 [] 0 []), 0, 0)) rfl ?_
  refine zg_nx (y := (16, [.ref 0, .int 1, .int 0, .int i], [.int 0, .ref 10], (zsF 0 [] 0 []), 0, 0)) rfl ?_
  refine zg_nx (y := (17, [.ref 0, .int 1, .int 0, .int i], [.int i, .int 0, .ref 10], (zsF 0 [] 0 []), 0, 0)) rfl ?_
  refine zg_call (n := 55) (as := [.ref 10, .int 0, .int i]) (pc := 20) (lv := [.ref 0, .int 1, .int 0, .int i]) (stk := []) (st := (zsF 0 [] 0 [])) (c := 0) (s := 0) (v := (some (.int (-1)))) (st' := (zsF 0 [] 0 [])) rfl (zq_76 h0) ?_
  show zgo _ _ _ (20, [.ref 0, .int 1, .int 0, .int i], [.int (-1)], (zsF 0 [] 0 []), 0, 0) = _
  refine zg_nx (y := (24, [.ref 0, .int 1, .int 0, .int i], [.int (-1)], (zsF 0 [] 0 []), 0, 0)) rfl ?_
  exact zg_ret rfl

/-- DesignReaderModel.has -/
theorem zq_78 : zrun 20000 7 24 [.ref 35, .int 1, .int 0] (zsF 0 [] 0 []) = some (some (.int 1), (zsF 0 [] 0 [])) := by
  refine zr_of (m := zm_R_has) rfl (Nat.le_of_ble_eq_true rfl) ?_
  show zgo _ _ _ (0, [.ref 35, .int 1, .int 0], [], (zsF 0 [] 0 []), 0, 0) = _
  refine zg_nx (y := (1, [.ref 35, .int 1, .int 0], [.int 1], (zsF 0 [] 0 []), 0, 0)) rfl ?_
  refine zg_nx (y := (4, [.ref 35, .int 1, .int 0], [], (zsF 0 [] 0 []), 0, 0)) rfl ?_
  refine zg_nx (y := (5, [.ref 35, .int 1, .int 0], [.int 1], (zsF 0 [] 0 []), 0, 0)) rfl ?_
  refine zg_nx (y := (6, [.ref 35, .int 1, .int 0], [.int 2, .int 1], (zsF 0 [] 0 []), 0, 0)) rfl ?_
  refine zg_nx (y := (9, [.ref 35, .int 1, .int 0], [], (zsF 0 [] 0 []), 0, 0)) rfl ?_
  refine zg_nx (y := (10, [.ref 35, .int 1, .int 0], [.int 0], (zsF 0 [] 0 []), 0, 0)) rfl ?_
  refine zg_nx (y := (13, [.ref 35, .int 1, .int 0], [], (zsF 0 [] 0 []), 0, 0)) rfl ?_
  refine zg_nx (y := (14, [.ref 35, .int 1, .int 0], [.int 0], (zsF 0 [] 0 []), 0, 0)) rfl ?_
  refine zg_nx (y := (15, [.ref 35, .int 1, .int 0], [.ref 35, .int 0], (zsF 0 [] 0 []), 0, 0)) rfl ?_
  refine zg_nx (y := (18, [.ref 35, .int 1, .int 0], [.ref 54, .int 0], (zsF 0 [] 0 []), 0, 0)) rfl ?_
  refine zg_nx (y := (19, [.ref 35, .int 1, .int 0], [.int 1, .ref 54, .int 0], (zsF 0 [] 0 []), 0, 0)) rfl ?_
  refine zg_nx (y := (20, [.ref 35, .int 1, .int 0], [.int 1, .int 0], (zsF 0 [] 0 []), 0, 0)) rfl ?_
  refine zg_nx (y := (23, [.ref 35, .int 1, .int 0], [], (zsF 0 [] 0 []), 0, 0)) rfl ?_
  refine zg_nx (y := (24, [.ref 35, .int 1, .int 0], [.int 1], (zsF 0 [] 0 []), 0, 0)) rfl ?_
  refine zg_nx (y := (28, [.ref 35, .int 1, .int 0], [.int 1], (zsF 0 [] 0 []), 0, 0)) rfl ?_
  exact zg_ret rfl

/-- DesignReaderModel.part -/
theorem zq_79 {i : Int32} (h0 : ¬ (0 ≤ i)) : zrun 20000 8 27 [.ref 35, .int 1, .int 0, .int i] (zsF 0 [] 0 []) = some (some (.int (-1)), (zsF 0 [] 0 [])) := by
  refine zr_of (m := zm_R_part) rfl (Nat.le_of_ble_eq_true rfl) ?_
  show zgo _ _ _ (0, [.ref 35, .int 1, .int 0, .int i, zu, zu], [], (zsF 0 [] 0 []), 0, 0) = _
  refine zg_nx (y := (1, [.ref 35, .int 1, .int 0, .int i, zu, zu], [.ref 35], (zsF 0 [] 0 []), 0, 0)) rfl ?_
  refine zg_nx (y := (2, [.ref 35, .int 1, .int 0, .int i, zu, zu], [.int 1, .ref 35], (zsF 0 [] 0 []), 0, 0)) rfl ?_
  refine zg_nx (y := (3, [.ref 35, .int 1, .int 0, .int i, zu, zu], [.int 0, .int 1, .ref 35], (zsF 0 [] 0 []), 0, 0)) rfl ?_
  refine zg_call (n := 24) (as := [.ref 35, .int 1, .int 0]) (pc := 6) (lv := [.ref 35, .int 1, .int 0, .int i, zu, zu]) (stk := []) (st := (zsF 0 [] 0 [])) (c := 0) (s := 0) (v := (some (.int 1))) (st' := (zsF 0 [] 0 [])) rfl (zq_78) ?_
  show zgo _ _ _ (6, [.ref 35, .int 1, .int 0, .int i, zu, zu], [.int 1], (zsF 0 [] 0 []), 0, 0) = _
  refine zg_nx (y := (9, [.ref 35, .int 1, .int 0, .int i, zu, zu], [], (zsF 0 [] 0 []), 0, 0)) rfl ?_
  refine zg_nx (y := (10, [.ref 35, .int 1, .int 0, .int i, zu, zu], [.int i], (zsF 0 [] 0 []), 0, 0)) rfl ?_
  refine zg_brF (P := 0 ≤ i) (a := (zn 15 [.ref 35, .int 1, .int 0, .int i, zu, zu] [] (zsF 0 [] 0 []) 0 0)) (pc := 13) (lv := [.ref 35, .int 1, .int 0, .int i, zu, zu]) (stk := []) (st := (zsF 0 [] 0 [])) (c := 0) (s := 0) rfl h0 ?_
  refine zg_nx (y := (14, [.ref 35, .int 1, .int 0, .int i, zu, zu], [.int (-1)], (zsF 0 [] 0 []), 0, 0)) rfl ?_
  exact zg_ret rfl

/-- DesignReader$Tree.partOf -/
theorem zq_80 {i : Int32} (h0 : ¬ (i < 0)) : zrun 20000 7 55 [.ref 10, .int 0, .int i] (zsF 0 [] 0 []) = some (some (.int (-1)), (zsF 0 [] 0 [])) := by
  refine zr_of (m := zm_T_partOf) rfl (Nat.le_of_ble_eq_true rfl) ?_
  show zgo _ _ _ (0, [.ref 10, .int 0, .int i, zu, zu], [], (zsF 0 [] 0 []), 0, 0) = _
  refine zg_nx (y := (1, [.ref 10, .int 0, .int i, zu, zu], [.int i], (zsF 0 [] 0 []), 0, 0)) rfl ?_
  refine zg_brF (P := i < 0) (a := (zn 14 [.ref 10, .int 0, .int i, zu, zu] [] (zsF 0 [] 0 []) 0 0)) (pc := 4) (lv := [.ref 10, .int 0, .int i, zu, zu]) (stk := []) (st := (zsF 0 [] 0 [])) (c := 0) (s := 0) rfl h0 ?_
  refine zg_nx (y := (5, [.ref 10, .int 0, .int i, zu, zu], [.int i], (zsF 0 [] 0 []), 0, 0)) rfl ?_
  refine zg_nx (y := (6, [.ref 10, .int 0, .int i, zu, zu], [.ref 10, .int i], (zsF 0 [] 0 []), 0, 0)) rfl ?_
  refine zg_nx (y := (9, [.ref 10, .int 0, .int i, zu, zu], [.ref 15, .int i], (zsF 0 [] 0 []), 0, 0)) rfl ?_
  refine zg_nx (y := (10, [.ref 10, .int 0, .int i, zu, zu], [.int 0, .ref 15, .int i], (zsF 0 [] 0 []), 0, 0)) rfl ?_
  refine zg_nx (y := (11, [.ref 10, .int 0, .int i, zu, zu], [.int 0, .int i], (zsF 0 [] 0 []), 0, 0)) rfl ?_
  refine zg_brF (P := i < 0) (a := (zn 16 [.ref 10, .int 0, .int i, zu, zu] [] (zsF 0 [] 0 []) 0 0)) (pc := 14) (lv := [.ref 10, .int 0, .int i, zu, zu]) (stk := []) (st := (zsF 0 [] 0 [])) (c := 0) (s := 0) rfl h0 ?_
  refine zg_nx (y := (15, [.ref 10, .int 0, .int i, zu, zu], [.int (-1)], (zsF 0 [] 0 []), 0, 0)) rfl ?_
  exact zg_ret rfl

/-- DesignReader.part -/
theorem zq_81 {i : Int32} (h0 : ¬ (i < 0)) : zrun 20000 8 5 [.ref 0, .int 1, .int 0, .int i] (zsF 0 [] 0 []) = some (some (.int (-1)), (zsF 0 [] 0 [])) := by
  refine zr_of (m := zm_D_part) rfl (Nat.le_of_ble_eq_true rfl) ?_
  show zgo _ _ _ (0, [.ref 0, .int 1, .int 0, .int i], [], (zsF 0 [] 0 []), 0, 0) = _
  refine zg_nx (y := (1, [.ref 0, .int 1, .int 0, .int i], [.ref 0], (zsF 0 [] 0 []), 0, 0)) rfl ?_
  refine zg_nx (y := (2, [.ref 0, .int 1, .int 0, .int i], [.int 1, .ref 0], (zsF 0 [] 0 []), 0, 0)) rfl ?_
  refine zg_nx (y := (3, [.ref 0, .int 1, .int 0, .int i], [.int 0, .int 1, .ref 0], (zsF 0 [] 0 []), 0, 0)) rfl ?_
  refine zg_call (n := 14) (as := [.ref 0, .int 1, .int 0]) (pc := 6) (lv := [.ref 0, .int 1, .int 0, .int i]) (stk := []) (st := (zsF 0 [] 0 [])) (c := 0) (s := 0) (v := (some (.int 1))) (st' := (zsF 0 [] 0 [])) rfl (zq_75) ?_
  show zgo _ _ _ (6, [.ref 0, .int 1, .int 0, .int i], [.int 1], (zsF 0 [] 0 []), 0, 0) = _
  refine zg_nx (y := (9, [.ref 0, .int 1, .int 0, .int i], [], (zsF 0 [] 0 []), 0, 0)) rfl ?_
  refine zg_nx (y := (10, [.ref 0, .int 1, .int 0, .int i], [.ref 0], (zsF 0 [] 0 []), 0, 0)) rfl ?_
  refine zg_nx (y := (13, [.ref 0, .int 1, .int 0, .int i], [.ref 1], (zsF 0 [] 0 []), 0, 0)) rfl ?_
  refine zg_nx (y := (14, [.ref 0, .int 1, .int 0, .int i], [.int 1, .ref 1], (zsF 0 [] 0 []), 0, 0)) rfl ?_
  refine zg_nx (y := (15, [.ref 0, .int 1, .int 0, .int i], [.ref 10], (zsF 0 [] 0 []), 0, 0)) rfl ?_
  refine zg_nx (y := (16, [.ref 0, .int 1, .int 0, .int i], [.int 0, .ref 10], (zsF 0 [] 0 []), 0, 0)) rfl ?_
  refine zg_nx (y := (17, [.ref 0, .int 1, .int 0, .int i], [.int i, .int 0, .ref 10], (zsF 0 [] 0 []), 0, 0)) rfl ?_
  refine zg_call (n := 55) (as := [.ref 10, .int 0, .int i]) (pc := 20) (lv := [.ref 0, .int 1, .int 0, .int i]) (stk := []) (st := (zsF 0 [] 0 [])) (c := 0) (s := 0) (v := (some (.int (-1)))) (st' := (zsF 0 [] 0 [])) rfl (zq_80 h0) ?_
  show zgo _ _ _ (20, [.ref 0, .int 1, .int 0, .int i], [.int (-1)], (zsF 0 [] 0 []), 0, 0) = _
  refine zg_nx (y := (24, [.ref 0, .int 1, .int 0, .int i], [.int (-1)], (zsF 0 [] 0 []), 0, 0)) rfl ?_
  exact zg_ret rfl

/-- DesignReaderModel.part -/
theorem zq_82 {i : Int32} (h0 : 0 ≤ i) : zrun 20000 8 27 [.ref 35, .int 1, .int 0, .int i] (zsF 0 [] 0 []) = some (some (.int (-1)), (zsF 0 [] 0 [])) := by
  refine zr_of (m := zm_R_part) rfl (Nat.le_of_ble_eq_true rfl) ?_
  show zgo _ _ _ (0, [.ref 35, .int 1, .int 0, .int i, zu, zu], [], (zsF 0 [] 0 []), 0, 0) = _
  refine zg_nx (y := (1, [.ref 35, .int 1, .int 0, .int i, zu, zu], [.ref 35], (zsF 0 [] 0 []), 0, 0)) rfl ?_
  refine zg_nx (y := (2, [.ref 35, .int 1, .int 0, .int i, zu, zu], [.int 1, .ref 35], (zsF 0 [] 0 []), 0, 0)) rfl ?_
  refine zg_nx (y := (3, [.ref 35, .int 1, .int 0, .int i, zu, zu], [.int 0, .int 1, .ref 35], (zsF 0 [] 0 []), 0, 0)) rfl ?_
  refine zg_call (n := 24) (as := [.ref 35, .int 1, .int 0]) (pc := 6) (lv := [.ref 35, .int 1, .int 0, .int i, zu, zu]) (stk := []) (st := (zsF 0 [] 0 [])) (c := 0) (s := 0) (v := (some (.int 1))) (st' := (zsF 0 [] 0 [])) rfl (zq_78) ?_
  show zgo _ _ _ (6, [.ref 35, .int 1, .int 0, .int i, zu, zu], [.int 1], (zsF 0 [] 0 []), 0, 0) = _
  refine zg_nx (y := (9, [.ref 35, .int 1, .int 0, .int i, zu, zu], [], (zsF 0 [] 0 []), 0, 0)) rfl ?_
  refine zg_nx (y := (10, [.ref 35, .int 1, .int 0, .int i, zu, zu], [.int i], (zsF 0 [] 0 []), 0, 0)) rfl ?_
  refine zg_brT (P := 0 ≤ i) (b := (zn 13 [.ref 35, .int 1, .int 0, .int i, zu, zu] [] (zsF 0 [] 0 []) 0 0)) (pc := 15) (lv := [.ref 35, .int 1, .int 0, .int i, zu, zu]) (stk := []) (st := (zsF 0 [] 0 [])) (c := 0) (s := 0) rfl h0 ?_
  refine zg_nx (y := (16, [.ref 35, .int 1, .int 0, .int i, zu, zu], [.int 0], (zsF 0 [] 0 []), 0, 0)) rfl ?_
  refine zg_nx (y := (18, [.ref 35, .int 1, .int 0, .int i, .int 0, zu], [], (zsF 0 [] 0 []), 0, 0)) rfl ?_
  refine zg_nx (y := (19, [.ref 35, .int 1, .int 0, .int i, .int 0, zu], [.int 0], (zsF 0 [] 0 []), 0, 0)) rfl ?_
  refine zg_nx (y := (20, [.ref 35, .int 1, .int 0, .int i, .int 0, zu], [.int 1, .int 0], (zsF 0 [] 0 []), 0, 0)) rfl ?_
  refine zg_nx (y := (21, [.ref 35, .int 1, .int 0, .int i, .int 0, zu], [.int 1], (zsF 0 [] 0 []), 0, 0)) rfl ?_
  refine zg_nx (y := (23, [.ref 35, .int 1, .int 0, .int i, .int 0, .int 1], [], (zsF 0 [] 0 []), 0, 0)) rfl ?_
  refine zg_nx (y := (25, [.ref 35, .int 1, .int 0, .int i, .int 0, .int 1], [.int 1], (zsF 0 [] 0 []), 0, 0)) rfl ?_
  refine zg_nx (y := (26, [.ref 35, .int 1, .int 0, .int i, .int 0, .int 1], [.int 0, .int 1], (zsF 0 [] 0 []), 0, 0)) rfl ?_
  refine zg_nx (y := (27, [.ref 35, .int 1, .int 0, .int i, .int 0, .int 1], [.ref 35, .int 0, .int 1], (zsF 0 [] 0 []), 0, 0)) rfl ?_
  refine zg_nx (y := (30, [.ref 35, .int 1, .int 0, .int i, .int 0, .int 1], [.ref 53, .int 0, .int 1], (zsF 0 [] 0 []), 0, 0)) rfl ?_
  refine zg_nx (y := (33, [.ref 35, .int 1, .int 0, .int i, .int 0, .int 1], [.int 13000, .ref 53, .int 0, .int 1], (zsF 0 [] 0 []), 0, 0)) rfl ?_
  refine zg_nx (y := (34, [.ref 35, .int 1, .int 0, .int i, .int 0, .int 1], [.int 1, .int 13000, .ref 53, .int 0, .int 1], (zsF 0 [] 0 []), 0, 0)) rfl ?_
  refine zg_nx (y := (35, [.ref 35, .int 1, .int 0, .int i, .int 0, .int 1], [.int 13000, .ref 53, .int 0, .int 1], (zsF 0 [] 0 []), 0, 0)) rfl ?_
  refine zg_nx (y := (36, [.ref 35, .int 1, .int 0, .int i, .int 0, .int 1], [.int 0, .int 13000, .ref 53, .int 0, .int 1], (zsF 0 [] 0 []), 0, 0)) rfl ?_
  refine zg_nx (y := (37, [.ref 35, .int 1, .int 0, .int i, .int 0, .int 1], [.int 13000, .ref 53, .int 0, .int 1], (zsF 0 [] 0 []), 0, 0)) rfl ?_
  refine zg_nx (y := (38, [.ref 35, .int 1, .int 0, .int i, .int 0, .int 1], [.int 1, .int 0, .int 1], (zsF 0 [] 0 []), 0, 0)) rfl ?_
  refine zg_nx (y := (39, [.ref 35, .int 1, .int 0, .int i, .int 0, .int 1], [.int 1, .int 1], (zsF 0 [] 0 []), 0, 0)) rfl ?_
  refine zg_nx (y := (75, [.ref 35, .int 1, .int 0, .int i, .int 0, .int 1], [], (zsF 0 [] 0 []), 0, 0)) rfl ?_
  refine zg_nx (y := (76, [.ref 35, .int 1, .int 0, .int i, .int 0, .int 1], [.int (-1)], (zsF 0 [] 0 []), 0, 0)) rfl ?_
  exact zg_ret rfl

/-- DesignReader.part -/
theorem zq_83 {k i : Int32} (h0 : k < 0) : zrun 20000 8 5 [.ref 0, .int 1, .int k, .int i] (zsF 0 [] 0 []) = some (some (.int (-1)), (zsF 0 [] 0 [])) := by
  refine zr_of (m := zm_D_part) rfl (Nat.le_of_ble_eq_true rfl) ?_
  show zgo _ _ _ (0, [.ref 0, .int 1, .int k, .int i], [], (zsF 0 [] 0 []), 0, 0) = _
  refine zg_nx (y := (1, [.ref 0, .int 1, .int k, .int i], [.ref 0], (zsF 0 [] 0 []), 0, 0)) rfl ?_
  refine zg_nx (y := (2, [.ref 0, .int 1, .int k, .int i], [.int 1, .ref 0], (zsF 0 [] 0 []), 0, 0)) rfl ?_
  refine zg_nx (y := (3, [.ref 0, .int 1, .int k, .int i], [.int k, .int 1, .ref 0], (zsF 0 [] 0 []), 0, 0)) rfl ?_
  refine zg_call (n := 14) (as := [.ref 0, .int 1, .int k]) (pc := 6) (lv := [.ref 0, .int 1, .int k, .int i]) (stk := []) (st := (zsF 0 [] 0 [])) (c := 0) (s := 0) (v := (some (.int 0))) (st' := (zsF 0 [] 0 [])) rfl (zq_36 h0) ?_
  show zgo _ _ _ (6, [.ref 0, .int 1, .int k, .int i], [.int 0], (zsF 0 [] 0 []), 0, 0) = _
  refine zg_nx (y := (23, [.ref 0, .int 1, .int k, .int i], [], (zsF 0 [] 0 []), 0, 0)) rfl ?_
  refine zg_nx (y := (24, [.ref 0, .int 1, .int k, .int i], [.int (-1)], (zsF 0 [] 0 []), 0, 0)) rfl ?_
  exact zg_ret rfl

/-- DesignReaderModel.part -/
theorem zq_84 {k i : Int32} (h0 : k < 0) : zrun 20000 8 27 [.ref 35, .int 1, .int k, .int i] (zsF 0 [] 0 []) = some (some (.int (-1)), (zsF 0 [] 0 [])) := by
  refine zr_of (m := zm_R_part) rfl (Nat.le_of_ble_eq_true rfl) ?_
  show zgo _ _ _ (0, [.ref 35, .int 1, .int k, .int i, zu, zu], [], (zsF 0 [] 0 []), 0, 0) = _
  refine zg_nx (y := (1, [.ref 35, .int 1, .int k, .int i, zu, zu], [.ref 35], (zsF 0 [] 0 []), 0, 0)) rfl ?_
  refine zg_nx (y := (2, [.ref 35, .int 1, .int k, .int i, zu, zu], [.int 1, .ref 35], (zsF 0 [] 0 []), 0, 0)) rfl ?_
  refine zg_nx (y := (3, [.ref 35, .int 1, .int k, .int i, zu, zu], [.int k, .int 1, .ref 35], (zsF 0 [] 0 []), 0, 0)) rfl ?_
  refine zg_call (n := 24) (as := [.ref 35, .int 1, .int k]) (pc := 6) (lv := [.ref 35, .int 1, .int k, .int i, zu, zu]) (stk := []) (st := (zsF 0 [] 0 [])) (c := 0) (s := 0) (v := (some (.int 0))) (st' := (zsF 0 [] 0 [])) rfl (zq_38 h0) ?_
  show zgo _ _ _ (6, [.ref 35, .int 1, .int k, .int i, zu, zu], [.int 0], (zsF 0 [] 0 []), 0, 0) = _
  refine zg_nx (y := (13, [.ref 35, .int 1, .int k, .int i, zu, zu], [], (zsF 0 [] 0 []), 0, 0)) rfl ?_
  refine zg_nx (y := (14, [.ref 35, .int 1, .int k, .int i, zu, zu], [.int (-1)], (zsF 0 [] 0 []), 0, 0)) rfl ?_
  exact zg_ret rfl

/-- DesignReader.part -/
theorem zq_85 {k i : Int32} (h0 : ¬ (k < 0)) (h1 : 1 ≤ k) : zrun 20000 8 5 [.ref 0, .int 1, .int k, .int i] (zsF 0 [] 0 []) = some (some (.int (-1)), (zsF 0 [] 0 [])) := by
  refine zr_of (m := zm_D_part) rfl (Nat.le_of_ble_eq_true rfl) ?_
  show zgo _ _ _ (0, [.ref 0, .int 1, .int k, .int i], [], (zsF 0 [] 0 []), 0, 0) = _
  refine zg_nx (y := (1, [.ref 0, .int 1, .int k, .int i], [.ref 0], (zsF 0 [] 0 []), 0, 0)) rfl ?_
  refine zg_nx (y := (2, [.ref 0, .int 1, .int k, .int i], [.int 1, .ref 0], (zsF 0 [] 0 []), 0, 0)) rfl ?_
  refine zg_nx (y := (3, [.ref 0, .int 1, .int k, .int i], [.int k, .int 1, .ref 0], (zsF 0 [] 0 []), 0, 0)) rfl ?_
  refine zg_call (n := 14) (as := [.ref 0, .int 1, .int k]) (pc := 6) (lv := [.ref 0, .int 1, .int k, .int i]) (stk := []) (st := (zsF 0 [] 0 [])) (c := 0) (s := 0) (v := (some (.int 0))) (st' := (zsF 0 [] 0 [])) rfl (zq_40 h0 h1) ?_
  show zgo _ _ _ (6, [.ref 0, .int 1, .int k, .int i], [.int 0], (zsF 0 [] 0 []), 0, 0) = _
  refine zg_nx (y := (23, [.ref 0, .int 1, .int k, .int i], [], (zsF 0 [] 0 []), 0, 0)) rfl ?_
  refine zg_nx (y := (24, [.ref 0, .int 1, .int k, .int i], [.int (-1)], (zsF 0 [] 0 []), 0, 0)) rfl ?_
  exact zg_ret rfl

/-- DesignReaderModel.part -/
theorem zq_86 {k i : Int32} (h0 : ¬ (k < 0)) (h1 : 1 ≤ k) : zrun 20000 8 27 [.ref 35, .int 1, .int k, .int i] (zsF 0 [] 0 []) = some (some (.int (-1)), (zsF 0 [] 0 [])) := by
  refine zr_of (m := zm_R_part) rfl (Nat.le_of_ble_eq_true rfl) ?_
  show zgo _ _ _ (0, [.ref 35, .int 1, .int k, .int i, zu, zu], [], (zsF 0 [] 0 []), 0, 0) = _
  refine zg_nx (y := (1, [.ref 35, .int 1, .int k, .int i, zu, zu], [.ref 35], (zsF 0 [] 0 []), 0, 0)) rfl ?_
  refine zg_nx (y := (2, [.ref 35, .int 1, .int k, .int i, zu, zu], [.int 1, .ref 35], (zsF 0 [] 0 []), 0, 0)) rfl ?_
  refine zg_nx (y := (3, [.ref 35, .int 1, .int k, .int i, zu, zu], [.int k, .int 1, .ref 35], (zsF 0 [] 0 []), 0, 0)) rfl ?_
  refine zg_call (n := 24) (as := [.ref 35, .int 1, .int k]) (pc := 6) (lv := [.ref 35, .int 1, .int k, .int i, zu, zu]) (stk := []) (st := (zsF 0 [] 0 [])) (c := 0) (s := 0) (v := (some (.int 0))) (st' := (zsF 0 [] 0 [])) rfl (zq_42 h0 h1) ?_
  show zgo _ _ _ (6, [.ref 35, .int 1, .int k, .int i, zu, zu], [.int 0], (zsF 0 [] 0 []), 0, 0) = _
  refine zg_nx (y := (13, [.ref 35, .int 1, .int k, .int i, zu, zu], [], (zsF 0 [] 0 []), 0, 0)) rfl ?_
  refine zg_nx (y := (14, [.ref 35, .int 1, .int k, .int i, zu, zu], [.int (-1)], (zsF 0 [] 0 []), 0, 0)) rfl ?_
  exact zg_ret rfl

/-- DesignReader.part -/
theorem zq_87 {t k i : Int32} (h0 : ¬ (t < 0)) (h1 : 2 ≤ t) : zrun 20000 8 5 [.ref 0, .int t, .int k, .int i] (zsF 0 [] 0 []) = some (some (.int (-1)), (zsF 0 [] 0 [])) := by
  refine zr_of (m := zm_D_part) rfl (Nat.le_of_ble_eq_true rfl) ?_
  show zgo _ _ _ (0, [.ref 0, .int t, .int k, .int i], [], (zsF 0 [] 0 []), 0, 0) = _
  refine zg_nx (y := (1, [.ref 0, .int t, .int k, .int i], [.ref 0], (zsF 0 [] 0 []), 0, 0)) rfl ?_
  refine zg_nx (y := (2, [.ref 0, .int t, .int k, .int i], [.int t, .ref 0], (zsF 0 [] 0 []), 0, 0)) rfl ?_
  refine zg_nx (y := (3, [.ref 0, .int t, .int k, .int i], [.int k, .int t, .ref 0], (zsF 0 [] 0 []), 0, 0)) rfl ?_
  refine zg_call (n := 14) (as := [.ref 0, .int t, .int k]) (pc := 6) (lv := [.ref 0, .int t, .int k, .int i]) (stk := []) (st := (zsF 0 [] 0 [])) (c := 0) (s := 0) (v := (some (.int 0))) (st' := (zsF 0 [] 0 [])) rfl (zq_45 h0 h1) ?_
  show zgo _ _ _ (6, [.ref 0, .int t, .int k, .int i], [.int 0], (zsF 0 [] 0 []), 0, 0) = _
  refine zg_nx (y := (23, [.ref 0, .int t, .int k, .int i], [], (zsF 0 [] 0 []), 0, 0)) rfl ?_
  refine zg_nx (y := (24, [.ref 0, .int t, .int k, .int i], [.int (-1)], (zsF 0 [] 0 []), 0, 0)) rfl ?_
  exact zg_ret rfl

/-- DesignReaderModel.part -/
theorem zq_88 {t k i : Int32} (h0 : ¬ (t < 0)) (h1 : 2 ≤ t) : zrun 20000 8 27 [.ref 35, .int t, .int k, .int i] (zsF 0 [] 0 []) = some (some (.int (-1)), (zsF 0 [] 0 [])) := by
  refine zr_of (m := zm_R_part) rfl (Nat.le_of_ble_eq_true rfl) ?_
  show zgo _ _ _ (0, [.ref 35, .int t, .int k, .int i, zu, zu], [], (zsF 0 [] 0 []), 0, 0) = _
  refine zg_nx (y := (1, [.ref 35, .int t, .int k, .int i, zu, zu], [.ref 35], (zsF 0 [] 0 []), 0, 0)) rfl ?_
  refine zg_nx (y := (2, [.ref 35, .int t, .int k, .int i, zu, zu], [.int t, .ref 35], (zsF 0 [] 0 []), 0, 0)) rfl ?_
  refine zg_nx (y := (3, [.ref 35, .int t, .int k, .int i, zu, zu], [.int k, .int t, .ref 35], (zsF 0 [] 0 []), 0, 0)) rfl ?_
  refine zg_call (n := 24) (as := [.ref 35, .int t, .int k]) (pc := 6) (lv := [.ref 35, .int t, .int k, .int i, zu, zu]) (stk := []) (st := (zsF 0 [] 0 [])) (c := 0) (s := 0) (v := (some (.int 0))) (st' := (zsF 0 [] 0 [])) rfl (zq_47 h0 h1) ?_
  show zgo _ _ _ (6, [.ref 35, .int t, .int k, .int i, zu, zu], [.int 0], (zsF 0 [] 0 []), 0, 0) = _
  refine zg_nx (y := (13, [.ref 35, .int t, .int k, .int i, zu, zu], [], (zsF 0 [] 0 []), 0, 0)) rfl ?_
  refine zg_nx (y := (14, [.ref 35, .int t, .int k, .int i, zu, zu], [.int (-1)], (zsF 0 [] 0 []), 0, 0)) rfl ?_
  exact zg_ret rfl

/-- DesignReader.node -/
theorem zq_89 {t k w : Int32} (h0 : t < 0) : zrun 20000 8 4 [.ref 0, .int t, .int k, .int w] (zsF 0 [] 0 []) = some (some (.int (-2)), (zsF 0 [] 0 [])) := by
  refine zr_of (m := zm_D_node) rfl (Nat.le_of_ble_eq_true rfl) ?_
  show zgo _ _ _ (0, [.ref 0, .int t, .int k, .int w, zu], [], (zsF 0 [] 0 []), 0, 0) = _
  refine zg_nx (y := (1, [.ref 0, .int t, .int k, .int w, zu], [.ref 0], (zsF 0 [] 0 []), 0, 0)) rfl ?_
  refine zg_nx (y := (2, [.ref 0, .int t, .int k, .int w, zu], [.int t, .ref 0], (zsF 0 [] 0 []), 0, 0)) rfl ?_
  refine zg_nx (y := (3, [.ref 0, .int t, .int k, .int w, zu], [.int k, .int t, .ref 0], (zsF 0 [] 0 []), 0, 0)) rfl ?_
  refine zg_call (n := 14) (as := [.ref 0, .int t, .int k]) (pc := 6) (lv := [.ref 0, .int t, .int k, .int w, zu]) (stk := []) (st := (zsF 0 [] 0 [])) (c := 0) (s := 0) (v := (some (.int 0))) (st' := (zsF 0 [] 0 [])) rfl (zq_22 h0) ?_
  show zgo _ _ _ (6, [.ref 0, .int t, .int k, .int w, zu], [.int 0], (zsF 0 [] 0 []), 0, 0) = _
  refine zg_nx (y := (9, [.ref 0, .int t, .int k, .int w, zu], [], (zsF 0 [] 0 []), 0, 0)) rfl ?_
  refine zg_nx (y := (11, [.ref 0, .int t, .int k, .int w, zu], [.int (-2)], (zsF 0 [] 0 []), 0, 0)) rfl ?_
  exact zg_ret rfl

/-- DesignReaderModel.node -/
theorem zq_90 {t k w : Int32} (h0 : t < 0) : zrun 20000 8 28 [.ref 35, .int t, .int k, .int w] (zsF 0 [] 0 []) = some (some (.int (-2)), (zsF 0 [] 0 [])) := by
  refine zr_of (m := zm_R_node) rfl (Nat.le_of_ble_eq_true rfl) ?_
  show zgo _ _ _ (0, [.ref 35, .int t, .int k, .int w, zu], [], (zsF 0 [] 0 []), 0, 0) = _
  refine zg_nx (y := (1, [.ref 35, .int t, .int k, .int w, zu], [.ref 35], (zsF 0 [] 0 []), 0, 0)) rfl ?_
  refine zg_nx (y := (2, [.ref 35, .int t, .int k, .int w, zu], [.int t, .ref 35], (zsF 0 [] 0 []), 0, 0)) rfl ?_
  refine zg_nx (y := (3, [.ref 35, .int t, .int k, .int w, zu], [.int k, .int t, .ref 35], (zsF 0 [] 0 []), 0, 0)) rfl ?_
  refine zg_call (n := 24) (as := [.ref 35, .int t, .int k]) (pc := 6) (lv := [.ref 35, .int t, .int k, .int w, zu]) (stk := []) (st := (zsF 0 [] 0 [])) (c := 0) (s := 0) (v := (some (.int 0))) (st' := (zsF 0 [] 0 [])) rfl (zq_24 h0) ?_
  show zgo _ _ _ (6, [.ref 35, .int t, .int k, .int w, zu], [.int 0], (zsF 0 [] 0 []), 0, 0) = _
  refine zg_nx (y := (9, [.ref 35, .int t, .int k, .int w, zu], [], (zsF 0 [] 0 []), 0, 0)) rfl ?_
  refine zg_nx (y := (11, [.ref 35, .int t, .int k, .int w, zu], [.int (-2)], (zsF 0 [] 0 []), 0, 0)) rfl ?_
  exact zg_ret rfl

/-- DesignReader.node -/
theorem zq_91 {w : Int32} (h0 : zswT w 96 [(0, 56), (1, 64), (2, 72), (3, 80), (4, 88)] = 96) : zrun 20000 8 4 [.ref 0, .int 0, .int 0, .int w] (zsF 0 [] 0 []) = some (some (.int (-2)), (zsF 0 [] 0 [])) := by
  refine zr_of (m := zm_D_node) rfl (Nat.le_of_ble_eq_true rfl) ?_
  show zgo _ _ _ (0, [.ref 0, .int 0, .int 0, .int w, zu], [], (zsF 0 [] 0 []), 0, 0) = _
  refine zg_nx (y := (1, [.ref 0, .int 0, .int 0, .int w, zu], [.ref 0], (zsF 0 [] 0 []), 0, 0)) rfl ?_
  refine zg_nx (y := (2, [.ref 0, .int 0, .int 0, .int w, zu], [.int 0, .ref 0], (zsF 0 [] 0 []), 0, 0)) rfl ?_
  refine zg_nx (y := (3, [.ref 0, .int 0, .int 0, .int w, zu], [.int 0, .int 0, .ref 0], (zsF 0 [] 0 []), 0, 0)) rfl ?_
  refine zg_call (n := 14) (as := [.ref 0, .int 0, .int 0]) (pc := 6) (lv := [.ref 0, .int 0, .int 0, .int w, zu]) (stk := []) (st := (zsF 0 [] 0 [])) (c := 0) (s := 0) (v := (some (.int 1))) (st' := (zsF 0 [] 0 [])) rfl (zq_63) ?_
  show zgo _ _ _ (6, [.ref 0, .int 0, .int 0, .int w, zu], [.int 1], (zsF 0 [] 0 []), 0, 0) = _
  refine zg_nx (y := (12, [.ref 0, .int 0, .int 0, .int w, zu], [], (zsF 0 [] 0 []), 0, 0)) rfl ?_
  refine zg_nx (y := (13, [.ref 0, .int 0, .int 0, .int w, zu], [.ref 0], (zsF 0 [] 0 []), 0, 0)) rfl ?_
  refine zg_nx (y := (16, [.ref 0, .int 0, .int 0, .int w, zu], [.ref 1], (zsF 0 [] 0 []), 0, 0)) rfl ?_
  refine zg_nx (y := (17, [.ref 0, .int 0, .int 0, .int w, zu], [.int 0, .ref 1], (zsF 0 [] 0 []), 0, 0)) rfl ?_
  refine zg_nx (y := (18, [.ref 0, .int 0, .int 0, .int w, zu], [.ref 2], (zsF 0 [] 0 []), 0, 0)) rfl ?_
  refine zg_nx (y := (20, [.ref 0, .int 0, .int 0, .int w, .ref 2], [], (zsF 0 [] 0 []), 0, 0)) rfl ?_
  refine zg_nx (y := (21, [.ref 0, .int 0, .int 0, .int w, .ref 2], [.int w], (zsF 0 [] 0 []), 0, 0)) rfl ?_
  refine zg_sw (T := zswT w 96 [(0, 56), (1, 64), (2, 72), (3, 80), (4, 88)]) (pc := 96) (lv := [.ref 0, .int 0, .int 0, .int w, .ref 2]) (stk := []) (st := (zsF 0 [] 0 [])) (c := 0) (s := 0) rfl h0 ?_
  refine zg_nx (y := (98, [.ref 0, .int 0, .int 0, .int w, .ref 2], [.int (-2)], (zsF 0 [] 0 []), 0, 0)) rfl ?_
  exact zg_ret rfl

/-- DesignReaderModel.node -/
theorem zq_92 {w : Int32} (h0 : ¬ w = 0) (h1 : ¬ w = 1) (h2 : ¬ w = 2) (h3 : ¬ w = 3) (h4 : ¬ w = 4) : zrun 20000 8 28 [.ref 35, .int 0, .int 0, .int w] (zsF 0 [] 0 []) = some (some (.int (-2)), (zsF 0 [] 0 [])) := by
  refine zr_of (m := zm_R_node) rfl (Nat.le_of_ble_eq_true rfl) ?_
  show zgo _ _ _ (0, [.ref 35, .int 0, .int 0, .int w, zu], [], (zsF 0 [] 0 []), 0, 0) = _
  refine zg_nx (y := (1, [.ref 35, .int 0, .int 0, .int w, zu], [.ref 35], (zsF 0 [] 0 []), 0, 0)) rfl ?_
  refine zg_nx (y := (2, [.ref 35, .int 0, .int 0, .int w, zu], [.int 0, .ref 35], (zsF 0 [] 0 []), 0, 0)) rfl ?_
  refine zg_nx (y := (3, [.ref 35, .int 0, .int 0, .int w, zu], [.int 0, .int 0, .ref 35], (zsF 0 [] 0 []), 0, 0)) rfl ?_
  refine zg_call (n := 24) (as := [.ref 35, .int 0, .int 0]) (pc := 6) (lv := [.ref 35, .int 0, .int 0, .int w, zu]) (stk := []) (st := (zsF 0 [] 0 [])) (c := 0) (s := 0) (v := (some (.int 1))) (st' := (zsF 0 [] 0 [])) rfl (zq_66) ?_
  show zgo _ _ _ (6, [.ref 35, .int 0, .int 0, .int w, zu], [.int 1], (zsF 0 [] 0 []), 0, 0) = _
  refine zg_nx (y := (12, [.ref 35, .int 0, .int 0, .int w, zu], [], (zsF 0 [] 0 []), 0, 0)) rfl ?_
  refine zg_nx (y := (15, [.ref 35, .int 0, .int 0, .int w, zu], [.int 13000], (zsF 0 [] 0 []), 0, 0)) rfl ?_
  refine zg_nx (y := (16, [.ref 35, .int 0, .int 0, .int w, zu], [.int 0, .int 13000], (zsF 0 [] 0 []), 0, 0)) rfl ?_
  refine zg_nx (y := (17, [.ref 35, .int 0, .int 0, .int w, zu], [.int 0], (zsF 0 [] 0 []), 0, 0)) rfl ?_
  refine zg_nx (y := (18, [.ref 35, .int 0, .int 0, .int w, zu], [.int 0, .int 0], (zsF 0 [] 0 []), 0, 0)) rfl ?_
  refine zg_nx (y := (19, [.ref 35, .int 0, .int 0, .int w, zu], [.int 0], (zsF 0 [] 0 []), 0, 0)) rfl ?_
  refine zg_nx (y := (21, [.ref 35, .int 0, .int 0, .int w, .int 0], [], (zsF 0 [] 0 []), 0, 0)) rfl ?_
  refine zg_nx (y := (22, [.ref 35, .int 0, .int 0, .int w, .int 0], [.int w], (zsF 0 [] 0 []), 0, 0)) rfl ?_
  refine zg_brT (P := ¬ w = 0) (b := (zn 25 [.ref 35, .int 0, .int 0, .int w, .int 0] [] (zsF 0 [] 0 []) 0 0)) (pc := 35) (lv := [.ref 35, .int 0, .int 0, .int w, .int 0]) (stk := []) (st := (zsF 0 [] 0 [])) (c := 0) (s := 0) rfl h0 ?_
  refine zg_nx (y := (36, [.ref 35, .int 0, .int 0, .int w, .int 0], [.int w], (zsF 0 [] 0 []), 0, 0)) rfl ?_
  refine zg_nx (y := (37, [.ref 35, .int 0, .int 0, .int w, .int 0], [.int 1, .int w], (zsF 0 [] 0 []), 0, 0)) rfl ?_
  refine zg_brT (P := ¬ w = 1) (b := (zn 40 [.ref 35, .int 0, .int 0, .int w, .int 0] [] (zsF 0 [] 0 []) 0 0)) (pc := 50) (lv := [.ref 35, .int 0, .int 0, .int w, .int 0]) (stk := []) (st := (zsF 0 [] 0 [])) (c := 0) (s := 0) rfl h1 ?_
  refine zg_nx (y := (51, [.ref 35, .int 0, .int 0, .int w, .int 0], [.int w], (zsF 0 [] 0 []), 0, 0)) rfl ?_
  refine zg_nx (y := (52, [.ref 35, .int 0, .int 0, .int w, .int 0], [.int 2, .int w], (zsF 0 [] 0 []), 0, 0)) rfl ?_
  refine zg_brT (P := ¬ w = 2) (b := (zn 55 [.ref 35, .int 0, .int 0, .int w, .int 0] [] (zsF 0 [] 0 []) 0 0)) (pc := 65) (lv := [.ref 35, .int 0, .int 0, .int w, .int 0]) (stk := []) (st := (zsF 0 [] 0 [])) (c := 0) (s := 0) rfl h2 ?_
  refine zg_nx (y := (66, [.ref 35, .int 0, .int 0, .int w, .int 0], [.int w], (zsF 0 [] 0 []), 0, 0)) rfl ?_
  refine zg_nx (y := (67, [.ref 35, .int 0, .int 0, .int w, .int 0], [.int 3, .int w], (zsF 0 [] 0 []), 0, 0)) rfl ?_
  refine zg_brT (P := ¬ w = 3) (b := (zn 70 [.ref 35, .int 0, .int 0, .int w, .int 0] [] (zsF 0 [] 0 []) 0 0)) (pc := 80) (lv := [.ref 35, .int 0, .int 0, .int w, .int 0]) (stk := []) (st := (zsF 0 [] 0 [])) (c := 0) (s := 0) rfl h3 ?_
  refine zg_nx (y := (81, [.ref 35, .int 0, .int 0, .int w, .int 0], [.int w], (zsF 0 [] 0 []), 0, 0)) rfl ?_
  refine zg_nx (y := (82, [.ref 35, .int 0, .int 0, .int w, .int 0], [.int 4, .int w], (zsF 0 [] 0 []), 0, 0)) rfl ?_
  refine zg_brT (P := ¬ w = 4) (b := (zn 85 [.ref 35, .int 0, .int 0, .int w, .int 0] [] (zsF 0 [] 0 []) 0 0)) (pc := 94) (lv := [.ref 35, .int 0, .int 0, .int w, .int 0]) (stk := []) (st := (zsF 0 [] 0 [])) (c := 0) (s := 0) rfl h4 ?_
  refine zg_nx (y := (96, [.ref 35, .int 0, .int 0, .int w, .int 0], [.int (-2)], (zsF 0 [] 0 []), 0, 0)) rfl ?_
  exact zg_ret rfl

/-- DesignReader.node -/
theorem zq_93 {k w : Int32} (h0 : k < 0) : zrun 20000 8 4 [.ref 0, .int 0, .int k, .int w] (zsF 0 [] 0 []) = some (some (.int (-2)), (zsF 0 [] 0 [])) := by
  refine zr_of (m := zm_D_node) rfl (Nat.le_of_ble_eq_true rfl) ?_
  show zgo _ _ _ (0, [.ref 0, .int 0, .int k, .int w, zu], [], (zsF 0 [] 0 []), 0, 0) = _
  refine zg_nx (y := (1, [.ref 0, .int 0, .int k, .int w, zu], [.ref 0], (zsF 0 [] 0 []), 0, 0)) rfl ?_
  refine zg_nx (y := (2, [.ref 0, .int 0, .int k, .int w, zu], [.int 0, .ref 0], (zsF 0 [] 0 []), 0, 0)) rfl ?_
  refine zg_nx (y := (3, [.ref 0, .int 0, .int k, .int w, zu], [.int k, .int 0, .ref 0], (zsF 0 [] 0 []), 0, 0)) rfl ?_
  refine zg_call (n := 14) (as := [.ref 0, .int 0, .int k]) (pc := 6) (lv := [.ref 0, .int 0, .int k, .int w, zu]) (stk := []) (st := (zsF 0 [] 0 [])) (c := 0) (s := 0) (v := (some (.int 0))) (st' := (zsF 0 [] 0 [])) rfl (zq_27 h0) ?_
  show zgo _ _ _ (6, [.ref 0, .int 0, .int k, .int w, zu], [.int 0], (zsF 0 [] 0 []), 0, 0) = _
  refine zg_nx (y := (9, [.ref 0, .int 0, .int k, .int w, zu], [], (zsF 0 [] 0 []), 0, 0)) rfl ?_
  refine zg_nx (y := (11, [.ref 0, .int 0, .int k, .int w, zu], [.int (-2)], (zsF 0 [] 0 []), 0, 0)) rfl ?_
  exact zg_ret rfl

/-- DesignReaderModel.node -/
theorem zq_94 {k w : Int32} (h0 : k < 0) : zrun 20000 8 28 [.ref 35, .int 0, .int k, .int w] (zsF 0 [] 0 []) = some (some (.int (-2)), (zsF 0 [] 0 [])) := by
  refine zr_of (m := zm_R_node) rfl (Nat.le_of_ble_eq_true rfl) ?_
  show zgo _ _ _ (0, [.ref 35, .int 0, .int k, .int w, zu], [], (zsF 0 [] 0 []), 0, 0) = _
  refine zg_nx (y := (1, [.ref 35, .int 0, .int k, .int w, zu], [.ref 35], (zsF 0 [] 0 []), 0, 0)) rfl ?_
  refine zg_nx (y := (2, [.ref 35, .int 0, .int k, .int w, zu], [.int 0, .ref 35], (zsF 0 [] 0 []), 0, 0)) rfl ?_
  refine zg_nx (y := (3, [.ref 35, .int 0, .int k, .int w, zu], [.int k, .int 0, .ref 35], (zsF 0 [] 0 []), 0, 0)) rfl ?_
  refine zg_call (n := 24) (as := [.ref 35, .int 0, .int k]) (pc := 6) (lv := [.ref 35, .int 0, .int k, .int w, zu]) (stk := []) (st := (zsF 0 [] 0 [])) (c := 0) (s := 0) (v := (some (.int 0))) (st' := (zsF 0 [] 0 [])) rfl (zq_29 h0) ?_
  show zgo _ _ _ (6, [.ref 35, .int 0, .int k, .int w, zu], [.int 0], (zsF 0 [] 0 []), 0, 0) = _
  refine zg_nx (y := (9, [.ref 35, .int 0, .int k, .int w, zu], [], (zsF 0 [] 0 []), 0, 0)) rfl ?_
  refine zg_nx (y := (11, [.ref 35, .int 0, .int k, .int w, zu], [.int (-2)], (zsF 0 [] 0 []), 0, 0)) rfl ?_
  exact zg_ret rfl

/-- DesignReader.node -/
theorem zq_95 {k w : Int32} (h0 : ¬ (k < 0)) (h1 : 1 ≤ k) : zrun 20000 8 4 [.ref 0, .int 0, .int k, .int w] (zsF 0 [] 0 []) = some (some (.int (-2)), (zsF 0 [] 0 [])) := by
  refine zr_of (m := zm_D_node) rfl (Nat.le_of_ble_eq_true rfl) ?_
  show zgo _ _ _ (0, [.ref 0, .int 0, .int k, .int w, zu], [], (zsF 0 [] 0 []), 0, 0) = _
  refine zg_nx (y := (1, [.ref 0, .int 0, .int k, .int w, zu], [.ref 0], (zsF 0 [] 0 []), 0, 0)) rfl ?_
  refine zg_nx (y := (2, [.ref 0, .int 0, .int k, .int w, zu], [.int 0, .ref 0], (zsF 0 [] 0 []), 0, 0)) rfl ?_
  refine zg_nx (y := (3, [.ref 0, .int 0, .int k, .int w, zu], [.int k, .int 0, .ref 0], (zsF 0 [] 0 []), 0, 0)) rfl ?_
  refine zg_call (n := 14) (as := [.ref 0, .int 0, .int k]) (pc := 6) (lv := [.ref 0, .int 0, .int k, .int w, zu]) (stk := []) (st := (zsF 0 [] 0 [])) (c := 0) (s := 0) (v := (some (.int 0))) (st' := (zsF 0 [] 0 [])) rfl (zq_31 h0 h1) ?_
  show zgo _ _ _ (6, [.ref 0, .int 0, .int k, .int w, zu], [.int 0], (zsF 0 [] 0 []), 0, 0) = _
  refine zg_nx (y := (9, [.ref 0, .int 0, .int k, .int w, zu], [], (zsF 0 [] 0 []), 0, 0)) rfl ?_
  refine zg_nx (y := (11, [.ref 0, .int 0, .int k, .int w, zu], [.int (-2)], (zsF 0 [] 0 []), 0, 0)) rfl ?_
  exact zg_ret rfl

/-- DesignReaderModel.node -/
theorem zq_96 {k w : Int32} (h0 : ¬ (k < 0)) (h1 : 1 ≤ k) : zrun 20000 8 28 [.ref 35, .int 0, .int k, .int w] (zsF 0 [] 0 []) = some (some (.int (-2)), (zsF 0 [] 0 [])) := by
  refine zr_of (m := zm_R_node) rfl (Nat.le_of_ble_eq_true rfl) ?_
  show zgo _ _ _ (0, [.ref 35, .int 0, .int k, .int w, zu], [], (zsF 0 [] 0 []), 0, 0) = _
  refine zg_nx (y := (1, [.ref 35, .int 0, .int k, .int w, zu], [.ref 35], (zsF 0 [] 0 []), 0, 0)) rfl ?_
  refine zg_nx (y := (2, [.ref 35, .int 0, .int k, .int w, zu], [.int 0, .ref 35], (zsF 0 [] 0 []), 0, 0)) rfl ?_
  refine zg_nx (y := (3, [.ref 35, .int 0, .int k, .int w, zu], [.int k, .int 0, .ref 35], (zsF 0 [] 0 []), 0, 0)) rfl ?_
  refine zg_call (n := 24) (as := [.ref 35, .int 0, .int k]) (pc := 6) (lv := [.ref 35, .int 0, .int k, .int w, zu]) (stk := []) (st := (zsF 0 [] 0 [])) (c := 0) (s := 0) (v := (some (.int 0))) (st' := (zsF 0 [] 0 [])) rfl (zq_33 h0 h1) ?_
  show zgo _ _ _ (6, [.ref 35, .int 0, .int k, .int w, zu], [.int 0], (zsF 0 [] 0 []), 0, 0) = _
  refine zg_nx (y := (9, [.ref 35, .int 0, .int k, .int w, zu], [], (zsF 0 [] 0 []), 0, 0)) rfl ?_
  refine zg_nx (y := (11, [.ref 35, .int 0, .int k, .int w, zu], [.int (-2)], (zsF 0 [] 0 []), 0, 0)) rfl ?_
  exact zg_ret rfl

/-- DesignReader.node -/
theorem zq_97 {w : Int32} (h0 : zswT w 96 [(0, 56), (1, 64), (2, 72), (3, 80), (4, 88)] = 96) : zrun 20000 8 4 [.ref 0, .int 1, .int 0, .int w] (zsF 0 [] 0 []) = some (some (.int (-2)), (zsF 0 [] 0 [])) := by
  refine zr_of (m := zm_D_node) rfl (Nat.le_of_ble_eq_true rfl) ?_
  show zgo _ _ _ (0, [.ref 0, .int 1, .int 0, .int w, zu], [], (zsF 0 [] 0 []), 0, 0) = _
  refine zg_nx (y := (1, [.ref 0, .int 1, .int 0, .int w, zu], [.ref 0], (zsF 0 [] 0 []), 0, 0)) rfl ?_
  refine zg_nx (y := (2, [.ref 0, .int 1, .int 0, .int w, zu], [.int 1, .ref 0], (zsF 0 [] 0 []), 0, 0)) rfl ?_
  refine zg_nx (y := (3, [.ref 0, .int 1, .int 0, .int w, zu], [.int 0, .int 1, .ref 0], (zsF 0 [] 0 []), 0, 0)) rfl ?_
  refine zg_call (n := 14) (as := [.ref 0, .int 1, .int 0]) (pc := 6) (lv := [.ref 0, .int 1, .int 0, .int w, zu]) (stk := []) (st := (zsF 0 [] 0 [])) (c := 0) (s := 0) (v := (some (.int 1))) (st' := (zsF 0 [] 0 [])) rfl (zq_75) ?_
  show zgo _ _ _ (6, [.ref 0, .int 1, .int 0, .int w, zu], [.int 1], (zsF 0 [] 0 []), 0, 0) = _
  refine zg_nx (y := (12, [.ref 0, .int 1, .int 0, .int w, zu], [], (zsF 0 [] 0 []), 0, 0)) rfl ?_
  refine zg_nx (y := (13, [.ref 0, .int 1, .int 0, .int w, zu], [.ref 0], (zsF 0 [] 0 []), 0, 0)) rfl ?_
  refine zg_nx (y := (16, [.ref 0, .int 1, .int 0, .int w, zu], [.ref 1], (zsF 0 [] 0 []), 0, 0)) rfl ?_
  refine zg_nx (y := (17, [.ref 0, .int 1, .int 0, .int w, zu], [.int 1, .ref 1], (zsF 0 [] 0 []), 0, 0)) rfl ?_
  refine zg_nx (y := (18, [.ref 0, .int 1, .int 0, .int w, zu], [.ref 10], (zsF 0 [] 0 []), 0, 0)) rfl ?_
  refine zg_nx (y := (20, [.ref 0, .int 1, .int 0, .int w, .ref 10], [], (zsF 0 [] 0 []), 0, 0)) rfl ?_
  refine zg_nx (y := (21, [.ref 0, .int 1, .int 0, .int w, .ref 10], [.int w], (zsF 0 [] 0 []), 0, 0)) rfl ?_
  refine zg_sw (T := zswT w 96 [(0, 56), (1, 64), (2, 72), (3, 80), (4, 88)]) (pc := 96) (lv := [.ref 0, .int 1, .int 0, .int w, .ref 10]) (stk := []) (st := (zsF 0 [] 0 [])) (c := 0) (s := 0) rfl h0 ?_
  refine zg_nx (y := (98, [.ref 0, .int 1, .int 0, .int w, .ref 10], [.int (-2)], (zsF 0 [] 0 []), 0, 0)) rfl ?_
  exact zg_ret rfl

/-- DesignReaderModel.node -/
theorem zq_98 {w : Int32} (h0 : ¬ w = 0) (h1 : ¬ w = 1) (h2 : ¬ w = 2) (h3 : ¬ w = 3) (h4 : ¬ w = 4) : zrun 20000 8 28 [.ref 35, .int 1, .int 0, .int w] (zsF 0 [] 0 []) = some (some (.int (-2)), (zsF 0 [] 0 [])) := by
  refine zr_of (m := zm_R_node) rfl (Nat.le_of_ble_eq_true rfl) ?_
  show zgo _ _ _ (0, [.ref 35, .int 1, .int 0, .int w, zu], [], (zsF 0 [] 0 []), 0, 0) = _
  refine zg_nx (y := (1, [.ref 35, .int 1, .int 0, .int w, zu], [.ref 35], (zsF 0 [] 0 []), 0, 0)) rfl ?_
  refine zg_nx (y := (2, [.ref 35, .int 1, .int 0, .int w, zu], [.int 1, .ref 35], (zsF 0 [] 0 []), 0, 0)) rfl ?_
  refine zg_nx (y := (3, [.ref 35, .int 1, .int 0, .int w, zu], [.int 0, .int 1, .ref 35], (zsF 0 [] 0 []), 0, 0)) rfl ?_
  refine zg_call (n := 24) (as := [.ref 35, .int 1, .int 0]) (pc := 6) (lv := [.ref 35, .int 1, .int 0, .int w, zu]) (stk := []) (st := (zsF 0 [] 0 [])) (c := 0) (s := 0) (v := (some (.int 1))) (st' := (zsF 0 [] 0 [])) rfl (zq_78) ?_
  show zgo _ _ _ (6, [.ref 35, .int 1, .int 0, .int w, zu], [.int 1], (zsF 0 [] 0 []), 0, 0) = _
  refine zg_nx (y := (12, [.ref 35, .int 1, .int 0, .int w, zu], [], (zsF 0 [] 0 []), 0, 0)) rfl ?_
  refine zg_nx (y := (15, [.ref 35, .int 1, .int 0, .int w, zu], [.int 13000], (zsF 0 [] 0 []), 0, 0)) rfl ?_
  refine zg_nx (y := (16, [.ref 35, .int 1, .int 0, .int w, zu], [.int 1, .int 13000], (zsF 0 [] 0 []), 0, 0)) rfl ?_
  refine zg_nx (y := (17, [.ref 35, .int 1, .int 0, .int w, zu], [.int 13000], (zsF 0 [] 0 []), 0, 0)) rfl ?_
  refine zg_nx (y := (18, [.ref 35, .int 1, .int 0, .int w, zu], [.int 0, .int 13000], (zsF 0 [] 0 []), 0, 0)) rfl ?_
  refine zg_nx (y := (19, [.ref 35, .int 1, .int 0, .int w, zu], [.int 13000], (zsF 0 [] 0 []), 0, 0)) rfl ?_
  refine zg_nx (y := (21, [.ref 35, .int 1, .int 0, .int w, .int 13000], [], (zsF 0 [] 0 []), 0, 0)) rfl ?_
  refine zg_nx (y := (22, [.ref 35, .int 1, .int 0, .int w, .int 13000], [.int w], (zsF 0 [] 0 []), 0, 0)) rfl ?_
  refine zg_brT (P := ¬ w = 0) (b := (zn 25 [.ref 35, .int 1, .int 0, .int w, .int 13000] [] (zsF 0 [] 0 []) 0 0)) (pc := 35) (lv := [.ref 35, .int 1, .int 0, .int w, .int 13000]) (stk := []) (st := (zsF 0 [] 0 [])) (c := 0) (s := 0) rfl h0 ?_
  refine zg_nx (y := (36, [.ref 35, .int 1, .int 0, .int w, .int 13000], [.int w], (zsF 0 [] 0 []), 0, 0)) rfl ?_
  refine zg_nx (y := (37, [.ref 35, .int 1, .int 0, .int w, .int 13000], [.int 1, .int w], (zsF 0 [] 0 []), 0, 0)) rfl ?_
  refine zg_brT (P := ¬ w = 1) (b := (zn 40 [.ref 35, .int 1, .int 0, .int w, .int 13000] [] (zsF 0 [] 0 []) 0 0)) (pc := 50) (lv := [.ref 35, .int 1, .int 0, .int w, .int 13000]) (stk := []) (st := (zsF 0 [] 0 [])) (c := 0) (s := 0) rfl h1 ?_
  refine zg_nx (y := (51, [.ref 35, .int 1, .int 0, .int w, .int 13000], [.int w], (zsF 0 [] 0 []), 0, 0)) rfl ?_
  refine zg_nx (y := (52, [.ref 35, .int 1, .int 0, .int w, .int 13000], [.int 2, .int w], (zsF 0 [] 0 []), 0, 0)) rfl ?_
  refine zg_brT (P := ¬ w = 2) (b := (zn 55 [.ref 35, .int 1, .int 0, .int w, .int 13000] [] (zsF 0 [] 0 []) 0 0)) (pc := 65) (lv := [.ref 35, .int 1, .int 0, .int w, .int 13000]) (stk := []) (st := (zsF 0 [] 0 [])) (c := 0) (s := 0) rfl h2 ?_
  refine zg_nx (y := (66, [.ref 35, .int 1, .int 0, .int w, .int 13000], [.int w], (zsF 0 [] 0 []), 0, 0)) rfl ?_
  refine zg_nx (y := (67, [.ref 35, .int 1, .int 0, .int w, .int 13000], [.int 3, .int w], (zsF 0 [] 0 []), 0, 0)) rfl ?_
  refine zg_brT (P := ¬ w = 3) (b := (zn 70 [.ref 35, .int 1, .int 0, .int w, .int 13000] [] (zsF 0 [] 0 []) 0 0)) (pc := 80) (lv := [.ref 35, .int 1, .int 0, .int w, .int 13000]) (stk := []) (st := (zsF 0 [] 0 [])) (c := 0) (s := 0) rfl h3 ?_
  refine zg_nx (y := (81, [.ref 35, .int 1, .int 0, .int w, .int 13000], [.int w], (zsF 0 [] 0 []), 0, 0)) rfl ?_
  refine zg_nx (y := (82, [.ref 35, .int 1, .int 0, .int w, .int 13000], [.int 4, .int w], (zsF 0 [] 0 []), 0, 0)) rfl ?_
  refine zg_brT (P := ¬ w = 4) (b := (zn 85 [.ref 35, .int 1, .int 0, .int w, .int 13000] [] (zsF 0 [] 0 []) 0 0)) (pc := 94) (lv := [.ref 35, .int 1, .int 0, .int w, .int 13000]) (stk := []) (st := (zsF 0 [] 0 [])) (c := 0) (s := 0) rfl h4 ?_
  refine zg_nx (y := (96, [.ref 35, .int 1, .int 0, .int w, .int 13000], [.int (-2)], (zsF 0 [] 0 []), 0, 0)) rfl ?_
  exact zg_ret rfl

/-- DesignReader.node -/
theorem zq_99 {k w : Int32} (h0 : k < 0) : zrun 20000 8 4 [.ref 0, .int 1, .int k, .int w] (zsF 0 [] 0 []) = some (some (.int (-2)), (zsF 0 [] 0 [])) := by
  refine zr_of (m := zm_D_node) rfl (Nat.le_of_ble_eq_true rfl) ?_
  show zgo _ _ _ (0, [.ref 0, .int 1, .int k, .int w, zu], [], (zsF 0 [] 0 []), 0, 0) = _
  refine zg_nx (y := (1, [.ref 0, .int 1, .int k, .int w, zu], [.ref 0], (zsF 0 [] 0 []), 0, 0)) rfl ?_
  refine zg_nx (y := (2, [.ref 0, .int 1, .int k, .int w, zu], [.int 1, .ref 0], (zsF 0 [] 0 []), 0, 0)) rfl ?_
  refine zg_nx (y := (3, [.ref 0, .int 1, .int k, .int w, zu], [.int k, .int 1, .ref 0], (zsF 0 [] 0 []), 0, 0)) rfl ?_
  refine zg_call (n := 14) (as := [.ref 0, .int 1, .int k]) (pc := 6) (lv := [.ref 0, .int 1, .int k, .int w, zu]) (stk := []) (st := (zsF 0 [] 0 [])) (c := 0) (s := 0) (v := (some (.int 0))) (st' := (zsF 0 [] 0 [])) rfl (zq_36 h0) ?_
  show zgo _ _ _ (6, [.ref 0, .int 1, .int k, .int w, zu], [.int 0], (zsF 0 [] 0 []), 0, 0) = _
  refine zg_nx (y := (9, [.ref 0, .int 1, .int k, .int w, zu], [], (zsF 0 [] 0 []), 0, 0)) rfl ?_
  refine zg_nx (y := (11, [.ref 0, .int 1, .int k, .int w, zu], [.int (-2)], (zsF 0 [] 0 []), 0, 0)) rfl ?_
  exact zg_ret rfl

/-- DesignReaderModel.node -/
theorem zq_100 {k w : Int32} (h0 : k < 0) : zrun 20000 8 28 [.ref 35, .int 1, .int k, .int w] (zsF 0 [] 0 []) = some (some (.int (-2)), (zsF 0 [] 0 [])) := by
  refine zr_of (m := zm_R_node) rfl (Nat.le_of_ble_eq_true rfl) ?_
  show zgo _ _ _ (0, [.ref 35, .int 1, .int k, .int w, zu], [], (zsF 0 [] 0 []), 0, 0) = _
  refine zg_nx (y := (1, [.ref 35, .int 1, .int k, .int w, zu], [.ref 35], (zsF 0 [] 0 []), 0, 0)) rfl ?_
  refine zg_nx (y := (2, [.ref 35, .int 1, .int k, .int w, zu], [.int 1, .ref 35], (zsF 0 [] 0 []), 0, 0)) rfl ?_
  refine zg_nx (y := (3, [.ref 35, .int 1, .int k, .int w, zu], [.int k, .int 1, .ref 35], (zsF 0 [] 0 []), 0, 0)) rfl ?_
  refine zg_call (n := 24) (as := [.ref 35, .int 1, .int k]) (pc := 6) (lv := [.ref 35, .int 1, .int k, .int w, zu]) (stk := []) (st := (zsF 0 [] 0 [])) (c := 0) (s := 0) (v := (some (.int 0))) (st' := (zsF 0 [] 0 [])) rfl (zq_38 h0) ?_
  show zgo _ _ _ (6, [.ref 35, .int 1, .int k, .int w, zu], [.int 0], (zsF 0 [] 0 []), 0, 0) = _
  refine zg_nx (y := (9, [.ref 35, .int 1, .int k, .int w, zu], [], (zsF 0 [] 0 []), 0, 0)) rfl ?_
  refine zg_nx (y := (11, [.ref 35, .int 1, .int k, .int w, zu], [.int (-2)], (zsF 0 [] 0 []), 0, 0)) rfl ?_
  exact zg_ret rfl

/-- DesignReader.node -/
theorem zq_101 {k w : Int32} (h0 : ¬ (k < 0)) (h1 : 1 ≤ k) : zrun 20000 8 4 [.ref 0, .int 1, .int k, .int w] (zsF 0 [] 0 []) = some (some (.int (-2)), (zsF 0 [] 0 [])) := by
  refine zr_of (m := zm_D_node) rfl (Nat.le_of_ble_eq_true rfl) ?_
  show zgo _ _ _ (0, [.ref 0, .int 1, .int k, .int w, zu], [], (zsF 0 [] 0 []), 0, 0) = _
  refine zg_nx (y := (1, [.ref 0, .int 1, .int k, .int w, zu], [.ref 0], (zsF 0 [] 0 []), 0, 0)) rfl ?_
  refine zg_nx (y := (2, [.ref 0, .int 1, .int k, .int w, zu], [.int 1, .ref 0], (zsF 0 [] 0 []), 0, 0)) rfl ?_
  refine zg_nx (y := (3, [.ref 0, .int 1, .int k, .int w, zu], [.int k, .int 1, .ref 0], (zsF 0 [] 0 []), 0, 0)) rfl ?_
  refine zg_call (n := 14) (as := [.ref 0, .int 1, .int k]) (pc := 6) (lv := [.ref 0, .int 1, .int k, .int w, zu]) (stk := []) (st := (zsF 0 [] 0 [])) (c := 0) (s := 0) (v := (some (.int 0))) (st' := (zsF 0 [] 0 [])) rfl (zq_40 h0 h1) ?_
  show zgo _ _ _ (6, [.ref 0, .int 1, .int k, .int w, zu], [.int 0], (zsF 0 [] 0 []), 0, 0) = _
  refine zg_nx (y := (9, [.ref 0, .int 1, .int k, .int w, zu], [], (zsF 0 [] 0 []), 0, 0)) rfl ?_
  refine zg_nx (y := (11, [.ref 0, .int 1, .int k, .int w, zu], [.int (-2)], (zsF 0 [] 0 []), 0, 0)) rfl ?_
  exact zg_ret rfl

/-- DesignReaderModel.node -/
theorem zq_102 {k w : Int32} (h0 : ¬ (k < 0)) (h1 : 1 ≤ k) : zrun 20000 8 28 [.ref 35, .int 1, .int k, .int w] (zsF 0 [] 0 []) = some (some (.int (-2)), (zsF 0 [] 0 [])) := by
  refine zr_of (m := zm_R_node) rfl (Nat.le_of_ble_eq_true rfl) ?_
  show zgo _ _ _ (0, [.ref 35, .int 1, .int k, .int w, zu], [], (zsF 0 [] 0 []), 0, 0) = _
  refine zg_nx (y := (1, [.ref 35, .int 1, .int k, .int w, zu], [.ref 35], (zsF 0 [] 0 []), 0, 0)) rfl ?_
  refine zg_nx (y := (2, [.ref 35, .int 1, .int k, .int w, zu], [.int 1, .ref 35], (zsF 0 [] 0 []), 0, 0)) rfl ?_
  refine zg_nx (y := (3, [.ref 35, .int 1, .int k, .int w, zu], [.int k, .int 1, .ref 35], (zsF 0 [] 0 []), 0, 0)) rfl ?_
  refine zg_call (n := 24) (as := [.ref 35, .int 1, .int k]) (pc := 6) (lv := [.ref 35, .int 1, .int k, .int w, zu]) (stk := []) (st := (zsF 0 [] 0 [])) (c := 0) (s := 0) (v := (some (.int 0))) (st' := (zsF 0 [] 0 [])) rfl (zq_42 h0 h1) ?_
  show zgo _ _ _ (6, [.ref 35, .int 1, .int k, .int w, zu], [.int 0], (zsF 0 [] 0 []), 0, 0) = _
  refine zg_nx (y := (9, [.ref 35, .int 1, .int k, .int w, zu], [], (zsF 0 [] 0 []), 0, 0)) rfl ?_
  refine zg_nx (y := (11, [.ref 35, .int 1, .int k, .int w, zu], [.int (-2)], (zsF 0 [] 0 []), 0, 0)) rfl ?_
  exact zg_ret rfl

/-- DesignReader.node -/
theorem zq_103 {t k w : Int32} (h0 : ¬ (t < 0)) (h1 : 2 ≤ t) : zrun 20000 8 4 [.ref 0, .int t, .int k, .int w] (zsF 0 [] 0 []) = some (some (.int (-2)), (zsF 0 [] 0 [])) := by
  refine zr_of (m := zm_D_node) rfl (Nat.le_of_ble_eq_true rfl) ?_
  show zgo _ _ _ (0, [.ref 0, .int t, .int k, .int w, zu], [], (zsF 0 [] 0 []), 0, 0) = _
  refine zg_nx (y := (1, [.ref 0, .int t, .int k, .int w, zu], [.ref 0], (zsF 0 [] 0 []), 0, 0)) rfl ?_
  refine zg_nx (y := (2, [.ref 0, .int t, .int k, .int w, zu], [.int t, .ref 0], (zsF 0 [] 0 []), 0, 0)) rfl ?_
  refine zg_nx (y := (3, [.ref 0, .int t, .int k, .int w, zu], [.int k, .int t, .ref 0], (zsF 0 [] 0 []), 0, 0)) rfl ?_
  refine zg_call (n := 14) (as := [.ref 0, .int t, .int k]) (pc := 6) (lv := [.ref 0, .int t, .int k, .int w, zu]) (stk := []) (st := (zsF 0 [] 0 [])) (c := 0) (s := 0) (v := (some (.int 0))) (st' := (zsF 0 [] 0 [])) rfl (zq_45 h0 h1) ?_
  show zgo _ _ _ (6, [.ref 0, .int t, .int k, .int w, zu], [.int 0], (zsF 0 [] 0 []), 0, 0) = _
  refine zg_nx (y := (9, [.ref 0, .int t, .int k, .int w, zu], [], (zsF 0 [] 0 []), 0, 0)) rfl ?_
  refine zg_nx (y := (11, [.ref 0, .int t, .int k, .int w, zu], [.int (-2)], (zsF 0 [] 0 []), 0, 0)) rfl ?_
  exact zg_ret rfl

/-- DesignReaderModel.node -/
theorem zq_104 {t k w : Int32} (h0 : ¬ (t < 0)) (h1 : 2 ≤ t) : zrun 20000 8 28 [.ref 35, .int t, .int k, .int w] (zsF 0 [] 0 []) = some (some (.int (-2)), (zsF 0 [] 0 [])) := by
  refine zr_of (m := zm_R_node) rfl (Nat.le_of_ble_eq_true rfl) ?_
  show zgo _ _ _ (0, [.ref 35, .int t, .int k, .int w, zu], [], (zsF 0 [] 0 []), 0, 0) = _
  refine zg_nx (y := (1, [.ref 35, .int t, .int k, .int w, zu], [.ref 35], (zsF 0 [] 0 []), 0, 0)) rfl ?_
  refine zg_nx (y := (2, [.ref 35, .int t, .int k, .int w, zu], [.int t, .ref 35], (zsF 0 [] 0 []), 0, 0)) rfl ?_
  refine zg_nx (y := (3, [.ref 35, .int t, .int k, .int w, zu], [.int k, .int t, .ref 35], (zsF 0 [] 0 []), 0, 0)) rfl ?_
  refine zg_call (n := 24) (as := [.ref 35, .int t, .int k]) (pc := 6) (lv := [.ref 35, .int t, .int k, .int w, zu]) (stk := []) (st := (zsF 0 [] 0 [])) (c := 0) (s := 0) (v := (some (.int 0))) (st' := (zsF 0 [] 0 [])) rfl (zq_47 h0 h1) ?_
  show zgo _ _ _ (6, [.ref 35, .int t, .int k, .int w, zu], [.int 0], (zsF 0 [] 0 []), 0, 0) = _
  refine zg_nx (y := (9, [.ref 35, .int t, .int k, .int w, zu], [], (zsF 0 [] 0 []), 0, 0)) rfl ?_
  refine zg_nx (y := (11, [.ref 35, .int t, .int k, .int w, zu], [.int (-2)], (zsF 0 [] 0 []), 0, 0)) rfl ?_
  exact zg_ret rfl

/-- DesignReader$NameTable.byteOf -/
theorem zq_105 {n i : Int32} (h0 : n < 0) : zrun 20000 7 40 [.ref 18, .int n, .int i] (zsF 0 [] 0 []) = some (some (.int (-1)), (zsF 0 [] 0 [])) := by
  refine zr_of (m := zm_N_byteOf) rfl (Nat.le_of_ble_eq_true rfl) ?_
  show zgo _ _ _ (0, [.ref 18, .int n, .int i], [], (zsF 0 [] 0 []), 0, 0) = _
  refine zg_nx (y := (1, [.ref 18, .int n, .int i], [.int n], (zsF 0 [] 0 []), 0, 0)) rfl ?_
  refine zg_brT (P := n < 0) (b := (zn 4 [.ref 18, .int n, .int i] [] (zsF 0 [] 0 []) 0 0)) (pc := 35) (lv := [.ref 18, .int n, .int i]) (stk := []) (st := (zsF 0 [] 0 [])) (c := 0) (s := 0) rfl h0 ?_
  refine zg_nx (y := (36, [.ref 18, .int n, .int i], [.int (-1)], (zsF 0 [] 0 []), 0, 0)) rfl ?_
  exact zg_ret rfl

/-- DesignReader.spelt -/
theorem zq_106 {n i : Int32} (h0 : n < 0) : zrun 20000 8 8 [.ref 0, .int n, .int i] (zsF 0 [] 0 []) = some (some (.int (-1)), (zsF 0 [] 0 [])) := by
  refine zr_of (m := zm_D_spelt) rfl (Nat.le_of_ble_eq_true rfl) ?_
  show zgo _ _ _ (0, [.ref 0, .int n, .int i], [], (zsF 0 [] 0 []), 0, 0) = _
  refine zg_nx (y := (1, [.ref 0, .int n, .int i], [.ref 0], (zsF 0 [] 0 []), 0, 0)) rfl ?_
  refine zg_nx (y := (4, [.ref 0, .int n, .int i], [.ref 18], (zsF 0 [] 0 []), 0, 0)) rfl ?_
  refine zg_nx (y := (5, [.ref 0, .int n, .int i], [.int n, .ref 18], (zsF 0 [] 0 []), 0, 0)) rfl ?_
  refine zg_nx (y := (6, [.ref 0, .int n, .int i], [.int i, .int n, .ref 18], (zsF 0 [] 0 []), 0, 0)) rfl ?_
  refine zg_call (n := 40) (as := [.ref 18, .int n, .int i]) (pc := 9) (lv := [.ref 0, .int n, .int i]) (stk := []) (st := (zsF 0 [] 0 [])) (c := 0) (s := 0) (v := (some (.int (-1)))) (st' := (zsF 0 [] 0 [])) rfl (zq_105 h0) ?_
  show zgo _ _ _ (9, [.ref 0, .int n, .int i], [.int (-1)], (zsF 0 [] 0 []), 0, 0) = _
  exact zg_ret rfl

/-- DesignReaderModel.spelt -/
theorem zq_107 {n i : Int32} (h0 : n < 0) : zrun 20000 8 31 [.ref 35, .int n, .int i] (zsF 0 [] 0 []) = some (some (.int (-1)), (zsF 0 [] 0 [])) := by
  refine zr_of (m := zm_R_spelt) rfl (Nat.le_of_ble_eq_true rfl) ?_
  show zgo _ _ _ (0, [.ref 35, .int n, .int i], [], (zsF 0 [] 0 []), 0, 0) = _
  refine zg_nx (y := (1, [.ref 35, .int n, .int i], [.int n], (zsF 0 [] 0 []), 0, 0)) rfl ?_
  refine zg_brT (P := n < 0) (b := (zn 4 [.ref 35, .int n, .int i] [] (zsF 0 [] 0 []) 0 0)) (pc := 35) (lv := [.ref 35, .int n, .int i]) (stk := []) (st := (zsF 0 [] 0 [])) (c := 0) (s := 0) rfl h0 ?_
  refine zg_nx (y := (36, [.ref 35, .int n, .int i], [.int (-1)], (zsF 0 [] 0 []), 0, 0)) rfl ?_
  refine zg_nx (y := (52, [.ref 35, .int n, .int i], [.int (-1)], (zsF 0 [] 0 []), 0, 0)) rfl ?_
  exact zg_ret rfl

/-- DesignReader$NameTable.byteOf -/
theorem zq_108 {n i : Int32} (h0 : ¬ (n < 0)) (h1 : 0 ≤ n) : zrun 20000 7 40 [.ref 18, .int n, .int i] (zsF 0 [] 0 []) = some (some (.int (-1)), (zsF 0 [] 0 [])) := by
  refine zr_of (m := zm_N_byteOf) rfl (Nat.le_of_ble_eq_true rfl) ?_
  show zgo _ _ _ (0, [.ref 18, .int n, .int i], [], (zsF 0 [] 0 []), 0, 0) = _
  refine zg_nx (y := (1, [.ref 18, .int n, .int i], [.int n], (zsF 0 [] 0 []), 0, 0)) rfl ?_
  refine zg_brF (P := n < 0) (a := (zn 35 [.ref 18, .int n, .int i] [] (zsF 0 [] 0 []) 0 0)) (pc := 4) (lv := [.ref 18, .int n, .int i]) (stk := []) (st := (zsF 0 [] 0 [])) (c := 0) (s := 0) rfl h0 ?_
  refine zg_nx (y := (5, [.ref 18, .int n, .int i], [.int n], (zsF 0 [] 0 []), 0, 0)) rfl ?_
  refine zg_nx (y := (6, [.ref 18, .int n, .int i], [.ref 18, .int n], (zsF 0 [] 0 []), 0, 0)) rfl ?_
  refine zg_nx (y := (9, [.ref 18, .int n, .int i], [.int 0, .int n], (zsF 0 [] 0 []), 0, 0)) rfl ?_
  refine zg_brT (P := 0 ≤ n) (b := (zn 12 [.ref 18, .int n, .int i] [] (zsF 0 [] 0 []) 0 0)) (pc := 35) (lv := [.ref 18, .int n, .int i]) (stk := []) (st := (zsF 0 [] 0 [])) (c := 0) (s := 0) rfl h1 ?_
  refine zg_nx (y := (36, [.ref 18, .int n, .int i], [.int (-1)], (zsF 0 [] 0 []), 0, 0)) rfl ?_
  exact zg_ret rfl

/-- DesignReader.spelt -/
theorem zq_109 {n i : Int32} (h0 : ¬ (n < 0)) (h1 : 0 ≤ n) : zrun 20000 8 8 [.ref 0, .int n, .int i] (zsF 0 [] 0 []) = some (some (.int (-1)), (zsF 0 [] 0 [])) := by
  refine zr_of (m := zm_D_spelt) rfl (Nat.le_of_ble_eq_true rfl) ?_
  show zgo _ _ _ (0, [.ref 0, .int n, .int i], [], (zsF 0 [] 0 []), 0, 0) = _
  refine zg_nx (y := (1, [.ref 0, .int n, .int i], [.ref 0], (zsF 0 [] 0 []), 0, 0)) rfl ?_
  refine zg_nx (y := (4, [.ref 0, .int n, .int i], [.ref 18], (zsF 0 [] 0 []), 0, 0)) rfl ?_
  refine zg_nx (y := (5, [.ref 0, .int n, .int i], [.int n, .ref 18], (zsF 0 [] 0 []), 0, 0)) rfl ?_
  refine zg_nx (y := (6, [.ref 0, .int n, .int i], [.int i, .int n, .ref 18], (zsF 0 [] 0 []), 0, 0)) rfl ?_
  refine zg_call (n := 40) (as := [.ref 18, .int n, .int i]) (pc := 9) (lv := [.ref 0, .int n, .int i]) (stk := []) (st := (zsF 0 [] 0 [])) (c := 0) (s := 0) (v := (some (.int (-1)))) (st' := (zsF 0 [] 0 [])) rfl (zq_108 h0 h1) ?_
  show zgo _ _ _ (9, [.ref 0, .int n, .int i], [.int (-1)], (zsF 0 [] 0 []), 0, 0) = _
  exact zg_ret rfl

/-- DesignReaderModel.spelt -/
theorem zq_110 {n i : Int32} (h0 : ¬ (n < 0)) (h1 : 0 ≤ n) : zrun 20000 8 31 [.ref 35, .int n, .int i] (zsF 0 [] 0 []) = some (some (.int (-1)), (zsF 0 [] 0 [])) := by
  refine zr_of (m := zm_R_spelt) rfl (Nat.le_of_ble_eq_true rfl) ?_
  show zgo _ _ _ (0, [.ref 35, .int n, .int i], [], (zsF 0 [] 0 []), 0, 0) = _
  refine zg_nx (y := (1, [.ref 35, .int n, .int i], [.int n], (zsF 0 [] 0 []), 0, 0)) rfl ?_
  refine zg_brF (P := n < 0) (a := (zn 35 [.ref 35, .int n, .int i] [] (zsF 0 [] 0 []) 0 0)) (pc := 4) (lv := [.ref 35, .int n, .int i]) (stk := []) (st := (zsF 0 [] 0 [])) (c := 0) (s := 0) rfl h0 ?_
  refine zg_nx (y := (5, [.ref 35, .int n, .int i], [.int n], (zsF 0 [] 0 []), 0, 0)) rfl ?_
  refine zg_nx (y := (6, [.ref 35, .int n, .int i], [.ref 35, .int n], (zsF 0 [] 0 []), 0, 0)) rfl ?_
  refine zg_nx (y := (9, [.ref 35, .int n, .int i], [.int 0, .int n], (zsF 0 [] 0 []), 0, 0)) rfl ?_
  refine zg_brT (P := 0 ≤ n) (b := (zn 12 [.ref 35, .int n, .int i] [] (zsF 0 [] 0 []) 0 0)) (pc := 35) (lv := [.ref 35, .int n, .int i]) (stk := []) (st := (zsF 0 [] 0 [])) (c := 0) (s := 0) rfl h1 ?_
  refine zg_nx (y := (36, [.ref 35, .int n, .int i], [.int (-1)], (zsF 0 [] 0 []), 0, 0)) rfl ?_
  refine zg_nx (y := (52, [.ref 35, .int n, .int i], [.int (-1)], (zsF 0 [] 0 []), 0, 0)) rfl ?_
  exact zg_ret rfl

/-- DesignReader.written -/
theorem zq_111 {i : Int32} (h0 : i < 0) : zrun 20000 8 10 [.ref 0, .int i] (zsF 0 [] 0 []) = some (some (.int (-1)), (zsF 0 [] 0 [])) := by
  refine zr_of (m := zm_D_written) rfl (Nat.le_of_ble_eq_true rfl) ?_
  show zgo _ _ _ (0, [.ref 0, .int i], [], (zsF 0 [] 0 []), 0, 0) = _
  refine zg_nx (y := (1, [.ref 0, .int i], [.int i], (zsF 0 [] 0 []), 0, 0)) rfl ?_
  refine zg_brT (P := i < 0) (b := (zn 4 [.ref 0, .int i] [] (zsF 0 [] 0 []) 0 0)) (pc := 27) (lv := [.ref 0, .int i]) (stk := []) (st := (zsF 0 [] 0 [])) (c := 0) (s := 0) rfl h0 ?_
  refine zg_nx (y := (28, [.ref 0, .int i], [.int (-1)], (zsF 0 [] 0 []), 0, 0)) rfl ?_
  exact zg_ret rfl

/-- DesignReaderModel.written -/
theorem zq_112 {i : Int32} (h0 : i < 0) : zrun 20000 8 37 [.ref 35, .int i] (zsF 0 [] 0 []) = some (some (.int (-1)), (zsF 0 [] 0 [])) := by
  refine zr_of (m := zm_R_written) rfl (Nat.le_of_ble_eq_true rfl) ?_
  show zgo _ _ _ (0, [.ref 35, .int i], [], (zsF 0 [] 0 []), 0, 0) = _
  refine zg_nx (y := (1, [.ref 35, .int i], [.int i], (zsF 0 [] 0 []), 0, 0)) rfl ?_
  refine zg_brT (P := i < 0) (b := (zn 4 [.ref 35, .int i] [] (zsF 0 [] 0 []) 0 0)) (pc := 12) (lv := [.ref 35, .int i]) (stk := []) (st := (zsF 0 [] 0 [])) (c := 0) (s := 0) rfl h0 ?_
  refine zg_nx (y := (13, [.ref 35, .int i], [.int (-1)], (zsF 0 [] 0 []), 0, 0)) rfl ?_
  refine zg_nx (y := (22, [.ref 35, .int i], [.int (-1)], (zsF 0 [] 0 []), 0, 0)) rfl ?_
  exact zg_ret rfl

/-- DesignReader.written -/
theorem zq_113 {i : Int32} (h0 : ¬ (i < 0)) (h1 : 0 ≤ i) : zrun 20000 8 10 [.ref 0, .int i] (zsF 0 [] 0 []) = some (some (.int (-1)), (zsF 0 [] 0 [])) := by
  refine zr_of (m := zm_D_written) rfl (Nat.le_of_ble_eq_true rfl) ?_
  show zgo _ _ _ (0, [.ref 0, .int i], [], (zsF 0 [] 0 []), 0, 0) = _
  refine zg_nx (y := (1, [.ref 0, .int i], [.int i], (zsF 0 [] 0 []), 0, 0)) rfl ?_
  refine zg_brF (P := i < 0) (a := (zn 27 [.ref 0, .int i] [] (zsF 0 [] 0 []) 0 0)) (pc := 4) (lv := [.ref 0, .int i]) (stk := []) (st := (zsF 0 [] 0 [])) (c := 0) (s := 0) rfl h0 ?_
  refine zg_nx (y := (5, [.ref 0, .int i], [.int i], (zsF 0 [] 0 []), 0, 0)) rfl ?_
  refine zg_nx (y := (6, [.ref 0, .int i], [.ref 0, .int i], (zsF 0 [] 0 []), 0, 0)) rfl ?_
  refine zg_nx (y := (9, [.ref 0, .int i], [.ref 32, .int i], (zsF 0 [] 0 []), 0, 0)) rfl ?_
  refine zg_nx (y := (12, [.ref 0, .int i], [.int 0, .int i], (zsF 0 [] 0 []), 0, 0)) rfl ?_
  refine zg_brT (P := 0 ≤ i) (b := (zn 15 [.ref 0, .int i] [] (zsF 0 [] 0 []) 0 0)) (pc := 27) (lv := [.ref 0, .int i]) (stk := []) (st := (zsF 0 [] 0 [])) (c := 0) (s := 0) rfl h1 ?_
  refine zg_nx (y := (28, [.ref 0, .int i], [.int (-1)], (zsF 0 [] 0 []), 0, 0)) rfl ?_
  exact zg_ret rfl

/-- DesignReaderModel.written -/
theorem zq_114 {i : Int32} (h0 : ¬ (i < 0)) : zrun 20000 8 37 [.ref 35, .int i] (zsF 0 [] 0 []) = some (some (.int (-1)), (zsF 0 [] 0 [])) := by
  refine zr_of (m := zm_R_written) rfl (Nat.le_of_ble_eq_true rfl) ?_
  show zgo _ _ _ (0, [.ref 35, .int i], [], (zsF 0 [] 0 []), 0, 0) = _
  refine zg_nx (y := (1, [.ref 35, .int i], [.int i], (zsF 0 [] 0 []), 0, 0)) rfl ?_
  refine zg_brF (P := i < 0) (a := (zn 12 [.ref 35, .int i] [] (zsF 0 [] 0 []) 0 0)) (pc := 4) (lv := [.ref 35, .int i]) (stk := []) (st := (zsF 0 [] 0 [])) (c := 0) (s := 0) rfl h0 ?_
  refine zg_nx (y := (5, [.ref 35, .int i], [.int i], (zsF 0 [] 0 []), 0, 0)) rfl ?_
  refine zg_nx (y := (6, [.ref 35, .int i], [.ref 35, .int i], (zsF 0 [] 0 []), 0, 0)) rfl ?_
  refine zg_nx (y := (9, [.ref 35, .int i], [.int 0, .int i], (zsF 0 [] 0 []), 0, 0)) rfl ?_
  refine zg_brF (P := i < 0) (a := (zn 16 [.ref 35, .int i] [] (zsF 0 [] 0 []) 0 0)) (pc := 12) (lv := [.ref 35, .int i]) (stk := []) (st := (zsF 0 [] 0 [])) (c := 0) (s := 0) rfl h0 ?_
  refine zg_nx (y := (13, [.ref 35, .int i], [.int (-1)], (zsF 0 [] 0 []), 0, 0)) rfl ?_
  refine zg_nx (y := (22, [.ref 35, .int i], [.int (-1)], (zsF 0 [] 0 []), 0, 0)) rfl ?_
  exact zg_ret rfl
