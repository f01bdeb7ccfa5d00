/-! THE LAW: its twelve cases -/
section ZLAW
variable {p : Program} {l : Launch} {e : Env} {s : State} {m : MethodId} {below : List Frame} {meth : Method} {cd : Code} {D : va_G} {cA : Nat → ClassId} {ad0 : Nat → Nat} {b : Nat} {xs : Nat → Int32}
set_option maxRecDepth 100000 in
theorem zL_feed (G : zLG p s m meth cd D cA ad0 b 6 xs) (hok : ∀ M ∈ zMs, zokM M = true) : zLK p l e s m below meth cd D cA ad0 b (96, [.ref 700, .ref 0, .ref 35, .int 0], [], (zsF 0 [] 0 []), 58, 599532) := by
  obtain ⟨v, st1, st2, h1, h2, h3⟩ := zP_feed (xs 1) (xs 2) (xs 3) (xs 4) (xs 5)
  refine zL_n G (y := (97, [.ref 700, .ref 0, .ref 35, .int 0], [.ref 0], (zsF 0 [] 0 []), 58, 599532)) rfl ?_
  refine zL_n G (y := (98, [.ref 700, .ref 0, .ref 35, .int 0], [.ref 700, .ref 0], (zsF 0 [] 0 []), 58, 599532)) rfl ?_
  refine zL_n G (y := (99, [.ref 700, .ref 0, .ref 35, .int 0], [.int 0, .ref 700, .ref 0], (zsF 0 [] 0 []), 58, 599532)) rfl ?_
  refine zL_n G (y := (100, [.ref 700, .ref 0, .ref 35, .int 0], [.int 1, .int 0, .ref 700, .ref 0], (zsF 0 [] 0 []), 58, 599532)) rfl ?_
  refine zL_n G (y := (101, [.ref 700, .ref 0, .ref 35, .int 0], [.int 1, .ref 700, .ref 0], (zsF 0 [] 0 []), 58, 599532)) rfl ?_
  refine zL_s G (j := 1) (y := (102, [.ref 700, .ref 0, .ref 35, .int 0], [.int (xs 1), .ref 0], (zsF 0 [] 0 []), 58, 599532)) (zL_dec rfl) rfl (zin_of rfl) rfl ?_
  refine zL_n G (y := (103, [.ref 700, .ref 0, .ref 35, .int 0], [.ref 700, .int (xs 1), .ref 0], (zsF 0 [] 0 []), 58, 599532)) rfl ?_
  refine zL_n G (y := (104, [.ref 700, .ref 0, .ref 35, .int 0], [.int 0, .ref 700, .int (xs 1), .ref 0], (zsF 0 [] 0 []), 58, 599532)) rfl ?_
  refine zL_n G (y := (105, [.ref 700, .ref 0, .ref 35, .int 0], [.int 2, .int 0, .ref 700, .int (xs 1), .ref 0], (zsF 0 [] 0 []), 58, 599532)) rfl ?_
  refine zL_n G (y := (106, [.ref 700, .ref 0, .ref 35, .int 0], [.int 2, .ref 700, .int (xs 1), .ref 0], (zsF 0 [] 0 []), 58, 599532)) rfl ?_
  refine zL_s G (j := 2) (y := (107, [.ref 700, .ref 0, .ref 35, .int 0], [.int (xs 2), .int (xs 1), .ref 0], (zsF 0 [] 0 []), 58, 599532)) (zL_dec rfl) rfl (zin_of rfl) rfl ?_
  refine zL_n G (y := (108, [.ref 700, .ref 0, .ref 35, .int 0], [.ref 700, .int (xs 2), .int (xs 1), .ref 0], (zsF 0 [] 0 []), 58, 599532)) rfl ?_
  refine zL_n G (y := (109, [.ref 700, .ref 0, .ref 35, .int 0], [.int 0, .ref 700, .int (xs 2), .int (xs 1), .ref 0], (zsF 0 [] 0 []), 58, 599532)) rfl ?_
  refine zL_n G (y := (110, [.ref 700, .ref 0, .ref 35, .int 0], [.int 3, .int 0, .ref 700, .int (xs 2), .int (xs 1), .ref 0], (zsF 0 [] 0 []), 58, 599532)) rfl ?_
  refine zL_n G (y := (111, [.ref 700, .ref 0, .ref 35, .int 0], [.int 3, .ref 700, .int (xs 2), .int (xs 1), .ref 0], (zsF 0 [] 0 []), 58, 599532)) rfl ?_
  refine zL_s G (j := 3) (y := (112, [.ref 700, .ref 0, .ref 35, .int 0], [.int (xs 3), .int (xs 2), .int (xs 1), .ref 0], (zsF 0 [] 0 []), 58, 599532)) (zL_dec rfl) rfl (zin_of rfl) rfl ?_
  refine zL_n G (y := (113, [.ref 700, .ref 0, .ref 35, .int 0], [.ref 700, .int (xs 3), .int (xs 2), .int (xs 1), .ref 0], (zsF 0 [] 0 []), 58, 599532)) rfl ?_
  refine zL_n G (y := (114, [.ref 700, .ref 0, .ref 35, .int 0], [.int 0, .ref 700, .int (xs 3), .int (xs 2), .int (xs 1), .ref 0], (zsF 0 [] 0 []), 58, 599532)) rfl ?_
  refine zL_n G (y := (115, [.ref 700, .ref 0, .ref 35, .int 0], [.int 4, .int 0, .ref 700, .int (xs 3), .int (xs 2), .int (xs 1), .ref 0], (zsF 0 [] 0 []), 58, 599532)) rfl ?_
  refine zL_n G (y := (116, [.ref 700, .ref 0, .ref 35, .int 0], [.int 4, .ref 700, .int (xs 3), .int (xs 2), .int (xs 1), .ref 0], (zsF 0 [] 0 []), 58, 599532)) rfl ?_
  refine zL_s G (j := 4) (y := (117, [.ref 700, .ref 0, .ref 35, .int 0], [.int (xs 4), .int (xs 3), .int (xs 2), .int (xs 1), .ref 0], (zsF 0 [] 0 []), 58, 599532)) (zL_dec rfl) rfl (zin_of rfl) rfl ?_
  refine zL_n G (y := (118, [.ref 700, .ref 0, .ref 35, .int 0], [.ref 700, .int (xs 4), .int (xs 3), .int (xs 2), .int (xs 1), .ref 0], (zsF 0 [] 0 []), 58, 599532)) rfl ?_
  refine zL_n G (y := (119, [.ref 700, .ref 0, .ref 35, .int 0], [.int 0, .ref 700, .int (xs 4), .int (xs 3), .int (xs 2), .int (xs 1), .ref 0], (zsF 0 [] 0 []), 58, 599532)) rfl ?_
  refine zL_n G (y := (120, [.ref 700, .ref 0, .ref 35, .int 0], [.int 5, .int 0, .ref 700, .int (xs 4), .int (xs 3), .int (xs 2), .int (xs 1), .ref 0], (zsF 0 [] 0 []), 58, 599532)) rfl ?_
  refine zL_n G (y := (121, [.ref 700, .ref 0, .ref 35, .int 0], [.int 5, .ref 700, .int (xs 4), .int (xs 3), .int (xs 2), .int (xs 1), .ref 0], (zsF 0 [] 0 []), 58, 599532)) rfl ?_
  refine zL_s G (j := 5) (y := (122, [.ref 700, .ref 0, .ref 35, .int 0], [.int (xs 5), .int (xs 4), .int (xs 3), .int (xs 2), .int (xs 1), .ref 0], (zsF 0 [] 0 []), 58, 599532)) (zL_dec rfl) rfl (zin_of rfl) rfl ?_
  refine zL_call G hok (pc := 122) (stk := [.int (xs 5), .int (xs 4), .int (xs 3), .int (xs 2), .int (xs 1), .ref 0]) (n := 1) (k := 6) (as := [.ref 0, .int (xs 1), .int (xs 2), .int (xs 3), .int (xs 4), .int (xs 5)]) (rest := []) (m' := zm_D_feed) (fun _ => rfl) rfl (zrcv_0 rfl) z35_0 rfl rfl (Nat.le_of_ble_eq_true rfl) (Nat.le_of_ble_eq_true rfl) (Nat.le_of_ble_eq_true rfl) rfl rfl rfl h1 (y := (125, [.ref 700, .ref 0, .ref 35, .int 0], [.int v], st1, 58, 599532)) rfl ?_
  refine zL_n G (y := (126, [.ref 700, .ref 0, .ref 35, .int 0], [.ref 35, .int v], st1, 58, 599532)) rfl ?_
  refine zL_n G (y := (127, [.ref 700, .ref 0, .ref 35, .int 0], [.ref 700, .ref 35, .int v], st1, 58, 599532)) rfl ?_
  refine zL_n G (y := (128, [.ref 700, .ref 0, .ref 35, .int 0], [.int 0, .ref 700, .ref 35, .int v], st1, 58, 599532)) rfl ?_
  refine zL_n G (y := (129, [.ref 700, .ref 0, .ref 35, .int 0], [.int 1, .int 0, .ref 700, .ref 35, .int v], st1, 58, 599532)) rfl ?_
  refine zL_n G (y := (130, [.ref 700, .ref 0, .ref 35, .int 0], [.int 1, .ref 700, .ref 35, .int v], st1, 58, 599532)) rfl ?_
  refine zL_s G (j := 1) (y := (131, [.ref 700, .ref 0, .ref 35, .int 0], [.int (xs 1), .ref 35, .int v], st1, 58, 599532)) (zL_dec rfl) rfl (zin_of rfl) rfl ?_
  refine zL_n G (y := (132, [.ref 700, .ref 0, .ref 35, .int 0], [.ref 700, .int (xs 1), .ref 35, .int v], st1, 58, 599532)) rfl ?_
  refine zL_n G (y := (133, [.ref 700, .ref 0, .ref 35, .int 0], [.int 0, .ref 700, .int (xs 1), .ref 35, .int v], st1, 58, 599532)) rfl ?_
  refine zL_n G (y := (134, [.ref 700, .ref 0, .ref 35, .int 0], [.int 2, .int 0, .ref 700, .int (xs 1), .ref 35, .int v], st1, 58, 599532)) rfl ?_
  refine zL_n G (y := (135, [.ref 700, .ref 0, .ref 35, .int 0], [.int 2, .ref 700, .int (xs 1), .ref 35, .int v], st1, 58, 599532)) rfl ?_
  refine zL_s G (j := 2) (y := (136, [.ref 700, .ref 0, .ref 35, .int 0], [.int (xs 2), .int (xs 1), .ref 35, .int v], st1, 58, 599532)) (zL_dec rfl) rfl (zin_of rfl) rfl ?_
  refine zL_n G (y := (137, [.ref 700, .ref 0, .ref 35, .int 0], [.ref 700, .int (xs 2), .int (xs 1), .ref 35, .int v], st1, 58, 599532)) rfl ?_
  refine zL_n G (y := (138, [.ref 700, .ref 0, .ref 35, .int 0], [.int 0, .ref 700, .int (xs 2), .int (xs 1), .ref 35, .int v], st1, 58, 599532)) rfl ?_
  refine zL_n G (y := (139, [.ref 700, .ref 0, .ref 35, .int 0], [.int 3, .int 0, .ref 700, .int (xs 2), .int (xs 1), .ref 35, .int v], st1, 58, 599532)) rfl ?_
  refine zL_n G (y := (140, [.ref 700, .ref 0, .ref 35, .int 0], [.int 3, .ref 700, .int (xs 2), .int (xs 1), .ref 35, .int v], st1, 58, 599532)) rfl ?_
  refine zL_s G (j := 3) (y := (141, [.ref 700, .ref 0, .ref 35, .int 0], [.int (xs 3), .int (xs 2), .int (xs 1), .ref 35, .int v], st1, 58, 599532)) (zL_dec rfl) rfl (zin_of rfl) rfl ?_
  refine zL_n G (y := (142, [.ref 700, .ref 0, .ref 35, .int 0], [.ref 700, .int (xs 3), .int (xs 2), .int (xs 1), .ref 35, .int v], st1, 58, 599532)) rfl ?_
  refine zL_n G (y := (143, [.ref 700, .ref 0, .ref 35, .int 0], [.int 0, .ref 700, .int (xs 3), .int (xs 2), .int (xs 1), .ref 35, .int v], st1, 58, 599532)) rfl ?_
  refine zL_n G (y := (144, [.ref 700, .ref 0, .ref 35, .int 0], [.int 4, .int 0, .ref 700, .int (xs 3), .int (xs 2), .int (xs 1), .ref 35, .int v], st1, 58, 599532)) rfl ?_
  refine zL_n G (y := (145, [.ref 700, .ref 0, .ref 35, .int 0], [.int 4, .ref 700, .int (xs 3), .int (xs 2), .int (xs 1), .ref 35, .int v], st1, 58, 599532)) rfl ?_
  refine zL_s G (j := 4) (y := (146, [.ref 700, .ref 0, .ref 35, .int 0], [.int (xs 4), .int (xs 3), .int (xs 2), .int (xs 1), .ref 35, .int v], st1, 58, 599532)) (zL_dec rfl) rfl (zin_of rfl) rfl ?_
  refine zL_n G (y := (147, [.ref 700, .ref 0, .ref 35, .int 0], [.ref 700, .int (xs 4), .int (xs 3), .int (xs 2), .int (xs 1), .ref 35, .int v], st1, 58, 599532)) rfl ?_
  refine zL_n G (y := (148, [.ref 700, .ref 0, .ref 35, .int 0], [.int 0, .ref 700, .int (xs 4), .int (xs 3), .int (xs 2), .int (xs 1), .ref 35, .int v], st1, 58, 599532)) rfl ?_
  refine zL_n G (y := (149, [.ref 700, .ref 0, .ref 35, .int 0], [.int 5, .int 0, .ref 700, .int (xs 4), .int (xs 3), .int (xs 2), .int (xs 1), .ref 35, .int v], st1, 58, 599532)) rfl ?_
  refine zL_n G (y := (150, [.ref 700, .ref 0, .ref 35, .int 0], [.int 5, .ref 700, .int (xs 4), .int (xs 3), .int (xs 2), .int (xs 1), .ref 35, .int v], st1, 58, 599532)) rfl ?_
  refine zL_s G (j := 5) (y := (151, [.ref 700, .ref 0, .ref 35, .int 0], [.int (xs 5), .int (xs 4), .int (xs 3), .int (xs 2), .int (xs 1), .ref 35, .int v], st1, 58, 599532)) (zL_dec rfl) rfl (zin_of rfl) rfl ?_
  refine zL_call G hok (pc := 151) (stk := [.int (xs 5), .int (xs 4), .int (xs 3), .int (xs 2), .int (xs 1), .ref 35, .int v]) (n := 19) (k := 6) (as := [.ref 35, .int (xs 1), .int (xs 2), .int (xs 3), .int (xs 4), .int (xs 5)]) (rest := [.int v]) (m' := zm_R_feed) (fun _ => rfl) rfl (zrcv_35 h2 rfl) h2 rfl rfl (Nat.le_of_ble_eq_true rfl) (Nat.le_of_ble_eq_true rfl) (Nat.le_of_ble_eq_true rfl) rfl rfl rfl h3 (y := (154, [.ref 700, .ref 0, .ref 35, .int 0], [.int v, .int v], st2, 58, 599532)) rfl ?_
  refine zL_eq G (pc := 154) (z := zn 157 [.ref 700, .ref 0, .ref 35, .int 0] [] st2 58 599532) rfl ?_
  exact zL_out G st2

set_option maxRecDepth 100000 in
theorem zL_read (G : zLG p s m meth cd D cA ad0 b 6 xs) (hok : ∀ M ∈ zMs, zokM M = true) : zLK p l e s m below meth cd D cA ad0 b (159, [.ref 700, .ref 0, .ref 35, .int 0], [], (zsF 0 [] 0 []), 58, 599532) := by
  obtain ⟨v, st1, st2, h1, h2, h3⟩ := zP_read (xs 1) (xs 2)
  refine zL_n G (y := (160, [.ref 700, .ref 0, .ref 35, .int 0], [.ref 0], (zsF 0 [] 0 []), 58, 599532)) rfl ?_
  refine zL_n G (y := (161, [.ref 700, .ref 0, .ref 35, .int 0], [.ref 700, .ref 0], (zsF 0 [] 0 []), 58, 599532)) rfl ?_
  refine zL_n G (y := (162, [.ref 700, .ref 0, .ref 35, .int 0], [.int 0, .ref 700, .ref 0], (zsF 0 [] 0 []), 58, 599532)) rfl ?_
  refine zL_n G (y := (163, [.ref 700, .ref 0, .ref 35, .int 0], [.int 1, .int 0, .ref 700, .ref 0], (zsF 0 [] 0 []), 58, 599532)) rfl ?_
  refine zL_n G (y := (164, [.ref 700, .ref 0, .ref 35, .int 0], [.int 1, .ref 700, .ref 0], (zsF 0 [] 0 []), 58, 599532)) rfl ?_
  refine zL_s G (j := 1) (y := (165, [.ref 700, .ref 0, .ref 35, .int 0], [.int (xs 1), .ref 0], (zsF 0 [] 0 []), 58, 599532)) (zL_dec rfl) rfl (zin_of rfl) rfl ?_
  refine zL_n G (y := (166, [.ref 700, .ref 0, .ref 35, .int 0], [.ref 700, .int (xs 1), .ref 0], (zsF 0 [] 0 []), 58, 599532)) rfl ?_
  refine zL_n G (y := (167, [.ref 700, .ref 0, .ref 35, .int 0], [.int 0, .ref 700, .int (xs 1), .ref 0], (zsF 0 [] 0 []), 58, 599532)) rfl ?_
  refine zL_n G (y := (168, [.ref 700, .ref 0, .ref 35, .int 0], [.int 2, .int 0, .ref 700, .int (xs 1), .ref 0], (zsF 0 [] 0 []), 58, 599532)) rfl ?_
  refine zL_n G (y := (169, [.ref 700, .ref 0, .ref 35, .int 0], [.int 2, .ref 700, .int (xs 1), .ref 0], (zsF 0 [] 0 []), 58, 599532)) rfl ?_
  refine zL_s G (j := 2) (y := (170, [.ref 700, .ref 0, .ref 35, .int 0], [.int (xs 2), .int (xs 1), .ref 0], (zsF 0 [] 0 []), 58, 599532)) (zL_dec rfl) rfl (zin_of rfl) rfl ?_
  refine zL_call G hok (pc := 170) (stk := [.int (xs 2), .int (xs 1), .ref 0]) (n := 2) (k := 3) (as := [.ref 0, .int (xs 1), .int (xs 2)]) (rest := []) (m' := zm_D_read) (fun _ => rfl) rfl (zrcv_0 rfl) z35_0 rfl rfl (Nat.le_of_ble_eq_true rfl) (Nat.le_of_ble_eq_true rfl) (Nat.le_of_ble_eq_true rfl) rfl rfl rfl h1 (y := (173, [.ref 700, .ref 0, .ref 35, .int 0], [.int v], st1, 58, 599532)) rfl ?_
  refine zL_n G (y := (174, [.ref 700, .ref 0, .ref 35, .int 0], [.ref 35, .int v], st1, 58, 599532)) rfl ?_
  refine zL_n G (y := (175, [.ref 700, .ref 0, .ref 35, .int 0], [.ref 700, .ref 35, .int v], st1, 58, 599532)) rfl ?_
  refine zL_n G (y := (176, [.ref 700, .ref 0, .ref 35, .int 0], [.int 0, .ref 700, .ref 35, .int v], st1, 58, 599532)) rfl ?_
  refine zL_n G (y := (177, [.ref 700, .ref 0, .ref 35, .int 0], [.int 1, .int 0, .ref 700, .ref 35, .int v], st1, 58, 599532)) rfl ?_
  refine zL_n G (y := (178, [.ref 700, .ref 0, .ref 35, .int 0], [.int 1, .ref 700, .ref 35, .int v], st1, 58, 599532)) rfl ?_
  refine zL_s G (j := 1) (y := (179, [.ref 700, .ref 0, .ref 35, .int 0], [.int (xs 1), .ref 35, .int v], st1, 58, 599532)) (zL_dec rfl) rfl (zin_of rfl) rfl ?_
  refine zL_n G (y := (180, [.ref 700, .ref 0, .ref 35, .int 0], [.ref 700, .int (xs 1), .ref 35, .int v], st1, 58, 599532)) rfl ?_
  refine zL_n G (y := (181, [.ref 700, .ref 0, .ref 35, .int 0], [.int 0, .ref 700, .int (xs 1), .ref 35, .int v], st1, 58, 599532)) rfl ?_
  refine zL_n G (y := (182, [.ref 700, .ref 0, .ref 35, .int 0], [.int 2, .int 0, .ref 700, .int (xs 1), .ref 35, .int v], st1, 58, 599532)) rfl ?_
  refine zL_n G (y := (183, [.ref 700, .ref 0, .ref 35, .int 0], [.int 2, .ref 700, .int (xs 1), .ref 35, .int v], st1, 58, 599532)) rfl ?_
  refine zL_s G (j := 2) (y := (184, [.ref 700, .ref 0, .ref 35, .int 0], [.int (xs 2), .int (xs 1), .ref 35, .int v], st1, 58, 599532)) (zL_dec rfl) rfl (zin_of rfl) rfl ?_
  refine zL_call G hok (pc := 184) (stk := [.int (xs 2), .int (xs 1), .ref 35, .int v]) (n := 23) (k := 3) (as := [.ref 35, .int (xs 1), .int (xs 2)]) (rest := [.int v]) (m' := zm_R_read) (fun _ => rfl) rfl (zrcv_35 h2 rfl) h2 rfl rfl (Nat.le_of_ble_eq_true rfl) (Nat.le_of_ble_eq_true rfl) (Nat.le_of_ble_eq_true rfl) rfl rfl rfl h3 (y := (187, [.ref 700, .ref 0, .ref 35, .int 0], [.int v, .int v], st2, 58, 599532)) rfl ?_
  refine zL_eq G (pc := 187) (z := zn 190 [.ref 700, .ref 0, .ref 35, .int 0] [] st2 58 599532) rfl ?_
  exact zL_out G st2

set_option maxRecDepth 100000 in
theorem zL_nodes (G : zLG p s m meth cd D cA ad0 b 6 xs) (hok : ∀ M ∈ zMs, zokM M = true) : zLK p l e s m below meth cd D cA ad0 b (192, [.ref 700, .ref 0, .ref 35, .int 0], [], (zsF 0 [] 0 []), 58, 599532) := by
  obtain ⟨v, st1, st2, h1, h2, h3⟩ := zP_nodes (xs 1)
  refine zL_n G (y := (193, [.ref 700, .ref 0, .ref 35, .int 0], [.ref 0], (zsF 0 [] 0 []), 58, 599532)) rfl ?_
  refine zL_n G (y := (194, [.ref 700, .ref 0, .ref 35, .int 0], [.ref 700, .ref 0], (zsF 0 [] 0 []), 58, 599532)) rfl ?_
  refine zL_n G (y := (195, [.ref 700, .ref 0, .ref 35, .int 0], [.int 0, .ref 700, .ref 0], (zsF 0 [] 0 []), 58, 599532)) rfl ?_
  refine zL_n G (y := (196, [.ref 700, .ref 0, .ref 35, .int 0], [.int 1, .int 0, .ref 700, .ref 0], (zsF 0 [] 0 []), 58, 599532)) rfl ?_
  refine zL_n G (y := (197, [.ref 700, .ref 0, .ref 35, .int 0], [.int 1, .ref 700, .ref 0], (zsF 0 [] 0 []), 58, 599532)) rfl ?_
  refine zL_s G (j := 1) (y := (198, [.ref 700, .ref 0, .ref 35, .int 0], [.int (xs 1), .ref 0], (zsF 0 [] 0 []), 58, 599532)) (zL_dec rfl) rfl (zin_of rfl) rfl ?_
  refine zL_call G hok (pc := 198) (stk := [.int (xs 1), .ref 0]) (n := 3) (k := 2) (as := [.ref 0, .int (xs 1)]) (rest := []) (m' := zm_D_nodes) (fun _ => rfl) rfl (zrcv_0 rfl) z35_0 rfl rfl (Nat.le_of_ble_eq_true rfl) (Nat.le_of_ble_eq_true rfl) (Nat.le_of_ble_eq_true rfl) rfl rfl rfl h1 (y := (201, [.ref 700, .ref 0, .ref 35, .int 0], [.int v], st1, 58, 599532)) rfl ?_
  refine zL_n G (y := (202, [.ref 700, .ref 0, .ref 35, .int 0], [.ref 35, .int v], st1, 58, 599532)) rfl ?_
  refine zL_n G (y := (203, [.ref 700, .ref 0, .ref 35, .int 0], [.ref 700, .ref 35, .int v], st1, 58, 599532)) rfl ?_
  refine zL_n G (y := (204, [.ref 700, .ref 0, .ref 35, .int 0], [.int 0, .ref 700, .ref 35, .int v], st1, 58, 599532)) rfl ?_
  refine zL_n G (y := (205, [.ref 700, .ref 0, .ref 35, .int 0], [.int 1, .int 0, .ref 700, .ref 35, .int v], st1, 58, 599532)) rfl ?_
  refine zL_n G (y := (206, [.ref 700, .ref 0, .ref 35, .int 0], [.int 1, .ref 700, .ref 35, .int v], st1, 58, 599532)) rfl ?_
  refine zL_s G (j := 1) (y := (207, [.ref 700, .ref 0, .ref 35, .int 0], [.int (xs 1), .ref 35, .int v], st1, 58, 599532)) (zL_dec rfl) rfl (zin_of rfl) rfl ?_
  refine zL_call G hok (pc := 207) (stk := [.int (xs 1), .ref 35, .int v]) (n := 25) (k := 2) (as := [.ref 35, .int (xs 1)]) (rest := [.int v]) (m' := zm_R_nodes) (fun _ => rfl) rfl (zrcv_35 h2 rfl) h2 rfl rfl (Nat.le_of_ble_eq_true rfl) (Nat.le_of_ble_eq_true rfl) (Nat.le_of_ble_eq_true rfl) rfl rfl rfl h3 (y := (210, [.ref 700, .ref 0, .ref 35, .int 0], [.int v, .int v], st2, 58, 599532)) rfl ?_
  refine zL_eq G (pc := 210) (z := zn 213 [.ref 700, .ref 0, .ref 35, .int 0] [] st2 58 599532) rfl ?_
  exact zL_out G st2

set_option maxRecDepth 100000 in
theorem zL_node (G : zLG p s m meth cd D cA ad0 b 6 xs) (hok : ∀ M ∈ zMs, zokM M = true) : zLK p l e s m below meth cd D cA ad0 b (215, [.ref 700, .ref 0, .ref 35, .int 0], [], (zsF 0 [] 0 []), 58, 599532) := by
  obtain ⟨v, st1, st2, h1, h2, h3⟩ := zP_node (xs 1) (xs 2) (xs 3)
  refine zL_n G (y := (216, [.ref 700, .ref 0, .ref 35, .int 0], [.ref 0], (zsF 0 [] 0 []), 58, 599532)) rfl ?_
  refine zL_n G (y := (217, [.ref 700, .ref 0, .ref 35, .int 0], [.ref 700, .ref 0], (zsF 0 [] 0 []), 58, 599532)) rfl ?_
  refine zL_n G (y := (218, [.ref 700, .ref 0, .ref 35, .int 0], [.int 0, .ref 700, .ref 0], (zsF 0 [] 0 []), 58, 599532)) rfl ?_
  refine zL_n G (y := (219, [.ref 700, .ref 0, .ref 35, .int 0], [.int 1, .int 0, .ref 700, .ref 0], (zsF 0 [] 0 []), 58, 599532)) rfl ?_
  refine zL_n G (y := (220, [.ref 700, .ref 0, .ref 35, .int 0], [.int 1, .ref 700, .ref 0], (zsF 0 [] 0 []), 58, 599532)) rfl ?_
  refine zL_s G (j := 1) (y := (221, [.ref 700, .ref 0, .ref 35, .int 0], [.int (xs 1), .ref 0], (zsF 0 [] 0 []), 58, 599532)) (zL_dec rfl) rfl (zin_of rfl) rfl ?_
  refine zL_n G (y := (222, [.ref 700, .ref 0, .ref 35, .int 0], [.ref 700, .int (xs 1), .ref 0], (zsF 0 [] 0 []), 58, 599532)) rfl ?_
  refine zL_n G (y := (223, [.ref 700, .ref 0, .ref 35, .int 0], [.int 0, .ref 700, .int (xs 1), .ref 0], (zsF 0 [] 0 []), 58, 599532)) rfl ?_
  refine zL_n G (y := (224, [.ref 700, .ref 0, .ref 35, .int 0], [.int 2, .int 0, .ref 700, .int (xs 1), .ref 0], (zsF 0 [] 0 []), 58, 599532)) rfl ?_
  refine zL_n G (y := (225, [.ref 700, .ref 0, .ref 35, .int 0], [.int 2, .ref 700, .int (xs 1), .ref 0], (zsF 0 [] 0 []), 58, 599532)) rfl ?_
  refine zL_s G (j := 2) (y := (226, [.ref 700, .ref 0, .ref 35, .int 0], [.int (xs 2), .int (xs 1), .ref 0], (zsF 0 [] 0 []), 58, 599532)) (zL_dec rfl) rfl (zin_of rfl) rfl ?_
  refine zL_n G (y := (227, [.ref 700, .ref 0, .ref 35, .int 0], [.ref 700, .int (xs 2), .int (xs 1), .ref 0], (zsF 0 [] 0 []), 58, 599532)) rfl ?_
  refine zL_n G (y := (228, [.ref 700, .ref 0, .ref 35, .int 0], [.int 0, .ref 700, .int (xs 2), .int (xs 1), .ref 0], (zsF 0 [] 0 []), 58, 599532)) rfl ?_
  refine zL_n G (y := (229, [.ref 700, .ref 0, .ref 35, .int 0], [.int 3, .int 0, .ref 700, .int (xs 2), .int (xs 1), .ref 0], (zsF 0 [] 0 []), 58, 599532)) rfl ?_
  refine zL_n G (y := (230, [.ref 700, .ref 0, .ref 35, .int 0], [.int 3, .ref 700, .int (xs 2), .int (xs 1), .ref 0], (zsF 0 [] 0 []), 58, 599532)) rfl ?_
  refine zL_s G (j := 3) (y := (231, [.ref 700, .ref 0, .ref 35, .int 0], [.int (xs 3), .int (xs 2), .int (xs 1), .ref 0], (zsF 0 [] 0 []), 58, 599532)) (zL_dec rfl) rfl (zin_of rfl) rfl ?_
  refine zL_call G hok (pc := 231) (stk := [.int (xs 3), .int (xs 2), .int (xs 1), .ref 0]) (n := 4) (k := 4) (as := [.ref 0, .int (xs 1), .int (xs 2), .int (xs 3)]) (rest := []) (m' := zm_D_node) (fun _ => rfl) rfl (zrcv_0 rfl) z35_0 rfl rfl (Nat.le_of_ble_eq_true rfl) (Nat.le_of_ble_eq_true rfl) (Nat.le_of_ble_eq_true rfl) rfl rfl rfl h1 (y := (234, [.ref 700, .ref 0, .ref 35, .int 0], [.int v], st1, 58, 599532)) rfl ?_
  refine zL_n G (y := (235, [.ref 700, .ref 0, .ref 35, .int 0], [.ref 35, .int v], st1, 58, 599532)) rfl ?_
  refine zL_n G (y := (236, [.ref 700, .ref 0, .ref 35, .int 0], [.ref 700, .ref 35, .int v], st1, 58, 599532)) rfl ?_
  refine zL_n G (y := (237, [.ref 700, .ref 0, .ref 35, .int 0], [.int 0, .ref 700, .ref 35, .int v], st1, 58, 599532)) rfl ?_
  refine zL_n G (y := (238, [.ref 700, .ref 0, .ref 35, .int 0], [.int 1, .int 0, .ref 700, .ref 35, .int v], st1, 58, 599532)) rfl ?_
  refine zL_n G (y := (239, [.ref 700, .ref 0, .ref 35, .int 0], [.int 1, .ref 700, .ref 35, .int v], st1, 58, 599532)) rfl ?_
  refine zL_s G (j := 1) (y := (240, [.ref 700, .ref 0, .ref 35, .int 0], [.int (xs 1), .ref 35, .int v], st1, 58, 599532)) (zL_dec rfl) rfl (zin_of rfl) rfl ?_
  refine zL_n G (y := (241, [.ref 700, .ref 0, .ref 35, .int 0], [.ref 700, .int (xs 1), .ref 35, .int v], st1, 58, 599532)) rfl ?_
  refine zL_n G (y := (242, [.ref 700, .ref 0, .ref 35, .int 0], [.int 0, .ref 700, .int (xs 1), .ref 35, .int v], st1, 58, 599532)) rfl ?_
  refine zL_n G (y := (243, [.ref 700, .ref 0, .ref 35, .int 0], [.int 2, .int 0, .ref 700, .int (xs 1), .ref 35, .int v], st1, 58, 599532)) rfl ?_
  refine zL_n G (y := (244, [.ref 700, .ref 0, .ref 35, .int 0], [.int 2, .ref 700, .int (xs 1), .ref 35, .int v], st1, 58, 599532)) rfl ?_
  refine zL_s G (j := 2) (y := (245, [.ref 700, .ref 0, .ref 35, .int 0], [.int (xs 2), .int (xs 1), .ref 35, .int v], st1, 58, 599532)) (zL_dec rfl) rfl (zin_of rfl) rfl ?_
  refine zL_n G (y := (246, [.ref 700, .ref 0, .ref 35, .int 0], [.ref 700, .int (xs 2), .int (xs 1), .ref 35, .int v], st1, 58, 599532)) rfl ?_
  refine zL_n G (y := (247, [.ref 700, .ref 0, .ref 35, .int 0], [.int 0, .ref 700, .int (xs 2), .int (xs 1), .ref 35, .int v], st1, 58, 599532)) rfl ?_
  refine zL_n G (y := (248, [.ref 700, .ref 0, .ref 35, .int 0], [.int 3, .int 0, .ref 700, .int (xs 2), .int (xs 1), .ref 35, .int v], st1, 58, 599532)) rfl ?_
  refine zL_n G (y := (249, [.ref 700, .ref 0, .ref 35, .int 0], [.int 3, .ref 700, .int (xs 2), .int (xs 1), .ref 35, .int v], st1, 58, 599532)) rfl ?_
  refine zL_s G (j := 3) (y := (250, [.ref 700, .ref 0, .ref 35, .int 0], [.int (xs 3), .int (xs 2), .int (xs 1), .ref 35, .int v], st1, 58, 599532)) (zL_dec rfl) rfl (zin_of rfl) rfl ?_
  refine zL_call G hok (pc := 250) (stk := [.int (xs 3), .int (xs 2), .int (xs 1), .ref 35, .int v]) (n := 28) (k := 4) (as := [.ref 35, .int (xs 1), .int (xs 2), .int (xs 3)]) (rest := [.int v]) (m' := zm_R_node) (fun _ => rfl) rfl (zrcv_35 h2 rfl) h2 rfl rfl (Nat.le_of_ble_eq_true rfl) (Nat.le_of_ble_eq_true rfl) (Nat.le_of_ble_eq_true rfl) rfl rfl rfl h3 (y := (253, [.ref 700, .ref 0, .ref 35, .int 0], [.int v, .int v], st2, 58, 599532)) rfl ?_
  refine zL_eq G (pc := 253) (z := zn 256 [.ref 700, .ref 0, .ref 35, .int 0] [] st2 58 599532) rfl ?_
  exact zL_out G st2

set_option maxRecDepth 100000 in
theorem zL_part (G : zLG p s m meth cd D cA ad0 b 6 xs) (hok : ∀ M ∈ zMs, zokM M = true) : zLK p l e s m below meth cd D cA ad0 b (258, [.ref 700, .ref 0, .ref 35, .int 0], [], (zsF 0 [] 0 []), 58, 599532) := by
  obtain ⟨v, st1, st2, h1, h2, h3⟩ := zP_part (xs 1) (xs 2) (xs 3)
  refine zL_n G (y := (259, [.ref 700, .ref 0, .ref 35, .int 0], [.ref 0], (zsF 0 [] 0 []), 58, 599532)) rfl ?_
  refine zL_n G (y := (260, [.ref 700, .ref 0, .ref 35, .int 0], [.ref 700, .ref 0], (zsF 0 [] 0 []), 58, 599532)) rfl ?_
  refine zL_n G (y := (261, [.ref 700, .ref 0, .ref 35, .int 0], [.int 0, .ref 700, .ref 0], (zsF 0 [] 0 []), 58, 599532)) rfl ?_
  refine zL_n G (y := (262, [.ref 700, .ref 0, .ref 35, .int 0], [.int 1, .int 0, .ref 700, .ref 0], (zsF 0 [] 0 []), 58, 599532)) rfl ?_
  refine zL_n G (y := (263, [.ref 700, .ref 0, .ref 35, .int 0], [.int 1, .ref 700, .ref 0], (zsF 0 [] 0 []), 58, 599532)) rfl ?_
  refine zL_s G (j := 1) (y := (264, [.ref 700, .ref 0, .ref 35, .int 0], [.int (xs 1), .ref 0], (zsF 0 [] 0 []), 58, 599532)) (zL_dec rfl) rfl (zin_of rfl) rfl ?_
  refine zL_n G (y := (265, [.ref 700, .ref 0, .ref 35, .int 0], [.ref 700, .int (xs 1), .ref 0], (zsF 0 [] 0 []), 58, 599532)) rfl ?_
  refine zL_n G (y := (266, [.ref 700, .ref 0, .ref 35, .int 0], [.int 0, .ref 700, .int (xs 1), .ref 0], (zsF 0 [] 0 []), 58, 599532)) rfl ?_
  refine zL_n G (y := (267, [.ref 700, .ref 0, .ref 35, .int 0], [.int 2, .int 0, .ref 700, .int (xs 1), .ref 0], (zsF 0 [] 0 []), 58, 599532)) rfl ?_
  refine zL_n G (y := (268, [.ref 700, .ref 0, .ref 35, .int 0], [.int 2, .ref 700, .int (xs 1), .ref 0], (zsF 0 [] 0 []), 58, 599532)) rfl ?_
  refine zL_s G (j := 2) (y := (269, [.ref 700, .ref 0, .ref 35, .int 0], [.int (xs 2), .int (xs 1), .ref 0], (zsF 0 [] 0 []), 58, 599532)) (zL_dec rfl) rfl (zin_of rfl) rfl ?_
  refine zL_n G (y := (270, [.ref 700, .ref 0, .ref 35, .int 0], [.ref 700, .int (xs 2), .int (xs 1), .ref 0], (zsF 0 [] 0 []), 58, 599532)) rfl ?_
  refine zL_n G (y := (271, [.ref 700, .ref 0, .ref 35, .int 0], [.int 0, .ref 700, .int (xs 2), .int (xs 1), .ref 0], (zsF 0 [] 0 []), 58, 599532)) rfl ?_
  refine zL_n G (y := (272, [.ref 700, .ref 0, .ref 35, .int 0], [.int 3, .int 0, .ref 700, .int (xs 2), .int (xs 1), .ref 0], (zsF 0 [] 0 []), 58, 599532)) rfl ?_
  refine zL_n G (y := (273, [.ref 700, .ref 0, .ref 35, .int 0], [.int 3, .ref 700, .int (xs 2), .int (xs 1), .ref 0], (zsF 0 [] 0 []), 58, 599532)) rfl ?_
  refine zL_s G (j := 3) (y := (274, [.ref 700, .ref 0, .ref 35, .int 0], [.int (xs 3), .int (xs 2), .int (xs 1), .ref 0], (zsF 0 [] 0 []), 58, 599532)) (zL_dec rfl) rfl (zin_of rfl) rfl ?_
  refine zL_call G hok (pc := 274) (stk := [.int (xs 3), .int (xs 2), .int (xs 1), .ref 0]) (n := 5) (k := 4) (as := [.ref 0, .int (xs 1), .int (xs 2), .int (xs 3)]) (rest := []) (m' := zm_D_part) (fun _ => rfl) rfl (zrcv_0 rfl) z35_0 rfl rfl (Nat.le_of_ble_eq_true rfl) (Nat.le_of_ble_eq_true rfl) (Nat.le_of_ble_eq_true rfl) rfl rfl rfl h1 (y := (277, [.ref 700, .ref 0, .ref 35, .int 0], [.int v], st1, 58, 599532)) rfl ?_
  refine zL_n G (y := (278, [.ref 700, .ref 0, .ref 35, .int 0], [.ref 35, .int v], st1, 58, 599532)) rfl ?_
  refine zL_n G (y := (279, [.ref 700, .ref 0, .ref 35, .int 0], [.ref 700, .ref 35, .int v], st1, 58, 599532)) rfl ?_
  refine zL_n G (y := (280, [.ref 700, .ref 0, .ref 35, .int 0], [.int 0, .ref 700, .ref 35, .int v], st1, 58, 599532)) rfl ?_
  refine zL_n G (y := (281, [.ref 700, .ref 0, .ref 35, .int 0], [.int 1, .int 0, .ref 700, .ref 35, .int v], st1, 58, 599532)) rfl ?_
  refine zL_n G (y := (282, [.ref 700, .ref 0, .ref 35, .int 0], [.int 1, .ref 700, .ref 35, .int v], st1, 58, 599532)) rfl ?_
  refine zL_s G (j := 1) (y := (283, [.ref 700, .ref 0, .ref 35, .int 0], [.int (xs 1), .ref 35, .int v], st1, 58, 599532)) (zL_dec rfl) rfl (zin_of rfl) rfl ?_
  refine zL_n G (y := (284, [.ref 700, .ref 0, .ref 35, .int 0], [.ref 700, .int (xs 1), .ref 35, .int v], st1, 58, 599532)) rfl ?_
  refine zL_n G (y := (285, [.ref 700, .ref 0, .ref 35, .int 0], [.int 0, .ref 700, .int (xs 1), .ref 35, .int v], st1, 58, 599532)) rfl ?_
  refine zL_n G (y := (286, [.ref 700, .ref 0, .ref 35, .int 0], [.int 2, .int 0, .ref 700, .int (xs 1), .ref 35, .int v], st1, 58, 599532)) rfl ?_
  refine zL_n G (y := (287, [.ref 700, .ref 0, .ref 35, .int 0], [.int 2, .ref 700, .int (xs 1), .ref 35, .int v], st1, 58, 599532)) rfl ?_
  refine zL_s G (j := 2) (y := (288, [.ref 700, .ref 0, .ref 35, .int 0], [.int (xs 2), .int (xs 1), .ref 35, .int v], st1, 58, 599532)) (zL_dec rfl) rfl (zin_of rfl) rfl ?_
  refine zL_n G (y := (289, [.ref 700, .ref 0, .ref 35, .int 0], [.ref 700, .int (xs 2), .int (xs 1), .ref 35, .int v], st1, 58, 599532)) rfl ?_
  refine zL_n G (y := (290, [.ref 700, .ref 0, .ref 35, .int 0], [.int 0, .ref 700, .int (xs 2), .int (xs 1), .ref 35, .int v], st1, 58, 599532)) rfl ?_
  refine zL_n G (y := (291, [.ref 700, .ref 0, .ref 35, .int 0], [.int 3, .int 0, .ref 700, .int (xs 2), .int (xs 1), .ref 35, .int v], st1, 58, 599532)) rfl ?_
  refine zL_n G (y := (292, [.ref 700, .ref 0, .ref 35, .int 0], [.int 3, .ref 700, .int (xs 2), .int (xs 1), .ref 35, .int v], st1, 58, 599532)) rfl ?_
  refine zL_s G (j := 3) (y := (293, [.ref 700, .ref 0, .ref 35, .int 0], [.int (xs 3), .int (xs 2), .int (xs 1), .ref 35, .int v], st1, 58, 599532)) (zL_dec rfl) rfl (zin_of rfl) rfl ?_
  refine zL_call G hok (pc := 293) (stk := [.int (xs 3), .int (xs 2), .int (xs 1), .ref 35, .int v]) (n := 27) (k := 4) (as := [.ref 35, .int (xs 1), .int (xs 2), .int (xs 3)]) (rest := [.int v]) (m' := zm_R_part) (fun _ => rfl) rfl (zrcv_35 h2 rfl) h2 rfl rfl (Nat.le_of_ble_eq_true rfl) (Nat.le_of_ble_eq_true rfl) (Nat.le_of_ble_eq_true rfl) rfl rfl rfl h3 (y := (296, [.ref 700, .ref 0, .ref 35, .int 0], [.int v, .int v], st2, 58, 599532)) rfl ?_
  refine zL_eq G (pc := 296) (z := zn 299 [.ref 700, .ref 0, .ref 35, .int 0] [] st2 58 599532) rfl ?_
  exact zL_out G st2

set_option maxRecDepth 100000 in
theorem zL_whole (G : zLG p s m meth cd D cA ad0 b 6 xs) (hok : ∀ M ∈ zMs, zokM M = true) : zLK p l e s m below meth cd D cA ad0 b (301, [.ref 700, .ref 0, .ref 35, .int 0], [], (zsF 0 [] 0 []), 58, 599532) := by
  obtain ⟨v, st1, st2, h1, h2, h3⟩ := zP_whole (xs 1) (xs 2)
  refine zL_n G (y := (302, [.ref 700, .ref 0, .ref 35, .int 0], [.ref 0], (zsF 0 [] 0 []), 58, 599532)) rfl ?_
  refine zL_n G (y := (303, [.ref 700, .ref 0, .ref 35, .int 0], [.ref 700, .ref 0], (zsF 0 [] 0 []), 58, 599532)) rfl ?_
  refine zL_n G (y := (304, [.ref 700, .ref 0, .ref 35, .int 0], [.int 0, .ref 700, .ref 0], (zsF 0 [] 0 []), 58, 599532)) rfl ?_
  refine zL_n G (y := (305, [.ref 700, .ref 0, .ref 35, .int 0], [.int 1, .int 0, .ref 700, .ref 0], (zsF 0 [] 0 []), 58, 599532)) rfl ?_
  refine zL_n G (y := (306, [.ref 700, .ref 0, .ref 35, .int 0], [.int 1, .ref 700, .ref 0], (zsF 0 [] 0 []), 58, 599532)) rfl ?_
  refine zL_s G (j := 1) (y := (307, [.ref 700, .ref 0, .ref 35, .int 0], [.int (xs 1), .ref 0], (zsF 0 [] 0 []), 58, 599532)) (zL_dec rfl) rfl (zin_of rfl) rfl ?_
  refine zL_n G (y := (308, [.ref 700, .ref 0, .ref 35, .int 0], [.ref 700, .int (xs 1), .ref 0], (zsF 0 [] 0 []), 58, 599532)) rfl ?_
  refine zL_n G (y := (309, [.ref 700, .ref 0, .ref 35, .int 0], [.int 0, .ref 700, .int (xs 1), .ref 0], (zsF 0 [] 0 []), 58, 599532)) rfl ?_
  refine zL_n G (y := (310, [.ref 700, .ref 0, .ref 35, .int 0], [.int 2, .int 0, .ref 700, .int (xs 1), .ref 0], (zsF 0 [] 0 []), 58, 599532)) rfl ?_
  refine zL_n G (y := (311, [.ref 700, .ref 0, .ref 35, .int 0], [.int 2, .ref 700, .int (xs 1), .ref 0], (zsF 0 [] 0 []), 58, 599532)) rfl ?_
  refine zL_s G (j := 2) (y := (312, [.ref 700, .ref 0, .ref 35, .int 0], [.int (xs 2), .int (xs 1), .ref 0], (zsF 0 [] 0 []), 58, 599532)) (zL_dec rfl) rfl (zin_of rfl) rfl ?_
  refine zL_call G hok (pc := 312) (stk := [.int (xs 2), .int (xs 1), .ref 0]) (n := 6) (k := 3) (as := [.ref 0, .int (xs 1), .int (xs 2)]) (rest := []) (m' := zm_D_whole) (fun _ => rfl) rfl (zrcv_0 rfl) z35_0 rfl rfl (Nat.le_of_ble_eq_true rfl) (Nat.le_of_ble_eq_true rfl) (Nat.le_of_ble_eq_true rfl) rfl rfl rfl h1 (y := (315, [.ref 700, .ref 0, .ref 35, .int 0], [.int v], st1, 58, 599532)) rfl ?_
  refine zL_n G (y := (316, [.ref 700, .ref 0, .ref 35, .int 0], [.ref 35, .int v], st1, 58, 599532)) rfl ?_
  refine zL_n G (y := (317, [.ref 700, .ref 0, .ref 35, .int 0], [.ref 700, .ref 35, .int v], st1, 58, 599532)) rfl ?_
  refine zL_n G (y := (318, [.ref 700, .ref 0, .ref 35, .int 0], [.int 0, .ref 700, .ref 35, .int v], st1, 58, 599532)) rfl ?_
  refine zL_n G (y := (319, [.ref 700, .ref 0, .ref 35, .int 0], [.int 1, .int 0, .ref 700, .ref 35, .int v], st1, 58, 599532)) rfl ?_
  refine zL_n G (y := (320, [.ref 700, .ref 0, .ref 35, .int 0], [.int 1, .ref 700, .ref 35, .int v], st1, 58, 599532)) rfl ?_
  refine zL_s G (j := 1) (y := (321, [.ref 700, .ref 0, .ref 35, .int 0], [.int (xs 1), .ref 35, .int v], st1, 58, 599532)) (zL_dec rfl) rfl (zin_of rfl) rfl ?_
  refine zL_n G (y := (322, [.ref 700, .ref 0, .ref 35, .int 0], [.ref 700, .int (xs 1), .ref 35, .int v], st1, 58, 599532)) rfl ?_
  refine zL_n G (y := (323, [.ref 700, .ref 0, .ref 35, .int 0], [.int 0, .ref 700, .int (xs 1), .ref 35, .int v], st1, 58, 599532)) rfl ?_
  refine zL_n G (y := (324, [.ref 700, .ref 0, .ref 35, .int 0], [.int 2, .int 0, .ref 700, .int (xs 1), .ref 35, .int v], st1, 58, 599532)) rfl ?_
  refine zL_n G (y := (325, [.ref 700, .ref 0, .ref 35, .int 0], [.int 2, .ref 700, .int (xs 1), .ref 35, .int v], st1, 58, 599532)) rfl ?_
  refine zL_s G (j := 2) (y := (326, [.ref 700, .ref 0, .ref 35, .int 0], [.int (xs 2), .int (xs 1), .ref 35, .int v], st1, 58, 599532)) (zL_dec rfl) rfl (zin_of rfl) rfl ?_
  refine zL_call G hok (pc := 326) (stk := [.int (xs 2), .int (xs 1), .ref 35, .int v]) (n := 29) (k := 3) (as := [.ref 35, .int (xs 1), .int (xs 2)]) (rest := [.int v]) (m' := zm_R_whole) (fun _ => rfl) rfl (zrcv_35 h2 rfl) h2 rfl rfl (Nat.le_of_ble_eq_true rfl) (Nat.le_of_ble_eq_true rfl) (Nat.le_of_ble_eq_true rfl) rfl rfl rfl h3 (y := (329, [.ref 700, .ref 0, .ref 35, .int 0], [.int v, .int v], st2, 58, 599532)) rfl ?_
  refine zL_eq G (pc := 329) (z := zn 332 [.ref 700, .ref 0, .ref 35, .int 0] [] st2 58 599532) rfl ?_
  exact zL_out G st2

set_option maxRecDepth 100000 in
theorem zL_names (G : zLG p s m meth cd D cA ad0 b 6 xs) (hok : ∀ M ∈ zMs, zokM M = true) : zLK p l e s m below meth cd D cA ad0 b (334, [.ref 700, .ref 0, .ref 35, .int 0], [], (zsF 0 [] 0 []), 58, 599532) := by
  obtain ⟨v, st1, st2, h1, h2, h3⟩ := zP_names
  refine zL_n G (y := (335, [.ref 700, .ref 0, .ref 35, .int 0], [.ref 0], (zsF 0 [] 0 []), 58, 599532)) rfl ?_
  refine zL_call G hok (pc := 335) (stk := [.ref 0]) (n := 7) (k := 1) (as := [.ref 0]) (rest := []) (m' := zm_D_names) (fun _ => rfl) rfl (zrcv_0 rfl) z35_0 rfl rfl (Nat.le_of_ble_eq_true rfl) (Nat.le_of_ble_eq_true rfl) (Nat.le_of_ble_eq_true rfl) rfl rfl rfl h1 (y := (338, [.ref 700, .ref 0, .ref 35, .int 0], [.int v], st1, 58, 599532)) rfl ?_
  refine zL_n G (y := (339, [.ref 700, .ref 0, .ref 35, .int 0], [.ref 35, .int v], st1, 58, 599532)) rfl ?_
  refine zL_call G hok (pc := 339) (stk := [.ref 35, .int v]) (n := 30) (k := 1) (as := [.ref 35]) (rest := [.int v]) (m' := zm_R_names) (fun _ => rfl) rfl (zrcv_35 h2 rfl) h2 rfl rfl (Nat.le_of_ble_eq_true rfl) (Nat.le_of_ble_eq_true rfl) (Nat.le_of_ble_eq_true rfl) rfl rfl rfl h3 (y := (342, [.ref 700, .ref 0, .ref 35, .int 0], [.int v, .int v], st2, 58, 599532)) rfl ?_
  refine zL_eq G (pc := 342) (z := zn 345 [.ref 700, .ref 0, .ref 35, .int 0] [] st2 58 599532) rfl ?_
  exact zL_out G st2

set_option maxRecDepth 100000 in
theorem zL_spelt (G : zLG p s m meth cd D cA ad0 b 6 xs) (hok : ∀ M ∈ zMs, zokM M = true) : zLK p l e s m below meth cd D cA ad0 b (347, [.ref 700, .ref 0, .ref 35, .int 0], [], (zsF 0 [] 0 []), 58, 599532) := by
  obtain ⟨v, st1, st2, h1, h2, h3⟩ := zP_spelt (xs 1) (xs 2)
  refine zL_n G (y := (348, [.ref 700, .ref 0, .ref 35, .int 0], [.ref 0], (zsF 0 [] 0 []), 58, 599532)) rfl ?_
  refine zL_n G (y := (349, [.ref 700, .ref 0, .ref 35, .int 0], [.ref 700, .ref 0], (zsF 0 [] 0 []), 58, 599532)) rfl ?_
  refine zL_n G (y := (350, [.ref 700, .ref 0, .ref 35, .int 0], [.int 0, .ref 700, .ref 0], (zsF 0 [] 0 []), 58, 599532)) rfl ?_
  refine zL_n G (y := (351, [.ref 700, .ref 0, .ref 35, .int 0], [.int 1, .int 0, .ref 700, .ref 0], (zsF 0 [] 0 []), 58, 599532)) rfl ?_
  refine zL_n G (y := (352, [.ref 700, .ref 0, .ref 35, .int 0], [.int 1, .ref 700, .ref 0], (zsF 0 [] 0 []), 58, 599532)) rfl ?_
  refine zL_s G (j := 1) (y := (353, [.ref 700, .ref 0, .ref 35, .int 0], [.int (xs 1), .ref 0], (zsF 0 [] 0 []), 58, 599532)) (zL_dec rfl) rfl (zin_of rfl) rfl ?_
  refine zL_n G (y := (354, [.ref 700, .ref 0, .ref 35, .int 0], [.ref 700, .int (xs 1), .ref 0], (zsF 0 [] 0 []), 58, 599532)) rfl ?_
  refine zL_n G (y := (355, [.ref 700, .ref 0, .ref 35, .int 0], [.int 0, .ref 700, .int (xs 1), .ref 0], (zsF 0 [] 0 []), 58, 599532)) rfl ?_
  refine zL_n G (y := (356, [.ref 700, .ref 0, .ref 35, .int 0], [.int 2, .int 0, .ref 700, .int (xs 1), .ref 0], (zsF 0 [] 0 []), 58, 599532)) rfl ?_
  refine zL_n G (y := (357, [.ref 700, .ref 0, .ref 35, .int 0], [.int 2, .ref 700, .int (xs 1), .ref 0], (zsF 0 [] 0 []), 58, 599532)) rfl ?_
  refine zL_s G (j := 2) (y := (358, [.ref 700, .ref 0, .ref 35, .int 0], [.int (xs 2), .int (xs 1), .ref 0], (zsF 0 [] 0 []), 58, 599532)) (zL_dec rfl) rfl (zin_of rfl) rfl ?_
  refine zL_call G hok (pc := 358) (stk := [.int (xs 2), .int (xs 1), .ref 0]) (n := 8) (k := 3) (as := [.ref 0, .int (xs 1), .int (xs 2)]) (rest := []) (m' := zm_D_spelt) (fun _ => rfl) rfl (zrcv_0 rfl) z35_0 rfl rfl (Nat.le_of_ble_eq_true rfl) (Nat.le_of_ble_eq_true rfl) (Nat.le_of_ble_eq_true rfl) rfl rfl rfl h1 (y := (361, [.ref 700, .ref 0, .ref 35, .int 0], [.int v], st1, 58, 599532)) rfl ?_
  refine zL_n G (y := (362, [.ref 700, .ref 0, .ref 35, .int 0], [.ref 35, .int v], st1, 58, 599532)) rfl ?_
  refine zL_n G (y := (363, [.ref 700, .ref 0, .ref 35, .int 0], [.ref 700, .ref 35, .int v], st1, 58, 599532)) rfl ?_
  refine zL_n G (y := (364, [.ref 700, .ref 0, .ref 35, .int 0], [.int 0, .ref 700, .ref 35, .int v], st1, 58, 599532)) rfl ?_
  refine zL_n G (y := (365, [.ref 700, .ref 0, .ref 35, .int 0], [.int 1, .int 0, .ref 700, .ref 35, .int v], st1, 58, 599532)) rfl ?_
  refine zL_n G (y := (366, [.ref 700, .ref 0, .ref 35, .int 0], [.int 1, .ref 700, .ref 35, .int v], st1, 58, 599532)) rfl ?_
  refine zL_s G (j := 1) (y := (367, [.ref 700, .ref 0, .ref 35, .int 0], [.int (xs 1), .ref 35, .int v], st1, 58, 599532)) (zL_dec rfl) rfl (zin_of rfl) rfl ?_
  refine zL_n G (y := (368, [.ref 700, .ref 0, .ref 35, .int 0], [.ref 700, .int (xs 1), .ref 35, .int v], st1, 58, 599532)) rfl ?_
  refine zL_n G (y := (369, [.ref 700, .ref 0, .ref 35, .int 0], [.int 0, .ref 700, .int (xs 1), .ref 35, .int v], st1, 58, 599532)) rfl ?_
  refine zL_n G (y := (370, [.ref 700, .ref 0, .ref 35, .int 0], [.int 2, .int 0, .ref 700, .int (xs 1), .ref 35, .int v], st1, 58, 599532)) rfl ?_
  refine zL_n G (y := (371, [.ref 700, .ref 0, .ref 35, .int 0], [.int 2, .ref 700, .int (xs 1), .ref 35, .int v], st1, 58, 599532)) rfl ?_
  refine zL_s G (j := 2) (y := (372, [.ref 700, .ref 0, .ref 35, .int 0], [.int (xs 2), .int (xs 1), .ref 35, .int v], st1, 58, 599532)) (zL_dec rfl) rfl (zin_of rfl) rfl ?_
  refine zL_call G hok (pc := 372) (stk := [.int (xs 2), .int (xs 1), .ref 35, .int v]) (n := 31) (k := 3) (as := [.ref 35, .int (xs 1), .int (xs 2)]) (rest := [.int v]) (m' := zm_R_spelt) (fun _ => rfl) rfl (zrcv_35 h2 rfl) h2 rfl rfl (Nat.le_of_ble_eq_true rfl) (Nat.le_of_ble_eq_true rfl) (Nat.le_of_ble_eq_true rfl) rfl rfl rfl h3 (y := (375, [.ref 700, .ref 0, .ref 35, .int 0], [.int v, .int v], st2, 58, 599532)) rfl ?_
  refine zL_eq G (pc := 375) (z := zn 378 [.ref 700, .ref 0, .ref 35, .int 0] [] st2 58 599532) rfl ?_
  exact zL_out G st2

set_option maxRecDepth 100000 in
theorem zL_write (G : zLG p s m meth cd D cA ad0 b 6 xs) (hok : ∀ M ∈ zMs, zokM M = true) : zLK p l e s m below meth cd D cA ad0 b (380, [.ref 700, .ref 0, .ref 35, .int 0], [], (zsF 0 [] 0 []), 58, 599532) := by
  obtain ⟨v, st1, st2, h1, h2, h3⟩ := zP_write (xs 1) (xs 2)
  refine zL_n G (y := (381, [.ref 700, .ref 0, .ref 35, .int 0], [.ref 0], (zsF 0 [] 0 []), 58, 599532)) rfl ?_
  refine zL_n G (y := (382, [.ref 700, .ref 0, .ref 35, .int 0], [.ref 700, .ref 0], (zsF 0 [] 0 []), 58, 599532)) rfl ?_
  refine zL_n G (y := (383, [.ref 700, .ref 0, .ref 35, .int 0], [.int 0, .ref 700, .ref 0], (zsF 0 [] 0 []), 58, 599532)) rfl ?_
  refine zL_n G (y := (384, [.ref 700, .ref 0, .ref 35, .int 0], [.int 1, .int 0, .ref 700, .ref 0], (zsF 0 [] 0 []), 58, 599532)) rfl ?_
  refine zL_n G (y := (385, [.ref 700, .ref 0, .ref 35, .int 0], [.int 1, .ref 700, .ref 0], (zsF 0 [] 0 []), 58, 599532)) rfl ?_
  refine zL_s G (j := 1) (y := (386, [.ref 700, .ref 0, .ref 35, .int 0], [.int (xs 1), .ref 0], (zsF 0 [] 0 []), 58, 599532)) (zL_dec rfl) rfl (zin_of rfl) rfl ?_
  refine zL_n G (y := (387, [.ref 700, .ref 0, .ref 35, .int 0], [.ref 700, .int (xs 1), .ref 0], (zsF 0 [] 0 []), 58, 599532)) rfl ?_
  refine zL_n G (y := (388, [.ref 700, .ref 0, .ref 35, .int 0], [.int 0, .ref 700, .int (xs 1), .ref 0], (zsF 0 [] 0 []), 58, 599532)) rfl ?_
  refine zL_n G (y := (389, [.ref 700, .ref 0, .ref 35, .int 0], [.int 2, .int 0, .ref 700, .int (xs 1), .ref 0], (zsF 0 [] 0 []), 58, 599532)) rfl ?_
  refine zL_n G (y := (390, [.ref 700, .ref 0, .ref 35, .int 0], [.int 2, .ref 700, .int (xs 1), .ref 0], (zsF 0 [] 0 []), 58, 599532)) rfl ?_
  refine zL_s G (j := 2) (y := (391, [.ref 700, .ref 0, .ref 35, .int 0], [.int (xs 2), .int (xs 1), .ref 0], (zsF 0 [] 0 []), 58, 599532)) (zL_dec rfl) rfl (zin_of rfl) rfl ?_
  refine zL_call G hok (pc := 391) (stk := [.int (xs 2), .int (xs 1), .ref 0]) (n := 9) (k := 3) (as := [.ref 0, .int (xs 1), .int (xs 2)]) (rest := []) (m' := zm_D_write) (fun _ => rfl) rfl (zrcv_0 rfl) z35_0 rfl rfl (Nat.le_of_ble_eq_true rfl) (Nat.le_of_ble_eq_true rfl) (Nat.le_of_ble_eq_true rfl) rfl rfl rfl h1 (y := (394, [.ref 700, .ref 0, .ref 35, .int 0], [.int v], st1, 58, 599532)) rfl ?_
  refine zL_n G (y := (395, [.ref 700, .ref 0, .ref 35, .int 0], [.ref 35, .int v], st1, 58, 599532)) rfl ?_
  refine zL_n G (y := (396, [.ref 700, .ref 0, .ref 35, .int 0], [.ref 700, .ref 35, .int v], st1, 58, 599532)) rfl ?_
  refine zL_n G (y := (397, [.ref 700, .ref 0, .ref 35, .int 0], [.int 0, .ref 700, .ref 35, .int v], st1, 58, 599532)) rfl ?_
  refine zL_n G (y := (398, [.ref 700, .ref 0, .ref 35, .int 0], [.int 1, .int 0, .ref 700, .ref 35, .int v], st1, 58, 599532)) rfl ?_
  refine zL_n G (y := (399, [.ref 700, .ref 0, .ref 35, .int 0], [.int 1, .ref 700, .ref 35, .int v], st1, 58, 599532)) rfl ?_
  refine zL_s G (j := 1) (y := (400, [.ref 700, .ref 0, .ref 35, .int 0], [.int (xs 1), .ref 35, .int v], st1, 58, 599532)) (zL_dec rfl) rfl (zin_of rfl) rfl ?_
  refine zL_n G (y := (401, [.ref 700, .ref 0, .ref 35, .int 0], [.ref 700, .int (xs 1), .ref 35, .int v], st1, 58, 599532)) rfl ?_
  refine zL_n G (y := (402, [.ref 700, .ref 0, .ref 35, .int 0], [.int 0, .ref 700, .int (xs 1), .ref 35, .int v], st1, 58, 599532)) rfl ?_
  refine zL_n G (y := (403, [.ref 700, .ref 0, .ref 35, .int 0], [.int 2, .int 0, .ref 700, .int (xs 1), .ref 35, .int v], st1, 58, 599532)) rfl ?_
  refine zL_n G (y := (404, [.ref 700, .ref 0, .ref 35, .int 0], [.int 2, .ref 700, .int (xs 1), .ref 35, .int v], st1, 58, 599532)) rfl ?_
  refine zL_s G (j := 2) (y := (405, [.ref 700, .ref 0, .ref 35, .int 0], [.int (xs 2), .int (xs 1), .ref 35, .int v], st1, 58, 599532)) (zL_dec rfl) rfl (zin_of rfl) rfl ?_
  refine zL_call G hok (pc := 405) (stk := [.int (xs 2), .int (xs 1), .ref 35, .int v]) (n := 36) (k := 3) (as := [.ref 35, .int (xs 1), .int (xs 2)]) (rest := [.int v]) (m' := zm_R_write) (fun _ => rfl) rfl (zrcv_35 h2 rfl) h2 rfl rfl (Nat.le_of_ble_eq_true rfl) (Nat.le_of_ble_eq_true rfl) (Nat.le_of_ble_eq_true rfl) rfl rfl rfl h3 (y := (408, [.ref 700, .ref 0, .ref 35, .int 0], [.int v, .int v], st2, 58, 599532)) rfl ?_
  refine zL_eq G (pc := 408) (z := zn 411 [.ref 700, .ref 0, .ref 35, .int 0] [] st2 58 599532) rfl ?_
  exact zL_out G st2

set_option maxRecDepth 100000 in
theorem zL_written (G : zLG p s m meth cd D cA ad0 b 6 xs) (hok : ∀ M ∈ zMs, zokM M = true) : zLK p l e s m below meth cd D cA ad0 b (413, [.ref 700, .ref 0, .ref 35, .int 0], [], (zsF 0 [] 0 []), 58, 599532) := by
  obtain ⟨v, st1, st2, h1, h2, h3⟩ := zP_written (xs 1)
  refine zL_n G (y := (414, [.ref 700, .ref 0, .ref 35, .int 0], [.ref 0], (zsF 0 [] 0 []), 58, 599532)) rfl ?_
  refine zL_n G (y := (415, [.ref 700, .ref 0, .ref 35, .int 0], [.ref 700, .ref 0], (zsF 0 [] 0 []), 58, 599532)) rfl ?_
  refine zL_n G (y := (416, [.ref 700, .ref 0, .ref 35, .int 0], [.int 0, .ref 700, .ref 0], (zsF 0 [] 0 []), 58, 599532)) rfl ?_
  refine zL_n G (y := (417, [.ref 700, .ref 0, .ref 35, .int 0], [.int 1, .int 0, .ref 700, .ref 0], (zsF 0 [] 0 []), 58, 599532)) rfl ?_
  refine zL_n G (y := (418, [.ref 700, .ref 0, .ref 35, .int 0], [.int 1, .ref 700, .ref 0], (zsF 0 [] 0 []), 58, 599532)) rfl ?_
  refine zL_s G (j := 1) (y := (419, [.ref 700, .ref 0, .ref 35, .int 0], [.int (xs 1), .ref 0], (zsF 0 [] 0 []), 58, 599532)) (zL_dec rfl) rfl (zin_of rfl) rfl ?_
  refine zL_call G hok (pc := 419) (stk := [.int (xs 1), .ref 0]) (n := 10) (k := 2) (as := [.ref 0, .int (xs 1)]) (rest := []) (m' := zm_D_written) (fun _ => rfl) rfl (zrcv_0 rfl) z35_0 rfl rfl (Nat.le_of_ble_eq_true rfl) (Nat.le_of_ble_eq_true rfl) (Nat.le_of_ble_eq_true rfl) rfl rfl rfl h1 (y := (422, [.ref 700, .ref 0, .ref 35, .int 0], [.int v], st1, 58, 599532)) rfl ?_
  refine zL_n G (y := (423, [.ref 700, .ref 0, .ref 35, .int 0], [.ref 35, .int v], st1, 58, 599532)) rfl ?_
  refine zL_n G (y := (424, [.ref 700, .ref 0, .ref 35, .int 0], [.ref 700, .ref 35, .int v], st1, 58, 599532)) rfl ?_
  refine zL_n G (y := (425, [.ref 700, .ref 0, .ref 35, .int 0], [.int 0, .ref 700, .ref 35, .int v], st1, 58, 599532)) rfl ?_
  refine zL_n G (y := (426, [.ref 700, .ref 0, .ref 35, .int 0], [.int 1, .int 0, .ref 700, .ref 35, .int v], st1, 58, 599532)) rfl ?_
  refine zL_n G (y := (427, [.ref 700, .ref 0, .ref 35, .int 0], [.int 1, .ref 700, .ref 35, .int v], st1, 58, 599532)) rfl ?_
  refine zL_s G (j := 1) (y := (428, [.ref 700, .ref 0, .ref 35, .int 0], [.int (xs 1), .ref 35, .int v], st1, 58, 599532)) (zL_dec rfl) rfl (zin_of rfl) rfl ?_
  refine zL_call G hok (pc := 428) (stk := [.int (xs 1), .ref 35, .int v]) (n := 37) (k := 2) (as := [.ref 35, .int (xs 1)]) (rest := [.int v]) (m' := zm_R_written) (fun _ => rfl) rfl (zrcv_35 h2 rfl) h2 rfl rfl (Nat.le_of_ble_eq_true rfl) (Nat.le_of_ble_eq_true rfl) (Nat.le_of_ble_eq_true rfl) rfl rfl rfl h3 (y := (431, [.ref 700, .ref 0, .ref 35, .int 0], [.int v, .int v], st2, 58, 599532)) rfl ?_
  refine zL_eq G (pc := 431) (z := zn 434 [.ref 700, .ref 0, .ref 35, .int 0] [] st2 58 599532) rfl ?_
  exact zL_out G st2

set_option maxRecDepth 100000 in
theorem zL_again (G : zLG p s m meth cd D cA ad0 b 6 xs) (hok : ∀ M ∈ zMs, zokM M = true) : zLK p l e s m below meth cd D cA ad0 b (436, [.ref 700, .ref 0, .ref 35, .int 0], [], (zsF 0 [] 0 []), 58, 599532) := by
  obtain ⟨v, st1, st2, h1, h2, h3⟩ := zP_again
  refine zL_n G (y := (437, [.ref 700, .ref 0, .ref 35, .int 0], [.ref 0], (zsF 0 [] 0 []), 58, 599532)) rfl ?_
  refine zL_call G hok (pc := 437) (stk := [.ref 0]) (n := 11) (k := 1) (as := [.ref 0]) (rest := []) (m' := zm_D_again) (fun _ => rfl) rfl (zrcv_0 rfl) z35_0 rfl rfl (Nat.le_of_ble_eq_true rfl) (Nat.le_of_ble_eq_true rfl) (Nat.le_of_ble_eq_true rfl) rfl rfl rfl h1 (y := (440, [.ref 700, .ref 0, .ref 35, .int 0], [.int v], st1, 58, 599532)) rfl ?_
  refine zL_n G (y := (441, [.ref 700, .ref 0, .ref 35, .int 0], [.ref 35, .int v], st1, 58, 599532)) rfl ?_
  refine zL_call G hok (pc := 441) (stk := [.ref 35, .int v]) (n := 38) (k := 1) (as := [.ref 35]) (rest := [.int v]) (m' := zm_R_again) (fun _ => rfl) rfl (zrcv_35 h2 rfl) h2 rfl rfl (Nat.le_of_ble_eq_true rfl) (Nat.le_of_ble_eq_true rfl) (Nat.le_of_ble_eq_true rfl) rfl rfl rfl h3 (y := (444, [.ref 700, .ref 0, .ref 35, .int 0], [.int v, .int v], st2, 58, 599532)) rfl ?_
  refine zL_eq G (pc := 444) (z := zn 447 [.ref 700, .ref 0, .ref 35, .int 0] [] st2 58 599532) rfl ?_
  exact zL_out G st2

set_option maxRecDepth 100000 in
theorem zL_same (G : zLG p s m meth cd D cA ad0 b 6 xs) (hok : ∀ M ∈ zMs, zokM M = true) : zLK p l e s m below meth cd D cA ad0 b (449, [.ref 700, .ref 0, .ref 35, .int 0], [], (zsF 0 [] 0 []), 58, 599532) := by
  obtain ⟨v, st1, st2, h1, h2, h3⟩ := zP_same
  refine zL_n G (y := (450, [.ref 700, .ref 0, .ref 35, .int 0], [.ref 0], (zsF 0 [] 0 []), 58, 599532)) rfl ?_
  refine zL_call G hok (pc := 450) (stk := [.ref 0]) (n := 12) (k := 1) (as := [.ref 0]) (rest := []) (m' := zm_D_same) (fun _ => rfl) rfl (zrcv_0 rfl) z35_0 rfl rfl (Nat.le_of_ble_eq_true rfl) (Nat.le_of_ble_eq_true rfl) (Nat.le_of_ble_eq_true rfl) rfl rfl rfl h1 (y := (453, [.ref 700, .ref 0, .ref 35, .int 0], [.int v], st1, 58, 599532)) rfl ?_
  refine zL_n G (y := (454, [.ref 700, .ref 0, .ref 35, .int 0], [.ref 35, .int v], st1, 58, 599532)) rfl ?_
  refine zL_call G hok (pc := 454) (stk := [.ref 35, .int v]) (n := 32) (k := 1) (as := [.ref 35]) (rest := [.int v]) (m' := zm_R_same) (fun _ => rfl) rfl (zrcv_35 h2 rfl) h2 rfl rfl (Nat.le_of_ble_eq_true rfl) (Nat.le_of_ble_eq_true rfl) (Nat.le_of_ble_eq_true rfl) rfl rfl rfl h3 (y := (457, [.ref 700, .ref 0, .ref 35, .int 0], [.int v, .int v], st2, 58, 599532)) rfl ?_
  refine zL_eq G (pc := 457) (z := zn 460 [.ref 700, .ref 0, .ref 35, .int 0] [] st2 58 599532) rfl ?_
  exact zL_out G st2
end ZLAW
