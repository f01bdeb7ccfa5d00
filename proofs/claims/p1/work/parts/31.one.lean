/-! THE CLAIM -/
section ZLAW
variable {p : Program} {l : Launch} {e : Env} {s : State} {m : MethodId} {below : List Frame} {meth : Method} {cd : Code} {D : va_G} {cA : Nat → ClassId} {ad0 : Nat → Nat} {b : Nat} {xs : Nat → Int32}
set_option maxRecDepth 100000 in
theorem zL_one (G : zLG p s m meth cd D cA ad0 b 6 xs) (hok : ∀ M ∈ zMs, zokM M = true) : zLK p l e s m below meth cd D cA ad0 b (18, [.ref 700, .ref 0, .ref 35, .int 0], [], (zsF 0 [] 0 []), 58, 599532) := by
  refine zL_n G (y := (19, [.ref 700, .ref 0, .ref 35, .int 0], [.int 0], (zsF 0 [] 0 []), 58, 599532)) rfl ?_
  refine zL_n G (y := (20, [.ref 700, .ref 0, .ref 35, .int 0], [.ref 700, .int 0], (zsF 0 [] 0 []), 58, 599532)) rfl ?_
  refine zL_len G (y := (21, [.ref 700, .ref 0, .ref 35, .int 0], [.int 6, .int 0], (zsF 0 [] 0 []), 58, 599532)) rfl ?_
  refine zL_n G (y := (23, [.ref 700, .ref 0, .ref 35, .int 0], [.int 6, .int 6, .int 0], (zsF 0 [] 0 []), 58, 599532)) rfl ?_
  refine zL_n G (y := (24, [.ref 700, .ref 0, .ref 35, .int 0], [.int 0, .int 0], (zsF 0 [] 0 []), 58, 599532)) rfl ?_
  refine zL_n G (y := (27, [.ref 700, .ref 0, .ref 35, .int 0], [], (zsF 0 [] 0 []), 58, 599532)) rfl ?_
  refine zL_n G (y := (28, [.ref 700, .ref 0, .ref 35, .int 0], [.ref 700], (zsF 0 [] 0 []), 58, 599532)) rfl ?_
  refine zL_n G (y := (29, [.ref 700, .ref 0, .ref 35, .int 0], [.int 0, .ref 700], (zsF 0 [] 0 []), 58, 599532)) rfl ?_
  refine zL_s G (j := 0) (y := (30, [.ref 700, .ref 0, .ref 35, .int 0], [.int (xs 0)], (zsF 0 [] 0 []), 58, 599532)) (zL_dec rfl) rfl (zin_of rfl) rfl ?_
  refine zL_n G (y := (32, [.ref 700, .ref 0, .ref 35, .int 0], [.int 15, .int (xs 0)], (zsF 0 [] 0 []), 58, 599532)) rfl ?_
  refine zL_n G (y := (33, [.ref 700, .ref 0, .ref 35, .int 0], [.int (xs 0 &&& 15)], (zsF 0 [] 0 []), 58, 599532)) rfl ?_
  generalize xs 0 &&& 15 = q
  refine zL_n G (y := (zswT q 462 [(0, 96), (1, 159), (2, 192), (3, 215), (4, 258), (5, 301), (6, 334), (7, 347), (8, 380), (9, 413), (10, 436), (11, 449)], [.ref 700, .ref 0, .ref 35, .int 0], [], (zsF 0 [] 0 []), 58, 599532)) rfl ?_
  by_cases q0 : q = 0
  · subst q0
    exact zL_feed G hok
  by_cases q1 : q = 1
  · subst q1
    exact zL_read G hok
  by_cases q2 : q = 2
  · subst q2
    exact zL_nodes G hok
  by_cases q3 : q = 3
  · subst q3
    exact zL_node G hok
  by_cases q4 : q = 4
  · subst q4
    exact zL_part G hok
  by_cases q5 : q = 5
  · subst q5
    exact zL_whole G hok
  by_cases q6 : q = 6
  · subst q6
    exact zL_names G hok
  by_cases q7 : q = 7
  · subst q7
    exact zL_spelt G hok
  by_cases q8 : q = 8
  · subst q8
    exact zL_write G hok
  by_cases q9 : q = 9
  · subst q9
    exact zL_written G hok
  by_cases q10 : q = 10
  · subst q10
    exact zL_again G hok
  by_cases q11 : q = 11
  · subst q11
    exact zL_same G hok
  have hq : zswT q 462 [(0, 96), (1, 159), (2, 192), (3, 215), (4, 258), (5, 301), (6, 334), (7, 347), (8, 380), (9, 413), (10, 436), (11, 449)] = 462 := by
    simp only [zswT]
    rw [if_neg q0, if_neg q1, if_neg q2, if_neg q3, if_neg q4, if_neg q5, if_neg q6, if_neg q7, if_neg q8, if_neg q9, if_neg q10, if_neg q11]
  rw [hq]
  exact zL_out G _
end ZLAW
