/-! THE ABSTRACT MACHINE, 9: all words may be handed on; String.length -/
theorem zT_good : zT.all goodWord = true := by decide +kernel
theorem zT_in {w : Cond} (h : w ∈ zT) : w ∈ zT ∧ ((w.onTables && w.keeps) = true ∨ ∃ ty, w = .arrayClass ty) := ⟨h, good_of_word (List.all_eq_true.mp zT_good w h)⟩
theorem zgood {m : zMth} (h : Cond.code m.1 m.2.1 (zmL m) (zmR m) ∈ zT) : GoodIn zT (zws m) := by
  intro w hw
  rcases List.mem_cons.mp hw with rfl | hw
  · exact zT_in h
  · exact zT_in hw
