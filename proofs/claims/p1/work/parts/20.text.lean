/-! THE ABSTRACT MACHINE, 10: String.length; arrays of references; texts; Math; Object's constructor; System.arraycopy of nothing -/
def zy_coder : MethodName := ⟨"java/lang/String", "coder", "()B"⟩
def zy_length : MethodName := ⟨"java/lang/String", "length", "()I"⟩
theorem zd_coder_0 : decode prog_13_method_152_code 0 = .ok (.getstatic 38, 3) := by decide +kernel
theorem zd_coder_3 : decode prog_13_method_152_code 3 = .ok (.ifCond .eq 10, 3) := by decide +kernel
theorem zd_coder_6 : decode prog_13_method_152_code 6 = .ok (.aload_n 0, 1) := by decide +kernel
theorem zd_coder_7 : decode prog_13_method_152_code 7 = .ok (.getfield 15, 3) := by decide +kernel
theorem zd_coder_10 : decode prog_13_method_152_code 10 = .ok (.goto 4, 3) := by decide +kernel
theorem zd_coder_14 : decode prog_13_method_152_code 14 = .ok (.ireturn, 1) := by decide +kernel
theorem zd_length_0 : decode prog_13_method_54_code 0 = .ok (.aload_n 0, 1) := by decide +kernel
theorem zd_length_1 : decode prog_13_method_54_code 1 = .ok (.getfield 9, 3) := by decide +kernel
theorem zd_length_4 : decode prog_13_method_54_code 4 = .ok (.arraylength, 1) := by decide +kernel
theorem zd_length_5 : decode prog_13_method_54_code 5 = .ok (.aload_n 0, 1) := by decide +kernel
theorem zd_length_6 : decode prog_13_method_54_code 6 = .ok (.invokevirtual 335, 3) := by decide +kernel
theorem zd_length_9 : decode prog_13_method_54_code 9 = .ok (.ishr, 1) := by decide +kernel
theorem zd_length_10 : decode prog_13_method_54_code 10 = .ok (.ireturn, 1) := by decide +kernel
def zw_coder : List Cond := .code zy_coder prog_13_method_152_code 1 (some .byte) :: zT
def zw_length : List Cond := .code zy_length prog_13_method_54_code 1 (some .int) :: zT
theorem zT_coder : Cond.code zy_coder prog_13_method_152_code 1 (some .byte) ∈ zT := by decide +kernel
theorem zT_length : Cond.code zy_length prog_13_method_54_code 1 (some .int) ∈ zT := by decide +kernel
theorem zT_f38 : Cond.fieldLink "java/lang/String" 38 "java/lang/String" "COMPACT_STRINGS" "Z" ∈ zT := by decide +kernel
theorem zT_f15 : Cond.fieldLink "java/lang/String" 15 "java/lang/String" "coder" "B" ∈ zT := by decide +kernel
theorem zT_f9 : Cond.fieldLink "java/lang/String" 9 "java/lang/String" "value" "[B" ∈ zT := by decide +kernel
theorem zT_m335 : Cond.methodLink "java/lang/String" 335 zy_coder ∈ zT := by decide +kernel
theorem zT_coderI : Cond.instanceMethod zy_coder ∈ zT := by decide +kernel
theorem zT_coderS : Cond.selects "java/lang/String" zy_coder zy_coder ∈ zT := by decide +kernel
theorem zT_strI : Cond.initialized "java/lang/String" ∈ zT := by decide +kernel
theorem zT_lengthI : Cond.instanceMethod zy_length ∈ zT := by decide +kernel
theorem zT_lengthS : Cond.selects "java/lang/String" zy_length zy_length ∈ zT := by decide +kernel
/-- a constant text of n signs at q, and String's own static -/
def zstr (q n B : Nat) (U : State) : Prop := B ≤ U.heap.size ∧ (va_O "java/lang/String" q (fun x => B ≤ x) U U.heap ∧ va_OF "java/lang/String" "coder" "B" (.int 0) q (fun x => B ≤ x) U U.heap ∧ ∃ t : Nat, va_OF "java/lang/String" "value" "[B" (.ref t) q (fun x => B ≤ x) U U.heap ∧ ∃ f : Nat → Value, va_T .byte t n f (fun x => B ≤ x) U U.heap) ∧ va_Z "java/lang/String" "COMPACT_STRINGS" "Z" (.int 1) (fun x => B ≤ x) U U.heap
theorem zstr.blind {q n B : Nat} {U : State} {g : JFrame} {mk : MethodId} {a : Array Value} (h : zstr q n B U) : zstr q n B (U.calling g mk a) := by
  have hv : U.vm.Alike (U.calling g mk a).vm := Vm.Alike.refl U.vm
  obtain ⟨h0, ⟨h1, h2, t, h3, f, h4⟩, h5⟩ := h
  exact ⟨h0, ⟨va_O.moved hv h1, va_OF.moved hv h2, t, va_OF.moved hv h3, f, va_T.moved hv h4⟩, va_Z.moved hv h5⟩
theorem zstr.go {q n B : Nat} {s U : State} (h : zstr q n B s) (hW : s.WarmedH U.vm) (hz : s.heap.size ≤ U.heap.size) (hk : ∀ a : Nat, a < s.heap.size → ¬ B ≤ a → U.heap[a]? = s.heap[a]?) : zstr q n B U := by
  obtain ⟨h0, ⟨h1, h2, t, h3, f, h4⟩, h5⟩ := h
  exact ⟨Nat.le_trans h0 hz, ⟨(h1.moved hW.alike).kept hk, (h2.moved hW.alike).kept hk, t, (h3.moved hW.alike).kept hk, f, (h4.moved hW.alike).kept hk⟩, (h5.moved hW.alike).kept hk⟩
set_option maxHeartbeats 4000000 in
theorem zc_coder (l : Launch) (q n B : Nat) : Met l zy_coder zw_coder ({ frames := 0, cells := 0, slots := 0, locals := 0 }) (va_Pc [.ref q] (fun U => zstr q n B U)) (va_Qi (fun (r : Int32) (_ : Unit) => r = 0) (fun _ _ => True) (fun _ => False)) 0 0 (fun _ => False) := by
  refine Met.ofW (cc := prog_13_method_152_code) (maxL := 1) (ret := (some .byte)) (by decide) rfl ?_
  intro p e s m args below meth c s₁ Bd hml hv
  obtain ⟨rfl, h0, ⟨h1, h2, t, h3, f, h4⟩, h5⟩ := hv
  have hx := Bd.exec
  have hb := Bd.bytes
  have hr := Bd.returns
  have hts := atoms_spec (ws := zw_coder) Bd.pre
  have hown : s.vm.findClass "java/lang/String" = some m.cls := findClass_of_methodNamed Bd.named
  have hlocks := Bd.notSynchronized
  have hS : va_S (fun x => B ≤ x) s.heap s.heap [] := va_S.rf
  have hl := lv_entry ([.ref q]) (n := 1) (Nat.le_of_ble_eq_true rfl)
  rw [lg_entry_eq]
  generalize (lg_sl ([.ref q]) ++ List.replicate (1 - (lg_sl ([.ref q])).length) Slot.unset).toArray = ls at hl ⊢
  have hl : lv_has ls 1 [(0, .ref q)] := hl
  refine va_gets hx hb h5 hS hown (hts _ (List.mem_cons_of_mem _ zT_f38)) (fun _ q => q) zd_coder_0 ?_
  refine lv_if_eq (tgt := 13) hx hb zd_coder_3 (by decide) (fun z => absurd z (by decide)) (fun _ => ?_)
  refine lv_aload_n hx hb zd_coder_6 rfl (lv_at hl 0 rfl) ?_
  refine vk_getf hx hb h2 hS hown (hts _ (List.mem_cons_of_mem _ zT_f15)) (fun _ q => q) zd_coder_7 ?_
  refine lv_goto (tgt := 14) hx hb zd_coder_10 (by decide) ?_
  exact W.zret (v := 0) hx hb hr rfl (fun t ht hW => ⟨⟨0, (), rfl, rfl, trivial⟩, va_S.F (A := fun _ => False) va_S.rf ht⟩) (fun _ h => by cases h) zd_coder_14
set_option maxHeartbeats 4000000 in
theorem zc_length (l : Launch) (q n B : Nat) : Met l zy_length zw_length ({ frames := 1, cells := 0, slots := 0, locals := 20 }) (va_Pc [.ref q] (fun U => zstr q n B U)) (va_Qi (fun (r : Int32) (_ : Unit) => r = Int32.ofNat n) (fun _ _ => True) (fun _ => False)) 0 0 (fun _ => False) := by
  refine Met.ofW (cc := prog_13_method_54_code) (maxL := 1) (ret := (some .int)) (by decide) rfl ?_
  intro p e s m args below meth c s₁ Bd hml hv
  obtain ⟨rfl, hz⟩ := hv
  obtain ⟨h0, ⟨h1, h2, t, h3, f, h4⟩, h5⟩ := id hz
  have hx := Bd.exec
  have hb := Bd.bytes
  have hr := Bd.returns
  have hts := atoms_spec (ws := zw_length) Bd.pre
  have hts' : ∀ w ∈ zT, w.before #[Value.ref q] s = true := fun w h => hts w (List.mem_cons_of_mem _ h)
  have hown : s.vm.findClass "java/lang/String" = some m.cls := findClass_of_methodNamed Bd.named
  have hlocks := Bd.notSynchronized
  have hS : va_S (fun x => B ≤ x) s.heap s.heap [] := va_S.rf
  have hl := lv_entry ([.ref q]) (n := 1) (Nat.le_of_ble_eq_true rfl)
  rw [lg_entry_eq]
  generalize (lg_sl ([.ref q]) ++ List.replicate (1 - (lg_sl ([.ref q])).length) Slot.unset).toArray = ls at hl ⊢
  have hl : lv_has ls 1 [(0, .ref q)] := hl
  refine lv_aload_n hx hb zd_length_0 rfl (lv_at hl 0 rfl) ?_
  refine vk_getf hx hb h3 hS hown (hts' _ zT_f9) (fun _ q => q) zd_length_1 ?_
  refine va_tlen (v := Int32.ofNat n) hx hb h4 hS rfl zd_length_4 ?_
  refine lv_aload_n hx hb zd_length_5 rfl (lv_at hl 0 rfl) ?_
  have hG : GoodIn zT (wsV "java/lang/String" 335 "java/lang/String" zy_coder zw_coder) := by
    intro w hw
    simp only [wsV, List.cons_append, List.nil_append, List.mem_cons, zw_coder] at hw
    rcases hw with rfl | rfl | rfl | rfl | rfl | hw
    · exact zT_in zT_m335
    · exact zT_in zT_coderI
    · exact zT_in zT_coderS
    · exact zT_in zT_strI
    · exact zT_in zT_coder
    · exact zT_in hw
  refine va_calli (A0 := fun _ => False) (A1 := fun _ => False) (va_runV (As := []) (rest := [.int (Int32.ofNat n)]) ⟨hx, hb, hml, hown, hts'⟩ (zc_coder l q n B) (cwV 0 hts' hG rfl rfl rfl (by decide +kernel) ⟨Nat.le_of_ble_eq_true rfl, Nat.le_of_ble_eq_true rfl⟩) ⟨fun a U g mk z => ⟨z.1, z.2.blind⟩, va_Orecv h1 hS, fun U hU hW => ⟨rfl, hz.go hW (by rw [hU]; exact Nat.le_refl _) (fun a _ _ => by rw [hU])⟩⟩ rfl rfl hl.1 rfl (lv_room (Nat.le_of_ble_eq_true rfl)) zd_length_6 ⟨Nat.zero_le _, Nat.zero_le _⟩) va_S.rf (fun _ _ z => z) (fun _ z => z) (fun r u t H1 locs ht hvm hw hB hz1 hk1 hS1 => ?_)
  subst hw
  refine lv_ishr hx hb zd_length_9 ?_
  rw [sb_shr0]
  exact W.iret (v := Int32.ofNat n) hx hb hr (fun t ht hW => ⟨⟨_, (), rfl, rfl, trivial⟩, hS1.F ht⟩) (fun q hq => hS1.2.2 q hq) zd_length_10
