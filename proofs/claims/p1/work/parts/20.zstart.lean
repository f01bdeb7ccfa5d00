/-! THE START: what the Statement gives of classes, arrays and constant texts -/
def zFL : List Jvm.Cond := flatC (Jvm.Cond.and given_1 narrow_1)
def zcs (q : String × Nat × String) : Bool :=
  decide (Cond.stringRef q.1 q.2.1 q.2.2 ∈ lw_tbl) && decide (Cond.exactly (.string q.1 q.2.1) "java/lang/String" ∈ zFL) && decide (Cond.eq (.field (.string q.1 q.2.1) "java/lang/String" "coder" "B") (.int 0) ∈ zFL) && decide (Cond.arrayOf (.field (.string q.1 q.2.1) "java/lang/String" "value" "[B") .byte ∈ zFL) && decide (Cond.eq (.length (.field (.string q.1 q.2.1) "java/lang/String" "value" "[B")) (.int (Int32.ofNat q.2.2.length)) ∈ zFL) && (List.range q.2.2.length).all (fun j => decide (Cond.eq (.elem (.field (.string q.1 q.2.1) "java/lang/String" "value" "[B") (.int (Int32.ofNat j))) (.int (Int32.ofNat (q.2.2.toList.getD j ' ').toNat)) ∈ zFL)) && decide (q.2.2.length < 100)
set_option maxRecDepth 100000 in
theorem zcs_0 : zcs ("DesignReaderModel", 79, "level") = true := by decide +kernel
set_option maxRecDepth 100000 in
theorem zcs_1 : zcs ("DesignReaderModel", 81, "const") = true := by decide +kernel
set_option maxRecDepth 100000 in
theorem zcs_2 : zcs ("DesignReaderModel", 83, "fun") = true := by decide +kernel
set_option maxRecDepth 100000 in
theorem zcs_3 : zcs ("DesignReaderModel", 85, "mode") = true := by decide +kernel
set_option maxRecDepth 100000 in
theorem zcs_4 : zcs ("DesignReaderModel", 87, "in") = true := by decide +kernel
set_option maxRecDepth 100000 in
theorem zcs_5 : zcs ("DesignReaderModel", 89, "reg") = true := by decide +kernel
set_option maxRecDepth 100000 in
theorem zcs_6 : zcs ("DesignReaderModel", 91, "wire") = true := by decide +kernel
set_option maxRecDepth 100000 in
theorem zcs_7 : zcs ("DesignReaderModel", 93, "out") = true := by decide +kernel
set_option maxRecDepth 100000 in
theorem zcs_8 : zcs ("DesignReaderModel", 94, "next") = true := by decide +kernel
set_option maxRecDepth 100000 in
theorem zcs_9 : zcs ("DesignReaderModel", 96, "if") = true := by decide +kernel
set_option maxRecDepth 100000 in
theorem zcs_10 : zcs ("DesignReaderModel", 98, "else") = true := by decide +kernel
set_option maxRecDepth 100000 in
theorem zcs_11 : zcs ("DesignReaderModel", 100, "case") = true := by decide +kernel
set_option maxRecDepth 100000 in
theorem zcs_12 : zcs ("DesignReaderModel", 102, "default") = true := by decide +kernel
set_option maxRecDepth 100000 in
theorem zcs_13 : zcs ("DesignReaderModel", 104, "num") = true := by decide +kernel
set_option maxRecDepth 100000 in
theorem zcs_14 : zcs ("DesignReaderModel", 106, "zext") = true := by decide +kernel
set_option maxRecDepth 100000 in
theorem zcs_15 : zcs ("DesignReaderModel", 108, "sext") = true := by decide +kernel
set_option maxRecDepth 100000 in
theorem zcs_16 : zcs ("DesignReaderModel", 110, "any") = true := by decide +kernel
set_option maxRecDepth 100000 in
theorem zcs_17 : zcs ("DesignReaderModel", 112, "all") = true := by decide +kernel
set_option maxRecDepth 100000 in
theorem zcs_18 : zcs ("DesignReaderModel", 114, "odd") = true := by decide +kernel
set_option maxRecDepth 100000 in
theorem zcs_19 : zcs ("DesignReader$Writer", 66, "") = true := by decide +kernel
theorem zcs_all : zstrs.all zcs = true := by
  apply List.all_eq_true.mpr
  unfold zstrs
  exact List.forall_mem_cons.mpr ⟨zcs_0, List.forall_mem_cons.mpr ⟨zcs_1, List.forall_mem_cons.mpr ⟨zcs_2, List.forall_mem_cons.mpr ⟨zcs_3, List.forall_mem_cons.mpr ⟨zcs_4, List.forall_mem_cons.mpr ⟨zcs_5, List.forall_mem_cons.mpr ⟨zcs_6, List.forall_mem_cons.mpr ⟨zcs_7, List.forall_mem_cons.mpr ⟨zcs_8, List.forall_mem_cons.mpr ⟨zcs_9, List.forall_mem_cons.mpr ⟨zcs_10, List.forall_mem_cons.mpr ⟨zcs_11, List.forall_mem_cons.mpr ⟨zcs_12, List.forall_mem_cons.mpr ⟨zcs_13, List.forall_mem_cons.mpr ⟨zcs_14, List.forall_mem_cons.mpr ⟨zcs_15, List.forall_mem_cons.mpr ⟨zcs_16, List.forall_mem_cons.mpr ⟨zcs_17, List.forall_mem_cons.mpr ⟨zcs_18, List.forall_mem_cons.mpr ⟨zcs_19, fun _ h => absurd h List.not_mem_nil⟩⟩⟩⟩⟩⟩⟩⟩⟩⟩⟩⟩⟩⟩⟩⟩⟩⟩⟩⟩
theorem zcl_I : zcl.all (fun q => decide (Cond.instantiable q.1 q.2.2 ∈ lw_tbl)) = true := by decide +kernel
theorem zT_sub {w : Cond} (h : w ∈ zT) : w ∈ lw_tbl := (List.mem_filter.mp h).1
theorem zAO_T : Cond.arrayOver (.object "DesignReader$Tree") ∈ lw_tbl := by decide +kernel
theorem zAO_S : Cond.arrayOver (.object "java/lang/String") ∈ lw_tbl := by decide +kernel
theorem zZ_l : Cond.laysStatic "java/lang/String" "COMPACT_STRINGS" "Z" ∈ lw_tbl := by decide +kernel
theorem zZ_v : Cond.eq (.static "java/lang/String" "COMPACT_STRINGS" "Z") (.int 1) ∈ zFL := by decide +kernel
theorem zarr_prim {args : Array Value} {s : State} {ty : FieldType} (h : (Cond.arrayClass ty).before args s = true) : ∃ cA : ClassId, ArrOfT s cA ty ∧ s.vm.findClass ("[" ++ ty.toString) = some cA := by
  obtain ⟨cA, kA, comp, h1, h2, h3⟩ := Cond.arrayClass_spec h
  exact ⟨cA, fun N z => ⟨(fun k h => by cases h), kA, h2, comp, h3⟩, h1⟩
theorem zarr_obj {s : State} {C : String} (h : va_AO C s) : ∃ cA : ClassId, ArrOfT s cA (.object C) ∧ va_RA s cA (.object C) := by
  obtain ⟨comp, cA, kA, h1, h2, h3, h4, h5⟩ := Cond.arrayOver_spec h
  exact ⟨cA, fun N z => ⟨(fun k h => by cases h), kA, h3, comp, h4⟩, kA, comp, h3, h4, h1, h5⟩
theorem zstart {args : Array Value} {s : State} (b : Nat) (hts : ∀ w ∈ lw_tbl, w.before args s = true) (hgv : (Jvm.Cond.and given_1 narrow_1).before args s = true) : ∃ (D : va_G) (cA : Nat → ClassId) (ad : Nat → Nat), va_K D zcl (ztl cA) s ∧ zcon ad s.heap.size s ∧ ad 700 = b := by
  have hfl := flat_of_before _ hgv
  have hA : ∀ a : Nat, a < s.heap.size → ¬ (fun q => s.heap.size ≤ q) a := fun a ha hb => absurd hb (Nat.not_le.mpr ha)
  -- classes
  have hC : ∀ k : Nat, ∃ q : ClassId × (Nat → Nat), ∀ (C : String) (T : u_T) (N : Nat), zcl[k]? = some (C, T, N) → u_Kn s C T N q.1 q.2 := by
    intro k
    cases hk : zcl[k]? with
    | none => exact ⟨(0, fun _ => 0), fun C T N h => by cases h⟩
    | some x =>
      obtain ⟨C, T, N⟩ := x
      have hi := of_decide_eq_true (List.all_eq_true.mp zcl_I _ (List.mem_of_getElem? hk))
      obtain ⟨cC, iS, h⟩ := u_known (C := C) (T := T) (N := N) (n := N) hts (fun w hw => zT_sub (zcl_ws hk w hw)) (hts _ hi)
      exact ⟨(cC, iS), fun C' T' N' h' => by cases h'; exact h⟩
  obtain ⟨dd, hdd⟩ := Classical.axiomOfChoice hC
  -- arrays
  have hO1 : va_AO "DesignReader$Tree" s := va_AO.of (hts _ zAO_T)
  have hO2 : va_AO "java/lang/String" s := va_AO.of (hts _ zAO_S)
  obtain ⟨a0, p0, q0⟩ := zarr_prim (hts _ (zT_sub (List.mem_of_getElem? ztyw_0)))
  obtain ⟨a1, p1, q1⟩ := zarr_prim (hts _ (zT_sub (List.mem_of_getElem? ztyw_1)))
  obtain ⟨a2, p2, q2⟩ := zarr_obj hO1
  obtain ⟨a3, p3, q3⟩ := zarr_obj hO2
  -- texts
  have hS : ∀ i : Nat, ∃ a : Nat, ∀ (k : Nat) (o tx : String), zstrs[i]? = some (o, k, tx) → vk_R o k tx a s ∧ va_O "java/lang/String" a (fun q => s.heap.size ≤ q) s s.heap ∧ va_OF "java/lang/String" "coder" "B" (.int 0) a (fun q => s.heap.size ≤ q) s s.heap ∧ ∃ t : Nat, va_OF "java/lang/String" "value" "[B" (.ref t) a (fun q => s.heap.size ≤ q) s s.heap ∧ ∃ f : Nat → Value, va_T .byte t tx.length f (fun q => s.heap.size ≤ q) s s.heap := by
    intro i
    cases hi : zstrs[i]? with
    | none => exact ⟨0, fun k o tx h => by cases h⟩
    | some x =>
      obtain ⟨o, k, tx⟩ := x
      have hc := List.all_eq_true.mp zcs_all _ (List.mem_of_getElem? hi)
      unfold zcs at hc
      simp only [Bool.and_eq_true] at hc
      obtain ⟨⟨⟨⟨⟨⟨c1, c2⟩, c3⟩, c4⟩, c5⟩, c6⟩, c7⟩ := hc
      have c1 := hts _ (of_decide_eq_true c1)
      have c2 := hfl _ (of_decide_eq_true c2)
      have c3 := hfl _ (of_decide_eq_true c3)
      have c4 := hfl _ (of_decide_eq_true c4)
      have c5 := hfl _ (of_decide_eq_true c5)
      have c7 : tx.length < 100 := of_decide_eq_true c7
      obtain ⟨a, cx, cc, kA, g1, g2, g3, g4, g5, g6, -⟩ := Cond.exactly_spec (args := args) (first := s) (o := none) (s := s) (idx := []) (t := .string o k) (cls := "java/lang/String") c2
      obtain ⟨t, ht, hT⟩ := va_Tof (f := fun j => .int (Int32.ofNat (tx.toList.getD j ' ').toNat)) (A := fun q => s.heap.size ≤ q) (N := tx.length) (by omega) c4 (va_eqt c5) (fun j hj => va_eqt (hfl _ (of_decide_eq_true (List.all_eq_true.mp c6 j (List.mem_range.mpr hj))))) hA
      refine ⟨a, fun k' o' tx' h' => ?_⟩
      cases h'
      exact ⟨vk_R.of c1 g1, ⟨cc, g3, g5, by rw [g6]; exact g2, hA a (Array.getElem?_eq_some_iff.mp g3).1⟩, vk_OFof g1 (va_eqt c3) hA, t, vk_OFof g1 ht hA, _, hT⟩
  obtain ⟨adS, hadS⟩ := Classical.axiomOfChoice hS
  refine ⟨(fun k => (dd k).1, fun k => (dd k).2), fun t => if t = 0 then a0 else if t = 1 then a1 else if t = 2 then a2 else a3, fun i => if i = 700 then b else adS (i - 500), ⟨fun k q hq => hdd k q.1 q.2.1 q.2.2 hq, fun k q hq => ?_⟩, ⟨fun i k o tx hi => ?_, ?_, hO1, hO2⟩, if_pos rfl⟩
  · match k, hq with
    | 0, hq => cases hq; exact ⟨p0, q0⟩
    | 1, hq => cases hq; exact ⟨p1, q1⟩
    | 2, hq => cases hq; exact ⟨p2, q2⟩
    | 3, hq => cases hq; exact ⟨p3, q3⟩
    | k + 4, hq => simp [ztl] at hq
  · have hlt : i < 200 := Nat.lt_of_lt_of_le (List.getElem?_eq_some_iff.mp hi).1 (by decide)
    have e1 : (if 500 + i = 700 then b else adS (500 + i - 500)) = adS i := by
      rw [if_neg (by omega), Nat.add_sub_cancel_left]
    show vk_R o k tx (if 500 + i = 700 then b else adS (500 + i - 500)) s ∧ va_O "java/lang/String" (if 500 + i = 700 then b else adS (500 + i - 500)) (fun q => s.heap.size ≤ q) s s.heap ∧ va_OF "java/lang/String" "coder" "B" (.int 0) (if 500 + i = 700 then b else adS (500 + i - 500)) (fun q => s.heap.size ≤ q) s s.heap ∧ ∃ t : Nat, va_OF "java/lang/String" "value" "[B" (.ref t) (if 500 + i = 700 then b else adS (500 + i - 500)) (fun q => s.heap.size ≤ q) s s.heap ∧ ∃ f : Nat → Value, va_T .byte t tx.length f (fun q => s.heap.size ≤ q) s s.heap
    rw [e1]
    exact hadS i k o tx hi
  · exact va_Zof (hts _ zZ_l) (hts _ (zT_sub zT_strI)) (va_eqt (hfl _ zZ_v)) hA
