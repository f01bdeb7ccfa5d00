/-! THE ABSTRACT MACHINE, 6: it stands for the machine: what holds at a point -/
def ztl (cA : Nat → ClassId) : List (ClassId × FieldType) := [(cA 0, .int), (cA 1, .byte), (cA 2, .object "DesignReader$Tree"), (cA 3, .object "java/lang/String")]
/-- constant texts: resolved; ordinary, of one byte a sign -/
def zcon (ad : Nat → Nat) (B : Nat) (U : State) : Prop :=
  (∀ (i k : Nat) (o tx : String), zstrs[i]? = some (o, k, tx) → vk_R o k tx (ad (500 + i)) U ∧ va_O "java/lang/String" (ad (500 + i)) (fun q => B ≤ q) U U.heap ∧ va_OF "java/lang/String" "coder" "B" (.int 0) (ad (500 + i)) (fun q => B ≤ q) U U.heap ∧ ∃ t : Nat, va_OF "java/lang/String" "value" "[B" (.ref t) (ad (500 + i)) (fun q => B ≤ q) U U.heap ∧ ∃ f : Nat → Value, va_T .byte t tx.length f (fun q => B ≤ q) U U.heap) ∧
  (va_Z "java/lang/String" "COMPACT_STRINGS" "Z" (.int 1) (fun q => B ≤ q) U U.heap ∧ va_AO "DesignReader$Tree" U ∧ va_AO "java/lang/String" U)
theorem zcon.go {ad ad' : Nat → Nat} {B : Nat} {s U : State} (h : zcon ad B s) (hW : s.WarmedH U.vm) (hk : ∀ a : Nat, a < s.heap.size → ¬ B ≤ a → U.heap[a]? = s.heap[a]?) (ha : ∀ i, ad' (500 + i) = ad (500 + i)) : zcon ad' B U := by
  refine ⟨fun i k o tx hi => ?_, (h.2.1.moved hW.alike).kept hk, h.2.2.1.moved hW.alike, h.2.2.2.moved hW.alike⟩
  obtain ⟨h1, h2, h3, t, h4, f, h5⟩ := h.1 i k o tx hi
  rw [ha i]
  exact ⟨h1.warm hW, (h2.moved hW.alike).kept hk, (h3.moved hW.alike).kept hk, t, (h4.moved hW.alike).kept hk, f, (h5.moved hW.alike).kept hk⟩
theorem zcon.blind {ad : Nat → Nat} {B : Nat} {U : State} {g : JFrame} {mk : MethodId} {a : Array Value} (h : zcon ad B U) : zcon ad B (U.calling g mk a) := by
  have hv : U.vm.Alike (U.calling g mk a).vm := Vm.Alike.refl U.vm
  refine ⟨fun i k o tx hi => ?_, va_Z.moved hv h.2.1, va_AO.moved hv h.2.2.1, va_AO.moved hv h.2.2.2⟩
  obtain ⟨h1, h2, h3, t, h4, f, h5⟩ := h.1 i k o tx hi
  exact ⟨h1.same rfl, va_O.moved hv h2, va_OF.moved hv h3, t, va_OF.moved hv h4, f, va_T.moved hv h5⟩
/-- classes: their fields' words, types, names -/
theorem zcl_in : ∀ q ∈ zcl, (u_ws q.1 q.2.1 q.2.2).all (fun w => decide (w ∈ zT)) = true := by decide +kernel
def zclT (i : Nat) : Bool := match zcl[i]?, zfty[i]? with
  | some (_, T, N), some f => (List.range N).all (fun k => decide (parseFieldDescriptor (T k).2.2.1 = some (f k))) && (List.range N).all (fun a => (List.range N).all (fun b => decide (a = b) || decide ((T a).2.1 ≠ (T b).2.1)))
  | _, _ => false
theorem zcl_T : (List.range 7).all zclT = true := by decide +kernel
theorem zcl_N : zcl.length = 7 := rfl
theorem zcl_ws {i N : Nat} {C : String} {T : u_T} (h : zcl[i]? = some (C, T, N)) : ∀ w ∈ u_ws C T N, w ∈ zT := fun w hw => by
  have h1 := zcl_in _ (List.mem_of_getElem? h)
  exact of_decide_eq_true (List.all_eq_true.mp h1 w hw)
theorem zcl_ty {i N : Nat} {C : String} {T : u_T} {f : Nat → FieldType} (h : zcl[i]? = some (C, T, N)) (hf : zfty[i]? = some f) : (∀ k, k < N → parseFieldDescriptor (T k).2.2.1 = some (f k)) ∧ ∀ a, a < N → ∀ b, b < N → a ≠ b → (T a).2.1 ≠ (T b).2.1 := by
  have hi : i < 7 := by
    have := (List.getElem?_eq_some_iff.mp h).1
    rwa [zcl_N] at this
  have h1 := List.all_eq_true.mp zcl_T i (List.mem_range.mpr hi)
  unfold zclT at h1
  rw [h, hf] at h1
  simp only [Bool.and_eq_true] at h1
  refine ⟨fun k hk => of_decide_eq_true (List.all_eq_true.mp h1.1 k (List.mem_range.mpr hk)), fun a ha b hb hab => ?_⟩
  have h2 := List.all_eq_true.mp (List.all_eq_true.mp h1.2 a (List.mem_range.mpr ha)) b (List.mem_range.mpr hb)
  rcases Bool.or_eq_true_iff.mp h2 with h3 | h3
  · exact absurd (of_decide_eq_true h3) hab
  · exact of_decide_eq_true h3
section ZSND
variable {p : Program} {l : Launch} {e : Env} {R : Room} {s : State} {m : MethodId} {args : Array Value} {below : List Frame} {meth : Method} {cd : Code} {Q : State → Prop}
variable {D : va_G} {cA : Nat → ClassId} {A : Nat → Prop} {M : zMth} {ad0 : Nat → Nat} {n0 B : Nat}
/-- what doesn't change while a method runs -/
def zFx (p : Program) (R : Room) (s : State) (m : MethodId) (args : Array Value) (meth : Method) (cd : Code) (D : va_G) (cA : Nat → ClassId) (A : Nat → Prop) (M : zMth) (ad0 : Nat → Nat) (B : Nat) : Prop :=
  (p.tables.exec = Jvm.exec ∧ cd.code = M.2.1 ∧ cd.maxLocals = zmL M ∧ s.vm.findClass (zmO M) = some m.cls ∧ ∀ w ∈ zT, w.before args s = true) ∧
  (va_K D zcl (ztl cA) s ∧ (∀ q, s.heap.size ≤ q → A q) ∧ zcon ad0 B s ∧ (∀ q, A q → B ≤ q) ∧ B ≤ s.heap.size) ∧
  (meth.sig.returnType = zmR M ∧ meth.locks = false ∧ (M.1.name = "<init>" → meth.name = "<init>")) ∧
  (1 ≤ R.frames ∧ 64 ≤ R.locals ∧ R.cells = zmC M ∧ R.slots = zmS M) ∧ zokT M = true
/-- what holds at a point -/
def zInv (s : State) (D : va_G) (cA : Nat → ClassId) (A : Nat → Prop) (M : zMth) (ad0 : Nat → Nat) (n0 : Nat) (ad : Nat → Nat) (lv : List Value) (st : zS) (c k : Nat) (ls : Array Slot) (H : Heap) (locs : List Loc) : Prop :=
  (lv_has ls (zmL M) (zlv ad 0 lv) ∧ lv.length = zmL M) ∧ (va_P D zcl (zw cA ad st) H ∧ va_D A (zw cA ad st) ∧ va_S A s.heap H locs) ∧ (c ≤ zmC M ∧ k ≤ zmS M) ∧ zag n0 ad0 ad ∧ n0 ≤ st.length
def zKp (p : Program) (l : Launch) (e : Env) (R : Room) (s : State) (m : MethodId) (args : Array Value) (below : List Frame) (meth : Method) (cd : Code) (Q : State → Prop) (D : va_G) (cA : Nat → ClassId) (A : Nat → Prop) (M : zMth) (ad0 : Nat → Nat) (n0 : Nat) (x : zX) : Prop :=
  ∀ (ad : Nat → Nat) (ls : Array Slot) (H : Heap) (locs : List Loc), zInv s D cA A M ad0 n0 ad x.2.1 x.2.2.2.1 x.2.2.2.2.1 x.2.2.2.2.2 ls H locs → W p l e R s m args below meth cd H locs x.2.2.2.2.1 x.2.2.2.2.2 Q (F0 m x.1 ls (x.2.2.1.map (zcv ad)))
theorem zw_in {i : Nat} {w : Cond} (F : zFx p R s m args meth cd D cA A M ad0 B) (h : zT[i]? = some w) : w.before args s = true := F.1.2.2.2.2 w (List.mem_of_getElem? h)
theorem zin_of {i : Int32} {n : Nat} (h : zin i n = true) : vp_in i n := by
  unfold zin at h
  simp only [Bool.not_eq_true', Bool.or_eq_false_iff, decide_eq_false_iff_not] at h
  exact fun q => q.elim h.1 h.2
theorem zlv_ag {n : Nat} {ad ad' : Nat → Nat} (h : zag n ad ad') : ∀ (lv : List Value) (i : Nat), lv.all (zsc n) = true → zlv ad' i lv = zlv ad i lv := by
  intro lv
  induction lv with
  | nil => intro i _; rfl
  | cons v r ih =>
    intro i hv
    simp only [List.all_cons, Bool.and_eq_true] at hv
    unfold zlv
    rw [zcv_ag h hv.1, ih _ hv.2]
/-- steps on locals and the stack alone: the same point but for place and stack -/
theorem zk_same {pc pc' : Nat} {lv stk stk' : List Value} {st : zS} {c k : Nat} (hk : zKp p l e R s m args below meth cd Q D cA A M ad0 n0 (pc', lv, stk', st, c, k))
    (h : ∀ (ad : Nat → Nat) (ls : Array Slot) (H : Heap) (locs : List Loc), lv_has ls (zmL M) (zlv ad 0 lv) → W p l e R s m args below meth cd H locs c k Q (F0 m pc' ls (stk'.map (zcv ad))) → W p l e R s m args below meth cd H locs c k Q (F0 m pc ls (stk.map (zcv ad)))) : zKp p l e R s m args below meth cd Q D cA A M ad0 n0 (pc, lv, stk, st, c, k) :=
  fun ad ls H locs I => h ad ls H locs I.1.1 (hk ad ls H locs I)
theorem zk_iconst {pc : Nat} {lv stk : List Value} {st : zS} {c k : Nat} {n : Int} (F : zFx p R s m args meth cd D cA A M ad0 B) (hd : decode M.2.1 pc = .ok (.iconst n, 1)) (hk : zKp p l e R s m args below meth cd Q D cA A M ad0 n0 (pc + 1, lv, .int (Int32.ofInt n) :: stk, st, c, k)) : zKp p l e R s m args below meth cd Q D cA A M ad0 n0 (pc, lv, stk, st, c, k) :=
  zk_same hk fun _ _ _ _ _ w => lv_iconst F.1.1 F.1.2.1 hd rfl w
theorem zk_bipush {pc : Nat} {lv stk : List Value} {st : zS} {c k : Nat} {n : Int} (F : zFx p R s m args meth cd D cA A M ad0 B) (hd : decode M.2.1 pc = .ok (.bipush n, 2)) (hk : zKp p l e R s m args below meth cd Q D cA A M ad0 n0 (pc + 2, lv, .int (Int8.ofInt n).toInt32 :: stk, st, c, k)) : zKp p l e R s m args below meth cd Q D cA A M ad0 n0 (pc, lv, stk, st, c, k) :=
  zk_same hk fun _ _ _ _ _ w => lv_bipush F.1.1 F.1.2.1 hd rfl w
theorem zk_sipush {pc : Nat} {lv stk : List Value} {st : zS} {c k : Nat} {n : Int} (F : zFx p R s m args meth cd D cA A M ad0 B) (hd : decode M.2.1 pc = .ok (.sipush n, 3)) (hk : zKp p l e R s m args below meth cd Q D cA A M ad0 n0 (pc + 3, lv, .int (Int16.ofInt n).toInt32 :: stk, st, c, k)) : zKp p l e R s m args below meth cd Q D cA A M ad0 n0 (pc, lv, stk, st, c, k) :=
  zk_same hk fun _ _ _ _ _ w => lv_sipush F.1.1 F.1.2.1 hd rfl w
theorem zk_ldI {i len pc : Nat} {lv stk : List Value} {st : zS} {c k : Nat} {y : zX} (F : zFx p R s m args meth cd D cA A M ad0 B) (hd : (decode M.2.1 pc = .ok (.iload i, 2) ∧ len = 2) ∨ ∃ j : Fin 4, decode M.2.1 pc = .ok (.iload_n j, 1) ∧ (j : Nat) = i ∧ len = 1) (h : zldI i len pc lv stk st c k = some (.inl y)) (hk : zKp p l e R s m args below meth cd Q D cA A M ad0 n0 y) : zKp p l e R s m args below meth cd Q D cA A M ad0 n0 (pc, lv, stk, st, c, k) := by
  unfold zldI zn at h
  split at h
  · rename_i x hx
    cases h
    refine zk_same hk fun ad ls H locs hl w => ?_
    have hv := zl_at (ad := ad) hl hx rfl
    rcases hd with ⟨hd, rfl⟩ | ⟨j, hd, hj, rfl⟩
    · exact lv_iload F.1.1 F.1.2.1 hd hv w
    · exact lv_iload_n F.1.1 F.1.2.1 hd hj hv w
  · cases h
theorem zk_ldA {i len pc : Nat} {lv stk : List Value} {st : zS} {c k : Nat} {y : zX} (F : zFx p R s m args meth cd D cA A M ad0 B) (hd : (decode M.2.1 pc = .ok (.aload i, 2) ∧ len = 2) ∨ ∃ j : Fin 4, decode M.2.1 pc = .ok (.aload_n j, 1) ∧ (j : Nat) = i ∧ len = 1) (h : zldA i len pc lv stk st c k = some (.inl y)) (hk : zKp p l e R s m args below meth cd Q D cA A M ad0 n0 y) : zKp p l e R s m args below meth cd Q D cA A M ad0 n0 (pc, lv, stk, st, c, k) := by
  unfold zldA zn at h
  split at h
  · rename_i x hx
    cases h
    refine zk_same hk fun ad ls H locs hl w => ?_
    have hv := zl_at (ad := ad) hl hx rfl
    rcases hd with ⟨hd, rfl⟩ | ⟨j, hd, hj, rfl⟩
    · exact lv_aload F.1.1 F.1.2.1 hd hv w
    · exact lv_aload_n F.1.1 F.1.2.1 hd hj hv w
  · cases h
theorem zk_soI {i len pc : Nat} {lv stk : List Value} {st : zS} {c k : Nat} {y : zX} (F : zFx p R s m args meth cd D cA A M ad0 B) (hd : (decode M.2.1 pc = .ok (.istore i, 2) ∧ len = 2) ∨ ∃ j : Fin 4, decode M.2.1 pc = .ok (.istore_n j, 1) ∧ (j : Nat) = i ∧ len = 1) (h : zsoI i len pc lv stk st c k = some (.inl y)) (hk : zKp p l e R s m args below meth cd Q D cA A M ad0 n0 y) : zKp p l e R s m args below meth cd Q D cA A M ad0 n0 (pc, lv, stk, st, c, k) := by
  unfold zsoI zn at h
  split at h
  · split at h
    · rename_i x r hi
      cases h
      intro ad ls H locs I
      have hi' : i < zmL M := I.1.2 ▸ hi
      have go : ∀ ls' : Array Slot, lv_has ls' (zmL M) ((i, Value.int x) :: (zlv ad 0 lv).filter (fun q => !(q.1 == i) && !(q.1 + 1 == i && q.2.category == 2))) → W p l e R s m args below meth cd H locs c k Q (F0 m (pc + len) ls' (r.map (zcv ad))) := fun ls' h' => hk ad ls' H locs ⟨⟨zl_set1 (v := .int x) hi h', by rw [zset_len]; exact I.1.2⟩, I.2⟩
      rcases hd with ⟨hd, rfl⟩ | ⟨j, hd, hj, rfl⟩
      · exact lv_istore F.1.1 F.1.2.1 hd I.1.1 hi' rfl go
      · exact lv_istore_n F.1.1 F.1.2.1 hd hj I.1.1 hi' rfl go
    · cases h
  · cases h
theorem zk_soA {i len pc : Nat} {lv stk : List Value} {st : zS} {c k : Nat} {y : zX} (F : zFx p R s m args meth cd D cA A M ad0 B) (hd : (decode M.2.1 pc = .ok (.astore i, 2) ∧ len = 2) ∨ ∃ j : Fin 4, decode M.2.1 pc = .ok (.astore_n j, 1) ∧ (j : Nat) = i ∧ len = 1) (h : zsoA i len pc lv stk st c k = some (.inl y)) (hk : zKp p l e R s m args below meth cd Q D cA A M ad0 n0 y) : zKp p l e R s m args below meth cd Q D cA A M ad0 n0 (pc, lv, stk, st, c, k) := by
  unfold zsoA zn at h
  split at h
  · split at h
    · rename_i x r hi
      cases h
      intro ad ls H locs I
      have hi' : i < zmL M := I.1.2 ▸ hi
      have go : ∀ ls' : Array Slot, lv_has ls' (zmL M) ((i, Value.ref (ad x)) :: (zlv ad 0 lv).filter (fun q => !(q.1 == i) && !(q.1 + 1 == i && q.2.category == 2))) → W p l e R s m args below meth cd H locs c k Q (F0 m (pc + len) ls' (r.map (zcv ad))) := fun ls' h' => hk ad ls' H locs ⟨⟨zl_set1 (v := .ref x) hi h', by rw [zset_len]; exact I.1.2⟩, I.2⟩
      rcases hd with ⟨hd, rfl⟩ | ⟨j, hd, hj, rfl⟩
      · exact lv_astore F.1.1 F.1.2.1 hd I.1.1 hi' rfl go
      · exact lv_astore_n F.1.1 F.1.2.1 hd hj I.1.1 hi' rfl go
    · cases h
  · cases h
theorem zk_inc {i pc : Nat} {n : Int} {lv stk : List Value} {st : zS} {c k : Nat} {y : zX} (F : zFx p R s m args meth cd D cA A M ad0 B) (hd : decode M.2.1 pc = .ok (.iinc i n, 3)) (h : zinc i n pc lv stk st c k = some (.inl y)) (hk : zKp p l e R s m args below meth cd Q D cA A M ad0 n0 y) : zKp p l e R s m args below meth cd Q D cA A M ad0 n0 (pc, lv, stk, st, c, k) := by
  unfold zinc zn at h
  split at h
  · rename_i x hx
    cases h
    intro ad ls H locs I
    have hi : i < lv.length := (List.getElem?_eq_some_iff.mp hx).1
    have hi' : i < zmL M := I.1.2 ▸ hi
    obtain ⟨kk, hkk⟩ := List.getElem?_of_mem (zlv_mem (ad := ad) (i := 0) (lv := lv) (q := (i, .int x)) |>.mpr ⟨i, .int x, hx, rfl, by simp [zcv]⟩)
    exact lv_iinc F.1.1 F.1.2.1 hd I.1.1 hkk rfl hi' rfl fun ls' h' => hk ad ls' H locs ⟨⟨zl_set1 (v := .int (x + Int32.ofInt n)) hi h', by rw [zset_len]; exact I.1.2⟩, I.2⟩
  · cases h
end ZSND
