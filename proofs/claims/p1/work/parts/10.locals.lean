/-! THE ABSTRACT MACHINE, 1: values by cell numbers, locals as a list, the state of all cells as two functions -/
/-- a local of which nothing is known -/
def zu : Value := .retAddr 0
def zknown : Value → Bool
  | .retAddr _ => false
  | _ => true
/-- a value of the abstract machine (its references are cell numbers) as one of the machine -/
def zcv (ad : Nat → Nat) : Value → Value
  | .int x => .int x
  | .long x => .long x
  | .float x => .float x
  | .double x => .double x
  | .null => .null
  | .ref i => .ref (ad i)
  | .retAddr k => .retAddr k
theorem zcv_cat (ad : Nat → Nat) (v : Value) : (zcv ad v).category = v.category := by cases v <;> rfl
/-- the known locals, with their places -/
def zlv (ad : Nat → Nat) : Nat → List Value → List (Nat × Value)
  | _, [] => []
  | i, v :: r => if zknown v = true then (i, zcv ad v) :: zlv ad (i + 1) r else zlv ad (i + 1) r
theorem zlv_mem {ad : Nat → Nat} {q : Nat × Value} : ∀ {lv : List Value} {i : Nat}, q ∈ zlv ad i lv ↔ ∃ (j : Nat) (v : Value), lv[j]? = some v ∧ zknown v = true ∧ q = (i + j, zcv ad v) := by
  intro lv
  induction lv with
  | nil => intro i; simp [zlv]
  | cons a r ih =>
    intro i
    have hs : (∃ (j : Nat) (v : Value), (a :: r)[j]? = some v ∧ zknown v = true ∧ q = (i + j, zcv ad v)) ↔ (zknown a = true ∧ q = (i, zcv ad a)) ∨ ∃ (j : Nat) (v : Value), r[j]? = some v ∧ zknown v = true ∧ q = (i + 1 + j, zcv ad v) := by
      constructor
      · rintro ⟨j, v, h1, h2, h3⟩
        cases j with
        | zero => simp at h1; subst h1; exact Or.inl ⟨h2, by simpa using h3⟩
        | succ j => simp at h1; exact Or.inr ⟨j, v, h1, h2, by rw [h3]; congr 1; omega⟩
      · rintro (⟨h1, h2⟩ | ⟨j, v, h1, h2, h3⟩)
        · exact ⟨0, a, by simp, h1, by simpa using h2⟩
        · exact ⟨j + 1, v, by simpa using h1, h2, by rw [h3]; congr 1; omega⟩
    rw [hs]
    unfold zlv
    by_cases ha : zknown a = true
    · rw [if_pos ha, List.mem_cons, ih]
      constructor
      · rintro (h | h)
        · exact Or.inl ⟨ha, h⟩
        · exact Or.inr h
      · rintro (⟨-, h⟩ | h)
        · exact Or.inl h
        · exact Or.inr h
    · rw [if_neg ha, ih]
      constructor
      · intro h
        exact Or.inr h
      · rintro (⟨h, -⟩ | h)
        · exact absurd h ha
        · exact h
theorem zl_at {ad : Nat → Nat} {ls : Array Slot} {nL j : Nat} {lv : List Value} {v : Value} (h : lv_has ls nL (zlv ad 0 lv)) (hj : lv[j]? = some v) (hk : zknown v = true) : ls[j]? = some (.val (zcv ad v)) :=
  h.2.2 (j, zcv ad v) (zlv_mem.mpr ⟨j, v, hj, hk, by simp⟩)
/-- forget a long that stands right before place i -/
def zcutAt (lv : List Value) (j : Nat) : List Value := match lv[j]? with
  | some (.long _) => lv.set j zu
  | some (.double _) => lv.set j zu
  | _ => lv
def zcut (lv : List Value) : Nat → List Value
  | 0 => lv
  | j + 1 => zcutAt lv j
def zset (lv : List Value) (i : Nat) (v : Value) : List Value := (zcut lv i).set i v
def zset2 (lv : List Value) (i : Nat) (v : Value) : List Value := (zset lv i v).set (i + 1) zu
theorem zcut_len (lv : List Value) (i : Nat) : (zcut lv i).length = lv.length := by
  cases i with
  | zero => rfl
  | succ j => show (zcutAt lv j).length = _; unfold zcutAt; split <;> simp
theorem zset_len (lv : List Value) (i : Nat) (v : Value) : (zset lv i v).length = lv.length := by simp [zset, zcut_len]
theorem zset2_len (lv : List Value) (i : Nat) (v : Value) : (zset2 lv i v).length = lv.length := by simp [zset2, zset_len]
theorem zcut_get {lv : List Value} {i j : Nat} {w : Value} (h : (zcut lv i)[j]? = some w) (hk : zknown w = true) : lv[j]? = some w ∧ ¬ (j + 1 = i ∧ w.category = 2) := by
  cases i with
  | zero => exact ⟨h, fun q => absurd q.1 (by omega)⟩
  | succ k =>
    replace h : (zcutAt lv k)[j]? = some w := h
    unfold zcutAt at h
    by_cases hjk : j = k
    · subst hjk
      split at h
      · rw [List.getElem?_set_self' ] at h
        cases hq : lv[j]? with
        | none => rw [hq] at h; cases h
        | some x => rw [hq] at h; cases h; cases hk
      · rw [List.getElem?_set_self' ] at h
        cases hq : lv[j]? with
        | none => rw [hq] at h; cases h
        | some x => rw [hq] at h; cases h; cases hk
      · rename_i h1 h2
        refine ⟨h, fun q => ?_⟩
        cases w with
        | long x => exact h1 x h
        | double x => exact h2 x h
        | _ => exact absurd q.2 (by simp [Value.category])
    · have e : lv[j]? = some w := by
        split at h
        · rwa [List.getElem?_set_ne (fun q => hjk q.symm)] at h
        · rwa [List.getElem?_set_ne (fun q => hjk q.symm)] at h
        · exact h
      exact ⟨e, fun q => hjk (by omega)⟩
theorem zl_set1 {ad : Nat → Nat} {ls : Array Slot} {nL i : Nat} {lv : List Value} {v : Value} (hi : i < lv.length)
    (h : lv_has ls nL ((i, zcv ad v) :: (zlv ad 0 lv).filter (fun q => !(q.1 == i) && !(q.1 + 1 == i && q.2.category == 2)))) : lv_has ls nL (zlv ad 0 (zset lv i v)) := by
  refine ⟨h.1, h.2.1, fun q hq => ?_⟩
  obtain ⟨j, w, hj, hk, rfl⟩ := zlv_mem.mp hq
  rw [Nat.zero_add]
  by_cases hji : j = i
  · subst hji
    rw [zset, List.getElem?_set_self (by rw [zcut_len]; exact hi)] at hj
    cases hj
    exact h.2.2 _ List.mem_cons_self
  · rw [zset, List.getElem?_set_ne (fun q => hji q.symm)] at hj
    obtain ⟨h1, h2⟩ := zcut_get hj hk
    refine h.2.2 _ (List.mem_cons_of_mem _ (List.mem_filter.mpr ⟨zlv_mem.mpr ⟨j, w, h1, hk, by simp⟩, ?_⟩))
    rw [zcv_cat]
    simp only [Bool.and_eq_true, Bool.not_eq_true', beq_eq_false_iff_ne, ne_eq, Bool.and_eq_false_iff]
    refine ⟨hji, ?_⟩
    by_cases q : j + 1 = i
    · exact Or.inr (fun z => h2 ⟨q, z⟩)
    · exact Or.inl q
theorem zl_set2 {ad : Nat → Nat} {ls : Array Slot} {nL i : Nat} {lv : List Value} {v : Value} (hi : i < lv.length)
    (h : lv_has ls nL ((i, zcv ad v) :: (zlv ad 0 lv).filter (fun q => !(q.1 == i) && (!(q.1 == i + 1) && !(q.1 + 1 == i && q.2.category == 2))))) : lv_has ls nL (zlv ad 0 (zset2 lv i v)) := by
  refine ⟨h.1, h.2.1, fun q hq => ?_⟩
  obtain ⟨j, w, hj, hk, rfl⟩ := zlv_mem.mp hq
  rw [Nat.zero_add]
  by_cases hj1 : j = i + 1
  · subst hj1
    rw [zset2, List.getElem?_set_self'] at hj
    cases hq : (zset lv i v)[i + 1]? with
    | none => rw [hq] at hj; cases hj
    | some x => rw [hq] at hj; cases hj; cases hk
  rw [zset2, List.getElem?_set_ne (fun q => hj1 q.symm)] at hj
  by_cases hji : j = i
  · subst hji
    rw [zset, List.getElem?_set_self (by rw [zcut_len]; exact hi)] at hj
    cases hj
    exact h.2.2 _ List.mem_cons_self
  · rw [zset, List.getElem?_set_ne (fun q => hji q.symm)] at hj
    obtain ⟨h1, h2⟩ := zcut_get hj hk
    refine h.2.2 _ (List.mem_cons_of_mem _ (List.mem_filter.mpr ⟨zlv_mem.mpr ⟨j, w, h1, hk, by simp⟩, ?_⟩))
    rw [zcv_cat]
    simp only [Bool.and_eq_true, Bool.not_eq_true', beq_eq_false_iff_ne, ne_eq, Bool.and_eq_false_iff]
    refine ⟨hji, hj1, ?_⟩
    by_cases q : j + 1 = i
    · exact Or.inr (fun z => h2 ⟨q, z⟩)
    · exact Or.inl q
/-- forget the locals at some places -/
def zfg : List Nat → List Value → List Value
  | [], lv => lv
  | i :: r, lv => zfg r (lv.set i zu)
theorem zfg_len : ∀ (is : List Nat) (lv : List Value), (zfg is lv).length = lv.length
  | [], _ => rfl
  | i :: r, lv => by rw [zfg, zfg_len r]; simp
theorem zfg_get : ∀ (is : List Nat) (lv : List Value) (j : Nat) (w : Value), (zfg is lv)[j]? = some w → zknown w = true → lv[j]? = some w
  | [], _, _, _, h, _ => h
  | i :: r, lv, j, w, h, hk => by
    have h1 := zfg_get r (lv.set i zu) j w h hk
    by_cases hj : j = i
    · subst hj
      rw [List.getElem?_set_self'] at h1
      cases hq : lv[j]? with
      | none => rw [hq] at h1; cases h1
      | some x => rw [hq] at h1; cases h1; cases hk
    · rwa [List.getElem?_set_ne (fun q => hj q.symm)] at h1
theorem zl_fg {ad : Nat → Nat} {ls : Array Slot} {nL : Nat} {lv : List Value} (is : List Nat) (h : lv_has ls nL (zlv ad 0 lv)) : lv_has ls nL (zlv ad 0 (zfg is lv)) := by
  refine ⟨h.1, h.2.1, fun q hq => ?_⟩
  obtain ⟨j, w, hj, hk, rfl⟩ := zlv_mem.mp hq
  rw [Nat.zero_add]
  exact zl_at h (zfg_get is lv j w hj hk) hk
/-- arguments as locals: a long takes two places -/
def zargs : List Value → List Value
  | [] => []
  | v :: r => if v.category = 2 then v :: zu :: zargs r else v :: zargs r
def zlocals (n : Nat) (as : List Value) : List Value := zargs as ++ List.replicate (n - (zargs as).length) zu
theorem zlv_args (ad : Nat → Nat) : ∀ (as : List Value) (i : Nat) (q : Nat × Value), q ∈ zlv ad i (zargs as) → q ∈ lv_args i (as.map (zcv ad)) := by
  intro as
  induction as with
  | nil => intro i q h; simp [zargs, zlv] at h
  | cons v r ih =>
    intro i q h
    by_cases hc : v.category = 2
    · have hk : zknown v = true := by cases v <;> first | rfl | (exact absurd hc (by simp [Value.category]))
      have e : zlv ad i (zargs (v :: r)) = (i, zcv ad v) :: zlv ad (i + 2) (zargs r) := by
        have hz : zlv ad (i + 1) (zu :: zargs r) = zlv ad (i + 2) (zargs r) := by
          show (if zknown zu = true then _ else _) = _
          exact if_neg (by decide)
        rw [zargs, if_pos hc, zlv, if_pos hk, hz]
      rw [e] at h
      simp only [List.map_cons, lv_args, zcv_cat, hc, if_true]
      rcases List.mem_cons.mp h with rfl | h
      · exact List.mem_cons_self
      · exact List.mem_cons_of_mem _ (ih _ _ h)
    · simp only [List.map_cons, lv_args, zcv_cat, hc, if_false]
      rw [zargs, if_neg hc, zlv] at h
      by_cases hk : zknown v = true
      · rw [if_pos hk] at h
        rcases List.mem_cons.mp h with rfl | h
        · exact List.mem_cons_self
        · exact List.mem_cons_of_mem _ (ih _ _ h)
      · rw [if_neg hk] at h
        exact List.mem_cons_of_mem _ (ih _ _ h)
theorem zargs_len (ad : Nat → Nat) : ∀ as : List Value, (lg_sl (as.map (zcv ad))).length = (zargs as).length := by
  intro as
  induction as with
  | nil => rfl
  | cons v r ih =>
    by_cases hc : v.category = 2
    · simp [lg_sl, zargs, zcv_cat, hc] at ih ⊢
      omega
    · simp [lg_sl, zargs, zcv_cat, hc] at ih ⊢
      omega
theorem zl_entry {ad : Nat → Nat} {n : Nat} (as : List Value) (h : (zargs as).length ≤ n) : lv_has ((lg_sl (as.map (zcv ad)) ++ List.replicate (n - (lg_sl (as.map (zcv ad))).length) Slot.unset).toArray) n (zlv ad 0 (zlocals n as)) := by
  have h0 := lv_entry (as.map (zcv ad)) (n := n) (by rw [zargs_len]; exact h)
  refine ⟨h0.1, h0.2.1, fun q hq => h0.2.2 q (zlv_args ad as 0 q ?_)⟩
  obtain ⟨j, w, hj, hk, rfl⟩ := zlv_mem.mp hq
  refine zlv_mem.mpr ⟨j, w, ?_, hk, rfl⟩
  unfold zlocals at hj
  by_cases hl : j < (zargs as).length
  · rwa [List.getElem?_append_left hl] at hj
  · rw [List.getElem?_append_right (by omega)] at hj
    have := List.eq_of_mem_replicate (List.mem_of_getElem? hj)
    subst this
    cases hk
theorem zlocals_len {n : Nat} {as : List Value} (h : (zargs as).length ≤ n) : (zlocals n as).length = n := by
  simp [zlocals]
  omega
