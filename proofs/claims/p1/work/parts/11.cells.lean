/-! THE ABSTRACT MACHINE, 2: the cells that were made, by their numbers, and the world that they stand for -/
/-- a cell: an object (which class, its fields), an array of numbers (which type, how long, what it holds), an array of references (which type, which cells) -/
abbrev zC : Type := (Nat × List Value) ⊕ ((Nat × Nat × Int32 × List (Nat × Int32)) ⊕ (Nat × List (Option Nat)))
abbrev zS : Type := List zC
/-- what an array holds: what was put last, else the same number everywhere -/
def zfun (d : Int32) : List (Nat × Int32) → Nat → Int32
  | [], _ => d
  | (i, x) :: r, j => if j = i then x else zfun d r j
theorem zfun_upd (d : Int32) (u : List (Nat × Int32)) (i : Nat) (x : Int32) : zfun d ((i, x) :: u) = upd (zfun d u) i x := rfl
theorem zfun_nil (d : Int32) : zfun d [] = fun _ => d := rfl
def zcc (cA : Nat → ClassId) (ad : Nat → Nat) : zC → va_E
  | .inl (ci, fs) => .inr (ci, fs.map (zcv ad))
  | .inr (.inl (t, n, d, u)) => .inl (cA t, n, .inl (zfun d u))
  | .inr (.inr (t, rs)) => .inl (cA t, rs.length, .inr (.inr (.inr (.inr (fun j => (rs.getD j none).map ad)))))
def zw (cA : Nat → ClassId) (ad : Nat → Nat) (st : zS) : va_W := st.mapIdx (fun i c => (ad i, zcc cA ad c))
/-- numbers from 500 on are those of constants -/
def zsc (n : Nat) : Value → Bool
  | .ref i => decide (i < n) || decide (500 ≤ i)
  | _ => true
def zsO (n : Nat) : Option Nat → Bool
  | some i => decide (i < n) || decide (500 ≤ i)
  | none => true
def zscC (n : Nat) : zC → Bool
  | .inl (_, fs) => fs.all (zsc n)
  | .inr (.inl _) => true
  | .inr (.inr (_, rs)) => rs.all (zsO n)
def zag (n : Nat) (ad ad' : Nat → Nat) : Prop := ∀ i, i < n ∨ 500 ≤ i → ad' i = ad i
section ZW
variable {cA : Nat → ClassId} {ad ad' : Nat → Nat} {st : zS} {n : Nat}
theorem zag.rf : zag n ad ad := fun _ _ => rfl
theorem zag.tr {ad'' : Nat → Nat} {n' : Nat} (h : zag n ad ad') (h' : zag n' ad' ad'') (hn : n ≤ n') : zag n ad ad'' := fun i hi => (h' i (hi.elim (fun q => Or.inl (by omega)) Or.inr)).trans (h i hi)
theorem zag.lo {n' : Nat} (h : zag n ad ad') (hn : n' ≤ n) : zag n' ad ad' := fun i hi => h i (hi.elim (fun q => Or.inl (by omega)) Or.inr)
theorem zcv_ag {v : Value} (h : zag n ad ad') (hv : zsc n v = true) : zcv ad' v = zcv ad v := by
  cases v with
  | ref i =>
    simp only [zsc, Bool.or_eq_true, decide_eq_true_eq] at hv
    simp only [zcv, h i hv]
  | _ => rfl
theorem zmap_ag {l : List Value} (h : zag n ad ad') (hv : l.all (zsc n) = true) : l.map (zcv ad') = l.map (zcv ad) := by
  apply List.map_congr_left
  intro v hm
  exact zcv_ag h (List.all_eq_true.mp hv v hm)
theorem zcc_ag {c : zC} (h : zag n ad ad') (hv : zscC n c = true) : zcc cA ad' c = zcc cA ad c := by
  obtain ⟨ci, fs⟩ | ⟨t, k, d, u⟩ | ⟨t, rs⟩ := c
  · simp only [zcc]
    rw [zmap_ag h hv]
  · rfl
  · simp only [zcc]
    congr 7
    funext j
    cases hj : rs[j]? with
    | none => simp [List.getD, hj]
    | some r =>
      cases r with
      | none => simp [List.getD, hj]
      | some i =>
        have := List.all_eq_true.mp hv (some i) (List.mem_of_getElem? hj)
        simp only [zsO, Bool.or_eq_true, decide_eq_true_eq] at this
        simp [List.getD, hj, h i this]
theorem zw_get (i : Nat) : (zw cA ad st)[i]? = (st[i]?).map (fun c => (ad i, zcc cA ad c)) := by
  simp [zw]
theorem zw_at {i : Nat} {c : zC} (h : st[i]? = some c) : (zw cA ad st)[i]? = some (ad i, zcc cA ad c) := by
  rw [zw_get, h]
  rfl
theorem zw_of {i : Nat} {q : Nat × va_E} (h : (zw cA ad st)[i]? = some q) : i < st.length ∧ q.1 = ad i := by
  rw [zw_get] at h
  cases hs : st[i]? with
  | none => rw [hs] at h; cases h
  | some c => rw [hs] at h; cases h; exact ⟨(List.getElem?_eq_some_iff.mp hs).1, rfl⟩
theorem zw_set {i : Nat} {c : zC} : (zw cA ad st).set i (ad i, zcc cA ad c) = zw cA ad (st.set i c) := by
  apply List.ext_getElem?
  intro j
  rw [zw_get]
  by_cases hj : j = i
  · subst hj
    rw [List.getElem?_set_self', List.getElem?_set_self', zw_get]
    cases st[j]? <;> rfl
  · rw [List.getElem?_set_ne (fun q => hj q.symm), List.getElem?_set_ne (fun q => hj q.symm), zw_get]
theorem zw_push {c : zC} : zw cA ad (st ++ [c]) = zw cA ad st ++ [(ad st.length, zcc cA ad c)] := by
  simp [zw, List.mapIdx_append]
theorem zw_ag (h : zag n ad ad') (hs : st.all (zscC n) = true) (hn : st.length ≤ n) : zw cA ad' st = zw cA ad st := by
  apply List.ext_getElem?
  intro i
  rw [zw_get, zw_get]
  cases hi : st[i]? with
  | none => rfl
  | some c =>
    have hl : i < st.length := (List.getElem?_eq_some_iff.mp hi).1
    simp only [Option.map_some]
    rw [h i (Or.inl (by omega)), zcc_ag h (List.all_eq_true.mp hs c (List.mem_of_getElem? hi))]
end ZW
