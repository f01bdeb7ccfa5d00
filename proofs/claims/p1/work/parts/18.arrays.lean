/-! THE ABSTRACT MACHINE, 8: arrays, new cells, texts, the library's own -/
section ZSND
variable {p : Program} {l : Launch} {e : Env} {R : Room} {s : State} {m : MethodId} {args : Array Value} {below : List Frame} {meth : Method} {cd : Code} {Q : State → Prop}
variable {D : va_G} {cA : Nat → ClassId} {A : Nat → Prop} {M : zMth} {ad0 : Nat → Nat} {n0 B : Nat}
variable {pc : Nat} {lv stk : List Value} {st : zS} {c k : Nat} {y : zX}
theorem zk_iald (F : zFx p R s m args meth cd D cA A M ad0 B) (hd : decode M.2.1 pc = .ok (.iaload, 1)) (h : zaldN 0 pc lv stk st c k = some (.inl y)) (hk : zKp p l e R s m args below meth cd Q D cA A M ad0 n0 y) : zKp p l e R s m args below meth cd Q D cA A M ad0 n0 (pc, lv, stk, st, c, k) := by
  unfold zaldN zn at h
  split at h
  · split at h
    · rename_i r rest _ t n d u hs
      split at h
      · rename_i hq
        obtain ⟨rfl, hin⟩ := hq
        cases h
        intro ad ls H locs I
        exact va_iald F.1.1 F.1.2.1 F.2.1.1 I.2.1.1 r 0 (zw_at hs) rfl (zin_of hin) hd (hk ad ls H locs I)
      · cases h
    · cases h
  · cases h
theorem zk_bald (F : zFx p R s m args meth cd D cA A M ad0 B) (hd : decode M.2.1 pc = .ok (.baload, 1)) (h : zaldN 1 pc lv stk st c k = some (.inl y)) (hk : zKp p l e R s m args below meth cd Q D cA A M ad0 n0 y) : zKp p l e R s m args below meth cd Q D cA A M ad0 n0 (pc, lv, stk, st, c, k) := by
  unfold zaldN zn at h
  split at h
  · split at h
    · rename_i r rest _ t n d u hs
      split at h
      · rename_i hq
        obtain ⟨rfl, hin⟩ := hq
        cases h
        intro ad ls H locs I
        exact va_bald F.1.1 F.1.2.1 F.2.1.1 I.2.1.1 r 1 (zw_at hs) rfl (zin_of hin) hd (hk ad ls H locs I)
      · cases h
    · cases h
  · cases h
theorem zk_iast (F : zFx p R s m args meth cd D cA A M ad0 B) (hd : decode M.2.1 pc = .ok (.iastore, 1)) (h : zastN 0 pc id lv stk st c k = some (.inl y)) (hk : zKp p l e R s m args below meth cd Q D cA A M ad0 n0 y) : zKp p l e R s m args below meth cd Q D cA A M ad0 n0 (pc, lv, stk, st, c, k) := by
  unfold zastN zn at h
  split at h
  · rename_i x i r rest
    split at h
    · rename_i t n d u hs
      split at h
      · rename_i hq
        obtain ⟨rfl, hin⟩ := hq
        cases h
        intro ad ls H locs I
        refine va_iast F.1.1 F.1.2.1 F.2.1.1 I.2.1.1 I.2.1.2.1 I.2.1.2.2 r 0 (zw_at hs) rfl (zin_of hin) hd fun H1 locs1 hP hD hS => ?_
        have e1 : (zw cA ad st).set r (ad r, .inl (cA 0, n, .inl (upd (zfun d u) i.toNatClampNeg x))) = zw cA ad (st.set r (.inr (.inl (0, n, d, (i.toNatClampNeg, id x) :: u)))) := by
          rw [← zw_set]
          rfl
        rw [e1] at hP hD
        exact hk ad ls H1 locs1 ⟨I.1, ⟨hP, hD, hS⟩, I.2.2.1, I.2.2.2.1, by rw [List.length_set]; exact I.2.2.2.2⟩
      · cases h
    · cases h
  · cases h
theorem zk_bast (F : zFx p R s m args meth cd D cA A M ad0 B) (hd : decode M.2.1 pc = .ok (.bastore, 1)) (h : zastN 1 pc (fun x => vp_nar .byte x) lv stk st c k = some (.inl y)) (hk : zKp p l e R s m args below meth cd Q D cA A M ad0 n0 y) : zKp p l e R s m args below meth cd Q D cA A M ad0 n0 (pc, lv, stk, st, c, k) := by
  unfold zastN zn at h
  split at h
  · rename_i x i r rest
    split at h
    · rename_i t n d u hs
      split at h
      · rename_i hq
        obtain ⟨rfl, hin⟩ := hq
        cases h
        intro ad ls H locs I
        refine va_bast F.1.1 F.1.2.1 F.2.1.1 I.2.1.1 I.2.1.2.1 I.2.1.2.2 r 1 (zw_at hs) rfl (zin_of hin) hd fun H1 locs1 hP hD hS => ?_
        have e1 : (zw cA ad st).set r (ad r, .inl (cA 1, n, .inl (upd (zfun d u) i.toNatClampNeg (vp_nar .byte x)))) = zw cA ad (st.set r (.inr (.inl (1, n, d, (i.toNatClampNeg, vp_nar .byte x) :: u)))) := by
          rw [← zw_set]
          rfl
        rw [e1] at hP hD
        exact hk ad ls H1 locs1 ⟨I.1, ⟨hP, hD, hS⟩, I.2.2.1, I.2.2.2.1, by rw [List.length_set]; exact I.2.2.2.2⟩
      · cases h
    · cases h
  · cases h
theorem zk_aald (F : zFx p R s m args meth cd D cA A M ad0 B) (hd : decode M.2.1 pc = .ok (.aaload, 1)) (h : zaldA pc lv stk st c k = some (.inl y)) (hk : zKp p l e R s m args below meth cd Q D cA A M ad0 n0 y) : zKp p l e R s m args below meth cd Q D cA A M ad0 n0 (pc, lv, stk, st, c, k) := by
  unfold zaldA zn at h
  split at h
  · rename_i i r rest
    split at h
    · rename_i t rs hs
      split at h
      · rename_i hq
        obtain ⟨rfl, hin⟩ := hq
        split at h
        · rename_i q hq
          cases h
          intro ad ls H locs I
          refine va_aldq F.1.1 F.1.2.1 F.2.1.1 I.2.1.1 r 2 (zw_at hs) rfl (zin_of hin) hd ?_
          rw [hq]
          exact hk ad ls H locs I
        · cases h
      · cases h
    · cases h
  · cases h
theorem ztl_ty {t : Nat} (h : t < 4) : ∃ ty, (ztl cA)[t]? = some (cA t, ty) := by
  rcases (show t = 0 ∨ t = 1 ∨ t = 2 ∨ t = 3 by omega) with rfl | rfl | rfl | rfl <;> exact ⟨_, rfl⟩
theorem zk_len (F : zFx p R s m args meth cd D cA A M ad0 B) (hd : decode M.2.1 pc = .ok (.arraylength, 1)) (h : zlen pc lv stk st c k = some (.inl y)) (hk : zKp p l e R s m args below meth cd Q D cA A M ad0 n0 y) : zKp p l e R s m args below meth cd Q D cA A M ad0 n0 (pc, lv, stk, st, c, k) := by
  unfold zlen zn at h
  split at h
  · rename_i r rest
    split at h
    · rename_i t n du hs
      split at h
      · rename_i ht
        cases h
        intro ad ls H locs I
        obtain ⟨ty, hty⟩ := ztl_ty (cA := cA) ht
        obtain ⟨d, u⟩ := du
        exact va_alen F.1.1 F.1.2.1 F.2.1.1 I.2.1.1 r t (zw_at hs) hty rfl hd (hk ad ls H locs I)
      · cases h
    · rename_i t rs hs
      split at h
      · rename_i ht
        cases h
        intro ad ls H locs I
        obtain ⟨ty, hty⟩ := ztl_ty (cA := cA) ht
        exact va_alen F.1.1 F.1.2.1 F.2.1.1 I.2.1.1 r t (zw_at hs) hty rfl hd (hk ad ls H locs I)
      · cases h
    · cases h
  · cases h
/-- the addresses, with one more -/
def zadd (ad : Nat → Nat) (n q : Nat) : Nat → Nat := fun i => if i = n then q else ad i
theorem zadd_ag {ad : Nat → Nat} {n q : Nat} (h : n < 500) : zag n ad (zadd ad n q) := fun i hi => if_neg (fun z => by omega)
theorem zall_of {n : Nat} (h : zall n lv stk st = true) : (lv.all (zsc n) = true ∧ stk.all (zsc n) = true) ∧ st.all (zscC n) = true ∧ n < 500 := by
  unfold zall at h
  simp only [Bool.and_eq_true, decide_eq_true_eq] at h
  exact ⟨⟨h.1.1.1, h.1.1.2⟩, h.1.2, h.2⟩
/-- a new cell: the point behind it -/
theorem zk_grow {pc' : Nat} {stk' : List Value} {x : zC} {c' k' q : Nat} {ad : Nat → Nat} {ls : Array Slot} {H H1 : Heap} {locs : List Loc} (hk : zKp p l e R s m args below meth cd Q D cA A M ad0 n0 (pc', lv, .ref st.length :: stk', st ++ [x], c', k')) (ha : zall st.length lv stk' st = true) (I : zInv s D cA A M ad0 n0 ad lv st c k ls H locs) (hx : zcc cA (zadd ad st.length q) x = zcc cA ad x) (hc : c' ≤ zmC M) (hs : k' ≤ zmS M)
    (hP : va_P D zcl (zw cA ad st ++ [(q, zcc cA ad x)]) H1) (hD : va_D A (zw cA ad st ++ [(q, zcc cA ad x)])) (hS : va_S A s.heap H1 locs) : W p l e R s m args below meth cd H1 locs c' k' Q (F0 m pc' ls (.ref q :: stk'.map (zcv ad))) := by
  obtain ⟨⟨h1, h2⟩, h3, h4⟩ := zall_of ha
  have g := zadd_ag (ad := ad) (q := q) h4
  have e1 : zw cA (zadd ad st.length q) (st ++ [x]) = zw cA ad st ++ [(q, zcc cA ad x)] := by
    rw [zw_push, zw_ag g h3 (Nat.le_refl _), hx]
    simp [zadd]
  have w := hk (zadd ad st.length q) ls H1 locs ⟨⟨by rw [zlv_ag g lv 0 h1]; exact I.1.1, I.1.2⟩, ⟨by rw [e1]; exact hP, by rw [e1]; exact hD, hS⟩, ⟨hc, hs⟩, I.2.2.2.1.tr g I.2.2.2.2, by simp; have := I.2.2.2.2; omega⟩
  have e2 : (Value.ref st.length :: stk').map (zcv (zadd ad st.length q)) = .ref q :: stk'.map (zcv ad) := by
    rw [List.map_cons, zmap_ag g h2]
    simp [zcv, zadd]
  dsimp only at w
  rw [e2] at w
  exact w
theorem zdf_ok : zdf.all (fun fs => fs.all (fun v => decide (v = .null) || decide (v = .int 0))) = true := by decide +kernel
theorem zdf_map {a : Nat} {fs : List Value} (h : zdf[a]? = some fs) (ad : Nat → Nat) : fs.map (zcv ad) = fs := by
  have h1 := List.all_eq_true.mp zdf_ok fs (List.mem_of_getElem? h)
  conv => rhs; rw [← List.map_id fs]
  apply List.map_congr_left
  intro v hv
  have h2 := List.all_eq_true.mp h1 v hv
  simp only [Bool.or_eq_true, decide_eq_true_eq] at h2
  rcases h2 with rfl | rfl <;> rfl
def zdfT (i : Nat) : Bool := match zcl[i]?, zfty[i]?, zdf[i]? with
  | some (_, _, N), some f, some fs => (List.range N).all (fun k => decide (defaultValue (f k) = vp_V fs k))
  | _, _, _ => false
theorem zdf_T : (List.range 7).all zdfT = true := by decide +kernel
theorem zk_new {a cw idx : Nat} {fs : List Value} (F : zFx p R s m args meth cd D cA A M ad0 B) (hd : decode M.2.1 pc = .ok (.new idx, 3)) (hok : zokN (zmO M) idx a cw = true) (hfs : zdf[a]? = some fs) (h : znew fs a fs.length (zmC M) (zmS M) pc lv stk st c k = some (.inl y)) (hk : zKp p l e R s m args below meth cd Q D cA A M ad0 n0 y) : zKp p l e R s m args below meth cd Q D cA A M ad0 n0 (pc, lv, stk, st, c, k) := by
  unfold zokN at hok
  split at hok
  · rename_i C T N i j fs' hc hw hf
    cases hfs.symm.trans hf
    simp only [Bool.and_eq_true, decide_eq_true_eq] at hok
    obtain ⟨⟨⟨o1, o2⟩, o3⟩, o4⟩ := hok
    unfold znew zn at h
    split at h
    · rename_i hq
      obtain ⟨ha, hc1, hs1⟩ := hq
      cases h
      have hi : a < 7 := by
        have := (List.getElem?_eq_some_iff.mp hc).1
        rwa [zcl_N] at this
      have hfty : ∃ ft, zfty[a]? = some ft := by
        have : a < zfty.length := hi
        exact ⟨_, List.getElem?_eq_getElem this⟩
      obtain ⟨ft, hft⟩ := hfty
      have hT := List.all_eq_true.mp zdf_T a (List.mem_range.mpr hi)
      unfold zdfT at hT
      rw [hc, hft, hfs] at hT
      intro ad ls H locs I
      subst o4
      refine va_new (ci := a) (fs := fs) F.1.1 F.1.2.1 F.1.2.2.2.2 (zcl_ws hc) ft (zcl_ty hc hft).1 F.1.2.2.2.1 (zw_in F o1) (zw_in F o2) (zw_in F o3) F.2.1.1 I.2.1.1 I.2.1.2.1 I.2.1.2.2 F.2.1.2.1 hc (fun k' hk' => of_decide_eq_true (List.all_eq_true.mp hT k' (List.mem_range.mpr hk'))) (by rw [F.2.2.2.1.2.2.1]; exact hc1) (by rw [F.2.2.2.1.2.2.2]; exact hs1) hd fun q H1 hP hD hS => ?_
      have e1 : zcc cA ad (.inl (a, fs)) = .inr (a, fs) := by simp only [zcc, zdf_map hfs]
      have e2 : zcc cA (zadd ad st.length q) (.inl (a, fs)) = zcc cA ad (.inl (a, fs)) := by simp only [zcc, zdf_map hfs]
      exact zk_grow (x := .inl (a, fs)) hk ha I e2 hc1 hs1 (by rw [e1]; exact hP) (by rw [e1]; exact hD) hS
    · cases h
  · cases hok
theorem ztyw_0 : zT[ztyw.getD 0 0]? = some (.arrayClass .int) := by decide +kernel
theorem ztyw_1 : zT[ztyw.getD 1 0]? = some (.arrayClass .byte) := by decide +kernel
theorem zk_newN {a : Nat} {t : ArrayType} (F : zFx p R s m args meth cd D cA A M ad0 B) (hd : decode M.2.1 pc = .ok (.newarray t, 2)) (hok : (a = 0 ∧ t = .int) ∨ (a = 1 ∧ t = .byte)) (h : znewN a (zmC M) (zmS M) pc lv stk st c k = some (.inl y)) (hk : zKp p l e R s m args below meth cd Q D cA A M ad0 n0 y) : zKp p l e R s m args below meth cd Q D cA A M ad0 n0 (pc, lv, stk, st, c, k) := by
  unfold znewN zn at h
  split at h
  · rename_i n rest
    split at h
    · rename_i hq
      obtain ⟨ha, hn, hc1, hs1, hb⟩ := hq
      cases h
      intro ad ls H locs I
      rcases hok with ⟨rfl, rfl⟩ | ⟨rfl, rfl⟩
      · refine va_newa (ty := .int) (a0 := (n.toNatClampNeg, .inl (fun _ => 0))) F.1.1 F.1.2.1 (zw_in F ztyw_0) rfl F.2.1.1 I.2.1.1 I.2.1.2.1 I.2.1.2.2 F.2.1.2.1 (fun _ => rfl) hn rfl (by simp [componentBytes]; omega) (by rw [F.2.2.2.1.2.2.1]; exact hc1) (by rw [F.2.2.2.1.2.2.2]; exact hs1) hd fun q cA' H1 hK' hP hD hS => ?_
        have hA' : cA' = cA 0 := by
          have h1 := (F.2.1.1.2 0 _ rfl).2
          have h2 := (hK'.2 4 (cA', .int) rfl).2
          exact Option.some.inj (h2.symm.trans h1)
        subst hA'
        exact zk_grow (x := .inr (.inl (0, n.toNatClampNeg, 0, []))) hk ha I rfl hc1 hs1 hP hD hS
      · refine va_newa (ty := .byte) (a0 := (n.toNatClampNeg, .inl (fun _ => 0))) F.1.1 F.1.2.1 (zw_in F ztyw_1) rfl F.2.1.1 I.2.1.1 I.2.1.2.1 I.2.1.2.2 F.2.1.2.1 (fun _ => rfl) hn rfl (by simp [componentBytes]; omega) (by rw [F.2.2.2.1.2.2.1]; exact hc1) (by rw [F.2.2.2.1.2.2.2]; exact hs1) hd fun q cA' H1 hK' hP hD hS => ?_
        have hA' : cA' = cA 1 := by
          have h1 := (F.2.1.1.2 1 _ rfl).2
          have h2 := (hK'.2 4 (cA', .byte) rfl).2
          exact Option.some.inj (h2.symm.trans h1)
        subst hA'
        exact zk_grow (x := .inr (.inl (1, n.toNatClampNeg, 0, []))) hk ha I rfl hc1 hs1 hP hD hS
    · cases h
  · cases h
end ZSND
