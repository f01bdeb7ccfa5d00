/-! THE ABSTRACT MACHINE, 11: arrays of references, texts, Math, Object's constructor, System.arraycopy of nothing -/
theorem zT_minS : Cond.static Lib.Math.min.name ∈ zT := by decide +kernel
theorem zT_minC : Cond.code Lib.Math.min.name Lib.Math.min.code 2 (some .int) ∈ zT := by decide +kernel
theorem zT_maxS : Cond.static Lib.Math.max.name ∈ zT := by decide +kernel
theorem zT_maxC : Cond.code Lib.Math.max.name Lib.Math.max.code 2 (some .int) ∈ zT := by decide +kernel
theorem zT_math : Cond.initialized "java/lang/Math" ∈ zT := by decide +kernel
theorem zT_objI : Cond.instanceMethod objectInit ∈ zT := by decide +kernel
theorem zT_objC : Cond.code objectInit ⟨#[0xb1]⟩ 1 none ∈ zT := by decide +kernel
theorem zT_cpN : Cond.native arraycopyName ∈ zT := by decide +kernel
theorem zT_cpS : Cond.static arraycopyName ∈ zT := by decide +kernel
theorem zT_sys : Cond.initialized "java/lang/System" ∈ zT := by decide +kernel
section ZSND
variable {p : Program} {l : Launch} {e : Env} {R : Room} {s : State} {m : MethodId} {args : Array Value} {below : List Frame} {meth : Method} {cd : Code} {Q : State → Prop}
variable {D : va_G} {cA : Nat → ClassId} {A : Nat → Prop} {M : zMth} {ad0 : Nat → Nat} {n0 B : Nat}
variable {pc : Nat} {lv stk : List Value} {st : zS} {c k : Nat} {y : zX}
theorem zsum (ad : Nat → Nat) (r : List Value) : ((r.map (zcv ad)).map fun v => v.category).sum = (r.map fun v => v.category).sum := by
  rw [List.map_map]
  congr 1
  apply List.map_congr_left
  intro v _
  exact zcv_cat ad v
theorem zt_none (t n : Nat) (ad : Nat → Nat) : zcc cA ad (.inr (.inr (t, List.replicate n none))) = .inl (cA t, n, .inr (.inr (.inr (.inr (fun _ => none))))) := by
  simp only [zcc, List.length_replicate]
  congr 7
  funext j
  simp only [List.getD, List.getElem?_replicate]
  split <;> rfl
theorem zk_newA {a cw idx : Nat} (F : zFx p R s m args meth cd D cA A M ad0 B) (hd : decode M.2.1 pc = .ok (.anewarray idx, 3)) (hok : zokA (zmO M) idx a cw = true) (h : znewA a (zmC M) (zmS M) pc lv stk st c k = some (.inl y)) (hk : zKp p l e R s m args below meth cd Q D cA A M ad0 n0 y) : zKp p l e R s m args below meth cd Q D cA A M ad0 n0 (pc, lv, stk, st, c, k) := by
  unfold zokA at hok
  split at hok
  · rename_i C hC
    have hok := of_decide_eq_true hok
    unfold znewA zn at h
    split at h
    · rename_i n rest
      split at h
      · rename_i hq
        obtain ⟨ha, hn, hc1, hs1, hb⟩ := hq
        cases h
        intro ad ls H locs I
        have ha4 : a < 4 := (List.getElem?_eq_some_iff.mp hC).1
        have hAO : va_AO C s ∧ (ztl cA)[a]? = some (cA a, .object C) := by
          rcases (show a = 0 ∨ a = 1 ∨ a = 2 ∨ a = 3 by omega) with rfl | rfl | rfl | rfl
          · cases hC
          · cases hC
          · cases hC; exact ⟨F.2.1.2.2.1.2.2.1, rfl⟩
          · cases hC; exact ⟨F.2.1.2.2.1.2.2.2, rfl⟩
        refine va_newq F.1.1 F.1.2.1 F.1.2.2.2.1 (zw_in F hok) hAO.1 F.2.1.1 I.2.1.1 I.2.1.2.1 I.2.1.2.2 F.2.1.2.1 hn rfl (by omega) (by rw [F.2.2.2.1.2.2.1]; exact hc1) (by rw [F.2.2.2.1.2.2.2]; exact hs1) hd fun q cA' H1 hK' hP hD hS => ?_
        have hA' : cA' = cA a := by
          obtain ⟨-, -, -, -, -, h1⟩ := (F.2.1.1.2 a _ hAO.2).2
          obtain ⟨-, -, -, -, -, h2⟩ := (hK'.2 4 (cA', .object C) rfl).2
          exact Option.some.inj (h2.symm.trans h1)
        subst hA'
        exact zk_grow (x := .inr (.inr (a, List.replicate n.toNatClampNeg none))) hk ha I (by rw [zt_none, zt_none]) hc1 hs1 (by rw [zt_none]; exact hP) (by rw [zt_none]; exact hD) hS
      · cases h
    · cases h
  · cases hok
theorem zt_up {t i v : Nat} {rs : List (Option Nat)} {ad : Nat → Nat} (hi : i < rs.length) : zcc cA ad (.inr (.inr (t, rs.set i (some v)))) = .inl (cA t, rs.length, .inr (.inr (.inr (.inr (va_up (fun j => (rs.getD j none).map ad) i (some (ad v))))))) := by
  simp only [zcc, List.length_set]
  congr 7
  funext j
  by_cases hj : j = i
  · subst hj
    simp [va_up, List.getD, hi]
  · simp [va_up, List.getD, hj, List.getElem?_set_ne (fun q => hj q.symm)]
theorem zk_aast {a b : Nat} (F : zFx p R s m args meth cd D cA A M ad0 B) (hd : decode M.2.1 pc = .ok (.aastore, 1)) (hok : (a = 2 ∧ b = 0) ∨ (a = 3 ∧ b = 400)) (h : zastA a b pc lv stk st c k = some (.inl y)) (hk : zKp p l e R s m args below meth cd Q D cA A M ad0 n0 y) : zKp p l e R s m args below meth cd Q D cA A M ad0 n0 (pc, lv, stk, st, c, k) := by
  unfold zastA zn at h
  split at h
  · rename_i v i r rest
    split at h
    · rename_i t rs hs
      split at h
      · rename_i hq
        obtain ⟨rfl, hin, hv⟩ := hq
        cases h
        intro ad ls H locs I
        have hvp := zin_of hin
        unfold zastV at hv
        have hil : i.toNatClampNeg < rs.length := Nat.not_le.mp fun q => hvp (Or.inr q)
        have go : ∀ (H1 : Heap) (locs1 : List Loc), va_P D zcl ((zw cA ad st).set r (ad r, .inl (cA t, rs.length, .inr (.inr (.inr (.inr (va_up (fun j => (rs.getD j none).map ad) i.toNatClampNeg (some (ad v))))))))) H1 → va_D A ((zw cA ad st).set r (ad r, .inl (cA t, rs.length, .inr (.inr (.inr (.inr (va_up (fun j => (rs.getD j none).map ad) i.toNatClampNeg (some (ad v))))))))) → va_S A s.heap H1 locs1 → W p l e R s m args below meth cd H1 locs1 c k Q (F0 m (pc + 1) ls (rest.map (zcv ad))) := by
          intro H1 locs1 hP hD hS
          rw [← zt_up hil, zw_set] at hP hD
          exact hk ad ls H1 locs1 ⟨I.1, ⟨hP, hD, hS⟩, I.2.2.1, I.2.2.2.1, by rw [List.length_set]; exact I.2.2.2.2⟩
        rcases hok with ⟨rfl, rfl⟩ | ⟨rfl, rfl⟩
        · rw [if_neg (by decide)] at hv
          split at hv
          · rename_i ci' vs hv2
            have := of_decide_eq_true hv
            subst this
            exact va_astq F.1.1 F.1.2.1 F.2.1.1 I.2.1.1 I.2.1.2.1 I.2.1.2.2 r 2 v 0 (zw_at hs) rfl (zw_at hv2) rfl hvp hd go
          · cases hv
        · rw [if_pos rfl] at hv
          simp only [Bool.and_eq_true, decide_eq_true_eq] at hv
          obtain ⟨h5, h6⟩ := hv
          obtain ⟨⟨o, kk, tx⟩, h7⟩ := Option.isSome_iff_exists.mp h6
          obtain ⟨-, hO, -⟩ := F.2.1.2.2.1.1 (v - 500) kk o tx h7
          have e5 : ad0 (500 + (v - 500)) = ad v := (congrArg ad0 (Nat.add_sub_cancel' h5)).trans (I.2.2.2.1 v (Or.inr h5)).symm
          rw [e5] at hO
          have hO := va_O.narrow hO (B := A) F.2.1.2.2.2.1
          obtain ⟨cell, g1, g2, g3⟩ := va_Orecv hO I.2.1.2.2
          obtain ⟨kC, hkC, -⟩ := Vm.findClass_spec g3
          exact va_astqM F.1.1 F.1.2.1 F.2.1.1 I.2.1.1 I.2.1.2.1 I.2.1.2.2 r 3 (E := "java/lang/String") (zw_at hs) rfl ⟨cell, g1, g2, ⟨kC, hkC⟩, fun comp hcm => vb_asgS comp _ hcm g3⟩ hvp hd go
      · cases h
    · cases h
  · cases h
theorem zk_ldc {a idx kk : Nat} {o tx : String} (F : zFx p R s m args meth cd D cA A M ad0 B) (hd : decode M.2.1 pc = .ok (.ldc idx, 2)) (hs : zstrs[a]? = some (o, kk, tx)) (ho : o = zmO M ∧ kk = idx) (hk : zKp p l e R s m args below meth cd Q D cA A M ad0 n0 (pc + 2, lv, .ref (500 + a) :: stk, st, c, k)) : zKp p l e R s m args below meth cd Q D cA A M ad0 n0 (pc, lv, stk, st, c, k) := by
  obtain ⟨rfl, rfl⟩ := ho
  intro ad ls H locs I
  obtain ⟨hR, -⟩ := F.2.1.2.2.1.1 a kk _ tx hs
  rw [← I.2.2.2.1 (500 + a) (Or.inr (by omega))] at hR
  exact va_ldcS F.1.1 F.1.2.1 F.1.2.2.2.1 hR hd (hk ad ls H locs I)
theorem zk_min {idx cw : Nat} (F : zFx p R s m args meth cd D cA A M ad0 B) (hd : decode M.2.1 pc = .ok (.invokestatic idx, 3)) (hok : zokM1 (zmO M) idx cw Lib.Math.min.name = true) (h : zmin pc lv stk st c k = some (.inl y)) (hk : zKp p l e R s m args below meth cd Q D cA A M ad0 n0 y) : zKp p l e R s m args below meth cd Q D cA A M ad0 n0 (pc, lv, stk, st, c, k) := by
  have hl := zw_in F (of_decide_eq_true hok)
  unfold zmin zn at h
  split at h
  · split at h
    · rename_i hsum
      cases h
      intro ad ls H locs I
      exact va_mmin F.1.1 F.1.2.1 (F.1.2.2.1.trans I.1.1.1.symm) F.1.2.2.2.1 hl (F.1.2.2.2.2 _ zT_minS) (F.1.2.2.2.2 _ zT_math) (F.1.2.2.2.2 _ zT_minC) F.2.2.2.1.1 (by rw [zsum]; have := F.2.2.2.1.2.1; omega) (by rw [F.2.2.2.1.2.2.1]; exact I.2.2.1.1) (by rw [F.2.2.2.1.2.2.2]; exact I.2.2.1.2) hd (hk ad ls H locs I)
    · cases h
  · cases h
theorem zk_max {idx cw : Nat} (F : zFx p R s m args meth cd D cA A M ad0 B) (hd : decode M.2.1 pc = .ok (.invokestatic idx, 3)) (hok : zokM1 (zmO M) idx cw Lib.Math.max.name = true) (h : zmax pc lv stk st c k = some (.inl y)) (hk : zKp p l e R s m args below meth cd Q D cA A M ad0 n0 y) : zKp p l e R s m args below meth cd Q D cA A M ad0 n0 (pc, lv, stk, st, c, k) := by
  have hl := zw_in F (of_decide_eq_true hok)
  unfold zmax zn at h
  split at h
  · split at h
    · rename_i hsum
      cases h
      intro ad ls H locs I
      exact va_mmax F.1.1 F.1.2.1 (F.1.2.2.1.trans I.1.1.1.symm) F.1.2.2.2.1 hl (F.1.2.2.2.2 _ zT_maxS) (F.1.2.2.2.2 _ zT_math) (F.1.2.2.2.2 _ zT_maxC) F.2.2.2.1.1 (by rw [zsum]; have := F.2.2.2.1.2.1; omega) (by rw [F.2.2.2.1.2.2.1]; exact I.2.2.1.1) (by rw [F.2.2.2.1.2.2.2]; exact I.2.2.1.2) hd (hk ad ls H locs I)
    · cases h
  · cases h
theorem zk_obj {idx cw : Nat} (F : zFx p R s m args meth cd D cA A M ad0 B) (hd : decode M.2.1 pc = .ok (.invokespecial idx, 3)) (hok : zokM1 (zmO M) idx cw objectInit = true) (h : zobj pc lv stk st c k = some (.inl y)) (hk : zKp p l e R s m args below meth cd Q D cA A M ad0 n0 y) : zKp p l e R s m args below meth cd Q D cA A M ad0 n0 (pc, lv, stk, st, c, k) := by
  have hl := zw_in F (of_decide_eq_true hok)
  unfold zobj zn at h
  split at h
  · rename_i a rest
    split at h
    · rename_i hsum
      cases h
      intro ad ls H locs I
      refine W.objInit (a := ad a) (rest := rest.map (zcv ad)) F.1.1 F.1.2.1 F.1.2.2.2.1 hl (F.1.2.2.2.2 _ zT_objI) (F.1.2.2.2.2 _ zT_objC) rfl (I.1.1.1.trans F.1.2.2.1.symm) rfl hd F.2.2.2.1.1 ?_ (hk ad ls H locs I)
      have h1 := lv_room (m := m) (pc := pc) (ls := ls) (rest := (Value.ref a :: rest).map (zcv ad)) (st := rest.map (zcv ad)) (by rw [zsum]; exact hsum)
      have h2 := F.2.2.2.1.2.1
      exact Nat.le_trans (Nat.add_le_add_right h1 12) (by omega)
    · cases h
  · cases h
theorem zk_copy {idx cw : Nat} (F : zFx p R s m args meth cd D cA A M ad0 B) (hd : decode M.2.1 pc = .ok (.invokestatic idx, 3)) (hok : zokM1 (zmO M) idx cw arraycopyName = true) (h : zcopy pc lv stk st c k = some (.inl y)) (hk : zKp p l e R s m args below meth cd Q D cA A M ad0 n0 y) : zKp p l e R s m args below meth cd Q D cA A M ad0 n0 (pc, lv, stk, st, c, k) := by
  have hl := zw_in F (of_decide_eq_true hok)
  unfold zcopy zn at h
  split at h
  · rename_i n dp a1 sp a0 rest
    split at h
    · rename_i t0 n0' d0 u0 t1 n1 d1 u1 hs0 hs1
      split at h
      · rename_i hq
        obtain ⟨rfl, h1, h2, h3, h4, rfl, rfl, hsum⟩ := hq
        cases h
        intro ad ls H locs I
        refine va_copyi F.1.1 F.1.2.1 (F.1.2.2.1.trans I.1.1.1.symm) F.1.2.2.2.1 hl (F.1.2.2.2.2 _ zT_cpN) (F.1.2.2.2.2 _ zT_cpS) (F.1.2.2.2.2 _ zT_sys) F.2.1.1 I.2.1.1 I.2.1.2.1 I.2.1.2.2 a0 a1 1 1 (ty := .byte) (zw_at hs0) (zw_at hs1) rfl rfl rfl h1 h2 (by decide) (by rw [sb_cl0]; omega) (by rw [sb_cl0]; omega) (fun i hi => absurd hi (by rw [sb_cl0]; omega)) F.2.2.2.1.1 ?_ hd fun H1 locs1 hP hD hS => ?_
        · rw [zsum]
          have h9 := F.2.2.2.1.2.1
          have h8 : nativeFrameWords "java/lang/System" "arraycopy" 5 = 7 := by decide
          rw [h8]
          omega
        · have e0 : va_cpy (zfun d0 u0) (zfun d1 u1) sp.toNatClampNeg dp.toNatClampNeg (0 : Int32).toNatClampNeg = zfun d1 u1 := by
            funext j
            rw [sb_cl0]
            exact pk_cpy_out (by omega)
          have e1 : (zw cA ad st).set a1 (ad a1, .inl (cA 1, n1, .inl (zfun d1 u1))) = zw cA ad st := by
            apply List.ext_getElem?
            intro j
            by_cases hj : j = a1
            · subst hj
              rw [List.getElem?_set_self', zw_at hs1]
              rfl
            · rw [List.getElem?_set_ne (fun q => hj q.symm)]
          rw [e0, e1] at hP hD
          exact hk ad ls H1 locs1 ⟨I.1, ⟨hP, hD, hS⟩, I.2.2⟩
      · cases h
    · cases h
  · cases h
theorem zk_slen {idx cw : Nat} (F : zFx p R s m args meth cd D cA A M ad0 B) (hfr : 2 ≤ R.frames) (hd : decode M.2.1 pc = .ok (.invokevirtual idx, 3)) (hok : zokM1 (zmO M) idx cw zy_length = true) (h : zslen pc lv stk st c k = some (.inl y)) (hk : zKp p l e R s m args below meth cd Q D cA A M ad0 n0 y) : zKp p l e R s m args below meth cd Q D cA A M ad0 n0 (pc, lv, stk, st, c, k) := by
  have hm := List.mem_of_getElem? (of_decide_eq_true hok)
  unfold zslen zn at h
  split at h
  · rename_i v rest
    split at h
    · rename_i hq
      obtain ⟨h5, hsum⟩ := hq
      split at h
      · rename_i o kk tx h7
        cases h
        intro ad ls H locs I
        have h5 : (500 : Nat) ≤ v := h5
        obtain ⟨-, hs2⟩ := F.2.1.2.2.1.1 (v - 500) kk o tx h7
        have e5 : ad0 (500 + (v - 500)) = ad v := (congrArg ad0 (Nat.add_sub_cancel' h5)).trans (I.2.2.2.1 v (Or.inr h5)).symm
        rw [e5] at hs2
        have hz : zstr (ad v) tx.length B s := ⟨F.2.1.2.2.2.2, hs2, F.2.1.2.2.1.2.1⟩
        have hG : GoodIn zT (wsV (zmO M) idx "java/lang/String" zy_length zw_length) := by
          intro w hw
          simp only [wsV, List.cons_append, List.nil_append, List.mem_cons, zw_length] at hw
          rcases hw with rfl | rfl | rfl | rfl | rfl | hw
          · exact zT_in hm
          · exact zT_in zT_lengthI
          · exact zT_in zT_lengthS
          · exact zT_in zT_strI
          · exact zT_in zT_length
          · exact zT_in hw
        have hAB := F.2.1.2.2.2.1
        have hSS := I.2.1.2.2
        refine va_calli (A0 := A) (A1 := fun _ => False) (va_runV (As := []) (b := ad v) (rest := rest.map (zcv ad)) ⟨F.1.1, F.1.2.1, F.1.2.2.1, F.1.2.2.2.1, F.1.2.2.2.2⟩ (zc_length l (ad v) tx.length B) (cwV 0 F.1.2.2.2.2 hG rfl rfl rfl (by decide +kernel) ⟨hfr, by have := F.2.2.2.1.2.1; show 8 + (1 + 11) + 20 ≤ R.locals; omega⟩) ⟨fun a U g mk z => ⟨z.1, z.2.blind⟩, va_Orecv (va_O.narrow hs2.1 (B := A) hAB) hSS, fun U hU hW => ⟨rfl, hz.go hW (by rw [hU]; exact hSS.1) (fun a ha hb => by rw [hU]; exact hSS.2.1 a ha (fun q => hb (hAB a q)))⟩⟩ rfl rfl I.1.1.1 rfl (lv_room (by rw [zsum]; exact hsum)) hd ⟨by rw [F.2.2.2.1.2.2.1]; exact I.2.2.1.1, by rw [F.2.2.2.1.2.2.2]; exact I.2.2.1.2⟩) hSS (fun _ _ z => z.elim) (fun _ z => z.elim) (fun r u t H1 locs1 ht hvm hw hB hz1 hk1 hS1 => ?_)
        subst hw
        have hP1 : va_P D zcl (zw cA ad st) H1 := I.2.1.1.kept fun k' q hq => hk1 q.1 ((I.2.1.1 k' q hq).lt) id
        exact hk ad ls H1 locs1 ⟨I.1, ⟨hP1, I.2.1.2.1, hS1⟩, I.2.2⟩
      · cases h
    · cases h
  · cases h
end ZSND
