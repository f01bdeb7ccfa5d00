/-! THE ABSTRACT MACHINE, 7: arithmetic, branches, fields, arrays -/
section ZSND
variable {p : Program} {l : Launch} {e : Env} {R : Room} {s : State} {m : MethodId} {args : Array Value} {below : List Frame} {meth : Method} {cd : Code} {Q : State → Prop}
variable {D : va_G} {cA : Nat → ClassId} {A : Nat → Prop} {M : zMth} {ad0 : Nat → Nat} {n0 B : Nat}
variable {pc : Nat} {lv stk : List Value} {st : zS} {c k : Nat} {y : zX}
theorem zk_bin {f : Int32 → Int32 → Int32} (row : ∀ (x z : Int32) (H : Heap) (locs : List Loc) (ls : Array Slot) (r : List Value), W p l e R s m args below meth cd H locs c k Q (F0 m (pc + 1) ls (.int (f x z) :: r)) → W p l e R s m args below meth cd H locs c k Q (F0 m pc ls (.int z :: .int x :: r)))
    (h : zbin f pc lv stk st c k = some (.inl y)) (hk : zKp p l e R s m args below meth cd Q D cA A M ad0 n0 y) : zKp p l e R s m args below meth cd Q D cA A M ad0 n0 (pc, lv, stk, st, c, k) := by
  unfold zbin zn at h
  split at h
  · cases h
    exact zk_same hk fun _ _ _ _ _ w => row _ _ _ _ _ _ w
  · cases h
theorem zk_rem (F : zFx p R s m args meth cd D cA A M ad0 B) (hd : decode M.2.1 pc = .ok (.irem, 1)) (h : zrem pc lv stk st c k = some (.inl y)) (hk : zKp p l e R s m args below meth cd Q D cA A M ad0 n0 y) : zKp p l e R s m args below meth cd Q D cA A M ad0 n0 (pc, lv, stk, st, c, k) := by
  unfold zrem zn at h
  split at h
  · split at h
    · cases h
    · rename_i hne
      cases h
      exact zk_same hk fun _ _ _ _ _ w => lv_irem F.1.1 F.1.2.1 hd hne w
  · cases h
theorem zk_i2b (F : zFx p R s m args meth cd D cA A M ad0 B) (hd : decode M.2.1 pc = .ok (.i2b, 1)) (h : zi2b pc lv stk st c k = some (.inl y)) (hk : zKp p l e R s m args below meth cd Q D cA A M ad0 n0 y) : zKp p l e R s m args below meth cd Q D cA A M ad0 n0 (pc, lv, stk, st, c, k) := by
  unfold zi2b zn at h
  split at h
  · cases h
    exact zk_same hk fun _ _ _ _ _ w => lv_i2b F.1.1 F.1.2.1 hd rfl w
  · cases h
theorem zk_dup (F : zFx p R s m args meth cd D cA A M ad0 B) (hd : decode M.2.1 pc = .ok (.dup, 1)) (h : zdup pc lv stk st c k = some (.inl y)) (hk : zKp p l e R s m args below meth cd Q D cA A M ad0 n0 y) : zKp p l e R s m args below meth cd Q D cA A M ad0 n0 (pc, lv, stk, st, c, k) := by
  unfold zdup zn at h
  split at h
  · split at h
    · rename_i hc
      cases h
      exact zk_same hk fun ad _ _ _ _ w => lv_dup F.1.1 F.1.2.1 hd (by rw [zcv_cat]; exact hc) w
    · cases h
  · cases h
theorem zk_dup2 (F : zFx p R s m args meth cd D cA A M ad0 B) (hd : decode M.2.1 pc = .ok (.dup2, 1)) (h : zdup2 pc lv stk st c k = some (.inl y)) (hk : zKp p l e R s m args below meth cd Q D cA A M ad0 n0 y) : zKp p l e R s m args below meth cd Q D cA A M ad0 n0 (pc, lv, stk, st, c, k) := by
  unfold zdup2 zn at h
  split at h
  · split at h
    · rename_i hc
      cases h
      exact zk_same hk fun ad _ _ _ _ w => lv_dup2_11 F.1.1 F.1.2.1 hd (by rw [zcv_cat]; exact hc.1) (by rw [zcv_cat]; exact hc.2) w
    · cases h
  · cases h
theorem zk_pop (F : zFx p R s m args meth cd D cA A M ad0 B) (hd : decode M.2.1 pc = .ok (.pop, 1)) (h : zpop pc lv stk st c k = some (.inl y)) (hk : zKp p l e R s m args below meth cd Q D cA A M ad0 n0 y) : zKp p l e R s m args below meth cd Q D cA A M ad0 n0 (pc, lv, stk, st, c, k) := by
  unfold zpop zn at h
  split at h
  · split at h
    · rename_i hc
      cases h
      exact zk_same hk fun ad _ _ _ _ w => lv_pop F.1.1 F.1.2.1 hd (by rw [zcv_cat]; exact hc) w
    · cases h
  · cases h
theorem zk_goto {a : Nat} {off : Int} (F : zFx p R s m args meth cd D cA A M ad0 B) (hd : decode M.2.1 pc = .ok (.goto off, 3)) (ht : (pc : Int) + off = (a : Int)) (hk : zKp p l e R s m args below meth cd Q D cA A M ad0 n0 (a, lv, stk, st, c, k)) : zKp p l e R s m args below meth cd Q D cA A M ad0 n0 (pc, lv, stk, st, c, k) :=
  zk_same hk fun _ _ _ _ _ w => lv_goto F.1.1 F.1.2.1 hd ht w
/-- of two ways, the one that is gone -/
theorem zk_two {t pc' : Nat} {r : List Value} {P : Prop} [Decidable P] (h : (if P then zn t lv r st c k else zn pc' lv r st c k) = some (.inl y)) (hk : zKp p l e R s m args below meth cd Q D cA A M ad0 n0 y)
    (row : ∀ (H : Heap) (locs : List Loc) (ls : Array Slot) (r' : List Value), (P → W p l e R s m args below meth cd H locs c k Q (F0 m t ls r')) → (¬ P → W p l e R s m args below meth cd H locs c k Q (F0 m pc' ls r')) → ∀ ad : Nat → Nat, r' = r.map (zcv ad) → W p l e R s m args below meth cd H locs c k Q (F0 m pc ls (stk.map (zcv ad)))) : zKp p l e R s m args below meth cd Q D cA A M ad0 n0 (pc, lv, stk, st, c, k) := by
  intro ad ls H locs I
  by_cases hP : P
  · rw [if_pos hP] at h
    cases h
    exact row H locs ls _ (fun _ => hk ad ls H locs I) (fun q => absurd hP q) ad rfl
  · rw [if_neg hP] at h
    cases h
    exact row H locs ls _ (fun q => absurd q hP) (fun _ => hk ad ls H locs I) ad rfl
theorem zk_if1 {a : Nat} {off : Int} {kd : ClassFile.Cond} (F : zFx p R s m args meth cd D cA A M ad0 B) (hd : decode M.2.1 pc = .ok (.ifCond kd off, 3)) (ht : (pc : Int) + off = (a : Int)) (h : zif1 kd a pc lv stk st c k = some (.inl y)) (hk : zKp p l e R s m args below meth cd Q D cA A M ad0 n0 y) : zKp p l e R s m args below meth cd Q D cA A M ad0 n0 (pc, lv, stk, st, c, k) := by
  unfold zif1 at h
  split at h
  · cases kd with
    | eq => exact zk_two h hk fun H locs ls r' kt kf ad e => by subst e; exact lv_if_eq F.1.1 F.1.2.1 hd ht kt kf
    | ne => exact zk_two h hk fun H locs ls r' kt kf ad e => by subst e; exact lv_if_ne F.1.1 F.1.2.1 hd ht kt (fun q => kf (fun z => z q))
    | lt => exact zk_two h hk fun H locs ls r' kt kf ad e => by subst e; exact lv_if_lt F.1.1 F.1.2.1 hd ht kt kf
    | ge => exact zk_two h hk fun H locs ls r' kt kf ad e => by subst e; exact lv_if_ge F.1.1 F.1.2.1 hd ht kt kf
    | gt => exact zk_two h hk fun H locs ls r' kt kf ad e => by subst e; exact lv_if_gt F.1.1 F.1.2.1 hd ht kt kf
    | le => exact zk_two h hk fun H locs ls r' kt kf ad e => by subst e; exact lv_if_le F.1.1 F.1.2.1 hd ht kt kf
  · cases h
theorem zk_if2 {a : Nat} {off : Int} {kd : ClassFile.Cond} (F : zFx p R s m args meth cd D cA A M ad0 B) (hd : decode M.2.1 pc = .ok (.if_icmp kd off, 3)) (ht : (pc : Int) + off = (a : Int)) (h : zif2 kd a pc lv stk st c k = some (.inl y)) (hk : zKp p l e R s m args below meth cd Q D cA A M ad0 n0 y) : zKp p l e R s m args below meth cd Q D cA A M ad0 n0 (pc, lv, stk, st, c, k) := by
  unfold zif2 at h
  split at h
  · cases kd with
    | eq => exact zk_two h hk fun H locs ls r' kt kf ad e => by subst e; exact lv_icmp_eq F.1.1 F.1.2.1 hd ht kt kf
    | ne => exact zk_two h hk fun H locs ls r' kt kf ad e => by subst e; exact lv_icmp_ne F.1.1 F.1.2.1 hd ht kt (fun q => kf (fun z => z q))
    | lt => exact zk_two h hk fun H locs ls r' kt kf ad e => by subst e; exact lv_icmp_lt F.1.1 F.1.2.1 hd ht kt kf
    | ge => exact zk_two h hk fun H locs ls r' kt kf ad e => by subst e; exact lv_icmp_ge F.1.1 F.1.2.1 hd ht kt kf
    | gt => exact zk_two h hk fun H locs ls r' kt kf ad e => by subst e; exact lv_icmp_gt F.1.1 F.1.2.1 hd ht kt kf
    | le => exact zk_two h hk fun H locs ls r' kt kf ad e => by subst e; exact lv_icmp_le F.1.1 F.1.2.1 hd ht kt kf
  · cases h
theorem zsw_out {x : Int32} {d pc : Nat} {lo : Int} : ∀ (sw : List (Int32 × Nat)) (os : List Int) (j : Nat), sw.map (fun q => (q.1.toInt, (q.2 : Int))) = os.mapIdx (fun i o => (lo + ((j + i : Nat) : Int), (pc : Int) + o)) → (x.toInt < lo + (j : Int) ∨ lo + (j : Int) + (os.length : Int) ≤ x.toInt) → zswT x d sw = d := by
  intro sw
  induction sw with
  | nil => intro os j _ _; rfl
  | cons q r ih =>
    intro os j h hx
    cases os with
    | nil => simp at h
    | cons o os =>
      simp only [List.map_cons, List.mapIdx_cons, List.cons.injEq, Prod.mk.injEq] at h
      obtain ⟨⟨h1, h2⟩, h3⟩ := h
      unfold zswT
      have hne : ¬ x = q.1 := fun e => by
        subst e
        simp only [List.length_cons] at hx
        omega
      rw [if_neg hne]
      refine ih os (j + 1) ?_ ?_
      · rw [h3]
        congr 1
        funext i o'
        congr 2
        omega
      · simp only [List.length_cons] at hx
        omega
theorem zsw_in {x : Int32} {d pc : Nat} {lo : Int} : ∀ (sw : List (Int32 × Nat)) (os : List Int) (j : Nat), sw.map (fun q => (q.1.toInt, (q.2 : Int))) = os.mapIdx (fun i o => (lo + ((j + i : Nat) : Int), (pc : Int) + o)) → lo + (j : Int) ≤ x.toInt → x.toInt < lo + (j : Int) + (os.length : Int) → ∃ off, os[(x.toInt - lo - (j : Int)).toNat]? = some off ∧ (pc : Int) + off = (zswT x d sw : Int) := by
  intro sw
  induction sw with
  | nil =>
    intro os j h hx hy
    cases os with
    | nil => simp at hy; omega
    | cons o os => simp at h
  | cons q r ih =>
    intro os j h hx hy
    cases os with
    | nil => simp at h
    | cons o os =>
      simp only [List.map_cons, List.mapIdx_cons, List.cons.injEq, Prod.mk.injEq] at h
      obtain ⟨⟨h1, h2⟩, h3⟩ := h
      unfold zswT
      by_cases he : x = q.1
      · rw [if_pos he]
        subst he
        refine ⟨o, ?_, h2.symm⟩
        rw [show (q.1.toInt - lo - (j : Int)).toNat = 0 by omega]
        rfl
      · rw [if_neg he]
        have hne : x.toInt ≠ lo + (j : Int) := fun z => he (Int32.toInt_inj.mp (by rw [z, h1]; simp))
        simp only [List.length_cons] at hy
        obtain ⟨off, e1, e2⟩ := ih os (j + 1) (by
          rw [h3]
          congr 1
          funext i o'
          congr 2
          omega) (by omega) (by omega)
        refine ⟨off, ?_, e2⟩
        rw [show (x.toInt - lo - (j : Int)).toNat = (x.toInt - lo - ((j + 1 : Nat) : Int)).toNat + 1 by omega]
        simpa using e1
theorem zk_sw {a len : Nat} {dflt lo hi : Int} {offs : Array Int} {sw : List (Int32 × Nat)} (F : zFx p R s m args meth cd D cA A M ad0 B) (hd : decode M.2.1 pc = .ok (.tableswitch dflt lo hi offs, len)) (ht : (pc : Int) + dflt = (a : Int)) (hs : zokSw pc lo hi offs sw = true) (h : zsw a sw lv stk st c k = some (.inl y)) (hk : zKp p l e R s m args below meth cd Q D cA A M ad0 n0 y) : zKp p l e R s m args below meth cd Q D cA A M ad0 n0 (pc, lv, stk, st, c, k) := by
  unfold zokSw at hs
  simp only [Bool.and_eq_true, decide_eq_true_eq] at hs
  obtain ⟨h1, h2⟩ := hs
  have h1' : sw.map (fun q => (q.1.toInt, (q.2 : Int))) = offs.toList.mapIdx (fun i o => (lo + ((0 + i : Nat) : Int), (pc : Int) + o)) := by
    rw [h1]
    congr 1
    funext i o
    simp
  have hlen : (offs.toList.length : Int) = hi - lo + 1 := by simpa using h2
  unfold zsw zn at h
  split at h
  · rename_i x r
    cases h
    refine zk_same hk fun ad ls H locs _ w => ?_
    by_cases hx : x.toInt < lo ∨ hi < x.toInt
    · rw [zsw_out sw offs.toList 0 h1' (by omega)] at w
      exact lv_tableOut F.1.1 F.1.2.1 hd hx ht w
    · obtain ⟨off, e1, e2⟩ := zsw_in (d := a) (x := x) sw offs.toList 0 h1' (by omega) (by omega)
      refine lv_tableIn F.1.1 F.1.2.1 hd (fun q => hx (Or.inl q)) (fun q => hx (Or.inr q)) (off := off) ?_ e2 w
      rw [← Array.getElem?_toList]
      simpa using e1
  · cases h
theorem zk_getf {a b cw idx : Nat} (F : zFx p R s m args meth cd D cA A M ad0 B) (hd : decode M.2.1 pc = .ok (.getfield idx, 3)) (hok : zokF (zmO M) idx a b cw = true) (h : zgetf a b pc lv stk st c k = some (.inl y)) (hk : zKp p l e R s m args below meth cd Q D cA A M ad0 n0 y) : zKp p l e R s m args below meth cd Q D cA A M ad0 n0 (pc, lv, stk, st, c, k) := by
  unfold zokF at hok
  split at hok
  · rename_i C T N hc
    simp only [Bool.and_eq_true, decide_eq_true_eq] at hok
    unfold zgetf zn at h
    split at h
    · rename_i r rest
      split at h
      · rename_i ci' fs hs
        split at h
        · rename_i hci
          subst hci
          split at h
          · rename_i v hv
            cases h
            intro ad ls H locs I
            refine va_get (D := D) (ci := ci') (v := zcv ad v) F.1.1 F.1.2.1 F.1.2.2.2.2 (zcl_ws hc) F.1.2.2.2.1 F.2.1.1 I.2.1.1 r (zw_at hs) hc b hok.1 (zw_in F hok.2) (fun _ q => q) ?_ hd (hk ad ls H locs I)
            rw [List.getElem?_map, hv]
            rfl
          · cases h
        · cases h
      · cases h
    · cases h
  · cases hok
theorem zfits_ok {ty : FieldType} {v : Value} {ad : Nat → Nat} (h : zfits ty v = true) : narrow ty (zcv ad v) = zcv ad v ∧ fits ty (zcv ad v) = true := by
  unfold zfits at h
  split at h
  · exact ⟨rfl, rfl⟩
  · rename_i x
    simp only [Bool.or_eq_true, beq_iff_eq] at h
    rcases h with rfl | rfl <;> exact ⟨rfl, rfl⟩
  · exact ⟨rfl, rfl⟩
  · exact ⟨rfl, rfl⟩
  · cases h
theorem zk_putf {a b cw idx : Nat} {ft : Nat → FieldType} (F : zFx p R s m args meth cd D cA A M ad0 B) (hd : decode M.2.1 pc = .ok (.putfield idx, 3)) (hok : zokF (zmO M) idx a b cw = true) (hop : zokP M a b = true) (hft : zfty[a]? = some ft) (h : zputf (ft b) a b pc lv stk st c k = some (.inl y)) (hk : zKp p l e R s m args below meth cd Q D cA A M ad0 n0 y) : zKp p l e R s m args below meth cd Q D cA A M ad0 n0 (pc, lv, stk, st, c, k) := by
  unfold zokF at hok
  unfold zokP at hop
  split at hok
  · rename_i C T N hc
    rw [hc] at hop
    dsimp only at hop
    simp only [Bool.and_eq_true, decide_eq_true_eq] at hok
    unfold zputf zn at h
    split at h
    · rename_i v r rest
      split at h
      · rename_i ci' fs hs
        split at h
        · rename_i hci
          obtain ⟨rfl, hl, hfit⟩ := hci
          cases h
          intro ad ls H locs I
          obtain ⟨hty, hnm⟩ := zcl_ty hc hft
          obtain ⟨f1, f2⟩ := zfits_ok (ad := ad) hfit
          have hlm : b < (fs.map (zcv ad)).length := by rw [List.length_map]; exact hl
          have go : ∀ (H1 : Heap) (locs1 : List Loc), va_P D zcl ((zw cA ad st).set r (ad r, .inr (ci', (fs.map (zcv ad)).set b (zcv ad v)))) H1 → va_D A ((zw cA ad st).set r (ad r, .inr (ci', (fs.map (zcv ad)).set b (zcv ad v)))) → va_S A s.heap H1 locs1 → W p l e R s m args below meth cd H1 locs1 c k Q (F0 m (pc + 3) ls (rest.map (zcv ad))) := by
            intro H1 locs1 hP hD hS
            have e1 : (zw cA ad st).set r (ad r, .inr (ci', (fs.map (zcv ad)).set b (zcv ad v))) = zw cA ad (st.set r (.inl (ci', fs.set b v))) := by
              rw [← zw_set]
              simp only [zcc, List.map_set]
            rw [e1] at hP hD
            exact hk ad ls H1 locs1 ⟨I.1, ⟨hP, hD, hS⟩, I.2.2.1, I.2.2.2.1, by rw [List.length_set]; exact I.2.2.2.2⟩
          cases hfin : (T b).2.2.2 with
          | false => exact va_put (D := D) (ci := ci') (v := zcv ad v) F.1.1 F.1.2.1 F.1.2.2.2.2 (zcl_ws hc) ft hty hnm F.1.2.2.2.1 F.2.1.1 I.2.1.1 I.2.1.2.1 I.2.1.2.2 r (zw_at hs) hc b hok.1 (zw_in F hok.2) (fun _ q => q) hfin (hty b hok.1) f1 f2 hlm hd go
          | true =>
            rw [hfin] at hop
            simp only [Bool.not_true, Bool.false_or, Bool.and_eq_true, decide_eq_true_eq] at hop
            exact va_putF (D := D) (ci := ci') (v := zcv ad v) F.1.1 F.1.2.1 F.1.2.2.2.2 (zcl_ws hc) ft hty hnm F.1.2.2.2.1 F.2.1.1 I.2.1.1 I.2.1.2.1 I.2.1.2.2 r (zw_at hs) hc b hok.1 (zw_in F hok.2) (fun _ q => q) hfin (F.2.2.1.2.2 hop.1) hop.2 (hty b hok.1) f1 f2 hlm hd go
        · cases h
      · cases h
    · cases h
  · cases hok
end ZSND
