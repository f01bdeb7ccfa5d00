/-! THE ABSTRACT MACHINE, 12: calls and ends -/
/-- a method's start, and its end: the answer, the cells behind it; addresses of old cells stay -/
def zPre (D : va_G) (cA : Nat → ClassId) (ad : Nat → Nat) (B : Nat) (st : zS) (sz : Nat) (U : State) : Prop := U.heap.size = sz ∧ va_P D zcl (zw cA ad st) U.heap ∧ va_K D zcl (ztl cA) U ∧ va_D (fun q => B ≤ q) (zw cA ad st) ∧ B ≤ U.heap.size ∧ zcon ad B U
def zQ (D : va_G) (cA : Nat → ClassId) (ad : Nat → Nat) (st : zS) (A : Nat → Prop) (v : Option Value) (st' : zS) : Array Value → State → Outcome → State → Prop := fun _ s0 oc t => (∃ ad' : Nat → Nat, zag st.length ad ad' ∧ oc = .returned (v.map (zcv ad')) ∧ va_P D zcl (zw cA ad' st') t.heap ∧ va_D A (zw cA ad' st') ∧ st.length ≤ st'.length) ∧ va_F A s0 t
def zMet (l : Launch) (d n : Nat) (as : List Value) (st : zS) (v : Option Value) (st' : zS) : Prop := ∀ M : zMth, zMs[n]? = some M → ∀ (D : va_G) (cA : Nat → ClassId) (ad : Nat → Nat) (B sz : Nat), Met l M.1 (zws M) (zrm d M) (va_Pc (as.map (zcv ad)) (zPre D cA ad B st sz)) (zQ D cA ad st (va_A (zw cA ad st) sz) v st') (zmC M) (zmS M) (va_A (zw cA ad st) sz)
section ZSND
variable {p : Program} {l : Launch} {e : Env} {R : Room} {s : State} {m : MethodId} {args : Array Value} {below : List Frame} {meth : Method} {cd : Code} {Q : State → Prop}
variable {D : va_G} {cA : Nat → ClassId} {A : Nat → Prop} {M : zMth} {ad0 : Nat → Nat} {n0 B : Nat}
variable {pc : Nat} {lv stk : List Value} {st : zS} {c k : Nat} {y : zX}
theorem zfree {ad : Nat → Nat} {ls : Array Slot} {H : Heap} {locs : List Loc} (F : zFx p R s m args meth cd D cA A M ad0 B) (I : zInv s D cA A M ad0 n0 ad lv st c k ls H locs) : ∀ q, va_A (zw cA ad st) H.size q → A q := by
  intro q h
  rcases h with ⟨k', e', h⟩ | h
  · exact I.2.1.2.1.2 k' _ h
  · exact F.2.1.2.1 q (Nat.le_trans I.2.1.2.2.1 h)
/-- behind a call -/
theorem zk_after {rest : List Value} {st0 : List Value} {mc ms : Nat} {v : Option Value} {st' : zS} {ad : Nat → Nat} {ls : Array Slot} {H : Heap} {locs : List Loc} {a : Array Value} (F : zFx p R s m args meth cd D cA A M ad0 B) (I : zInv s D cA A M ad0 n0 ad lv st c k ls H locs)
    (hr : va_Run p l e R s m args below meth cd H locs c k mc ms (F0 m pc ls st0) (rest.map (zcv ad)) (zQ D cA ad st (va_A (zw cA ad st) H.size) v st' a) (va_A (zw cA ad st) H.size))
    (h1 : lv.all (zsc st.length) = true) (h2 : rest.all (zsc st.length) = true) (h3 : c + mc ≤ zmC M) (h4 : k + ms ≤ zmS M) (hk : zKp p l e R s m args below meth cd Q D cA A M ad0 n0 (pc + 3, lv, v.toList ++ rest, st', c + mc, k + ms)) : W p l e R s m args below meth cd H locs c k Q (F0 m pc ls st0) := by
  intro T hT X
  obtain ⟨v', st₀, t, T', L, e0, X', hL, e1, e2, ⟨⟨ad', g, ho, hP, hD, hn⟩, hz, hkp⟩, go⟩ := hr T hT X
  cases ho
  rw [e0] at hz hkp
  have hfr := zfree F I
  have hS := I.2.1.2.2
  have w := hk ad' ls T'.heap (locs ++ L) ⟨⟨by rw [zlv_ag g lv 0 h1]; exact I.1.1, I.1.2⟩, ⟨by rw [e1]; exact hP, hD.weaken (fun _ _ _ z => hfr _ z), ⟨Nat.le_trans hS.1 (by rw [e1]; exact hz), fun q q1 q2 => by rw [e1, hkp q (Nat.lt_of_lt_of_le q1 hS.1) (fun z => q2 (hfr q z))]; exact hS.2.1 q q1 q2, fun q hq => by
      rcases List.mem_append.mp hq with z | z
      · exact hS.2.2 q z
      · exact hfr _ (hL q z)⟩⟩, ⟨h3, h4⟩, I.2.2.2.1.tr g I.2.2.2.2, Nat.le_trans I.2.2.2.2 hn⟩
  have e3 : (v.toList ++ rest).map (zcv ad') = (v.map (zcv ad')).toList ++ rest.map (zcv ad) := by
    rw [List.map_append, zmap_ag g h2]
    cases v <;> rfl
  dsimp only at w
  rw [e3] at w
  obtain ⟨t2, a1, b1⟩ := w T' rfl X'
  exact ⟨t2, go t2 a1, b1⟩
theorem zpre_at {ad : Nat → Nat} {ls : Array Slot} {H : Heap} {locs : List Loc} (F : zFx p R s m args meth cd D cA A M ad0 B) (I : zInv s D cA A M ad0 n0 ad lv st c k ls H locs) (U : State) (hU : U.heap = H) (hW : s.WarmedH U.vm) : zPre D cA ad B st H.size U := by
  refine ⟨by rw [hU], by rw [hU]; exact I.2.1.1, va_K.moved hW.alike F.2.1.1, I.2.1.2.1.weaken (fun _ _ _ z => F.2.1.2.2.2.1 _ z), by rw [hU]; exact Nat.le_trans F.2.1.2.2.2.2 I.2.1.2.2.1, F.2.1.2.2.1.go hW (fun a ha hb => by rw [hU]; exact I.2.1.2.2.2.1 a ha (fun z => hb (F.2.1.2.2.2.1 a z))) (fun i => I.2.2.2.1 (500 + i) (Or.inr (by omega)))⟩
theorem zpre_blind {D : va_G} {cA : Nat → ClassId} {ad : Nat → Nat} {B sz : Nat} {st : zS} {av : List Value} : FrameBlind (va_Pc av (zPre D cA ad B st sz)) := by
  intro a U g mk h
  obtain ⟨h0, h1, h2, h3, h4, h5, h6⟩ := h
  exact ⟨h0, h1, h2, va_K.moved (u := U) (U := U.calling g mk a) (Vm.Alike.refl U.vm) h3, h4, h5, h6.blind⟩
theorem zcb {m' : zMth} {own : String} {idx cw n : Nat} {args : Array Value} {s : State} {d : Nat} (hts : ∀ w ∈ zT, w.before args s = true) (hfr : d + 2 ≤ R.frames) (hlo : 64 * (d + 2) ≤ R.locals) (hL : zmL m' ≤ 40) (hcode : Cond.code m'.1 m'.2.1 (zmL m') (zmR m') ∈ zT) (hini : Cond.initialized m'.1.cls ∈ zT) (hlink : zT[cw]? = some (.methodLink own idx m'.1)) (hc : m'.1.cls ≠ "java/lang/invoke/MethodHandle" ∧ m'.1.cls ≠ "java/lang/invoke/VarHandle") (hn : znpar m'.1 = some n) : CallB R s args own idx m'.1 m'.2.1 (zmL m') (zmR m') (zws m') (zrm d m') (zmC m') (zmS m') n := by
  refine ⟨rfl, rfl, hfr, ?_, fun w hw a' U hW => ?_, List.mem_cons_self, hts _ hcode, hts _ hini, hc, fun sig hs => ?_, hts _ (List.mem_of_getElem? hlink)⟩
  · show 8 + (zmL m' + 11) + 64 * (d + 1) ≤ R.locals
    omega
  · have hw' : w ∈ zT := by
      rcases List.mem_cons.mp hw with rfl | z
      · exact hcode
      · exact z
    exact word_at hW (zT_in hw').2 (hts w hw')
  · unfold znpar at hn
    rw [hs] at hn
    exact (Option.some.inj hn).symm
theorem zrcv0_of {m' : zMth} {as : List Value} (h : zrcv0 m' as st = true) : ∃ (r : Nat) (ar : List Value) (ci : Nat) (fs : List Value) (T : u_T) (N : Nat), as = .ref r :: ar ∧ st[r]? = some (.inl (ci, fs)) ∧ zcl[ci]? = some (m'.1.cls, T, N) := by
  unfold zrcv0 at h
  split at h
  · rename_i r ar
    split at h
    · rename_i ci fs hr
      split at h
      · rename_i C T N hc
        have := of_decide_eq_true h
        subst this
        exact ⟨r, ar, ci, fs, T, N, rfl, hr, hc⟩
      · cases h
    · cases h
  · cases h
theorem zrcv2_of {as : List Value} (h : zrcv2 as = true) : ∃ (r : Nat) (ar : List Value), as = .ref r :: ar := by
  unfold zrcv2 at h
  split at h
  · exact ⟨_, _, rfl⟩
  · cases h
theorem zcw0_of {m' : zMth} (h : zcw0 m' = true) : (Cond.code m'.1 m'.2.1 (zmL m') (zmR m') ∈ zT ∧ Cond.initialized m'.1.cls ∈ zT) ∧ Cond.instanceMethod m'.1 ∈ zT ∧ Cond.selects m'.1.cls m'.1 m'.1 ∈ zT := by
  unfold zcw0 at h
  split at h
  · simp only [Bool.and_eq_true, decide_eq_true_eq] at h
    obtain ⟨⟨⟨w1, w2⟩, w3⟩, w4⟩ := h
    exact ⟨⟨List.mem_of_getElem? w1, List.mem_of_getElem? w3⟩, List.mem_of_getElem? w2, List.mem_of_getElem? w4⟩
  · cases h
theorem zcw1_of {m' : zMth} (h : zcw1 m' = true) : (Cond.code m'.1 m'.2.1 (zmL m') (zmR m') ∈ zT ∧ Cond.initialized m'.1.cls ∈ zT) ∧ Cond.static m'.1 ∈ zT := by
  unfold zcw1 at h
  split at h
  · simp only [Bool.and_eq_true, decide_eq_true_eq] at h
    obtain ⟨⟨w1, w2⟩, w3⟩ := h
    exact ⟨⟨List.mem_of_getElem? w1, List.mem_of_getElem? w3⟩, List.mem_of_getElem? w2⟩
  · cases h
theorem zcw2_of {m' : zMth} (h : zcw2 m' = true) : (Cond.code m'.1 m'.2.1 (zmL m') (zmR m') ∈ zT ∧ Cond.initialized m'.1.cls ∈ zT) ∧ Cond.instanceMethod m'.1 ∈ zT ∧ m'.1.name = "<init>" ∧ zmR m' = none := by
  unfold zcw2 at h
  split at h
  · simp only [Bool.and_eq_true, decide_eq_true_eq] at h
    obtain ⟨⟨⟨w1, w2⟩, w3⟩, w4⟩ := h
    exact ⟨⟨List.mem_of_getElem? w1, List.mem_of_getElem? w3⟩, List.mem_of_getElem? w2, w4⟩
  · cases h
/-- a call -/
theorem zk_call {how a b idx cw d : Nat} {as : List Value} {x : zX} {n : Nat} (F : zFx p R s m args meth cd D cA A M ad0 B) (hfr : d + 2 ≤ R.frames) (hlo : 64 * (d + 2) ≤ R.locals) (hhow : (how = 0 ∧ decode M.2.1 pc = .ok (.invokevirtual idx, 3)) ∨ (how = 1 ∧ decode M.2.1 pc = .ok (.invokestatic idx, 3)) ∨ (how = 2 ∧ decode M.2.1 pc = .ok (.invokespecial idx, 3))) (hok : zokC (zmO M) how idx a b cw = true)
    (h : zcall how (zmC M) (zmS M) a b pc lv stk st c k = some (.inr (.inl (n, as, x)))) : n = a ∧ x.2.2.2.1 = st ∧ ∀ (v : Option Value) (st' : zS), zMet l d a as st v st' → zKp p l e R s m args below meth cd Q D cA A M ad0 n0 (x.1, x.2.1, v.toList ++ x.2.2.1, st', x.2.2.2.2.1, x.2.2.2.2.2) → zKp p l e R s m args below meth cd Q D cA A M ad0 n0 (pc, lv, stk, st, c, k) := by
  unfold zcall at h
  cases hm : zMs[a]? with
  | none => rw [hm] at h; cases h
  | some m' =>
    rw [hm] at h
    dsimp only at h
    split at h
    · rename_i hq
      obtain ⟨⟨hb, hrc, hal⟩, ⟨hsum, h1, h2⟩, h3, h4⟩ := hq
      cases h
      refine ⟨rfl, rfl, fun v st' hM hk => ?_⟩
      unfold zokC at hok
      rw [hm] at hok
      simp only [Bool.and_eq_true, decide_eq_true_eq] at hok
      obtain ⟨⟨⟨⟨o1, o2⟩, o3⟩, o4⟩, o6⟩ := hok
      have o1 := of_decide_eq_true o1
      intro ad ls H locs I
      have hst : stk.map (zcv ad) = (((stk.take b).reverse).map (zcv ad)).reverse ++ (stk.drop b).map (zcv ad) := by
        rw [← List.map_reverse, List.reverse_reverse, ← List.map_append, List.take_append_drop]
      have hlen : ((stk.take b).reverse).length = b := by simp; omega
      have hCF : CallFix p m cd M.2.1 (zmL M) s args zT (zmO M) := ⟨F.1.1, F.1.2.1, F.1.2.2.1, F.1.2.2.2.1, F.1.2.2.2.2⟩
      have hrm : c + zmC m' ≤ R.cells ∧ k + zmS m' ≤ R.slots := ⟨by rw [F.2.2.2.1.2.2.1]; exact h3, by rw [F.2.2.2.1.2.2.2]; exact h4⟩
      have hMet := hM m' hm D cA ad B H.size
      have hpre : ∀ (U : State), U.heap = H → s.WarmedH U.vm → va_Pc (((stk.take b).reverse).map (zcv ad)) (zPre D cA ad B st H.size) (((stk.take b).reverse).map (zcv ad)).toArray U := fun U hU hW => ⟨rfl, zpre_at F I U hU hW⟩
      have hroom : 2 * (F0 m pc ls (stk.map (zcv ad))).monitorRoom + (((stk.drop b).map (zcv ad)).map fun v => v.category).sum ≤ 8 := lv_room (by rw [zsum]; exact hsum)
      generalize hase : (stk.take b).reverse = as at *
      rcases hhow with ⟨rfl, hd⟩ | ⟨rfl, hd⟩ | ⟨rfl, hd⟩
      · rw [if_pos rfl] at o6
        obtain ⟨⟨w1, w3⟩, w2, w4⟩ := zcw0_of o6
        unfold zrcv at hrc
        rw [if_pos rfl] at hrc
        obtain ⟨r, ar, ci, fs, T, N, rfl, hr, hc⟩ := zrcv0_of hrc
        have hcb := zcb (R := R) (d := d) F.1.2.2.2.2 (by omega) (by omega) o3 w1 w3 o1 o2 (n := b - 1) (by simpa using o4)
        have hrecv := va_recv F.2.1.1 I.2.1.1 hc (zw_at hr)
        exact zk_after F I (va_runV (As := ar.map (zcv ad)) (b := ad r) (rest := (stk.drop b).map (zcv ad)) hCF hMet ⟨hcb, F.1.2.2.2.2 _ w2, F.1.2.2.2.2 _ w4⟩ ⟨zpre_blind, hrecv, hpre⟩ rfl (by simp at hlen ⊢; omega) I.1.1.1 (by show stk.map (zcv ad) = _; rw [hst]; simp [zcv]) hroom hd hrm) h1 h2 h3 h4 hk
      · rw [if_neg (by decide), if_pos rfl] at o6
        obtain ⟨⟨w1, w3⟩, w2⟩ := zcw1_of o6
        have hcb := zcb (R := R) (d := d) F.1.2.2.2.2 (by omega) (by omega) o3 w1 w3 o1 o2 (n := b) (by simpa using o4)
        exact zk_after F I (va_runS (As := as.map (zcv ad)) (rest := (stk.drop b).map (zcv ad)) hCF hMet ⟨hcb, F.1.2.2.2.2 _ w2⟩ ⟨zpre_blind, hpre⟩ rfl (by rw [List.length_map]; exact hlen) I.1.1.1 (by show stk.map (zcv ad) = _; rw [hst]) hroom hd hrm) h1 h2 h3 h4 hk
      · rw [if_neg (by decide), if_neg (by decide)] at o6
        obtain ⟨⟨w1, w3⟩, w2, w4, w5⟩ := zcw2_of o6
        unfold zrcv at hrc
        rw [if_neg (by decide), if_neg (by decide)] at hrc
        obtain ⟨r, ar, rfl⟩ := zrcv2_of hrc
        have hcb := zcb (R := R) (d := d) F.1.2.2.2.2 (by omega) (by omega) o3 w1 w3 o1 o2 (n := b - 1) (by simpa using o4)
        rw [w5] at hcb
        exact zk_after F I (va_runI (As := ar.map (zcv ad)) (b := ad r) (rest := (stk.drop b).map (zcv ad)) hCF hMet ⟨hcb, w4, F.1.2.2.2.2 _ w2⟩ ⟨zpre_blind, hpre⟩ rfl (by simp at hlen ⊢; omega) I.1.1.1 (by show stk.map (zcv ad) = _; rw [hst]; simp [zcv]) hroom hd hrm) h1 h2 h3 h4 hk
    · cases h
end ZSND
