/-! THE ABSTRACT MACHINE, 14: a run of a method is its contract -/
theorem zgo_sound {p : Program} {l : Launch} {e : Env} {R : Room} {s : State} {m : MethodId} {args : Array Value} {below : List Frame} {meth : Method} {cd : Code} {D : va_G} {cA : Nat → ClassId} {A : Nat → Prop} {M : zMth} {ad0 : Nat → Nat} {n0 B d : Nat} {stI st' : zS} {v : Option Value} {call : Nat → List Value → zS → Option (Option Value × zS)}
    (hcall : ∀ (n : Nat) (as : List Value) (st : zS) (v : Option Value) (st' : zS), call n as st = some (v, st') → zMet l d n as st v st') (F : zFx p R s m args meth cd D cA A M ad0 B) (hfr : d + 2 ≤ R.frames) (hlo : 64 * (d + 2) ≤ R.locals) (hn : stI.length = n0) :
    ∀ (f : Nat) (x : zX), zgo call M f x = some (v, st') → zKp p l e R s m args below meth cd (MQ below (zQ D cA ad0 stI A v st') args s (zmC M) (zmS M) A) D cA A M ad0 n0 x := by
  intro f
  induction f with
  | zero => intro x h; cases h
  | succ f ih =>
    intro x h
    unfold zgo at h
    cases hz : zstep M x with
    | none => rw [hz] at h; cases h
    | some o =>
      rw [hz] at h
      obtain y | ⟨n, as, x'⟩ | v' := o
      · exact zs_next F hfr hz (ih y h)
      · obtain ⟨pc, lv, stk, st, c, k⟩ := x'
        dsimp only at h
        obtain ⟨e1, e2⟩ := zs_call (l := l) (e := e) (below := below) (Q := MQ below (zQ D cA ad0 stI A v st') args s (zmC M) (zmS M) A) (n0 := n0) F hfr hlo hz
        dsimp only at e1
        cases hc : call n as st with
        | none => rw [hc] at h; cases h
        | some q =>
          obtain ⟨v1, st1⟩ := q
          rw [hc] at h
          dsimp only at h
          exact e2 v1 st1 (by rw [← e1]; exact hcall n as st v1 st1 hc) (ih _ h)
      · cases h
        exact zs_ret F hn hz
theorem zsound {l : Launch} (hok : ∀ M ∈ zMs, zokM M = true) (Fu : Nat) : ∀ (d n : Nat) (as : List Value) (st : zS) (v : Option Value) (st' : zS), zrun Fu d n as st = some (v, st') → zMet l d n as st v st' := by
  intro d
  induction d with
  | zero => intro n as st v st' h; cases h
  | succ d ih =>
    intro n as st v st' h M hm D cA ad B sz
    have h : (match zMs[n]? with
      | none => none
      | some m => if (zargs as).length ≤ zmL m then zgo (zrun Fu d) m Fu (0, zlocals (zmL m) as, [], st, 0, 0) else none) = some (v, st') := h
    rw [hm] at h
    dsimp only at h
    split at h
    · rename_i hal
      have okM := hok M (List.mem_of_getElem? hm)
      have ok1 := (Bool.and_eq_true_iff.mp okM).1
      simp only [Bool.and_eq_true, decide_eq_true_eq] at ok1
      obtain ⟨⟨k1, k2⟩, k3⟩ := ok1
      refine Met.ofW (cc := M.2.1) (maxL := zmL M) (ret := zmR M) k1 rfl ?_
      intro p e s m args below meth c s₁ Bd hml hv
      obtain ⟨rfl, h0, h1, h2, h3, h4, h5⟩ := hv
      subst h0
      have hts0 := atoms_spec (ws := zws M) Bd.pre
      have hts : ∀ w ∈ zT, w.before ((as.map (zcv ad)).toArray) s = true := fun w hw => hts0 w (List.mem_cons_of_mem _ hw)
      have hown : s.vm.findClass (zmO M) = some m.cls := k2 ▸ findClass_of_methodNamed Bd.named
      have hA : ∀ q, s.heap.size ≤ q → va_A (zw cA ad st) s.heap.size q := fun q hq => Or.inr hq
      have hAB : ∀ q, va_A (zw cA ad st) s.heap.size q → B ≤ q := by
        intro q hq
        rcases hq with ⟨k', e', z⟩ | z
        · exact h3.2 k' _ z
        · exact Nat.le_trans h4 z
      have F : zFx p (headSpec (zws M) (zrm (d + 1) M)).room s m ((as.map (zcv ad)).toArray) meth c D cA (va_A (zw cA ad st) s.heap.size) M ad B :=
        ⟨⟨Bd.exec, Bd.bytes, hml, hown, hts⟩, ⟨h2, hA, h5, hAB, h4⟩, ⟨Bd.returns, Bd.notSynchronized, fun hin => ((name_of_methodNamed Bd.named Bd.method).1).trans hin⟩, ⟨Nat.succ_le_succ (Nat.zero_le _), by show 64 ≤ 64 * (d + 1 + 1); omega, rfl, rfl⟩, (Bool.and_eq_true_iff.mp okM).2⟩
      rw [lg_entry_eq]
      have hl := zl_entry (ad := ad) (n := zmL M) as hal
      exact zgo_sound ih F (Nat.le_refl _) (Nat.le_refl _) rfl Fu (0, zlocals (zmL M) as, [], st, 0, 0) h ad _ s.heap [] ⟨⟨hl, zlocals_len hal⟩, ⟨h1, h3.self, va_S.rf⟩, ⟨Nat.zero_le _, Nat.zero_le _⟩, zag.rf, Nat.le_refl _⟩
    · cases h
