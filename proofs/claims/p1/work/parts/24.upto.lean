/-! A RUN UP TO A PLACE -/
def zto (call : Nat → List Value → zS → Option (Option Value × zS)) (m : zMth) (stop : Nat) : Nat → zX → Option zX
  | 0, _ => none
  | f + 1, x => if x.1 = stop then some x else match zstep m x with
    | some (.inl y) => zto call m stop f y
    | some (.inr (.inl (n, as, pc, lv, stk, st, c, s))) => (match call n as st with
      | none => none
      | some (v, st') => zto call m stop f (pc, lv, v.toList ++ stk, st', c, s))
    | _ => none
theorem zto_sound {p : Program} {l : Launch} {e : Env} {R : Room} {s : State} {m : MethodId} {args : Array Value} {below : List Frame} {meth : Method} {cd : Code} {Q : State → Prop} {D : va_G} {cA : Nat → ClassId} {A : Nat → Prop} {M : zMth} {ad0 : Nat → Nat} {n0 B d stop : Nat} {y : zX} {call : Nat → List Value → zS → Option (Option Value × zS)}
    (hcall : ∀ (n : Nat) (as : List Value) (st : zS) (v : Option Value) (st' : zS), call n as st = some (v, st') → zMet l d n as st v st') (F : zFx p R s m args meth cd D cA A M ad0 B) (hfr : d + 2 ≤ R.frames) (hlo : 64 * (d + 2) ≤ R.locals) (hk : zKp p l e R s m args below meth cd Q D cA A M ad0 n0 y) :
    ∀ (f : Nat) (x : zX), zto call M stop f x = some y → zKp p l e R s m args below meth cd Q D cA A M ad0 n0 x := by
  intro f
  induction f with
  | zero => intro x h; cases h
  | succ f ih =>
    intro x h
    unfold zto at h
    split at h
    · cases h
      exact hk
    · cases hz : zstep M x with
      | none => rw [hz] at h; cases h
      | some o =>
        rw [hz] at h
        obtain y' | ⟨n, as, x'⟩ | v' := o
        · exact zs_next F hfr hz (ih y' h)
        · obtain ⟨pc, lv, stk, st, c, k⟩ := x'
          dsimp only at h
          obtain ⟨e1, e2⟩ := zs_call (l := l) (e := e) (below := below) (Q := Q) (n0 := n0) F hfr hlo hz
          dsimp only at e1
          cases hc : call n as st with
          | none => rw [hc] at h; cases h
          | some q =>
            obtain ⟨v1, st1⟩ := q
            rw [hc] at h
            dsimp only at h
            exact e2 v1 st1 (by rw [← e1]; exact hcall n as st v1 st1 hc) (ih _ h)
        · cases h
