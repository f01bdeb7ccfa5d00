/-! THE ABSTRACT MACHINE, 13: what it runs to, the machine runs to -/
section ZSND
variable {p : Program} {l : Launch} {e : Env} {R : Room} {s : State} {m : MethodId} {args : Array Value} {below : List Frame} {meth : Method} {cd : Code} {Q : State → Prop}
variable {D : va_G} {cA : Nat → ClassId} {A : Nat → Prop} {M : zMth} {ad0 : Nat → Nat} {n0 B : Nat}
variable {pc : Nat} {lv stk : List Value} {st : zS} {c k : Nat} {y : zX}
theorem zq_at {ad : Nat → Nat} {ls : Array Slot} {H : Heap} {locs : List Loc} {stI : zS} {v : Option Value} (hn : stI.length = n0) (I : zInv s D cA A M ad0 n0 ad lv st c k ls H locs) (t : State) (ht : t.heap = H) : zQ D cA ad0 stI A v st args s (.returned (v.map (zcv ad))) t :=
  ⟨⟨ad, by rw [hn]; exact I.2.2.2.1, rfl, by rw [ht]; exact I.2.1.1, I.2.1.2.1, by rw [hn]; exact I.2.2.2.2⟩, I.2.1.2.2.F ht⟩
theorem zk_ret {a : Nat} {stI : zS} {v : Option Value} (F : zFx p R s m args meth cd D cA A M ad0 B) (hn : stI.length = n0) (hd : decode M.2.1 pc = .ok (.ireturn, 1)) (hok : (a = 0 ∧ zmR M = some .int) ∨ (a = 1 ∧ zmR M = some .boolean)) (h : zret a stk = some (.inr (.inr v))) : zKp p l e R s m args below meth cd (MQ below (zQ D cA ad0 stI A v st) args s (zmC M) (zmS M) A) D cA A M ad0 n0 (pc, lv, stk, st, c, k) := by
  unfold zret at h
  split at h
  · rename_i x
    split at h
    · rename_i hq
      cases h
      intro ad ls H locs I
      refine W.widen I.2.2.1.1 I.2.2.1.2 ?_
      rcases hok with ⟨rfl, hr⟩ | ⟨rfl, hr⟩
      · exact W.iret F.1.1 F.1.2.1 (F.2.2.1.1.trans hr) (fun t ht _ => zq_at hn I t ht) (fun q hq => I.2.1.2.2.2.2 q hq) hd F.2.2.1.2.1
      · have hx : narrow .boolean (.int x) = .int x := by
          rcases hq with z | rfl | rfl
          · cases z
          · rfl
          · rfl
        exact W.zret F.1.1 F.1.2.1 (F.2.2.1.1.trans hr) hx (fun t ht _ => zq_at hn I t ht) (fun q hq => I.2.1.2.2.2.2 q hq) hd F.2.2.1.2.1
    · cases h
  · cases h
theorem zk_retA {stI : zS} {v : Option Value} {C : String} (F : zFx p R s m args meth cd D cA A M ad0 B) (hn : stI.length = n0) (hd : decode M.2.1 pc = .ok (.areturn, 1)) (hr : zmR M = some (.object C)) (h : zretA stk = some (.inr (.inr v))) : zKp p l e R s m args below meth cd (MQ below (zQ D cA ad0 stI A v st) args s (zmC M) (zmS M) A) D cA A M ad0 n0 (pc, lv, stk, st, c, k) := by
  unfold zretA at h
  split at h
  · rename_i x
    cases h
    intro ad ls H locs I
    refine W.widen I.2.2.1.1 I.2.2.1.2 ?_
    exact W.aret (v := .ref (ad x)) F.1.1 F.1.2.1 (F.2.2.1.1.trans hr) (Or.inl ⟨_, rfl⟩) (Or.inr ⟨_, rfl⟩) (fun t ht _ => zq_at hn I t ht) (fun q hq => I.2.1.2.2.2.2 q hq) hd F.2.2.1.2.1
  · cases h
theorem zk_retV {stI : zS} {v : Option Value} (F : zFx p R s m args meth cd D cA A M ad0 B) (hn : stI.length = n0) (hd : decode M.2.1 pc = .ok (.return_, 1)) (hr : zmR M = none) (h : zretV stk = some (.inr (.inr v))) : zKp p l e R s m args below meth cd (MQ below (zQ D cA ad0 stI A v st) args s (zmC M) (zmS M) A) D cA A M ad0 n0 (pc, lv, stk, st, c, k) := by
  unfold zretV at h
  split at h
  · cases h
    intro ad ls H locs I
    refine W.widen I.2.2.1.1 I.2.2.1.2 ?_
    exact W.vret F.1.1 F.1.2.1 (F.2.2.1.1.trans hr) (fun t ht _ => zq_at hn I t ht) (fun q hq => I.2.1.2.2.2.2 q hq) hd F.2.2.1.2.1
  · cases h
theorem zcall_ne {how MC MS n k' pc' : Nat} {lv' stk' : List Value} {st' : zS} {c' s' : Nat} : ∀ y, zcall how MC MS n k' pc' lv' stk' st' c' s' ≠ some (.inl y) := by
  intro y h
  unfold zcall at h
  split at h
  · split at h <;> cases h
  · cases h
theorem zcall_ne2 {how MC MS n k' pc' : Nat} {lv' stk' : List Value} {st' : zS} {c' s' : Nat} : ∀ y, zcall how MC MS n k' pc' lv' stk' st' c' s' ≠ some (.inr (.inr y)) := by
  intro y h
  unfold zcall at h
  split at h
  · split at h <;> cases h
  · cases h
theorem zret_ne {a' : Nat} {stk' : List Value} : ∀ y, zret a' stk' ≠ some (.inl y) := by
  intro y h
  unfold zret at h
  split at h
  · split at h <;> cases h
  · cases h
theorem zretA_ne {stk' : List Value} : ∀ y, zretA stk' ≠ some (.inl y) := by
  intro y h
  unfold zretA at h
  split at h <;> cases h
theorem zretV_ne {stk' : List Value} : ∀ y, zretV stk' ≠ some (.inl y) := by
  intro y h
  unfold zretV at h
  split at h <;> cases h
theorem zs_next {d : Nat} {x : zX} (F : zFx p R s m args meth cd D cA A M ad0 B) (hfr : d + 2 ≤ R.frames) (h : zstep M x = some (.inl y)) (hk : zKp p l e R s m args below meth cd Q D cA A M ad0 n0 y) : zKp p l e R s m args below meth cd Q D cA A M ad0 n0 x := by
  obtain ⟨pc, lv, stk, st, c, k⟩ := x
  unfold zstep at h
  dsimp only at h
  cases hf : zfind pc (zmI M) with
  | none => rw [hf] at h; cases h
  | some en =>
    obtain ⟨ins, len, a, b, cw, sw⟩ := en
    have ok := zok_of F.2.2.2.2 hf
    rw [hf] at h
    dsimp only at h
    unfold zokI at ok
    dsimp only at ok
    cases ins <;> first | (exfalso; cases h; done) | skip
    all_goals simp only [Bool.and_eq_true, zlenI] at ok
    case aaload => exact zk_aald F (of_decide_eq_true ok.1) h hk
    case aastore => exact zk_aast F (of_decide_eq_true ok.1) (of_decide_eq_true ok.2) h hk
    case aload i => exact zk_ldA F (Or.inl ⟨(of_decide_eq_true ok.1), rfl⟩) h hk
    case aload_n i => exact zk_ldA F (Or.inr ⟨i, (of_decide_eq_true ok.1), rfl, rfl⟩) h hk
    case anewarray idx => exact zk_newA F (of_decide_eq_true ok.1) ok.2 h hk
    case areturn => exact absurd h (zretA_ne y)
    case arraylength => exact zk_len F (of_decide_eq_true ok.1) h hk
    case astore i => exact zk_soA F (Or.inl ⟨(of_decide_eq_true ok.1), rfl⟩) h hk
    case astore_n i => exact zk_soA F (Or.inr ⟨i, (of_decide_eq_true ok.1), rfl, rfl⟩) h hk
    case baload => exact zk_bald F (of_decide_eq_true ok.1) h hk
    case bastore => exact zk_bast F (of_decide_eq_true ok.1) h hk
    case bipush n =>
      cases h
      exact zk_bipush F (of_decide_eq_true ok.1) hk
    case dup => exact zk_dup F (of_decide_eq_true ok.1) h hk
    case dup2 => exact zk_dup2 F (of_decide_eq_true ok.1) h hk
    case getfield idx => exact zk_getf F (of_decide_eq_true ok.1) ok.2 h hk
    case goto o =>
      cases h
      exact zk_goto F (of_decide_eq_true ok.1) (of_decide_eq_true ok.2) hk
    case i2b => exact zk_i2b F (of_decide_eq_true ok.1) h hk
    case iadd => exact zk_bin (fun _ _ _ _ _ _ w => lv_iadd F.1.1 F.1.2.1 (of_decide_eq_true ok.1) w) h hk
    case iaload => exact zk_iald F (of_decide_eq_true ok.1) h hk
    case iand => exact zk_bin (fun _ _ _ _ _ _ w => lv_iand F.1.1 F.1.2.1 (of_decide_eq_true ok.1) w) h hk
    case iastore => exact zk_iast F (of_decide_eq_true ok.1) h hk
    case iconst n =>
      cases h
      exact zk_iconst F (of_decide_eq_true ok.1) hk
    case if_icmp kd o => exact zk_if2 F (of_decide_eq_true ok.1) (of_decide_eq_true ok.2) h hk
    case ifCond kd o => exact zk_if1 F (of_decide_eq_true ok.1) (of_decide_eq_true ok.2) h hk
    case iinc i n => exact zk_inc F (of_decide_eq_true ok.1) h hk
    case iload i => exact zk_ldI F (Or.inl ⟨(of_decide_eq_true ok.1), rfl⟩) h hk
    case iload_n i => exact zk_ldI F (Or.inr ⟨i, (of_decide_eq_true ok.1), rfl, rfl⟩) h hk
    case imul => exact zk_bin (fun _ _ _ _ _ _ w => lv_imul F.1.1 F.1.2.1 (of_decide_eq_true ok.1) w) h hk
    case invokespecial idx =>
      by_cases ha : a = 1000
      · rw [if_pos ha] at h
        rw [if_pos ha] at ok
        exact zk_obj F (of_decide_eq_true ok.1) ok.2 h hk
      · rw [if_neg ha] at h
        exact absurd h (zcall_ne y)
    case invokestatic idx =>
      by_cases ha : a = 1001
      · rw [if_pos ha] at h
        rw [if_pos ha] at ok
        exact zk_min F (of_decide_eq_true ok.1) ok.2 h hk
      · rw [if_neg ha] at h
        rw [if_neg ha] at ok
        by_cases ha2 : a = 1002
        · rw [if_pos ha2] at h
          rw [if_pos ha2] at ok
          exact zk_max F (of_decide_eq_true ok.1) ok.2 h hk
        · rw [if_neg ha2] at h
          rw [if_neg ha2] at ok
          by_cases ha3 : a = 1004
          · rw [if_pos ha3] at h
            rw [if_pos ha3] at ok
            exact zk_copy F (of_decide_eq_true ok.1) ok.2 h hk
          · rw [if_neg ha3] at h
            exact absurd h (zcall_ne y)
    case invokevirtual idx =>
      by_cases ha : a = 1003
      · rw [if_pos ha] at h
        rw [if_pos ha] at ok
        exact zk_slen F (by omega) (of_decide_eq_true ok.1) ok.2 h hk
      · rw [if_neg ha] at h
        exact absurd h (zcall_ne y)
    case irem => exact zk_rem F (of_decide_eq_true ok.1) h hk
    case ireturn => exact absurd h (zret_ne y)
    case ishr => exact zk_bin (fun _ _ _ _ _ _ w => lv_ishr F.1.1 F.1.2.1 (of_decide_eq_true ok.1) w) h hk
    case istore i => exact zk_soI F (Or.inl ⟨(of_decide_eq_true ok.1), rfl⟩) h hk
    case istore_n i => exact zk_soI F (Or.inr ⟨i, (of_decide_eq_true ok.1), rfl, rfl⟩) h hk
    case isub => exact zk_bin (fun _ _ _ _ _ _ w => lv_isub F.1.1 F.1.2.1 (of_decide_eq_true ok.1) w) h hk
    case ldc idx =>
      dsimp only at h
      obtain ⟨o1, o2⟩ := ok
      by_cases hlt : a < 400
      · rw [if_pos hlt] at h o2
        cases h
        split at o2
        · rename_i o kk tx hs
          exact zk_ldc F (of_decide_eq_true o1) hs (of_decide_eq_true o2) hk
        · cases o2
      · rw [if_neg hlt] at h
        cases h
    case new idx =>
      dsimp only at h
      split at h
      · rename_i fs hfs
        exact zk_new F (of_decide_eq_true ok.1) ok.2 hfs h hk
      · cases h
    case newarray t => exact zk_newN F (of_decide_eq_true ok.1) (of_decide_eq_true ok.2) h hk
    case pop => exact zk_pop F (of_decide_eq_true ok.1) h hk
    case putfield idx =>
      dsimp only at h
      split at h
      · rename_i ft hft
        exact zk_putf F (of_decide_eq_true ok.1) ok.2.1 ok.2.2 hft h hk
      · cases h
    case return_ => exact absurd h (zretV_ne y)
    case sipush n =>
      cases h
      exact zk_sipush F (of_decide_eq_true ok.1) hk
    case tableswitch dflt lo hi offs => exact zk_sw F (of_decide_eq_true ok.1.1) (of_decide_eq_true ok.1.2) ok.2 h hk
/-- a call, in a step -/
theorem zs_call {d n : Nat} {as : List Value} {x x' : zX} (F : zFx p R s m args meth cd D cA A M ad0 B) (hfr : d + 2 ≤ R.frames) (hlo : 64 * (d + 2) ≤ R.locals) (h : zstep M x = some (.inr (.inl (n, as, x')))) : x'.2.2.2.1 = x.2.2.2.1 ∧ ∀ (v : Option Value) (st' : zS), zMet l d n as x.2.2.2.1 v st' → zKp p l e R s m args below meth cd Q D cA A M ad0 n0 (x'.1, x'.2.1, v.toList ++ x'.2.2.1, st', x'.2.2.2.2.1, x'.2.2.2.2.2) → zKp p l e R s m args below meth cd Q D cA A M ad0 n0 x := by
  obtain ⟨pc, lv, stk, st, c, k⟩ := x
  unfold zstep at h
  dsimp only at h
  cases hf : zfind pc (zmI M) with
  | none => rw [hf] at h; cases h
  | some en =>
    obtain ⟨ins, len, a, b, cw, sw⟩ := en
    have ok := zok_of F.2.2.2.2 hf
    rw [hf] at h
    dsimp only at h
    unfold zokI at ok
    dsimp only at ok
    have go : ∀ (how idx : Nat), ((how = 0 ∧ decode M.2.1 pc = .ok (.invokevirtual idx, 3)) ∨ (how = 1 ∧ decode M.2.1 pc = .ok (.invokestatic idx, 3)) ∨ (how = 2 ∧ decode M.2.1 pc = .ok (.invokespecial idx, 3))) → (a < 1000 → zokC (zmO M) how idx a b cw = true) → zcall how (zmC M) (zmS M) a b pc lv stk st c k = some (.inr (.inl (n, as, x'))) → x'.2.2.2.1 = st ∧ ∀ (v : Option Value) (st' : zS), zMet l d n as st v st' → zKp p l e R s m args below meth cd Q D cA A M ad0 n0 (x'.1, x'.2.1, v.toList ++ x'.2.2.1, st', x'.2.2.2.2.1, x'.2.2.2.2.2) → zKp p l e R s m args below meth cd Q D cA A M ad0 n0 (pc, lv, stk, st, c, k) := by
      intro how idx hhow hokc hc
      have ha : a < 1000 := by
        unfold zcall at hc
        split at hc
        · rename_i m' hm
          exact Nat.lt_of_lt_of_le (List.getElem?_eq_some_iff.mp hm).1 (by decide)
        · cases hc
      obtain ⟨e1, e2, e3⟩ := zk_call (l := l) (e := e) (below := below) (Q := Q) (n0 := n0) F hfr hlo hhow (hokc ha) hc
      subst e1
      exact ⟨e2, e3⟩
    cases ins <;> first | (exfalso; cases h; done) | skip
    all_goals simp only [Bool.and_eq_true, zlenI] at ok
    case invokespecial idx =>
      dsimp only at h
      split at h
      · exfalso
        unfold zobj zn at h
        split at h
        · split at h <;> cases h
        · cases h
      · rename_i ha
        rw [if_neg ha] at ok
        exact go 2 idx (Or.inr (Or.inr ⟨rfl, of_decide_eq_true ok.1⟩)) (fun hl => by have := ok.2; rwa [if_pos hl] at this) h
    case invokestatic idx =>
      dsimp only at h
      split at h
      · exfalso
        unfold zmin zn at h
        split at h
        · split at h <;> cases h
        · cases h
      · rename_i ha
        rw [if_neg ha] at ok
        split at h
        · exfalso
          unfold zmax zn at h
          split at h
          · split at h <;> cases h
          · cases h
        · rename_i ha2
          rw [if_neg ha2] at ok
          split at h
          · exfalso
            unfold zcopy zn at h
            split at h
            · split at h
              · split at h <;> cases h
              · cases h
            · cases h
          · rename_i ha3
            rw [if_neg ha3] at ok
            exact go 1 idx (Or.inr (Or.inl ⟨rfl, of_decide_eq_true ok.1⟩)) (fun hl => by have := ok.2; rwa [if_pos hl] at this) h
    case invokevirtual idx =>
      dsimp only at h
      split at h
      · exfalso
        unfold zslen zn at h
        split at h
        · split at h
          · split at h <;> cases h
          · cases h
        · cases h
      · rename_i ha
        rw [if_neg ha] at ok
        exact go 0 idx (Or.inl ⟨rfl, of_decide_eq_true ok.1⟩) (fun hl => by have := ok.2; rwa [if_pos hl] at this) h
    all_goals (exfalso; dsimp only [zbin, zrem, zi2b, zldI, zldA, zsoI, zsoA, zinc, zif1, zif2, zsw, zgetf, zputf, zaldN, zastN, zaldA, zastA, zlen, zdup, zdup2, zpop, znew, znewN, znewA, zret, zretA, zretV, zn] at h; (repeat' split at h) <;> cases h)
/-- an end, in a step -/
theorem zs_ret {stI : zS} {v : Option Value} {x : zX} (F : zFx p R s m args meth cd D cA A M ad0 B) (hn : stI.length = n0) (h : zstep M x = some (.inr (.inr v))) : zKp p l e R s m args below meth cd (MQ below (zQ D cA ad0 stI A v x.2.2.2.1) args s (zmC M) (zmS M) A) D cA A M ad0 n0 x := by
  obtain ⟨pc, lv, stk, st, c, k⟩ := x
  unfold zstep at h
  dsimp only at h
  cases hf : zfind pc (zmI M) with
  | none => rw [hf] at h; cases h
  | some en =>
    obtain ⟨ins, len, a, b, cw, sw⟩ := en
    have ok := zok_of F.2.2.2.2 hf
    rw [hf] at h
    dsimp only at h
    unfold zokI at ok
    dsimp only at ok
    cases ins <;> first | (exfalso; cases h; done) | skip
    all_goals simp only [Bool.and_eq_true, zlenI] at ok
    case ireturn => exact zk_ret F hn (of_decide_eq_true ok.1) (of_decide_eq_true ok.2) h
    case areturn =>
      obtain ⟨o1, o2⟩ := ok
      split at o2
      · rename_i C hr
        exact zk_retA F hn (of_decide_eq_true o1) hr h
      · cases o2
    case return_ => exact zk_retV F hn (of_decide_eq_true ok.1) (of_decide_eq_true ok.2) h
    case invokespecial idx =>
      dsimp only at h
      split at h
      · exfalso
        unfold zobj zn at h
        split at h
        · split at h <;> cases h
        · cases h
      · exact absurd h (zcall_ne2 v)
    case invokestatic idx =>
      dsimp only at h
      split at h
      · exfalso
        unfold zmin zn at h
        split at h
        · split at h <;> cases h
        · cases h
      · split at h
        · exfalso
          unfold zmax zn at h
          split at h
          · split at h <;> cases h
          · cases h
        · split at h
          · exfalso
            unfold zcopy zn at h
            split at h
            · split at h
              · split at h <;> cases h
              · cases h
            · cases h
          · exact absurd h (zcall_ne2 v)
    case invokevirtual idx =>
      dsimp only at h
      split at h
      · exfalso
        unfold zslen zn at h
        split at h
        · split at h
          · split at h <;> cases h
          · cases h
        · cases h
      · exact absurd h (zcall_ne2 v)
    all_goals (exfalso; dsimp only [zbin, zrem, zi2b, zldI, zldA, zsoI, zsoA, zinc, zif1, zif2, zsw, zgetf, zputf, zaldN, zastN, zaldA, zastA, zlen, zdup, zdup2, zpop, znew, znewN, znewA, zret, zretA, zretV, zn] at h; (repeat' split at h) <;> cases h)
end ZSND
