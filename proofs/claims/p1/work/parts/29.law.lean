/-! THE LAW: its walk -/
theorem zL_dec {pc n a b c : Nat} {sw : List (Int32 × Nat)} (h : zfind pc (zmI zm_L) = some (.iaload, n, a, b, c, sw)) : decode zm_L.2.1 pc = .ok (.iaload, 1) := by
  have h1 := zok_of zL_ok h
  unfold zokI at h1
  dsimp only at h1
  exact of_decide_eq_true (Bool.and_eq_true_iff.mp h1).1
theorem zL_decR : decode code 469 = .ok (.ireturn, 1) := by decide +kernel
theorem zL_decA : decode code 20 = .ok (.arraylength, 1) := by decide +kernel
theorem z35_0 : z35 (zsF 0 [] 0 []) = true := rfl
theorem z35_at {st : zS} (h : z35 st = true) : ∃ fs : List Value, st[(35 : Nat)]? = some (.inl (6, fs)) := by
  unfold z35 at h
  split at h
  · rename_i ci fs hs
    have := of_decide_eq_true h
    subst this
    exact ⟨fs, hs⟩
  · cases h
theorem z35_len {st : zS} (h : z35 st = true) : 35 < st.length := by
  obtain ⟨fs, hs⟩ := z35_at h
  exact (List.getElem?_eq_some_iff.mp hs).1
theorem zrcv_0 {m' : zMth} {ar : List Value} (hc : m'.1.cls = "DesignReader") : zrcv 0 m' (.ref 0 :: ar) (zsF 0 [] 0 []) = true := by
  show decide ("DesignReader" = m'.1.cls) = true
  rw [hc]
  exact decide_eq_true rfl
theorem zrcv_35 {m' : zMth} {ar : List Value} {st : zS} (h : z35 st = true) (hc : m'.1.cls = "DesignReaderModel") : zrcv 0 m' (.ref 35 :: ar) st = true := by
  obtain ⟨fs, hs⟩ := z35_at h
  show (match st[(35 : Nat)]? with
    | some (.inl (ci, _)) => (match zcl[ci]? with
      | some (C, _, _) => decide (C = m'.1.cls)
      | none => false)
    | _ => false) = true
  rw [hs]
  show decide ("DesignReaderModel" = m'.1.cls) = true
  rw [hc]
  exact decide_eq_true rfl
theorem zlv_ok {n : Nat} (h : 35 < n) : ([Value.ref 700, .ref 0, .ref 35, .int 0] : List Value).all (zsc n) = true := by
  have h0 : decide (0 < n) = true := decide_eq_true (by omega)
  have h1 : decide (35 < n) = true := decide_eq_true h
  show ((decide (700 < n) || decide (500 ≤ 700)) && ((decide (0 < n) || decide (500 ≤ 0)) && ((decide (35 < n) || decide (500 ≤ 35)) && (true && true)))) = true
  rw [h0, h1]
  simp
section ZLAW
variable {p : Program} {l : Launch} {e : Env} {s : State} {m : MethodId} {below : List Frame} {meth : Method} {cd : Code} {D : va_G} {cA : Nat → ClassId} {ad0 : Nat → Nat} {b L : Nat} {xs : Nat → Int32}
def zLK (p : Program) (l : Launch) (e : Env) (s : State) (m : MethodId) (below : List Frame) (meth : Method) (cd : Code) (D : va_G) (cA : Nat → ClassId) (ad0 : Nat → Nat) (b : Nat) (x : zX) : Prop := zKp p l e room_1 s m #[Value.ref b] below meth cd (lw_Z below #[Value.ref b] s) D cA (fun q => s.heap.size ≤ q) zm_L ad0 0 x
def zLG (p : Program) (s : State) (m : MethodId) (meth : Method) (cd : Code) (D : va_G) (cA : Nat → ClassId) (ad0 : Nat → Nat) (b L : Nat) (xs : Nat → Int32) : Prop := zFx p room_1 s m #[Value.ref b] meth cd D cA (fun q => s.heap.size ≤ q) zm_L ad0 s.heap.size ∧ va_X b L xs s s.heap ∧ b < s.heap.size ∧ ad0 700 = b
theorem zL_n (G : zLG p s m meth cd D cA ad0 b L xs) {x y : zX} (h : zstep zm_L x = some (.inl y)) (hk : zLK p l e s m below meth cd D cA ad0 b y) : zLK p l e s m below meth cd D cA ad0 b x :=
  zs_next (d := 8) G.1 (Nat.le_of_ble_eq_true rfl) h hk
theorem zL_s (G : zLG p s m meth cd D cA ad0 b L xs) {pc j : Nat} {lv r : List Value} {st : zS} {c k : Nat} {i : Int32} {y : zX} (hd : decode zm_L.2.1 pc = .ok (.iaload, 1)) (hi : i.toNatClampNeg = j) (hin : vp_in i L) (hy : (pc + 1, lv, .int (xs j) :: r, st, c, k) = y) (hk : zLK p l e s m below meth cd D cA ad0 b y) : zLK p l e s m below meth cd D cA ad0 b (pc, lv, .int i :: .ref 700 :: r, st, c, k) := by
  subst hy
  subst hi
  exact zk_sld G.1 G.2.1 G.2.2.1 (Nat.not_le.mpr G.2.2.1) G.2.2.2 hd hin hk
set_option maxRecDepth 100000 in
theorem zL_len (G : zLG p s m meth cd D cA ad0 b L xs) {lv r : List Value} {st : zS} {c k : Nat} {y : zX} (hy : (21, lv, .int (Int32.ofNat L) :: r, st, c, k) = y) (hk : zLK p l e s m below meth cd D cA ad0 b y) : zLK p l e s m below meth cd D cA ad0 b (20, lv, .ref 700 :: r, st, c, k) := by
  subst hy
  exact zk_slenS G.1 G.2.1 G.2.2.1 (Nat.not_le.mpr G.2.2.1) G.2.2.2 zL_decA hk
theorem zL_call (G : zLG p s m meth cd D cA ad0 b L xs) (hok : ∀ M ∈ zMs, zokM M = true) {pc n k : Nat} {stk as rest : List Value} {m' : zMth} {st st' : zS} {v : Int32} {y : zX}
    (e1 : ∀ st : zS, zstep zm_L (pc, [.ref 700, .ref 0, .ref 35, .int 0], stk, st, 58, 599532) = zcall 0 (zmC zm_L) (zmS zm_L) n k pc [.ref 700, .ref 0, .ref 35, .int 0] stk st 58 599532)
    (hm : zMs[n]? = some m') (hrc : zrcv 0 m' as st = true) (h35 : z35 st = true) (has : (stk.take k).reverse = as) (hre : stk.drop k = rest) (hkl : k ≤ stk.length) (hal : (zargs as).length ≤ zmL m') (hsum : (rest.map fun v => v.category).sum ≤ 8) (hall : rest.all (zsc st.length) = true) (hmc : zmC m' = 0) (hms : zmS m' = 0)
    (hrun : zrun 20000 8 n as st = some (some (.int v), st')) (hy : (pc + 3, [.ref 700, .ref 0, .ref 35, .int 0], .int v :: rest, st', 58, 599532) = y) (hk : zLK p l e s m below meth cd D cA ad0 b y) : zLK p l e s m below meth cd D cA ad0 b (pc, [.ref 700, .ref 0, .ref 35, .int 0], stk, st, 58, 599532) := by
  have hst : zstep zm_L (pc, [.ref 700, .ref 0, .ref 35, .int 0], stk, st, 58, 599532) = some (.inr (.inl (n, as, pc + 3, [.ref 700, .ref 0, .ref 35, .int 0], rest, st, 58, 599532))) := by
    rw [e1 st]
    unfold zcall
    rw [hm]
    dsimp only
    rw [has, hre, hmc, hms]
    exact if_pos ⟨⟨hkl, hrc, hal⟩, ⟨hsum, zlv_ok (z35_len h35), hall⟩, Nat.le_of_ble_eq_true rfl, Nat.le_of_ble_eq_true rfl⟩
  obtain ⟨-, e2⟩ := zs_call (l := l) (e := e) (below := below) (Q := lw_Z below #[Value.ref b] s) (n0 := 0) (d := 8) G.1 (Nat.le_of_ble_eq_true rfl) (Nat.le_of_ble_eq_true rfl) hst
  subst hy
  exact e2 (some (.int v)) st' (zsound hok 20000 8 n as st (some (.int v)) st' hrun) hk
theorem zL_eq (G : zLG p s m meth cd D cA ad0 b L xs) {pc : Nat} {v : Int32} {st : zS} {z : zO} (h : zstep zm_L (pc, [.ref 700, .ref 0, .ref 35, .int 0], [.int v, .int v], st, 58, 599532) = if v = v then zn 462 [.ref 700, .ref 0, .ref 35, .int 0] [] st 58 599532 else z) (hk : zLK p l e s m below meth cd D cA ad0 b (462, [.ref 700, .ref 0, .ref 35, .int 0], [], st, 58, 599532)) : zLK p l e s m below meth cd D cA ad0 b (pc, [.ref 700, .ref 0, .ref 35, .int 0], [.int v, .int v], st, 58, 599532) :=
  zL_n G (h.trans (if_pos rfl)) hk
set_option maxRecDepth 100000 in
/-- the end -/
theorem zL_end (G : zLG p s m meth cd D cA ad0 b L xs) {lv : List Value} {st : zS} {c k : Nat} : zLK p l e s m below meth cd D cA ad0 b (469, lv, [.int 1], st, c, k) := by
  intro ad ls H locs I
  refine va_forget (fun q hq => I.2.1.2.2.2.2 q hq) ?_
  exact W.widen (k := 600000) (n := 7302250) I.2.2.1.1 I.2.2.1.2 (lw_ret G.1.1.1 G.1.1.2.1 G.1.2.2.1.1 G.1.2.2.1.2.1 zL_decR)
set_option maxRecDepth 100000 in
/-- behind a round: no second one -/
theorem zL_out (G : zLG p s m meth cd D cA ad0 b 6 xs) (st : zS) : zLK p l e s m below meth cd D cA ad0 b (462, [.ref 700, .ref 0, .ref 35, .int 0], [], st, 58, 599532) := by
  refine zL_n G (y := (465, [.ref 700, .ref 0, .ref 35, .int 6], [], st, 58, 599532)) rfl ?_
  refine zL_n G (y := (18, [.ref 700, .ref 0, .ref 35, .int 6], [], st, 58, 599532)) rfl ?_
  refine zL_n G (y := (19, [.ref 700, .ref 0, .ref 35, .int 6], [.int 6], st, 58, 599532)) rfl ?_
  refine zL_n G (y := (20, [.ref 700, .ref 0, .ref 35, .int 6], [.ref 700, .int 6], st, 58, 599532)) rfl ?_
  refine zL_len G (y := (21, [.ref 700, .ref 0, .ref 35, .int 6], [.int 6, .int 6], st, 58, 599532)) rfl ?_
  refine zL_n G (y := (23, [.ref 700, .ref 0, .ref 35, .int 6], [.int 6, .int 6, .int 6], st, 58, 599532)) rfl ?_
  refine zL_n G (y := (24, [.ref 700, .ref 0, .ref 35, .int 6], [.int 0, .int 6], st, 58, 599532)) rfl ?_
  refine zL_n G (y := (468, [.ref 700, .ref 0, .ref 35, .int 6], [], st, 58, 599532)) rfl ?_
  refine zL_n G (y := (469, [.ref 700, .ref 0, .ref 35, .int 6], [.int 1], st, 58, 599532)) rfl ?_
  exact zL_end G
/-- a script of fewer than six numbers: no round -/
theorem zL_few : ∀ L : Nat, L < 6 → Int32.ofNat L - 6 < 0 := by decide
set_option maxRecDepth 100000 in
theorem zL_none (G : zLG p s m meth cd D cA ad0 b L xs) (hL : L < 6) {st : zS} : zLK p l e s m below meth cd D cA ad0 b (18, [.ref 700, .ref 0, .ref 35, .int 0], [], st, 58, 599532) := by
  refine zL_n G (y := (19, [.ref 700, .ref 0, .ref 35, .int 0], [.int 0], st, 58, 599532)) rfl ?_
  refine zL_n G (y := (20, [.ref 700, .ref 0, .ref 35, .int 0], [.ref 700, .int 0], st, 58, 599532)) rfl ?_
  refine zL_len G (y := (21, [.ref 700, .ref 0, .ref 35, .int 0], [.int (Int32.ofNat L), .int 0], st, 58, 599532)) rfl ?_
  refine zL_n G (y := (23, [.ref 700, .ref 0, .ref 35, .int 0], [.int 6, .int (Int32.ofNat L), .int 0], st, 58, 599532)) rfl ?_
  refine zL_n G (y := (24, [.ref 700, .ref 0, .ref 35, .int 0], [.int (Int32.ofNat L - 6), .int 0], st, 58, 599532)) rfl ?_
  have h24 : zstep zm_L (24, [.ref 700, .ref 0, .ref 35, .int 0], [.int (Int32.ofNat L - 6), .int 0], st, 58, 599532) = if Int32.ofNat L - 6 < 0 then zn 468 [.ref 700, .ref 0, .ref 35, .int 0] [] st 58 599532 else zn 27 [.ref 700, .ref 0, .ref 35, .int 0] [] st 58 599532 := rfl
  refine zL_n G (h24.trans (if_pos (zL_few L hL))) ?_
  refine zL_n G (y := (469, [.ref 700, .ref 0, .ref 35, .int 0], [.int 1], st, 58, 599532)) rfl ?_
  exact zL_end G
theorem zst2_eq : zst2 = zsF 0 [] 0 [] := zeqS_eq (by decide +kernel)
set_option maxRecDepth 100000 in
/-- the entry: both objects are made -/
theorem zL_entry (G : zLG p s m meth cd D cA ad0 b L xs) (hok : ∀ M ∈ zMs, zokM M = true) (hk : zLK p l e s m below meth cd D cA ad0 b (18, [.ref 700, .ref 0, .ref 35, .int 0], [], zsF 0 [] 0 [], 58, 599532)) : zLK p l e s m below meth cd D cA ad0 b (0, [.ref 700, zu, zu, zu], [], [], 0, 0) := by
  refine zL_n G (y := (3, [.ref 700, zu, zu, zu], [.ref 0], zst0, 1, 7)) rfl ?_
  refine zL_n G (y := (4, [.ref 700, zu, zu, zu], [.ref 0, .ref 0], zst0, 1, 7)) rfl ?_
  have c1 : zstep zm_L (4, [.ref 700, zu, zu, zu], [.ref 0, .ref 0], zst0, 1, 7) = some (.inr (.inl (0, [.ref 0], 7, [.ref 700, zu, zu, zu], [.ref 0], zst0, 35, 239152))) := rfl
  obtain ⟨-, e2⟩ := zs_call (l := l) (e := e) (below := below) (Q := lw_Z below #[Value.ref b] s) (n0 := 0) (d := 8) G.1 (Nat.le_of_ble_eq_true rfl) (Nat.le_of_ble_eq_true rfl) c1
  refine e2 none zst1 (zsound hok 20000 8 0 [.ref 0] zst0 none zst1 zrun_1) ?_
  show zLK p l e s m below meth cd D cA ad0 b (7, [.ref 700, zu, zu, zu], [.ref 0], zst1, 35, 239152)
  refine zL_n G (y := (8, [.ref 700, .ref 0, zu, zu], [], zst1, 35, 239152)) rfl ?_
  refine zL_n G (y := (11, [.ref 700, .ref 0, zu, zu], [.ref 35], zst1 ++ [zmod], 36, 239184)) rfl ?_
  refine zL_n G (y := (12, [.ref 700, .ref 0, zu, zu], [.ref 35, .ref 35], zst1 ++ [zmod], 36, 239184)) rfl ?_
  have c2 : zstep zm_L (12, [.ref 700, .ref 0, zu, zu], [.ref 35, .ref 35], zst1 ++ [zmod], 36, 239184) = some (.inr (.inl (16, [.ref 35], 15, [.ref 700, .ref 0, zu, zu], [.ref 35], zst1 ++ [zmod], 58, 599532))) := rfl
  obtain ⟨-, e3⟩ := zs_call (l := l) (e := e) (below := below) (Q := lw_Z below #[Value.ref b] s) (n0 := 0) (d := 8) G.1 (Nat.le_of_ble_eq_true rfl) (Nat.le_of_ble_eq_true rfl) c2
  refine e3 none zst2 (zsound hok 20000 8 16 [.ref 35] (zst1 ++ [zmod]) none zst2 zrun_2) ?_
  show zLK p l e s m below meth cd D cA ad0 b (15, [.ref 700, .ref 0, zu, zu], [.ref 35], zst2, 58, 599532)
  rw [zst2_eq]
  refine zL_n G (y := (16, [.ref 700, .ref 0, .ref 35, zu], [], zsF 0 [] 0 [], 58, 599532)) rfl ?_
  refine zL_n G (y := (17, [.ref 700, .ref 0, .ref 35, zu], [.int 0], zsF 0 [] 0 [], 58, 599532)) rfl ?_
  exact zL_n G (y := (18, [.ref 700, .ref 0, .ref 35, .int 0], [], zsF 0 [] 0 [], 58, 599532)) rfl hk
end ZLAW
