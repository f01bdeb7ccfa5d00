/-! PAIRS: one call on fresh objects, of the class and of the reference: the same answer -/
/-- what one call of the class and the same one of the reference must do: answer alike -/
def z35 (st : zS) : Bool := match st[(35 : Nat)]? with
  | some (.inl (ci, _)) => decide (ci = 6)
  | _ => false
def zP (nx : Nat) (ax : List Value) (nm : Nat) (am : List Value) : Prop := ∃ (v : Int32) (st' st'' : zS), zrun 20000 8 nx ax (zsF 0 [] 0 []) = some (some (.int v), st') ∧ z35 st' = true ∧ zrun 20000 8 nm am st' = some (some (.int v), st'')
def zPb (nx : Nat) (ax : List Value) (nm : Nat) (am : List Value) : Bool := match zrun 20000 8 nx ax (zsF 0 [] 0 []) with
  | some (some (.int v), st') => z35 st' && (match zrun 20000 8 nm am st' with
    | some (some (.int w), _) => decide (w = v)
    | _ => false)
  | _ => false
theorem zP_of {nx : Nat} {ax : List Value} {nm : Nat} {am : List Value} (h : zPb nx ax nm am = true) : zP nx ax nm am := by
  unfold zPb at h
  split at h
  · rename_i v st' h1
    have h2 := Bool.and_eq_true_iff.mp h
    obtain ⟨h3, h4⟩ := h2
    split at h4
    · rename_i w st'' h5
      have := of_decide_eq_true h4
      subst this
      exact ⟨w, st', st'', h1, h3, h5⟩
    · cases h4
  · cases h
theorem zP_mk {nx : Nat} {ax : List Value} {nm : Nat} {am : List Value} {v : Int32} {st' st'' : zS} (h1 : zrun 20000 8 nx ax (zsF 0 [] 0 []) = some (some (.int v), st')) (h2 : z35 st' = true) (h3 : zrun 20000 8 nm am st' = some (some (.int v), st'')) : zP nx ax nm am := ⟨v, st', st'', h1, h2, h3⟩
set_option maxRecDepth 100000 in
theorem zP_nodes (t : Int32) : zP 3 [.ref 0, .int t] 25 [.ref 35, .int t] := by
  rcases zi_tree t with ht | ht | ht | ht
  · exact zP_mk (zq_2 (by simp only [zi_lt, zi_le, zi_eq, zi_0, zi_1, zi_2, zi_m1] at *; omega)) rfl (zq_3 (by simp only [zi_lt, zi_le, zi_eq, zi_0, zi_1, zi_2, zi_m1] at *; omega))
  · subst ht
    exact zP_of (by decide +kernel)
  · subst ht
    exact zP_of (by decide +kernel)
  · exact zP_mk (zq_5 (by simp only [zi_lt, zi_le, zi_eq, zi_0, zi_1, zi_2, zi_m1] at *; omega) (by simp only [zi_lt, zi_le, zi_eq, zi_0, zi_1, zi_2, zi_m1] at *; omega)) rfl (zq_6 (by simp only [zi_lt, zi_le, zi_eq, zi_0, zi_1, zi_2, zi_m1] at *; omega) (by simp only [zi_lt, zi_le, zi_eq, zi_0, zi_1, zi_2, zi_m1] at *; omega))

set_option maxRecDepth 100000 in
theorem zP_read (t n : Int32) : zP 2 [.ref 0, .int t, .int n] 23 [.ref 35, .int t, .int n] := by
  rcases zi_tree t with ht | ht | ht | ht
  · exact zP_mk (zq_7 (by simp only [zi_lt, zi_le, zi_eq, zi_0, zi_1, zi_2, zi_m1] at *; omega)) rfl (zq_8 (by simp only [zi_lt, zi_le, zi_eq, zi_0, zi_1, zi_2, zi_m1] at *; omega))
  · subst ht
    rcases zi_len n with hn | hn | hn | hn
    · exact zP_mk (zq_10 (by simp only [zi_lt, zi_le, zi_eq, zi_0, zi_1, zi_2, zi_m1] at *; omega)) rfl (zq_11 (by simp only [zi_lt, zi_le, zi_eq, zi_0, zi_1, zi_2, zi_m1] at *; omega))
    · subst hn
      exact zP_of (by decide +kernel)
    · subst hn
      exact zP_of (by decide +kernel)
    · exact zP_mk (zq_12 (by simp only [zi_lt, zi_le, zi_eq, zi_0, zi_1, zi_2, zi_m1] at *; omega) (by simp only [zi_lt, zi_le, zi_eq, zi_0, zi_1, zi_2, zi_m1] at *; omega)) rfl (zq_13 (by simp only [zi_lt, zi_le, zi_eq, zi_0, zi_1, zi_2, zi_m1] at *; omega) (by simp only [zi_lt, zi_le, zi_eq, zi_0, zi_1, zi_2, zi_m1] at *; omega))
  · subst ht
    rcases zi_len n with hn | hn | hn | hn
    · exact zP_mk (zq_15 (by simp only [zi_lt, zi_le, zi_eq, zi_0, zi_1, zi_2, zi_m1] at *; omega)) rfl (zq_16 (by simp only [zi_lt, zi_le, zi_eq, zi_0, zi_1, zi_2, zi_m1] at *; omega))
    · subst hn
      exact zP_of (by decide +kernel)
    · subst hn
      exact zP_of (by decide +kernel)
    · exact zP_mk (zq_17 (by simp only [zi_lt, zi_le, zi_eq, zi_0, zi_1, zi_2, zi_m1] at *; omega) (by simp only [zi_lt, zi_le, zi_eq, zi_0, zi_1, zi_2, zi_m1] at *; omega)) rfl (zq_18 (by simp only [zi_lt, zi_le, zi_eq, zi_0, zi_1, zi_2, zi_m1] at *; omega) (by simp only [zi_lt, zi_le, zi_eq, zi_0, zi_1, zi_2, zi_m1] at *; omega))
  · exact zP_mk (zq_19 (by simp only [zi_lt, zi_le, zi_eq, zi_0, zi_1, zi_2, zi_m1] at *; omega) (by simp only [zi_lt, zi_le, zi_eq, zi_0, zi_1, zi_2, zi_m1] at *; omega)) rfl (zq_20 (by simp only [zi_lt, zi_le, zi_eq, zi_0, zi_1, zi_2, zi_m1] at *; omega) (by simp only [zi_lt, zi_le, zi_eq, zi_0, zi_1, zi_2, zi_m1] at *; omega))

set_option maxRecDepth 100000 in
theorem zP_whole (t k : Int32) : zP 6 [.ref 0, .int t, .int k] 29 [.ref 35, .int t, .int k] := by
  rcases zi_tree t with ht | ht | ht | ht
  · exact zP_mk (zq_23 (by simp only [zi_lt, zi_le, zi_eq, zi_0, zi_1, zi_2, zi_m1] at *; omega)) rfl (zq_25 (by simp only [zi_lt, zi_le, zi_eq, zi_0, zi_1, zi_2, zi_m1] at *; omega))
  · subst ht
    rcases zi_node k with hk | hk | hk
    · exact zP_mk (zq_28 (by simp only [zi_lt, zi_le, zi_eq, zi_0, zi_1, zi_2, zi_m1] at *; omega)) rfl (zq_30 (by simp only [zi_lt, zi_le, zi_eq, zi_0, zi_1, zi_2, zi_m1] at *; omega))
    · subst hk
      exact zP_of (by decide +kernel)
    · exact zP_mk (zq_32 (by simp only [zi_lt, zi_le, zi_eq, zi_0, zi_1, zi_2, zi_m1] at *; omega) (by simp only [zi_lt, zi_le, zi_eq, zi_0, zi_1, zi_2, zi_m1] at *; omega)) rfl (zq_34 (by simp only [zi_lt, zi_le, zi_eq, zi_0, zi_1, zi_2, zi_m1] at *; omega) (by simp only [zi_lt, zi_le, zi_eq, zi_0, zi_1, zi_2, zi_m1] at *; omega))
  · subst ht
    rcases zi_node k with hk | hk | hk
    · exact zP_mk (zq_37 (by simp only [zi_lt, zi_le, zi_eq, zi_0, zi_1, zi_2, zi_m1] at *; omega)) rfl (zq_39 (by simp only [zi_lt, zi_le, zi_eq, zi_0, zi_1, zi_2, zi_m1] at *; omega))
    · subst hk
      exact zP_of (by decide +kernel)
    · exact zP_mk (zq_41 (by simp only [zi_lt, zi_le, zi_eq, zi_0, zi_1, zi_2, zi_m1] at *; omega) (by simp only [zi_lt, zi_le, zi_eq, zi_0, zi_1, zi_2, zi_m1] at *; omega)) rfl (zq_43 (by simp only [zi_lt, zi_le, zi_eq, zi_0, zi_1, zi_2, zi_m1] at *; omega) (by simp only [zi_lt, zi_le, zi_eq, zi_0, zi_1, zi_2, zi_m1] at *; omega))
  · exact zP_mk (zq_46 (by simp only [zi_lt, zi_le, zi_eq, zi_0, zi_1, zi_2, zi_m1] at *; omega) (by simp only [zi_lt, zi_le, zi_eq, zi_0, zi_1, zi_2, zi_m1] at *; omega)) rfl (zq_48 (by simp only [zi_lt, zi_le, zi_eq, zi_0, zi_1, zi_2, zi_m1] at *; omega) (by simp only [zi_lt, zi_le, zi_eq, zi_0, zi_1, zi_2, zi_m1] at *; omega))

set_option maxRecDepth 100000 in
theorem zP_write (t k : Int32) : zP 9 [.ref 0, .int t, .int k] 36 [.ref 35, .int t, .int k] := by
  rcases zi_tree t with ht | ht | ht | ht
  · exact zP_mk (zq_49 (by simp only [zi_lt, zi_le, zi_eq, zi_0, zi_1, zi_2, zi_m1] at *; omega)) rfl (zq_50 (by simp only [zi_lt, zi_le, zi_eq, zi_0, zi_1, zi_2, zi_m1] at *; omega))
  · subst ht
    rcases zi_node k with hk | hk | hk
    · exact zP_mk (zq_51 (by simp only [zi_lt, zi_le, zi_eq, zi_0, zi_1, zi_2, zi_m1] at *; omega)) rfl (zq_52 (by simp only [zi_lt, zi_le, zi_eq, zi_0, zi_1, zi_2, zi_m1] at *; omega))
    · subst hk
      exact zP_of (by decide +kernel)
    · exact zP_mk (zq_53 (by simp only [zi_lt, zi_le, zi_eq, zi_0, zi_1, zi_2, zi_m1] at *; omega) (by simp only [zi_lt, zi_le, zi_eq, zi_0, zi_1, zi_2, zi_m1] at *; omega)) rfl (zq_54 (by simp only [zi_lt, zi_le, zi_eq, zi_0, zi_1, zi_2, zi_m1] at *; omega) (by simp only [zi_lt, zi_le, zi_eq, zi_0, zi_1, zi_2, zi_m1] at *; omega))
  · subst ht
    rcases zi_node k with hk | hk | hk
    · exact zP_mk (zq_55 (by simp only [zi_lt, zi_le, zi_eq, zi_0, zi_1, zi_2, zi_m1] at *; omega)) rfl (zq_56 (by simp only [zi_lt, zi_le, zi_eq, zi_0, zi_1, zi_2, zi_m1] at *; omega))
    · subst hk
      exact zP_of (by decide +kernel)
    · exact zP_mk (zq_57 (by simp only [zi_lt, zi_le, zi_eq, zi_0, zi_1, zi_2, zi_m1] at *; omega) (by simp only [zi_lt, zi_le, zi_eq, zi_0, zi_1, zi_2, zi_m1] at *; omega)) rfl (zq_58 (by simp only [zi_lt, zi_le, zi_eq, zi_0, zi_1, zi_2, zi_m1] at *; omega) (by simp only [zi_lt, zi_le, zi_eq, zi_0, zi_1, zi_2, zi_m1] at *; omega))
  · exact zP_mk (zq_59 (by simp only [zi_lt, zi_le, zi_eq, zi_0, zi_1, zi_2, zi_m1] at *; omega) (by simp only [zi_lt, zi_le, zi_eq, zi_0, zi_1, zi_2, zi_m1] at *; omega)) rfl (zq_60 (by simp only [zi_lt, zi_le, zi_eq, zi_0, zi_1, zi_2, zi_m1] at *; omega) (by simp only [zi_lt, zi_le, zi_eq, zi_0, zi_1, zi_2, zi_m1] at *; omega))

set_option maxRecDepth 100000 in
theorem zP_part (t k i : Int32) : zP 5 [.ref 0, .int t, .int k, .int i] 27 [.ref 35, .int t, .int k, .int i] := by
  rcases zi_tree t with ht | ht | ht | ht
  · exact zP_mk (zq_61 (by simp only [zi_lt, zi_le, zi_eq, zi_0, zi_1, zi_2, zi_m1] at *; omega)) rfl (zq_62 (by simp only [zi_lt, zi_le, zi_eq, zi_0, zi_1, zi_2, zi_m1] at *; omega))
  · subst ht
    rcases zi_node k with hk | hk | hk
    · exact zP_mk (zq_71 (by simp only [zi_lt, zi_le, zi_eq, zi_0, zi_1, zi_2, zi_m1] at *; omega)) rfl (zq_72 (by simp only [zi_lt, zi_le, zi_eq, zi_0, zi_1, zi_2, zi_m1] at *; omega))
    · subst hk
      rcases zi_neg i with hi | hi
      · exact zP_mk (zq_65 (by simp only [zi_lt, zi_le, zi_eq, zi_0, zi_1, zi_2, zi_m1] at *; omega)) rfl (zq_67 (by simp only [zi_lt, zi_le, zi_eq, zi_0, zi_1, zi_2, zi_m1] at *; omega))
      · exact zP_mk (zq_69 (by simp only [zi_lt, zi_le, zi_eq, zi_0, zi_1, zi_2, zi_m1] at *; omega)) rfl (zq_70 (by simp only [zi_lt, zi_le, zi_eq, zi_0, zi_1, zi_2, zi_m1] at *; omega))
    · exact zP_mk (zq_73 (by simp only [zi_lt, zi_le, zi_eq, zi_0, zi_1, zi_2, zi_m1] at *; omega) (by simp only [zi_lt, zi_le, zi_eq, zi_0, zi_1, zi_2, zi_m1] at *; omega)) rfl (zq_74 (by simp only [zi_lt, zi_le, zi_eq, zi_0, zi_1, zi_2, zi_m1] at *; omega) (by simp only [zi_lt, zi_le, zi_eq, zi_0, zi_1, zi_2, zi_m1] at *; omega))
  · subst ht
    rcases zi_node k with hk | hk | hk
    · exact zP_mk (zq_83 (by simp only [zi_lt, zi_le, zi_eq, zi_0, zi_1, zi_2, zi_m1] at *; omega)) rfl (zq_84 (by simp only [zi_lt, zi_le, zi_eq, zi_0, zi_1, zi_2, zi_m1] at *; omega))
    · subst hk
      rcases zi_neg i with hi | hi
      · exact zP_mk (zq_77 (by simp only [zi_lt, zi_le, zi_eq, zi_0, zi_1, zi_2, zi_m1] at *; omega)) rfl (zq_79 (by simp only [zi_lt, zi_le, zi_eq, zi_0, zi_1, zi_2, zi_m1] at *; omega))
      · exact zP_mk (zq_81 (by simp only [zi_lt, zi_le, zi_eq, zi_0, zi_1, zi_2, zi_m1] at *; omega)) rfl (zq_82 (by simp only [zi_lt, zi_le, zi_eq, zi_0, zi_1, zi_2, zi_m1] at *; omega))
    · exact zP_mk (zq_85 (by simp only [zi_lt, zi_le, zi_eq, zi_0, zi_1, zi_2, zi_m1] at *; omega) (by simp only [zi_lt, zi_le, zi_eq, zi_0, zi_1, zi_2, zi_m1] at *; omega)) rfl (zq_86 (by simp only [zi_lt, zi_le, zi_eq, zi_0, zi_1, zi_2, zi_m1] at *; omega) (by simp only [zi_lt, zi_le, zi_eq, zi_0, zi_1, zi_2, zi_m1] at *; omega))
  · exact zP_mk (zq_87 (by simp only [zi_lt, zi_le, zi_eq, zi_0, zi_1, zi_2, zi_m1] at *; omega) (by simp only [zi_lt, zi_le, zi_eq, zi_0, zi_1, zi_2, zi_m1] at *; omega)) rfl (zq_88 (by simp only [zi_lt, zi_le, zi_eq, zi_0, zi_1, zi_2, zi_m1] at *; omega) (by simp only [zi_lt, zi_le, zi_eq, zi_0, zi_1, zi_2, zi_m1] at *; omega))

set_option maxRecDepth 100000 in
theorem zP_node (t k w : Int32) : zP 4 [.ref 0, .int t, .int k, .int w] 28 [.ref 35, .int t, .int k, .int w] := by
  rcases zi_tree t with ht | ht | ht | ht
  · exact zP_mk (zq_89 (by simp only [zi_lt, zi_le, zi_eq, zi_0, zi_1, zi_2, zi_m1] at *; omega)) rfl (zq_90 (by simp only [zi_lt, zi_le, zi_eq, zi_0, zi_1, zi_2, zi_m1] at *; omega))
  · subst ht
    rcases zi_node k with hk | hk | hk
    · exact zP_mk (zq_93 (by simp only [zi_lt, zi_le, zi_eq, zi_0, zi_1, zi_2, zi_m1] at *; omega)) rfl (zq_94 (by simp only [zi_lt, zi_le, zi_eq, zi_0, zi_1, zi_2, zi_m1] at *; omega))
    · subst hk
      by_cases h0 : w = 0
      · subst h0
        exact zP_of (by decide +kernel)
      by_cases h1 : w = 1
      · subst h1
        exact zP_of (by decide +kernel)
      by_cases h2 : w = 2
      · subst h2
        exact zP_of (by decide +kernel)
      by_cases h3 : w = 3
      · subst h3
        exact zP_of (by decide +kernel)
      by_cases h4 : w = 4
      · subst h4
        exact zP_of (by decide +kernel)
      exact zP_mk (zq_91 (by simp only [zswT]; rw [if_neg h0, if_neg h1, if_neg h2, if_neg h3, if_neg h4])) rfl (zq_92 (by simp only [zi_lt, zi_le, zi_eq, zi_0, zi_1, zi_2, zi_m1] at *; omega) (by simp only [zi_lt, zi_le, zi_eq, zi_0, zi_1, zi_2, zi_m1] at *; omega) (by simp only [zi_lt, zi_le, zi_eq, zi_0, zi_1, zi_2, zi_m1] at *; omega) (by simp only [zi_lt, zi_le, zi_eq, zi_0, zi_1, zi_2, zi_m1] at *; omega) (by simp only [zi_lt, zi_le, zi_eq, zi_0, zi_1, zi_2, zi_m1] at *; omega))
    · exact zP_mk (zq_95 (by simp only [zi_lt, zi_le, zi_eq, zi_0, zi_1, zi_2, zi_m1] at *; omega) (by simp only [zi_lt, zi_le, zi_eq, zi_0, zi_1, zi_2, zi_m1] at *; omega)) rfl (zq_96 (by simp only [zi_lt, zi_le, zi_eq, zi_0, zi_1, zi_2, zi_m1] at *; omega) (by simp only [zi_lt, zi_le, zi_eq, zi_0, zi_1, zi_2, zi_m1] at *; omega))
  · subst ht
    rcases zi_node k with hk | hk | hk
    · exact zP_mk (zq_99 (by simp only [zi_lt, zi_le, zi_eq, zi_0, zi_1, zi_2, zi_m1] at *; omega)) rfl (zq_100 (by simp only [zi_lt, zi_le, zi_eq, zi_0, zi_1, zi_2, zi_m1] at *; omega))
    · subst hk
      by_cases h0 : w = 0
      · subst h0
        exact zP_of (by decide +kernel)
      by_cases h1 : w = 1
      · subst h1
        exact zP_of (by decide +kernel)
      by_cases h2 : w = 2
      · subst h2
        exact zP_of (by decide +kernel)
      by_cases h3 : w = 3
      · subst h3
        exact zP_of (by decide +kernel)
      by_cases h4 : w = 4
      · subst h4
        exact zP_of (by decide +kernel)
      exact zP_mk (zq_97 (by simp only [zswT]; rw [if_neg h0, if_neg h1, if_neg h2, if_neg h3, if_neg h4])) rfl (zq_98 (by simp only [zi_lt, zi_le, zi_eq, zi_0, zi_1, zi_2, zi_m1] at *; omega) (by simp only [zi_lt, zi_le, zi_eq, zi_0, zi_1, zi_2, zi_m1] at *; omega) (by simp only [zi_lt, zi_le, zi_eq, zi_0, zi_1, zi_2, zi_m1] at *; omega) (by simp only [zi_lt, zi_le, zi_eq, zi_0, zi_1, zi_2, zi_m1] at *; omega) (by simp only [zi_lt, zi_le, zi_eq, zi_0, zi_1, zi_2, zi_m1] at *; omega))
    · exact zP_mk (zq_101 (by simp only [zi_lt, zi_le, zi_eq, zi_0, zi_1, zi_2, zi_m1] at *; omega) (by simp only [zi_lt, zi_le, zi_eq, zi_0, zi_1, zi_2, zi_m1] at *; omega)) rfl (zq_102 (by simp only [zi_lt, zi_le, zi_eq, zi_0, zi_1, zi_2, zi_m1] at *; omega) (by simp only [zi_lt, zi_le, zi_eq, zi_0, zi_1, zi_2, zi_m1] at *; omega))
  · exact zP_mk (zq_103 (by simp only [zi_lt, zi_le, zi_eq, zi_0, zi_1, zi_2, zi_m1] at *; omega) (by simp only [zi_lt, zi_le, zi_eq, zi_0, zi_1, zi_2, zi_m1] at *; omega)) rfl (zq_104 (by simp only [zi_lt, zi_le, zi_eq, zi_0, zi_1, zi_2, zi_m1] at *; omega) (by simp only [zi_lt, zi_le, zi_eq, zi_0, zi_1, zi_2, zi_m1] at *; omega))

theorem zP_spelt (n i : Int32) : zP 8 [.ref 0, .int n, .int i] 31 [.ref 35, .int n, .int i] := by
  rcases zi_neg n with hn | hn
  · exact zP_mk (zq_106 (by simp only [zi_lt, zi_le, zi_eq, zi_0, zi_1, zi_2, zi_m1] at *; omega)) rfl (zq_107 (by simp only [zi_lt, zi_le, zi_eq, zi_0, zi_1, zi_2, zi_m1] at *; omega))
  · exact zP_mk (zq_109 (by simp only [zi_lt, zi_le, zi_eq, zi_0, zi_1, zi_2, zi_m1] at *; omega) (by simp only [zi_lt, zi_le, zi_eq, zi_0, zi_1, zi_2, zi_m1] at *; omega)) rfl (zq_110 (by simp only [zi_lt, zi_le, zi_eq, zi_0, zi_1, zi_2, zi_m1] at *; omega) (by simp only [zi_lt, zi_le, zi_eq, zi_0, zi_1, zi_2, zi_m1] at *; omega))

theorem zP_written (i : Int32) : zP 10 [.ref 0, .int i] 37 [.ref 35, .int i] := by
  rcases zi_neg i with hi | hi
  · exact zP_mk (zq_111 (by simp only [zi_lt, zi_le, zi_eq, zi_0, zi_1, zi_2, zi_m1] at *; omega)) rfl (zq_112 (by simp only [zi_lt, zi_le, zi_eq, zi_0, zi_1, zi_2, zi_m1] at *; omega))
  · exact zP_mk (zq_113 (by simp only [zi_lt, zi_le, zi_eq, zi_0, zi_1, zi_2, zi_m1] at *; omega) (by simp only [zi_lt, zi_le, zi_eq, zi_0, zi_1, zi_2, zi_m1] at *; omega)) rfl (zq_114 (by simp only [zi_lt, zi_le, zi_eq, zi_0, zi_1, zi_2, zi_m1] at *; omega))

set_option maxRecDepth 100000 in
theorem zP_names : zP 7 [.ref 0] 30 [.ref 35] := by
  exact zP_of (by decide +kernel)

set_option maxRecDepth 100000 in
theorem zP_again : zP 11 [.ref 0] 38 [.ref 35] := by
  exact zP_of (by decide +kernel)

set_option maxRecDepth 100000 in
theorem zP_same : zP 12 [.ref 0] 32 [.ref 35] := by
  exact zP_of (by decide +kernel)

theorem zP_feed (a b c d e : Int32) : zP 1 [.ref 0, .int a, .int b, .int c, .int d, .int e] 19 [.ref 35, .int a, .int b, .int c, .int d, .int e] := zP_mk zf_class rfl zf_ref
