/-! PURE: the making of class and reference, step by step (printed by wip/whole/mkrows.py) -/
set_option maxRecDepth 100000 in
theorem law_pure {G L : Nat} {xs : Nat → Int32} (hG : 2 ^ 40 ≤ G) (hL : L ≤ 2560) (h0 : pH) : p_La_law G L xs h0 := by
  have k : KN h0 0 (fun _ => 0) (fun _ => .inr (0, [])) := ⟨fun i hi => absurd hi (Nat.not_lt_zero _), fun i j hi => absurd hi (Nat.not_lt_zero _)⟩
  unfold p_La_law
  intro q0 hq
  replace k := kn_new k hq (.inr (3, [.null, .null, .null, .null, .null, .int 0, .null, .null, .null]))
  replace k : KN _ 1 (kU _ 0 q0) (kU _ 0 _) := k
  unfold p_Mg_init
  refine kn_field k 2 0 [.null, .null, .null, .null, .null, .int 0, .null, .null, .null] (fun q => [.ref q, .null, .null, .null, .null, .int 0, .null, .null, .null]) rfl rfl (by decide) rfl (show 0 < 9 by decide) (fun _ => rfl) (fun q1 h k => ?_)
  refine kn_graph k 3 4 rfl rfl (fun q2 q3 h k => ?_)
  refine kn_put k 0 [.ref q1, .null, .null, .null, .null, .int 0, .null, .null, .null] [.ref q1, .ref q2, .null, .null, .null, .int 0, .null, .null, .null] rfl (by decide) rfl (show 1 < 9 by decide) rfl (fun h k => ?_)
  refine kn_graph k 5 6 rfl rfl (fun q4 q5 h k => ?_)
  refine kn_put k 0 [.ref q1, .ref q2, .null, .null, .null, .int 0, .null, .null, .null] [.ref q1, .ref q2, .ref q4, .null, .null, .int 0, .null, .null, .null] rfl (by decide) rfl (show 2 < 9 by decide) rfl (fun h k => ?_)
  refine kn_graph k 7 8 rfl rfl (fun q6 q7 h k => ?_)
  refine kn_put k 0 [.ref q1, .ref q2, .ref q4, .null, .null, .int 0, .null, .null, .null] [.ref q1, .ref q2, .ref q4, .ref q6, .null, .int 0, .null, .null, .null] rfl (by decide) rfl (show 3 < 9 by decide) rfl (fun h k => ?_)
  refine kn_field k 9 0 [.ref q1, .ref q2, .ref q4, .ref q6, .null, .int 0, .null, .null, .null] (fun q => [.ref q1, .ref q2, .ref q4, .ref q6, .ref q, .int 0, .null, .null, .null]) rfl rfl (by decide) rfl (show 4 < 9 by decide) (fun _ => rfl) (fun q8 h k => ?_)
  refine kn_put k 0 [.ref q1, .ref q2, .ref q4, .ref q6, .ref q8, .int 0, .null, .null, .null] [.ref q1, .ref q2, .ref q4, .ref q6, .ref q8, .int 0, .null, .null, .null] rfl (by decide) rfl (show 5 < 9 by decide) rfl (fun h k => ?_)
  refine kn_field k 10 0 [.ref q1, .ref q2, .ref q4, .ref q6, .ref q8, .int 0, .null, .null, .null] (fun q => [.ref q1, .ref q2, .ref q4, .ref q6, .ref q8, .int 0, .ref q, .null, .null]) rfl rfl (by decide) rfl (show 6 < 9 by decide) (fun _ => rfl) (fun q9 h k => ?_)
  intro q10 hq
  replace k := kn_new k hq (.inr (1, [.null, .int 0, .null, .int 0, .null, .null, .null, .null]))
  replace k : KN _ 11 (kU _ 10 q10) (kU _ 10 _) := k
  unfold p_Se_init
  refine kn_graph k 12 13 rfl rfl (fun q11 q12 h k => ?_)
  refine kn_put k 10 [.null, .int 0, .null, .int 0, .null, .null, .null, .null] [.ref q11, .int 0, .null, .int 0, .null, .null, .null, .null] rfl (by decide) rfl (show 0 < 8 by decide) rfl (fun h k => ?_)
  refine kn_put k 10 [.ref q11, .int 0, .null, .int 0, .null, .null, .null, .null] [.ref q11, .int 0, .null, .int 0, .null, .null, .null, .null] rfl (by decide) rfl (show 1 < 8 by decide) rfl (fun h k => ?_)
  refine kn_field k 14 10 [.ref q11, .int 0, .null, .int 0, .null, .null, .null, .null] (fun q => [.ref q11, .int 0, .ref q, .int 0, .null, .null, .null, .null]) rfl rfl (by decide) rfl (show 2 < 8 by decide) (fun _ => rfl) (fun q13 h k => ?_)
  refine kn_put k 10 [.ref q11, .int 0, .ref q13, .int 0, .null, .null, .null, .null] [.ref q11, .int 0, .ref q13, .int 0, .null, .null, .null, .null] rfl (by decide) rfl (show 3 < 8 by decide) rfl (fun h k => ?_)
  refine kn_rows k 10 [.ref q11, .int 0, .ref q13, .int 0, .null, .null, .null, .null] (fun q => [.ref q11, .int 0, .ref q13, .int 0, .ref q, .null, .null, .null]) rfl (by decide) rfl (show 4 < 8 by decide) (fun _ => rfl) (fun q21 r h k => ?_)
  refine kn_field k 23 10 [.ref q11, .int 0, .ref q13, .int 0, .ref q21, .null, .null, .null] (fun q => [.ref q11, .int 0, .ref q13, .int 0, .ref q21, .ref q, .null, .null]) rfl rfl (by decide) rfl (show 5 < 8 by decide) (fun _ => rfl) (fun q22 h k => ?_)
  refine kn_field k 24 10 [.ref q11, .int 0, .ref q13, .int 0, .ref q21, .ref q22, .null, .null] (fun q => [.ref q11, .int 0, .ref q13, .int 0, .ref q21, .ref q22, .ref q, .null]) rfl rfl (by decide) rfl (show 6 < 8 by decide) (fun _ => rfl) (fun q23 h k => ?_)
  refine kn_field k 25 10 [.ref q11, .int 0, .ref q13, .int 0, .ref q21, .ref q22, .ref q23, .null] (fun q => [.ref q11, .int 0, .ref q13, .int 0, .ref q21, .ref q22, .ref q23, .ref q]) rfl rfl (by decide) rfl (show 7 < 8 by decide) (fun _ => rfl) (fun q24 h k => ?_)
  refine ⟨_, rfl, ?_⟩
  refine kn_put k 0 [.ref q1, .ref q2, .ref q4, .ref q6, .ref q8, .int 0, .ref q9, .null, .null] [.ref q1, .ref q2, .ref q4, .ref q6, .ref q8, .int 0, .ref q9, .ref q10, .null] rfl (by decide) rfl (show 7 < 9 by decide) rfl (fun h k => ?_)
  intro q25 hq
  replace k := kn_new k hq (.inr (2, [.null, .null, .null, .null, .int 0, .null]))
  replace k : KN _ 26 (kU _ 25 q25) (kU _ 25 _) := k
  unfold p_Fo_init
  refine kn_graph k 27 28 rfl rfl (fun q26 q27 h k => ?_)
  refine kn_put k 25 [.null, .null, .null, .null, .int 0, .null] [.ref q26, .null, .null, .null, .int 0, .null] rfl (by decide) rfl (show 0 < 6 by decide) rfl (fun h k => ?_)
  refine kn_field k 29 25 [.ref q26, .null, .null, .null, .int 0, .null] (fun q => [.ref q26, .ref q, .null, .null, .int 0, .null]) rfl rfl (by decide) rfl (show 1 < 6 by decide) (fun _ => rfl) (fun q28 h k => ?_)
  refine kn_field k 30 25 [.ref q26, .ref q28, .null, .null, .int 0, .null] (fun q => [.ref q26, .ref q28, .ref q, .null, .int 0, .null]) rfl rfl (by decide) rfl (show 2 < 6 by decide) (fun _ => rfl) (fun q29 h k => ?_)
  refine kn_field k 31 25 [.ref q26, .ref q28, .ref q29, .null, .int 0, .null] (fun q => [.ref q26, .ref q28, .ref q29, .ref q, .int 0, .null]) rfl rfl (by decide) rfl (show 3 < 6 by decide) (fun _ => rfl) (fun q30 h k => ?_)
  refine kn_put k 25 [.ref q26, .ref q28, .ref q29, .ref q30, .int 0, .null] [.ref q26, .ref q28, .ref q29, .ref q30, .int 0, .null] rfl (by decide) rfl (show 4 < 6 by decide) rfl (fun h k => ?_)
  refine kn_field k 32 25 [.ref q26, .ref q28, .ref q29, .ref q30, .int 0, .null] (fun q => [.ref q26, .ref q28, .ref q29, .ref q30, .int 0, .ref q]) rfl rfl (by decide) rfl (show 5 < 6 by decide) (fun _ => rfl) (fun q31 h k => ?_)
  refine ⟨_, rfl, ?_⟩
  refine kn_put k 0 [.ref q1, .ref q2, .ref q4, .ref q6, .ref q8, .int 0, .ref q9, .ref q10, .null] [.ref q1, .ref q2, .ref q4, .ref q6, .ref q8, .int 0, .ref q9, .ref q10, .ref q25] rfl (by decide) rfl (show 8 < 9 by decide) rfl (fun h k => ?_)
  refine kn_get (v := q1) k 0 [.ref q1, .ref q2, .ref q4, .ref q6, .ref q8, .int 0, .ref q9, .ref q10, .ref q25] rfl (by decide) rfl rfl ?_
  refine kn_graph k 33 34 rfl rfl (fun q32 q33 h k => ?_)
  refine kn_arr (i := 1) k (fun _ => none) 32 0 [.ref q33, .int 0] rfl rfl (by decide) rfl (by decide) rfl (by decide) rfl (fun h k => ?_)
  refine kn_get (v := q1) k 0 [.ref q1, .ref q2, .ref q4, .ref q6, .ref q8, .int 0, .ref q9, .ref q10, .ref q25] rfl (by decide) rfl rfl ?_
  refine kn_graph k 35 36 rfl rfl (fun q34 q35 h k => ?_)
  refine kn_arr (i := 1) k (va_up (fun _ => none) 0 (some q32)) 34 1 [.ref q35, .int 0] rfl rfl (by decide) rfl (by decide) rfl (by decide) rfl (fun h k => ?_)
  refine kn_get (v := q1) k 0 [.ref q1, .ref q2, .ref q4, .ref q6, .ref q8, .int 0, .ref q9, .ref q10, .ref q25] rfl (by decide) rfl rfl ?_
  refine kn_graph k 37 38 rfl rfl (fun q36 q37 h k => ?_)
  refine kn_arr (i := 1) k (va_up (va_up (fun _ => none) 0 (some q32)) 1 (some q34)) 36 2 [.ref q37, .int 0] rfl rfl (by decide) rfl (by decide) rfl (by decide) rfl (fun h k => ?_)
  refine kn_get (v := q1) k 0 [.ref q1, .ref q2, .ref q4, .ref q6, .ref q8, .int 0, .ref q9, .ref q10, .ref q25] rfl (by decide) rfl rfl ?_
  refine kn_graph k 39 40 rfl rfl (fun q38 q39 h k => ?_)
  refine kn_arr (i := 1) k (va_up (va_up (va_up (fun _ => none) 0 (some q32)) 1 (some q34)) 2 (some q36)) 38 3 [.ref q39, .int 0] rfl rfl (by decide) rfl (by decide) rfl (by decide) rfl (fun h k => ?_)
  refine kn_get (v := q1) k 0 [.ref q1, .ref q2, .ref q4, .ref q6, .ref q8, .int 0, .ref q9, .ref q10, .ref q25] rfl (by decide) rfl rfl ?_
  refine kn_graph k 41 42 rfl rfl (fun q40 q41 h k => ?_)
  refine kn_arr (i := 1) k (va_up (va_up (va_up (va_up (fun _ => none) 0 (some q32)) 1 (some q34)) 2 (some q36)) 3 (some q38)) 40 4 [.ref q41, .int 0] rfl rfl (by decide) rfl (by decide) rfl (by decide) rfl (fun h k => ?_)
  refine kn_get (v := q1) k 0 [.ref q1, .ref q2, .ref q4, .ref q6, .ref q8, .int 0, .ref q9, .ref q10, .ref q25] rfl (by decide) rfl rfl ?_
  refine kn_graph k 43 44 rfl rfl (fun q42 q43 h k => ?_)
  refine kn_arr (i := 1) k (va_up (va_up (va_up (va_up (va_up (fun _ => none) 0 (some q32)) 1 (some q34)) 2 (some q36)) 3 (some q38)) 4 (some q40)) 42 5 [.ref q43, .int 0] rfl rfl (by decide) rfl (by decide) rfl (by decide) rfl (fun h k => ?_)
  refine ⟨_, rfl, ?_⟩
  intro q44 hq
  replace k := kn_new k hq (.inr (4, [.int 0, .null, .null, .null, .int 0, .null, .null, .int 0, .null, .int 0, .null, .null, .int 0, .null, .null, .int 0, .int 0, .null, .null]))
  replace k : KN _ 45 (kU _ 44 q44) (kU _ 44 _) := k
  unfold p_Mo_init
  refine kn_field k 46 44 [.int 0, .null, .null, .null, .int 0, .null, .null, .int 0, .null, .int 0, .null, .null, .int 0, .null, .null, .int 0, .int 0, .null, .null] (fun q => [.int 0, .ref q, .null, .null, .int 0, .null, .null, .int 0, .null, .int 0, .null, .null, .int 0, .null, .null, .int 0, .int 0, .null, .null]) rfl rfl (by decide) rfl (show 1 < 19 by decide) (fun _ => rfl) (fun q45 h k => ?_)
  refine kn_field k 47 44 [.int 0, .ref q45, .null, .null, .int 0, .null, .null, .int 0, .null, .int 0, .null, .null, .int 0, .null, .null, .int 0, .int 0, .null, .null] (fun q => [.int 0, .ref q45, .ref q, .null, .int 0, .null, .null, .int 0, .null, .int 0, .null, .null, .int 0, .null, .null, .int 0, .int 0, .null, .null]) rfl rfl (by decide) rfl (show 2 < 19 by decide) (fun _ => rfl) (fun q46 h k => ?_)
  refine kn_field k 48 44 [.int 0, .ref q45, .ref q46, .null, .int 0, .null, .null, .int 0, .null, .int 0, .null, .null, .int 0, .null, .null, .int 0, .int 0, .null, .null] (fun q => [.int 0, .ref q45, .ref q46, .ref q, .int 0, .null, .null, .int 0, .null, .int 0, .null, .null, .int 0, .null, .null, .int 0, .int 0, .null, .null]) rfl rfl (by decide) rfl (show 3 < 19 by decide) (fun _ => rfl) (fun q47 h k => ?_)
  refine kn_field k 49 44 [.int 0, .ref q45, .ref q46, .ref q47, .int 0, .null, .null, .int 0, .null, .int 0, .null, .null, .int 0, .null, .null, .int 0, .int 0, .null, .null] (fun q => [.int 0, .ref q45, .ref q46, .ref q47, .int 0, .ref q, .null, .int 0, .null, .int 0, .null, .null, .int 0, .null, .null, .int 0, .int 0, .null, .null]) rfl rfl (by decide) rfl (show 5 < 19 by decide) (fun _ => rfl) (fun q48 h k => ?_)
  refine kn_field k 50 44 [.int 0, .ref q45, .ref q46, .ref q47, .int 0, .ref q48, .null, .int 0, .null, .int 0, .null, .null, .int 0, .null, .null, .int 0, .int 0, .null, .null] (fun q => [.int 0, .ref q45, .ref q46, .ref q47, .int 0, .ref q48, .ref q, .int 0, .null, .int 0, .null, .null, .int 0, .null, .null, .int 0, .int 0, .null, .null]) rfl rfl (by decide) rfl (show 6 < 19 by decide) (fun _ => rfl) (fun q49 h k => ?_)
  refine kn_field k 51 44 [.int 0, .ref q45, .ref q46, .ref q47, .int 0, .ref q48, .ref q49, .int 0, .null, .int 0, .null, .null, .int 0, .null, .null, .int 0, .int 0, .null, .null] (fun q => [.int 0, .ref q45, .ref q46, .ref q47, .int 0, .ref q48, .ref q49, .int 0, .ref q, .int 0, .null, .null, .int 0, .null, .null, .int 0, .int 0, .null, .null]) rfl rfl (by decide) rfl (show 8 < 19 by decide) (fun _ => rfl) (fun q50 h k => ?_)
  refine kn_field k 52 44 [.int 0, .ref q45, .ref q46, .ref q47, .int 0, .ref q48, .ref q49, .int 0, .ref q50, .int 0, .null, .null, .int 0, .null, .null, .int 0, .int 0, .null, .null] (fun q => [.int 0, .ref q45, .ref q46, .ref q47, .int 0, .ref q48, .ref q49, .int 0, .ref q50, .int 0, .ref q, .null, .int 0, .null, .null, .int 0, .int 0, .null, .null]) rfl rfl (by decide) rfl (show 10 < 19 by decide) (fun _ => rfl) (fun q51 h k => ?_)
  refine kn_field k 53 44 [.int 0, .ref q45, .ref q46, .ref q47, .int 0, .ref q48, .ref q49, .int 0, .ref q50, .int 0, .ref q51, .null, .int 0, .null, .null, .int 0, .int 0, .null, .null] (fun q => [.int 0, .ref q45, .ref q46, .ref q47, .int 0, .ref q48, .ref q49, .int 0, .ref q50, .int 0, .ref q51, .ref q, .int 0, .null, .null, .int 0, .int 0, .null, .null]) rfl rfl (by decide) rfl (show 11 < 19 by decide) (fun _ => rfl) (fun q52 h k => ?_)
  refine kn_field k 54 44 [.int 0, .ref q45, .ref q46, .ref q47, .int 0, .ref q48, .ref q49, .int 0, .ref q50, .int 0, .ref q51, .ref q52, .int 0, .null, .null, .int 0, .int 0, .null, .null] (fun q => [.int 0, .ref q45, .ref q46, .ref q47, .int 0, .ref q48, .ref q49, .int 0, .ref q50, .int 0, .ref q51, .ref q52, .int 0, .ref q, .null, .int 0, .int 0, .null, .null]) rfl rfl (by decide) rfl (show 13 < 19 by decide) (fun _ => rfl) (fun q53 h k => ?_)
  refine kn_field k 55 44 [.int 0, .ref q45, .ref q46, .ref q47, .int 0, .ref q48, .ref q49, .int 0, .ref q50, .int 0, .ref q51, .ref q52, .int 0, .ref q53, .null, .int 0, .int 0, .null, .null] (fun q => [.int 0, .ref q45, .ref q46, .ref q47, .int 0, .ref q48, .ref q49, .int 0, .ref q50, .int 0, .ref q51, .ref q52, .int 0, .ref q53, .ref q, .int 0, .int 0, .null, .null]) rfl rfl (by decide) rfl (show 14 < 19 by decide) (fun _ => rfl) (fun q54 h k => ?_)
  refine kn_field k 56 44 [.int 0, .ref q45, .ref q46, .ref q47, .int 0, .ref q48, .ref q49, .int 0, .ref q50, .int 0, .ref q51, .ref q52, .int 0, .ref q53, .ref q54, .int 0, .int 0, .null, .null] (fun q => [.int 0, .ref q45, .ref q46, .ref q47, .int 0, .ref q48, .ref q49, .int 0, .ref q50, .int 0, .ref q51, .ref q52, .int 0, .ref q53, .ref q54, .int 0, .int 0, .ref q, .null]) rfl rfl (by decide) rfl (show 17 < 19 by decide) (fun _ => rfl) (fun q55 h k => ?_)
  refine kn_field k 57 44 [.int 0, .ref q45, .ref q46, .ref q47, .int 0, .ref q48, .ref q49, .int 0, .ref q50, .int 0, .ref q51, .ref q52, .int 0, .ref q53, .ref q54, .int 0, .int 0, .ref q55, .null] (fun q => [.int 0, .ref q45, .ref q46, .ref q47, .int 0, .ref q48, .ref q49, .int 0, .ref q50, .int 0, .ref q51, .ref q52, .int 0, .ref q53, .ref q54, .int 0, .int 0, .ref q55, .ref q]) rfl rfl (by decide) rfl (show 18 < 19 by decide) (fun _ => rfl) (fun q56 h k => ?_)
  refine ⟨_, rfl, ?_⟩
  intro q57 hq
  replace k := kn_new k hq (.inl (1, 1, .inr (.inl (fun _ => 0))))
  have fin := kn_end k rfl ?_ ?_ rfl rfl rfl rfl ?_ ?_ rfl rfl rfl rfl rfl rfl rfl rfl rfl ?_ rfl
  · exact la_loop hG hL fin.1 599 0 _ (by omega) (by omega) fin.2
  · refine congrArg (a₁ := (va_up (va_up (va_up (va_up (va_up (va_up (fun _ => none) 0 (some q32)) 1 (some q34)) 2 (some q36)) 3 (some q38)) 4 (some q40)) 5 (some q42))) (fun f => (Sum.inl (2, 6, .inr (.inr (.inr (.inr f)))) : pE)) (funext fun i => ?_)
    rcases i with _ | _ | _ | _ | _ | _ | i
    · rfl
    · rfl
    · rfl
    · rfl
    · rfl
    · rfl
    · simp [va_up]
  · intro i hi
    rcases i with _ | _ | _ | _ | _ | _ | _ | _ | _ | _ | _ | i
    · exact ⟨rfl, rfl⟩
    · exact ⟨rfl, rfl⟩
    · exact ⟨rfl, rfl⟩
    · exact ⟨rfl, rfl⟩
    · exact ⟨rfl, rfl⟩
    · exact ⟨rfl, rfl⟩
    · exact ⟨rfl, rfl⟩
    · exact ⟨rfl, rfl⟩
    · exact ⟨rfl, rfl⟩
    · exact ⟨rfl, rfl⟩
    · exact ⟨rfl, rfl⟩
    · exact absurd hi (by omega)
  · intro i hi
    rcases i with _ | _ | _ | _ | _ | _ | _ | i
    · rfl
    · rfl
    · rfl
    · rfl
    · rfl
    · rfl
    · rfl
    · exact absurd hi (by omega)
  · refine congrArg (a₁ := fun i => if i < 7 then some (r i) else none) (fun f => (Sum.inl (3, 7, .inr (.inr (.inr (.inr f)))) : pE)) (funext fun i => ?_)
    rcases i with _ | _ | _ | _ | _ | _ | _ | i
    · rfl
    · rfl
    · rfl
    · rfl
    · rfl
    · rfl
    · rfl
    · rw [if_neg (by omega), if_neg (by omega)]
  · intro j hj
    have hj2 : j = 1 ∨ j = 2 ∨ j = 3 ∨ j = 5 ∨ j = 6 ∨ j = 8 ∨ j = 10 ∨ j = 11 ∨ j = 13 ∨ j = 14 ∨ j = 17 ∨ j = 18 := by simpa [moI] using hj
    rcases hj2 with e | e | e | e | e | e | e | e | e | e | e | e <;> (subst e; rfl)
