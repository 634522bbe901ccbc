/-! PURE: the law's loop (printed by wip/whole/lawops.py) -/
theorem scr_at {L i k : Nat} {xs : Nat → Int32} {y : Int32} (hy : y = nI k) (hk : i + k < L) (hL : L ≤ 2560) : scr L xs (nI i + y) = some (xs (i + k)) := by
  subst hy
  unfold scr
  rw [nI_add, if_pos (vin_nI hk (by omega)), nI_clamp (by omega)]
section LPS
variable {G L i : Nat} {xs : Nat → Int32} {B A : Nat → Nat} {m q2 : Nat} {H : pH} {k : Nat → Nat → Nat → Int32 → pH → Option pR}
theorem lp_put (hG : 2 ^ 40 ≤ G) (hL : L ≤ 2560) (hi : i + 5 ≤ L) (ap : APt B A m q2) (hl : LI B A m q2 H) : ∃ H2 : pH, LI B A m q2 H2 ∧ f_La_law_b124 G L xs k (B 43) m q2 (nI i) H = k (B 43) m q2 (nI i) H2 := by
  obtain ⟨S, R, gs, cc, cl, bst, CL, e0, ha, hr, ho, hq, iv⟩ := hl
  have st := la_I (G := G) (H := H) (two := true) (q0 := B 43) (K := fun h => k (B 43) m q2 (nI i) h) (X := fun h => (if isZ (0 : Int32) = true then some (some (.int (0 : Int32)), h) else none)) (c := fun kd h9 => if kd = 1 then (some (some (.int (1 : Int32)), h9)) else (if kd = 2 then (some (some (.int (2 : Int32)), h9)) else (none))) ap e0 ha hr ho hq iv rfl (fun _ => rfl) (fun _ _ => rfl) (op_put (x1 := xs (i + 1)) (x2 := xs (i + 2)) (x3 := xs (i + 3)) (x4 := xs (i + 4)) (G := G) hG hr iv)
  obtain ⟨H2, l2, e2⟩ := st
  refine ⟨H2, l2, ?_⟩
  rw [f_La_law_b124_eq, scr_at (y := (1 : Int32)) (k := 1) rfl (by omega) hL, Option.bind_some, scr_at (y := (2 : Int32)) (k := 2) rfl (by omega) hL, Option.bind_some, scr_at (y := (3 : Int32)) (k := 3) rfl (by omega) hL, Option.bind_some, scr_at (y := (4 : Int32)) (k := 4) rfl (by omega) hL, Option.bind_some]
  refine Eq.trans ?_ e2
  show cI true (f_La_put G (B 43) (xs (i + 1)) (xs (i + 2)) (xs (i + 3)) (xs (i + 4)) q2 H) _ = cI true (f_La_put G (B 43) (xs (i + 1)) (xs (i + 2)) (xs (i + 3)) (xs (i + 4)) q2 H) _
  congr 1
theorem lp_drop (hG : 2 ^ 40 ≤ G) (hL : L ≤ 2560) (hi : i + 5 ≤ L) (ap : APt B A m q2) (hl : LI B A m q2 H) : ∃ H2 : pH, LI B A m q2 H2 ∧ f_La_law_b216 G L xs k (B 43) m q2 (nI i) H = k (B 43) m q2 (nI i) H2 := by
  obtain ⟨S, R, gs, cc, cl, bst, CL, e0, ha, hr, ho, hq, iv⟩ := hl
  have st := la_I (G := G) (H := H) (two := true) (q0 := B 43) (K := fun h => k (B 43) m q2 (nI i) h) (X := fun h => (if isZ (0 : Int32) = true then some (some (.int (0 : Int32)), h) else none)) (c := fun kd h9 => if kd = 1 then (some (some (.int (1 : Int32)), h9)) else (if kd = 2 then (some (some (.int (2 : Int32)), h9)) else (none))) ap e0 ha hr ho hq iv rfl (fun _ => rfl) (fun _ _ => rfl) (op_drop (x1 := xs (i + 1)) (x2 := xs (i + 2)) (x3 := xs (i + 3)) (x4 := xs (i + 4)) (G := G) hG hr iv)
  obtain ⟨H2, l2, e2⟩ := st
  refine ⟨H2, l2, ?_⟩
  rw [f_La_law_b216_eq, scr_at (y := (1 : Int32)) (k := 1) rfl (by omega) hL, Option.bind_some, scr_at (y := (2 : Int32)) (k := 2) rfl (by omega) hL, Option.bind_some, scr_at (y := (3 : Int32)) (k := 3) rfl (by omega) hL, Option.bind_some, scr_at (y := (4 : Int32)) (k := 4) rfl (by omega) hL, Option.bind_some]
  refine Eq.trans ?_ e2
  show cI true (f_La_drop G (B 43) (xs (i + 1)) (xs (i + 2)) (xs (i + 3)) (xs (i + 4)) q2 H) _ = cI true (f_La_drop G (B 43) (xs (i + 1)) (xs (i + 2)) (xs (i + 3)) (xs (i + 4)) q2 H) _
  congr 1
theorem lp_copy (hG : 2 ^ 40 ≤ G) (hL : L ≤ 2560) (hi : i + 5 ≤ L) (ap : APt B A m q2) (hl : LI B A m q2 H) : ∃ H2 : pH, LI B A m q2 H2 ∧ f_La_law_b308 G L xs k (B 43) m q2 (nI i) H = k (B 43) m q2 (nI i) H2 := by
  obtain ⟨S, R, gs, cc, cl, bst, CL, e0, ha, hr, ho, hq, iv⟩ := hl
  have st := la_I (G := G) (H := H) (two := false) (q0 := B 43) (K := fun h => k (B 43) m q2 (nI i) h) (X := fun h => (if isZ (0 : Int32) = true then some (some (.int (0 : Int32)), h) else none)) (c := fun kd h9 => if kd = 1 then (some (some (.int (1 : Int32)), h9)) else (none)) ap e0 ha hr ho hq iv rfl (fun _ => rfl) (fun q => (by cases q)) (op_copy (x1 := xs (i + 1)) (x2 := xs (i + 2)) (G := G) hG hr iv)
  obtain ⟨H2, l2, e2⟩ := st
  refine ⟨H2, l2, ?_⟩
  rw [f_La_law_b308_eq, scr_at (y := (1 : Int32)) (k := 1) rfl (by omega) hL, Option.bind_some, scr_at (y := (2 : Int32)) (k := 2) rfl (by omega) hL, Option.bind_some]
  refine Eq.trans ?_ e2
  show cI true (f_La_copy G (B 43) (xs (i + 1)) (xs (i + 2)) q2 H) _ = cI true (f_La_copy G (B 43) (xs (i + 1)) (xs (i + 2)) q2 H) _
  congr 1
theorem lp_size (hG : 2 ^ 40 ≤ G) (hL : L ≤ 2560) (hi : i + 5 ≤ L) (ap : APt B A m q2) (hl : LI B A m q2 H) : ∃ H2 : pH, LI B A m q2 H2 ∧ f_La_law_b376 G L xs k (B 43) m q2 (nI i) H = k (B 43) m q2 (nI i) H2 := by
  obtain ⟨S, R, gs, cc, cl, bst, CL, e0, ha, hr, ho, hq, iv⟩ := hl
  have st := la_I (G := G) (H := H) (two := false) (q0 := B 43) (K := fun h => k (B 43) m q2 (nI i) h) (X := fun h => (if isZ (0 : Int32) = true then some (some (.int (0 : Int32)), h) else none)) (c := fun kd h9 => if kd = 1 then (some (some (.int (1 : Int32)), h9)) else (none)) ap e0 ha hr ho hq iv rfl (fun _ => rfl) (fun q => (by cases q)) (op_size (x1 := xs (i + 1)) (x2 := xs (i + 2)) (G := G) hG hr iv)
  obtain ⟨H2, l2, e2⟩ := st
  refine ⟨H2, l2, ?_⟩
  rw [f_La_law_b376_eq, scr_at (y := (1 : Int32)) (k := 1) rfl (by omega) hL, Option.bind_some, scr_at (y := (2 : Int32)) (k := 2) rfl (by omega) hL, Option.bind_some]
  refine Eq.trans ?_ e2
  show cI true (f_La_size G (B 43) (xs (i + 1)) (xs (i + 2)) q2 H) _ = cI true (f_La_size G (B 43) (xs (i + 1)) (xs (i + 2)) q2 H) _
  congr 1
theorem lp_fact (hG : 2 ^ 40 ≤ G) (hL : L ≤ 2560) (hi : i + 5 ≤ L) (ap : APt B A m q2) (hl : LI B A m q2 H) : ∃ H2 : pH, LI B A m q2 H2 ∧ f_La_law_b444 G L xs k (B 43) m q2 (nI i) H = k (B 43) m q2 (nI i) H2 := by
  obtain ⟨S, R, gs, cc, cl, bst, CL, e0, ha, hr, ho, hq, iv⟩ := hl
  have st := la_I (G := G) (H := H) (two := false) (q0 := B 43) (K := fun h => k (B 43) m q2 (nI i) h) (X := fun h => (if isZ (0 : Int32) = true then some (some (.int (0 : Int32)), h) else none)) (c := fun kd h9 => if kd = 1 then (some (some (.int (1 : Int32)), h9)) else (none)) ap e0 ha hr ho hq iv rfl (fun _ => rfl) (fun q => (by cases q)) (op_fact (x1 := xs (i + 1)) (x2 := xs (i + 2)) (G := G) hr iv)
  obtain ⟨H2, l2, e2⟩ := st
  refine ⟨H2, l2, ?_⟩
  rw [f_La_law_b444_eq, scr_at (y := (1 : Int32)) (k := 1) rfl (by omega) hL, Option.bind_some, scr_at (y := (2 : Int32)) (k := 2) rfl (by omega) hL, Option.bind_some]
  refine Eq.trans ?_ e2
  show cI true (f_La_fact G (B 43) (xs (i + 1)) (xs (i + 2)) q2 H) _ = cI true (f_La_fact G (B 43) (xs (i + 1)) (xs (i + 2)) q2 H) _
  congr 1
theorem lp_alike (hG : 2 ^ 40 ≤ G) (hL : L ≤ 2560) (hi : i + 5 ≤ L) (ap : APt B A m q2) (hl : LI B A m q2 H) : ∃ H2 : pH, LI B A m q2 H2 ∧ f_La_law_b512 G L xs k (B 43) m q2 (nI i) H = k (B 43) m q2 (nI i) H2 := by
  obtain ⟨S, R, gs, cc, cl, bst, CL, e0, ha, hr, ho, hq, iv⟩ := hl
  have st := la_B (G := G) (H := H) (q0 := B 43) (K := fun h => k (B 43) m q2 (nI i) h) (X := fun h => (if isZ (0 : Int32) = true then some (some (.int (0 : Int32)), h) else none)) (c := fun kd h9 => if kd = 1 then (some (some (.int (1 : Int32)), h9)) else (none)) (k16 := f_La_alike_b16 G) (k78 := fun x y h => f_La_law_b578 G L xs (f_La_law_b584 G L xs k) (B 43) m q2 (nI i) x y h) ap e0 ha hr ho hq iv rfl (fun _ => rfl) (fun _ _ => rfl) (fun _ _ _ => rfl) (op_alike (x1 := xs (i + 1)) (x2 := xs (i + 2)) (G := G) hG hr iv)
  obtain ⟨H2, l2, e2⟩ := st
  refine ⟨H2, l2, ?_⟩
  rw [f_La_law_b512_eq, scr_at (y := (1 : Int32)) (k := 1) rfl (by omega) hL, Option.bind_some, scr_at (y := (2 : Int32)) (k := 2) rfl (by omega) hL, Option.bind_some]
  refine Eq.trans ?_ e2
  show cI true (f_La_alike G (B 43) (xs (i + 1)) (xs (i + 2)) q2 H) _ = cI true (f_La_alike G (B 43) (xs (i + 1)) (xs (i + 2)) q2 H) _
  congr 1
theorem lp_image (hG : 2 ^ 40 ≤ G) (hL : L ≤ 2560) (hi : i + 5 ≤ L) (ap : APt B A m q2) (hl : LI B A m q2 H) : ∃ H2 : pH, LI B A m q2 H2 ∧ f_La_law_b587 G L xs k (B 43) m q2 (nI i) H = k (B 43) m q2 (nI i) H2 := by
  obtain ⟨S, R, gs, cc, cl, bst, CL, e0, ha, hr, ho, hq, iv⟩ := hl
  have st := la_I (G := G) (H := H) (two := false) (q0 := B 43) (K := fun h => k (B 43) m q2 (nI i) h) (X := fun h => (if isZ (0 : Int32) = true then some (some (.int (0 : Int32)), h) else none)) (c := fun kd h9 => if kd = 1 then (some (some (.int (1 : Int32)), h9)) else (none)) ap e0 ha hr ho hq iv rfl (fun _ => rfl) (fun q => (by cases q)) (op_image (x1 := xs (i + 1)) (x2 := xs (i + 2)) (x3 := xs (i + 3)) (G := G) hG hr iv)
  obtain ⟨H2, l2, e2⟩ := st
  refine ⟨H2, l2, ?_⟩
  rw [f_La_law_b587_eq, scr_at (y := (1 : Int32)) (k := 1) rfl (by omega) hL, Option.bind_some, scr_at (y := (2 : Int32)) (k := 2) rfl (by omega) hL, Option.bind_some, scr_at (y := (3 : Int32)) (k := 3) rfl (by omega) hL, Option.bind_some]
  refine Eq.trans ?_ e2
  show cI true (f_La_image G (B 43) (xs (i + 1)) (xs (i + 2)) (xs (i + 3)) q2 H) _ = cI true (f_La_image G (B 43) (xs (i + 1)) (xs (i + 2)) (xs (i + 3)) q2 H) _
  congr 1
theorem lp_form (hG : 2 ^ 40 ≤ G) (hL : L ≤ 2560) (hi : i + 5 ≤ L) (ap : APt B A m q2) (hl : LI B A m q2 H) : ∃ H2 : pH, LI B A m q2 H2 ∧ f_La_law_b667 G L xs k (B 43) m q2 (nI i) H = k (B 43) m q2 (nI i) H2 := by
  obtain ⟨S, R, gs, cc, cl, bst, CL, e0, ha, hr, ho, hq, iv⟩ := hl
  have st := la_I (G := G) (H := H) (two := false) (q0 := B 43) (K := fun h => k (B 43) m q2 (nI i) h) (X := fun h => (if isZ (0 : Int32) = true then some (some (.int (0 : Int32)), h) else none)) (c := fun kd h9 => if kd = 1 then (some (some (.int (1 : Int32)), h9)) else (none)) ap e0 ha hr ho hq iv rfl (fun _ => rfl) (fun q => (by cases q)) (op_form (x1 := xs (i + 1)) (x2 := xs (i + 2)) (G := G) hG hr iv)
  obtain ⟨H2, l2, e2⟩ := st
  refine ⟨H2, l2, ?_⟩
  rw [f_La_law_b667_eq, scr_at (y := (1 : Int32)) (k := 1) rfl (by omega) hL, Option.bind_some, scr_at (y := (2 : Int32)) (k := 2) rfl (by omega) hL, Option.bind_some]
  refine Eq.trans ?_ e2
  show cI true (f_La_form G (B 43) (xs (i + 1)) (xs (i + 2)) q2 H) _ = cI true (f_La_form G (B 43) (xs (i + 1)) (xs (i + 2)) q2 H) _
  congr 1
theorem lp_follows (hG : 2 ^ 40 ≤ G) (hL : L ≤ 2560) (hi : i + 5 ≤ L) (ap : APt B A m q2) (hl : LI B A m q2 H) : ∃ H2 : pH, LI B A m q2 H2 ∧ f_La_law_b735 G L xs k (B 43) m q2 (nI i) H = k (B 43) m q2 (nI i) H2 := by
  obtain ⟨S, R, gs, cc, cl, bst, CL, e0, ha, hr, ho, hq, iv⟩ := hl
  have st := la_B (G := G) (H := H) (q0 := B 43) (K := fun h => k (B 43) m q2 (nI i) h) (X := fun h => (if isZ (0 : Int32) = true then some (some (.int (0 : Int32)), h) else none)) (c := fun kd h9 => if kd = 1 then (some (some (.int (1 : Int32)), h9)) else (none)) (k16 := f_La_follows_b16 G) (k78 := fun x y h => f_La_law_b801 G L xs (f_La_law_b807 G L xs k) (B 43) m q2 (nI i) x y h) ap e0 ha hr ho hq iv rfl (fun _ => rfl) (fun _ _ => rfl) (fun _ _ _ => rfl) (op_follows (x1 := xs (i + 1)) (x2 := xs (i + 2)) (G := G) hG hr iv)
  obtain ⟨H2, l2, e2⟩ := st
  refine ⟨H2, l2, ?_⟩
  rw [f_La_law_b735_eq, scr_at (y := (1 : Int32)) (k := 1) rfl (by omega) hL, Option.bind_some, scr_at (y := (2 : Int32)) (k := 2) rfl (by omega) hL, Option.bind_some]
  refine Eq.trans ?_ e2
  show cI true (f_La_follows G (B 43) (xs (i + 1)) (xs (i + 2)) q2 H) _ = cI true (f_La_follows G (B 43) (xs (i + 1)) (xs (i + 2)) q2 H) _
  congr 1
theorem lp_putting (hG : 2 ^ 40 ≤ G) (hL : L ≤ 2560) (hi : i + 5 ≤ L) (ap : APt B A m q2) (hl : LI B A m q2 H) : ∃ H2 : pH, LI B A m q2 H2 ∧ f_La_law_b810 G L xs k (B 43) m q2 (nI i) H = k (B 43) m q2 (nI i) H2 := by
  obtain ⟨S, R, gs, cc, cl, bst, CL, e0, ha, hr, ho, hq, iv⟩ := hl
  have st := la_I (G := G) (H := H) (two := false) (q0 := B 43) (K := fun h => k (B 43) m q2 (nI i) h) (X := fun h => (if isZ (0 : Int32) = true then some (some (.int (0 : Int32)), h) else none)) (c := fun kd h9 => if kd = 1 then (some (some (.int (1 : Int32)), h9)) else (none)) ap e0 ha hr ho hq iv rfl (fun _ => rfl) (fun q => (by cases q)) (op_putting (x1 := xs (i + 1)) (x2 := xs (i + 2)) (x3 := xs (i + 3)) (G := G) hG hr iv)
  obtain ⟨H2, l2, e2⟩ := st
  refine ⟨H2, l2, ?_⟩
  rw [f_La_law_b810_eq, scr_at (y := (1 : Int32)) (k := 1) rfl (by omega) hL, Option.bind_some, scr_at (y := (2 : Int32)) (k := 2) rfl (by omega) hL, Option.bind_some, scr_at (y := (3 : Int32)) (k := 3) rfl (by omega) hL, Option.bind_some]
  refine Eq.trans ?_ e2
  show cI true (f_La_putting G (B 43) (xs (i + 1)) (xs (i + 2)) (xs (i + 3)) q2 H) _ = cI true (f_La_putting G (B 43) (xs (i + 1)) (xs (i + 2)) (xs (i + 3)) q2 H) _
  congr 1
theorem lp_lean (hG : 2 ^ 40 ≤ G) (hL : L ≤ 2560) (hi : i + 5 ≤ L) (ap : APt B A m q2) (hl : LI B A m q2 H) : ∃ H2 : pH, LI B A m q2 H2 ∧ f_La_law_b890 G L xs k (B 43) m q2 (nI i) H = k (B 43) m q2 (nI i) H2 := by
  obtain ⟨S, R, gs, cc, cl, bst, CL, e0, ha, hr, ho, hq, iv⟩ := hl
  have st := la_B (G := G) (H := H) (q0 := B 43) (K := fun h => k (B 43) m q2 (nI i) h) (X := fun h => (if isZ (0 : Int32) = true then some (some (.int (0 : Int32)), h) else none)) (c := fun kd h9 => if kd = 1 then (some (some (.int (1 : Int32)), h9)) else (none)) (k16 := f_La_lean_b15 G) (k78 := fun x y h => f_La_law_b944 G L xs (f_La_law_b950 G L xs k) (B 43) m q2 (nI i) x y h) ap e0 ha hr ho hq iv rfl (fun _ => rfl) (fun _ _ => rfl) (fun _ _ _ => rfl) (op_lean (x1 := xs (i + 1)) (G := G) hG hr iv)
  obtain ⟨H2, l2, e2⟩ := st
  refine ⟨H2, l2, ?_⟩
  rw [f_La_law_b890_eq, scr_at (y := (1 : Int32)) (k := 1) rfl (by omega) hL, Option.bind_some]
  refine Eq.trans ?_ e2
  show cI true (f_La_lean G (B 43) (xs (i + 1)) q2 H) _ = cI true (f_La_lean G (B 43) (xs (i + 1)) q2 H) _
  congr 1
theorem lp_core (hG : 2 ^ 40 ≤ G) (hL : L ≤ 2560) (hi : i + 5 ≤ L) (ap : APt B A m q2) (hl : LI B A m q2 H) : ∃ H2 : pH, LI B A m q2 H2 ∧ f_La_law_b953 G L xs k (B 43) m q2 (nI i) H = k (B 43) m q2 (nI i) H2 := by
  obtain ⟨S, R, gs, cc, cl, bst, CL, e0, ha, hr, ho, hq, iv⟩ := hl
  have st := la_I (G := G) (H := H) (two := false) (q0 := B 43) (K := fun h => k (B 43) m q2 (nI i) h) (X := fun h => (if isZ (0 : Int32) = true then some (some (.int (0 : Int32)), h) else none)) (c := fun kd h9 => if kd = 1 then (some (some (.int (1 : Int32)), h9)) else (none)) ap e0 ha hr ho hq iv rfl (fun _ => rfl) (fun q => (by cases q)) (op_core (x1 := xs (i + 1)) (G := G) hG hr iv)
  obtain ⟨H2, l2, e2⟩ := st
  refine ⟨H2, l2, ?_⟩
  rw [f_La_law_b953_eq, scr_at (y := (1 : Int32)) (k := 1) rfl (by omega) hL, Option.bind_some]
  refine Eq.trans ?_ e2
  show cI true (f_La_core G (B 43) (xs (i + 1)) q2 H) _ = cI true (f_La_core G (B 43) (xs (i + 1)) q2 H) _
  congr 1
theorem lp_join (hG : 2 ^ 40 ≤ G) (hL : L ≤ 2560) (hi : i + 5 ≤ L) (ap : APt B A m q2) (hl : LI B A m q2 H) : ∃ H2 : pH, LI B A m q2 H2 ∧ f_La_law_b1009 G L xs k (B 43) m q2 (nI i) H = k (B 43) m q2 (nI i) H2 := by
  obtain ⟨S, R, gs, cc, cl, bst, CL, e0, ha, hr, ho, hq, iv⟩ := hl
  have st := la_I (G := G) (H := H) (two := false) (q0 := B 43) (K := fun h => k (B 43) m q2 (nI i) h) (X := fun h => (if isZ (0 : Int32) = true then some (some (.int (0 : Int32)), h) else none)) (c := fun kd h9 => if kd = 1 then (some (some (.int (1 : Int32)), h9)) else (none)) ap e0 ha hr ho hq iv rfl (fun _ => rfl) (fun q => (by cases q)) (op_join (x1 := xs (i + 1)) (x2 := xs (i + 2)) (x3 := xs (i + 3)) (G := G) hG hr iv)
  obtain ⟨H2, l2, e2⟩ := st
  refine ⟨H2, l2, ?_⟩
  rw [f_La_law_b1009_eq, scr_at (y := (1 : Int32)) (k := 1) rfl (by omega) hL, Option.bind_some, scr_at (y := (2 : Int32)) (k := 2) rfl (by omega) hL, Option.bind_some, scr_at (y := (3 : Int32)) (k := 3) rfl (by omega) hL, Option.bind_some]
  refine Eq.trans ?_ e2
  show cI true (f_La_join G (B 43) (xs (i + 1)) (xs (i + 2)) (xs (i + 3)) q2 H) _ = cI true (f_La_join G (B 43) (xs (i + 1)) (xs (i + 2)) (xs (i + 3)) q2 H) _
  congr 1
theorem lp_merge (hG : 2 ^ 40 ≤ G) (hL : L ≤ 2560) (hi : i + 5 ≤ L) (ap : APt B A m q2) (hl : LI B A m q2 H) : ∃ H2 : pH, LI B A m q2 H2 ∧ f_La_law_b1089 G L xs k (B 43) m q2 (nI i) H = k (B 43) m q2 (nI i) H2 := by
  obtain ⟨S, R, gs, cc, cl, bst, CL, e0, ha, hr, ho, hq, iv⟩ := hl
  have st := la_I (G := G) (H := H) (two := false) (q0 := B 43) (K := fun h => k (B 43) m q2 (nI i) h) (X := fun h => (if isZ (0 : Int32) = true then some (some (.int (0 : Int32)), h) else none)) (c := fun kd h9 => if kd = 1 then (some (some (.int (1 : Int32)), h9)) else (none)) ap e0 ha hr ho hq iv rfl (fun _ => rfl) (fun q => (by cases q)) (op_merge (x1 := xs (i + 1)) (x2 := xs (i + 2)) (x3 := xs (i + 3)) (x4 := xs (i + 4)) (G := G) hG hr iv)
  obtain ⟨H2, l2, e2⟩ := st
  refine ⟨H2, l2, ?_⟩
  rw [f_La_law_b1089_eq, scr_at (y := (1 : Int32)) (k := 1) rfl (by omega) hL, Option.bind_some, scr_at (y := (2 : Int32)) (k := 2) rfl (by omega) hL, Option.bind_some, scr_at (y := (3 : Int32)) (k := 3) rfl (by omega) hL, Option.bind_some, scr_at (y := (4 : Int32)) (k := 4) rfl (by omega) hL, Option.bind_some]
  refine Eq.trans ?_ e2
  show cI true (f_La_merge G (B 43) (xs (i + 1)) (xs (i + 2)) (xs (i + 3)) (xs (i + 4)) q2 H) _ = cI true (f_La_merge G (B 43) (xs (i + 1)) (xs (i + 2)) (xs (i + 3)) (xs (i + 4)) q2 H) _
  congr 1
theorem lp_clash (hG : 2 ^ 40 ≤ G) (hL : L ≤ 2560) (hi : i + 5 ≤ L) (ap : APt B A m q2) (hl : LI B A m q2 H) : ∃ H2 : pH, LI B A m q2 H2 ∧ f_La_law_b1181 G L xs k (B 43) m q2 (nI i) H = k (B 43) m q2 (nI i) H2 := by
  obtain ⟨S, R, gs, cc, cl, bst, CL, e0, ha, hr, ho, hq, iv⟩ := hl
  have st := la_I (G := G) (H := H) (two := false) (q0 := B 43) (K := fun h => k (B 43) m q2 (nI i) h) (X := fun h => (if isZ (0 : Int32) = true then some (some (.int (0 : Int32)), h) else none)) (c := fun kd h9 => if kd = 1 then (some (some (.int (1 : Int32)), h9)) else (none)) ap e0 ha hr ho hq iv rfl (fun _ => rfl) (fun q => (by cases q)) (op_clash (x1 := xs (i + 1)) (x2 := xs (i + 2)) (G := G) hr iv)
  obtain ⟨H2, l2, e2⟩ := st
  refine ⟨H2, l2, ?_⟩
  rw [f_La_law_b1181_eq, scr_at (y := (1 : Int32)) (k := 1) rfl (by omega) hL, Option.bind_some, scr_at (y := (2 : Int32)) (k := 2) rfl (by omega) hL, Option.bind_some]
  refine Eq.trans ?_ e2
  show cI true (f_La_clash G (B 43) (xs (i + 1)) (xs (i + 2)) q2 H) _ = cI true (f_La_clash G (B 43) (xs (i + 1)) (xs (i + 2)) q2 H) _
  congr 1
theorem lp_change (hG : 2 ^ 40 ≤ G) (hL : L ≤ 2560) (hi : i + 5 ≤ L) (ap : APt B A m q2) (hl : LI B A m q2 H) : ∃ H2 : pH, LI B A m q2 H2 ∧ f_La_law_b1249 G L xs k (B 43) m q2 (nI i) H = k (B 43) m q2 (nI i) H2 := by
  obtain ⟨S, R, gs, cc, cl, bst, CL, e0, ha, hr, ho, hq, iv⟩ := hl
  have st := la_I (G := G) (H := H) (two := false) (q0 := B 43) (K := fun h => k (B 43) m q2 (nI i) h) (X := fun h => (if isZ (0 : Int32) = true then some (some (.int (0 : Int32)), h) else none)) (c := fun kd h9 => if kd = 1 then (some (some (.int (1 : Int32)), h9)) else (none)) ap e0 ha hr ho hq iv rfl (fun _ => rfl) (fun q => (by cases q)) (op_change (x1 := xs (i + 1)) (x2 := xs (i + 2)) (G := G) hG hr iv)
  obtain ⟨H2, l2, e2⟩ := st
  refine ⟨H2, l2, ?_⟩
  rw [f_La_law_b1249_eq, scr_at (y := (1 : Int32)) (k := 1) rfl (by omega) hL, Option.bind_some, scr_at (y := (2 : Int32)) (k := 2) rfl (by omega) hL, Option.bind_some]
  refine Eq.trans ?_ e2
  show cI true (f_La_change G (B 43) (xs (i + 1)) (xs (i + 2)) q2 H) _ = cI true (f_La_change G (B 43) (xs (i + 1)) (xs (i + 2)) q2 H) _
  congr 1
theorem lp_part (hG : 2 ^ 40 ≤ G) (hL : L ≤ 2560) (hi : i + 5 ≤ L) (ap : APt B A m q2) (hl : LI B A m q2 H) : ∃ H2 : pH, LI B A m q2 H2 ∧ f_La_law_b1317 G L xs k (B 43) m q2 (nI i) H = k (B 43) m q2 (nI i) H2 := by
  obtain ⟨S, R, gs, cc, cl, bst, CL, e0, ha, hr, ho, hq, iv⟩ := hl
  have st := la_I (G := G) (H := H) (two := false) (q0 := B 43) (K := fun h => k (B 43) m q2 (nI i) h) (X := fun h => (if isZ (0 : Int32) = true then some (some (.int (0 : Int32)), h) else none)) (c := fun kd h9 => if kd = 1 then (some (some (.int (1 : Int32)), h9)) else (none)) ap e0 ha hr ho hq iv rfl (fun _ => rfl) (fun q => (by cases q)) (op_part (x1 := xs (i + 1)) (x2 := xs (i + 2)) (G := G) hr iv)
  obtain ⟨H2, l2, e2⟩ := st
  refine ⟨H2, l2, ?_⟩
  rw [f_La_law_b1317_eq, scr_at (y := (1 : Int32)) (k := 1) rfl (by omega) hL, Option.bind_some, scr_at (y := (2 : Int32)) (k := 2) rfl (by omega) hL, Option.bind_some]
  refine Eq.trans ?_ e2
  show cI true (f_La_part G (B 43) (xs (i + 1)) (xs (i + 2)) q2 H) _ = cI true (f_La_part G (B 43) (xs (i + 1)) (xs (i + 2)) q2 H) _
  congr 1
theorem lp_apply (hG : 2 ^ 40 ≤ G) (hL : L ≤ 2560) (hi : i + 5 ≤ L) (ap : APt B A m q2) (hl : LI B A m q2 H) : ∃ H2 : pH, LI B A m q2 H2 ∧ f_La_law_b1385 G L xs k (B 43) m q2 (nI i) H = k (B 43) m q2 (nI i) H2 := by
  obtain ⟨S, R, gs, cc, cl, bst, CL, e0, ha, hr, ho, hq, iv⟩ := hl
  have st : ∀ bk : Bool, ∃ H2 : pH, LI B A m q2 H2 ∧ (cI true (f_La_apply G (B 43) (xs (i + 1)) (bI bk) q2 H) fun v13 h10 => f_La_law_b1433 G L xs k (B 43) m q2 (nI i) v13 m (xs (i + 1)) (bI bk) h10) = k (B 43) m q2 (nI i) H2 := fun bk => la_I (G := G) (H := H) (two := false) (q0 := B 43) (K := fun h => k (B 43) m q2 (nI i) h) (X := fun h => (if isZ (0 : Int32) = true then some (some (.int (0 : Int32)), h) else none)) (c := fun kd h9 => if kd = 1 then (some (some (.int (1 : Int32)), h9)) else (none)) ap e0 ha hr ho hq iv rfl (fun _ => rfl) (fun q => (by cases q)) (op_apply (G := G) (x1 := xs (i + 1)) bk hG hr iv)
  rw [f_La_law_b1385_eq, scr_at (y := (1 : Int32)) (k := 1) rfl (by omega) hL, Option.bind_some, scr_at (y := (2 : Int32)) (k := 2) rfl (by omega) hL, Option.bind_some]
  by_cases hv : xs (i + 2) = 0
  · rw [if_pos hv]
    obtain ⟨H2, l2, e2⟩ := st false
    refine ⟨H2, l2, Eq.trans ?_ e2⟩
    rw [f_La_law_b1406_eq]
    show cI true (f_La_apply G (B 43) (xs (i + 1)) 0 q2 H) _ = cI true (f_La_apply G (B 43) (xs (i + 1)) 0 q2 H) _
    congr 1
    funext v h
    rw [scr_at (y := (1 : Int32)) (k := 1) rfl (by omega) hL, Option.bind_some, scr_at (y := (2 : Int32)) (k := 2) rfl (by omega) hL, Option.bind_some, if_pos hv]
    rfl
  · rw [if_neg hv]
    obtain ⟨H2, l2, e2⟩ := st true
    refine ⟨H2, l2, Eq.trans ?_ e2⟩
    rw [f_La_law_b1406_eq]
    show cI true (f_La_apply G (B 43) (xs (i + 1)) 1 q2 H) _ = cI true (f_La_apply G (B 43) (xs (i + 1)) 1 q2 H) _
    congr 1
    funext v h
    rw [scr_at (y := (1 : Int32)) (k := 1) rfl (by omega) hL, Option.bind_some, scr_at (y := (2 : Int32)) (k := 2) rfl (by omega) hL, Option.bind_some, if_neg hv]
    rfl
end LPS
/-- the law's loop: it comes to 1 -/
theorem la_loop {G L : Nat} {xs : Nat → Int32} {B A : Nat → Nat} {m q2 : Nat} (hG : 2 ^ 40 ≤ G) (hL : L ≤ 2560) (ap : APt B A m q2) :
    ∀ (F i : Nat) (H : pH), L < i + 5 * (F + 1) → i ≤ 2560 → LI B A m q2 H → ∃ r : pR, r.1 = some (.int 1) ∧ f_La_law_b23 G L xs (F + 1) (B 43) m q2 (nI i) H = some r := by
  have cnd : ∀ i, i ≤ 2560 → ((Int32.ofNat L) - (5 : Int32) < nI i ↔ L < i + 5) := fun i hi => by
    rw [Int32.lt_iff_toInt_lt, nI_toInt (by omega)]
    have : ((Int32.ofNat L) - (5 : Int32)).toInt = (L : Int) - 5 := pk_sub_toInt (a := L) (b := 5) (by omega) (by omega)
    rw [this]
    omega
  intro F
  induction F with
  | zero =>
    intro i H hF hi hl
    exact ⟨_, rfl, by rw [f_La_law_b23_eq, if_pos ((cnd i hi).mpr (by omega))]; rfl⟩
  | succ F ih =>
    intro i H hF hi hl
    rw [f_La_law_b23_eq]
    by_cases h5 : L < i + 5
    · exact ⟨_, rfl, by rw [if_pos ((cnd i hi).mpr h5)]; rfl⟩
    · have s0 : scr L xs (nI i) = some (xs i) := by
        unfold scr
        rw [if_pos (vin_nI (by omega) (by omega)), nI_clamp (by omega)]
      rw [if_neg (fun q => h5 ((cnd i hi).mp q)), s0, Option.bind_some]
      -- behind a step
      have nxt : ∀ H2 : pH, LI B A m q2 H2 → ∃ r : pR, r.1 = some (.int 1) ∧ f_La_law_b1469 G L xs (f_La_law_b23 G L xs (F + 1)) (B 43) m q2 (nI i) H2 = some r := fun H2 l2 => by
        obtain ⟨r, r1, r2⟩ := ih (i + 5) H2 (by omega) (by omega) l2
        refine ⟨r, r1, ?_⟩
        have e5 : nI i + 5 = nI (i + 5) := by rw [show (5 : Int32) = nI 5 from rfl, nI_add]
        rw [f_La_law_b1469_eq, e5, r2]
      have fin : ∀ {o : Option pR}, (∃ H2 : pH, LI B A m q2 H2 ∧ o = f_La_law_b1469 G L xs (f_La_law_b23 G L xs (F + 1)) (B 43) m q2 (nI i) H2) → ∃ r : pR, r.1 = some (.int 1) ∧ o = some r := fun ⟨H2, l2, e2⟩ => by
        obtain ⟨r, r1, r2⟩ := nxt H2 l2
        exact ⟨r, r1, e2.trans r2⟩
      by_cases c0 : xs i &&& (31 : Int32) = 0
      · rw [if_pos c0]
        exact fin (lp_put hG hL (by omega) ap hl)
      rw [if_neg c0]
      by_cases c1 : xs i &&& (31 : Int32) = 1
      · rw [if_pos c1]
        exact fin (lp_drop hG hL (by omega) ap hl)
      rw [if_neg c1]
      by_cases c2 : xs i &&& (31 : Int32) = 2
      · rw [if_pos c2]
        exact fin (lp_copy hG hL (by omega) ap hl)
      rw [if_neg c2]
      by_cases c3 : xs i &&& (31 : Int32) = 3
      · rw [if_pos c3]
        exact fin (lp_size hG hL (by omega) ap hl)
      rw [if_neg c3]
      by_cases c4 : xs i &&& (31 : Int32) = 4
      · rw [if_pos c4]
        exact fin (lp_fact hG hL (by omega) ap hl)
      rw [if_neg c4]
      by_cases c5 : xs i &&& (31 : Int32) = 5
      · rw [if_pos c5]
        exact fin (lp_alike hG hL (by omega) ap hl)
      rw [if_neg c5]
      by_cases c6 : xs i &&& (31 : Int32) = 6
      · rw [if_pos c6]
        exact fin (lp_image hG hL (by omega) ap hl)
      rw [if_neg c6]
      by_cases c7 : xs i &&& (31 : Int32) = 7
      · rw [if_pos c7]
        exact fin (lp_form hG hL (by omega) ap hl)
      rw [if_neg c7]
      by_cases c8 : xs i &&& (31 : Int32) = 8
      · rw [if_pos c8]
        exact fin (lp_follows hG hL (by omega) ap hl)
      rw [if_neg c8]
      by_cases c9 : xs i &&& (31 : Int32) = 9
      · rw [if_pos c9]
        exact fin (lp_putting hG hL (by omega) ap hl)
      rw [if_neg c9]
      by_cases c10 : xs i &&& (31 : Int32) = 10
      · rw [if_pos c10]
        exact fin (lp_lean hG hL (by omega) ap hl)
      rw [if_neg c10]
      by_cases c11 : xs i &&& (31 : Int32) = 11
      · rw [if_pos c11]
        exact fin (lp_core hG hL (by omega) ap hl)
      rw [if_neg c11]
      by_cases c12 : xs i &&& (31 : Int32) = 12
      · rw [if_pos c12]
        exact fin (lp_join hG hL (by omega) ap hl)
      rw [if_neg c12]
      by_cases c13 : xs i &&& (31 : Int32) = 13
      · rw [if_pos c13]
        exact fin (lp_merge hG hL (by omega) ap hl)
      rw [if_neg c13]
      by_cases c14 : xs i &&& (31 : Int32) = 14
      · rw [if_pos c14]
        exact fin (lp_clash hG hL (by omega) ap hl)
      rw [if_neg c14]
      by_cases c15 : xs i &&& (31 : Int32) = 15
      · rw [if_pos c15]
        exact fin (lp_change hG hL (by omega) ap hl)
      rw [if_neg c15]
      by_cases c16 : xs i &&& (31 : Int32) = 16
      · rw [if_pos c16]
        exact fin (lp_part hG hL (by omega) ap hl)
      rw [if_neg c16]
      by_cases c17 : xs i &&& (31 : Int32) = 17
      · rw [if_pos c17]
        exact fin (lp_apply hG hL (by omega) ap hl)
      rw [if_neg c17]
      exact nxt H hl
