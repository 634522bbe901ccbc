def f_La_law_b1466 (G L : Nat) (xs : Nat → Int32) (k1469 : Nat → Nat → Nat → Int32 → pH → Option pR) (x1 : Nat) (x2 : Nat) (x3 : Nat) (x4 : Int32) (h : pH) : Option pR := k1469 x1 x2 x3 x4 h
theorem f_La_law_b1466_eq (G L : Nat) (xs : Nat → Int32) (k1469 : Nat → Nat → Nat → Int32 → pH → Option pR) (x1 : Nat) (x2 : Nat) (x3 : Nat) (x4 : Int32) (h : pH) : f_La_law_b1466 G L xs k1469 x1 x2 x3 x4 h = (k1469 x1 x2 x3 x4 h) := rfl
def f_La_law_b1433 (G L : Nat) (xs : Nat → Int32) (k1469 : Nat → Nat → Nat → Int32 → pH → Option pR) (x1 : Nat) (x2 : Nat) (x3 : Nat) (x4 : Int32) (x5 : Int32) (s0 : Nat) (s1 : Int32) (s2 : Int32) (h : pH) : Option pR := cI (oC h s0 4) (f_Mo_apply G s0 s1 s2 h) fun v4 h1 => cI (oC h1 x2 4) (f_Mo_thrown G x2 h1) fun v8 h5 => if v8 = x5 then (if x5 = 0 then ((aJ h5 x3 (0 : Int32)).bind fun v9 => if (lg_cmp v9 (v4).toInt64) = 0 then ((f_La_law_b1466 G L xs k1469) x1 x2 x3 x4 h5) else ((if isZ (0 : Int32) = true then some (some (.int (0 : Int32)), h5) else none))) else ((f_La_law_b1466 G L xs k1469) x1 x2 x3 x4 h5)) else ((if isZ (0 : Int32) = true then some (some (.int (0 : Int32)), h5) else none))
theorem f_La_law_b1433_eq (G L : Nat) (xs : Nat → Int32) (k1469 : Nat → Nat → Nat → Int32 → pH → Option pR) (x1 : Nat) (x2 : Nat) (x3 : Nat) (x4 : Int32) (x5 : Int32) (s0 : Nat) (s1 : Int32) (s2 : Int32) (h : pH) : f_La_law_b1433 G L xs k1469 x1 x2 x3 x4 x5 s0 s1 s2 h = (cI (oC h s0 4) (f_Mo_apply G s0 s1 s2 h) fun v4 h1 => cI (oC h1 x2 4) (f_Mo_thrown G x2 h1) fun v8 h5 => if v8 = x5 then (if x5 = 0 then ((aJ h5 x3 (0 : Int32)).bind fun v9 => if (lg_cmp v9 (v4).toInt64) = 0 then ((f_La_law_b1466 G L xs k1469) x1 x2 x3 x4 h5) else ((if isZ (0 : Int32) = true then some (some (.int (0 : Int32)), h5) else none))) else ((f_La_law_b1466 G L xs k1469) x1 x2 x3 x4 h5)) else ((if isZ (0 : Int32) = true then some (some (.int (0 : Int32)), h5) else none))) := rfl
def f_La_law_b213 (G L : Nat) (xs : Nat → Int32) (k1469 : Nat → Nat → Nat → Int32 → pH → Option pR) (x1 : Nat) (x2 : Nat) (x3 : Nat) (x4 : Int32) (h : pH) : Option pR := k1469 x1 x2 x3 x4 h
theorem f_La_law_b213_eq (G L : Nat) (xs : Nat → Int32) (k1469 : Nat → Nat → Nat → Int32 → pH → Option pR) (x1 : Nat) (x2 : Nat) (x3 : Nat) (x4 : Int32) (h : pH) : f_La_law_b213 G L xs k1469 x1 x2 x3 x4 h = (k1469 x1 x2 x3 x4 h) := rfl
def f_La_law_b305 (G L : Nat) (xs : Nat → Int32) (k1469 : Nat → Nat → Nat → Int32 → pH → Option pR) (x1 : Nat) (x2 : Nat) (x3 : Nat) (x4 : Int32) (h : pH) : Option pR := k1469 x1 x2 x3 x4 h
theorem f_La_law_b305_eq (G L : Nat) (xs : Nat → Int32) (k1469 : Nat → Nat → Nat → Int32 → pH → Option pR) (x1 : Nat) (x2 : Nat) (x3 : Nat) (x4 : Int32) (h : pH) : f_La_law_b305 G L xs k1469 x1 x2 x3 x4 h = (k1469 x1 x2 x3 x4 h) := rfl
def f_La_law_b373 (G L : Nat) (xs : Nat → Int32) (k1469 : Nat → Nat → Nat → Int32 → pH → Option pR) (x1 : Nat) (x2 : Nat) (x3 : Nat) (x4 : Int32) (h : pH) : Option pR := k1469 x1 x2 x3 x4 h
theorem f_La_law_b373_eq (G L : Nat) (xs : Nat → Int32) (k1469 : Nat → Nat → Nat → Int32 → pH → Option pR) (x1 : Nat) (x2 : Nat) (x3 : Nat) (x4 : Int32) (h : pH) : f_La_law_b373 G L xs k1469 x1 x2 x3 x4 h = (k1469 x1 x2 x3 x4 h) := rfl
def f_La_law_b441 (G L : Nat) (xs : Nat → Int32) (k1469 : Nat → Nat → Nat → Int32 → pH → Option pR) (x1 : Nat) (x2 : Nat) (x3 : Nat) (x4 : Int32) (h : pH) : Option pR := k1469 x1 x2 x3 x4 h
theorem f_La_law_b441_eq (G L : Nat) (xs : Nat → Int32) (k1469 : Nat → Nat → Nat → Int32 → pH → Option pR) (x1 : Nat) (x2 : Nat) (x3 : Nat) (x4 : Int32) (h : pH) : f_La_law_b441 G L xs k1469 x1 x2 x3 x4 h = (k1469 x1 x2 x3 x4 h) := rfl
def f_La_law_b509 (G L : Nat) (xs : Nat → Int32) (k1469 : Nat → Nat → Nat → Int32 → pH → Option pR) (x1 : Nat) (x2 : Nat) (x3 : Nat) (x4 : Int32) (h : pH) : Option pR := k1469 x1 x2 x3 x4 h
theorem f_La_law_b509_eq (G L : Nat) (xs : Nat → Int32) (k1469 : Nat → Nat → Nat → Int32 → pH → Option pR) (x1 : Nat) (x2 : Nat) (x3 : Nat) (x4 : Int32) (h : pH) : f_La_law_b509 G L xs k1469 x1 x2 x3 x4 h = (k1469 x1 x2 x3 x4 h) := rfl
def f_La_law_b578 (G L : Nat) (xs : Nat → Int32) (k584 : Nat → Nat → Nat → Int32 → pH → Option pR) (x1 : Nat) (x2 : Nat) (x3 : Nat) (x4 : Int32) (s0 : Int64) (s1 : Int64) (h : pH) : Option pR := if (lg_cmp s0 s1) = 0 then (k584 x1 x2 x3 x4 h) else ((if isZ (0 : Int32) = true then some (some (.int (0 : Int32)), h) else none))
theorem f_La_law_b578_eq (G L : Nat) (xs : Nat → Int32) (k584 : Nat → Nat → Nat → Int32 → pH → Option pR) (x1 : Nat) (x2 : Nat) (x3 : Nat) (x4 : Int32) (s0 : Int64) (s1 : Int64) (h : pH) : f_La_law_b578 G L xs k584 x1 x2 x3 x4 s0 s1 h = (if (lg_cmp s0 s1) = 0 then (k584 x1 x2 x3 x4 h) else ((if isZ (0 : Int32) = true then some (some (.int (0 : Int32)), h) else none))) := rfl
def f_La_law_b584 (G L : Nat) (xs : Nat → Int32) (k1469 : Nat → Nat → Nat → Int32 → pH → Option pR) (x1 : Nat) (x2 : Nat) (x3 : Nat) (x4 : Int32) (h : pH) : Option pR := k1469 x1 x2 x3 x4 h
theorem f_La_law_b584_eq (G L : Nat) (xs : Nat → Int32) (k1469 : Nat → Nat → Nat → Int32 → pH → Option pR) (x1 : Nat) (x2 : Nat) (x3 : Nat) (x4 : Int32) (h : pH) : f_La_law_b584 G L xs k1469 x1 x2 x3 x4 h = (k1469 x1 x2 x3 x4 h) := rfl
def f_La_law_b664 (G L : Nat) (xs : Nat → Int32) (k1469 : Nat → Nat → Nat → Int32 → pH → Option pR) (x1 : Nat) (x2 : Nat) (x3 : Nat) (x4 : Int32) (h : pH) : Option pR := k1469 x1 x2 x3 x4 h
theorem f_La_law_b664_eq (G L : Nat) (xs : Nat → Int32) (k1469 : Nat → Nat → Nat → Int32 → pH → Option pR) (x1 : Nat) (x2 : Nat) (x3 : Nat) (x4 : Int32) (h : pH) : f_La_law_b664 G L xs k1469 x1 x2 x3 x4 h = (k1469 x1 x2 x3 x4 h) := rfl
def f_La_law_b732 (G L : Nat) (xs : Nat → Int32) (k1469 : Nat → Nat → Nat → Int32 → pH → Option pR) (x1 : Nat) (x2 : Nat) (x3 : Nat) (x4 : Int32) (h : pH) : Option pR := k1469 x1 x2 x3 x4 h
theorem f_La_law_b732_eq (G L : Nat) (xs : Nat → Int32) (k1469 : Nat → Nat → Nat → Int32 → pH → Option pR) (x1 : Nat) (x2 : Nat) (x3 : Nat) (x4 : Int32) (h : pH) : f_La_law_b732 G L xs k1469 x1 x2 x3 x4 h = (k1469 x1 x2 x3 x4 h) := rfl
def f_La_law_b801 (G L : Nat) (xs : Nat → Int32) (k807 : Nat → Nat → Nat → Int32 → pH → Option pR) (x1 : Nat) (x2 : Nat) (x3 : Nat) (x4 : Int32) (s0 : Int64) (s1 : Int64) (h : pH) : Option pR := if (lg_cmp s0 s1) = 0 then (k807 x1 x2 x3 x4 h) else ((if isZ (0 : Int32) = true then some (some (.int (0 : Int32)), h) else none))
theorem f_La_law_b801_eq (G L : Nat) (xs : Nat → Int32) (k807 : Nat → Nat → Nat → Int32 → pH → Option pR) (x1 : Nat) (x2 : Nat) (x3 : Nat) (x4 : Int32) (s0 : Int64) (s1 : Int64) (h : pH) : f_La_law_b801 G L xs k807 x1 x2 x3 x4 s0 s1 h = (if (lg_cmp s0 s1) = 0 then (k807 x1 x2 x3 x4 h) else ((if isZ (0 : Int32) = true then some (some (.int (0 : Int32)), h) else none))) := rfl
def f_La_law_b807 (G L : Nat) (xs : Nat → Int32) (k1469 : Nat → Nat → Nat → Int32 → pH → Option pR) (x1 : Nat) (x2 : Nat) (x3 : Nat) (x4 : Int32) (h : pH) : Option pR := k1469 x1 x2 x3 x4 h
theorem f_La_law_b807_eq (G L : Nat) (xs : Nat → Int32) (k1469 : Nat → Nat → Nat → Int32 → pH → Option pR) (x1 : Nat) (x2 : Nat) (x3 : Nat) (x4 : Int32) (h : pH) : f_La_law_b807 G L xs k1469 x1 x2 x3 x4 h = (k1469 x1 x2 x3 x4 h) := rfl
def f_La_law_b887 (G L : Nat) (xs : Nat → Int32) (k1469 : Nat → Nat → Nat → Int32 → pH → Option pR) (x1 : Nat) (x2 : Nat) (x3 : Nat) (x4 : Int32) (h : pH) : Option pR := k1469 x1 x2 x3 x4 h
theorem f_La_law_b887_eq (G L : Nat) (xs : Nat → Int32) (k1469 : Nat → Nat → Nat → Int32 → pH → Option pR) (x1 : Nat) (x2 : Nat) (x3 : Nat) (x4 : Int32) (h : pH) : f_La_law_b887 G L xs k1469 x1 x2 x3 x4 h = (k1469 x1 x2 x3 x4 h) := rfl
def f_La_law_b944 (G L : Nat) (xs : Nat → Int32) (k950 : Nat → Nat → Nat → Int32 → pH → Option pR) (x1 : Nat) (x2 : Nat) (x3 : Nat) (x4 : Int32) (s0 : Int64) (s1 : Int64) (h : pH) : Option pR := if (lg_cmp s0 s1) = 0 then (k950 x1 x2 x3 x4 h) else ((if isZ (0 : Int32) = true then some (some (.int (0 : Int32)), h) else none))
theorem f_La_law_b944_eq (G L : Nat) (xs : Nat → Int32) (k950 : Nat → Nat → Nat → Int32 → pH → Option pR) (x1 : Nat) (x2 : Nat) (x3 : Nat) (x4 : Int32) (s0 : Int64) (s1 : Int64) (h : pH) : f_La_law_b944 G L xs k950 x1 x2 x3 x4 s0 s1 h = (if (lg_cmp s0 s1) = 0 then (k950 x1 x2 x3 x4 h) else ((if isZ (0 : Int32) = true then some (some (.int (0 : Int32)), h) else none))) := rfl
def f_La_law_b950 (G L : Nat) (xs : Nat → Int32) (k1469 : Nat → Nat → Nat → Int32 → pH → Option pR) (x1 : Nat) (x2 : Nat) (x3 : Nat) (x4 : Int32) (h : pH) : Option pR := k1469 x1 x2 x3 x4 h
theorem f_La_law_b950_eq (G L : Nat) (xs : Nat → Int32) (k1469 : Nat → Nat → Nat → Int32 → pH → Option pR) (x1 : Nat) (x2 : Nat) (x3 : Nat) (x4 : Int32) (h : pH) : f_La_law_b950 G L xs k1469 x1 x2 x3 x4 h = (k1469 x1 x2 x3 x4 h) := rfl
def f_La_law_b1006 (G L : Nat) (xs : Nat → Int32) (k1469 : Nat → Nat → Nat → Int32 → pH → Option pR) (x1 : Nat) (x2 : Nat) (x3 : Nat) (x4 : Int32) (h : pH) : Option pR := k1469 x1 x2 x3 x4 h
theorem f_La_law_b1006_eq (G L : Nat) (xs : Nat → Int32) (k1469 : Nat → Nat → Nat → Int32 → pH → Option pR) (x1 : Nat) (x2 : Nat) (x3 : Nat) (x4 : Int32) (h : pH) : f_La_law_b1006 G L xs k1469 x1 x2 x3 x4 h = (k1469 x1 x2 x3 x4 h) := rfl
def f_La_law_b1086 (G L : Nat) (xs : Nat → Int32) (k1469 : Nat → Nat → Nat → Int32 → pH → Option pR) (x1 : Nat) (x2 : Nat) (x3 : Nat) (x4 : Int32) (h : pH) : Option pR := k1469 x1 x2 x3 x4 h
theorem f_La_law_b1086_eq (G L : Nat) (xs : Nat → Int32) (k1469 : Nat → Nat → Nat → Int32 → pH → Option pR) (x1 : Nat) (x2 : Nat) (x3 : Nat) (x4 : Int32) (h : pH) : f_La_law_b1086 G L xs k1469 x1 x2 x3 x4 h = (k1469 x1 x2 x3 x4 h) := rfl
def f_La_law_b1178 (G L : Nat) (xs : Nat → Int32) (k1469 : Nat → Nat → Nat → Int32 → pH → Option pR) (x1 : Nat) (x2 : Nat) (x3 : Nat) (x4 : Int32) (h : pH) : Option pR := k1469 x1 x2 x3 x4 h
theorem f_La_law_b1178_eq (G L : Nat) (xs : Nat → Int32) (k1469 : Nat → Nat → Nat → Int32 → pH → Option pR) (x1 : Nat) (x2 : Nat) (x3 : Nat) (x4 : Int32) (h : pH) : f_La_law_b1178 G L xs k1469 x1 x2 x3 x4 h = (k1469 x1 x2 x3 x4 h) := rfl
def f_La_law_b1246 (G L : Nat) (xs : Nat → Int32) (k1469 : Nat → Nat → Nat → Int32 → pH → Option pR) (x1 : Nat) (x2 : Nat) (x3 : Nat) (x4 : Int32) (h : pH) : Option pR := k1469 x1 x2 x3 x4 h
theorem f_La_law_b1246_eq (G L : Nat) (xs : Nat → Int32) (k1469 : Nat → Nat → Nat → Int32 → pH → Option pR) (x1 : Nat) (x2 : Nat) (x3 : Nat) (x4 : Int32) (h : pH) : f_La_law_b1246 G L xs k1469 x1 x2 x3 x4 h = (k1469 x1 x2 x3 x4 h) := rfl
def f_La_law_b1314 (G L : Nat) (xs : Nat → Int32) (k1469 : Nat → Nat → Nat → Int32 → pH → Option pR) (x1 : Nat) (x2 : Nat) (x3 : Nat) (x4 : Int32) (h : pH) : Option pR := k1469 x1 x2 x3 x4 h
theorem f_La_law_b1314_eq (G L : Nat) (xs : Nat → Int32) (k1469 : Nat → Nat → Nat → Int32 → pH → Option pR) (x1 : Nat) (x2 : Nat) (x3 : Nat) (x4 : Int32) (h : pH) : f_La_law_b1314 G L xs k1469 x1 x2 x3 x4 h = (k1469 x1 x2 x3 x4 h) := rfl
def f_La_law_b1382 (G L : Nat) (xs : Nat → Int32) (k1469 : Nat → Nat → Nat → Int32 → pH → Option pR) (x1 : Nat) (x2 : Nat) (x3 : Nat) (x4 : Int32) (h : pH) : Option pR := k1469 x1 x2 x3 x4 h
theorem f_La_law_b1382_eq (G L : Nat) (xs : Nat → Int32) (k1469 : Nat → Nat → Nat → Int32 → pH → Option pR) (x1 : Nat) (x2 : Nat) (x3 : Nat) (x4 : Int32) (h : pH) : f_La_law_b1382 G L xs k1469 x1 x2 x3 x4 h = (k1469 x1 x2 x3 x4 h) := rfl
def f_La_law_b1406 (G L : Nat) (xs : Nat → Int32) (k1469 : Nat → Nat → Nat → Int32 → pH → Option pR) (x1 : Nat) (x2 : Nat) (x3 : Nat) (x4 : Int32) (s0 : Nat) (s1 : Int32) (s2 : Int32) (h : pH) : Option pR := cI true (f_La_apply G s0 s1 s2 x3 h) fun v13 h10 => (scr L xs (x4 + (1 : Int32))).bind fun v14 => (scr L xs (x4 + (2 : Int32))).bind fun v15 => if v15 = 0 then ((f_La_law_b1433 G L xs k1469) x1 x2 x3 x4 v13 x2 v14 (0 : Int32) h10) else ((f_La_law_b1433 G L xs k1469) x1 x2 x3 x4 v13 x2 v14 (1 : Int32) h10)
theorem f_La_law_b1406_eq (G L : Nat) (xs : Nat → Int32) (k1469 : Nat → Nat → Nat → Int32 → pH → Option pR) (x1 : Nat) (x2 : Nat) (x3 : Nat) (x4 : Int32) (s0 : Nat) (s1 : Int32) (s2 : Int32) (h : pH) : f_La_law_b1406 G L xs k1469 x1 x2 x3 x4 s0 s1 s2 h = (cI true (f_La_apply G s0 s1 s2 x3 h) fun v13 h10 => (scr L xs (x4 + (1 : Int32))).bind fun v14 => (scr L xs (x4 + (2 : Int32))).bind fun v15 => if v15 = 0 then ((f_La_law_b1433 G L xs k1469) x1 x2 x3 x4 v13 x2 v14 (0 : Int32) h10) else ((f_La_law_b1433 G L xs k1469) x1 x2 x3 x4 v13 x2 v14 (1 : Int32) h10)) := rfl
def f_La_law_b124 (G L : Nat) (xs : Nat → Int32) (k1469 : Nat → Nat → Nat → Int32 → pH → Option pR) (x1 : Nat) (x2 : Nat) (x3 : Nat) (x4 : Int32) (h : pH) : Option pR := (scr L xs (x4 + (1 : Int32))).bind fun v16 => (scr L xs (x4 + (2 : Int32))).bind fun v17 => (scr L xs (x4 + (3 : Int32))).bind fun v18 => (scr L xs (x4 + (4 : Int32))).bind fun v19 => cI true (f_La_put G x1 v16 v17 v18 v19 x3 h) fun v23 h20 => (scr L xs (x4 + (1 : Int32))).bind fun v24 => (scr L xs (x4 + (2 : Int32))).bind fun v25 => (scr L xs (x4 + (3 : Int32))).bind fun v26 => (scr L xs (x4 + (4 : Int32))).bind fun v27 => cI (oC h20 x2 4) (f_Mo_put G x2 v24 v25 v26 v27 h20) fun v31 h28 => cI (oC h28 x2 4) (f_Mo_thrown G x2 h28) fun v35 h32 => if v35 = v23 then (if v23 = 0 then ((aJ h32 x3 (0 : Int32)).bind fun v36 => if (lg_cmp v36 (v31).toInt64) = 0 then ((f_La_law_b213 G L xs k1469) x1 x2 x3 x4 h32) else ((if isZ (0 : Int32) = true then some (some (.int (0 : Int32)), h32) else none))) else ((f_La_law_b213 G L xs k1469) x1 x2 x3 x4 h32)) else ((if isZ (0 : Int32) = true then some (some (.int (0 : Int32)), h32) else none))
theorem f_La_law_b124_eq (G L : Nat) (xs : Nat → Int32) (k1469 : Nat → Nat → Nat → Int32 → pH → Option pR) (x1 : Nat) (x2 : Nat) (x3 : Nat) (x4 : Int32) (h : pH) : f_La_law_b124 G L xs k1469 x1 x2 x3 x4 h = ((scr L xs (x4 + (1 : Int32))).bind fun v16 => (scr L xs (x4 + (2 : Int32))).bind fun v17 => (scr L xs (x4 + (3 : Int32))).bind fun v18 => (scr L xs (x4 + (4 : Int32))).bind fun v19 => cI true (f_La_put G x1 v16 v17 v18 v19 x3 h) fun v23 h20 => (scr L xs (x4 + (1 : Int32))).bind fun v24 => (scr L xs (x4 + (2 : Int32))).bind fun v25 => (scr L xs (x4 + (3 : Int32))).bind fun v26 => (scr L xs (x4 + (4 : Int32))).bind fun v27 => cI (oC h20 x2 4) (f_Mo_put G x2 v24 v25 v26 v27 h20) fun v31 h28 => cI (oC h28 x2 4) (f_Mo_thrown G x2 h28) fun v35 h32 => if v35 = v23 then (if v23 = 0 then ((aJ h32 x3 (0 : Int32)).bind fun v36 => if (lg_cmp v36 (v31).toInt64) = 0 then ((f_La_law_b213 G L xs k1469) x1 x2 x3 x4 h32) else ((if isZ (0 : Int32) = true then some (some (.int (0 : Int32)), h32) else none))) else ((f_La_law_b213 G L xs k1469) x1 x2 x3 x4 h32)) else ((if isZ (0 : Int32) = true then some (some (.int (0 : Int32)), h32) else none))) := rfl
def f_La_law_b216 (G L : Nat) (xs : Nat → Int32) (k1469 : Nat → Nat → Nat → Int32 → pH → Option pR) (x1 : Nat) (x2 : Nat) (x3 : Nat) (x4 : Int32) (h : pH) : Option pR := (scr L xs (x4 + (1 : Int32))).bind fun v37 => (scr L xs (x4 + (2 : Int32))).bind fun v38 => (scr L xs (x4 + (3 : Int32))).bind fun v39 => (scr L xs (x4 + (4 : Int32))).bind fun v40 => cI true (f_La_drop G x1 v37 v38 v39 v40 x3 h) fun v44 h41 => (scr L xs (x4 + (1 : Int32))).bind fun v45 => (scr L xs (x4 + (2 : Int32))).bind fun v46 => (scr L xs (x4 + (3 : Int32))).bind fun v47 => (scr L xs (x4 + (4 : Int32))).bind fun v48 => cI (oC h41 x2 4) (f_Mo_drop G x2 v45 v46 v47 v48 h41) fun v52 h49 => cI (oC h49 x2 4) (f_Mo_thrown G x2 h49) fun v56 h53 => if v56 = v44 then (if v44 = 0 then ((aJ h53 x3 (0 : Int32)).bind fun v57 => if (lg_cmp v57 (v52).toInt64) = 0 then ((f_La_law_b305 G L xs k1469) x1 x2 x3 x4 h53) else ((if isZ (0 : Int32) = true then some (some (.int (0 : Int32)), h53) else none))) else ((f_La_law_b305 G L xs k1469) x1 x2 x3 x4 h53)) else ((if isZ (0 : Int32) = true then some (some (.int (0 : Int32)), h53) else none))
theorem f_La_law_b216_eq (G L : Nat) (xs : Nat → Int32) (k1469 : Nat → Nat → Nat → Int32 → pH → Option pR) (x1 : Nat) (x2 : Nat) (x3 : Nat) (x4 : Int32) (h : pH) : f_La_law_b216 G L xs k1469 x1 x2 x3 x4 h = ((scr L xs (x4 + (1 : Int32))).bind fun v37 => (scr L xs (x4 + (2 : Int32))).bind fun v38 => (scr L xs (x4 + (3 : Int32))).bind fun v39 => (scr L xs (x4 + (4 : Int32))).bind fun v40 => cI true (f_La_drop G x1 v37 v38 v39 v40 x3 h) fun v44 h41 => (scr L xs (x4 + (1 : Int32))).bind fun v45 => (scr L xs (x4 + (2 : Int32))).bind fun v46 => (scr L xs (x4 + (3 : Int32))).bind fun v47 => (scr L xs (x4 + (4 : Int32))).bind fun v48 => cI (oC h41 x2 4) (f_Mo_drop G x2 v45 v46 v47 v48 h41) fun v52 h49 => cI (oC h49 x2 4) (f_Mo_thrown G x2 h49) fun v56 h53 => if v56 = v44 then (if v44 = 0 then ((aJ h53 x3 (0 : Int32)).bind fun v57 => if (lg_cmp v57 (v52).toInt64) = 0 then ((f_La_law_b305 G L xs k1469) x1 x2 x3 x4 h53) else ((if isZ (0 : Int32) = true then some (some (.int (0 : Int32)), h53) else none))) else ((f_La_law_b305 G L xs k1469) x1 x2 x3 x4 h53)) else ((if isZ (0 : Int32) = true then some (some (.int (0 : Int32)), h53) else none))) := rfl
def f_La_law_b308 (G L : Nat) (xs : Nat → Int32) (k1469 : Nat → Nat → Nat → Int32 → pH → Option pR) (x1 : Nat) (x2 : Nat) (x3 : Nat) (x4 : Int32) (h : pH) : Option pR := (scr L xs (x4 + (1 : Int32))).bind fun v58 => (scr L xs (x4 + (2 : Int32))).bind fun v59 => cI true (f_La_copy G x1 v58 v59 x3 h) fun v63 h60 => (scr L xs (x4 + (1 : Int32))).bind fun v64 => (scr L xs (x4 + (2 : Int32))).bind fun v65 => cI (oC h60 x2 4) (f_Mo_copy G x2 v64 v65 h60) fun v69 h66 => cI (oC h66 x2 4) (f_Mo_thrown G x2 h66) fun v73 h70 => if v73 = v63 then (if v63 = 0 then ((aJ h70 x3 (0 : Int32)).bind fun v74 => if (lg_cmp v74 (v69).toInt64) = 0 then ((f_La_law_b373 G L xs k1469) x1 x2 x3 x4 h70) else ((if isZ (0 : Int32) = true then some (some (.int (0 : Int32)), h70) else none))) else ((f_La_law_b373 G L xs k1469) x1 x2 x3 x4 h70)) else ((if isZ (0 : Int32) = true then some (some (.int (0 : Int32)), h70) else none))
theorem f_La_law_b308_eq (G L : Nat) (xs : Nat → Int32) (k1469 : Nat → Nat → Nat → Int32 → pH → Option pR) (x1 : Nat) (x2 : Nat) (x3 : Nat) (x4 : Int32) (h : pH) : f_La_law_b308 G L xs k1469 x1 x2 x3 x4 h = ((scr L xs (x4 + (1 : Int32))).bind fun v58 => (scr L xs (x4 + (2 : Int32))).bind fun v59 => cI true (f_La_copy G x1 v58 v59 x3 h) fun v63 h60 => (scr L xs (x4 + (1 : Int32))).bind fun v64 => (scr L xs (x4 + (2 : Int32))).bind fun v65 => cI (oC h60 x2 4) (f_Mo_copy G x2 v64 v65 h60) fun v69 h66 => cI (oC h66 x2 4) (f_Mo_thrown G x2 h66) fun v73 h70 => if v73 = v63 then (if v63 = 0 then ((aJ h70 x3 (0 : Int32)).bind fun v74 => if (lg_cmp v74 (v69).toInt64) = 0 then ((f_La_law_b373 G L xs k1469) x1 x2 x3 x4 h70) else ((if isZ (0 : Int32) = true then some (some (.int (0 : Int32)), h70) else none))) else ((f_La_law_b373 G L xs k1469) x1 x2 x3 x4 h70)) else ((if isZ (0 : Int32) = true then some (some (.int (0 : Int32)), h70) else none))) := rfl
def f_La_law_b376 (G L : Nat) (xs : Nat → Int32) (k1469 : Nat → Nat → Nat → Int32 → pH → Option pR) (x1 : Nat) (x2 : Nat) (x3 : Nat) (x4 : Int32) (h : pH) : Option pR := (scr L xs (x4 + (1 : Int32))).bind fun v75 => (scr L xs (x4 + (2 : Int32))).bind fun v76 => cI true (f_La_size G x1 v75 v76 x3 h) fun v80 h77 => (scr L xs (x4 + (1 : Int32))).bind fun v81 => (scr L xs (x4 + (2 : Int32))).bind fun v82 => cI (oC h77 x2 4) (f_Mo_size G x2 v81 v82 h77) fun v86 h83 => cI (oC h83 x2 4) (f_Mo_thrown G x2 h83) fun v90 h87 => if v90 = v80 then (if v80 = 0 then ((aJ h87 x3 (0 : Int32)).bind fun v91 => if (lg_cmp v91 (v86).toInt64) = 0 then ((f_La_law_b441 G L xs k1469) x1 x2 x3 x4 h87) else ((if isZ (0 : Int32) = true then some (some (.int (0 : Int32)), h87) else none))) else ((f_La_law_b441 G L xs k1469) x1 x2 x3 x4 h87)) else ((if isZ (0 : Int32) = true then some (some (.int (0 : Int32)), h87) else none))
theorem f_La_law_b376_eq (G L : Nat) (xs : Nat → Int32) (k1469 : Nat → Nat → Nat → Int32 → pH → Option pR) (x1 : Nat) (x2 : Nat) (x3 : Nat) (x4 : Int32) (h : pH) : f_La_law_b376 G L xs k1469 x1 x2 x3 x4 h = ((scr L xs (x4 + (1 : Int32))).bind fun v75 => (scr L xs (x4 + (2 : Int32))).bind fun v76 => cI true (f_La_size G x1 v75 v76 x3 h) fun v80 h77 => (scr L xs (x4 + (1 : Int32))).bind fun v81 => (scr L xs (x4 + (2 : Int32))).bind fun v82 => cI (oC h77 x2 4) (f_Mo_size G x2 v81 v82 h77) fun v86 h83 => cI (oC h83 x2 4) (f_Mo_thrown G x2 h83) fun v90 h87 => if v90 = v80 then (if v80 = 0 then ((aJ h87 x3 (0 : Int32)).bind fun v91 => if (lg_cmp v91 (v86).toInt64) = 0 then ((f_La_law_b441 G L xs k1469) x1 x2 x3 x4 h87) else ((if isZ (0 : Int32) = true then some (some (.int (0 : Int32)), h87) else none))) else ((f_La_law_b441 G L xs k1469) x1 x2 x3 x4 h87)) else ((if isZ (0 : Int32) = true then some (some (.int (0 : Int32)), h87) else none))) := rfl
def f_La_law_b444 (G L : Nat) (xs : Nat → Int32) (k1469 : Nat → Nat → Nat → Int32 → pH → Option pR) (x1 : Nat) (x2 : Nat) (x3 : Nat) (x4 : Int32) (h : pH) : Option pR := (scr L xs (x4 + (1 : Int32))).bind fun v92 => (scr L xs (x4 + (2 : Int32))).bind fun v93 => cI true (f_La_fact G x1 v92 v93 x3 h) fun v97 h94 => (scr L xs (x4 + (1 : Int32))).bind fun v98 => (scr L xs (x4 + (2 : Int32))).bind fun v99 => cI (oC h94 x2 4) (f_Mo_fact G x2 v98 v99 h94) fun v103 h100 => cI (oC h100 x2 4) (f_Mo_thrown G x2 h100) fun v107 h104 => if v107 = v97 then (if v97 = 0 then ((aJ h104 x3 (0 : Int32)).bind fun v108 => if (lg_cmp v108 (v103).toInt64) = 0 then ((f_La_law_b509 G L xs k1469) x1 x2 x3 x4 h104) else ((if isZ (0 : Int32) = true then some (some (.int (0 : Int32)), h104) else none))) else ((f_La_law_b509 G L xs k1469) x1 x2 x3 x4 h104)) else ((if isZ (0 : Int32) = true then some (some (.int (0 : Int32)), h104) else none))
theorem f_La_law_b444_eq (G L : Nat) (xs : Nat → Int32) (k1469 : Nat → Nat → Nat → Int32 → pH → Option pR) (x1 : Nat) (x2 : Nat) (x3 : Nat) (x4 : Int32) (h : pH) : f_La_law_b444 G L xs k1469 x1 x2 x3 x4 h = ((scr L xs (x4 + (1 : Int32))).bind fun v92 => (scr L xs (x4 + (2 : Int32))).bind fun v93 => cI true (f_La_fact G x1 v92 v93 x3 h) fun v97 h94 => (scr L xs (x4 + (1 : Int32))).bind fun v98 => (scr L xs (x4 + (2 : Int32))).bind fun v99 => cI (oC h94 x2 4) (f_Mo_fact G x2 v98 v99 h94) fun v103 h100 => cI (oC h100 x2 4) (f_Mo_thrown G x2 h100) fun v107 h104 => if v107 = v97 then (if v97 = 0 then ((aJ h104 x3 (0 : Int32)).bind fun v108 => if (lg_cmp v108 (v103).toInt64) = 0 then ((f_La_law_b509 G L xs k1469) x1 x2 x3 x4 h104) else ((if isZ (0 : Int32) = true then some (some (.int (0 : Int32)), h104) else none))) else ((f_La_law_b509 G L xs k1469) x1 x2 x3 x4 h104)) else ((if isZ (0 : Int32) = true then some (some (.int (0 : Int32)), h104) else none))) := rfl
def f_La_law_b512 (G L : Nat) (xs : Nat → Int32) (k1469 : Nat → Nat → Nat → Int32 → pH → Option pR) (x1 : Nat) (x2 : Nat) (x3 : Nat) (x4 : Int32) (h : pH) : Option pR := (scr L xs (x4 + (1 : Int32))).bind fun v109 => (scr L xs (x4 + (2 : Int32))).bind fun v110 => cI true (f_La_alike G x1 v109 v110 x3 h) fun v114 h111 => (scr L xs (x4 + (1 : Int32))).bind fun v115 => (scr L xs (x4 + (2 : Int32))).bind fun v116 => cI (oC h111 x2 4) (f_Mo_alike G x2 v115 v116 h111) fun v120 h117 => cI (oC h117 x2 4) (f_Mo_thrown G x2 h117) fun v124 h121 => if v124 = v114 then (if v114 = 0 then ((aJ h121 x3 (0 : Int32)).bind fun v125 => if v120 = 0 then ((f_La_law_b578 G L xs (f_La_law_b584 G L xs k1469)) x1 x2 x3 x4 v125 (0 : Int64) h121) else ((f_La_law_b578 G L xs (f_La_law_b584 G L xs k1469)) x1 x2 x3 x4 v125 (1 : Int64) h121)) else ((f_La_law_b584 G L xs k1469) x1 x2 x3 x4 h121)) else ((if isZ (0 : Int32) = true then some (some (.int (0 : Int32)), h121) else none))
theorem f_La_law_b512_eq (G L : Nat) (xs : Nat → Int32) (k1469 : Nat → Nat → Nat → Int32 → pH → Option pR) (x1 : Nat) (x2 : Nat) (x3 : Nat) (x4 : Int32) (h : pH) : f_La_law_b512 G L xs k1469 x1 x2 x3 x4 h = ((scr L xs (x4 + (1 : Int32))).bind fun v109 => (scr L xs (x4 + (2 : Int32))).bind fun v110 => cI true (f_La_alike G x1 v109 v110 x3 h) fun v114 h111 => (scr L xs (x4 + (1 : Int32))).bind fun v115 => (scr L xs (x4 + (2 : Int32))).bind fun v116 => cI (oC h111 x2 4) (f_Mo_alike G x2 v115 v116 h111) fun v120 h117 => cI (oC h117 x2 4) (f_Mo_thrown G x2 h117) fun v124 h121 => if v124 = v114 then (if v114 = 0 then ((aJ h121 x3 (0 : Int32)).bind fun v125 => if v120 = 0 then ((f_La_law_b578 G L xs (f_La_law_b584 G L xs k1469)) x1 x2 x3 x4 v125 (0 : Int64) h121) else ((f_La_law_b578 G L xs (f_La_law_b584 G L xs k1469)) x1 x2 x3 x4 v125 (1 : Int64) h121)) else ((f_La_law_b584 G L xs k1469) x1 x2 x3 x4 h121)) else ((if isZ (0 : Int32) = true then some (some (.int (0 : Int32)), h121) else none))) := rfl
def f_La_law_b587 (G L : Nat) (xs : Nat → Int32) (k1469 : Nat → Nat → Nat → Int32 → pH → Option pR) (x1 : Nat) (x2 : Nat) (x3 : Nat) (x4 : Int32) (h : pH) : Option pR := (scr L xs (x4 + (1 : Int32))).bind fun v126 => (scr L xs (x4 + (2 : Int32))).bind fun v127 => (scr L xs (x4 + (3 : Int32))).bind fun v128 => cI true (f_La_image G x1 v126 v127 v128 x3 h) fun v132 h129 => (scr L xs (x4 + (1 : Int32))).bind fun v133 => (scr L xs (x4 + (2 : Int32))).bind fun v134 => (scr L xs (x4 + (3 : Int32))).bind fun v135 => cI (oC h129 x2 4) (f_Mo_image G x2 v133 v134 v135 h129) fun v139 h136 => cI (oC h136 x2 4) (f_Mo_thrown G x2 h136) fun v143 h140 => if v143 = v132 then (if v132 = 0 then ((aJ h140 x3 (0 : Int32)).bind fun v144 => if (lg_cmp v144 (v139).toInt64) = 0 then ((f_La_law_b664 G L xs k1469) x1 x2 x3 x4 h140) else ((if isZ (0 : Int32) = true then some (some (.int (0 : Int32)), h140) else none))) else ((f_La_law_b664 G L xs k1469) x1 x2 x3 x4 h140)) else ((if isZ (0 : Int32) = true then some (some (.int (0 : Int32)), h140) else none))
theorem f_La_law_b587_eq (G L : Nat) (xs : Nat → Int32) (k1469 : Nat → Nat → Nat → Int32 → pH → Option pR) (x1 : Nat) (x2 : Nat) (x3 : Nat) (x4 : Int32) (h : pH) : f_La_law_b587 G L xs k1469 x1 x2 x3 x4 h = ((scr L xs (x4 + (1 : Int32))).bind fun v126 => (scr L xs (x4 + (2 : Int32))).bind fun v127 => (scr L xs (x4 + (3 : Int32))).bind fun v128 => cI true (f_La_image G x1 v126 v127 v128 x3 h) fun v132 h129 => (scr L xs (x4 + (1 : Int32))).bind fun v133 => (scr L xs (x4 + (2 : Int32))).bind fun v134 => (scr L xs (x4 + (3 : Int32))).bind fun v135 => cI (oC h129 x2 4) (f_Mo_image G x2 v133 v134 v135 h129) fun v139 h136 => cI (oC h136 x2 4) (f_Mo_thrown G x2 h136) fun v143 h140 => if v143 = v132 then (if v132 = 0 then ((aJ h140 x3 (0 : Int32)).bind fun v144 => if (lg_cmp v144 (v139).toInt64) = 0 then ((f_La_law_b664 G L xs k1469) x1 x2 x3 x4 h140) else ((if isZ (0 : Int32) = true then some (some (.int (0 : Int32)), h140) else none))) else ((f_La_law_b664 G L xs k1469) x1 x2 x3 x4 h140)) else ((if isZ (0 : Int32) = true then some (some (.int (0 : Int32)), h140) else none))) := rfl
def f_La_law_b667 (G L : Nat) (xs : Nat → Int32) (k1469 : Nat → Nat → Nat → Int32 → pH → Option pR) (x1 : Nat) (x2 : Nat) (x3 : Nat) (x4 : Int32) (h : pH) : Option pR := (scr L xs (x4 + (1 : Int32))).bind fun v145 => (scr L xs (x4 + (2 : Int32))).bind fun v146 => cI true (f_La_form G x1 v145 v146 x3 h) fun v150 h147 => (scr L xs (x4 + (1 : Int32))).bind fun v151 => (scr L xs (x4 + (2 : Int32))).bind fun v152 => cI (oC h147 x2 4) (f_Mo_form G x2 v151 v152 h147) fun v156 h153 => cI (oC h153 x2 4) (f_Mo_thrown G x2 h153) fun v160 h157 => if v160 = v150 then (if v150 = 0 then ((aJ h157 x3 (0 : Int32)).bind fun v161 => if (lg_cmp v161 (v156).toInt64) = 0 then ((f_La_law_b732 G L xs k1469) x1 x2 x3 x4 h157) else ((if isZ (0 : Int32) = true then some (some (.int (0 : Int32)), h157) else none))) else ((f_La_law_b732 G L xs k1469) x1 x2 x3 x4 h157)) else ((if isZ (0 : Int32) = true then some (some (.int (0 : Int32)), h157) else none))
theorem f_La_law_b667_eq (G L : Nat) (xs : Nat → Int32) (k1469 : Nat → Nat → Nat → Int32 → pH → Option pR) (x1 : Nat) (x2 : Nat) (x3 : Nat) (x4 : Int32) (h : pH) : f_La_law_b667 G L xs k1469 x1 x2 x3 x4 h = ((scr L xs (x4 + (1 : Int32))).bind fun v145 => (scr L xs (x4 + (2 : Int32))).bind fun v146 => cI true (f_La_form G x1 v145 v146 x3 h) fun v150 h147 => (scr L xs (x4 + (1 : Int32))).bind fun v151 => (scr L xs (x4 + (2 : Int32))).bind fun v152 => cI (oC h147 x2 4) (f_Mo_form G x2 v151 v152 h147) fun v156 h153 => cI (oC h153 x2 4) (f_Mo_thrown G x2 h153) fun v160 h157 => if v160 = v150 then (if v150 = 0 then ((aJ h157 x3 (0 : Int32)).bind fun v161 => if (lg_cmp v161 (v156).toInt64) = 0 then ((f_La_law_b732 G L xs k1469) x1 x2 x3 x4 h157) else ((if isZ (0 : Int32) = true then some (some (.int (0 : Int32)), h157) else none))) else ((f_La_law_b732 G L xs k1469) x1 x2 x3 x4 h157)) else ((if isZ (0 : Int32) = true then some (some (.int (0 : Int32)), h157) else none))) := rfl
def f_La_law_b735 (G L : Nat) (xs : Nat → Int32) (k1469 : Nat → Nat → Nat → Int32 → pH → Option pR) (x1 : Nat) (x2 : Nat) (x3 : Nat) (x4 : Int32) (h : pH) : Option pR := (scr L xs (x4 + (1 : Int32))).bind fun v162 => (scr L xs (x4 + (2 : Int32))).bind fun v163 => cI true (f_La_follows G x1 v162 v163 x3 h) fun v167 h164 => (scr L xs (x4 + (1 : Int32))).bind fun v168 => (scr L xs (x4 + (2 : Int32))).bind fun v169 => cI (oC h164 x2 4) (f_Mo_follows G x2 v168 v169 h164) fun v173 h170 => cI (oC h170 x2 4) (f_Mo_thrown G x2 h170) fun v177 h174 => if v177 = v167 then (if v167 = 0 then ((aJ h174 x3 (0 : Int32)).bind fun v178 => if v173 = 0 then ((f_La_law_b801 G L xs (f_La_law_b807 G L xs k1469)) x1 x2 x3 x4 v178 (0 : Int64) h174) else ((f_La_law_b801 G L xs (f_La_law_b807 G L xs k1469)) x1 x2 x3 x4 v178 (1 : Int64) h174)) else ((f_La_law_b807 G L xs k1469) x1 x2 x3 x4 h174)) else ((if isZ (0 : Int32) = true then some (some (.int (0 : Int32)), h174) else none))
theorem f_La_law_b735_eq (G L : Nat) (xs : Nat → Int32) (k1469 : Nat → Nat → Nat → Int32 → pH → Option pR) (x1 : Nat) (x2 : Nat) (x3 : Nat) (x4 : Int32) (h : pH) : f_La_law_b735 G L xs k1469 x1 x2 x3 x4 h = ((scr L xs (x4 + (1 : Int32))).bind fun v162 => (scr L xs (x4 + (2 : Int32))).bind fun v163 => cI true (f_La_follows G x1 v162 v163 x3 h) fun v167 h164 => (scr L xs (x4 + (1 : Int32))).bind fun v168 => (scr L xs (x4 + (2 : Int32))).bind fun v169 => cI (oC h164 x2 4) (f_Mo_follows G x2 v168 v169 h164) fun v173 h170 => cI (oC h170 x2 4) (f_Mo_thrown G x2 h170) fun v177 h174 => if v177 = v167 then (if v167 = 0 then ((aJ h174 x3 (0 : Int32)).bind fun v178 => if v173 = 0 then ((f_La_law_b801 G L xs (f_La_law_b807 G L xs k1469)) x1 x2 x3 x4 v178 (0 : Int64) h174) else ((f_La_law_b801 G L xs (f_La_law_b807 G L xs k1469)) x1 x2 x3 x4 v178 (1 : Int64) h174)) else ((f_La_law_b807 G L xs k1469) x1 x2 x3 x4 h174)) else ((if isZ (0 : Int32) = true then some (some (.int (0 : Int32)), h174) else none))) := rfl
def f_La_law_b810 (G L : Nat) (xs : Nat → Int32) (k1469 : Nat → Nat → Nat → Int32 → pH → Option pR) (x1 : Nat) (x2 : Nat) (x3 : Nat) (x4 : Int32) (h : pH) : Option pR := (scr L xs (x4 + (1 : Int32))).bind fun v179 => (scr L xs (x4 + (2 : Int32))).bind fun v180 => (scr L xs (x4 + (3 : Int32))).bind fun v181 => cI true (f_La_putting G x1 v179 v180 v181 x3 h) fun v185 h182 => (scr L xs (x4 + (1 : Int32))).bind fun v186 => (scr L xs (x4 + (2 : Int32))).bind fun v187 => (scr L xs (x4 + (3 : Int32))).bind fun v188 => cI (oC h182 x2 4) (f_Mo_putting G x2 v186 v187 v188 h182) fun v192 h189 => cI (oC h189 x2 4) (f_Mo_thrown G x2 h189) fun v196 h193 => if v196 = v185 then (if v185 = 0 then ((aJ h193 x3 (0 : Int32)).bind fun v197 => if (lg_cmp v197 (v192).toInt64) = 0 then ((f_La_law_b887 G L xs k1469) x1 x2 x3 x4 h193) else ((if isZ (0 : Int32) = true then some (some (.int (0 : Int32)), h193) else none))) else ((f_La_law_b887 G L xs k1469) x1 x2 x3 x4 h193)) else ((if isZ (0 : Int32) = true then some (some (.int (0 : Int32)), h193) else none))
theorem f_La_law_b810_eq (G L : Nat) (xs : Nat → Int32) (k1469 : Nat → Nat → Nat → Int32 → pH → Option pR) (x1 : Nat) (x2 : Nat) (x3 : Nat) (x4 : Int32) (h : pH) : f_La_law_b810 G L xs k1469 x1 x2 x3 x4 h = ((scr L xs (x4 + (1 : Int32))).bind fun v179 => (scr L xs (x4 + (2 : Int32))).bind fun v180 => (scr L xs (x4 + (3 : Int32))).bind fun v181 => cI true (f_La_putting G x1 v179 v180 v181 x3 h) fun v185 h182 => (scr L xs (x4 + (1 : Int32))).bind fun v186 => (scr L xs (x4 + (2 : Int32))).bind fun v187 => (scr L xs (x4 + (3 : Int32))).bind fun v188 => cI (oC h182 x2 4) (f_Mo_putting G x2 v186 v187 v188 h182) fun v192 h189 => cI (oC h189 x2 4) (f_Mo_thrown G x2 h189) fun v196 h193 => if v196 = v185 then (if v185 = 0 then ((aJ h193 x3 (0 : Int32)).bind fun v197 => if (lg_cmp v197 (v192).toInt64) = 0 then ((f_La_law_b887 G L xs k1469) x1 x2 x3 x4 h193) else ((if isZ (0 : Int32) = true then some (some (.int (0 : Int32)), h193) else none))) else ((f_La_law_b887 G L xs k1469) x1 x2 x3 x4 h193)) else ((if isZ (0 : Int32) = true then some (some (.int (0 : Int32)), h193) else none))) := rfl
def f_La_law_b890 (G L : Nat) (xs : Nat → Int32) (k1469 : Nat → Nat → Nat → Int32 → pH → Option pR) (x1 : Nat) (x2 : Nat) (x3 : Nat) (x4 : Int32) (h : pH) : Option pR := (scr L xs (x4 + (1 : Int32))).bind fun v198 => cI true (f_La_lean G x1 v198 x3 h) fun v202 h199 => (scr L xs (x4 + (1 : Int32))).bind fun v203 => cI (oC h199 x2 4) (f_Mo_lean G x2 v203 h199) fun v207 h204 => cI (oC h204 x2 4) (f_Mo_thrown G x2 h204) fun v211 h208 => if v211 = v202 then (if v202 = 0 then ((aJ h208 x3 (0 : Int32)).bind fun v212 => if v207 = 0 then ((f_La_law_b944 G L xs (f_La_law_b950 G L xs k1469)) x1 x2 x3 x4 v212 (0 : Int64) h208) else ((f_La_law_b944 G L xs (f_La_law_b950 G L xs k1469)) x1 x2 x3 x4 v212 (1 : Int64) h208)) else ((f_La_law_b950 G L xs k1469) x1 x2 x3 x4 h208)) else ((if isZ (0 : Int32) = true then some (some (.int (0 : Int32)), h208) else none))
theorem f_La_law_b890_eq (G L : Nat) (xs : Nat → Int32) (k1469 : Nat → Nat → Nat → Int32 → pH → Option pR) (x1 : Nat) (x2 : Nat) (x3 : Nat) (x4 : Int32) (h : pH) : f_La_law_b890 G L xs k1469 x1 x2 x3 x4 h = ((scr L xs (x4 + (1 : Int32))).bind fun v198 => cI true (f_La_lean G x1 v198 x3 h) fun v202 h199 => (scr L xs (x4 + (1 : Int32))).bind fun v203 => cI (oC h199 x2 4) (f_Mo_lean G x2 v203 h199) fun v207 h204 => cI (oC h204 x2 4) (f_Mo_thrown G x2 h204) fun v211 h208 => if v211 = v202 then (if v202 = 0 then ((aJ h208 x3 (0 : Int32)).bind fun v212 => if v207 = 0 then ((f_La_law_b944 G L xs (f_La_law_b950 G L xs k1469)) x1 x2 x3 x4 v212 (0 : Int64) h208) else ((f_La_law_b944 G L xs (f_La_law_b950 G L xs k1469)) x1 x2 x3 x4 v212 (1 : Int64) h208)) else ((f_La_law_b950 G L xs k1469) x1 x2 x3 x4 h208)) else ((if isZ (0 : Int32) = true then some (some (.int (0 : Int32)), h208) else none))) := rfl
def f_La_law_b953 (G L : Nat) (xs : Nat → Int32) (k1469 : Nat → Nat → Nat → Int32 → pH → Option pR) (x1 : Nat) (x2 : Nat) (x3 : Nat) (x4 : Int32) (h : pH) : Option pR := (scr L xs (x4 + (1 : Int32))).bind fun v213 => cI true (f_La_core G x1 v213 x3 h) fun v217 h214 => (scr L xs (x4 + (1 : Int32))).bind fun v218 => cI (oC h214 x2 4) (f_Mo_core G x2 v218 h214) fun v222 h219 => cI (oC h219 x2 4) (f_Mo_thrown G x2 h219) fun v226 h223 => if v226 = v217 then (if v217 = 0 then ((aJ h223 x3 (0 : Int32)).bind fun v227 => if (lg_cmp v227 (v222).toInt64) = 0 then ((f_La_law_b1006 G L xs k1469) x1 x2 x3 x4 h223) else ((if isZ (0 : Int32) = true then some (some (.int (0 : Int32)), h223) else none))) else ((f_La_law_b1006 G L xs k1469) x1 x2 x3 x4 h223)) else ((if isZ (0 : Int32) = true then some (some (.int (0 : Int32)), h223) else none))
theorem f_La_law_b953_eq (G L : Nat) (xs : Nat → Int32) (k1469 : Nat → Nat → Nat → Int32 → pH → Option pR) (x1 : Nat) (x2 : Nat) (x3 : Nat) (x4 : Int32) (h : pH) : f_La_law_b953 G L xs k1469 x1 x2 x3 x4 h = ((scr L xs (x4 + (1 : Int32))).bind fun v213 => cI true (f_La_core G x1 v213 x3 h) fun v217 h214 => (scr L xs (x4 + (1 : Int32))).bind fun v218 => cI (oC h214 x2 4) (f_Mo_core G x2 v218 h214) fun v222 h219 => cI (oC h219 x2 4) (f_Mo_thrown G x2 h219) fun v226 h223 => if v226 = v217 then (if v217 = 0 then ((aJ h223 x3 (0 : Int32)).bind fun v227 => if (lg_cmp v227 (v222).toInt64) = 0 then ((f_La_law_b1006 G L xs k1469) x1 x2 x3 x4 h223) else ((if isZ (0 : Int32) = true then some (some (.int (0 : Int32)), h223) else none))) else ((f_La_law_b1006 G L xs k1469) x1 x2 x3 x4 h223)) else ((if isZ (0 : Int32) = true then some (some (.int (0 : Int32)), h223) else none))) := rfl
def f_La_law_b1009 (G L : Nat) (xs : Nat → Int32) (k1469 : Nat → Nat → Nat → Int32 → pH → Option pR) (x1 : Nat) (x2 : Nat) (x3 : Nat) (x4 : Int32) (h : pH) : Option pR := (scr L xs (x4 + (1 : Int32))).bind fun v228 => (scr L xs (x4 + (2 : Int32))).bind fun v229 => (scr L xs (x4 + (3 : Int32))).bind fun v230 => cI true (f_La_join G x1 v228 v229 v230 x3 h) fun v234 h231 => (scr L xs (x4 + (1 : Int32))).bind fun v235 => (scr L xs (x4 + (2 : Int32))).bind fun v236 => (scr L xs (x4 + (3 : Int32))).bind fun v237 => cI (oC h231 x2 4) (f_Mo_join G x2 v235 v236 v237 h231) fun v241 h238 => cI (oC h238 x2 4) (f_Mo_thrown G x2 h238) fun v245 h242 => if v245 = v234 then (if v234 = 0 then ((aJ h242 x3 (0 : Int32)).bind fun v246 => if (lg_cmp v246 (v241).toInt64) = 0 then ((f_La_law_b1086 G L xs k1469) x1 x2 x3 x4 h242) else ((if isZ (0 : Int32) = true then some (some (.int (0 : Int32)), h242) else none))) else ((f_La_law_b1086 G L xs k1469) x1 x2 x3 x4 h242)) else ((if isZ (0 : Int32) = true then some (some (.int (0 : Int32)), h242) else none))
theorem f_La_law_b1009_eq (G L : Nat) (xs : Nat → Int32) (k1469 : Nat → Nat → Nat → Int32 → pH → Option pR) (x1 : Nat) (x2 : Nat) (x3 : Nat) (x4 : Int32) (h : pH) : f_La_law_b1009 G L xs k1469 x1 x2 x3 x4 h = ((scr L xs (x4 + (1 : Int32))).bind fun v228 => (scr L xs (x4 + (2 : Int32))).bind fun v229 => (scr L xs (x4 + (3 : Int32))).bind fun v230 => cI true (f_La_join G x1 v228 v229 v230 x3 h) fun v234 h231 => (scr L xs (x4 + (1 : Int32))).bind fun v235 => (scr L xs (x4 + (2 : Int32))).bind fun v236 => (scr L xs (x4 + (3 : Int32))).bind fun v237 => cI (oC h231 x2 4) (f_Mo_join G x2 v235 v236 v237 h231) fun v241 h238 => cI (oC h238 x2 4) (f_Mo_thrown G x2 h238) fun v245 h242 => if v245 = v234 then (if v234 = 0 then ((aJ h242 x3 (0 : Int32)).bind fun v246 => if (lg_cmp v246 (v241).toInt64) = 0 then ((f_La_law_b1086 G L xs k1469) x1 x2 x3 x4 h242) else ((if isZ (0 : Int32) = true then some (some (.int (0 : Int32)), h242) else none))) else ((f_La_law_b1086 G L xs k1469) x1 x2 x3 x4 h242)) else ((if isZ (0 : Int32) = true then some (some (.int (0 : Int32)), h242) else none))) := rfl
def f_La_law_b1089 (G L : Nat) (xs : Nat → Int32) (k1469 : Nat → Nat → Nat → Int32 → pH → Option pR) (x1 : Nat) (x2 : Nat) (x3 : Nat) (x4 : Int32) (h : pH) : Option pR := (scr L xs (x4 + (1 : Int32))).bind fun v247 => (scr L xs (x4 + (2 : Int32))).bind fun v248 => (scr L xs (x4 + (3 : Int32))).bind fun v249 => (scr L xs (x4 + (4 : Int32))).bind fun v250 => cI true (f_La_merge G x1 v247 v248 v249 v250 x3 h) fun v254 h251 => (scr L xs (x4 + (1 : Int32))).bind fun v255 => (scr L xs (x4 + (2 : Int32))).bind fun v256 => (scr L xs (x4 + (3 : Int32))).bind fun v257 => (scr L xs (x4 + (4 : Int32))).bind fun v258 => cI (oC h251 x2 4) (f_Mo_merge G x2 v255 v256 v257 v258 h251) fun v262 h259 => cI (oC h259 x2 4) (f_Mo_thrown G x2 h259) fun v266 h263 => if v266 = v254 then (if v254 = 0 then ((aJ h263 x3 (0 : Int32)).bind fun v267 => if (lg_cmp v267 (v262).toInt64) = 0 then ((f_La_law_b1178 G L xs k1469) x1 x2 x3 x4 h263) else ((if isZ (0 : Int32) = true then some (some (.int (0 : Int32)), h263) else none))) else ((f_La_law_b1178 G L xs k1469) x1 x2 x3 x4 h263)) else ((if isZ (0 : Int32) = true then some (some (.int (0 : Int32)), h263) else none))
theorem f_La_law_b1089_eq (G L : Nat) (xs : Nat → Int32) (k1469 : Nat → Nat → Nat → Int32 → pH → Option pR) (x1 : Nat) (x2 : Nat) (x3 : Nat) (x4 : Int32) (h : pH) : f_La_law_b1089 G L xs k1469 x1 x2 x3 x4 h = ((scr L xs (x4 + (1 : Int32))).bind fun v247 => (scr L xs (x4 + (2 : Int32))).bind fun v248 => (scr L xs (x4 + (3 : Int32))).bind fun v249 => (scr L xs (x4 + (4 : Int32))).bind fun v250 => cI true (f_La_merge G x1 v247 v248 v249 v250 x3 h) fun v254 h251 => (scr L xs (x4 + (1 : Int32))).bind fun v255 => (scr L xs (x4 + (2 : Int32))).bind fun v256 => (scr L xs (x4 + (3 : Int32))).bind fun v257 => (scr L xs (x4 + (4 : Int32))).bind fun v258 => cI (oC h251 x2 4) (f_Mo_merge G x2 v255 v256 v257 v258 h251) fun v262 h259 => cI (oC h259 x2 4) (f_Mo_thrown G x2 h259) fun v266 h263 => if v266 = v254 then (if v254 = 0 then ((aJ h263 x3 (0 : Int32)).bind fun v267 => if (lg_cmp v267 (v262).toInt64) = 0 then ((f_La_law_b1178 G L xs k1469) x1 x2 x3 x4 h263) else ((if isZ (0 : Int32) = true then some (some (.int (0 : Int32)), h263) else none))) else ((f_La_law_b1178 G L xs k1469) x1 x2 x3 x4 h263)) else ((if isZ (0 : Int32) = true then some (some (.int (0 : Int32)), h263) else none))) := rfl
def f_La_law_b1181 (G L : Nat) (xs : Nat → Int32) (k1469 : Nat → Nat → Nat → Int32 → pH → Option pR) (x1 : Nat) (x2 : Nat) (x3 : Nat) (x4 : Int32) (h : pH) : Option pR := (scr L xs (x4 + (1 : Int32))).bind fun v268 => (scr L xs (x4 + (2 : Int32))).bind fun v269 => cI true (f_La_clash G x1 v268 v269 x3 h) fun v273 h270 => (scr L xs (x4 + (1 : Int32))).bind fun v274 => (scr L xs (x4 + (2 : Int32))).bind fun v275 => cI (oC h270 x2 4) (f_Mo_clash G x2 v274 v275 h270) fun v279 h276 => cI (oC h276 x2 4) (f_Mo_thrown G x2 h276) fun v283 h280 => if v283 = v273 then (if v273 = 0 then ((aJ h280 x3 (0 : Int32)).bind fun v284 => if (lg_cmp v284 (v279).toInt64) = 0 then ((f_La_law_b1246 G L xs k1469) x1 x2 x3 x4 h280) else ((if isZ (0 : Int32) = true then some (some (.int (0 : Int32)), h280) else none))) else ((f_La_law_b1246 G L xs k1469) x1 x2 x3 x4 h280)) else ((if isZ (0 : Int32) = true then some (some (.int (0 : Int32)), h280) else none))
theorem f_La_law_b1181_eq (G L : Nat) (xs : Nat → Int32) (k1469 : Nat → Nat → Nat → Int32 → pH → Option pR) (x1 : Nat) (x2 : Nat) (x3 : Nat) (x4 : Int32) (h : pH) : f_La_law_b1181 G L xs k1469 x1 x2 x3 x4 h = ((scr L xs (x4 + (1 : Int32))).bind fun v268 => (scr L xs (x4 + (2 : Int32))).bind fun v269 => cI true (f_La_clash G x1 v268 v269 x3 h) fun v273 h270 => (scr L xs (x4 + (1 : Int32))).bind fun v274 => (scr L xs (x4 + (2 : Int32))).bind fun v275 => cI (oC h270 x2 4) (f_Mo_clash G x2 v274 v275 h270) fun v279 h276 => cI (oC h276 x2 4) (f_Mo_thrown G x2 h276) fun v283 h280 => if v283 = v273 then (if v273 = 0 then ((aJ h280 x3 (0 : Int32)).bind fun v284 => if (lg_cmp v284 (v279).toInt64) = 0 then ((f_La_law_b1246 G L xs k1469) x1 x2 x3 x4 h280) else ((if isZ (0 : Int32) = true then some (some (.int (0 : Int32)), h280) else none))) else ((f_La_law_b1246 G L xs k1469) x1 x2 x3 x4 h280)) else ((if isZ (0 : Int32) = true then some (some (.int (0 : Int32)), h280) else none))) := rfl
def f_La_law_b1249 (G L : Nat) (xs : Nat → Int32) (k1469 : Nat → Nat → Nat → Int32 → pH → Option pR) (x1 : Nat) (x2 : Nat) (x3 : Nat) (x4 : Int32) (h : pH) : Option pR := (scr L xs (x4 + (1 : Int32))).bind fun v285 => (scr L xs (x4 + (2 : Int32))).bind fun v286 => cI true (f_La_change G x1 v285 v286 x3 h) fun v290 h287 => (scr L xs (x4 + (1 : Int32))).bind fun v291 => (scr L xs (x4 + (2 : Int32))).bind fun v292 => cI (oC h287 x2 4) (f_Mo_change G x2 v291 v292 h287) fun v296 h293 => cI (oC h293 x2 4) (f_Mo_thrown G x2 h293) fun v300 h297 => if v300 = v290 then (if v290 = 0 then ((aJ h297 x3 (0 : Int32)).bind fun v301 => if (lg_cmp v301 (v296).toInt64) = 0 then ((f_La_law_b1314 G L xs k1469) x1 x2 x3 x4 h297) else ((if isZ (0 : Int32) = true then some (some (.int (0 : Int32)), h297) else none))) else ((f_La_law_b1314 G L xs k1469) x1 x2 x3 x4 h297)) else ((if isZ (0 : Int32) = true then some (some (.int (0 : Int32)), h297) else none))
theorem f_La_law_b1249_eq (G L : Nat) (xs : Nat → Int32) (k1469 : Nat → Nat → Nat → Int32 → pH → Option pR) (x1 : Nat) (x2 : Nat) (x3 : Nat) (x4 : Int32) (h : pH) : f_La_law_b1249 G L xs k1469 x1 x2 x3 x4 h = ((scr L xs (x4 + (1 : Int32))).bind fun v285 => (scr L xs (x4 + (2 : Int32))).bind fun v286 => cI true (f_La_change G x1 v285 v286 x3 h) fun v290 h287 => (scr L xs (x4 + (1 : Int32))).bind fun v291 => (scr L xs (x4 + (2 : Int32))).bind fun v292 => cI (oC h287 x2 4) (f_Mo_change G x2 v291 v292 h287) fun v296 h293 => cI (oC h293 x2 4) (f_Mo_thrown G x2 h293) fun v300 h297 => if v300 = v290 then (if v290 = 0 then ((aJ h297 x3 (0 : Int32)).bind fun v301 => if (lg_cmp v301 (v296).toInt64) = 0 then ((f_La_law_b1314 G L xs k1469) x1 x2 x3 x4 h297) else ((if isZ (0 : Int32) = true then some (some (.int (0 : Int32)), h297) else none))) else ((f_La_law_b1314 G L xs k1469) x1 x2 x3 x4 h297)) else ((if isZ (0 : Int32) = true then some (some (.int (0 : Int32)), h297) else none))) := rfl
def f_La_law_b1317 (G L : Nat) (xs : Nat → Int32) (k1469 : Nat → Nat → Nat → Int32 → pH → Option pR) (x1 : Nat) (x2 : Nat) (x3 : Nat) (x4 : Int32) (h : pH) : Option pR := (scr L xs (x4 + (1 : Int32))).bind fun v302 => (scr L xs (x4 + (2 : Int32))).bind fun v303 => cI true (f_La_part G x1 v302 v303 x3 h) fun v307 h304 => (scr L xs (x4 + (1 : Int32))).bind fun v308 => (scr L xs (x4 + (2 : Int32))).bind fun v309 => cI (oC h304 x2 4) (f_Mo_part G x2 v308 v309 h304) fun v313 h310 => cI (oC h310 x2 4) (f_Mo_thrown G x2 h310) fun v317 h314 => if v317 = v307 then (if v307 = 0 then ((aJ h314 x3 (0 : Int32)).bind fun v318 => if (lg_cmp v318 (v313).toInt64) = 0 then ((f_La_law_b1382 G L xs k1469) x1 x2 x3 x4 h314) else ((if isZ (0 : Int32) = true then some (some (.int (0 : Int32)), h314) else none))) else ((f_La_law_b1382 G L xs k1469) x1 x2 x3 x4 h314)) else ((if isZ (0 : Int32) = true then some (some (.int (0 : Int32)), h314) else none))
theorem f_La_law_b1317_eq (G L : Nat) (xs : Nat → Int32) (k1469 : Nat → Nat → Nat → Int32 → pH → Option pR) (x1 : Nat) (x2 : Nat) (x3 : Nat) (x4 : Int32) (h : pH) : f_La_law_b1317 G L xs k1469 x1 x2 x3 x4 h = ((scr L xs (x4 + (1 : Int32))).bind fun v302 => (scr L xs (x4 + (2 : Int32))).bind fun v303 => cI true (f_La_part G x1 v302 v303 x3 h) fun v307 h304 => (scr L xs (x4 + (1 : Int32))).bind fun v308 => (scr L xs (x4 + (2 : Int32))).bind fun v309 => cI (oC h304 x2 4) (f_Mo_part G x2 v308 v309 h304) fun v313 h310 => cI (oC h310 x2 4) (f_Mo_thrown G x2 h310) fun v317 h314 => if v317 = v307 then (if v307 = 0 then ((aJ h314 x3 (0 : Int32)).bind fun v318 => if (lg_cmp v318 (v313).toInt64) = 0 then ((f_La_law_b1382 G L xs k1469) x1 x2 x3 x4 h314) else ((if isZ (0 : Int32) = true then some (some (.int (0 : Int32)), h314) else none))) else ((f_La_law_b1382 G L xs k1469) x1 x2 x3 x4 h314)) else ((if isZ (0 : Int32) = true then some (some (.int (0 : Int32)), h314) else none))) := rfl
def f_La_law_b1385 (G L : Nat) (xs : Nat → Int32) (k1469 : Nat → Nat → Nat → Int32 → pH → Option pR) (x1 : Nat) (x2 : Nat) (x3 : Nat) (x4 : Int32) (h : pH) : Option pR := (scr L xs (x4 + (1 : Int32))).bind fun v319 => (scr L xs (x4 + (2 : Int32))).bind fun v320 => if v320 = 0 then ((f_La_law_b1406 G L xs k1469) x1 x2 x3 x4 x1 v319 (0 : Int32) h) else ((f_La_law_b1406 G L xs k1469) x1 x2 x3 x4 x1 v319 (1 : Int32) h)
theorem f_La_law_b1385_eq (G L : Nat) (xs : Nat → Int32) (k1469 : Nat → Nat → Nat → Int32 → pH → Option pR) (x1 : Nat) (x2 : Nat) (x3 : Nat) (x4 : Int32) (h : pH) : f_La_law_b1385 G L xs k1469 x1 x2 x3 x4 h = ((scr L xs (x4 + (1 : Int32))).bind fun v319 => (scr L xs (x4 + (2 : Int32))).bind fun v320 => if v320 = 0 then ((f_La_law_b1406 G L xs k1469) x1 x2 x3 x4 x1 v319 (0 : Int32) h) else ((f_La_law_b1406 G L xs k1469) x1 x2 x3 x4 x1 v319 (1 : Int32) h)) := rfl
def f_La_law_b1469 (G L : Nat) (xs : Nat → Int32) (k23 : Nat → Nat → Nat → Int32 → pH → Option pR) (x1 : Nat) (x2 : Nat) (x3 : Nat) (x4 : Int32) (h : pH) : Option pR := k23 x1 x2 x3 (x4 + 5) h
theorem f_La_law_b1469_eq (G L : Nat) (xs : Nat → Int32) (k23 : Nat → Nat → Nat → Int32 → pH → Option pR) (x1 : Nat) (x2 : Nat) (x3 : Nat) (x4 : Int32) (h : pH) : f_La_law_b1469 G L xs k23 x1 x2 x3 x4 h = (k23 x1 x2 x3 (x4 + 5) h) := rfl
def f_La_law_b23 (G L : Nat) (xs : Nat → Int32) : Nat → Nat → Nat → Nat → Int32 → pH → Option pR
  | 0 => fun _ _ _ _ _ => none
  | F + 1 => fun x1 x2 x3 x4 h => if ((Int32.ofNat L) - (5 : Int32)) < x4 then ((if isZ (1 : Int32) = true then some (some (.int (1 : Int32)), h) else none)) else ((scr L xs x4).bind fun v321 => if (v321 &&& (31 : Int32)) = 0 then ((f_La_law_b124 G L xs (f_La_law_b1469 G L xs (f_La_law_b23 G L xs F))) x1 x2 x3 x4 h) else if (v321 &&& (31 : Int32)) = 1 then ((f_La_law_b216 G L xs (f_La_law_b1469 G L xs (f_La_law_b23 G L xs F))) x1 x2 x3 x4 h) else if (v321 &&& (31 : Int32)) = 2 then ((f_La_law_b308 G L xs (f_La_law_b1469 G L xs (f_La_law_b23 G L xs F))) x1 x2 x3 x4 h) else if (v321 &&& (31 : Int32)) = 3 then ((f_La_law_b376 G L xs (f_La_law_b1469 G L xs (f_La_law_b23 G L xs F))) x1 x2 x3 x4 h) else if (v321 &&& (31 : Int32)) = 4 then ((f_La_law_b444 G L xs (f_La_law_b1469 G L xs (f_La_law_b23 G L xs F))) x1 x2 x3 x4 h) else if (v321 &&& (31 : Int32)) = 5 then ((f_La_law_b512 G L xs (f_La_law_b1469 G L xs (f_La_law_b23 G L xs F))) x1 x2 x3 x4 h) else if (v321 &&& (31 : Int32)) = 6 then ((f_La_law_b587 G L xs (f_La_law_b1469 G L xs (f_La_law_b23 G L xs F))) x1 x2 x3 x4 h) else if (v321 &&& (31 : Int32)) = 7 then ((f_La_law_b667 G L xs (f_La_law_b1469 G L xs (f_La_law_b23 G L xs F))) x1 x2 x3 x4 h) else if (v321 &&& (31 : Int32)) = 8 then ((f_La_law_b735 G L xs (f_La_law_b1469 G L xs (f_La_law_b23 G L xs F))) x1 x2 x3 x4 h) else if (v321 &&& (31 : Int32)) = 9 then ((f_La_law_b810 G L xs (f_La_law_b1469 G L xs (f_La_law_b23 G L xs F))) x1 x2 x3 x4 h) else if (v321 &&& (31 : Int32)) = 10 then ((f_La_law_b890 G L xs (f_La_law_b1469 G L xs (f_La_law_b23 G L xs F))) x1 x2 x3 x4 h) else if (v321 &&& (31 : Int32)) = 11 then ((f_La_law_b953 G L xs (f_La_law_b1469 G L xs (f_La_law_b23 G L xs F))) x1 x2 x3 x4 h) else if (v321 &&& (31 : Int32)) = 12 then ((f_La_law_b1009 G L xs (f_La_law_b1469 G L xs (f_La_law_b23 G L xs F))) x1 x2 x3 x4 h) else if (v321 &&& (31 : Int32)) = 13 then ((f_La_law_b1089 G L xs (f_La_law_b1469 G L xs (f_La_law_b23 G L xs F))) x1 x2 x3 x4 h) else if (v321 &&& (31 : Int32)) = 14 then ((f_La_law_b1181 G L xs (f_La_law_b1469 G L xs (f_La_law_b23 G L xs F))) x1 x2 x3 x4 h) else if (v321 &&& (31 : Int32)) = 15 then ((f_La_law_b1249 G L xs (f_La_law_b1469 G L xs (f_La_law_b23 G L xs F))) x1 x2 x3 x4 h) else if (v321 &&& (31 : Int32)) = 16 then ((f_La_law_b1317 G L xs (f_La_law_b1469 G L xs (f_La_law_b23 G L xs F))) x1 x2 x3 x4 h) else if (v321 &&& (31 : Int32)) = 17 then ((f_La_law_b1385 G L xs (f_La_law_b1469 G L xs (f_La_law_b23 G L xs F))) x1 x2 x3 x4 h) else (f_La_law_b1469 G L xs (f_La_law_b23 G L xs F)) x1 x2 x3 x4 h)
theorem f_La_law_b23_eq (G L : Nat) (xs : Nat → Int32) (F : Nat) (x1 : Nat) (x2 : Nat) (x3 : Nat) (x4 : Int32) (h : pH) : f_La_law_b23 G L xs (F + 1) x1 x2 x3 x4 h = (if ((Int32.ofNat L) - (5 : Int32)) < x4 then ((if isZ (1 : Int32) = true then some (some (.int (1 : Int32)), h) else none)) else ((scr L xs x4).bind fun v321 => if (v321 &&& (31 : Int32)) = 0 then ((f_La_law_b124 G L xs (f_La_law_b1469 G L xs (f_La_law_b23 G L xs F))) x1 x2 x3 x4 h) else if (v321 &&& (31 : Int32)) = 1 then ((f_La_law_b216 G L xs (f_La_law_b1469 G L xs (f_La_law_b23 G L xs F))) x1 x2 x3 x4 h) else if (v321 &&& (31 : Int32)) = 2 then ((f_La_law_b308 G L xs (f_La_law_b1469 G L xs (f_La_law_b23 G L xs F))) x1 x2 x3 x4 h) else if (v321 &&& (31 : Int32)) = 3 then ((f_La_law_b376 G L xs (f_La_law_b1469 G L xs (f_La_law_b23 G L xs F))) x1 x2 x3 x4 h) else if (v321 &&& (31 : Int32)) = 4 then ((f_La_law_b444 G L xs (f_La_law_b1469 G L xs (f_La_law_b23 G L xs F))) x1 x2 x3 x4 h) else if (v321 &&& (31 : Int32)) = 5 then ((f_La_law_b512 G L xs (f_La_law_b1469 G L xs (f_La_law_b23 G L xs F))) x1 x2 x3 x4 h) else if (v321 &&& (31 : Int32)) = 6 then ((f_La_law_b587 G L xs (f_La_law_b1469 G L xs (f_La_law_b23 G L xs F))) x1 x2 x3 x4 h) else if (v321 &&& (31 : Int32)) = 7 then ((f_La_law_b667 G L xs (f_La_law_b1469 G L xs (f_La_law_b23 G L xs F))) x1 x2 x3 x4 h) else if (v321 &&& (31 : Int32)) = 8 then ((f_La_law_b735 G L xs (f_La_law_b1469 G L xs (f_La_law_b23 G L xs F))) x1 x2 x3 x4 h) else if (v321 &&& (31 : Int32)) = 9 then ((f_La_law_b810 G L xs (f_La_law_b1469 G L xs (f_La_law_b23 G L xs F))) x1 x2 x3 x4 h) else if (v321 &&& (31 : Int32)) = 10 then ((f_La_law_b890 G L xs (f_La_law_b1469 G L xs (f_La_law_b23 G L xs F))) x1 x2 x3 x4 h) else if (v321 &&& (31 : Int32)) = 11 then ((f_La_law_b953 G L xs (f_La_law_b1469 G L xs (f_La_law_b23 G L xs F))) x1 x2 x3 x4 h) else if (v321 &&& (31 : Int32)) = 12 then ((f_La_law_b1009 G L xs (f_La_law_b1469 G L xs (f_La_law_b23 G L xs F))) x1 x2 x3 x4 h) else if (v321 &&& (31 : Int32)) = 13 then ((f_La_law_b1089 G L xs (f_La_law_b1469 G L xs (f_La_law_b23 G L xs F))) x1 x2 x3 x4 h) else if (v321 &&& (31 : Int32)) = 14 then ((f_La_law_b1181 G L xs (f_La_law_b1469 G L xs (f_La_law_b23 G L xs F))) x1 x2 x3 x4 h) else if (v321 &&& (31 : Int32)) = 15 then ((f_La_law_b1249 G L xs (f_La_law_b1469 G L xs (f_La_law_b23 G L xs F))) x1 x2 x3 x4 h) else if (v321 &&& (31 : Int32)) = 16 then ((f_La_law_b1317 G L xs (f_La_law_b1469 G L xs (f_La_law_b23 G L xs F))) x1 x2 x3 x4 h) else if (v321 &&& (31 : Int32)) = 17 then ((f_La_law_b1385 G L xs (f_La_law_b1469 G L xs (f_La_law_b23 G L xs F))) x1 x2 x3 x4 h) else (f_La_law_b1469 G L xs (f_La_law_b23 G L xs F)) x1 x2 x3 x4 h)) := rfl
/-- the law: both objects are made, then its loop comes to 1 -/
def p_La_law (G L : Nat) (xs : Nat → Int32) (h : pH) : Prop := ∀ q0, q0 ∉ h.1 → p_Mg_init q0 (hN h q0 (.inr (3, [.null, .null, .null, .null, .null, .int 0, .null, .null, .null]))) (fun rc => ∃ h1, rc = (none, h1) ∧ ∀ q1, q1 ∉ h1.1 → p_Mo_init q1 (hN h1 q1 (.inr (4, [.int 0, .null, .null, .null, .int 0, .null, .null, .int 0, .null, .int 0, .null, .null, .int 0, .null, .null, .int 0, .int 0, .null, .null]))) (fun rc => ∃ h2, rc = (none, h2) ∧ ∀ q2, q2 ∉ h2.1 → ∃ r : pR, r.1 = some (.int 1) ∧ f_La_law_b23 G L xs 600 q0 q1 q2 0 (hN h2 q2 (.inl (1, 1, .inr (.inl (fun _ => 0))))) = some r))
set_option maxRecDepth 100000 in
set_option maxHeartbeats 4000000 in
theorem w_La_law_b1466 {X : zX} {r : pR} {G L b : Nat} {xs : Nat → Int32} {F : Nat} {k1469 : Nat → Nat → Nat → Int32 → pH → Option pR} (hQ : zQL X) (hr1 : r.1 = some (.int 1)) (hT : zLA X) (hS : zSC X b L xs) (hk1469 : ∀ (k n : Nat), zkn X (k + 8 * F) (n + 48 * F) → ∀ (x1 : Nat) (x2 : Nat) (x3 : Nat) (x4 : Int32) (h : pH), k1469 x1 x2 x3 x4 h = some r → Z X M_La_law k n h 1469 [(0, .ref b), (1, .ref x1), (2, .ref x2), (3, .ref x3), (4, .int x4)] []) : ∀ (k n : Nat), zkn X (k + 8 * F) (n + 48 * F) → ∀ (x1 : Nat) (x2 : Nat) (x3 : Nat) (x4 : Int32) (h : pH), f_La_law_b1466 G L xs k1469 x1 x2 x3 x4 h = some r → Z X M_La_law k n h 1466 [(0, .ref b), (1, .ref x1), (2, .ref x2), (3, .ref x3), (4, .int x4)] [] := by
  intro k n hkn x1 x2 x3 x4 h E
  rw [f_La_law_b1466_eq] at E
  refine z_goto (tgt := 1469) d_La_law_1466 (by decide) ?_
  exact hk1469 _ _ (zkn_le hkn (by omega) (by omega)) x1 x2 x3 x4 h E
set_option maxRecDepth 100000 in
set_option maxHeartbeats 4000000 in
theorem w_La_law_b1433 {X : zX} {r : pR} {G L b : Nat} {xs : Nat → Int32} {F : Nat} {k1469 : Nat → Nat → Nat → Int32 → pH → Option pR} (hQ : zQL X) (hr1 : r.1 = some (.int 1)) (hT : zLA X) (hS : zSC X b L xs) (hk1469 : ∀ (k n : Nat), zkn X (k + 8 * F) (n + 48 * F) → ∀ (x1 : Nat) (x2 : Nat) (x3 : Nat) (x4 : Int32) (h : pH), k1469 x1 x2 x3 x4 h = some r → Z X M_La_law k n h 1469 [(0, .ref b), (1, .ref x1), (2, .ref x2), (3, .ref x3), (4, .int x4)] []) : ∀ (k n : Nat), zkn X (k + 8 * F) (n + 48 * F) → ∀ (x1 : Nat) (x2 : Nat) (x3 : Nat) (x4 : Int32) (x5 : Int32) (s0 : Nat) (s1 : Int32) (s2 : Int32) (h : pH), f_La_law_b1433 G L xs k1469 x1 x2 x3 x4 x5 s0 s1 s2 h = some r → Z X M_La_law k n h 1433 [(0, .ref b), (1, .ref x1), (2, .ref x2), (3, .ref x3), (4, .int x4), (5, .int x5)] [.int s2, .int s1, .ref s0] := by
  intro k n hkn x1 x2 x3 x4 x5 s0 s1 s2 h E
  rw [f_La_law_b1433_eq] at E
  obtain ⟨g2, v4, h1, e3, E⟩ := cI_some E
  refine z_invV (ci := 4) (y := y_Mo_apply) (Mc := M_Mo_apply) (av := [.int s1, .int s2]) (rest := []) rfl rfl ⟨zt_906, zt_907, zt_908, zt_52⟩ zk_Mo_apply zy_Mo_apply (by decide) (Nat.le_of_ble_eq_true rfl) (zkn_le hkn (by omega) (by omega)) rfl (Nat.le_of_ble_eq_true rfl) d_La_law_1433 g2 (m_Mo_apply e3) ?_
  show Z X M_La_law k n h1 1436 [(0, .ref b), (1, .ref x1), (2, .ref x2), (3, .ref x3), (4, .int x4), (5, .int x5)] [.int v4]
  refine z_istore (lv2 := [(6, .int v4), (0, .ref b), (1, .ref x1), (2, .ref x2), (3, .ref x3), (4, .int x4), (5, .int x5)]) d_La_law_1436 (Nat.le_of_ble_eq_true rfl) rfl ?_
  refine z_aload_n 3 d_La_law_1438 rfl rfl ?_
  obtain ⟨g6, v8, h5, e7, E⟩ := cI_some E
  refine z_invV (ci := 4) (y := y_Mo_thrown) (Mc := M_Mo_thrown) (av := []) (rest := []) rfl rfl ⟨zt_738, zt_739, zt_740, zt_52⟩ zk_Mo_thrown zy_Mo_thrown (by decide) (Nat.le_of_ble_eq_true rfl) (zkn_le hkn (by omega) (by omega)) rfl (Nat.le_of_ble_eq_true rfl) d_La_law_1439 g6 (m_Mo_thrown e7) ?_
  show Z X M_La_law k n h5 1442 [(6, .int v4), (0, .ref b), (1, .ref x1), (2, .ref x2), (3, .ref x3), (4, .int x4), (5, .int x5)] [.int v8]
  refine z_iload 6 d_La_law_1442 rfl ?_
  refine z_ic_eq (tgt := 1449) d_La_law_1444 (by decide) E (fun E => ?_) (fun E => ?_)
  · refine z_iload 6 d_La_law_1449 rfl ?_
    refine z_if_ne (y := 0) (tgt := 1466) d_La_law_1451 (by decide) E (fun E => ?_) (fun E => ?_)
    · refine z_lv [1, 2, 3, 4, 5] rfl ?_
      exact (w_La_law_b1466 hQ hr1 hT hS hk1469) _ _ (zkn_le hkn (by omega) (by omega)) x1 x2 x3 x4 h5 E
    · refine z_aload_n 4 d_La_law_1454 rfl rfl ?_
      refine z_iconst (v := (0 : Int32)) d_La_law_1455 (by decide) ?_
      refine z_laload d_La_law_1456 E (fun v9 _ E => ?_)
      refine z_iload 0 d_La_law_1457 rfl ?_
      refine z_i2l d_La_law_1459 ?_
      refine z_lcmp d_La_law_1460 ?_
      refine z_if_eq (y := 0) (tgt := 1466) d_La_law_1461 (by decide) E (fun E => ?_) (fun E => ?_)
      · refine z_lv [1, 2, 3, 4, 5] rfl ?_
        exact (w_La_law_b1466 hQ hr1 hT hS hk1469) _ _ (zkn_le hkn (by omega) (by omega)) x1 x2 x3 x4 h5 E
      · refine z_iconst (v := (0 : Int32)) d_La_law_1464 (by decide) ?_
        exact v_zreturn hQ hr1 rfl rfl (zkn_le hkn (by omega) (by omega)) d_La_law_1465 E
  · refine z_iconst (v := (0 : Int32)) d_La_law_1447 (by decide) ?_
    exact v_zreturn hQ hr1 rfl rfl (zkn_le hkn (by omega) (by omega)) d_La_law_1448 E
set_option maxRecDepth 100000 in
set_option maxHeartbeats 4000000 in
theorem w_La_law_b213 {X : zX} {r : pR} {G L b : Nat} {xs : Nat → Int32} {F : Nat} {k1469 : Nat → Nat → Nat → Int32 → pH → Option pR} (hQ : zQL X) (hr1 : r.1 = some (.int 1)) (hT : zLA X) (hS : zSC X b L xs) (hk1469 : ∀ (k n : Nat), zkn X (k + 8 * F) (n + 48 * F) → ∀ (x1 : Nat) (x2 : Nat) (x3 : Nat) (x4 : Int32) (h : pH), k1469 x1 x2 x3 x4 h = some r → Z X M_La_law k n h 1469 [(0, .ref b), (1, .ref x1), (2, .ref x2), (3, .ref x3), (4, .int x4)] []) : ∀ (k n : Nat), zkn X (k + 8 * F) (n + 48 * F) → ∀ (x1 : Nat) (x2 : Nat) (x3 : Nat) (x4 : Int32) (h : pH), f_La_law_b213 G L xs k1469 x1 x2 x3 x4 h = some r → Z X M_La_law k n h 213 [(0, .ref b), (1, .ref x1), (2, .ref x2), (3, .ref x3), (4, .int x4)] [] := by
  intro k n hkn x1 x2 x3 x4 h E
  rw [f_La_law_b213_eq] at E
  refine z_goto (tgt := 1469) d_La_law_213 (by decide) ?_
  exact hk1469 _ _ (zkn_le hkn (by omega) (by omega)) x1 x2 x3 x4 h E
set_option maxRecDepth 100000 in
set_option maxHeartbeats 4000000 in
theorem w_La_law_b305 {X : zX} {r : pR} {G L b : Nat} {xs : Nat → Int32} {F : Nat} {k1469 : Nat → Nat → Nat → Int32 → pH → Option pR} (hQ : zQL X) (hr1 : r.1 = some (.int 1)) (hT : zLA X) (hS : zSC X b L xs) (hk1469 : ∀ (k n : Nat), zkn X (k + 8 * F) (n + 48 * F) → ∀ (x1 : Nat) (x2 : Nat) (x3 : Nat) (x4 : Int32) (h : pH), k1469 x1 x2 x3 x4 h = some r → Z X M_La_law k n h 1469 [(0, .ref b), (1, .ref x1), (2, .ref x2), (3, .ref x3), (4, .int x4)] []) : ∀ (k n : Nat), zkn X (k + 8 * F) (n + 48 * F) → ∀ (x1 : Nat) (x2 : Nat) (x3 : Nat) (x4 : Int32) (h : pH), f_La_law_b305 G L xs k1469 x1 x2 x3 x4 h = some r → Z X M_La_law k n h 305 [(0, .ref b), (1, .ref x1), (2, .ref x2), (3, .ref x3), (4, .int x4)] [] := by
  intro k n hkn x1 x2 x3 x4 h E
  rw [f_La_law_b305_eq] at E
  refine z_goto (tgt := 1469) d_La_law_305 (by decide) ?_
  exact hk1469 _ _ (zkn_le hkn (by omega) (by omega)) x1 x2 x3 x4 h E
set_option maxRecDepth 100000 in
set_option maxHeartbeats 4000000 in
theorem w_La_law_b373 {X : zX} {r : pR} {G L b : Nat} {xs : Nat → Int32} {F : Nat} {k1469 : Nat → Nat → Nat → Int32 → pH → Option pR} (hQ : zQL X) (hr1 : r.1 = some (.int 1)) (hT : zLA X) (hS : zSC X b L xs) (hk1469 : ∀ (k n : Nat), zkn X (k + 8 * F) (n + 48 * F) → ∀ (x1 : Nat) (x2 : Nat) (x3 : Nat) (x4 : Int32) (h : pH), k1469 x1 x2 x3 x4 h = some r → Z X M_La_law k n h 1469 [(0, .ref b), (1, .ref x1), (2, .ref x2), (3, .ref x3), (4, .int x4)] []) : ∀ (k n : Nat), zkn X (k + 8 * F) (n + 48 * F) → ∀ (x1 : Nat) (x2 : Nat) (x3 : Nat) (x4 : Int32) (h : pH), f_La_law_b373 G L xs k1469 x1 x2 x3 x4 h = some r → Z X M_La_law k n h 373 [(0, .ref b), (1, .ref x1), (2, .ref x2), (3, .ref x3), (4, .int x4)] [] := by
  intro k n hkn x1 x2 x3 x4 h E
  rw [f_La_law_b373_eq] at E
  refine z_goto (tgt := 1469) d_La_law_373 (by decide) ?_
  exact hk1469 _ _ (zkn_le hkn (by omega) (by omega)) x1 x2 x3 x4 h E
set_option maxRecDepth 100000 in
set_option maxHeartbeats 4000000 in
theorem w_La_law_b441 {X : zX} {r : pR} {G L b : Nat} {xs : Nat → Int32} {F : Nat} {k1469 : Nat → Nat → Nat → Int32 → pH → Option pR} (hQ : zQL X) (hr1 : r.1 = some (.int 1)) (hT : zLA X) (hS : zSC X b L xs) (hk1469 : ∀ (k n : Nat), zkn X (k + 8 * F) (n + 48 * F) → ∀ (x1 : Nat) (x2 : Nat) (x3 : Nat) (x4 : Int32) (h : pH), k1469 x1 x2 x3 x4 h = some r → Z X M_La_law k n h 1469 [(0, .ref b), (1, .ref x1), (2, .ref x2), (3, .ref x3), (4, .int x4)] []) : ∀ (k n : Nat), zkn X (k + 8 * F) (n + 48 * F) → ∀ (x1 : Nat) (x2 : Nat) (x3 : Nat) (x4 : Int32) (h : pH), f_La_law_b441 G L xs k1469 x1 x2 x3 x4 h = some r → Z X M_La_law k n h 441 [(0, .ref b), (1, .ref x1), (2, .ref x2), (3, .ref x3), (4, .int x4)] [] := by
  intro k n hkn x1 x2 x3 x4 h E
  rw [f_La_law_b441_eq] at E
  refine z_goto (tgt := 1469) d_La_law_441 (by decide) ?_
  exact hk1469 _ _ (zkn_le hkn (by omega) (by omega)) x1 x2 x3 x4 h E
set_option maxRecDepth 100000 in
set_option maxHeartbeats 4000000 in
theorem w_La_law_b509 {X : zX} {r : pR} {G L b : Nat} {xs : Nat → Int32} {F : Nat} {k1469 : Nat → Nat → Nat → Int32 → pH → Option pR} (hQ : zQL X) (hr1 : r.1 = some (.int 1)) (hT : zLA X) (hS : zSC X b L xs) (hk1469 : ∀ (k n : Nat), zkn X (k + 8 * F) (n + 48 * F) → ∀ (x1 : Nat) (x2 : Nat) (x3 : Nat) (x4 : Int32) (h : pH), k1469 x1 x2 x3 x4 h = some r → Z X M_La_law k n h 1469 [(0, .ref b), (1, .ref x1), (2, .ref x2), (3, .ref x3), (4, .int x4)] []) : ∀ (k n : Nat), zkn X (k + 8 * F) (n + 48 * F) → ∀ (x1 : Nat) (x2 : Nat) (x3 : Nat) (x4 : Int32) (h : pH), f_La_law_b509 G L xs k1469 x1 x2 x3 x4 h = some r → Z X M_La_law k n h 509 [(0, .ref b), (1, .ref x1), (2, .ref x2), (3, .ref x3), (4, .int x4)] [] := by
  intro k n hkn x1 x2 x3 x4 h E
  rw [f_La_law_b509_eq] at E
  refine z_goto (tgt := 1469) d_La_law_509 (by decide) ?_
  exact hk1469 _ _ (zkn_le hkn (by omega) (by omega)) x1 x2 x3 x4 h E
set_option maxRecDepth 100000 in
set_option maxHeartbeats 4000000 in
theorem w_La_law_b578 {X : zX} {r : pR} {G L b : Nat} {xs : Nat → Int32} {F : Nat} {k584 : Nat → Nat → Nat → Int32 → pH → Option pR} (hQ : zQL X) (hr1 : r.1 = some (.int 1)) (hT : zLA X) (hS : zSC X b L xs) (hk584 : ∀ (k n : Nat), zkn X (k + 8 * F) (n + 48 * F) → ∀ (x1 : Nat) (x2 : Nat) (x3 : Nat) (x4 : Int32) (h : pH), k584 x1 x2 x3 x4 h = some r → Z X M_La_law k n h 584 [(0, .ref b), (1, .ref x1), (2, .ref x2), (3, .ref x3), (4, .int x4)] []) : ∀ (k n : Nat), zkn X (k + 8 * F) (n + 48 * F) → ∀ (x1 : Nat) (x2 : Nat) (x3 : Nat) (x4 : Int32) (s0 : Int64) (s1 : Int64) (h : pH), f_La_law_b578 G L xs k584 x1 x2 x3 x4 s0 s1 h = some r → Z X M_La_law k n h 578 [(0, .ref b), (1, .ref x1), (2, .ref x2), (3, .ref x3), (4, .int x4)] [.long s1, .long s0] := by
  intro k n hkn x1 x2 x3 x4 s0 s1 h E
  rw [f_La_law_b578_eq] at E
  refine z_lcmp d_La_law_578 ?_
  refine z_if_eq (y := 0) (tgt := 584) d_La_law_579 (by decide) E (fun E => ?_) (fun E => ?_)
  · exact hk584 _ _ (zkn_le hkn (by omega) (by omega)) x1 x2 x3 x4 h E
  · refine z_iconst (v := (0 : Int32)) d_La_law_582 (by decide) ?_
    exact v_zreturn hQ hr1 rfl rfl (zkn_le hkn (by omega) (by omega)) d_La_law_583 E
set_option maxRecDepth 100000 in
set_option maxHeartbeats 4000000 in
theorem w_La_law_b584 {X : zX} {r : pR} {G L b : Nat} {xs : Nat → Int32} {F : Nat} {k1469 : Nat → Nat → Nat → Int32 → pH → Option pR} (hQ : zQL X) (hr1 : r.1 = some (.int 1)) (hT : zLA X) (hS : zSC X b L xs) (hk1469 : ∀ (k n : Nat), zkn X (k + 8 * F) (n + 48 * F) → ∀ (x1 : Nat) (x2 : Nat) (x3 : Nat) (x4 : Int32) (h : pH), k1469 x1 x2 x3 x4 h = some r → Z X M_La_law k n h 1469 [(0, .ref b), (1, .ref x1), (2, .ref x2), (3, .ref x3), (4, .int x4)] []) : ∀ (k n : Nat), zkn X (k + 8 * F) (n + 48 * F) → ∀ (x1 : Nat) (x2 : Nat) (x3 : Nat) (x4 : Int32) (h : pH), f_La_law_b584 G L xs k1469 x1 x2 x3 x4 h = some r → Z X M_La_law k n h 584 [(0, .ref b), (1, .ref x1), (2, .ref x2), (3, .ref x3), (4, .int x4)] [] := by
  intro k n hkn x1 x2 x3 x4 h E
  rw [f_La_law_b584_eq] at E
  refine z_goto (tgt := 1469) d_La_law_584 (by decide) ?_
  exact hk1469 _ _ (zkn_le hkn (by omega) (by omega)) x1 x2 x3 x4 h E
set_option maxRecDepth 100000 in
set_option maxHeartbeats 4000000 in
theorem w_La_law_b664 {X : zX} {r : pR} {G L b : Nat} {xs : Nat → Int32} {F : Nat} {k1469 : Nat → Nat → Nat → Int32 → pH → Option pR} (hQ : zQL X) (hr1 : r.1 = some (.int 1)) (hT : zLA X) (hS : zSC X b L xs) (hk1469 : ∀ (k n : Nat), zkn X (k + 8 * F) (n + 48 * F) → ∀ (x1 : Nat) (x2 : Nat) (x3 : Nat) (x4 : Int32) (h : pH), k1469 x1 x2 x3 x4 h = some r → Z X M_La_law k n h 1469 [(0, .ref b), (1, .ref x1), (2, .ref x2), (3, .ref x3), (4, .int x4)] []) : ∀ (k n : Nat), zkn X (k + 8 * F) (n + 48 * F) → ∀ (x1 : Nat) (x2 : Nat) (x3 : Nat) (x4 : Int32) (h : pH), f_La_law_b664 G L xs k1469 x1 x2 x3 x4 h = some r → Z X M_La_law k n h 664 [(0, .ref b), (1, .ref x1), (2, .ref x2), (3, .ref x3), (4, .int x4)] [] := by
  intro k n hkn x1 x2 x3 x4 h E
  rw [f_La_law_b664_eq] at E
  refine z_goto (tgt := 1469) d_La_law_664 (by decide) ?_
  exact hk1469 _ _ (zkn_le hkn (by omega) (by omega)) x1 x2 x3 x4 h E
set_option maxRecDepth 100000 in
set_option maxHeartbeats 4000000 in
theorem w_La_law_b732 {X : zX} {r : pR} {G L b : Nat} {xs : Nat → Int32} {F : Nat} {k1469 : Nat → Nat → Nat → Int32 → pH → Option pR} (hQ : zQL X) (hr1 : r.1 = some (.int 1)) (hT : zLA X) (hS : zSC X b L xs) (hk1469 : ∀ (k n : Nat), zkn X (k + 8 * F) (n + 48 * F) → ∀ (x1 : Nat) (x2 : Nat) (x3 : Nat) (x4 : Int32) (h : pH), k1469 x1 x2 x3 x4 h = some r → Z X M_La_law k n h 1469 [(0, .ref b), (1, .ref x1), (2, .ref x2), (3, .ref x3), (4, .int x4)] []) : ∀ (k n : Nat), zkn X (k + 8 * F) (n + 48 * F) → ∀ (x1 : Nat) (x2 : Nat) (x3 : Nat) (x4 : Int32) (h : pH), f_La_law_b732 G L xs k1469 x1 x2 x3 x4 h = some r → Z X M_La_law k n h 732 [(0, .ref b), (1, .ref x1), (2, .ref x2), (3, .ref x3), (4, .int x4)] [] := by
  intro k n hkn x1 x2 x3 x4 h E
  rw [f_La_law_b732_eq] at E
  refine z_goto (tgt := 1469) d_La_law_732 (by decide) ?_
  exact hk1469 _ _ (zkn_le hkn (by omega) (by omega)) x1 x2 x3 x4 h E
set_option maxRecDepth 100000 in
set_option maxHeartbeats 4000000 in
theorem w_La_law_b801 {X : zX} {r : pR} {G L b : Nat} {xs : Nat → Int32} {F : Nat} {k807 : Nat → Nat → Nat → Int32 → pH → Option pR} (hQ : zQL X) (hr1 : r.1 = some (.int 1)) (hT : zLA X) (hS : zSC X b L xs) (hk807 : ∀ (k n : Nat), zkn X (k + 8 * F) (n + 48 * F) → ∀ (x1 : Nat) (x2 : Nat) (x3 : Nat) (x4 : Int32) (h : pH), k807 x1 x2 x3 x4 h = some r → Z X M_La_law k n h 807 [(0, .ref b), (1, .ref x1), (2, .ref x2), (3, .ref x3), (4, .int x4)] []) : ∀ (k n : Nat), zkn X (k + 8 * F) (n + 48 * F) → ∀ (x1 : Nat) (x2 : Nat) (x3 : Nat) (x4 : Int32) (s0 : Int64) (s1 : Int64) (h : pH), f_La_law_b801 G L xs k807 x1 x2 x3 x4 s0 s1 h = some r → Z X M_La_law k n h 801 [(0, .ref b), (1, .ref x1), (2, .ref x2), (3, .ref x3), (4, .int x4)] [.long s1, .long s0] := by
  intro k n hkn x1 x2 x3 x4 s0 s1 h E
  rw [f_La_law_b801_eq] at E
  refine z_lcmp d_La_law_801 ?_
  refine z_if_eq (y := 0) (tgt := 807) d_La_law_802 (by decide) E (fun E => ?_) (fun E => ?_)
  · exact hk807 _ _ (zkn_le hkn (by omega) (by omega)) x1 x2 x3 x4 h E
  · refine z_iconst (v := (0 : Int32)) d_La_law_805 (by decide) ?_
    exact v_zreturn hQ hr1 rfl rfl (zkn_le hkn (by omega) (by omega)) d_La_law_806 E
set_option maxRecDepth 100000 in
set_option maxHeartbeats 4000000 in
theorem w_La_law_b807 {X : zX} {r : pR} {G L b : Nat} {xs : Nat → Int32} {F : Nat} {k1469 : Nat → Nat → Nat → Int32 → pH → Option pR} (hQ : zQL X) (hr1 : r.1 = some (.int 1)) (hT : zLA X) (hS : zSC X b L xs) (hk1469 : ∀ (k n : Nat), zkn X (k + 8 * F) (n + 48 * F) → ∀ (x1 : Nat) (x2 : Nat) (x3 : Nat) (x4 : Int32) (h : pH), k1469 x1 x2 x3 x4 h = some r → Z X M_La_law k n h 1469 [(0, .ref b), (1, .ref x1), (2, .ref x2), (3, .ref x3), (4, .int x4)] []) : ∀ (k n : Nat), zkn X (k + 8 * F) (n + 48 * F) → ∀ (x1 : Nat) (x2 : Nat) (x3 : Nat) (x4 : Int32) (h : pH), f_La_law_b807 G L xs k1469 x1 x2 x3 x4 h = some r → Z X M_La_law k n h 807 [(0, .ref b), (1, .ref x1), (2, .ref x2), (3, .ref x3), (4, .int x4)] [] := by
  intro k n hkn x1 x2 x3 x4 h E
  rw [f_La_law_b807_eq] at E
  refine z_goto (tgt := 1469) d_La_law_807 (by decide) ?_
  exact hk1469 _ _ (zkn_le hkn (by omega) (by omega)) x1 x2 x3 x4 h E
set_option maxRecDepth 100000 in
set_option maxHeartbeats 4000000 in
theorem w_La_law_b887 {X : zX} {r : pR} {G L b : Nat} {xs : Nat → Int32} {F : Nat} {k1469 : Nat → Nat → Nat → Int32 → pH → Option pR} (hQ : zQL X) (hr1 : r.1 = some (.int 1)) (hT : zLA X) (hS : zSC X b L xs) (hk1469 : ∀ (k n : Nat), zkn X (k + 8 * F) (n + 48 * F) → ∀ (x1 : Nat) (x2 : Nat) (x3 : Nat) (x4 : Int32) (h : pH), k1469 x1 x2 x3 x4 h = some r → Z X M_La_law k n h 1469 [(0, .ref b), (1, .ref x1), (2, .ref x2), (3, .ref x3), (4, .int x4)] []) : ∀ (k n : Nat), zkn X (k + 8 * F) (n + 48 * F) → ∀ (x1 : Nat) (x2 : Nat) (x3 : Nat) (x4 : Int32) (h : pH), f_La_law_b887 G L xs k1469 x1 x2 x3 x4 h = some r → Z X M_La_law k n h 887 [(0, .ref b), (1, .ref x1), (2, .ref x2), (3, .ref x3), (4, .int x4)] [] := by
  intro k n hkn x1 x2 x3 x4 h E
  rw [f_La_law_b887_eq] at E
  refine z_goto (tgt := 1469) d_La_law_887 (by decide) ?_
  exact hk1469 _ _ (zkn_le hkn (by omega) (by omega)) x1 x2 x3 x4 h E
set_option maxRecDepth 100000 in
set_option maxHeartbeats 4000000 in
theorem w_La_law_b944 {X : zX} {r : pR} {G L b : Nat} {xs : Nat → Int32} {F : Nat} {k950 : Nat → Nat → Nat → Int32 → pH → Option pR} (hQ : zQL X) (hr1 : r.1 = some (.int 1)) (hT : zLA X) (hS : zSC X b L xs) (hk950 : ∀ (k n : Nat), zkn X (k + 8 * F) (n + 48 * F) → ∀ (x1 : Nat) (x2 : Nat) (x3 : Nat) (x4 : Int32) (h : pH), k950 x1 x2 x3 x4 h = some r → Z X M_La_law k n h 950 [(0, .ref b), (1, .ref x1), (2, .ref x2), (3, .ref x3), (4, .int x4)] []) : ∀ (k n : Nat), zkn X (k + 8 * F) (n + 48 * F) → ∀ (x1 : Nat) (x2 : Nat) (x3 : Nat) (x4 : Int32) (s0 : Int64) (s1 : Int64) (h : pH), f_La_law_b944 G L xs k950 x1 x2 x3 x4 s0 s1 h = some r → Z X M_La_law k n h 944 [(0, .ref b), (1, .ref x1), (2, .ref x2), (3, .ref x3), (4, .int x4)] [.long s1, .long s0] := by
  intro k n hkn x1 x2 x3 x4 s0 s1 h E
  rw [f_La_law_b944_eq] at E
  refine z_lcmp d_La_law_944 ?_
  refine z_if_eq (y := 0) (tgt := 950) d_La_law_945 (by decide) E (fun E => ?_) (fun E => ?_)
  · exact hk950 _ _ (zkn_le hkn (by omega) (by omega)) x1 x2 x3 x4 h E
  · refine z_iconst (v := (0 : Int32)) d_La_law_948 (by decide) ?_
    exact v_zreturn hQ hr1 rfl rfl (zkn_le hkn (by omega) (by omega)) d_La_law_949 E
set_option maxRecDepth 100000 in
set_option maxHeartbeats 4000000 in
theorem w_La_law_b950 {X : zX} {r : pR} {G L b : Nat} {xs : Nat → Int32} {F : Nat} {k1469 : Nat → Nat → Nat → Int32 → pH → Option pR} (hQ : zQL X) (hr1 : r.1 = some (.int 1)) (hT : zLA X) (hS : zSC X b L xs) (hk1469 : ∀ (k n : Nat), zkn X (k + 8 * F) (n + 48 * F) → ∀ (x1 : Nat) (x2 : Nat) (x3 : Nat) (x4 : Int32) (h : pH), k1469 x1 x2 x3 x4 h = some r → Z X M_La_law k n h 1469 [(0, .ref b), (1, .ref x1), (2, .ref x2), (3, .ref x3), (4, .int x4)] []) : ∀ (k n : Nat), zkn X (k + 8 * F) (n + 48 * F) → ∀ (x1 : Nat) (x2 : Nat) (x3 : Nat) (x4 : Int32) (h : pH), f_La_law_b950 G L xs k1469 x1 x2 x3 x4 h = some r → Z X M_La_law k n h 950 [(0, .ref b), (1, .ref x1), (2, .ref x2), (3, .ref x3), (4, .int x4)] [] := by
  intro k n hkn x1 x2 x3 x4 h E
  rw [f_La_law_b950_eq] at E
  refine z_goto (tgt := 1469) d_La_law_950 (by decide) ?_
  exact hk1469 _ _ (zkn_le hkn (by omega) (by omega)) x1 x2 x3 x4 h E
set_option maxRecDepth 100000 in
set_option maxHeartbeats 4000000 in
theorem w_La_law_b1006 {X : zX} {r : pR} {G L b : Nat} {xs : Nat → Int32} {F : Nat} {k1469 : Nat → Nat → Nat → Int32 → pH → Option pR} (hQ : zQL X) (hr1 : r.1 = some (.int 1)) (hT : zLA X) (hS : zSC X b L xs) (hk1469 : ∀ (k n : Nat), zkn X (k + 8 * F) (n + 48 * F) → ∀ (x1 : Nat) (x2 : Nat) (x3 : Nat) (x4 : Int32) (h : pH), k1469 x1 x2 x3 x4 h = some r → Z X M_La_law k n h 1469 [(0, .ref b), (1, .ref x1), (2, .ref x2), (3, .ref x3), (4, .int x4)] []) : ∀ (k n : Nat), zkn X (k + 8 * F) (n + 48 * F) → ∀ (x1 : Nat) (x2 : Nat) (x3 : Nat) (x4 : Int32) (h : pH), f_La_law_b1006 G L xs k1469 x1 x2 x3 x4 h = some r → Z X M_La_law k n h 1006 [(0, .ref b), (1, .ref x1), (2, .ref x2), (3, .ref x3), (4, .int x4)] [] := by
  intro k n hkn x1 x2 x3 x4 h E
  rw [f_La_law_b1006_eq] at E
  refine z_goto (tgt := 1469) d_La_law_1006 (by decide) ?_
  exact hk1469 _ _ (zkn_le hkn (by omega) (by omega)) x1 x2 x3 x4 h E
set_option maxRecDepth 100000 in
set_option maxHeartbeats 4000000 in
theorem w_La_law_b1086 {X : zX} {r : pR} {G L b : Nat} {xs : Nat → Int32} {F : Nat} {k1469 : Nat → Nat → Nat → Int32 → pH → Option pR} (hQ : zQL X) (hr1 : r.1 = some (.int 1)) (hT : zLA X) (hS : zSC X b L xs) (hk1469 : ∀ (k n : Nat), zkn X (k + 8 * F) (n + 48 * F) → ∀ (x1 : Nat) (x2 : Nat) (x3 : Nat) (x4 : Int32) (h : pH), k1469 x1 x2 x3 x4 h = some r → Z X M_La_law k n h 1469 [(0, .ref b), (1, .ref x1), (2, .ref x2), (3, .ref x3), (4, .int x4)] []) : ∀ (k n : Nat), zkn X (k + 8 * F) (n + 48 * F) → ∀ (x1 : Nat) (x2 : Nat) (x3 : Nat) (x4 : Int32) (h : pH), f_La_law_b1086 G L xs k1469 x1 x2 x3 x4 h = some r → Z X M_La_law k n h 1086 [(0, .ref b), (1, .ref x1), (2, .ref x2), (3, .ref x3), (4, .int x4)] [] := by
  intro k n hkn x1 x2 x3 x4 h E
  rw [f_La_law_b1086_eq] at E
  refine z_goto (tgt := 1469) d_La_law_1086 (by decide) ?_
  exact hk1469 _ _ (zkn_le hkn (by omega) (by omega)) x1 x2 x3 x4 h E
set_option maxRecDepth 100000 in
set_option maxHeartbeats 4000000 in
theorem w_La_law_b1178 {X : zX} {r : pR} {G L b : Nat} {xs : Nat → Int32} {F : Nat} {k1469 : Nat → Nat → Nat → Int32 → pH → Option pR} (hQ : zQL X) (hr1 : r.1 = some (.int 1)) (hT : zLA X) (hS : zSC X b L xs) (hk1469 : ∀ (k n : Nat), zkn X (k + 8 * F) (n + 48 * F) → ∀ (x1 : Nat) (x2 : Nat) (x3 : Nat) (x4 : Int32) (h : pH), k1469 x1 x2 x3 x4 h = some r → Z X M_La_law k n h 1469 [(0, .ref b), (1, .ref x1), (2, .ref x2), (3, .ref x3), (4, .int x4)] []) : ∀ (k n : Nat), zkn X (k + 8 * F) (n + 48 * F) → ∀ (x1 : Nat) (x2 : Nat) (x3 : Nat) (x4 : Int32) (h : pH), f_La_law_b1178 G L xs k1469 x1 x2 x3 x4 h = some r → Z X M_La_law k n h 1178 [(0, .ref b), (1, .ref x1), (2, .ref x2), (3, .ref x3), (4, .int x4)] [] := by
  intro k n hkn x1 x2 x3 x4 h E
  rw [f_La_law_b1178_eq] at E
  refine z_goto (tgt := 1469) d_La_law_1178 (by decide) ?_
  exact hk1469 _ _ (zkn_le hkn (by omega) (by omega)) x1 x2 x3 x4 h E
set_option maxRecDepth 100000 in
set_option maxHeartbeats 4000000 in
theorem w_La_law_b1246 {X : zX} {r : pR} {G L b : Nat} {xs : Nat → Int32} {F : Nat} {k1469 : Nat → Nat → Nat → Int32 → pH → Option pR} (hQ : zQL X) (hr1 : r.1 = some (.int 1)) (hT : zLA X) (hS : zSC X b L xs) (hk1469 : ∀ (k n : Nat), zkn X (k + 8 * F) (n + 48 * F) → ∀ (x1 : Nat) (x2 : Nat) (x3 : Nat) (x4 : Int32) (h : pH), k1469 x1 x2 x3 x4 h = some r → Z X M_La_law k n h 1469 [(0, .ref b), (1, .ref x1), (2, .ref x2), (3, .ref x3), (4, .int x4)] []) : ∀ (k n : Nat), zkn X (k + 8 * F) (n + 48 * F) → ∀ (x1 : Nat) (x2 : Nat) (x3 : Nat) (x4 : Int32) (h : pH), f_La_law_b1246 G L xs k1469 x1 x2 x3 x4 h = some r → Z X M_La_law k n h 1246 [(0, .ref b), (1, .ref x1), (2, .ref x2), (3, .ref x3), (4, .int x4)] [] := by
  intro k n hkn x1 x2 x3 x4 h E
  rw [f_La_law_b1246_eq] at E
  refine z_goto (tgt := 1469) d_La_law_1246 (by decide) ?_
  exact hk1469 _ _ (zkn_le hkn (by omega) (by omega)) x1 x2 x3 x4 h E
set_option maxRecDepth 100000 in
set_option maxHeartbeats 4000000 in
theorem w_La_law_b1314 {X : zX} {r : pR} {G L b : Nat} {xs : Nat → Int32} {F : Nat} {k1469 : Nat → Nat → Nat → Int32 → pH → Option pR} (hQ : zQL X) (hr1 : r.1 = some (.int 1)) (hT : zLA X) (hS : zSC X b L xs) (hk1469 : ∀ (k n : Nat), zkn X (k + 8 * F) (n + 48 * F) → ∀ (x1 : Nat) (x2 : Nat) (x3 : Nat) (x4 : Int32) (h : pH), k1469 x1 x2 x3 x4 h = some r → Z X M_La_law k n h 1469 [(0, .ref b), (1, .ref x1), (2, .ref x2), (3, .ref x3), (4, .int x4)] []) : ∀ (k n : Nat), zkn X (k + 8 * F) (n + 48 * F) → ∀ (x1 : Nat) (x2 : Nat) (x3 : Nat) (x4 : Int32) (h : pH), f_La_law_b1314 G L xs k1469 x1 x2 x3 x4 h = some r → Z X M_La_law k n h 1314 [(0, .ref b), (1, .ref x1), (2, .ref x2), (3, .ref x3), (4, .int x4)] [] := by
  intro k n hkn x1 x2 x3 x4 h E
  rw [f_La_law_b1314_eq] at E
  refine z_goto (tgt := 1469) d_La_law_1314 (by decide) ?_
  exact hk1469 _ _ (zkn_le hkn (by omega) (by omega)) x1 x2 x3 x4 h E
set_option maxRecDepth 100000 in
set_option maxHeartbeats 4000000 in
theorem w_La_law_b1382 {X : zX} {r : pR} {G L b : Nat} {xs : Nat → Int32} {F : Nat} {k1469 : Nat → Nat → Nat → Int32 → pH → Option pR} (hQ : zQL X) (hr1 : r.1 = some (.int 1)) (hT : zLA X) (hS : zSC X b L xs) (hk1469 : ∀ (k n : Nat), zkn X (k + 8 * F) (n + 48 * F) → ∀ (x1 : Nat) (x2 : Nat) (x3 : Nat) (x4 : Int32) (h : pH), k1469 x1 x2 x3 x4 h = some r → Z X M_La_law k n h 1469 [(0, .ref b), (1, .ref x1), (2, .ref x2), (3, .ref x3), (4, .int x4)] []) : ∀ (k n : Nat), zkn X (k + 8 * F) (n + 48 * F) → ∀ (x1 : Nat) (x2 : Nat) (x3 : Nat) (x4 : Int32) (h : pH), f_La_law_b1382 G L xs k1469 x1 x2 x3 x4 h = some r → Z X M_La_law k n h 1382 [(0, .ref b), (1, .ref x1), (2, .ref x2), (3, .ref x3), (4, .int x4)] [] := by
  intro k n hkn x1 x2 x3 x4 h E
  rw [f_La_law_b1382_eq] at E
  refine z_goto (tgt := 1469) d_La_law_1382 (by decide) ?_
  exact hk1469 _ _ (zkn_le hkn (by omega) (by omega)) x1 x2 x3 x4 h E
set_option maxRecDepth 100000 in
set_option maxHeartbeats 4000000 in
theorem w_La_law_b1406 {X : zX} {r : pR} {G L b : Nat} {xs : Nat → Int32} {F : Nat} {k1469 : Nat → Nat → Nat → Int32 → pH → Option pR} (hQ : zQL X) (hr1 : r.1 = some (.int 1)) (hT : zLA X) (hS : zSC X b L xs) (hk1469 : ∀ (k n : Nat), zkn X (k + 8 * F) (n + 48 * F) → ∀ (x1 : Nat) (x2 : Nat) (x3 : Nat) (x4 : Int32) (h : pH), k1469 x1 x2 x3 x4 h = some r → Z X M_La_law k n h 1469 [(0, .ref b), (1, .ref x1), (2, .ref x2), (3, .ref x3), (4, .int x4)] []) : ∀ (k n : Nat), zkn X (k + 8 * F + 8) (n + 48 * F + 48) → ∀ (x1 : Nat) (x2 : Nat) (x3 : Nat) (x4 : Int32) (s0 : Nat) (s1 : Int32) (s2 : Int32) (h : pH), f_La_law_b1406 G L xs k1469 x1 x2 x3 x4 s0 s1 s2 h = some r → Z X M_La_law k n h 1406 [(0, .ref b), (1, .ref x1), (2, .ref x2), (3, .ref x3), (4, .int x4)] [.int s2, .int s1, .ref s0] := by
  intro k n hkn x1 x2 x3 x4 s0 s1 s2 h E
  rw [f_La_law_b1406_eq] at E
  refine z_aload_n 3 d_La_law_1406 rfl rfl ?_
  obtain ⟨g11, v13, h10, e12, E⟩ := cI_some E
  refine v_invSW (y := y_La_apply) (Mc := M_La_apply) (hh := hh_La_apply) (av := [.ref s0, .int s1, .int s2, .ref x3]) (rest := []) (mc1 := 1) (ms1 := 6) hT ⟨zt_654, zt_655, zt_47⟩ zk_La_apply zy_La_apply (by decide) (Nat.le_of_ble_eq_true rfl) (zkn_le hkn (by omega) (by omega)) rfl (Nat.le_of_ble_eq_true rfl) d_La_law_1407 (m_La_apply (zLA_l hT) e12) ?_
  show Z X M_La_law (k + 1) (n + 6) h10 1410 [(0, .ref b), (1, .ref x1), (2, .ref x2), (3, .ref x3), (4, .int x4)] [.int v13]
  refine z_istore (lv2 := [(5, .int v13), (0, .ref b), (1, .ref x1), (2, .ref x2), (3, .ref x3), (4, .int x4)]) d_La_law_1410 (Nat.le_of_ble_eq_true rfl) rfl ?_
  refine z_aload_n 3 d_La_law_1412 rfl rfl ?_
  refine z_aload_n 1 d_La_law_1413 rfl rfl ?_
  refine z_iload 5 d_La_law_1414 rfl ?_
  refine z_iconst (v := (1 : Int32)) d_La_law_1416 (by decide) ?_
  refine z_iadd d_La_law_1417 ?_
  refine v_sld hS d_La_law_1418 E (fun v14 _ E => ?_)
  refine z_aload_n 1 d_La_law_1419 rfl rfl ?_
  refine z_iload 5 d_La_law_1420 rfl ?_
  refine z_iconst (v := (2 : Int32)) d_La_law_1422 (by decide) ?_
  refine z_iadd d_La_law_1423 ?_
  refine v_sld hS d_La_law_1424 E (fun v15 _ E => ?_)
  refine z_if_eq (y := 0) (tgt := 1432) d_La_law_1425 (by decide) E (fun E => ?_) (fun E => ?_)
  · refine z_iconst (v := (0 : Int32)) d_La_law_1432 (by decide) ?_
    refine z_lv [1, 2, 3, 4, 5, 0] rfl ?_
    exact (w_La_law_b1433 hQ hr1 hT hS hk1469) _ _ (zkn_le hkn (by omega) (by omega)) x1 x2 x3 x4 v13 x2 v14 (0 : Int32) h10 E
  · refine z_iconst (v := (1 : Int32)) d_La_law_1428 (by decide) ?_
    refine z_goto (tgt := 1433) d_La_law_1429 (by decide) ?_
    refine z_lv [1, 2, 3, 4, 5, 0] rfl ?_
    exact (w_La_law_b1433 hQ hr1 hT hS hk1469) _ _ (zkn_le hkn (by omega) (by omega)) x1 x2 x3 x4 v13 x2 v14 (1 : Int32) h10 E
set_option maxRecDepth 100000 in
set_option maxHeartbeats 4000000 in
theorem w_La_law_b124 {X : zX} {r : pR} {G L b : Nat} {xs : Nat → Int32} {F : Nat} {k1469 : Nat → Nat → Nat → Int32 → pH → Option pR} (hQ : zQL X) (hr1 : r.1 = some (.int 1)) (hT : zLA X) (hS : zSC X b L xs) (hk1469 : ∀ (k n : Nat), zkn X (k + 8 * F) (n + 48 * F) → ∀ (x1 : Nat) (x2 : Nat) (x3 : Nat) (x4 : Int32) (h : pH), k1469 x1 x2 x3 x4 h = some r → Z X M_La_law k n h 1469 [(0, .ref b), (1, .ref x1), (2, .ref x2), (3, .ref x3), (4, .int x4)] []) : ∀ (k n : Nat), zkn X (k + 8 * F + 8) (n + 48 * F + 48) → ∀ (x1 : Nat) (x2 : Nat) (x3 : Nat) (x4 : Int32) (h : pH), f_La_law_b124 G L xs k1469 x1 x2 x3 x4 h = some r → Z X M_La_law k n h 124 [(0, .ref b), (1, .ref x1), (2, .ref x2), (3, .ref x3), (4, .int x4)] [] := by
  intro k n hkn x1 x2 x3 x4 h E
  rw [f_La_law_b124_eq] at E
  refine z_aload_n 1 d_La_law_124 rfl rfl ?_
  refine z_aload_n 0 d_La_law_125 rfl rfl ?_
  refine z_iload 4 d_La_law_126 rfl ?_
  refine z_iconst (v := (1 : Int32)) d_La_law_128 (by decide) ?_
  refine z_iadd d_La_law_129 ?_
  refine v_sld hS d_La_law_130 E (fun v16 _ E => ?_)
  refine z_aload_n 0 d_La_law_131 rfl rfl ?_
  refine z_iload 4 d_La_law_132 rfl ?_
  refine z_iconst (v := (2 : Int32)) d_La_law_134 (by decide) ?_
  refine z_iadd d_La_law_135 ?_
  refine v_sld hS d_La_law_136 E (fun v17 _ E => ?_)
  refine z_aload_n 0 d_La_law_137 rfl rfl ?_
  refine z_iload 4 d_La_law_138 rfl ?_
  refine z_iconst (v := (3 : Int32)) d_La_law_140 (by decide) ?_
  refine z_iadd d_La_law_141 ?_
  refine v_sld hS d_La_law_142 E (fun v18 _ E => ?_)
  refine z_aload_n 0 d_La_law_143 rfl rfl ?_
  refine z_iload 4 d_La_law_144 rfl ?_
  refine z_iconst (v := (4 : Int32)) d_La_law_146 (by decide) ?_
  refine z_iadd d_La_law_147 ?_
  refine v_sld hS d_La_law_148 E (fun v19 _ E => ?_)
  refine z_aload_n 3 d_La_law_149 rfl rfl ?_
  obtain ⟨g21, v23, h20, e22, E⟩ := cI_some E
  refine v_invSW (y := y_La_put) (Mc := M_La_put) (hh := hh_La_put) (av := [.ref x1, .int v16, .int v17, .int v18, .int v19, .ref x3]) (rest := []) (mc1 := 2) (ms1 := 12) hT ⟨zt_173, zt_174, zt_47⟩ zk_La_put zy_La_put (by decide) (Nat.le_of_ble_eq_true rfl) (zkn_le hkn (by omega) (by omega)) rfl (Nat.le_of_ble_eq_true rfl) d_La_law_150 (m_La_put (zLA_l hT) e22) ?_
  show Z X M_La_law (k + 2) (n + 12) h20 153 [(0, .ref b), (1, .ref x1), (2, .ref x2), (3, .ref x3), (4, .int x4)] [.int v23]
  refine z_istore (lv2 := [(5, .int v23), (0, .ref b), (1, .ref x1), (2, .ref x2), (3, .ref x3), (4, .int x4)]) d_La_law_153 (Nat.le_of_ble_eq_true rfl) rfl ?_
  refine z_aload_n 3 d_La_law_155 rfl rfl ?_
  refine z_aload_n 1 d_La_law_156 rfl rfl ?_
  refine z_iload 5 d_La_law_157 rfl ?_
  refine z_iconst (v := (1 : Int32)) d_La_law_159 (by decide) ?_
  refine z_iadd d_La_law_160 ?_
  refine v_sld hS d_La_law_161 E (fun v24 _ E => ?_)
  refine z_aload_n 1 d_La_law_162 rfl rfl ?_
  refine z_iload 5 d_La_law_163 rfl ?_
  refine z_iconst (v := (2 : Int32)) d_La_law_165 (by decide) ?_
  refine z_iadd d_La_law_166 ?_
  refine v_sld hS d_La_law_167 E (fun v25 _ E => ?_)
  refine z_aload_n 1 d_La_law_168 rfl rfl ?_
  refine z_iload 5 d_La_law_169 rfl ?_
  refine z_iconst (v := (3 : Int32)) d_La_law_171 (by decide) ?_
  refine z_iadd d_La_law_172 ?_
  refine v_sld hS d_La_law_173 E (fun v26 _ E => ?_)
  refine z_aload_n 1 d_La_law_174 rfl rfl ?_
  refine z_iload 5 d_La_law_175 rfl ?_
  refine z_iconst (v := (4 : Int32)) d_La_law_177 (by decide) ?_
  refine z_iadd d_La_law_178 ?_
  refine v_sld hS d_La_law_179 E (fun v27 _ E => ?_)
  obtain ⟨g29, v31, h28, e30, E⟩ := cI_some E
  refine z_invV (ci := 4) (y := y_Mo_put) (Mc := M_Mo_put) (av := [.int v24, .int v25, .int v26, .int v27]) (rest := []) rfl rfl ⟨zt_742, zt_743, zt_744, zt_52⟩ zk_Mo_put zy_Mo_put (by decide) (Nat.le_of_ble_eq_true rfl) (zkn_le hkn (by omega) (by omega)) rfl (Nat.le_of_ble_eq_true rfl) d_La_law_180 g29 (m_Mo_put e30) ?_
  show Z X M_La_law (k + 2) (n + 12) h28 183 [(5, .int v23), (0, .ref b), (1, .ref x1), (2, .ref x2), (3, .ref x3), (4, .int x4)] [.int v31]
  refine z_istore (lv2 := [(6, .int v31), (5, .int v23), (0, .ref b), (1, .ref x1), (2, .ref x2), (3, .ref x3), (4, .int x4)]) d_La_law_183 (Nat.le_of_ble_eq_true rfl) rfl ?_
  refine z_aload_n 4 d_La_law_185 rfl rfl ?_
  obtain ⟨g33, v35, h32, e34, E⟩ := cI_some E
  refine z_invV (ci := 4) (y := y_Mo_thrown) (Mc := M_Mo_thrown) (av := []) (rest := []) rfl rfl ⟨zt_738, zt_739, zt_740, zt_52⟩ zk_Mo_thrown zy_Mo_thrown (by decide) (Nat.le_of_ble_eq_true rfl) (zkn_le hkn (by omega) (by omega)) rfl (Nat.le_of_ble_eq_true rfl) d_La_law_186 g33 (m_Mo_thrown e34) ?_
  show Z X M_La_law (k + 2) (n + 12) h32 189 [(6, .int v31), (5, .int v23), (0, .ref b), (1, .ref x1), (2, .ref x2), (3, .ref x3), (4, .int x4)] [.int v35]
  refine z_iload 1 d_La_law_189 rfl ?_
  refine z_ic_eq (tgt := 196) d_La_law_191 (by decide) E (fun E => ?_) (fun E => ?_)
  · refine z_iload 1 d_La_law_196 rfl ?_
    refine z_if_ne (y := 0) (tgt := 213) d_La_law_198 (by decide) E (fun E => ?_) (fun E => ?_)
    · refine z_lv [2, 3, 4, 5, 6] rfl ?_
      exact (w_La_law_b213 hQ hr1 hT hS hk1469) _ _ (zkn_le hkn (by omega) (by omega)) x1 x2 x3 x4 h32 E
    · refine z_aload_n 5 d_La_law_201 rfl rfl ?_
      refine z_iconst (v := (0 : Int32)) d_La_law_202 (by decide) ?_
      refine z_laload d_La_law_203 E (fun v36 _ E => ?_)
      refine z_iload 0 d_La_law_204 rfl ?_
      refine z_i2l d_La_law_206 ?_
      refine z_lcmp d_La_law_207 ?_
      refine z_if_eq (y := 0) (tgt := 213) d_La_law_208 (by decide) E (fun E => ?_) (fun E => ?_)
      · refine z_lv [2, 3, 4, 5, 6] rfl ?_
        exact (w_La_law_b213 hQ hr1 hT hS hk1469) _ _ (zkn_le hkn (by omega) (by omega)) x1 x2 x3 x4 h32 E
      · refine z_iconst (v := (0 : Int32)) d_La_law_211 (by decide) ?_
        exact v_zreturn hQ hr1 rfl rfl (zkn_le hkn (by omega) (by omega)) d_La_law_212 E
  · refine z_iconst (v := (0 : Int32)) d_La_law_194 (by decide) ?_
    exact v_zreturn hQ hr1 rfl rfl (zkn_le hkn (by omega) (by omega)) d_La_law_195 E
set_option maxRecDepth 100000 in
set_option maxHeartbeats 4000000 in
theorem w_La_law_b216 {X : zX} {r : pR} {G L b : Nat} {xs : Nat → Int32} {F : Nat} {k1469 : Nat → Nat → Nat → Int32 → pH → Option pR} (hQ : zQL X) (hr1 : r.1 = some (.int 1)) (hT : zLA X) (hS : zSC X b L xs) (hk1469 : ∀ (k n : Nat), zkn X (k + 8 * F) (n + 48 * F) → ∀ (x1 : Nat) (x2 : Nat) (x3 : Nat) (x4 : Int32) (h : pH), k1469 x1 x2 x3 x4 h = some r → Z X M_La_law k n h 1469 [(0, .ref b), (1, .ref x1), (2, .ref x2), (3, .ref x3), (4, .int x4)] []) : ∀ (k n : Nat), zkn X (k + 8 * F + 8) (n + 48 * F + 48) → ∀ (x1 : Nat) (x2 : Nat) (x3 : Nat) (x4 : Int32) (h : pH), f_La_law_b216 G L xs k1469 x1 x2 x3 x4 h = some r → Z X M_La_law k n h 216 [(0, .ref b), (1, .ref x1), (2, .ref x2), (3, .ref x3), (4, .int x4)] [] := by
  intro k n hkn x1 x2 x3 x4 h E
  rw [f_La_law_b216_eq] at E
  refine z_aload_n 1 d_La_law_216 rfl rfl ?_
  refine z_aload_n 0 d_La_law_217 rfl rfl ?_
  refine z_iload 4 d_La_law_218 rfl ?_
  refine z_iconst (v := (1 : Int32)) d_La_law_220 (by decide) ?_
  refine z_iadd d_La_law_221 ?_
  refine v_sld hS d_La_law_222 E (fun v37 _ E => ?_)
  refine z_aload_n 0 d_La_law_223 rfl rfl ?_
  refine z_iload 4 d_La_law_224 rfl ?_
  refine z_iconst (v := (2 : Int32)) d_La_law_226 (by decide) ?_
  refine z_iadd d_La_law_227 ?_
  refine v_sld hS d_La_law_228 E (fun v38 _ E => ?_)
  refine z_aload_n 0 d_La_law_229 rfl rfl ?_
  refine z_iload 4 d_La_law_230 rfl ?_
  refine z_iconst (v := (3 : Int32)) d_La_law_232 (by decide) ?_
  refine z_iadd d_La_law_233 ?_
  refine v_sld hS d_La_law_234 E (fun v39 _ E => ?_)
  refine z_aload_n 0 d_La_law_235 rfl rfl ?_
  refine z_iload 4 d_La_law_236 rfl ?_
  refine z_iconst (v := (4 : Int32)) d_La_law_238 (by decide) ?_
  refine z_iadd d_La_law_239 ?_
  refine v_sld hS d_La_law_240 E (fun v40 _ E => ?_)
  refine z_aload_n 3 d_La_law_241 rfl rfl ?_
  obtain ⟨g42, v44, h41, e43, E⟩ := cI_some E
  refine v_invSW (y := y_La_drop) (Mc := M_La_drop) (hh := hh_La_drop) (av := [.ref x1, .int v37, .int v38, .int v39, .int v40, .ref x3]) (rest := []) (mc1 := 2) (ms1 := 12) hT ⟨zt_288, zt_289, zt_47⟩ zk_La_drop zy_La_drop (by decide) (Nat.le_of_ble_eq_true rfl) (zkn_le hkn (by omega) (by omega)) rfl (Nat.le_of_ble_eq_true rfl) d_La_law_242 (m_La_drop (zLA_l hT) e43) ?_
  show Z X M_La_law (k + 2) (n + 12) h41 245 [(0, .ref b), (1, .ref x1), (2, .ref x2), (3, .ref x3), (4, .int x4)] [.int v44]
  refine z_istore (lv2 := [(5, .int v44), (0, .ref b), (1, .ref x1), (2, .ref x2), (3, .ref x3), (4, .int x4)]) d_La_law_245 (Nat.le_of_ble_eq_true rfl) rfl ?_
  refine z_aload_n 3 d_La_law_247 rfl rfl ?_
  refine z_aload_n 1 d_La_law_248 rfl rfl ?_
  refine z_iload 5 d_La_law_249 rfl ?_
  refine z_iconst (v := (1 : Int32)) d_La_law_251 (by decide) ?_
  refine z_iadd d_La_law_252 ?_
  refine v_sld hS d_La_law_253 E (fun v45 _ E => ?_)
  refine z_aload_n 1 d_La_law_254 rfl rfl ?_
  refine z_iload 5 d_La_law_255 rfl ?_
  refine z_iconst (v := (2 : Int32)) d_La_law_257 (by decide) ?_
  refine z_iadd d_La_law_258 ?_
  refine v_sld hS d_La_law_259 E (fun v46 _ E => ?_)
  refine z_aload_n 1 d_La_law_260 rfl rfl ?_
  refine z_iload 5 d_La_law_261 rfl ?_
  refine z_iconst (v := (3 : Int32)) d_La_law_263 (by decide) ?_
  refine z_iadd d_La_law_264 ?_
  refine v_sld hS d_La_law_265 E (fun v47 _ E => ?_)
  refine z_aload_n 1 d_La_law_266 rfl rfl ?_
  refine z_iload 5 d_La_law_267 rfl ?_
  refine z_iconst (v := (4 : Int32)) d_La_law_269 (by decide) ?_
  refine z_iadd d_La_law_270 ?_
  refine v_sld hS d_La_law_271 E (fun v48 _ E => ?_)
  obtain ⟨g50, v52, h49, e51, E⟩ := cI_some E
  refine z_invV (ci := 4) (y := y_Mo_drop) (Mc := M_Mo_drop) (av := [.int v45, .int v46, .int v47, .int v48]) (rest := []) rfl rfl ⟨zt_772, zt_773, zt_774, zt_52⟩ zk_Mo_drop zy_Mo_drop (by decide) (Nat.le_of_ble_eq_true rfl) (zkn_le hkn (by omega) (by omega)) rfl (Nat.le_of_ble_eq_true rfl) d_La_law_272 g50 (m_Mo_drop e51) ?_
  show Z X M_La_law (k + 2) (n + 12) h49 275 [(5, .int v44), (0, .ref b), (1, .ref x1), (2, .ref x2), (3, .ref x3), (4, .int x4)] [.int v52]
  refine z_istore (lv2 := [(6, .int v52), (5, .int v44), (0, .ref b), (1, .ref x1), (2, .ref x2), (3, .ref x3), (4, .int x4)]) d_La_law_275 (Nat.le_of_ble_eq_true rfl) rfl ?_
  refine z_aload_n 4 d_La_law_277 rfl rfl ?_
  obtain ⟨g54, v56, h53, e55, E⟩ := cI_some E
  refine z_invV (ci := 4) (y := y_Mo_thrown) (Mc := M_Mo_thrown) (av := []) (rest := []) rfl rfl ⟨zt_738, zt_739, zt_740, zt_52⟩ zk_Mo_thrown zy_Mo_thrown (by decide) (Nat.le_of_ble_eq_true rfl) (zkn_le hkn (by omega) (by omega)) rfl (Nat.le_of_ble_eq_true rfl) d_La_law_278 g54 (m_Mo_thrown e55) ?_
  show Z X M_La_law (k + 2) (n + 12) h53 281 [(6, .int v52), (5, .int v44), (0, .ref b), (1, .ref x1), (2, .ref x2), (3, .ref x3), (4, .int x4)] [.int v56]
  refine z_iload 1 d_La_law_281 rfl ?_
  refine z_ic_eq (tgt := 288) d_La_law_283 (by decide) E (fun E => ?_) (fun E => ?_)
  · refine z_iload 1 d_La_law_288 rfl ?_
    refine z_if_ne (y := 0) (tgt := 305) d_La_law_290 (by decide) E (fun E => ?_) (fun E => ?_)
    · refine z_lv [2, 3, 4, 5, 6] rfl ?_
      exact (w_La_law_b305 hQ hr1 hT hS hk1469) _ _ (zkn_le hkn (by omega) (by omega)) x1 x2 x3 x4 h53 E
    · refine z_aload_n 5 d_La_law_293 rfl rfl ?_
      refine z_iconst (v := (0 : Int32)) d_La_law_294 (by decide) ?_
      refine z_laload d_La_law_295 E (fun v57 _ E => ?_)
      refine z_iload 0 d_La_law_296 rfl ?_
      refine z_i2l d_La_law_298 ?_
      refine z_lcmp d_La_law_299 ?_
      refine z_if_eq (y := 0) (tgt := 305) d_La_law_300 (by decide) E (fun E => ?_) (fun E => ?_)
      · refine z_lv [2, 3, 4, 5, 6] rfl ?_
        exact (w_La_law_b305 hQ hr1 hT hS hk1469) _ _ (zkn_le hkn (by omega) (by omega)) x1 x2 x3 x4 h53 E
      · refine z_iconst (v := (0 : Int32)) d_La_law_303 (by decide) ?_
        exact v_zreturn hQ hr1 rfl rfl (zkn_le hkn (by omega) (by omega)) d_La_law_304 E
  · refine z_iconst (v := (0 : Int32)) d_La_law_286 (by decide) ?_
    exact v_zreturn hQ hr1 rfl rfl (zkn_le hkn (by omega) (by omega)) d_La_law_287 E
set_option maxRecDepth 100000 in
set_option maxHeartbeats 4000000 in
theorem w_La_law_b308 {X : zX} {r : pR} {G L b : Nat} {xs : Nat → Int32} {F : Nat} {k1469 : Nat → Nat → Nat → Int32 → pH → Option pR} (hQ : zQL X) (hr1 : r.1 = some (.int 1)) (hT : zLA X) (hS : zSC X b L xs) (hk1469 : ∀ (k n : Nat), zkn X (k + 8 * F) (n + 48 * F) → ∀ (x1 : Nat) (x2 : Nat) (x3 : Nat) (x4 : Int32) (h : pH), k1469 x1 x2 x3 x4 h = some r → Z X M_La_law k n h 1469 [(0, .ref b), (1, .ref x1), (2, .ref x2), (3, .ref x3), (4, .int x4)] []) : ∀ (k n : Nat), zkn X (k + 8 * F + 8) (n + 48 * F + 48) → ∀ (x1 : Nat) (x2 : Nat) (x3 : Nat) (x4 : Int32) (h : pH), f_La_law_b308 G L xs k1469 x1 x2 x3 x4 h = some r → Z X M_La_law k n h 308 [(0, .ref b), (1, .ref x1), (2, .ref x2), (3, .ref x3), (4, .int x4)] [] := by
  intro k n hkn x1 x2 x3 x4 h E
  rw [f_La_law_b308_eq] at E
  refine z_aload_n 1 d_La_law_308 rfl rfl ?_
  refine z_aload_n 0 d_La_law_309 rfl rfl ?_
  refine z_iload 4 d_La_law_310 rfl ?_
  refine z_iconst (v := (1 : Int32)) d_La_law_312 (by decide) ?_
  refine z_iadd d_La_law_313 ?_
  refine v_sld hS d_La_law_314 E (fun v58 _ E => ?_)
  refine z_aload_n 0 d_La_law_315 rfl rfl ?_
  refine z_iload 4 d_La_law_316 rfl ?_
  refine z_iconst (v := (2 : Int32)) d_La_law_318 (by decide) ?_
  refine z_iadd d_La_law_319 ?_
  refine v_sld hS d_La_law_320 E (fun v59 _ E => ?_)
  refine z_aload_n 3 d_La_law_321 rfl rfl ?_
  obtain ⟨g61, v63, h60, e62, E⟩ := cI_some E
  refine v_invSW (y := y_La_copy) (Mc := M_La_copy) (hh := hh_La_copy) (av := [.ref x1, .int v58, .int v59, .ref x3]) (rest := []) (mc1 := 2) (ms1 := 12) hT ⟨zt_299, zt_300, zt_47⟩ zk_La_copy zy_La_copy (by decide) (Nat.le_of_ble_eq_true rfl) (zkn_le hkn (by omega) (by omega)) rfl (Nat.le_of_ble_eq_true rfl) d_La_law_322 (m_La_copy (zLA_l hT) e62) ?_
  show Z X M_La_law (k + 2) (n + 12) h60 325 [(0, .ref b), (1, .ref x1), (2, .ref x2), (3, .ref x3), (4, .int x4)] [.int v63]
  refine z_istore (lv2 := [(5, .int v63), (0, .ref b), (1, .ref x1), (2, .ref x2), (3, .ref x3), (4, .int x4)]) d_La_law_325 (Nat.le_of_ble_eq_true rfl) rfl ?_
  refine z_aload_n 3 d_La_law_327 rfl rfl ?_
  refine z_aload_n 1 d_La_law_328 rfl rfl ?_
  refine z_iload 5 d_La_law_329 rfl ?_
  refine z_iconst (v := (1 : Int32)) d_La_law_331 (by decide) ?_
  refine z_iadd d_La_law_332 ?_
  refine v_sld hS d_La_law_333 E (fun v64 _ E => ?_)
  refine z_aload_n 1 d_La_law_334 rfl rfl ?_
  refine z_iload 5 d_La_law_335 rfl ?_
  refine z_iconst (v := (2 : Int32)) d_La_law_337 (by decide) ?_
  refine z_iadd d_La_law_338 ?_
  refine v_sld hS d_La_law_339 E (fun v65 _ E => ?_)
  obtain ⟨g67, v69, h66, e68, E⟩ := cI_some E
  refine z_invV (ci := 4) (y := y_Mo_copy) (Mc := M_Mo_copy) (av := [.int v64, .int v65]) (rest := []) rfl rfl ⟨zt_776, zt_777, zt_778, zt_52⟩ zk_Mo_copy zy_Mo_copy (by decide) (Nat.le_of_ble_eq_true rfl) (zkn_le hkn (by omega) (by omega)) rfl (Nat.le_of_ble_eq_true rfl) d_La_law_340 g67 (m_Mo_copy e68) ?_
  show Z X M_La_law (k + 2) (n + 12) h66 343 [(5, .int v63), (0, .ref b), (1, .ref x1), (2, .ref x2), (3, .ref x3), (4, .int x4)] [.int v69]
  refine z_istore (lv2 := [(6, .int v69), (5, .int v63), (0, .ref b), (1, .ref x1), (2, .ref x2), (3, .ref x3), (4, .int x4)]) d_La_law_343 (Nat.le_of_ble_eq_true rfl) rfl ?_
  refine z_aload_n 4 d_La_law_345 rfl rfl ?_
  obtain ⟨g71, v73, h70, e72, E⟩ := cI_some E
  refine z_invV (ci := 4) (y := y_Mo_thrown) (Mc := M_Mo_thrown) (av := []) (rest := []) rfl rfl ⟨zt_738, zt_739, zt_740, zt_52⟩ zk_Mo_thrown zy_Mo_thrown (by decide) (Nat.le_of_ble_eq_true rfl) (zkn_le hkn (by omega) (by omega)) rfl (Nat.le_of_ble_eq_true rfl) d_La_law_346 g71 (m_Mo_thrown e72) ?_
  show Z X M_La_law (k + 2) (n + 12) h70 349 [(6, .int v69), (5, .int v63), (0, .ref b), (1, .ref x1), (2, .ref x2), (3, .ref x3), (4, .int x4)] [.int v73]
  refine z_iload 1 d_La_law_349 rfl ?_
  refine z_ic_eq (tgt := 356) d_La_law_351 (by decide) E (fun E => ?_) (fun E => ?_)
  · refine z_iload 1 d_La_law_356 rfl ?_
    refine z_if_ne (y := 0) (tgt := 373) d_La_law_358 (by decide) E (fun E => ?_) (fun E => ?_)
    · refine z_lv [2, 3, 4, 5, 6] rfl ?_
      exact (w_La_law_b373 hQ hr1 hT hS hk1469) _ _ (zkn_le hkn (by omega) (by omega)) x1 x2 x3 x4 h70 E
    · refine z_aload_n 5 d_La_law_361 rfl rfl ?_
      refine z_iconst (v := (0 : Int32)) d_La_law_362 (by decide) ?_
      refine z_laload d_La_law_363 E (fun v74 _ E => ?_)
      refine z_iload 0 d_La_law_364 rfl ?_
      refine z_i2l d_La_law_366 ?_
      refine z_lcmp d_La_law_367 ?_
      refine z_if_eq (y := 0) (tgt := 373) d_La_law_368 (by decide) E (fun E => ?_) (fun E => ?_)
      · refine z_lv [2, 3, 4, 5, 6] rfl ?_
        exact (w_La_law_b373 hQ hr1 hT hS hk1469) _ _ (zkn_le hkn (by omega) (by omega)) x1 x2 x3 x4 h70 E
      · refine z_iconst (v := (0 : Int32)) d_La_law_371 (by decide) ?_
        exact v_zreturn hQ hr1 rfl rfl (zkn_le hkn (by omega) (by omega)) d_La_law_372 E
  · refine z_iconst (v := (0 : Int32)) d_La_law_354 (by decide) ?_
    exact v_zreturn hQ hr1 rfl rfl (zkn_le hkn (by omega) (by omega)) d_La_law_355 E
set_option maxRecDepth 100000 in
set_option maxHeartbeats 4000000 in
theorem w_La_law_b376 {X : zX} {r : pR} {G L b : Nat} {xs : Nat → Int32} {F : Nat} {k1469 : Nat → Nat → Nat → Int32 → pH → Option pR} (hQ : zQL X) (hr1 : r.1 = some (.int 1)) (hT : zLA X) (hS : zSC X b L xs) (hk1469 : ∀ (k n : Nat), zkn X (k + 8 * F) (n + 48 * F) → ∀ (x1 : Nat) (x2 : Nat) (x3 : Nat) (x4 : Int32) (h : pH), k1469 x1 x2 x3 x4 h = some r → Z X M_La_law k n h 1469 [(0, .ref b), (1, .ref x1), (2, .ref x2), (3, .ref x3), (4, .int x4)] []) : ∀ (k n : Nat), zkn X (k + 8 * F + 8) (n + 48 * F + 48) → ∀ (x1 : Nat) (x2 : Nat) (x3 : Nat) (x4 : Int32) (h : pH), f_La_law_b376 G L xs k1469 x1 x2 x3 x4 h = some r → Z X M_La_law k n h 376 [(0, .ref b), (1, .ref x1), (2, .ref x2), (3, .ref x3), (4, .int x4)] [] := by
  intro k n hkn x1 x2 x3 x4 h E
  rw [f_La_law_b376_eq] at E
  refine z_aload_n 1 d_La_law_376 rfl rfl ?_
  refine z_aload_n 0 d_La_law_377 rfl rfl ?_
  refine z_iload 4 d_La_law_378 rfl ?_
  refine z_iconst (v := (1 : Int32)) d_La_law_380 (by decide) ?_
  refine z_iadd d_La_law_381 ?_
  refine v_sld hS d_La_law_382 E (fun v75 _ E => ?_)
  refine z_aload_n 0 d_La_law_383 rfl rfl ?_
  refine z_iload 4 d_La_law_384 rfl ?_
  refine z_iconst (v := (2 : Int32)) d_La_law_386 (by decide) ?_
  refine z_iadd d_La_law_387 ?_
  refine v_sld hS d_La_law_388 E (fun v76 _ E => ?_)
  refine z_aload_n 3 d_La_law_389 rfl rfl ?_
  obtain ⟨g78, v80, h77, e79, E⟩ := cI_some E
  refine v_invSW (y := y_La_size) (Mc := M_La_size) (hh := hh_La_size) (av := [.ref x1, .int v75, .int v76, .ref x3]) (rest := []) (mc1 := 2) (ms1 := 12) hT ⟨zt_314, zt_315, zt_47⟩ zk_La_size zy_La_size (by decide) (Nat.le_of_ble_eq_true rfl) (zkn_le hkn (by omega) (by omega)) rfl (Nat.le_of_ble_eq_true rfl) d_La_law_390 (m_La_size (zLA_l hT) e79) ?_
  show Z X M_La_law (k + 2) (n + 12) h77 393 [(0, .ref b), (1, .ref x1), (2, .ref x2), (3, .ref x3), (4, .int x4)] [.int v80]
  refine z_istore (lv2 := [(5, .int v80), (0, .ref b), (1, .ref x1), (2, .ref x2), (3, .ref x3), (4, .int x4)]) d_La_law_393 (Nat.le_of_ble_eq_true rfl) rfl ?_
  refine z_aload_n 3 d_La_law_395 rfl rfl ?_
  refine z_aload_n 1 d_La_law_396 rfl rfl ?_
  refine z_iload 5 d_La_law_397 rfl ?_
  refine z_iconst (v := (1 : Int32)) d_La_law_399 (by decide) ?_
  refine z_iadd d_La_law_400 ?_
  refine v_sld hS d_La_law_401 E (fun v81 _ E => ?_)
  refine z_aload_n 1 d_La_law_402 rfl rfl ?_
  refine z_iload 5 d_La_law_403 rfl ?_
  refine z_iconst (v := (2 : Int32)) d_La_law_405 (by decide) ?_
  refine z_iadd d_La_law_406 ?_
  refine v_sld hS d_La_law_407 E (fun v82 _ E => ?_)
  obtain ⟨g84, v86, h83, e85, E⟩ := cI_some E
  refine z_invV (ci := 4) (y := y_Mo_size) (Mc := M_Mo_size) (av := [.int v81, .int v82]) (rest := []) rfl rfl ⟨zt_784, zt_785, zt_786, zt_52⟩ zk_Mo_size zy_Mo_size (by decide) (Nat.le_of_ble_eq_true rfl) (zkn_le hkn (by omega) (by omega)) rfl (Nat.le_of_ble_eq_true rfl) d_La_law_408 g84 (m_Mo_size e85) ?_
  show Z X M_La_law (k + 2) (n + 12) h83 411 [(5, .int v80), (0, .ref b), (1, .ref x1), (2, .ref x2), (3, .ref x3), (4, .int x4)] [.int v86]
  refine z_istore (lv2 := [(6, .int v86), (5, .int v80), (0, .ref b), (1, .ref x1), (2, .ref x2), (3, .ref x3), (4, .int x4)]) d_La_law_411 (Nat.le_of_ble_eq_true rfl) rfl ?_
  refine z_aload_n 4 d_La_law_413 rfl rfl ?_
  obtain ⟨g88, v90, h87, e89, E⟩ := cI_some E
  refine z_invV (ci := 4) (y := y_Mo_thrown) (Mc := M_Mo_thrown) (av := []) (rest := []) rfl rfl ⟨zt_738, zt_739, zt_740, zt_52⟩ zk_Mo_thrown zy_Mo_thrown (by decide) (Nat.le_of_ble_eq_true rfl) (zkn_le hkn (by omega) (by omega)) rfl (Nat.le_of_ble_eq_true rfl) d_La_law_414 g88 (m_Mo_thrown e89) ?_
  show Z X M_La_law (k + 2) (n + 12) h87 417 [(6, .int v86), (5, .int v80), (0, .ref b), (1, .ref x1), (2, .ref x2), (3, .ref x3), (4, .int x4)] [.int v90]
  refine z_iload 1 d_La_law_417 rfl ?_
  refine z_ic_eq (tgt := 424) d_La_law_419 (by decide) E (fun E => ?_) (fun E => ?_)
  · refine z_iload 1 d_La_law_424 rfl ?_
    refine z_if_ne (y := 0) (tgt := 441) d_La_law_426 (by decide) E (fun E => ?_) (fun E => ?_)
    · refine z_lv [2, 3, 4, 5, 6] rfl ?_
      exact (w_La_law_b441 hQ hr1 hT hS hk1469) _ _ (zkn_le hkn (by omega) (by omega)) x1 x2 x3 x4 h87 E
    · refine z_aload_n 5 d_La_law_429 rfl rfl ?_
      refine z_iconst (v := (0 : Int32)) d_La_law_430 (by decide) ?_
      refine z_laload d_La_law_431 E (fun v91 _ E => ?_)
      refine z_iload 0 d_La_law_432 rfl ?_
      refine z_i2l d_La_law_434 ?_
      refine z_lcmp d_La_law_435 ?_
      refine z_if_eq (y := 0) (tgt := 441) d_La_law_436 (by decide) E (fun E => ?_) (fun E => ?_)
      · refine z_lv [2, 3, 4, 5, 6] rfl ?_
        exact (w_La_law_b441 hQ hr1 hT hS hk1469) _ _ (zkn_le hkn (by omega) (by omega)) x1 x2 x3 x4 h87 E
      · refine z_iconst (v := (0 : Int32)) d_La_law_439 (by decide) ?_
        exact v_zreturn hQ hr1 rfl rfl (zkn_le hkn (by omega) (by omega)) d_La_law_440 E
  · refine z_iconst (v := (0 : Int32)) d_La_law_422 (by decide) ?_
    exact v_zreturn hQ hr1 rfl rfl (zkn_le hkn (by omega) (by omega)) d_La_law_423 E
set_option maxRecDepth 100000 in
set_option maxHeartbeats 4000000 in
theorem w_La_law_b444 {X : zX} {r : pR} {G L b : Nat} {xs : Nat → Int32} {F : Nat} {k1469 : Nat → Nat → Nat → Int32 → pH → Option pR} (hQ : zQL X) (hr1 : r.1 = some (.int 1)) (hT : zLA X) (hS : zSC X b L xs) (hk1469 : ∀ (k n : Nat), zkn X (k + 8 * F) (n + 48 * F) → ∀ (x1 : Nat) (x2 : Nat) (x3 : Nat) (x4 : Int32) (h : pH), k1469 x1 x2 x3 x4 h = some r → Z X M_La_law k n h 1469 [(0, .ref b), (1, .ref x1), (2, .ref x2), (3, .ref x3), (4, .int x4)] []) : ∀ (k n : Nat), zkn X (k + 8 * F + 8) (n + 48 * F + 48) → ∀ (x1 : Nat) (x2 : Nat) (x3 : Nat) (x4 : Int32) (h : pH), f_La_law_b444 G L xs k1469 x1 x2 x3 x4 h = some r → Z X M_La_law k n h 444 [(0, .ref b), (1, .ref x1), (2, .ref x2), (3, .ref x3), (4, .int x4)] [] := by
  intro k n hkn x1 x2 x3 x4 h E
  rw [f_La_law_b444_eq] at E
  refine z_aload_n 1 d_La_law_444 rfl rfl ?_
  refine z_aload_n 0 d_La_law_445 rfl rfl ?_
  refine z_iload 4 d_La_law_446 rfl ?_
  refine z_iconst (v := (1 : Int32)) d_La_law_448 (by decide) ?_
  refine z_iadd d_La_law_449 ?_
  refine v_sld hS d_La_law_450 E (fun v92 _ E => ?_)
  refine z_aload_n 0 d_La_law_451 rfl rfl ?_
  refine z_iload 4 d_La_law_452 rfl ?_
  refine z_iconst (v := (2 : Int32)) d_La_law_454 (by decide) ?_
  refine z_iadd d_La_law_455 ?_
  refine v_sld hS d_La_law_456 E (fun v93 _ E => ?_)
  refine z_aload_n 3 d_La_law_457 rfl rfl ?_
  obtain ⟨g95, v97, h94, e96, E⟩ := cI_some E
  refine v_invSW (y := y_La_fact) (Mc := M_La_fact) (hh := hh_La_fact) (av := [.ref x1, .int v92, .int v93, .ref x3]) (rest := []) (mc1 := 2) (ms1 := 12) hT ⟨zt_344, zt_345, zt_47⟩ zk_La_fact zy_La_fact (by decide) (Nat.le_of_ble_eq_true rfl) (zkn_le hkn (by omega) (by omega)) rfl (Nat.le_of_ble_eq_true rfl) d_La_law_458 (m_La_fact (zLA_l hT) e96) ?_
  show Z X M_La_law (k + 2) (n + 12) h94 461 [(0, .ref b), (1, .ref x1), (2, .ref x2), (3, .ref x3), (4, .int x4)] [.int v97]
  refine z_istore (lv2 := [(5, .int v97), (0, .ref b), (1, .ref x1), (2, .ref x2), (3, .ref x3), (4, .int x4)]) d_La_law_461 (Nat.le_of_ble_eq_true rfl) rfl ?_
  refine z_aload_n 3 d_La_law_463 rfl rfl ?_
  refine z_aload_n 1 d_La_law_464 rfl rfl ?_
  refine z_iload 5 d_La_law_465 rfl ?_
  refine z_iconst (v := (1 : Int32)) d_La_law_467 (by decide) ?_
  refine z_iadd d_La_law_468 ?_
  refine v_sld hS d_La_law_469 E (fun v98 _ E => ?_)
  refine z_aload_n 1 d_La_law_470 rfl rfl ?_
  refine z_iload 5 d_La_law_471 rfl ?_
  refine z_iconst (v := (2 : Int32)) d_La_law_473 (by decide) ?_
  refine z_iadd d_La_law_474 ?_
  refine v_sld hS d_La_law_475 E (fun v99 _ E => ?_)
  obtain ⟨g101, v103, h100, e102, E⟩ := cI_some E
  refine z_invV (ci := 4) (y := y_Mo_fact) (Mc := M_Mo_fact) (av := [.int v98, .int v99]) (rest := []) rfl rfl ⟨zt_802, zt_803, zt_804, zt_52⟩ zk_Mo_fact zy_Mo_fact (by decide) (Nat.le_of_ble_eq_true rfl) (zkn_le hkn (by omega) (by omega)) rfl (Nat.le_of_ble_eq_true rfl) d_La_law_476 g101 (m_Mo_fact e102) ?_
  show Z X M_La_law (k + 2) (n + 12) h100 479 [(5, .int v97), (0, .ref b), (1, .ref x1), (2, .ref x2), (3, .ref x3), (4, .int x4)] [.int v103]
  refine z_istore (lv2 := [(6, .int v103), (5, .int v97), (0, .ref b), (1, .ref x1), (2, .ref x2), (3, .ref x3), (4, .int x4)]) d_La_law_479 (Nat.le_of_ble_eq_true rfl) rfl ?_
  refine z_aload_n 4 d_La_law_481 rfl rfl ?_
  obtain ⟨g105, v107, h104, e106, E⟩ := cI_some E
  refine z_invV (ci := 4) (y := y_Mo_thrown) (Mc := M_Mo_thrown) (av := []) (rest := []) rfl rfl ⟨zt_738, zt_739, zt_740, zt_52⟩ zk_Mo_thrown zy_Mo_thrown (by decide) (Nat.le_of_ble_eq_true rfl) (zkn_le hkn (by omega) (by omega)) rfl (Nat.le_of_ble_eq_true rfl) d_La_law_482 g105 (m_Mo_thrown e106) ?_
  show Z X M_La_law (k + 2) (n + 12) h104 485 [(6, .int v103), (5, .int v97), (0, .ref b), (1, .ref x1), (2, .ref x2), (3, .ref x3), (4, .int x4)] [.int v107]
  refine z_iload 1 d_La_law_485 rfl ?_
  refine z_ic_eq (tgt := 492) d_La_law_487 (by decide) E (fun E => ?_) (fun E => ?_)
  · refine z_iload 1 d_La_law_492 rfl ?_
    refine z_if_ne (y := 0) (tgt := 509) d_La_law_494 (by decide) E (fun E => ?_) (fun E => ?_)
    · refine z_lv [2, 3, 4, 5, 6] rfl ?_
      exact (w_La_law_b509 hQ hr1 hT hS hk1469) _ _ (zkn_le hkn (by omega) (by omega)) x1 x2 x3 x4 h104 E
    · refine z_aload_n 5 d_La_law_497 rfl rfl ?_
      refine z_iconst (v := (0 : Int32)) d_La_law_498 (by decide) ?_
      refine z_laload d_La_law_499 E (fun v108 _ E => ?_)
      refine z_iload 0 d_La_law_500 rfl ?_
      refine z_i2l d_La_law_502 ?_
      refine z_lcmp d_La_law_503 ?_
      refine z_if_eq (y := 0) (tgt := 509) d_La_law_504 (by decide) E (fun E => ?_) (fun E => ?_)
      · refine z_lv [2, 3, 4, 5, 6] rfl ?_
        exact (w_La_law_b509 hQ hr1 hT hS hk1469) _ _ (zkn_le hkn (by omega) (by omega)) x1 x2 x3 x4 h104 E
      · refine z_iconst (v := (0 : Int32)) d_La_law_507 (by decide) ?_
        exact v_zreturn hQ hr1 rfl rfl (zkn_le hkn (by omega) (by omega)) d_La_law_508 E
  · refine z_iconst (v := (0 : Int32)) d_La_law_490 (by decide) ?_
    exact v_zreturn hQ hr1 rfl rfl (zkn_le hkn (by omega) (by omega)) d_La_law_491 E
set_option maxRecDepth 100000 in
set_option maxHeartbeats 4000000 in
theorem w_La_law_b512 {X : zX} {r : pR} {G L b : Nat} {xs : Nat → Int32} {F : Nat} {k1469 : Nat → Nat → Nat → Int32 → pH → Option pR} (hQ : zQL X) (hr1 : r.1 = some (.int 1)) (hT : zLA X) (hS : zSC X b L xs) (hk1469 : ∀ (k n : Nat), zkn X (k + 8 * F) (n + 48 * F) → ∀ (x1 : Nat) (x2 : Nat) (x3 : Nat) (x4 : Int32) (h : pH), k1469 x1 x2 x3 x4 h = some r → Z X M_La_law k n h 1469 [(0, .ref b), (1, .ref x1), (2, .ref x2), (3, .ref x3), (4, .int x4)] []) : ∀ (k n : Nat), zkn X (k + 8 * F + 8) (n + 48 * F + 48) → ∀ (x1 : Nat) (x2 : Nat) (x3 : Nat) (x4 : Int32) (h : pH), f_La_law_b512 G L xs k1469 x1 x2 x3 x4 h = some r → Z X M_La_law k n h 512 [(0, .ref b), (1, .ref x1), (2, .ref x2), (3, .ref x3), (4, .int x4)] [] := by
  intro k n hkn x1 x2 x3 x4 h E
  rw [f_La_law_b512_eq] at E
  refine z_aload_n 1 d_La_law_512 rfl rfl ?_
  refine z_aload_n 0 d_La_law_513 rfl rfl ?_
  refine z_iload 4 d_La_law_514 rfl ?_
  refine z_iconst (v := (1 : Int32)) d_La_law_516 (by decide) ?_
  refine z_iadd d_La_law_517 ?_
  refine v_sld hS d_La_law_518 E (fun v109 _ E => ?_)
  refine z_aload_n 0 d_La_law_519 rfl rfl ?_
  refine z_iload 4 d_La_law_520 rfl ?_
  refine z_iconst (v := (2 : Int32)) d_La_law_522 (by decide) ?_
  refine z_iadd d_La_law_523 ?_
  refine v_sld hS d_La_law_524 E (fun v110 _ E => ?_)
  refine z_aload_n 3 d_La_law_525 rfl rfl ?_
  obtain ⟨g112, v114, h111, e113, E⟩ := cI_some E
  refine v_invSW (y := y_La_alike) (Mc := M_La_alike) (hh := hh_La_alike) (av := [.ref x1, .int v109, .int v110, .ref x3]) (rest := []) (mc1 := 2) (ms1 := 12) hT ⟨zt_356, zt_357, zt_47⟩ zk_La_alike zy_La_alike (by decide) (Nat.le_of_ble_eq_true rfl) (zkn_le hkn (by omega) (by omega)) rfl (Nat.le_of_ble_eq_true rfl) d_La_law_526 (m_La_alike (zLA_l hT) e113) ?_
  show Z X M_La_law (k + 2) (n + 12) h111 529 [(0, .ref b), (1, .ref x1), (2, .ref x2), (3, .ref x3), (4, .int x4)] [.int v114]
  refine z_istore (lv2 := [(5, .int v114), (0, .ref b), (1, .ref x1), (2, .ref x2), (3, .ref x3), (4, .int x4)]) d_La_law_529 (Nat.le_of_ble_eq_true rfl) rfl ?_
  refine z_aload_n 3 d_La_law_531 rfl rfl ?_
  refine z_aload_n 1 d_La_law_532 rfl rfl ?_
  refine z_iload 5 d_La_law_533 rfl ?_
  refine z_iconst (v := (1 : Int32)) d_La_law_535 (by decide) ?_
  refine z_iadd d_La_law_536 ?_
  refine v_sld hS d_La_law_537 E (fun v115 _ E => ?_)
  refine z_aload_n 1 d_La_law_538 rfl rfl ?_
  refine z_iload 5 d_La_law_539 rfl ?_
  refine z_iconst (v := (2 : Int32)) d_La_law_541 (by decide) ?_
  refine z_iadd d_La_law_542 ?_
  refine v_sld hS d_La_law_543 E (fun v116 _ E => ?_)
  obtain ⟨g118, v120, h117, e119, E⟩ := cI_some E
  refine z_invV (ci := 4) (y := y_Mo_alike) (Mc := M_Mo_alike) (av := [.int v115, .int v116]) (rest := []) rfl rfl ⟨zt_806, zt_807, zt_808, zt_52⟩ zk_Mo_alike zy_Mo_alike (by decide) (Nat.le_of_ble_eq_true rfl) (zkn_le hkn (by omega) (by omega)) rfl (Nat.le_of_ble_eq_true rfl) d_La_law_544 g118 (m_Mo_alike e119) ?_
  show Z X M_La_law (k + 2) (n + 12) h117 547 [(5, .int v114), (0, .ref b), (1, .ref x1), (2, .ref x2), (3, .ref x3), (4, .int x4)] [.int v120]
  refine z_istore (lv2 := [(6, .int v120), (5, .int v114), (0, .ref b), (1, .ref x1), (2, .ref x2), (3, .ref x3), (4, .int x4)]) d_La_law_547 (Nat.le_of_ble_eq_true rfl) rfl ?_
  refine z_aload_n 4 d_La_law_549 rfl rfl ?_
  obtain ⟨g122, v124, h121, e123, E⟩ := cI_some E
  refine z_invV (ci := 4) (y := y_Mo_thrown) (Mc := M_Mo_thrown) (av := []) (rest := []) rfl rfl ⟨zt_738, zt_739, zt_740, zt_52⟩ zk_Mo_thrown zy_Mo_thrown (by decide) (Nat.le_of_ble_eq_true rfl) (zkn_le hkn (by omega) (by omega)) rfl (Nat.le_of_ble_eq_true rfl) d_La_law_550 g122 (m_Mo_thrown e123) ?_
  show Z X M_La_law (k + 2) (n + 12) h121 553 [(6, .int v120), (5, .int v114), (0, .ref b), (1, .ref x1), (2, .ref x2), (3, .ref x3), (4, .int x4)] [.int v124]
  refine z_iload 1 d_La_law_553 rfl ?_
  refine z_ic_eq (tgt := 560) d_La_law_555 (by decide) E (fun E => ?_) (fun E => ?_)
  · refine z_iload 1 d_La_law_560 rfl ?_
    refine z_if_ne (y := 0) (tgt := 584) d_La_law_562 (by decide) E (fun E => ?_) (fun E => ?_)
    · refine z_lv [2, 3, 4, 5, 6] rfl ?_
      exact (w_La_law_b584 hQ hr1 hT hS hk1469) _ _ (zkn_le hkn (by omega) (by omega)) x1 x2 x3 x4 h121 E
    · refine z_aload_n 5 d_La_law_565 rfl rfl ?_
      refine z_iconst (v := (0 : Int32)) d_La_law_566 (by decide) ?_
      refine z_laload d_La_law_567 E (fun v125 _ E => ?_)
      refine z_iload 0 d_La_law_568 rfl ?_
      refine z_if_eq (y := 0) (tgt := 577) d_La_law_570 (by decide) E (fun E => ?_) (fun E => ?_)
      · refine z_lconst (v := (0 : Int64)) d_La_law_577 (by decide) ?_
        refine z_lv [2, 3, 4, 5, 6] rfl ?_
        exact (w_La_law_b578 hQ hr1 hT hS (w_La_law_b584 hQ hr1 hT hS hk1469)) _ _ (zkn_le hkn (by omega) (by omega)) x1 x2 x3 x4 v125 (0 : Int64) h121 E
      · refine z_lconst (v := (1 : Int64)) d_La_law_573 (by decide) ?_
        refine z_goto (tgt := 578) d_La_law_574 (by decide) ?_
        refine z_lv [2, 3, 4, 5, 6] rfl ?_
        exact (w_La_law_b578 hQ hr1 hT hS (w_La_law_b584 hQ hr1 hT hS hk1469)) _ _ (zkn_le hkn (by omega) (by omega)) x1 x2 x3 x4 v125 (1 : Int64) h121 E
  · refine z_iconst (v := (0 : Int32)) d_La_law_558 (by decide) ?_
    exact v_zreturn hQ hr1 rfl rfl (zkn_le hkn (by omega) (by omega)) d_La_law_559 E
set_option maxRecDepth 100000 in
set_option maxHeartbeats 4000000 in
theorem w_La_law_b587 {X : zX} {r : pR} {G L b : Nat} {xs : Nat → Int32} {F : Nat} {k1469 : Nat → Nat → Nat → Int32 → pH → Option pR} (hQ : zQL X) (hr1 : r.1 = some (.int 1)) (hT : zLA X) (hS : zSC X b L xs) (hk1469 : ∀ (k n : Nat), zkn X (k + 8 * F) (n + 48 * F) → ∀ (x1 : Nat) (x2 : Nat) (x3 : Nat) (x4 : Int32) (h : pH), k1469 x1 x2 x3 x4 h = some r → Z X M_La_law k n h 1469 [(0, .ref b), (1, .ref x1), (2, .ref x2), (3, .ref x3), (4, .int x4)] []) : ∀ (k n : Nat), zkn X (k + 8 * F + 8) (n + 48 * F + 48) → ∀ (x1 : Nat) (x2 : Nat) (x3 : Nat) (x4 : Int32) (h : pH), f_La_law_b587 G L xs k1469 x1 x2 x3 x4 h = some r → Z X M_La_law k n h 587 [(0, .ref b), (1, .ref x1), (2, .ref x2), (3, .ref x3), (4, .int x4)] [] := by
  intro k n hkn x1 x2 x3 x4 h E
  rw [f_La_law_b587_eq] at E
  refine z_aload_n 1 d_La_law_587 rfl rfl ?_
  refine z_aload_n 0 d_La_law_588 rfl rfl ?_
  refine z_iload 4 d_La_law_589 rfl ?_
  refine z_iconst (v := (1 : Int32)) d_La_law_591 (by decide) ?_
  refine z_iadd d_La_law_592 ?_
  refine v_sld hS d_La_law_593 E (fun v126 _ E => ?_)
  refine z_aload_n 0 d_La_law_594 rfl rfl ?_
  refine z_iload 4 d_La_law_595 rfl ?_
  refine z_iconst (v := (2 : Int32)) d_La_law_597 (by decide) ?_
  refine z_iadd d_La_law_598 ?_
  refine v_sld hS d_La_law_599 E (fun v127 _ E => ?_)
  refine z_aload_n 0 d_La_law_600 rfl rfl ?_
  refine z_iload 4 d_La_law_601 rfl ?_
  refine z_iconst (v := (3 : Int32)) d_La_law_603 (by decide) ?_
  refine z_iadd d_La_law_604 ?_
  refine v_sld hS d_La_law_605 E (fun v128 _ E => ?_)
  refine z_aload_n 3 d_La_law_606 rfl rfl ?_
  obtain ⟨g130, v132, h129, e131, E⟩ := cI_some E
  refine v_invSW (y := y_La_image) (Mc := M_La_image) (hh := hh_La_image) (av := [.ref x1, .int v126, .int v127, .int v128, .ref x3]) (rest := []) (mc1 := 2) (ms1 := 12) hT ⟨zt_453, zt_454, zt_47⟩ zk_La_image zy_La_image (by decide) (Nat.le_of_ble_eq_true rfl) (zkn_le hkn (by omega) (by omega)) rfl (Nat.le_of_ble_eq_true rfl) d_La_law_607 (m_La_image (zLA_l hT) e131) ?_
  show Z X M_La_law (k + 2) (n + 12) h129 610 [(0, .ref b), (1, .ref x1), (2, .ref x2), (3, .ref x3), (4, .int x4)] [.int v132]
  refine z_istore (lv2 := [(5, .int v132), (0, .ref b), (1, .ref x1), (2, .ref x2), (3, .ref x3), (4, .int x4)]) d_La_law_610 (Nat.le_of_ble_eq_true rfl) rfl ?_
  refine z_aload_n 3 d_La_law_612 rfl rfl ?_
  refine z_aload_n 1 d_La_law_613 rfl rfl ?_
  refine z_iload 5 d_La_law_614 rfl ?_
  refine z_iconst (v := (1 : Int32)) d_La_law_616 (by decide) ?_
  refine z_iadd d_La_law_617 ?_
  refine v_sld hS d_La_law_618 E (fun v133 _ E => ?_)
  refine z_aload_n 1 d_La_law_619 rfl rfl ?_
  refine z_iload 5 d_La_law_620 rfl ?_
  refine z_iconst (v := (2 : Int32)) d_La_law_622 (by decide) ?_
  refine z_iadd d_La_law_623 ?_
  refine v_sld hS d_La_law_624 E (fun v134 _ E => ?_)
  refine z_aload_n 1 d_La_law_625 rfl rfl ?_
  refine z_iload 5 d_La_law_626 rfl ?_
  refine z_iconst (v := (3 : Int32)) d_La_law_628 (by decide) ?_
  refine z_iadd d_La_law_629 ?_
  refine v_sld hS d_La_law_630 E (fun v135 _ E => ?_)
  obtain ⟨g137, v139, h136, e138, E⟩ := cI_some E
  refine z_invV (ci := 4) (y := y_Mo_image) (Mc := M_Mo_image) (av := [.int v133, .int v134, .int v135]) (rest := []) rfl rfl ⟨zt_846, zt_847, zt_848, zt_52⟩ zk_Mo_image zy_Mo_image (by decide) (Nat.le_of_ble_eq_true rfl) (zkn_le hkn (by omega) (by omega)) rfl (Nat.le_of_ble_eq_true rfl) d_La_law_631 g137 (m_Mo_image e138) ?_
  show Z X M_La_law (k + 2) (n + 12) h136 634 [(5, .int v132), (0, .ref b), (1, .ref x1), (2, .ref x2), (3, .ref x3), (4, .int x4)] [.int v139]
  refine z_istore (lv2 := [(6, .int v139), (5, .int v132), (0, .ref b), (1, .ref x1), (2, .ref x2), (3, .ref x3), (4, .int x4)]) d_La_law_634 (Nat.le_of_ble_eq_true rfl) rfl ?_
  refine z_aload_n 4 d_La_law_636 rfl rfl ?_
  obtain ⟨g141, v143, h140, e142, E⟩ := cI_some E
  refine z_invV (ci := 4) (y := y_Mo_thrown) (Mc := M_Mo_thrown) (av := []) (rest := []) rfl rfl ⟨zt_738, zt_739, zt_740, zt_52⟩ zk_Mo_thrown zy_Mo_thrown (by decide) (Nat.le_of_ble_eq_true rfl) (zkn_le hkn (by omega) (by omega)) rfl (Nat.le_of_ble_eq_true rfl) d_La_law_637 g141 (m_Mo_thrown e142) ?_
  show Z X M_La_law (k + 2) (n + 12) h140 640 [(6, .int v139), (5, .int v132), (0, .ref b), (1, .ref x1), (2, .ref x2), (3, .ref x3), (4, .int x4)] [.int v143]
  refine z_iload 1 d_La_law_640 rfl ?_
  refine z_ic_eq (tgt := 647) d_La_law_642 (by decide) E (fun E => ?_) (fun E => ?_)
  · refine z_iload 1 d_La_law_647 rfl ?_
    refine z_if_ne (y := 0) (tgt := 664) d_La_law_649 (by decide) E (fun E => ?_) (fun E => ?_)
    · refine z_lv [2, 3, 4, 5, 6] rfl ?_
      exact (w_La_law_b664 hQ hr1 hT hS hk1469) _ _ (zkn_le hkn (by omega) (by omega)) x1 x2 x3 x4 h140 E
    · refine z_aload_n 5 d_La_law_652 rfl rfl ?_
      refine z_iconst (v := (0 : Int32)) d_La_law_653 (by decide) ?_
      refine z_laload d_La_law_654 E (fun v144 _ E => ?_)
      refine z_iload 0 d_La_law_655 rfl ?_
      refine z_i2l d_La_law_657 ?_
      refine z_lcmp d_La_law_658 ?_
      refine z_if_eq (y := 0) (tgt := 664) d_La_law_659 (by decide) E (fun E => ?_) (fun E => ?_)
      · refine z_lv [2, 3, 4, 5, 6] rfl ?_
        exact (w_La_law_b664 hQ hr1 hT hS hk1469) _ _ (zkn_le hkn (by omega) (by omega)) x1 x2 x3 x4 h140 E
      · refine z_iconst (v := (0 : Int32)) d_La_law_662 (by decide) ?_
        exact v_zreturn hQ hr1 rfl rfl (zkn_le hkn (by omega) (by omega)) d_La_law_663 E
  · refine z_iconst (v := (0 : Int32)) d_La_law_645 (by decide) ?_
    exact v_zreturn hQ hr1 rfl rfl (zkn_le hkn (by omega) (by omega)) d_La_law_646 E
set_option maxRecDepth 100000 in
set_option maxHeartbeats 4000000 in
theorem w_La_law_b667 {X : zX} {r : pR} {G L b : Nat} {xs : Nat → Int32} {F : Nat} {k1469 : Nat → Nat → Nat → Int32 → pH → Option pR} (hQ : zQL X) (hr1 : r.1 = some (.int 1)) (hT : zLA X) (hS : zSC X b L xs) (hk1469 : ∀ (k n : Nat), zkn X (k + 8 * F) (n + 48 * F) → ∀ (x1 : Nat) (x2 : Nat) (x3 : Nat) (x4 : Int32) (h : pH), k1469 x1 x2 x3 x4 h = some r → Z X M_La_law k n h 1469 [(0, .ref b), (1, .ref x1), (2, .ref x2), (3, .ref x3), (4, .int x4)] []) : ∀ (k n : Nat), zkn X (k + 8 * F + 8) (n + 48 * F + 48) → ∀ (x1 : Nat) (x2 : Nat) (x3 : Nat) (x4 : Int32) (h : pH), f_La_law_b667 G L xs k1469 x1 x2 x3 x4 h = some r → Z X M_La_law k n h 667 [(0, .ref b), (1, .ref x1), (2, .ref x2), (3, .ref x3), (4, .int x4)] [] := by
  intro k n hkn x1 x2 x3 x4 h E
  rw [f_La_law_b667_eq] at E
  refine z_aload_n 1 d_La_law_667 rfl rfl ?_
  refine z_aload_n 0 d_La_law_668 rfl rfl ?_
  refine z_iload 4 d_La_law_669 rfl ?_
  refine z_iconst (v := (1 : Int32)) d_La_law_671 (by decide) ?_
  refine z_iadd d_La_law_672 ?_
  refine v_sld hS d_La_law_673 E (fun v145 _ E => ?_)
  refine z_aload_n 0 d_La_law_674 rfl rfl ?_
  refine z_iload 4 d_La_law_675 rfl ?_
  refine z_iconst (v := (2 : Int32)) d_La_law_677 (by decide) ?_
  refine z_iadd d_La_law_678 ?_
  refine v_sld hS d_La_law_679 E (fun v146 _ E => ?_)
  refine z_aload_n 3 d_La_law_680 rfl rfl ?_
  obtain ⟨g148, v150, h147, e149, E⟩ := cI_some E
  refine v_invSW (y := y_La_form) (Mc := M_La_form) (hh := hh_La_form) (av := [.ref x1, .int v145, .int v146, .ref x3]) (rest := []) (mc1 := 2) (ms1 := 12) hT ⟨zt_464, zt_465, zt_47⟩ zk_La_form zy_La_form (by decide) (Nat.le_of_ble_eq_true rfl) (zkn_le hkn (by omega) (by omega)) rfl (Nat.le_of_ble_eq_true rfl) d_La_law_681 (m_La_form (zLA_l hT) e149) ?_
  show Z X M_La_law (k + 2) (n + 12) h147 684 [(0, .ref b), (1, .ref x1), (2, .ref x2), (3, .ref x3), (4, .int x4)] [.int v150]
  refine z_istore (lv2 := [(5, .int v150), (0, .ref b), (1, .ref x1), (2, .ref x2), (3, .ref x3), (4, .int x4)]) d_La_law_684 (Nat.le_of_ble_eq_true rfl) rfl ?_
  refine z_aload_n 3 d_La_law_686 rfl rfl ?_
  refine z_aload_n 1 d_La_law_687 rfl rfl ?_
  refine z_iload 5 d_La_law_688 rfl ?_
  refine z_iconst (v := (1 : Int32)) d_La_law_690 (by decide) ?_
  refine z_iadd d_La_law_691 ?_
  refine v_sld hS d_La_law_692 E (fun v151 _ E => ?_)
  refine z_aload_n 1 d_La_law_693 rfl rfl ?_
  refine z_iload 5 d_La_law_694 rfl ?_
  refine z_iconst (v := (2 : Int32)) d_La_law_696 (by decide) ?_
  refine z_iadd d_La_law_697 ?_
  refine v_sld hS d_La_law_698 E (fun v152 _ E => ?_)
  obtain ⟨g154, v156, h153, e155, E⟩ := cI_some E
  refine z_invV (ci := 4) (y := y_Mo_form) (Mc := M_Mo_form) (av := [.int v151, .int v152]) (rest := []) rfl rfl ⟨zt_866, zt_867, zt_868, zt_52⟩ zk_Mo_form zy_Mo_form (by decide) (Nat.le_of_ble_eq_true rfl) (zkn_le hkn (by omega) (by omega)) rfl (Nat.le_of_ble_eq_true rfl) d_La_law_699 g154 (m_Mo_form e155) ?_
  show Z X M_La_law (k + 2) (n + 12) h153 702 [(5, .int v150), (0, .ref b), (1, .ref x1), (2, .ref x2), (3, .ref x3), (4, .int x4)] [.int v156]
  refine z_istore (lv2 := [(6, .int v156), (5, .int v150), (0, .ref b), (1, .ref x1), (2, .ref x2), (3, .ref x3), (4, .int x4)]) d_La_law_702 (Nat.le_of_ble_eq_true rfl) rfl ?_
  refine z_aload_n 4 d_La_law_704 rfl rfl ?_
  obtain ⟨g158, v160, h157, e159, E⟩ := cI_some E
  refine z_invV (ci := 4) (y := y_Mo_thrown) (Mc := M_Mo_thrown) (av := []) (rest := []) rfl rfl ⟨zt_738, zt_739, zt_740, zt_52⟩ zk_Mo_thrown zy_Mo_thrown (by decide) (Nat.le_of_ble_eq_true rfl) (zkn_le hkn (by omega) (by omega)) rfl (Nat.le_of_ble_eq_true rfl) d_La_law_705 g158 (m_Mo_thrown e159) ?_
  show Z X M_La_law (k + 2) (n + 12) h157 708 [(6, .int v156), (5, .int v150), (0, .ref b), (1, .ref x1), (2, .ref x2), (3, .ref x3), (4, .int x4)] [.int v160]
  refine z_iload 1 d_La_law_708 rfl ?_
  refine z_ic_eq (tgt := 715) d_La_law_710 (by decide) E (fun E => ?_) (fun E => ?_)
  · refine z_iload 1 d_La_law_715 rfl ?_
    refine z_if_ne (y := 0) (tgt := 732) d_La_law_717 (by decide) E (fun E => ?_) (fun E => ?_)
    · refine z_lv [2, 3, 4, 5, 6] rfl ?_
      exact (w_La_law_b732 hQ hr1 hT hS hk1469) _ _ (zkn_le hkn (by omega) (by omega)) x1 x2 x3 x4 h157 E
    · refine z_aload_n 5 d_La_law_720 rfl rfl ?_
      refine z_iconst (v := (0 : Int32)) d_La_law_721 (by decide) ?_
      refine z_laload d_La_law_722 E (fun v161 _ E => ?_)
      refine z_iload 0 d_La_law_723 rfl ?_
      refine z_i2l d_La_law_725 ?_
      refine z_lcmp d_La_law_726 ?_
      refine z_if_eq (y := 0) (tgt := 732) d_La_law_727 (by decide) E (fun E => ?_) (fun E => ?_)
      · refine z_lv [2, 3, 4, 5, 6] rfl ?_
        exact (w_La_law_b732 hQ hr1 hT hS hk1469) _ _ (zkn_le hkn (by omega) (by omega)) x1 x2 x3 x4 h157 E
      · refine z_iconst (v := (0 : Int32)) d_La_law_730 (by decide) ?_
        exact v_zreturn hQ hr1 rfl rfl (zkn_le hkn (by omega) (by omega)) d_La_law_731 E
  · refine z_iconst (v := (0 : Int32)) d_La_law_713 (by decide) ?_
    exact v_zreturn hQ hr1 rfl rfl (zkn_le hkn (by omega) (by omega)) d_La_law_714 E
set_option maxRecDepth 100000 in
set_option maxHeartbeats 4000000 in
theorem w_La_law_b735 {X : zX} {r : pR} {G L b : Nat} {xs : Nat → Int32} {F : Nat} {k1469 : Nat → Nat → Nat → Int32 → pH → Option pR} (hQ : zQL X) (hr1 : r.1 = some (.int 1)) (hT : zLA X) (hS : zSC X b L xs) (hk1469 : ∀ (k n : Nat), zkn X (k + 8 * F) (n + 48 * F) → ∀ (x1 : Nat) (x2 : Nat) (x3 : Nat) (x4 : Int32) (h : pH), k1469 x1 x2 x3 x4 h = some r → Z X M_La_law k n h 1469 [(0, .ref b), (1, .ref x1), (2, .ref x2), (3, .ref x3), (4, .int x4)] []) : ∀ (k n : Nat), zkn X (k + 8 * F + 8) (n + 48 * F + 48) → ∀ (x1 : Nat) (x2 : Nat) (x3 : Nat) (x4 : Int32) (h : pH), f_La_law_b735 G L xs k1469 x1 x2 x3 x4 h = some r → Z X M_La_law k n h 735 [(0, .ref b), (1, .ref x1), (2, .ref x2), (3, .ref x3), (4, .int x4)] [] := by
  intro k n hkn x1 x2 x3 x4 h E
  rw [f_La_law_b735_eq] at E
  refine z_aload_n 1 d_La_law_735 rfl rfl ?_
  refine z_aload_n 0 d_La_law_736 rfl rfl ?_
  refine z_iload 4 d_La_law_737 rfl ?_
  refine z_iconst (v := (1 : Int32)) d_La_law_739 (by decide) ?_
  refine z_iadd d_La_law_740 ?_
  refine v_sld hS d_La_law_741 E (fun v162 _ E => ?_)
  refine z_aload_n 0 d_La_law_742 rfl rfl ?_
  refine z_iload 4 d_La_law_743 rfl ?_
  refine z_iconst (v := (2 : Int32)) d_La_law_745 (by decide) ?_
  refine z_iadd d_La_law_746 ?_
  refine v_sld hS d_La_law_747 E (fun v163 _ E => ?_)
  refine z_aload_n 3 d_La_law_748 rfl rfl ?_
  obtain ⟨g165, v167, h164, e166, E⟩ := cI_some E
  refine v_invSW (y := y_La_follows) (Mc := M_La_follows) (hh := hh_La_follows) (av := [.ref x1, .int v162, .int v163, .ref x3]) (rest := []) (mc1 := 2) (ms1 := 12) hT ⟨zt_525, zt_526, zt_47⟩ zk_La_follows zy_La_follows (by decide) (Nat.le_of_ble_eq_true rfl) (zkn_le hkn (by omega) (by omega)) rfl (Nat.le_of_ble_eq_true rfl) d_La_law_749 (m_La_follows (zLA_l hT) e166) ?_
  show Z X M_La_law (k + 2) (n + 12) h164 752 [(0, .ref b), (1, .ref x1), (2, .ref x2), (3, .ref x3), (4, .int x4)] [.int v167]
  refine z_istore (lv2 := [(5, .int v167), (0, .ref b), (1, .ref x1), (2, .ref x2), (3, .ref x3), (4, .int x4)]) d_La_law_752 (Nat.le_of_ble_eq_true rfl) rfl ?_
  refine z_aload_n 3 d_La_law_754 rfl rfl ?_
  refine z_aload_n 1 d_La_law_755 rfl rfl ?_
  refine z_iload 5 d_La_law_756 rfl ?_
  refine z_iconst (v := (1 : Int32)) d_La_law_758 (by decide) ?_
  refine z_iadd d_La_law_759 ?_
  refine v_sld hS d_La_law_760 E (fun v168 _ E => ?_)
  refine z_aload_n 1 d_La_law_761 rfl rfl ?_
  refine z_iload 5 d_La_law_762 rfl ?_
  refine z_iconst (v := (2 : Int32)) d_La_law_764 (by decide) ?_
  refine z_iadd d_La_law_765 ?_
  refine v_sld hS d_La_law_766 E (fun v169 _ E => ?_)
  obtain ⟨g171, v173, h170, e172, E⟩ := cI_some E
  refine z_invV (ci := 4) (y := y_Mo_follows) (Mc := M_Mo_follows) (av := [.int v168, .int v169]) (rest := []) rfl rfl ⟨zt_850, zt_851, zt_852, zt_52⟩ zk_Mo_follows zy_Mo_follows (by decide) (Nat.le_of_ble_eq_true rfl) (zkn_le hkn (by omega) (by omega)) rfl (Nat.le_of_ble_eq_true rfl) d_La_law_767 g171 (m_Mo_follows e172) ?_
  show Z X M_La_law (k + 2) (n + 12) h170 770 [(5, .int v167), (0, .ref b), (1, .ref x1), (2, .ref x2), (3, .ref x3), (4, .int x4)] [.int v173]
  refine z_istore (lv2 := [(6, .int v173), (5, .int v167), (0, .ref b), (1, .ref x1), (2, .ref x2), (3, .ref x3), (4, .int x4)]) d_La_law_770 (Nat.le_of_ble_eq_true rfl) rfl ?_
  refine z_aload_n 4 d_La_law_772 rfl rfl ?_
  obtain ⟨g175, v177, h174, e176, E⟩ := cI_some E
  refine z_invV (ci := 4) (y := y_Mo_thrown) (Mc := M_Mo_thrown) (av := []) (rest := []) rfl rfl ⟨zt_738, zt_739, zt_740, zt_52⟩ zk_Mo_thrown zy_Mo_thrown (by decide) (Nat.le_of_ble_eq_true rfl) (zkn_le hkn (by omega) (by omega)) rfl (Nat.le_of_ble_eq_true rfl) d_La_law_773 g175 (m_Mo_thrown e176) ?_
  show Z X M_La_law (k + 2) (n + 12) h174 776 [(6, .int v173), (5, .int v167), (0, .ref b), (1, .ref x1), (2, .ref x2), (3, .ref x3), (4, .int x4)] [.int v177]
  refine z_iload 1 d_La_law_776 rfl ?_
  refine z_ic_eq (tgt := 783) d_La_law_778 (by decide) E (fun E => ?_) (fun E => ?_)
  · refine z_iload 1 d_La_law_783 rfl ?_
    refine z_if_ne (y := 0) (tgt := 807) d_La_law_785 (by decide) E (fun E => ?_) (fun E => ?_)
    · refine z_lv [2, 3, 4, 5, 6] rfl ?_
      exact (w_La_law_b807 hQ hr1 hT hS hk1469) _ _ (zkn_le hkn (by omega) (by omega)) x1 x2 x3 x4 h174 E
    · refine z_aload_n 5 d_La_law_788 rfl rfl ?_
      refine z_iconst (v := (0 : Int32)) d_La_law_789 (by decide) ?_
      refine z_laload d_La_law_790 E (fun v178 _ E => ?_)
      refine z_iload 0 d_La_law_791 rfl ?_
      refine z_if_eq (y := 0) (tgt := 800) d_La_law_793 (by decide) E (fun E => ?_) (fun E => ?_)
      · refine z_lconst (v := (0 : Int64)) d_La_law_800 (by decide) ?_
        refine z_lv [2, 3, 4, 5, 6] rfl ?_
        exact (w_La_law_b801 hQ hr1 hT hS (w_La_law_b807 hQ hr1 hT hS hk1469)) _ _ (zkn_le hkn (by omega) (by omega)) x1 x2 x3 x4 v178 (0 : Int64) h174 E
      · refine z_lconst (v := (1 : Int64)) d_La_law_796 (by decide) ?_
        refine z_goto (tgt := 801) d_La_law_797 (by decide) ?_
        refine z_lv [2, 3, 4, 5, 6] rfl ?_
        exact (w_La_law_b801 hQ hr1 hT hS (w_La_law_b807 hQ hr1 hT hS hk1469)) _ _ (zkn_le hkn (by omega) (by omega)) x1 x2 x3 x4 v178 (1 : Int64) h174 E
  · refine z_iconst (v := (0 : Int32)) d_La_law_781 (by decide) ?_
    exact v_zreturn hQ hr1 rfl rfl (zkn_le hkn (by omega) (by omega)) d_La_law_782 E
set_option maxRecDepth 100000 in
set_option maxHeartbeats 4000000 in
theorem w_La_law_b810 {X : zX} {r : pR} {G L b : Nat} {xs : Nat → Int32} {F : Nat} {k1469 : Nat → Nat → Nat → Int32 → pH → Option pR} (hQ : zQL X) (hr1 : r.1 = some (.int 1)) (hT : zLA X) (hS : zSC X b L xs) (hk1469 : ∀ (k n : Nat), zkn X (k + 8 * F) (n + 48 * F) → ∀ (x1 : Nat) (x2 : Nat) (x3 : Nat) (x4 : Int32) (h : pH), k1469 x1 x2 x3 x4 h = some r → Z X M_La_law k n h 1469 [(0, .ref b), (1, .ref x1), (2, .ref x2), (3, .ref x3), (4, .int x4)] []) : ∀ (k n : Nat), zkn X (k + 8 * F + 8) (n + 48 * F + 48) → ∀ (x1 : Nat) (x2 : Nat) (x3 : Nat) (x4 : Int32) (h : pH), f_La_law_b810 G L xs k1469 x1 x2 x3 x4 h = some r → Z X M_La_law k n h 810 [(0, .ref b), (1, .ref x1), (2, .ref x2), (3, .ref x3), (4, .int x4)] [] := by
  intro k n hkn x1 x2 x3 x4 h E
  rw [f_La_law_b810_eq] at E
  refine z_aload_n 1 d_La_law_810 rfl rfl ?_
  refine z_aload_n 0 d_La_law_811 rfl rfl ?_
  refine z_iload 4 d_La_law_812 rfl ?_
  refine z_iconst (v := (1 : Int32)) d_La_law_814 (by decide) ?_
  refine z_iadd d_La_law_815 ?_
  refine v_sld hS d_La_law_816 E (fun v179 _ E => ?_)
  refine z_aload_n 0 d_La_law_817 rfl rfl ?_
  refine z_iload 4 d_La_law_818 rfl ?_
  refine z_iconst (v := (2 : Int32)) d_La_law_820 (by decide) ?_
  refine z_iadd d_La_law_821 ?_
  refine v_sld hS d_La_law_822 E (fun v180 _ E => ?_)
  refine z_aload_n 0 d_La_law_823 rfl rfl ?_
  refine z_iload 4 d_La_law_824 rfl ?_
  refine z_iconst (v := (3 : Int32)) d_La_law_826 (by decide) ?_
  refine z_iadd d_La_law_827 ?_
  refine v_sld hS d_La_law_828 E (fun v181 _ E => ?_)
  refine z_aload_n 3 d_La_law_829 rfl rfl ?_
  obtain ⟨g183, v185, h182, e184, E⟩ := cI_some E
  refine v_invSW (y := y_La_putting) (Mc := M_La_putting) (hh := hh_La_putting) (av := [.ref x1, .int v179, .int v180, .int v181, .ref x3]) (rest := []) (mc1 := 2) (ms1 := 12) hT ⟨zt_532, zt_533, zt_47⟩ zk_La_putting zy_La_putting (by decide) (Nat.le_of_ble_eq_true rfl) (zkn_le hkn (by omega) (by omega)) rfl (Nat.le_of_ble_eq_true rfl) d_La_law_830 (m_La_putting (zLA_l hT) e184) ?_
  show Z X M_La_law (k + 2) (n + 12) h182 833 [(0, .ref b), (1, .ref x1), (2, .ref x2), (3, .ref x3), (4, .int x4)] [.int v185]
  refine z_istore (lv2 := [(5, .int v185), (0, .ref b), (1, .ref x1), (2, .ref x2), (3, .ref x3), (4, .int x4)]) d_La_law_833 (Nat.le_of_ble_eq_true rfl) rfl ?_
  refine z_aload_n 3 d_La_law_835 rfl rfl ?_
  refine z_aload_n 1 d_La_law_836 rfl rfl ?_
  refine z_iload 5 d_La_law_837 rfl ?_
  refine z_iconst (v := (1 : Int32)) d_La_law_839 (by decide) ?_
  refine z_iadd d_La_law_840 ?_
  refine v_sld hS d_La_law_841 E (fun v186 _ E => ?_)
  refine z_aload_n 1 d_La_law_842 rfl rfl ?_
  refine z_iload 5 d_La_law_843 rfl ?_
  refine z_iconst (v := (2 : Int32)) d_La_law_845 (by decide) ?_
  refine z_iadd d_La_law_846 ?_
  refine v_sld hS d_La_law_847 E (fun v187 _ E => ?_)
  refine z_aload_n 1 d_La_law_848 rfl rfl ?_
  refine z_iload 5 d_La_law_849 rfl ?_
  refine z_iconst (v := (3 : Int32)) d_La_law_851 (by decide) ?_
  refine z_iadd d_La_law_852 ?_
  refine v_sld hS d_La_law_853 E (fun v188 _ E => ?_)
  obtain ⟨g190, v192, h189, e191, E⟩ := cI_some E
  refine z_invV (ci := 4) (y := y_Mo_putting) (Mc := M_Mo_putting) (av := [.int v186, .int v187, .int v188]) (rest := []) rfl rfl ⟨zt_854, zt_855, zt_856, zt_52⟩ zk_Mo_putting zy_Mo_putting (by decide) (Nat.le_of_ble_eq_true rfl) (zkn_le hkn (by omega) (by omega)) rfl (Nat.le_of_ble_eq_true rfl) d_La_law_854 g190 (m_Mo_putting e191) ?_
  show Z X M_La_law (k + 2) (n + 12) h189 857 [(5, .int v185), (0, .ref b), (1, .ref x1), (2, .ref x2), (3, .ref x3), (4, .int x4)] [.int v192]
  refine z_istore (lv2 := [(6, .int v192), (5, .int v185), (0, .ref b), (1, .ref x1), (2, .ref x2), (3, .ref x3), (4, .int x4)]) d_La_law_857 (Nat.le_of_ble_eq_true rfl) rfl ?_
  refine z_aload_n 4 d_La_law_859 rfl rfl ?_
  obtain ⟨g194, v196, h193, e195, E⟩ := cI_some E
  refine z_invV (ci := 4) (y := y_Mo_thrown) (Mc := M_Mo_thrown) (av := []) (rest := []) rfl rfl ⟨zt_738, zt_739, zt_740, zt_52⟩ zk_Mo_thrown zy_Mo_thrown (by decide) (Nat.le_of_ble_eq_true rfl) (zkn_le hkn (by omega) (by omega)) rfl (Nat.le_of_ble_eq_true rfl) d_La_law_860 g194 (m_Mo_thrown e195) ?_
  show Z X M_La_law (k + 2) (n + 12) h193 863 [(6, .int v192), (5, .int v185), (0, .ref b), (1, .ref x1), (2, .ref x2), (3, .ref x3), (4, .int x4)] [.int v196]
  refine z_iload 1 d_La_law_863 rfl ?_
  refine z_ic_eq (tgt := 870) d_La_law_865 (by decide) E (fun E => ?_) (fun E => ?_)
  · refine z_iload 1 d_La_law_870 rfl ?_
    refine z_if_ne (y := 0) (tgt := 887) d_La_law_872 (by decide) E (fun E => ?_) (fun E => ?_)
    · refine z_lv [2, 3, 4, 5, 6] rfl ?_
      exact (w_La_law_b887 hQ hr1 hT hS hk1469) _ _ (zkn_le hkn (by omega) (by omega)) x1 x2 x3 x4 h193 E
    · refine z_aload_n 5 d_La_law_875 rfl rfl ?_
      refine z_iconst (v := (0 : Int32)) d_La_law_876 (by decide) ?_
      refine z_laload d_La_law_877 E (fun v197 _ E => ?_)
      refine z_iload 0 d_La_law_878 rfl ?_
      refine z_i2l d_La_law_880 ?_
      refine z_lcmp d_La_law_881 ?_
      refine z_if_eq (y := 0) (tgt := 887) d_La_law_882 (by decide) E (fun E => ?_) (fun E => ?_)
      · refine z_lv [2, 3, 4, 5, 6] rfl ?_
        exact (w_La_law_b887 hQ hr1 hT hS hk1469) _ _ (zkn_le hkn (by omega) (by omega)) x1 x2 x3 x4 h193 E
      · refine z_iconst (v := (0 : Int32)) d_La_law_885 (by decide) ?_
        exact v_zreturn hQ hr1 rfl rfl (zkn_le hkn (by omega) (by omega)) d_La_law_886 E
  · refine z_iconst (v := (0 : Int32)) d_La_law_868 (by decide) ?_
    exact v_zreturn hQ hr1 rfl rfl (zkn_le hkn (by omega) (by omega)) d_La_law_869 E
set_option maxRecDepth 100000 in
set_option maxHeartbeats 4000000 in
theorem w_La_law_b890 {X : zX} {r : pR} {G L b : Nat} {xs : Nat → Int32} {F : Nat} {k1469 : Nat → Nat → Nat → Int32 → pH → Option pR} (hQ : zQL X) (hr1 : r.1 = some (.int 1)) (hT : zLA X) (hS : zSC X b L xs) (hk1469 : ∀ (k n : Nat), zkn X (k + 8 * F) (n + 48 * F) → ∀ (x1 : Nat) (x2 : Nat) (x3 : Nat) (x4 : Int32) (h : pH), k1469 x1 x2 x3 x4 h = some r → Z X M_La_law k n h 1469 [(0, .ref b), (1, .ref x1), (2, .ref x2), (3, .ref x3), (4, .int x4)] []) : ∀ (k n : Nat), zkn X (k + 8 * F + 8) (n + 48 * F + 48) → ∀ (x1 : Nat) (x2 : Nat) (x3 : Nat) (x4 : Int32) (h : pH), f_La_law_b890 G L xs k1469 x1 x2 x3 x4 h = some r → Z X M_La_law k n h 890 [(0, .ref b), (1, .ref x1), (2, .ref x2), (3, .ref x3), (4, .int x4)] [] := by
  intro k n hkn x1 x2 x3 x4 h E
  rw [f_La_law_b890_eq] at E
  refine z_aload_n 1 d_La_law_890 rfl rfl ?_
  refine z_aload_n 0 d_La_law_891 rfl rfl ?_
  refine z_iload 4 d_La_law_892 rfl ?_
  refine z_iconst (v := (1 : Int32)) d_La_law_894 (by decide) ?_
  refine z_iadd d_La_law_895 ?_
  refine v_sld hS d_La_law_896 E (fun v198 _ E => ?_)
  refine z_aload_n 3 d_La_law_897 rfl rfl ?_
  obtain ⟨g200, v202, h199, e201, E⟩ := cI_some E
  refine v_invSW (y := y_La_lean) (Mc := M_La_lean) (hh := hh_La_lean) (av := [.ref x1, .int v198, .ref x3]) (rest := []) (mc1 := 1) (ms1 := 6) hT ⟨zt_539, zt_540, zt_47⟩ zk_La_lean zy_La_lean (by decide) (Nat.le_of_ble_eq_true rfl) (zkn_le hkn (by omega) (by omega)) rfl (Nat.le_of_ble_eq_true rfl) d_La_law_898 (m_La_lean (zLA_l hT) e201) ?_
  show Z X M_La_law (k + 1) (n + 6) h199 901 [(0, .ref b), (1, .ref x1), (2, .ref x2), (3, .ref x3), (4, .int x4)] [.int v202]
  refine z_istore (lv2 := [(5, .int v202), (0, .ref b), (1, .ref x1), (2, .ref x2), (3, .ref x3), (4, .int x4)]) d_La_law_901 (Nat.le_of_ble_eq_true rfl) rfl ?_
  refine z_aload_n 3 d_La_law_903 rfl rfl ?_
  refine z_aload_n 1 d_La_law_904 rfl rfl ?_
  refine z_iload 5 d_La_law_905 rfl ?_
  refine z_iconst (v := (1 : Int32)) d_La_law_907 (by decide) ?_
  refine z_iadd d_La_law_908 ?_
  refine v_sld hS d_La_law_909 E (fun v203 _ E => ?_)
  obtain ⟨g205, v207, h204, e206, E⟩ := cI_some E
  refine z_invV (ci := 4) (y := y_Mo_lean) (Mc := M_Mo_lean) (av := [.int v203]) (rest := []) rfl rfl ⟨zt_858, zt_859, zt_860, zt_52⟩ zk_Mo_lean zy_Mo_lean (by decide) (Nat.le_of_ble_eq_true rfl) (zkn_le hkn (by omega) (by omega)) rfl (Nat.le_of_ble_eq_true rfl) d_La_law_910 g205 (m_Mo_lean e206) ?_
  show Z X M_La_law (k + 1) (n + 6) h204 913 [(5, .int v202), (0, .ref b), (1, .ref x1), (2, .ref x2), (3, .ref x3), (4, .int x4)] [.int v207]
  refine z_istore (lv2 := [(6, .int v207), (5, .int v202), (0, .ref b), (1, .ref x1), (2, .ref x2), (3, .ref x3), (4, .int x4)]) d_La_law_913 (Nat.le_of_ble_eq_true rfl) rfl ?_
  refine z_aload_n 4 d_La_law_915 rfl rfl ?_
  obtain ⟨g209, v211, h208, e210, E⟩ := cI_some E
  refine z_invV (ci := 4) (y := y_Mo_thrown) (Mc := M_Mo_thrown) (av := []) (rest := []) rfl rfl ⟨zt_738, zt_739, zt_740, zt_52⟩ zk_Mo_thrown zy_Mo_thrown (by decide) (Nat.le_of_ble_eq_true rfl) (zkn_le hkn (by omega) (by omega)) rfl (Nat.le_of_ble_eq_true rfl) d_La_law_916 g209 (m_Mo_thrown e210) ?_
  show Z X M_La_law (k + 1) (n + 6) h208 919 [(6, .int v207), (5, .int v202), (0, .ref b), (1, .ref x1), (2, .ref x2), (3, .ref x3), (4, .int x4)] [.int v211]
  refine z_iload 1 d_La_law_919 rfl ?_
  refine z_ic_eq (tgt := 926) d_La_law_921 (by decide) E (fun E => ?_) (fun E => ?_)
  · refine z_iload 1 d_La_law_926 rfl ?_
    refine z_if_ne (y := 0) (tgt := 950) d_La_law_928 (by decide) E (fun E => ?_) (fun E => ?_)
    · refine z_lv [2, 3, 4, 5, 6] rfl ?_
      exact (w_La_law_b950 hQ hr1 hT hS hk1469) _ _ (zkn_le hkn (by omega) (by omega)) x1 x2 x3 x4 h208 E
    · refine z_aload_n 5 d_La_law_931 rfl rfl ?_
      refine z_iconst (v := (0 : Int32)) d_La_law_932 (by decide) ?_
      refine z_laload d_La_law_933 E (fun v212 _ E => ?_)
      refine z_iload 0 d_La_law_934 rfl ?_
      refine z_if_eq (y := 0) (tgt := 943) d_La_law_936 (by decide) E (fun E => ?_) (fun E => ?_)
      · refine z_lconst (v := (0 : Int64)) d_La_law_943 (by decide) ?_
        refine z_lv [2, 3, 4, 5, 6] rfl ?_
        exact (w_La_law_b944 hQ hr1 hT hS (w_La_law_b950 hQ hr1 hT hS hk1469)) _ _ (zkn_le hkn (by omega) (by omega)) x1 x2 x3 x4 v212 (0 : Int64) h208 E
      · refine z_lconst (v := (1 : Int64)) d_La_law_939 (by decide) ?_
        refine z_goto (tgt := 944) d_La_law_940 (by decide) ?_
        refine z_lv [2, 3, 4, 5, 6] rfl ?_
        exact (w_La_law_b944 hQ hr1 hT hS (w_La_law_b950 hQ hr1 hT hS hk1469)) _ _ (zkn_le hkn (by omega) (by omega)) x1 x2 x3 x4 v212 (1 : Int64) h208 E
  · refine z_iconst (v := (0 : Int32)) d_La_law_924 (by decide) ?_
    exact v_zreturn hQ hr1 rfl rfl (zkn_le hkn (by omega) (by omega)) d_La_law_925 E
set_option maxRecDepth 100000 in
set_option maxHeartbeats 4000000 in
theorem w_La_law_b953 {X : zX} {r : pR} {G L b : Nat} {xs : Nat → Int32} {F : Nat} {k1469 : Nat → Nat → Nat → Int32 → pH → Option pR} (hQ : zQL X) (hr1 : r.1 = some (.int 1)) (hT : zLA X) (hS : zSC X b L xs) (hk1469 : ∀ (k n : Nat), zkn X (k + 8 * F) (n + 48 * F) → ∀ (x1 : Nat) (x2 : Nat) (x3 : Nat) (x4 : Int32) (h : pH), k1469 x1 x2 x3 x4 h = some r → Z X M_La_law k n h 1469 [(0, .ref b), (1, .ref x1), (2, .ref x2), (3, .ref x3), (4, .int x4)] []) : ∀ (k n : Nat), zkn X (k + 8 * F + 8) (n + 48 * F + 48) → ∀ (x1 : Nat) (x2 : Nat) (x3 : Nat) (x4 : Int32) (h : pH), f_La_law_b953 G L xs k1469 x1 x2 x3 x4 h = some r → Z X M_La_law k n h 953 [(0, .ref b), (1, .ref x1), (2, .ref x2), (3, .ref x3), (4, .int x4)] [] := by
  intro k n hkn x1 x2 x3 x4 h E
  rw [f_La_law_b953_eq] at E
  refine z_aload_n 1 d_La_law_953 rfl rfl ?_
  refine z_aload_n 0 d_La_law_954 rfl rfl ?_
  refine z_iload 4 d_La_law_955 rfl ?_
  refine z_iconst (v := (1 : Int32)) d_La_law_957 (by decide) ?_
  refine z_iadd d_La_law_958 ?_
  refine v_sld hS d_La_law_959 E (fun v213 _ E => ?_)
  refine z_aload_n 3 d_La_law_960 rfl rfl ?_
  obtain ⟨g215, v217, h214, e216, E⟩ := cI_some E
  refine v_invSW (y := y_La_core) (Mc := M_La_core) (hh := hh_La_core) (av := [.ref x1, .int v213, .ref x3]) (rest := []) (mc1 := 1) (ms1 := 6) hT ⟨zt_561, zt_562, zt_47⟩ zk_La_core zy_La_core (by decide) (Nat.le_of_ble_eq_true rfl) (zkn_le hkn (by omega) (by omega)) rfl (Nat.le_of_ble_eq_true rfl) d_La_law_961 (m_La_core (zLA_l hT) e216) ?_
  show Z X M_La_law (k + 1) (n + 6) h214 964 [(0, .ref b), (1, .ref x1), (2, .ref x2), (3, .ref x3), (4, .int x4)] [.int v217]
  refine z_istore (lv2 := [(5, .int v217), (0, .ref b), (1, .ref x1), (2, .ref x2), (3, .ref x3), (4, .int x4)]) d_La_law_964 (Nat.le_of_ble_eq_true rfl) rfl ?_
  refine z_aload_n 3 d_La_law_966 rfl rfl ?_
  refine z_aload_n 1 d_La_law_967 rfl rfl ?_
  refine z_iload 5 d_La_law_968 rfl ?_
  refine z_iconst (v := (1 : Int32)) d_La_law_970 (by decide) ?_
  refine z_iadd d_La_law_971 ?_
  refine v_sld hS d_La_law_972 E (fun v218 _ E => ?_)
  obtain ⟨g220, v222, h219, e221, E⟩ := cI_some E
  refine z_invV (ci := 4) (y := y_Mo_core) (Mc := M_Mo_core) (av := [.int v218]) (rest := []) rfl rfl ⟨zt_862, zt_863, zt_864, zt_52⟩ zk_Mo_core zy_Mo_core (by decide) (Nat.le_of_ble_eq_true rfl) (zkn_le hkn (by omega) (by omega)) rfl (Nat.le_of_ble_eq_true rfl) d_La_law_973 g220 (m_Mo_core e221) ?_
  show Z X M_La_law (k + 1) (n + 6) h219 976 [(5, .int v217), (0, .ref b), (1, .ref x1), (2, .ref x2), (3, .ref x3), (4, .int x4)] [.int v222]
  refine z_istore (lv2 := [(6, .int v222), (5, .int v217), (0, .ref b), (1, .ref x1), (2, .ref x2), (3, .ref x3), (4, .int x4)]) d_La_law_976 (Nat.le_of_ble_eq_true rfl) rfl ?_
  refine z_aload_n 4 d_La_law_978 rfl rfl ?_
  obtain ⟨g224, v226, h223, e225, E⟩ := cI_some E
  refine z_invV (ci := 4) (y := y_Mo_thrown) (Mc := M_Mo_thrown) (av := []) (rest := []) rfl rfl ⟨zt_738, zt_739, zt_740, zt_52⟩ zk_Mo_thrown zy_Mo_thrown (by decide) (Nat.le_of_ble_eq_true rfl) (zkn_le hkn (by omega) (by omega)) rfl (Nat.le_of_ble_eq_true rfl) d_La_law_979 g224 (m_Mo_thrown e225) ?_
  show Z X M_La_law (k + 1) (n + 6) h223 982 [(6, .int v222), (5, .int v217), (0, .ref b), (1, .ref x1), (2, .ref x2), (3, .ref x3), (4, .int x4)] [.int v226]
  refine z_iload 1 d_La_law_982 rfl ?_
  refine z_ic_eq (tgt := 989) d_La_law_984 (by decide) E (fun E => ?_) (fun E => ?_)
  · refine z_iload 1 d_La_law_989 rfl ?_
    refine z_if_ne (y := 0) (tgt := 1006) d_La_law_991 (by decide) E (fun E => ?_) (fun E => ?_)
    · refine z_lv [2, 3, 4, 5, 6] rfl ?_
      exact (w_La_law_b1006 hQ hr1 hT hS hk1469) _ _ (zkn_le hkn (by omega) (by omega)) x1 x2 x3 x4 h223 E
    · refine z_aload_n 5 d_La_law_994 rfl rfl ?_
      refine z_iconst (v := (0 : Int32)) d_La_law_995 (by decide) ?_
      refine z_laload d_La_law_996 E (fun v227 _ E => ?_)
      refine z_iload 0 d_La_law_997 rfl ?_
      refine z_i2l d_La_law_999 ?_
      refine z_lcmp d_La_law_1000 ?_
      refine z_if_eq (y := 0) (tgt := 1006) d_La_law_1001 (by decide) E (fun E => ?_) (fun E => ?_)
      · refine z_lv [2, 3, 4, 5, 6] rfl ?_
        exact (w_La_law_b1006 hQ hr1 hT hS hk1469) _ _ (zkn_le hkn (by omega) (by omega)) x1 x2 x3 x4 h223 E
      · refine z_iconst (v := (0 : Int32)) d_La_law_1004 (by decide) ?_
        exact v_zreturn hQ hr1 rfl rfl (zkn_le hkn (by omega) (by omega)) d_La_law_1005 E
  · refine z_iconst (v := (0 : Int32)) d_La_law_987 (by decide) ?_
    exact v_zreturn hQ hr1 rfl rfl (zkn_le hkn (by omega) (by omega)) d_La_law_988 E
set_option maxRecDepth 100000 in
set_option maxHeartbeats 4000000 in
theorem w_La_law_b1009 {X : zX} {r : pR} {G L b : Nat} {xs : Nat → Int32} {F : Nat} {k1469 : Nat → Nat → Nat → Int32 → pH → Option pR} (hQ : zQL X) (hr1 : r.1 = some (.int 1)) (hT : zLA X) (hS : zSC X b L xs) (hk1469 : ∀ (k n : Nat), zkn X (k + 8 * F) (n + 48 * F) → ∀ (x1 : Nat) (x2 : Nat) (x3 : Nat) (x4 : Int32) (h : pH), k1469 x1 x2 x3 x4 h = some r → Z X M_La_law k n h 1469 [(0, .ref b), (1, .ref x1), (2, .ref x2), (3, .ref x3), (4, .int x4)] []) : ∀ (k n : Nat), zkn X (k + 8 * F + 8) (n + 48 * F + 48) → ∀ (x1 : Nat) (x2 : Nat) (x3 : Nat) (x4 : Int32) (h : pH), f_La_law_b1009 G L xs k1469 x1 x2 x3 x4 h = some r → Z X M_La_law k n h 1009 [(0, .ref b), (1, .ref x1), (2, .ref x2), (3, .ref x3), (4, .int x4)] [] := by
  intro k n hkn x1 x2 x3 x4 h E
  rw [f_La_law_b1009_eq] at E
  refine z_aload_n 1 d_La_law_1009 rfl rfl ?_
  refine z_aload_n 0 d_La_law_1010 rfl rfl ?_
  refine z_iload 4 d_La_law_1011 rfl ?_
  refine z_iconst (v := (1 : Int32)) d_La_law_1013 (by decide) ?_
  refine z_iadd d_La_law_1014 ?_
  refine v_sld hS d_La_law_1015 E (fun v228 _ E => ?_)
  refine z_aload_n 0 d_La_law_1016 rfl rfl ?_
  refine z_iload 4 d_La_law_1017 rfl ?_
  refine z_iconst (v := (2 : Int32)) d_La_law_1019 (by decide) ?_
  refine z_iadd d_La_law_1020 ?_
  refine v_sld hS d_La_law_1021 E (fun v229 _ E => ?_)
  refine z_aload_n 0 d_La_law_1022 rfl rfl ?_
  refine z_iload 4 d_La_law_1023 rfl ?_
  refine z_iconst (v := (3 : Int32)) d_La_law_1025 (by decide) ?_
  refine z_iadd d_La_law_1026 ?_
  refine v_sld hS d_La_law_1027 E (fun v230 _ E => ?_)
  refine z_aload_n 3 d_La_law_1028 rfl rfl ?_
  obtain ⟨g232, v234, h231, e233, E⟩ := cI_some E
  refine v_invSW (y := y_La_join) (Mc := M_La_join) (hh := hh_La_join) (av := [.ref x1, .int v228, .int v229, .int v230, .ref x3]) (rest := []) (mc1 := 3) (ms1 := 18) hT ⟨zt_578, zt_579, zt_47⟩ zk_La_join zy_La_join (by decide) (Nat.le_of_ble_eq_true rfl) (zkn_le hkn (by omega) (by omega)) rfl (Nat.le_of_ble_eq_true rfl) d_La_law_1029 (m_La_join (zLA_l hT) e233) ?_
  show Z X M_La_law (k + 3) (n + 18) h231 1032 [(0, .ref b), (1, .ref x1), (2, .ref x2), (3, .ref x3), (4, .int x4)] [.int v234]
  refine z_istore (lv2 := [(5, .int v234), (0, .ref b), (1, .ref x1), (2, .ref x2), (3, .ref x3), (4, .int x4)]) d_La_law_1032 (Nat.le_of_ble_eq_true rfl) rfl ?_
  refine z_aload_n 3 d_La_law_1034 rfl rfl ?_
  refine z_aload_n 1 d_La_law_1035 rfl rfl ?_
  refine z_iload 5 d_La_law_1036 rfl ?_
  refine z_iconst (v := (1 : Int32)) d_La_law_1038 (by decide) ?_
  refine z_iadd d_La_law_1039 ?_
  refine v_sld hS d_La_law_1040 E (fun v235 _ E => ?_)
  refine z_aload_n 1 d_La_law_1041 rfl rfl ?_
  refine z_iload 5 d_La_law_1042 rfl ?_
  refine z_iconst (v := (2 : Int32)) d_La_law_1044 (by decide) ?_
  refine z_iadd d_La_law_1045 ?_
  refine v_sld hS d_La_law_1046 E (fun v236 _ E => ?_)
  refine z_aload_n 1 d_La_law_1047 rfl rfl ?_
  refine z_iload 5 d_La_law_1048 rfl ?_
  refine z_iconst (v := (3 : Int32)) d_La_law_1050 (by decide) ?_
  refine z_iadd d_La_law_1051 ?_
  refine v_sld hS d_La_law_1052 E (fun v237 _ E => ?_)
  obtain ⟨g239, v241, h238, e240, E⟩ := cI_some E
  refine z_invV (ci := 4) (y := y_Mo_join) (Mc := M_Mo_join) (av := [.int v235, .int v236, .int v237]) (rest := []) rfl rfl ⟨zt_878, zt_879, zt_880, zt_52⟩ zk_Mo_join zy_Mo_join (by decide) (Nat.le_of_ble_eq_true rfl) (zkn_le hkn (by omega) (by omega)) rfl (Nat.le_of_ble_eq_true rfl) d_La_law_1053 g239 (m_Mo_join e240) ?_
  show Z X M_La_law (k + 3) (n + 18) h238 1056 [(5, .int v234), (0, .ref b), (1, .ref x1), (2, .ref x2), (3, .ref x3), (4, .int x4)] [.int v241]
  refine z_istore (lv2 := [(6, .int v241), (5, .int v234), (0, .ref b), (1, .ref x1), (2, .ref x2), (3, .ref x3), (4, .int x4)]) d_La_law_1056 (Nat.le_of_ble_eq_true rfl) rfl ?_
  refine z_aload_n 4 d_La_law_1058 rfl rfl ?_
  obtain ⟨g243, v245, h242, e244, E⟩ := cI_some E
  refine z_invV (ci := 4) (y := y_Mo_thrown) (Mc := M_Mo_thrown) (av := []) (rest := []) rfl rfl ⟨zt_738, zt_739, zt_740, zt_52⟩ zk_Mo_thrown zy_Mo_thrown (by decide) (Nat.le_of_ble_eq_true rfl) (zkn_le hkn (by omega) (by omega)) rfl (Nat.le_of_ble_eq_true rfl) d_La_law_1059 g243 (m_Mo_thrown e244) ?_
  show Z X M_La_law (k + 3) (n + 18) h242 1062 [(6, .int v241), (5, .int v234), (0, .ref b), (1, .ref x1), (2, .ref x2), (3, .ref x3), (4, .int x4)] [.int v245]
  refine z_iload 1 d_La_law_1062 rfl ?_
  refine z_ic_eq (tgt := 1069) d_La_law_1064 (by decide) E (fun E => ?_) (fun E => ?_)
  · refine z_iload 1 d_La_law_1069 rfl ?_
    refine z_if_ne (y := 0) (tgt := 1086) d_La_law_1071 (by decide) E (fun E => ?_) (fun E => ?_)
    · refine z_lv [2, 3, 4, 5, 6] rfl ?_
      exact (w_La_law_b1086 hQ hr1 hT hS hk1469) _ _ (zkn_le hkn (by omega) (by omega)) x1 x2 x3 x4 h242 E
    · refine z_aload_n 5 d_La_law_1074 rfl rfl ?_
      refine z_iconst (v := (0 : Int32)) d_La_law_1075 (by decide) ?_
      refine z_laload d_La_law_1076 E (fun v246 _ E => ?_)
      refine z_iload 0 d_La_law_1077 rfl ?_
      refine z_i2l d_La_law_1079 ?_
      refine z_lcmp d_La_law_1080 ?_
      refine z_if_eq (y := 0) (tgt := 1086) d_La_law_1081 (by decide) E (fun E => ?_) (fun E => ?_)
      · refine z_lv [2, 3, 4, 5, 6] rfl ?_
        exact (w_La_law_b1086 hQ hr1 hT hS hk1469) _ _ (zkn_le hkn (by omega) (by omega)) x1 x2 x3 x4 h242 E
      · refine z_iconst (v := (0 : Int32)) d_La_law_1084 (by decide) ?_
        exact v_zreturn hQ hr1 rfl rfl (zkn_le hkn (by omega) (by omega)) d_La_law_1085 E
  · refine z_iconst (v := (0 : Int32)) d_La_law_1067 (by decide) ?_
    exact v_zreturn hQ hr1 rfl rfl (zkn_le hkn (by omega) (by omega)) d_La_law_1068 E
set_option maxRecDepth 100000 in
set_option maxHeartbeats 4000000 in
theorem w_La_law_b1089 {X : zX} {r : pR} {G L b : Nat} {xs : Nat → Int32} {F : Nat} {k1469 : Nat → Nat → Nat → Int32 → pH → Option pR} (hQ : zQL X) (hr1 : r.1 = some (.int 1)) (hT : zLA X) (hS : zSC X b L xs) (hk1469 : ∀ (k n : Nat), zkn X (k + 8 * F) (n + 48 * F) → ∀ (x1 : Nat) (x2 : Nat) (x3 : Nat) (x4 : Int32) (h : pH), k1469 x1 x2 x3 x4 h = some r → Z X M_La_law k n h 1469 [(0, .ref b), (1, .ref x1), (2, .ref x2), (3, .ref x3), (4, .int x4)] []) : ∀ (k n : Nat), zkn X (k + 8 * F + 8) (n + 48 * F + 48) → ∀ (x1 : Nat) (x2 : Nat) (x3 : Nat) (x4 : Int32) (h : pH), f_La_law_b1089 G L xs k1469 x1 x2 x3 x4 h = some r → Z X M_La_law k n h 1089 [(0, .ref b), (1, .ref x1), (2, .ref x2), (3, .ref x3), (4, .int x4)] [] := by
  intro k n hkn x1 x2 x3 x4 h E
  rw [f_La_law_b1089_eq] at E
  refine z_aload_n 1 d_La_law_1089 rfl rfl ?_
  refine z_aload_n 0 d_La_law_1090 rfl rfl ?_
  refine z_iload 4 d_La_law_1091 rfl ?_
  refine z_iconst (v := (1 : Int32)) d_La_law_1093 (by decide) ?_
  refine z_iadd d_La_law_1094 ?_
  refine v_sld hS d_La_law_1095 E (fun v247 _ E => ?_)
  refine z_aload_n 0 d_La_law_1096 rfl rfl ?_
  refine z_iload 4 d_La_law_1097 rfl ?_
  refine z_iconst (v := (2 : Int32)) d_La_law_1099 (by decide) ?_
  refine z_iadd d_La_law_1100 ?_
  refine v_sld hS d_La_law_1101 E (fun v248 _ E => ?_)
  refine z_aload_n 0 d_La_law_1102 rfl rfl ?_
  refine z_iload 4 d_La_law_1103 rfl ?_
  refine z_iconst (v := (3 : Int32)) d_La_law_1105 (by decide) ?_
  refine z_iadd d_La_law_1106 ?_
  refine v_sld hS d_La_law_1107 E (fun v249 _ E => ?_)
  refine z_aload_n 0 d_La_law_1108 rfl rfl ?_
  refine z_iload 4 d_La_law_1109 rfl ?_
  refine z_iconst (v := (4 : Int32)) d_La_law_1111 (by decide) ?_
  refine z_iadd d_La_law_1112 ?_
  refine v_sld hS d_La_law_1113 E (fun v250 _ E => ?_)
  refine z_aload_n 3 d_La_law_1114 rfl rfl ?_
  obtain ⟨g252, v254, h251, e253, E⟩ := cI_some E
  refine v_invSW (y := y_La_merge) (Mc := M_La_merge) (hh := hh_La_merge) (av := [.ref x1, .int v247, .int v248, .int v249, .int v250, .ref x3]) (rest := []) (mc1 := 4) (ms1 := 24) hT ⟨zt_591, zt_592, zt_47⟩ zk_La_merge zy_La_merge (by decide) (Nat.le_of_ble_eq_true rfl) (zkn_le hkn (by omega) (by omega)) rfl (Nat.le_of_ble_eq_true rfl) d_La_law_1115 (m_La_merge (zLA_l hT) e253) ?_
  show Z X M_La_law (k + 4) (n + 24) h251 1118 [(0, .ref b), (1, .ref x1), (2, .ref x2), (3, .ref x3), (4, .int x4)] [.int v254]
  refine z_istore (lv2 := [(5, .int v254), (0, .ref b), (1, .ref x1), (2, .ref x2), (3, .ref x3), (4, .int x4)]) d_La_law_1118 (Nat.le_of_ble_eq_true rfl) rfl ?_
  refine z_aload_n 3 d_La_law_1120 rfl rfl ?_
  refine z_aload_n 1 d_La_law_1121 rfl rfl ?_
  refine z_iload 5 d_La_law_1122 rfl ?_
  refine z_iconst (v := (1 : Int32)) d_La_law_1124 (by decide) ?_
  refine z_iadd d_La_law_1125 ?_
  refine v_sld hS d_La_law_1126 E (fun v255 _ E => ?_)
  refine z_aload_n 1 d_La_law_1127 rfl rfl ?_
  refine z_iload 5 d_La_law_1128 rfl ?_
  refine z_iconst (v := (2 : Int32)) d_La_law_1130 (by decide) ?_
  refine z_iadd d_La_law_1131 ?_
  refine v_sld hS d_La_law_1132 E (fun v256 _ E => ?_)
  refine z_aload_n 1 d_La_law_1133 rfl rfl ?_
  refine z_iload 5 d_La_law_1134 rfl ?_
  refine z_iconst (v := (3 : Int32)) d_La_law_1136 (by decide) ?_
  refine z_iadd d_La_law_1137 ?_
  refine v_sld hS d_La_law_1138 E (fun v257 _ E => ?_)
  refine z_aload_n 1 d_La_law_1139 rfl rfl ?_
  refine z_iload 5 d_La_law_1140 rfl ?_
  refine z_iconst (v := (4 : Int32)) d_La_law_1142 (by decide) ?_
  refine z_iadd d_La_law_1143 ?_
  refine v_sld hS d_La_law_1144 E (fun v258 _ E => ?_)
  obtain ⟨g260, v262, h259, e261, E⟩ := cI_some E
  refine z_invV (ci := 4) (y := y_Mo_merge) (Mc := M_Mo_merge) (av := [.int v255, .int v256, .int v257, .int v258]) (rest := []) rfl rfl ⟨zt_882, zt_883, zt_884, zt_52⟩ zk_Mo_merge zy_Mo_merge (by decide) (Nat.le_of_ble_eq_true rfl) (zkn_le hkn (by omega) (by omega)) rfl (Nat.le_of_ble_eq_true rfl) d_La_law_1145 g260 (m_Mo_merge e261) ?_
  show Z X M_La_law (k + 4) (n + 24) h259 1148 [(5, .int v254), (0, .ref b), (1, .ref x1), (2, .ref x2), (3, .ref x3), (4, .int x4)] [.int v262]
  refine z_istore (lv2 := [(6, .int v262), (5, .int v254), (0, .ref b), (1, .ref x1), (2, .ref x2), (3, .ref x3), (4, .int x4)]) d_La_law_1148 (Nat.le_of_ble_eq_true rfl) rfl ?_
  refine z_aload_n 4 d_La_law_1150 rfl rfl ?_
  obtain ⟨g264, v266, h263, e265, E⟩ := cI_some E
  refine z_invV (ci := 4) (y := y_Mo_thrown) (Mc := M_Mo_thrown) (av := []) (rest := []) rfl rfl ⟨zt_738, zt_739, zt_740, zt_52⟩ zk_Mo_thrown zy_Mo_thrown (by decide) (Nat.le_of_ble_eq_true rfl) (zkn_le hkn (by omega) (by omega)) rfl (Nat.le_of_ble_eq_true rfl) d_La_law_1151 g264 (m_Mo_thrown e265) ?_
  show Z X M_La_law (k + 4) (n + 24) h263 1154 [(6, .int v262), (5, .int v254), (0, .ref b), (1, .ref x1), (2, .ref x2), (3, .ref x3), (4, .int x4)] [.int v266]
  refine z_iload 1 d_La_law_1154 rfl ?_
  refine z_ic_eq (tgt := 1161) d_La_law_1156 (by decide) E (fun E => ?_) (fun E => ?_)
  · refine z_iload 1 d_La_law_1161 rfl ?_
    refine z_if_ne (y := 0) (tgt := 1178) d_La_law_1163 (by decide) E (fun E => ?_) (fun E => ?_)
    · refine z_lv [2, 3, 4, 5, 6] rfl ?_
      exact (w_La_law_b1178 hQ hr1 hT hS hk1469) _ _ (zkn_le hkn (by omega) (by omega)) x1 x2 x3 x4 h263 E
    · refine z_aload_n 5 d_La_law_1166 rfl rfl ?_
      refine z_iconst (v := (0 : Int32)) d_La_law_1167 (by decide) ?_
      refine z_laload d_La_law_1168 E (fun v267 _ E => ?_)
      refine z_iload 0 d_La_law_1169 rfl ?_
      refine z_i2l d_La_law_1171 ?_
      refine z_lcmp d_La_law_1172 ?_
      refine z_if_eq (y := 0) (tgt := 1178) d_La_law_1173 (by decide) E (fun E => ?_) (fun E => ?_)
      · refine z_lv [2, 3, 4, 5, 6] rfl ?_
        exact (w_La_law_b1178 hQ hr1 hT hS hk1469) _ _ (zkn_le hkn (by omega) (by omega)) x1 x2 x3 x4 h263 E
      · refine z_iconst (v := (0 : Int32)) d_La_law_1176 (by decide) ?_
        exact v_zreturn hQ hr1 rfl rfl (zkn_le hkn (by omega) (by omega)) d_La_law_1177 E
  · refine z_iconst (v := (0 : Int32)) d_La_law_1159 (by decide) ?_
    exact v_zreturn hQ hr1 rfl rfl (zkn_le hkn (by omega) (by omega)) d_La_law_1160 E
set_option maxRecDepth 100000 in
set_option maxHeartbeats 4000000 in
theorem w_La_law_b1181 {X : zX} {r : pR} {G L b : Nat} {xs : Nat → Int32} {F : Nat} {k1469 : Nat → Nat → Nat → Int32 → pH → Option pR} (hQ : zQL X) (hr1 : r.1 = some (.int 1)) (hT : zLA X) (hS : zSC X b L xs) (hk1469 : ∀ (k n : Nat), zkn X (k + 8 * F) (n + 48 * F) → ∀ (x1 : Nat) (x2 : Nat) (x3 : Nat) (x4 : Int32) (h : pH), k1469 x1 x2 x3 x4 h = some r → Z X M_La_law k n h 1469 [(0, .ref b), (1, .ref x1), (2, .ref x2), (3, .ref x3), (4, .int x4)] []) : ∀ (k n : Nat), zkn X (k + 8 * F + 8) (n + 48 * F + 48) → ∀ (x1 : Nat) (x2 : Nat) (x3 : Nat) (x4 : Int32) (h : pH), f_La_law_b1181 G L xs k1469 x1 x2 x3 x4 h = some r → Z X M_La_law k n h 1181 [(0, .ref b), (1, .ref x1), (2, .ref x2), (3, .ref x3), (4, .int x4)] [] := by
  intro k n hkn x1 x2 x3 x4 h E
  rw [f_La_law_b1181_eq] at E
  refine z_aload_n 1 d_La_law_1181 rfl rfl ?_
  refine z_aload_n 0 d_La_law_1182 rfl rfl ?_
  refine z_iload 4 d_La_law_1183 rfl ?_
  refine z_iconst (v := (1 : Int32)) d_La_law_1185 (by decide) ?_
  refine z_iadd d_La_law_1186 ?_
  refine v_sld hS d_La_law_1187 E (fun v268 _ E => ?_)
  refine z_aload_n 0 d_La_law_1188 rfl rfl ?_
  refine z_iload 4 d_La_law_1189 rfl ?_
  refine z_iconst (v := (2 : Int32)) d_La_law_1191 (by decide) ?_
  refine z_iadd d_La_law_1192 ?_
  refine v_sld hS d_La_law_1193 E (fun v269 _ E => ?_)
  refine z_aload_n 3 d_La_law_1194 rfl rfl ?_
  obtain ⟨g271, v273, h270, e272, E⟩ := cI_some E
  refine v_invSW (y := y_La_clash) (Mc := M_La_clash) (hh := hh_La_clash) (av := [.ref x1, .int v268, .int v269, .ref x3]) (rest := []) (mc1 := 2) (ms1 := 12) hT ⟨zt_629, zt_630, zt_47⟩ zk_La_clash zy_La_clash (by decide) (Nat.le_of_ble_eq_true rfl) (zkn_le hkn (by omega) (by omega)) rfl (Nat.le_of_ble_eq_true rfl) d_La_law_1195 (m_La_clash (zLA_l hT) e272) ?_
  show Z X M_La_law (k + 2) (n + 12) h270 1198 [(0, .ref b), (1, .ref x1), (2, .ref x2), (3, .ref x3), (4, .int x4)] [.int v273]
  refine z_istore (lv2 := [(5, .int v273), (0, .ref b), (1, .ref x1), (2, .ref x2), (3, .ref x3), (4, .int x4)]) d_La_law_1198 (Nat.le_of_ble_eq_true rfl) rfl ?_
  refine z_aload_n 3 d_La_law_1200 rfl rfl ?_
  refine z_aload_n 1 d_La_law_1201 rfl rfl ?_
  refine z_iload 5 d_La_law_1202 rfl ?_
  refine z_iconst (v := (1 : Int32)) d_La_law_1204 (by decide) ?_
  refine z_iadd d_La_law_1205 ?_
  refine v_sld hS d_La_law_1206 E (fun v274 _ E => ?_)
  refine z_aload_n 1 d_La_law_1207 rfl rfl ?_
  refine z_iload 5 d_La_law_1208 rfl ?_
  refine z_iconst (v := (2 : Int32)) d_La_law_1210 (by decide) ?_
  refine z_iadd d_La_law_1211 ?_
  refine v_sld hS d_La_law_1212 E (fun v275 _ E => ?_)
  obtain ⟨g277, v279, h276, e278, E⟩ := cI_some E
  refine z_invV (ci := 4) (y := y_Mo_clash) (Mc := M_Mo_clash) (av := [.int v274, .int v275]) (rest := []) rfl rfl ⟨zt_894, zt_895, zt_896, zt_52⟩ zk_Mo_clash zy_Mo_clash (by decide) (Nat.le_of_ble_eq_true rfl) (zkn_le hkn (by omega) (by omega)) rfl (Nat.le_of_ble_eq_true rfl) d_La_law_1213 g277 (m_Mo_clash e278) ?_
  show Z X M_La_law (k + 2) (n + 12) h276 1216 [(5, .int v273), (0, .ref b), (1, .ref x1), (2, .ref x2), (3, .ref x3), (4, .int x4)] [.int v279]
  refine z_istore (lv2 := [(6, .int v279), (5, .int v273), (0, .ref b), (1, .ref x1), (2, .ref x2), (3, .ref x3), (4, .int x4)]) d_La_law_1216 (Nat.le_of_ble_eq_true rfl) rfl ?_
  refine z_aload_n 4 d_La_law_1218 rfl rfl ?_
  obtain ⟨g281, v283, h280, e282, E⟩ := cI_some E
  refine z_invV (ci := 4) (y := y_Mo_thrown) (Mc := M_Mo_thrown) (av := []) (rest := []) rfl rfl ⟨zt_738, zt_739, zt_740, zt_52⟩ zk_Mo_thrown zy_Mo_thrown (by decide) (Nat.le_of_ble_eq_true rfl) (zkn_le hkn (by omega) (by omega)) rfl (Nat.le_of_ble_eq_true rfl) d_La_law_1219 g281 (m_Mo_thrown e282) ?_
  show Z X M_La_law (k + 2) (n + 12) h280 1222 [(6, .int v279), (5, .int v273), (0, .ref b), (1, .ref x1), (2, .ref x2), (3, .ref x3), (4, .int x4)] [.int v283]
  refine z_iload 1 d_La_law_1222 rfl ?_
  refine z_ic_eq (tgt := 1229) d_La_law_1224 (by decide) E (fun E => ?_) (fun E => ?_)
  · refine z_iload 1 d_La_law_1229 rfl ?_
    refine z_if_ne (y := 0) (tgt := 1246) d_La_law_1231 (by decide) E (fun E => ?_) (fun E => ?_)
    · refine z_lv [2, 3, 4, 5, 6] rfl ?_
      exact (w_La_law_b1246 hQ hr1 hT hS hk1469) _ _ (zkn_le hkn (by omega) (by omega)) x1 x2 x3 x4 h280 E
    · refine z_aload_n 5 d_La_law_1234 rfl rfl ?_
      refine z_iconst (v := (0 : Int32)) d_La_law_1235 (by decide) ?_
      refine z_laload d_La_law_1236 E (fun v284 _ E => ?_)
      refine z_iload 0 d_La_law_1237 rfl ?_
      refine z_i2l d_La_law_1239 ?_
      refine z_lcmp d_La_law_1240 ?_
      refine z_if_eq (y := 0) (tgt := 1246) d_La_law_1241 (by decide) E (fun E => ?_) (fun E => ?_)
      · refine z_lv [2, 3, 4, 5, 6] rfl ?_
        exact (w_La_law_b1246 hQ hr1 hT hS hk1469) _ _ (zkn_le hkn (by omega) (by omega)) x1 x2 x3 x4 h280 E
      · refine z_iconst (v := (0 : Int32)) d_La_law_1244 (by decide) ?_
        exact v_zreturn hQ hr1 rfl rfl (zkn_le hkn (by omega) (by omega)) d_La_law_1245 E
  · refine z_iconst (v := (0 : Int32)) d_La_law_1227 (by decide) ?_
    exact v_zreturn hQ hr1 rfl rfl (zkn_le hkn (by omega) (by omega)) d_La_law_1228 E
set_option maxRecDepth 100000 in
set_option maxHeartbeats 4000000 in
theorem w_La_law_b1249 {X : zX} {r : pR} {G L b : Nat} {xs : Nat → Int32} {F : Nat} {k1469 : Nat → Nat → Nat → Int32 → pH → Option pR} (hQ : zQL X) (hr1 : r.1 = some (.int 1)) (hT : zLA X) (hS : zSC X b L xs) (hk1469 : ∀ (k n : Nat), zkn X (k + 8 * F) (n + 48 * F) → ∀ (x1 : Nat) (x2 : Nat) (x3 : Nat) (x4 : Int32) (h : pH), k1469 x1 x2 x3 x4 h = some r → Z X M_La_law k n h 1469 [(0, .ref b), (1, .ref x1), (2, .ref x2), (3, .ref x3), (4, .int x4)] []) : ∀ (k n : Nat), zkn X (k + 8 * F + 8) (n + 48 * F + 48) → ∀ (x1 : Nat) (x2 : Nat) (x3 : Nat) (x4 : Int32) (h : pH), f_La_law_b1249 G L xs k1469 x1 x2 x3 x4 h = some r → Z X M_La_law k n h 1249 [(0, .ref b), (1, .ref x1), (2, .ref x2), (3, .ref x3), (4, .int x4)] [] := by
  intro k n hkn x1 x2 x3 x4 h E
  rw [f_La_law_b1249_eq] at E
  refine z_aload_n 1 d_La_law_1249 rfl rfl ?_
  refine z_aload_n 0 d_La_law_1250 rfl rfl ?_
  refine z_iload 4 d_La_law_1251 rfl ?_
  refine z_iconst (v := (1 : Int32)) d_La_law_1253 (by decide) ?_
  refine z_iadd d_La_law_1254 ?_
  refine v_sld hS d_La_law_1255 E (fun v285 _ E => ?_)
  refine z_aload_n 0 d_La_law_1256 rfl rfl ?_
  refine z_iload 4 d_La_law_1257 rfl ?_
  refine z_iconst (v := (2 : Int32)) d_La_law_1259 (by decide) ?_
  refine z_iadd d_La_law_1260 ?_
  refine v_sld hS d_La_law_1261 E (fun v286 _ E => ?_)
  refine z_aload_n 3 d_La_law_1262 rfl rfl ?_
  obtain ⟨g288, v290, h287, e289, E⟩ := cI_some E
  refine v_invSW (y := y_La_change) (Mc := M_La_change) (hh := hh_La_change) (av := [.ref x1, .int v285, .int v286, .ref x3]) (rest := []) (mc1 := 2) (ms1 := 12) hT ⟨zt_640, zt_641, zt_47⟩ zk_La_change zy_La_change (by decide) (Nat.le_of_ble_eq_true rfl) (zkn_le hkn (by omega) (by omega)) rfl (Nat.le_of_ble_eq_true rfl) d_La_law_1263 (m_La_change (zLA_l hT) e289) ?_
  show Z X M_La_law (k + 2) (n + 12) h287 1266 [(0, .ref b), (1, .ref x1), (2, .ref x2), (3, .ref x3), (4, .int x4)] [.int v290]
  refine z_istore (lv2 := [(5, .int v290), (0, .ref b), (1, .ref x1), (2, .ref x2), (3, .ref x3), (4, .int x4)]) d_La_law_1266 (Nat.le_of_ble_eq_true rfl) rfl ?_
  refine z_aload_n 3 d_La_law_1268 rfl rfl ?_
  refine z_aload_n 1 d_La_law_1269 rfl rfl ?_
  refine z_iload 5 d_La_law_1270 rfl ?_
  refine z_iconst (v := (1 : Int32)) d_La_law_1272 (by decide) ?_
  refine z_iadd d_La_law_1273 ?_
  refine v_sld hS d_La_law_1274 E (fun v291 _ E => ?_)
  refine z_aload_n 1 d_La_law_1275 rfl rfl ?_
  refine z_iload 5 d_La_law_1276 rfl ?_
  refine z_iconst (v := (2 : Int32)) d_La_law_1278 (by decide) ?_
  refine z_iadd d_La_law_1279 ?_
  refine v_sld hS d_La_law_1280 E (fun v292 _ E => ?_)
  obtain ⟨g294, v296, h293, e295, E⟩ := cI_some E
  refine z_invV (ci := 4) (y := y_Mo_change) (Mc := M_Mo_change) (av := [.int v291, .int v292]) (rest := []) rfl rfl ⟨zt_898, zt_899, zt_900, zt_52⟩ zk_Mo_change zy_Mo_change (by decide) (Nat.le_of_ble_eq_true rfl) (zkn_le hkn (by omega) (by omega)) rfl (Nat.le_of_ble_eq_true rfl) d_La_law_1281 g294 (m_Mo_change e295) ?_
  show Z X M_La_law (k + 2) (n + 12) h293 1284 [(5, .int v290), (0, .ref b), (1, .ref x1), (2, .ref x2), (3, .ref x3), (4, .int x4)] [.int v296]
  refine z_istore (lv2 := [(6, .int v296), (5, .int v290), (0, .ref b), (1, .ref x1), (2, .ref x2), (3, .ref x3), (4, .int x4)]) d_La_law_1284 (Nat.le_of_ble_eq_true rfl) rfl ?_
  refine z_aload_n 4 d_La_law_1286 rfl rfl ?_
  obtain ⟨g298, v300, h297, e299, E⟩ := cI_some E
  refine z_invV (ci := 4) (y := y_Mo_thrown) (Mc := M_Mo_thrown) (av := []) (rest := []) rfl rfl ⟨zt_738, zt_739, zt_740, zt_52⟩ zk_Mo_thrown zy_Mo_thrown (by decide) (Nat.le_of_ble_eq_true rfl) (zkn_le hkn (by omega) (by omega)) rfl (Nat.le_of_ble_eq_true rfl) d_La_law_1287 g298 (m_Mo_thrown e299) ?_
  show Z X M_La_law (k + 2) (n + 12) h297 1290 [(6, .int v296), (5, .int v290), (0, .ref b), (1, .ref x1), (2, .ref x2), (3, .ref x3), (4, .int x4)] [.int v300]
  refine z_iload 1 d_La_law_1290 rfl ?_
  refine z_ic_eq (tgt := 1297) d_La_law_1292 (by decide) E (fun E => ?_) (fun E => ?_)
  · refine z_iload 1 d_La_law_1297 rfl ?_
    refine z_if_ne (y := 0) (tgt := 1314) d_La_law_1299 (by decide) E (fun E => ?_) (fun E => ?_)
    · refine z_lv [2, 3, 4, 5, 6] rfl ?_
      exact (w_La_law_b1314 hQ hr1 hT hS hk1469) _ _ (zkn_le hkn (by omega) (by omega)) x1 x2 x3 x4 h297 E
    · refine z_aload_n 5 d_La_law_1302 rfl rfl ?_
      refine z_iconst (v := (0 : Int32)) d_La_law_1303 (by decide) ?_
      refine z_laload d_La_law_1304 E (fun v301 _ E => ?_)
      refine z_iload 0 d_La_law_1305 rfl ?_
      refine z_i2l d_La_law_1307 ?_
      refine z_lcmp d_La_law_1308 ?_
      refine z_if_eq (y := 0) (tgt := 1314) d_La_law_1309 (by decide) E (fun E => ?_) (fun E => ?_)
      · refine z_lv [2, 3, 4, 5, 6] rfl ?_
        exact (w_La_law_b1314 hQ hr1 hT hS hk1469) _ _ (zkn_le hkn (by omega) (by omega)) x1 x2 x3 x4 h297 E
      · refine z_iconst (v := (0 : Int32)) d_La_law_1312 (by decide) ?_
        exact v_zreturn hQ hr1 rfl rfl (zkn_le hkn (by omega) (by omega)) d_La_law_1313 E
  · refine z_iconst (v := (0 : Int32)) d_La_law_1295 (by decide) ?_
    exact v_zreturn hQ hr1 rfl rfl (zkn_le hkn (by omega) (by omega)) d_La_law_1296 E
set_option maxRecDepth 100000 in
set_option maxHeartbeats 4000000 in
theorem w_La_law_b1317 {X : zX} {r : pR} {G L b : Nat} {xs : Nat → Int32} {F : Nat} {k1469 : Nat → Nat → Nat → Int32 → pH → Option pR} (hQ : zQL X) (hr1 : r.1 = some (.int 1)) (hT : zLA X) (hS : zSC X b L xs) (hk1469 : ∀ (k n : Nat), zkn X (k + 8 * F) (n + 48 * F) → ∀ (x1 : Nat) (x2 : Nat) (x3 : Nat) (x4 : Int32) (h : pH), k1469 x1 x2 x3 x4 h = some r → Z X M_La_law k n h 1469 [(0, .ref b), (1, .ref x1), (2, .ref x2), (3, .ref x3), (4, .int x4)] []) : ∀ (k n : Nat), zkn X (k + 8 * F + 8) (n + 48 * F + 48) → ∀ (x1 : Nat) (x2 : Nat) (x3 : Nat) (x4 : Int32) (h : pH), f_La_law_b1317 G L xs k1469 x1 x2 x3 x4 h = some r → Z X M_La_law k n h 1317 [(0, .ref b), (1, .ref x1), (2, .ref x2), (3, .ref x3), (4, .int x4)] [] := by
  intro k n hkn x1 x2 x3 x4 h E
  rw [f_La_law_b1317_eq] at E
  refine z_aload_n 1 d_La_law_1317 rfl rfl ?_
  refine z_aload_n 0 d_La_law_1318 rfl rfl ?_
  refine z_iload 4 d_La_law_1319 rfl ?_
  refine z_iconst (v := (1 : Int32)) d_La_law_1321 (by decide) ?_
  refine z_iadd d_La_law_1322 ?_
  refine v_sld hS d_La_law_1323 E (fun v302 _ E => ?_)
  refine z_aload_n 0 d_La_law_1324 rfl rfl ?_
  refine z_iload 4 d_La_law_1325 rfl ?_
  refine z_iconst (v := (2 : Int32)) d_La_law_1327 (by decide) ?_
  refine z_iadd d_La_law_1328 ?_
  refine v_sld hS d_La_law_1329 E (fun v303 _ E => ?_)
  refine z_aload_n 3 d_La_law_1330 rfl rfl ?_
  obtain ⟨g305, v307, h304, e306, E⟩ := cI_some E
  refine v_invSW (y := y_La_part) (Mc := M_La_part) (hh := hh_La_part) (av := [.ref x1, .int v302, .int v303, .ref x3]) (rest := []) (mc1 := 2) (ms1 := 12) hT ⟨zt_647, zt_648, zt_47⟩ zk_La_part zy_La_part (by decide) (Nat.le_of_ble_eq_true rfl) (zkn_le hkn (by omega) (by omega)) rfl (Nat.le_of_ble_eq_true rfl) d_La_law_1331 (m_La_part (zLA_l hT) e306) ?_
  show Z X M_La_law (k + 2) (n + 12) h304 1334 [(0, .ref b), (1, .ref x1), (2, .ref x2), (3, .ref x3), (4, .int x4)] [.int v307]
  refine z_istore (lv2 := [(5, .int v307), (0, .ref b), (1, .ref x1), (2, .ref x2), (3, .ref x3), (4, .int x4)]) d_La_law_1334 (Nat.le_of_ble_eq_true rfl) rfl ?_
  refine z_aload_n 3 d_La_law_1336 rfl rfl ?_
  refine z_aload_n 1 d_La_law_1337 rfl rfl ?_
  refine z_iload 5 d_La_law_1338 rfl ?_
  refine z_iconst (v := (1 : Int32)) d_La_law_1340 (by decide) ?_
  refine z_iadd d_La_law_1341 ?_
  refine v_sld hS d_La_law_1342 E (fun v308 _ E => ?_)
  refine z_aload_n 1 d_La_law_1343 rfl rfl ?_
  refine z_iload 5 d_La_law_1344 rfl ?_
  refine z_iconst (v := (2 : Int32)) d_La_law_1346 (by decide) ?_
  refine z_iadd d_La_law_1347 ?_
  refine v_sld hS d_La_law_1348 E (fun v309 _ E => ?_)
  obtain ⟨g311, v313, h310, e312, E⟩ := cI_some E
  refine z_invV (ci := 4) (y := y_Mo_part) (Mc := M_Mo_part) (av := [.int v308, .int v309]) (rest := []) rfl rfl ⟨zt_902, zt_903, zt_904, zt_52⟩ zk_Mo_part zy_Mo_part (by decide) (Nat.le_of_ble_eq_true rfl) (zkn_le hkn (by omega) (by omega)) rfl (Nat.le_of_ble_eq_true rfl) d_La_law_1349 g311 (m_Mo_part e312) ?_
  show Z X M_La_law (k + 2) (n + 12) h310 1352 [(5, .int v307), (0, .ref b), (1, .ref x1), (2, .ref x2), (3, .ref x3), (4, .int x4)] [.int v313]
  refine z_istore (lv2 := [(6, .int v313), (5, .int v307), (0, .ref b), (1, .ref x1), (2, .ref x2), (3, .ref x3), (4, .int x4)]) d_La_law_1352 (Nat.le_of_ble_eq_true rfl) rfl ?_
  refine z_aload_n 4 d_La_law_1354 rfl rfl ?_
  obtain ⟨g315, v317, h314, e316, E⟩ := cI_some E
  refine z_invV (ci := 4) (y := y_Mo_thrown) (Mc := M_Mo_thrown) (av := []) (rest := []) rfl rfl ⟨zt_738, zt_739, zt_740, zt_52⟩ zk_Mo_thrown zy_Mo_thrown (by decide) (Nat.le_of_ble_eq_true rfl) (zkn_le hkn (by omega) (by omega)) rfl (Nat.le_of_ble_eq_true rfl) d_La_law_1355 g315 (m_Mo_thrown e316) ?_
  show Z X M_La_law (k + 2) (n + 12) h314 1358 [(6, .int v313), (5, .int v307), (0, .ref b), (1, .ref x1), (2, .ref x2), (3, .ref x3), (4, .int x4)] [.int v317]
  refine z_iload 1 d_La_law_1358 rfl ?_
  refine z_ic_eq (tgt := 1365) d_La_law_1360 (by decide) E (fun E => ?_) (fun E => ?_)
  · refine z_iload 1 d_La_law_1365 rfl ?_
    refine z_if_ne (y := 0) (tgt := 1382) d_La_law_1367 (by decide) E (fun E => ?_) (fun E => ?_)
    · refine z_lv [2, 3, 4, 5, 6] rfl ?_
      exact (w_La_law_b1382 hQ hr1 hT hS hk1469) _ _ (zkn_le hkn (by omega) (by omega)) x1 x2 x3 x4 h314 E
    · refine z_aload_n 5 d_La_law_1370 rfl rfl ?_
      refine z_iconst (v := (0 : Int32)) d_La_law_1371 (by decide) ?_
      refine z_laload d_La_law_1372 E (fun v318 _ E => ?_)
      refine z_iload 0 d_La_law_1373 rfl ?_
      refine z_i2l d_La_law_1375 ?_
      refine z_lcmp d_La_law_1376 ?_
      refine z_if_eq (y := 0) (tgt := 1382) d_La_law_1377 (by decide) E (fun E => ?_) (fun E => ?_)
      · refine z_lv [2, 3, 4, 5, 6] rfl ?_
        exact (w_La_law_b1382 hQ hr1 hT hS hk1469) _ _ (zkn_le hkn (by omega) (by omega)) x1 x2 x3 x4 h314 E
      · refine z_iconst (v := (0 : Int32)) d_La_law_1380 (by decide) ?_
        exact v_zreturn hQ hr1 rfl rfl (zkn_le hkn (by omega) (by omega)) d_La_law_1381 E
  · refine z_iconst (v := (0 : Int32)) d_La_law_1363 (by decide) ?_
    exact v_zreturn hQ hr1 rfl rfl (zkn_le hkn (by omega) (by omega)) d_La_law_1364 E
set_option maxRecDepth 100000 in
set_option maxHeartbeats 4000000 in
theorem w_La_law_b1385 {X : zX} {r : pR} {G L b : Nat} {xs : Nat → Int32} {F : Nat} {k1469 : Nat → Nat → Nat → Int32 → pH → Option pR} (hQ : zQL X) (hr1 : r.1 = some (.int 1)) (hT : zLA X) (hS : zSC X b L xs) (hk1469 : ∀ (k n : Nat), zkn X (k + 8 * F) (n + 48 * F) → ∀ (x1 : Nat) (x2 : Nat) (x3 : Nat) (x4 : Int32) (h : pH), k1469 x1 x2 x3 x4 h = some r → Z X M_La_law k n h 1469 [(0, .ref b), (1, .ref x1), (2, .ref x2), (3, .ref x3), (4, .int x4)] []) : ∀ (k n : Nat), zkn X (k + 8 * F + 8) (n + 48 * F + 48) → ∀ (x1 : Nat) (x2 : Nat) (x3 : Nat) (x4 : Int32) (h : pH), f_La_law_b1385 G L xs k1469 x1 x2 x3 x4 h = some r → Z X M_La_law k n h 1385 [(0, .ref b), (1, .ref x1), (2, .ref x2), (3, .ref x3), (4, .int x4)] [] := by
  intro k n hkn x1 x2 x3 x4 h E
  rw [f_La_law_b1385_eq] at E
  refine z_aload_n 1 d_La_law_1385 rfl rfl ?_
  refine z_aload_n 0 d_La_law_1386 rfl rfl ?_
  refine z_iload 4 d_La_law_1387 rfl ?_
  refine z_iconst (v := (1 : Int32)) d_La_law_1389 (by decide) ?_
  refine z_iadd d_La_law_1390 ?_
  refine v_sld hS d_La_law_1391 E (fun v319 _ E => ?_)
  refine z_aload_n 0 d_La_law_1392 rfl rfl ?_
  refine z_iload 4 d_La_law_1393 rfl ?_
  refine z_iconst (v := (2 : Int32)) d_La_law_1395 (by decide) ?_
  refine z_iadd d_La_law_1396 ?_
  refine v_sld hS d_La_law_1397 E (fun v320 _ E => ?_)
  refine z_if_eq (y := 0) (tgt := 1405) d_La_law_1398 (by decide) E (fun E => ?_) (fun E => ?_)
  · refine z_iconst (v := (0 : Int32)) d_La_law_1405 (by decide) ?_
    exact (w_La_law_b1406 hQ hr1 hT hS hk1469) _ _ (zkn_le hkn (by omega) (by omega)) x1 x2 x3 x4 x1 v319 (0 : Int32) h E
  · refine z_iconst (v := (1 : Int32)) d_La_law_1401 (by decide) ?_
    refine z_goto (tgt := 1406) d_La_law_1402 (by decide) ?_
    exact (w_La_law_b1406 hQ hr1 hT hS hk1469) _ _ (zkn_le hkn (by omega) (by omega)) x1 x2 x3 x4 x1 v319 (1 : Int32) h E
set_option maxRecDepth 100000 in
set_option maxHeartbeats 4000000 in
theorem w_La_law_b1469 {X : zX} {r : pR} {G L b : Nat} {xs : Nat → Int32} {F : Nat} {k23 : Nat → Nat → Nat → Int32 → pH → Option pR} (hQ : zQL X) (hr1 : r.1 = some (.int 1)) (hT : zLA X) (hS : zSC X b L xs) (hk23 : ∀ (k n : Nat), zkn X (k + 8 * F) (n + 48 * F) → ∀ (x1 : Nat) (x2 : Nat) (x3 : Nat) (x4 : Int32) (h : pH), k23 x1 x2 x3 x4 h = some r → Z X M_La_law k n h 23 [(0, .ref b), (1, .ref x1), (2, .ref x2), (3, .ref x3), (4, .int x4)] []) : ∀ (k n : Nat), zkn X (k + 8 * F) (n + 48 * F) → ∀ (x1 : Nat) (x2 : Nat) (x3 : Nat) (x4 : Int32) (h : pH), f_La_law_b1469 G L xs k23 x1 x2 x3 x4 h = some r → Z X M_La_law k n h 1469 [(0, .ref b), (1, .ref x1), (2, .ref x2), (3, .ref x3), (4, .int x4)] [] := by
  intro k n hkn x1 x2 x3 x4 h E
  rw [f_La_law_b1469_eq] at E
  refine z_iinc (v := (x4 + 5)) (lv2 := [(4, .int (x4 + 5)), (0, .ref b), (1, .ref x1), (2, .ref x2), (3, .ref x3)]) 4 d_La_law_1469 rfl rfl (Nat.le_of_ble_eq_true rfl) rfl ?_
  refine z_goto (tgt := 23) d_La_law_1472 (by decide) ?_
  refine z_lv [1, 2, 3, 4, 0] rfl ?_
  exact hk23 _ _ (zkn_le hkn (by omega) (by omega)) x1 x2 x3 (x4 + 5) h E
set_option maxRecDepth 100000 in
set_option maxHeartbeats 4000000 in
theorem w_La_law_b23 {X : zX} {r : pR} {G L b : Nat} {xs : Nat → Int32} (hQ : zQL X) (hr1 : r.1 = some (.int 1)) (hT : zLA X) (hS : zSC X b L xs) : ∀ (F k n : Nat), zkn X (k + 8 * F) (n + 48 * F) → ∀ (x1 : Nat) (x2 : Nat) (x3 : Nat) (x4 : Int32) (h : pH), f_La_law_b23 G L xs F x1 x2 x3 x4 h = some r → Z X M_La_law k n h 23 [(0, .ref b), (1, .ref x1), (2, .ref x2), (3, .ref x3), (4, .int x4)] [] := by
  intro F
  induction F with
  | zero => intro k n _ x1 x2 x3 x4 h E; exact nomatch (show (none : Option pR) = some _ from E)
  | succ F ih =>
    intro k n hkn x1 x2 x3 x4 h E
    rw [f_La_law_b23_eq] at E
    refine z_iload 4 d_La_law_23 rfl ?_
    refine z_aload_n 0 d_La_law_25 rfl rfl ?_
    refine v_slen hS d_La_law_26 ?_
    refine z_iconst (v := (5 : Int32)) d_La_law_27 (by decide) ?_
    refine z_isub d_La_law_28 ?_
    refine z_ic_gt (tgt := 1475) d_La_law_29 (by decide) E (fun E => ?_) (fun E => ?_)
    · refine z_iconst (v := (1 : Int32)) d_La_law_1475 (by decide) ?_
      exact v_zreturn hQ hr1 rfl rfl (zkn_le hkn (by omega) (by omega)) d_La_law_1476 E
    · refine z_aload_n 0 d_La_law_32 rfl rfl ?_
      refine z_iload 4 d_La_law_33 rfl ?_
      refine v_sld hS d_La_law_35 E (fun v321 _ E => ?_)
      refine z_bipush (v := (31 : Int32)) d_La_law_36 (by decide) ?_
      refine z_iand d_La_law_38 ?_
      by_cases c0 : (v321 &&& (31 : Int32)) = 0
      · rw [if_pos c0] at E
        refine z_tswIn (v := 0) (off := 85) (tgt := 124) c0 d_La_law_39 (by decide) (by decide) rfl (by decide) ?_
        exact (w_La_law_b124 hQ hr1 hT hS (w_La_law_b1469 hQ hr1 hT hS ih)) _ _ (zkn_le hkn (by omega) (by omega)) x1 x2 x3 x4 h E
      rw [if_neg c0] at E
      by_cases c1 : (v321 &&& (31 : Int32)) = 1
      · rw [if_pos c1] at E
        refine z_tswIn (v := 1) (off := 177) (tgt := 216) c1 d_La_law_39 (by decide) (by decide) rfl (by decide) ?_
        exact (w_La_law_b216 hQ hr1 hT hS (w_La_law_b1469 hQ hr1 hT hS ih)) _ _ (zkn_le hkn (by omega) (by omega)) x1 x2 x3 x4 h E
      rw [if_neg c1] at E
      by_cases c2 : (v321 &&& (31 : Int32)) = 2
      · rw [if_pos c2] at E
        refine z_tswIn (v := 2) (off := 269) (tgt := 308) c2 d_La_law_39 (by decide) (by decide) rfl (by decide) ?_
        exact (w_La_law_b308 hQ hr1 hT hS (w_La_law_b1469 hQ hr1 hT hS ih)) _ _ (zkn_le hkn (by omega) (by omega)) x1 x2 x3 x4 h E
      rw [if_neg c2] at E
      by_cases c3 : (v321 &&& (31 : Int32)) = 3
      · rw [if_pos c3] at E
        refine z_tswIn (v := 3) (off := 337) (tgt := 376) c3 d_La_law_39 (by decide) (by decide) rfl (by decide) ?_
        exact (w_La_law_b376 hQ hr1 hT hS (w_La_law_b1469 hQ hr1 hT hS ih)) _ _ (zkn_le hkn (by omega) (by omega)) x1 x2 x3 x4 h E
      rw [if_neg c3] at E
      by_cases c4 : (v321 &&& (31 : Int32)) = 4
      · rw [if_pos c4] at E
        refine z_tswIn (v := 4) (off := 405) (tgt := 444) c4 d_La_law_39 (by decide) (by decide) rfl (by decide) ?_
        exact (w_La_law_b444 hQ hr1 hT hS (w_La_law_b1469 hQ hr1 hT hS ih)) _ _ (zkn_le hkn (by omega) (by omega)) x1 x2 x3 x4 h E
      rw [if_neg c4] at E
      by_cases c5 : (v321 &&& (31 : Int32)) = 5
      · rw [if_pos c5] at E
        refine z_tswIn (v := 5) (off := 473) (tgt := 512) c5 d_La_law_39 (by decide) (by decide) rfl (by decide) ?_
        exact (w_La_law_b512 hQ hr1 hT hS (w_La_law_b1469 hQ hr1 hT hS ih)) _ _ (zkn_le hkn (by omega) (by omega)) x1 x2 x3 x4 h E
      rw [if_neg c5] at E
      by_cases c6 : (v321 &&& (31 : Int32)) = 6
      · rw [if_pos c6] at E
        refine z_tswIn (v := 6) (off := 548) (tgt := 587) c6 d_La_law_39 (by decide) (by decide) rfl (by decide) ?_
        exact (w_La_law_b587 hQ hr1 hT hS (w_La_law_b1469 hQ hr1 hT hS ih)) _ _ (zkn_le hkn (by omega) (by omega)) x1 x2 x3 x4 h E
      rw [if_neg c6] at E
      by_cases c7 : (v321 &&& (31 : Int32)) = 7
      · rw [if_pos c7] at E
        refine z_tswIn (v := 7) (off := 628) (tgt := 667) c7 d_La_law_39 (by decide) (by decide) rfl (by decide) ?_
        exact (w_La_law_b667 hQ hr1 hT hS (w_La_law_b1469 hQ hr1 hT hS ih)) _ _ (zkn_le hkn (by omega) (by omega)) x1 x2 x3 x4 h E
      rw [if_neg c7] at E
      by_cases c8 : (v321 &&& (31 : Int32)) = 8
      · rw [if_pos c8] at E
        refine z_tswIn (v := 8) (off := 696) (tgt := 735) c8 d_La_law_39 (by decide) (by decide) rfl (by decide) ?_
        exact (w_La_law_b735 hQ hr1 hT hS (w_La_law_b1469 hQ hr1 hT hS ih)) _ _ (zkn_le hkn (by omega) (by omega)) x1 x2 x3 x4 h E
      rw [if_neg c8] at E
      by_cases c9 : (v321 &&& (31 : Int32)) = 9
      · rw [if_pos c9] at E
        refine z_tswIn (v := 9) (off := 771) (tgt := 810) c9 d_La_law_39 (by decide) (by decide) rfl (by decide) ?_
        exact (w_La_law_b810 hQ hr1 hT hS (w_La_law_b1469 hQ hr1 hT hS ih)) _ _ (zkn_le hkn (by omega) (by omega)) x1 x2 x3 x4 h E
      rw [if_neg c9] at E
      by_cases c10 : (v321 &&& (31 : Int32)) = 10
      · rw [if_pos c10] at E
        refine z_tswIn (v := 10) (off := 851) (tgt := 890) c10 d_La_law_39 (by decide) (by decide) rfl (by decide) ?_
        exact (w_La_law_b890 hQ hr1 hT hS (w_La_law_b1469 hQ hr1 hT hS ih)) _ _ (zkn_le hkn (by omega) (by omega)) x1 x2 x3 x4 h E
      rw [if_neg c10] at E
      by_cases c11 : (v321 &&& (31 : Int32)) = 11
      · rw [if_pos c11] at E
        refine z_tswIn (v := 11) (off := 914) (tgt := 953) c11 d_La_law_39 (by decide) (by decide) rfl (by decide) ?_
        exact (w_La_law_b953 hQ hr1 hT hS (w_La_law_b1469 hQ hr1 hT hS ih)) _ _ (zkn_le hkn (by omega) (by omega)) x1 x2 x3 x4 h E
      rw [if_neg c11] at E
      by_cases c12 : (v321 &&& (31 : Int32)) = 12
      · rw [if_pos c12] at E
        refine z_tswIn (v := 12) (off := 970) (tgt := 1009) c12 d_La_law_39 (by decide) (by decide) rfl (by decide) ?_
        exact (w_La_law_b1009 hQ hr1 hT hS (w_La_law_b1469 hQ hr1 hT hS ih)) _ _ (zkn_le hkn (by omega) (by omega)) x1 x2 x3 x4 h E
      rw [if_neg c12] at E
      by_cases c13 : (v321 &&& (31 : Int32)) = 13
      · rw [if_pos c13] at E
        refine z_tswIn (v := 13) (off := 1050) (tgt := 1089) c13 d_La_law_39 (by decide) (by decide) rfl (by decide) ?_
        exact (w_La_law_b1089 hQ hr1 hT hS (w_La_law_b1469 hQ hr1 hT hS ih)) _ _ (zkn_le hkn (by omega) (by omega)) x1 x2 x3 x4 h E
      rw [if_neg c13] at E
      by_cases c14 : (v321 &&& (31 : Int32)) = 14
      · rw [if_pos c14] at E
        refine z_tswIn (v := 14) (off := 1142) (tgt := 1181) c14 d_La_law_39 (by decide) (by decide) rfl (by decide) ?_
        exact (w_La_law_b1181 hQ hr1 hT hS (w_La_law_b1469 hQ hr1 hT hS ih)) _ _ (zkn_le hkn (by omega) (by omega)) x1 x2 x3 x4 h E
      rw [if_neg c14] at E
      by_cases c15 : (v321 &&& (31 : Int32)) = 15
      · rw [if_pos c15] at E
        refine z_tswIn (v := 15) (off := 1210) (tgt := 1249) c15 d_La_law_39 (by decide) (by decide) rfl (by decide) ?_
        exact (w_La_law_b1249 hQ hr1 hT hS (w_La_law_b1469 hQ hr1 hT hS ih)) _ _ (zkn_le hkn (by omega) (by omega)) x1 x2 x3 x4 h E
      rw [if_neg c15] at E
      by_cases c16 : (v321 &&& (31 : Int32)) = 16
      · rw [if_pos c16] at E
        refine z_tswIn (v := 16) (off := 1278) (tgt := 1317) c16 d_La_law_39 (by decide) (by decide) rfl (by decide) ?_
        exact (w_La_law_b1317 hQ hr1 hT hS (w_La_law_b1469 hQ hr1 hT hS ih)) _ _ (zkn_le hkn (by omega) (by omega)) x1 x2 x3 x4 h E
      rw [if_neg c16] at E
      by_cases c17 : (v321 &&& (31 : Int32)) = 17
      · rw [if_pos c17] at E
        refine z_tswIn (v := 17) (off := 1346) (tgt := 1385) c17 d_La_law_39 (by decide) (by decide) rfl (by decide) ?_
        exact (w_La_law_b1385 hQ hr1 hT hS (w_La_law_b1469 hQ hr1 hT hS ih)) _ _ (zkn_le hkn (by omega) (by omega)) x1 x2 x3 x4 h E
      rw [if_neg c17] at E
      refine z_tswOut (tgt := 1469) d_La_law_39 (tsw_out 17 (fun k hk => by match k, hk with | 0, _ => exact c0 | 1, _ => exact c1 | 2, _ => exact c2 | 3, _ => exact c3 | 4, _ => exact c4 | 5, _ => exact c5 | 6, _ => exact c6 | 7, _ => exact c7 | 8, _ => exact c8 | 9, _ => exact c9 | 10, _ => exact c10 | 11, _ => exact c11 | 12, _ => exact c12 | 13, _ => exact c13 | 14, _ => exact c14 | 15, _ => exact c15 | 16, _ => exact c16 | 17, _ => exact c17 | (j + 18), hj => exact absurd hj (by omega))) (by decide) ?_
      exact (w_La_law_b1469 hQ hr1 hT hS ih) _ _ (zkn_le hkn (by omega) (by omega)) x1 x2 x3 x4 h E
set_option maxRecDepth 100000 in
set_option maxHeartbeats 4000000 in
theorem w_La_law {X : zX} {G L b : Nat} {xs : Nat → Int32} (hQ : zQL X) (hT : zLA X) (hS : zSC X b L xs) (hkn : zkn X 601024 7293034) (h : pH) (E : p_La_law G L xs h) : Z X M_La_law 0 0 h 0 [(0, .ref b)] [] := by
  unfold p_La_law at E
  refine y_new (ci := 3) (fs := [.null, .null, .null, .null, .null, .int 0, .null, .null, .null]) rfl nY3 nt3 (by decide +kernel) ⟨zt_59, zt_60, zt_48⟩ (zkn_le hkn (by omega) (by omega)) d_La_law_0 (fun q0 f0 => ?_)
  have E := E q0 f0
  refine z_dup d_La_law_3 rfl ?_
  refine v_invI (y := y_Mg_init) (Mc := M_Mg_init) (mc1 := 43) (ms1 := 4307) hT rfl rfl ⟨zt_61, zt_62, zt_48⟩ zk_Mg_init zy_Mg_init (by decide) (Nat.le_of_ble_eq_true rfl) (zkn_le hkn (by omega) (by omega)) (Nat.le_of_ble_eq_true rfl) d_La_law_4 (m_Mg_init E) (fun rc hrc => ?_)
  obtain ⟨h1, rfl, E⟩ := hrc
  show Z X M_La_law 44 4316 h1 7 [(0, .ref b)] [.ref q0]
  refine z_astore_n (lv2 := [(1, .ref q0), (0, .ref b)]) d_La_law_7 rfl (Nat.le_of_ble_eq_true rfl) rfl ?_
  refine y_new (ci := 4) (fs := [.int 0, .null, .null, .null, .int 0, .null, .null, .int 0, .null, .int 0, .null, .null, .int 0, .null, .null, .int 0, .int 0, .null, .null]) rfl nY4 nt4 (by decide +kernel) ⟨zt_674, zt_675, zt_52⟩ (zkn_le hkn (by omega) (by omega)) d_La_law_8 (fun q1 f1 => ?_)
  have E := E q1 f1
  refine z_dup d_La_law_11 rfl ?_
  refine v_invI (y := y_Mo_init) (Mc := M_Mo_init) (mc1 := 12) (ms1 := 622) hT rfl rfl ⟨zt_676, zt_677, zt_52⟩ zk_Mo_init zy_Mo_init (by decide) (Nat.le_of_ble_eq_true rfl) (zkn_le hkn (by omega) (by omega)) (Nat.le_of_ble_eq_true rfl) d_La_law_12 (m_Mo_init E) (fun rc hrc => ?_)
  obtain ⟨h2, rfl, E⟩ := hrc
  show Z X M_La_law 57 4957 h2 15 [(1, .ref q0), (0, .ref b)] [.ref q1]
  refine z_astore_n (lv2 := [(2, .ref q1), (1, .ref q0), (0, .ref b)]) d_La_law_15 rfl (Nat.le_of_ble_eq_true rfl) rfl ?_
  refine z_iconst (v := (1 : Int32)) d_La_law_16 (by decide) ?_
  refine y_newJ (N := 1) rfl (by decide) (by decide) zt_117 (zkn_le hkn (by omega) (by omega)) d_La_law_17 (fun q2 f2 => ?_)
  obtain ⟨r, hr1, E⟩ := E q2 f2
  refine z_astore_n (lv2 := [(3, .ref q2), (2, .ref q1), (1, .ref q0), (0, .ref b)]) d_La_law_19 rfl (Nat.le_of_ble_eq_true rfl) rfl ?_
  refine z_iconst (v := (0 : Int32)) d_La_law_20 (by decide) ?_
  refine z_istore (lv2 := [(4, .int 0), (3, .ref q2), (2, .ref q1), (1, .ref q0), (0, .ref b)]) d_La_law_21 (Nat.le_of_ble_eq_true rfl) rfl ?_
  refine z_lv [4, 3, 2, 1, 0] rfl ?_
  exact w_La_law_b23 hQ hr1 hT hS 600 _ _ (zkn_le hkn (by omega) (by omega)) q0 q1 q2 0 _ E
