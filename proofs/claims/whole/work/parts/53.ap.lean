/-! PURE: apply -/
/-- lv goes out of g, cm comes in -/
def apG (g lv cm : List Nat) : List Nat := addP (fun _ => true) id (dif g lv) cm
def apOk (g lv cm : List Nat) : Bool := (lv.all (fun n => decide (n ∈ g)) && cm.all (fun n => decide (n ∉ g))) && decide (g.length + cm.length ≤ 30 + lv.length)
theorem cnt_sh {g l : List Nat} (hg : Asc g) (hl : Asc l) : g.countP (fun n => decide (n ∈ l)) = l.countP (fun n => decide (n ∈ g)) := by
  rw [List.countP_eq_length_filter, List.countP_eq_length_filter]
  congr 1
  refine asc_ext (asc_filter _ hg) (asc_filter _ hl) fun m => ?_
  rw [List.mem_filter, List.mem_filter, decide_eq_true_eq, decide_eq_true_eq]
  exact ⟨fun h => ⟨h.2, h.1⟩, fun h => ⟨h.2, h.1⟩⟩
theorem dif_out {g lv : List Nat} (hg : Asc g) (hl : Asc lv) (hs : ∀ n ∈ lv, n ∈ g) : (dif g lv).length + lv.length = g.length := by
  have h1 := cnt_sh hg hl
  have h2 : lv.countP (fun n => decide (n ∈ g)) = lv.length := List.countP_eq_length.mpr fun n hn => decide_eq_true (hs n hn)
  have h3 : (dif g lv).length = g.countP (fun n => decide (n ∉ lv)) := (List.countP_eq_length_filter ..).symm
  have h4 := List.length_eq_countP_add_countP (p := fun n => decide (n ∈ lv)) (l := g)
  have h5 : g.countP (fun n => decide (n ∉ lv)) = g.countP (fun a => decide ¬(decide (a ∈ lv)) = true) := List.countP_congr fun n _ => by simp
  omega
theorem i_sub {x y z : Nat} (hx : x ≤ 60) (hy : y ≤ 60) (hz : z ≤ 60) : (30 : Int32) < nI x - nI y + nI z ↔ 30 + y < x + z := by
  have e : nI x - nI y + nI z = nI (x + z) - nI y := by
    rw [← nI_add, Int32.sub_eq_add_neg, Int32.sub_eq_add_neg, Int32.add_assoc, Int32.add_comm (-nI y), ← Int32.add_assoc]
  rw [e, Int32.lt_iff_toInt_lt, pk_sub_toInt (by omega) (by omega), show (30 : Int32).toInt = 30 by decide]
  omega
theorem i_sub2 {x y z : Nat} (hx : x ≤ 60) (hy : y ≤ 60) (hz : z ≤ 60) : (30 : Int32) < nI x + (nI z - nI y) ↔ 30 + y < x + z := by
  have e : nI x + (nI z - nI y) = nI x - nI y + nI z := by
    rw [Int32.sub_eq_add_neg, Int32.sub_eq_add_neg, Int32.add_comm (nI z), ← Int32.add_assoc]
  rw [e, i_sub hx hy hz]
theorem apG_len {g lv cm : List Nat} (hg : Asc g) (hl : Asc lv) (hok : apOk g lv cm = true) : (apG g lv cm).length ≤ 30 := by
  unfold apOk at hok
  rw [Bool.and_eq_true, Bool.and_eq_true, decide_eq_true_eq, List.all_eq_true] at hok
  have h1 := dif_out hg hl (fun n hn => of_decide_eq_true (hok.1.1 n hn))
  have h2 := addP_len1 (p := fun _ => true) (r := id) cm (dif g lv) (dif_asc hg)
  unfold apG
  omega
section APC
variable {G : Nat} {h : pH} {B : Nat → Nat} {gs : Nat → List Nat} {cc : Int32} {cl bst : Nat → Int32}
theorem mg_apply_no {x1 x2 : Int32} (hr : RC h B gs cc cl bst) (hg : ¬ okG x1) : f_Mg_apply G (B 43) x1 x2 h = some (.inl 1, h) := by
  rw [f_Mg_apply_eq, tR_th hr.is (mg_graphAt_no hg)]
theorem mg_apply38 {g i j : Nat} (hG : 100 ≤ G) (hr : RC h B gs cc cl bst) (hg : g < 6) (hi : i = 7 ∨ i = 8) (hj : j = 7 ∨ j = 8) (hij : i ≠ j) (hA : Asc (gs g)) (hS : Sm (gs g)) (hA1 : Asc (gs i)) (hS1 : Sm (gs i)) (hA2 : Asc (gs j)) (hS2 : Sm (gs j)) :
    ∃ h2 : pH, f_Mg_apply_b38 G (B g) (B i) (B j) h = some (.inr (some (.int (bI (apOk (gs g) (gs i) (gs j))))), h2) ∧ Ch h h2 (inB B) ∧ RC h2 B (if apOk (gs g) (gs i) (gs j) = true then upG gs g (apG (gs g) (gs i) (gs j)) else gs) cc cl bst := by
  have hi11 : i < 11 := by omega
  have hj11 : j < 11 := by omega
  have gg := hr.2.1 g (by omega)
  have gi := hr.2.1 i hi11
  have gj := hr.2.1 j hj11
  have l1 := gg.2.2.2.2.1
  have l2 := gi.2.2.2.2.1
  have l3 := gj.2.2.2.2.1
  have hno : apOk (gs g) (gs i) (gs j) = false → ∀ H : pH, f_Mg_apply_b96 G H = some (.inr (some (.int (bI (apOk (gs g) (gs i) (gs j))))), H) := fun e H => by rw [f_Mg_apply_b96_eq, e]; rfl
  have e0 := gr_count (G := G) gg
  have hb : f_Mg_apply_b38 G (B g) (B i) (B j) h = if (30 : Int32) < nI (gs g).length - nI (gs i).length + nI (gs j).length then f_Mg_apply_b66 G (B g) (B i) (B j) 0 h else f_Mg_apply_b66 G (B g) (B i) (B j) 1 h := by
    rw [f_Mg_apply_b38_eq, cI_of gg.is (gr_count gg), cI_of gi.is (gr_count gi), cI_of gj.is (gr_count gj)]
  have c1 := gr_shared (G := G) hG gg hS gi hA1 hS1
  have c2 := gr_shared (G := G) hG gg hS gj hA2 hS2
  rw [cnt_sh hA hA1] at c1
  rw [cnt_sh hA hA2] at c2
  have n1 : (gs i).countP (fun n => decide (n ∈ gs g)) ≤ (gs i).length := List.countP_le_length
  have n2 : (gs j).countP (fun n => decide (n ∈ gs g)) ≤ (gs j).length := List.countP_le_length
  have k1 : (gs i).countP (fun n => decide (n ∈ gs g)) = (gs i).length ↔ (gs i).all (fun n => decide (n ∈ gs g)) = true := by rw [List.countP_eq_length, List.all_eq_true]
  have k2 : (gs j).countP (fun n => decide (n ∈ gs g)) = 0 ↔ (gs j).all (fun n => decide (n ∉ gs g)) = true := by
    rw [List.countP_eq_zero, List.all_eq_true]
    constructor
    · intro q n hn; have := q n hn; simpa using this
    · intro q n hn; have := q n hn; simpa using this
  by_cases hf : 30 + (gs i).length < (gs g).length + (gs j).length
  · have e : apOk (gs g) (gs i) (gs j) = false := by unfold apOk; rw [decide_eq_false (by omega), Bool.and_false]
    refine ⟨h, ?_, Ch.rf, by rw [if_neg (by rw [e]; decide)]; exact hr⟩
    rw [hb, if_pos ((i_sub (by omega) (by omega) (by omega)).mpr hf), f_Mg_apply_b66_eq, if_pos rfl, hno e]
  · have hb2 := hb
    rw [if_neg (fun q => hf ((i_sub (by omega) (by omega) (by omega)).mp q)), f_Mg_apply_b66_eq, if_neg (by decide), cI_of gg.is c1, cI_of gi.is (gr_count gi)] at hb2
    by_cases h1 : (gs i).all (fun n => decide (n ∈ gs g)) = true
    · rw [k1.mpr h1, if_pos rfl, cI_of gg.is c2] at hb2
      by_cases h2 : (gs j).all (fun n => decide (n ∉ gs g)) = true
      · have e : apOk (gs g) (gs i) (gs j) = true := by unfold apOk; rw [h1, h2, decide_eq_true (by omega)]; rfl
        rw [k2.mpr h2, if_pos (show nI 0 = 0 from rfl)] at hb2
        obtain ⟨h3, b1, b2, b3⟩ := gr_eraAll (G := G) hG gg hA hS gi hS1 (hr.1.nc (by omega) (by omega) (by omega) (by omega)) (hr.1.nc (by omega) (by omega) (by omega) (by omega))
        have r3 := hr.set (by omega) b2 b3
        have gj3 := r3.2.1 j hj11
        rw [upG_n (by omega)] at gj3
        obtain ⟨h4, d1, d2, d3⟩ := gr_insAll (G := G) hG b3 (dif_asc hA) (Sm_mem.mpr fun m hm => Sm_mem.mp hS m (dif_mem.mp hm).1) gj3 hS2 (apG_len hA hA1 e) (r3.1.nc (by omega) (by omega) (by omega) (by omega)) (r3.1.nc (by omega) (by omega) (by omega) (by omega))
        have r4 := r3.set (by omega) d2 d3
        rw [upG_u] at r4
        refine ⟨h4, ?_, (b2.mono (inB_c (by omega))).tr (d2.mono (inB_c (by omega))), by rw [if_pos e]; exact r4⟩
        rw [hb2, cV_of gg.is b1, cV_of b3.is d1, e]; rfl
      · have e : apOk (gs g) (gs i) (gs j) = false := by unfold apOk; rw [Bool.eq_false_iff.mpr h2, Bool.and_false, Bool.false_and]
        refine ⟨h, ?_, Ch.rf, by rw [if_neg (by rw [e]; decide)]; exact hr⟩
        rw [hb2, if_neg (show ¬ nI ((gs j).countP (fun n => decide (n ∈ gs g))) = (0 : Int32) from fun q => h2 (k2.mp ((nI_eq (b := 0) (by omega) (by omega)).mp q))), hno e]
    · have e : apOk (gs g) (gs i) (gs j) = false := by unfold apOk; rw [Bool.eq_false_iff.mpr h1, Bool.false_and, Bool.false_and]
      refine ⟨h, ?_, Ch.rf, by rw [if_neg (by rw [e]; decide)]; exact hr⟩
      rw [hb2, if_neg (fun q => h1 (k1.mp ((nI_eq (by omega) (by omega)).mp q))), hno e]
theorem mg_apply {g : Nat} {x2 : Int32} (hG : 100 ≤ G) (hr : RC h B gs cc cl bst) (hg : g < 6) (hA : Asc (gs g)) (hS : Sm (gs g)) (hA7 : Asc (gs 7)) (hS7 : Sm (gs 7)) (hA8 : Asc (gs 8)) (hS8 : Sm (gs 8)) :
    ∃ h2 : pH, f_Mg_apply G (B 43) (nI g) x2 h = some (.inr (some (.int (bI (apOk (gs g) (if x2 = 0 then gs 7 else gs 8) (if x2 = 0 then gs 8 else gs 7))))), h2) ∧ Ch h h2 (inB B) ∧ RC h2 B (if apOk (gs g) (if x2 = 0 then gs 7 else gs 8) (if x2 = 0 then gs 8 else gs 7) = true then upG gs g (apG (gs g) (if x2 = 0 then gs 7 else gs 8) (if x2 = 0 then gs 8 else gs 7)) else gs) cc cl bst := by
  by_cases h0 : x2 = 0
  · rw [if_pos h0, if_pos h0]
    obtain ⟨h2, a1, a2, a3⟩ := mg_apply38 (g := g) (i := 7) (j := 8) hG hr hg (Or.inl rfl) (Or.inr rfl) (by decide) hA hS hA7 hS7 hA8 hS8
    refine ⟨h2, ?_, a2, a3⟩
    rw [f_Mg_apply_eq, tR_of hr.is (mg_graphAt hr hg), if_pos h0, hr.f (v := B 7) rfl, Option.bind_some, f_Mg_apply_b21_eq, if_pos h0, hr.f (v := B 8) rfl, Option.bind_some, a1]
  · rw [if_neg h0, if_neg h0]
    obtain ⟨h2, a1, a2, a3⟩ := mg_apply38 (g := g) (i := 8) (j := 7) hG hr hg (Or.inr rfl) (Or.inl rfl) (by decide) hA hS hA8 hS8 hA7 hS7
    refine ⟨h2, ?_, a2, a3⟩
    rw [f_Mg_apply_eq, tR_of hr.is (mg_graphAt hr hg), if_neg h0, hr.f (v := B 8) rfl, Option.bind_some, f_Mg_apply_b21_eq, if_neg h0, hr.f (v := B 7) rfl, Option.bind_some, a1]
end APC
section APR
variable {G : Nat} {h : pH} {m : Nat} {A : Nat → Nat} {gs : Nat → List Nat} {S : Nat → Int32} {R : Nat → Nat → Int32} {go co : List Nat}
/-- mayGo: what is asked of the graph -/
def myA (g go : List Nat) (bk : Bool) : Bool := go.all (fun n => decide (n ∈ g) == !bk)
def myB (g co : List Nat) (bk : Bool) : Bool := co.all (fun n => decide (n ∈ g) == bk)
theorem mo_may57 {g : Nat} (bk x : Bool) (hG : 100 ≤ G) (ha : moA h m A) (hR : moG R gs) (hC : moC S R go co) (hg : g < 6) (hS : Sm (gs g)) (hco : Sm co) :
    ∀ (d F k : Nat), d < F → k + d = co.length → f_Mo_mayGo_b57 G F m (nI g) (bI bk) (bI (x && myB (gs g) (co.take k) bk)) (nI k) (moH h m A S R) = some (some (.int (bI ((x && myB (gs g) co bk) && decide ((gs g).length + (if bk = true then go else co).length ≤ 30 + (if bk = true then co else go).length)))), moH h m A S R) := by
  obtain ⟨c1, c2, c3, c4, c5, c6⟩ := hC
  obtain ⟨q1, q2, q3⟩ := hR g hg
  intro d
  induction d with
  | zero =>
    intro F k hF hk
    obtain ⟨F, rfl⟩ : ∃ F', F = F' + 1 := ⟨F - 1, by omega⟩
    rw [f_Mo_mayGo_b57_eq, mo_g16 ha, Option.bind_some, c2, if_pos (nI_le (by omega) (by omega)), List.take_of_length_le (by omega)]
    cases e : (x && myB (gs g) co bk)
    · rw [if_pos (show bI false = 0 from rfl), f_Mo_mayGo_b143_eq, f_Mo_mayGo_b144_eq, Bool.false_and]; rfl
    · rw [if_neg (show ¬ bI true = 0 by decide), mo_g2 ha, Option.bind_some, mo_a2 ha hg, Option.bind_some, q1, Bool.true_and]
      cases bk
      · rw [if_pos (show bI false = 0 from rfl), Option.bind_some, mo_g15 ha, Option.bind_some, c1, f_Mo_mayGo_b133_eq, if_neg (show ¬ false = true by decide), if_neg (show ¬ false = true by decide)]
        by_cases hf : 30 + go.length < (gs g).length + co.length
        · rw [if_pos ((i_sub2 (by omega) (by omega) (by omega)).mpr hf), decide_eq_false (by omega), f_Mo_mayGo_b143_eq, f_Mo_mayGo_b144_eq]; rfl
        · rw [if_neg (fun q => hf ((i_sub2 (by omega) (by omega) (by omega)).mp q)), decide_eq_true (by omega), f_Mo_mayGo_b144_eq]; rfl
      · rw [if_neg (show ¬ bI true = 0 by decide), mo_g15 ha, Option.bind_some, Option.bind_some, c1, f_Mo_mayGo_b133_eq, if_pos (show true = true from rfl), if_pos (show true = true from rfl)]
        by_cases hf : 30 + co.length < (gs g).length + go.length
        · rw [if_pos ((i_sub2 (by omega) (by omega) (by omega)).mpr hf), decide_eq_false (by omega), f_Mo_mayGo_b143_eq, f_Mo_mayGo_b144_eq]; rfl
        · rw [if_neg (fun q => hf ((i_sub2 (by omega) (by omega) (by omega)).mp q)), decide_eq_true (by omega), f_Mo_mayGo_b144_eq]; rfl
  | succ d ih =>
    intro F k hF hk
    obtain ⟨F, rfl⟩ : ∃ F', F = F' + 1 := ⟨F - 1, by omega⟩
    have hsm := hco k (by omega)
    have i1 := ih F (k + 1) (by omega) (by omega)
    have e1 : myB (gs g) (co.take (k + 1)) bk = (myB (gs g) (co.take k) bk && (decide (co.getD k 0 ∈ gs g) == bk)) := all1 _ (by omega)
    rw [e1, ← Bool.and_assoc] at i1
    rw [f_Mo_mayGo_b57_eq, mo_g16 ha, Option.bind_some, c2, if_neg (nI_ge (by omega) (by omega))]
    cases e : (x && myB (gs g) (co.take k) bk)
    · rw [e, Bool.false_and] at i1
      rw [if_pos (show bI false = 0 from rfl), f_Mo_mayGo_b90_eq, f_Mo_mayGo_b91_eq, nI_1]
      exact i1
    · rw [e, Bool.true_and] at i1
      rw [if_neg (show ¬ bI true = 0 by decide), mo_g18 ha, Option.bind_some, mo_a18 ha (by omega), Option.bind_some, c6 k (by omega), cI_of (mo_is ha) (mo_has (by omega) ha hR hg hS hsm)]
      by_cases hm : co.getD k 0 ∈ gs g
      · rw [decide_eq_true hm] at i1
        rw [if_pos hm]
        cases bk
        · rw [if_neg (by decide), f_Mo_mayGo_b90_eq, f_Mo_mayGo_b91_eq, nI_1]; exact i1
        · rw [if_pos (show (1 : Int32) = bI true from rfl), f_Mo_mayGo_b91_eq, nI_1]; exact i1
      · rw [decide_eq_false hm] at i1
        rw [if_neg hm]
        cases bk
        · rw [if_pos (show (0 : Int32) = bI false from rfl), f_Mo_mayGo_b91_eq, nI_1]; exact i1
        · rw [if_neg (by decide), f_Mo_mayGo_b90_eq, f_Mo_mayGo_b91_eq, nI_1]; exact i1
theorem mo_may5 {g : Nat} (bk : Bool) (hG : 100 ≤ G) (ha : moA h m A) (hR : moG R gs) (hC : moC S R go co) (hg : g < 6) (hS : Sm (gs g)) (hgo : Sm go) (hco : Sm co) :
    ∀ (d F k : Nat), d < F → k + d = go.length → f_Mo_mayGo_b5 G F m (nI g) (bI bk) (bI (myA (gs g) (go.take k) bk)) (nI k) (moH h m A S R) = some (some (.int (bI ((myA (gs g) go bk && myB (gs g) co bk) && decide ((gs g).length + (if bk = true then go else co).length ≤ 30 + (if bk = true then co else go).length)))), moH h m A S R) := by
  obtain ⟨c1, c2, c3, c4, c5, c6⟩ := id hC
  intro d
  induction d with
  | zero =>
    intro F k hF hk
    obtain ⟨F, rfl⟩ : ∃ F', F = F' + 1 := ⟨F - 1, by omega⟩
    have i1 := mo_may57 (G := G) bk (myA (gs g) go bk) hG ha hR hC hg hS hco co.length G 0 (by omega) (by omega)
    rw [show myB (gs g) (co.take 0) bk = true from rfl, Bool.and_true] at i1
    rw [f_Mo_mayGo_b5_eq, mo_g15 ha, Option.bind_some, c1, if_pos (nI_le (by omega) (by omega)), List.take_of_length_le (by omega)]
    exact i1
  | succ d ih =>
    intro F k hF hk
    obtain ⟨F, rfl⟩ : ∃ F', F = F' + 1 := ⟨F - 1, by omega⟩
    have hsm := hgo k (by omega)
    have i1 := ih F (k + 1) (by omega) (by omega)
    have e1 : myA (gs g) (go.take (k + 1)) bk = (myA (gs g) (go.take k) bk && (decide (go.getD k 0 ∈ gs g) == !bk)) := all1 _ (by omega)
    rw [e1] at i1
    rw [f_Mo_mayGo_b5_eq, mo_g15 ha, Option.bind_some, c1, if_neg (nI_ge (by omega) (by omega))]
    cases e : myA (gs g) (go.take k) bk
    · rw [e, Bool.false_and] at i1
      rw [if_pos (show bI false = 0 from rfl), f_Mo_mayGo_b46_eq, f_Mo_mayGo_b47_eq, nI_1]
      exact i1
    · rw [e, Bool.true_and] at i1
      rw [if_neg (show ¬ bI true = 0 by decide), mo_g17 ha, Option.bind_some, mo_a17 ha (by omega), Option.bind_some, c5 k (by omega), cI_of (mo_is ha) (mo_has (by omega) ha hR hg hS hsm)]
      by_cases hm : go.getD k 0 ∈ gs g
      · rw [decide_eq_true hm] at i1
        rw [if_pos hm]
        cases bk
        · rw [if_pos (show bI false = 0 from rfl), f_Mo_mayGo_b39_eq, if_pos rfl, f_Mo_mayGo_b47_eq, nI_1]; exact i1
        · rw [if_neg (show ¬ bI true = 0 by decide), f_Mo_mayGo_b39_eq, if_neg (by decide), f_Mo_mayGo_b46_eq, f_Mo_mayGo_b47_eq, nI_1]; exact i1
      · rw [decide_eq_false hm] at i1
        rw [if_neg hm]
        cases bk
        · rw [if_pos (show bI false = 0 from rfl), f_Mo_mayGo_b39_eq, if_neg (by decide), f_Mo_mayGo_b46_eq, f_Mo_mayGo_b47_eq, nI_1]; exact i1
        · rw [if_neg (show ¬ bI true = 0 by decide), f_Mo_mayGo_b39_eq, if_pos rfl, f_Mo_mayGo_b47_eq, nI_1]; exact i1
theorem mo_mayGo {g : Nat} (bk : Bool) (hG : 100 ≤ G) (ha : moA h m A) (hR : moG R gs) (hC : moC S R go co) (hg : g < 6) (hS : Sm (gs g)) (hgo : Sm go) (hco : Sm co) :
    f_Mo_mayGo G m (nI g) (bI bk) (moH h m A S R) = some (some (.int (bI (apOk (gs g) (if bk = true then co else go) (if bk = true then go else co)))), moH h m A S R) := by
  have hl := hC.2.2.1
  have i1 := mo_may5 (G := G) bk hG ha hR hC hg hS hgo hco go.length G 0 (by omega) (by omega)
  rw [f_Mo_mayGo_eq]
  refine i1.trans ?_
  congr 5
  unfold apOk myA myB
  congr 1
  have t1 : ∀ l : List Nat, l.all (fun n => decide (n ∈ gs g) == true) = l.all (fun n => decide (n ∈ gs g)) := fun l => by simp
  have t2 : ∀ l : List Nat, l.all (fun n => decide (n ∈ gs g) == false) = l.all (fun n => decide (n ∉ gs g)) := fun l => by simp
  cases bk
  · rw [if_neg (by decide), if_neg (by decide)]
    show (go.all (fun n => decide (n ∈ gs g) == true) && co.all (fun n => decide (n ∈ gs g) == false)) = _
    rw [t1, t2]
  · rw [if_pos rfl, if_pos rfl]
    show (go.all (fun n => decide (n ∈ gs g) == false) && co.all (fun n => decide (n ∈ gs g) == true)) = _
    rw [t1, t2, Bool.and_comm]
/-- apply: is n one that goes -/
theorem mo_gone {g : Nat} {n k : Nat} (bk : Bool) (k79 : Nat → Int32 → Int32 → Int32 → pH → Option pR) (ha : moA h m A) (hC : moC S R go co) (hn : n < 2 ^ 20) (hgo : Sm go) (hco : Sm co) :
    ∀ (d F j : Nat), d < F → j + d = (if bk = true then co else go).length → f_Mo_apply_b103 G k79 F m (nI g) (bI bk) (nI k) (nI n) (bI (((if bk = true then co else go).take j).any (fun x => decide (x = n)))) (nI j) (moH h m A S R) = if n ∈ (if bk = true then co else go) then f_Mo_apply_b178 G k79 m (nI g) (bI bk) (nI k) (moH h m A S R) else cV (oC (moH h m A S R) m 4) (f_Mo_add G m (nI n) (moH h m A S R)) (fun h34 => f_Mo_apply_b178 G k79 m (nI g) (bI bk) (nI k) h34) := by
  obtain ⟨c1, c2, c3, c4, c5, c6⟩ := id hC
  have hlen : (if bk = true then co else go).length ≤ 30 := by split <;> assumption
  have hlS : Sm (if bk = true then co else go) := by split <;> assumption
  have st : ∀ (F j : Nat) (b : Bool), f_Mo_apply_b103 G k79 (F + 1) m (nI g) (bI bk) (nI k) (nI n) (bI b) (nI j) (moH h m A S R) = f_Mo_apply_b120 G k79 (f_Mo_apply_b103 G k79 F) m (nI g) (bI bk) (nI k) (nI n) (bI b) (nI j) (nI j) (nI (if bk = true then co else go).length) (moH h m A S R) := fun F j b => by
    rw [f_Mo_apply_b103_eq]
    cases bk
    · rw [if_pos (show bI false = 0 from rfl), mo_g15 ha, Option.bind_some, c1]; rfl
    · rw [if_neg (show ¬ bI true = 0 by decide), mo_g16 ha, Option.bind_some, c2]; rfl
  intro d
  induction d with
  | zero =>
    intro F j hF hj
    obtain ⟨F, rfl⟩ : ∃ F', F = F' + 1 := ⟨F - 1, by omega⟩
    rw [st, f_Mo_apply_b120_eq, if_pos (nI_le (by omega) (by omega)), List.take_of_length_le (by omega)]
    have hm : ((if bk = true then co else go).any (fun x => decide (x = n))) = true ↔ n ∈ (if bk = true then co else go) := by
      rw [List.any_eq_true]
      exact ⟨fun ⟨x, h1, h2⟩ => (of_decide_eq_true h2) ▸ h1, fun q => ⟨n, q, decide_eq_true rfl⟩⟩
    by_cases hq : n ∈ (if bk = true then co else go)
    · rw [hm.mpr hq, if_neg (show ¬ bI true = 0 by decide), if_pos hq]
    · rw [Bool.eq_false_iff.mpr (fun x => hq (hm.mp x)), if_pos (show bI false = 0 from rfl), if_neg hq]
  | succ d ih =>
    intro F j hF hj
    obtain ⟨F, rfl⟩ : ∃ F', F = F' + 1 := ⟨F - 1, by omega⟩
    have i1 := ih F (j + 1) (by omega) (by omega)
    have hsm := hlS j (by omega)
    rw [any1 _ (by omega)] at i1
    rw [st, f_Mo_apply_b120_eq, if_neg (nI_ge (by omega) (by omega))]
    cases e : (((if bk = true then co else go).take j).any (fun x => decide (x = n)))
    · rw [e, Bool.false_or] at i1
      rw [if_pos (show bI false = 0 from rfl)]
      have fin : f_Mo_apply_b151 G (f_Mo_apply_b154 G (f_Mo_apply_b159 G (f_Mo_apply_b103 G k79 F))) (f_Mo_apply_b159 G (f_Mo_apply_b103 G k79 F)) m (nI g) (bI bk) (nI k) (nI n) (nI j) (nI n) (nI ((if bk = true then co else go).getD j 0)) (moH h m A S R) = f_Mo_apply_b103 G k79 F m (nI g) (bI bk) (nI k) (nI n) (bI (decide ((if bk = true then co else go).getD j 0 = n))) (nI (j + 1)) (moH h m A S R) := by
        rw [f_Mo_apply_b151_eq]
        by_cases q : (if bk = true then co else go).getD j 0 = n
        · rw [q, if_pos rfl, f_Mo_apply_b154_eq, f_Mo_apply_b159_eq, nI_1, decide_eq_true rfl]; rfl
        · rw [if_neg (fun x => q ((nI_eq (by omega) (by omega)).mp x).symm), f_Mo_apply_b159_eq, nI_1, decide_eq_false q]; rfl
      rw [← i1, ← fin]
      cases bk
      · rw [if_pos (show bI false = 0 from rfl), mo_g17 ha, Option.bind_some]
        rw [if_neg (by decide)] at hj ⊢
        rw [mo_a17 ha (by omega), Option.bind_some, c5 j (by omega)]
      · rw [if_neg (show ¬ bI true = 0 by decide), mo_g18 ha, Option.bind_some]
        rw [if_pos rfl] at hj ⊢
        rw [mo_a18 ha (by omega), Option.bind_some, c6 j (by omega)]
    · rw [e, Bool.true_or] at i1
      rw [if_neg (show ¬ bI true = 0 by decide), f_Mo_apply_b154_eq, f_Mo_apply_b159_eq, nI_1]
      exact i1
end APR
