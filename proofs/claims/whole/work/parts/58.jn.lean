/-! PURE: join -/
/-- the nodes that a has not -/
def frL (a : List Nat) : List Nat := (List.range 46).filter (fun t => decide (40 ≤ t) && !stb 2 a t)
/-- how many nodes b has before node 40 + i -/
def cnB (b : List Nat) (i : Nat) : Nat := ((List.range (40 + i)).filter (fun t => decide (40 ≤ t) && stb 2 b t)).length
/-- what is put for node 40 + i of b -/
def jr (a b : List Nat) (i : Nat) : Nat := (frL a).getD (cnB b i) 0
def jn (a b : List Nat) : List Nat := addP (fun _ => true) (ren (jr a b)) a b
theorem frL_mem {a : List Nat} {t : Nat} : t ∈ frL a ↔ (40 ≤ t ∧ t < 46) ∧ stb 2 a t = false := by
  unfold frL
  rw [List.mem_filter, List.mem_range, Bool.and_eq_true, decide_eq_true_eq, Bool.not_eq_true']
  exact ⟨fun h => ⟨⟨h.2.1, h.1⟩, h.2.2⟩, fun h => ⟨h.1.2, h.1.1, h.2⟩⟩
theorem frL_asc {a : List Nat} : Asc (frL a) := fl_asc _ _
theorem frL_at {a : List Nat} {k : Nat} (hk : k < (frL a).length) : (40 ≤ (frL a).getD k 0 ∧ (frL a).getD k 0 < 46) ∧ stb 2 a ((frL a).getD k 0) = false := frL_mem.mp (mem_getD.mpr ⟨k, hk, rfl⟩)
theorem fl_split (p : Nat → Bool) : ∀ d : Nat, ((List.range (40 + d)).filter (fun t => decide (40 ≤ t) && p t)).length + ((List.range (40 + d)).filter (fun t => decide (40 ≤ t) && !p t)).length = d := by
  intro d
  induction d with
  | zero =>
    have h1 := fl_40 p (k := 40) (by omega) (by omega)
    have h2 := fl_40 (fun t => !p t) (k := 40) (by omega) (by omega)
    rw [Nat.add_zero]
    omega
  | succ d ih =>
    rw [← Nat.add_assoc, fl1, fl1, decide_eq_true (show 40 ≤ 40 + d by omega), Bool.true_and, Bool.true_and]
    cases p (40 + d)
    · rw [if_neg (show ¬ false = true by decide), if_pos (show (!false) = true from rfl), List.length_append, List.length_singleton]; omega
    · rw [if_pos (show true = true from rfl), if_neg (show ¬ (!true) = true by decide), List.length_append, List.length_singleton]; omega
theorem fr_nd {a : List Nat} : (ndL a).length + (frL a).length = 6 := fl_split (stb 2 a) 6
theorem frL_len {a : List Nat} : (frL a).length ≤ 6 := by have := fr_nd (a := a); omega
theorem jr_lt {a b : List Nat} {i : Nat} : jr a b i < 46 := by
  unfold jr
  rcases Nat.lt_or_ge (cnB b i) (frL a).length with h | h
  · exact (frL_at h).1.2
  · rw [List.getD_eq_getElem?_getD, List.getElem?_eq_none (by omega)]; decide
theorem jr_tot {a b : List Nat} : tot (jr a b) b := fun _ _ _ => jr_lt
theorem asc_at {L : List Nat} (hA : Asc L) {i j : Nat} (hi : i < L.length) (hj : j < L.length) (h : L.getD i 0 = L.getD j 0) : i = j := by
  rcases Nat.lt_trichotomy i j with q | q | q
  · have := hA i j q hj; omega
  · exact q
  · have := hA j i q hi; omega
/-- how many stand before the k-th -/
theorem cn_at (p : Nat → Bool) {n k : Nat} (hk : k < ((List.range n).filter p).length) : ((List.range (((List.range n).filter p).getD k 0)).filter p).length = k := by
  have hm := List.mem_filter.mp (mem_getD.mpr ⟨k, hk, rfl⟩ : ((List.range n).filter p).getD k 0 ∈ (List.range n).filter p)
  have hlt := List.mem_range.mp hm.1
  have hA := fl_asc p n
  have e : (List.range (((List.range n).filter p).getD k 0)).filter p = ((List.range n).filter p).take k := asc_ext (fl_asc _ _) (asc_take k hA) fun m => by
    rw [List.mem_filter, List.mem_range]
    constructor
    · rintro ⟨h1, h2⟩
      obtain ⟨j, j1, j2⟩ := mem_getD.mp (List.mem_filter.mpr ⟨List.mem_range.mpr (show m < n by omega), h2⟩ : m ∈ (List.range n).filter p)
      have hjk : j < k := by
        rcases Nat.lt_trichotomy j k with q | q | q
        · exact q
        · subst q; omega
        · have := hA k j q j1; omega
      exact mem_getD.mpr ⟨j, by rw [List.length_take]; omega, by rw [List.getD_eq_getElem?_getD, List.getElem?_take_of_lt hjk, ← List.getD_eq_getElem?_getD]; exact j2⟩
    · intro h
      obtain ⟨j, j1, j2⟩ := mem_getD.mp h
      rw [List.length_take] at j1
      rw [List.getD_eq_getElem?_getD, List.getElem?_take_of_lt (by omega), ← List.getD_eq_getElem?_getD] at j2
      have h3 := hA j k (by omega) hk
      have h4 := List.mem_filter.mp (mem_getD.mpr ⟨j, by omega, rfl⟩ : ((List.range n).filter p).getD j 0 ∈ (List.range n).filter p)
      rw [j2] at h3 h4
      exact ⟨h3, h4.2⟩
  rw [e, List.length_take]
  omega
theorem jr_at {a b : List Nat} {k : Nat} (hk : k < (ndL b).length) : jr a b ((ndL b).getD k 0 - 40) = (frL a).getD k 0 := by
  have h1 := (ndL_mem.mp (mem_getD.mpr ⟨k, hk, rfl⟩ : (ndL b).getD k 0 ∈ ndL b)).1
  have h2 : cnB b ((ndL b).getD k 0 - 40) = k := by
    unfold cnB
    rw [show 40 + ((ndL b).getD k 0 - 40) = (ndL b).getD k 0 by omega]
    exact cn_at _ hk
  unfold jr
  rw [h2]
theorem RC.nt {h : pH} {B : Nat → Nat} {gs : Nat → List Nat} {cc : Int32} {cl bst : Nat → Int32} (hr : RC h B gs cc cl bst) (c2 : Nat → Int32) : RC (hU h (B 24) (.inl (0, 6, .inl c2))) B gs cc cl bst := by
  obtain ⟨b, r1, r2⟩ := hr
  have k : ∀ j : Nat, j < 44 → j ≠ 24 → ∀ e : pE, (hU h (B 24) e).2 (B j) = h.2 (B j) := fun j hj hn e => hU_n h e (b.ne (by omega) (by omega) hn)
  obtain ⟨a1, a2, a3, ⟨f4, a4⟩, ⟨k5, l5, a5⟩, ⟨f6, a6⟩, a7, a8, a9, a10, ⟨f11, a11⟩, ⟨b12, a12⟩, ⟨f13, a13⟩, ⟨f14, a14⟩, a15, ⟨f16, a16⟩⟩ := r2
  refine ⟨b, fun i hi => (r1 i hi).keep (Ch.u (S := fun x => x = B 24) rfl) (b.ne (by omega) (by omega) (by omega)) (b.ne (by omega) (by omega) (by omega)), (k 43 (by omega) (by omega) _).trans a1, (k 22 (by omega) (by omega) _).trans a2, (k 23 (by omega) (by omega) _).trans a3, ⟨c2, hU_s _ _ _⟩, ⟨k5, l5, (k 25 (by omega) (by omega) _).trans a5⟩, ⟨f6, (k 26 (by omega) (by omega) _).trans a6⟩, (k 27 (by omega) (by omega) _).trans a7, fun i hi => ?_, (k 35 (by omega) (by omega) _).trans a9, (k 36 (by omega) (by omega) _).trans a10, ⟨f11, (k 37 (by omega) (by omega) _).trans a11⟩, ⟨b12, (k 38 (by omega) (by omega) _).trans a12⟩, ⟨f13, (k 39 (by omega) (by omega) _).trans a13⟩, ⟨f14, (k 40 (by omega) (by omega) _).trans a14⟩, (k 41 (by omega) (by omega) _).trans a15, ⟨f16, (k 42 (by omega) (by omega) _).trans a16⟩⟩
  obtain ⟨f, h9⟩ := a8 i hi
  exact ⟨f, (k (28 + i) (by omega) (by omega) _).trans h9⟩
section JNC
variable {G : Nat} {h : pH} {B : Nat → Nat} {gs : Nat → List Nat} {cc : Int32} {cl bst : Nat → Int32}
theorem mg_choose {a b : List Nat} {x y : Int64} (hG : 100 ≤ G) (hr : RC h B gs cc cl bst) (ha : okL a) (hb : okL b) (hx : x = nds a) (hy : y = nds b) :
    ∃ f2 : Nat → Int32, f_Mg_chooseOtherNodes G (B 43) x y h = some (some (.int (bI (decide ((ndL b).length ≤ (frL a).length)))), hU h (B 24) (.inl (0, 6, .inl f2))) ∧ ((ndL b).length ≤ (frL a).length → rowOn f2 (jr a b) b) := by
  subst hx hy
  have lF := frL_len (a := a)
  have lp : ∀ (d F i : Nat) (z : Int64) (f : Nat → Int32), d < F → i + d = 6 → cnB b i ≤ (frL a).length → (∀ t, tb z t = true ↔ ∃ j, cnB b i ≤ j ∧ j < (frL a).length ∧ (frL a).getD j 0 = t) → (∀ j, j < i → stb 2 b (40 + j) = true → f j = nI (jr a b j)) →
      ∃ f2 : Nat → Int32, f_Mg_chooseOtherNodes_b14 G F (B 43) (nds b) z (nI i) (hU h (B 24) (.inl (0, 6, .inl f))) = some (some (.int (bI (decide ((ndL b).length ≤ (frL a).length)))), hU h (B 24) (.inl (0, 6, .inl f2))) ∧ ((ndL b).length ≤ (frL a).length → rowOn f2 (jr a b) b) := by
    intro d
    induction d with
    | zero =>
      intro F i z f hF hi hc hz hf
      obtain ⟨F, rfl⟩ : ∃ F', F = F' + 1 := ⟨F - 1, by omega⟩
      have : i = 6 := by omega
      subst this
      have e : cnB b 6 = (ndL b).length := rfl
      rw [e] at hc
      refine ⟨f, by rw [f_Mg_chooseOtherNodes_b14_eq, if_pos (by decide), decide_eq_true hc]; rfl, fun _ t h1 h2 => ?_⟩
      have h3 := stb_lt hb h2
      have := hf (t - 40) (by omega) (by rw [show 40 + (t - 40) = t by omega]; exact h2)
      exact this
    | succ d ih =>
      intro F i z f hF hi hc hz hf
      obtain ⟨F, rfl⟩ : ∃ F', F = F' + 1 := ⟨F - 1, by omega⟩
      have r1 := hr.nt f
      have r2 := hr.nt (upd f i (-1))
      have e24 : ∀ g : Nat → Int32, (hU h (B 24) (.inl (0, 6, .inl g))).2 (B 24) = .inl (0, 6, .inl g) := fun g => hU_s _ _ _
      have m24 : ∀ g : Nat → Int32, B 24 ∈ (hU h (B 24) (.inl (0, 6, .inl g))).1 := fun g => hr.1.1 24 (by omega)
      have is := mg_isIn (G := G) (k := 40 + i) (x := nds b) (h := hU h (B 24) (.inl (0, 6, .inl (upd f i (-1))))) (by omega)
      rw [tb_nds hb, decide_eq_true (show 40 ≤ 40 + i by omega), Bool.true_and] at is
      have cs : cnB b (i + 1) = cnB b i + (if stb 2 b (40 + i) = true then 1 else 0) := by
        unfold cnB
        rw [← Nat.add_assoc, fl1, decide_eq_true (show 40 ≤ 40 + i by omega), Bool.true_and]
        split
        · rw [List.length_append]; rfl
        · rfl
      rw [f_Mg_chooseOtherNodes_b14_eq, if_neg (show ¬ (6 : Int32) ≤ nI i from nI_ge (b := 6) (by omega) (by omega)), r1.f (v := B 24) rfl, Option.bind_some, sI_of (e24 f) (m24 f) (by omega) (by omega), Option.bind_some, hU_u, show (40 : Int32) = nI 40 from rfl, nI_add, cI_of rfl is]
      cases eb : stb 2 b (40 + i)
      · rw [eb, if_neg (by decide), Nat.add_zero] at cs
        rw [if_pos (show (if false = true then (1 : Int32) else 0) = 0 from rfl), f_Mg_chooseOtherNodes_b71_eq, nI_1]
        refine ih F (i + 1) z (upd f i (-1)) (by omega) (by omega) (by rw [cs]; exact hc) (by rw [cs]; exact hz) (fun j hj hs => ?_)
        simp only [upd]
        rw [if_neg (fun q => by subst q; rw [eb] at hs; cases hs)]
        exact hf j (by
          rcases Nat.lt_or_ge j i with q | q
          · exact q
          · have : j = i := by omega
            subst this; rw [eb] at hs; cases hs) hs
      · rw [eb, if_pos rfl] at cs
        rw [if_neg (show ¬ (if true = true then (1 : Int32) else 0) = 0 by decide)]
        by_cases hk : cnB b i < (frL a).length
        · have hlo : Lo z ((frL a).getD (cnB b i) 0) := by
            refine ⟨by have := (frL_at hk).1; omega, (hz _).mpr ⟨cnB b i, Nat.le_refl _, hk, rfl⟩, fun t ht => ?_⟩
            cases e : tb z t
            · rfl
            · obtain ⟨j, j1, j2, j3⟩ := (hz t).mp e
              rcases Nat.lt_or_ge (cnB b i) j with q | q
              · have := frL_asc (cnB b i) j q j2; omega
              · have : j = cnB b i := by omega
                subst this; omega
          have hz0 : ¬ z = 0 := tb_nz.mpr ⟨_, hlo.1, hlo.2.1⟩
          rw [if_neg (fun q => hz0 (lg_0.mp q)), r2.f (v := B 24) rfl, Option.bind_some, cI_of rfl (mg_lowest hlo), sI_of (e24 _) (m24 _) (by omega) (by omega), Option.bind_some, hU_u, f_Mg_chooseOtherNodes_b71_eq, nI_1]
          refine ih F (i + 1) _ _ (by omega) (by omega) (by rw [cs]; omega) (fun t => ?_) (fun j hj hs => ?_)
          · rw [tb_drop hlo, Bool.and_eq_true, decide_eq_true_eq, hz, cs]
            constructor
            · rintro ⟨⟨j, j1, j2, j3⟩, h4⟩
              refine ⟨j, ?_, j2, j3⟩
              rcases Nat.lt_or_ge (cnB b i) j with q | q
              · omega
              · have : j = cnB b i := by omega
                subst this; exact absurd j3.symm h4
            · rintro ⟨j, j1, j2, j3⟩
              refine ⟨⟨j, by omega, j2, j3⟩, fun q => ?_⟩
              have := asc_at frL_asc hk j2 (by rw [j3, q])
              omega
          · simp only [upd]
            by_cases q : j = i
            · rw [if_pos q, q]; rfl
            · rw [if_neg q, if_neg q]; exact hf j (by omega) hs
        · have hz0 : z = 0 := Classical.byContradiction fun q => by
            obtain ⟨t, _, t2⟩ := tb_nz.mp q
            obtain ⟨j, j1, j2, j3⟩ := (hz t).mp t2
            omega
          have hmono : cnB b (i + 1) ≤ (ndL b).length := by
            have e : ((List.range (40 + (i + 1))).filter (fun t => decide (40 ≤ t) && stb 2 b t)).length ≤ (ndL b).length := asc_sub (fl_asc _ _) ndL_asc fun m hm => by
              rw [List.mem_filter, List.mem_range, Bool.and_eq_true, decide_eq_true_eq] at hm
              exact ndL_mem.mpr ⟨⟨hm.2.1, by omega⟩, hm.2.2⟩
            exact e
          have hn : ¬ (ndL b).length ≤ (frL a).length := by omega
          refine ⟨upd f i (-1), ?_, fun q => absurd q hn⟩
          rw [if_pos (lg_0.mpr hz0), decide_eq_false hn]; rfl
  obtain ⟨f0, a4⟩ := hr.2.2.2.2.2.1
  have c0 : cnB b 0 = 0 := by
    have := fl_40 (stb 2 b) (k := 40) (by omega) (by omega)
    unfold cnB
    rw [Nat.add_zero]
    omega
  have hz : ∀ t, tb ((69269232549888 : Int64) &&& (nds a ^^^ (-1 : Int64))) t = true ↔ ∃ j, cnB b 0 ≤ j ∧ j < (frL a).length ∧ (frL a).getD j 0 = t := fun t => by
    rw [c0]
    have e : (∃ j, 0 ≤ j ∧ j < (frL a).length ∧ (frL a).getD j 0 = t) ↔ t ∈ frL a := by
      rw [mem_getD]; exact ⟨fun ⟨j, _, h2, h3⟩ => ⟨j, h2, h3⟩, fun ⟨j, h2, h3⟩ => ⟨j, by omega, h2, h3⟩⟩
    rw [e, frL_mem]
    rcases Nat.lt_or_ge t 64 with q | q
    · rw [tb_and, tb_m1 _ q, tb_all t q, tb_nds ha, Bool.and_eq_true, decide_eq_true_eq, Bool.not_eq_true']
      constructor
      · rintro ⟨h1, h2⟩
        rw [decide_eq_true h1.1, Bool.true_and] at h2
        exact ⟨h1, h2⟩
      · rintro ⟨h1, h2⟩
        exact ⟨h1, by rw [h2, Bool.and_false]⟩
    · rw [tb_ge _ q]
      exact ⟨fun h => (by cases h), fun h => absurd h.1.2 (by omega)⟩
  obtain ⟨f2, b1, b2⟩ := lp 6 G 0 _ f0 (by omega) (by omega) (by omega) hz (fun j hj => absurd hj (by omega))
  rw [hU_id a4] at b1
  exact ⟨f2, by rw [f_Mg_chooseOtherNodes_eq]; exact b1, b2⟩
def jnOk (a b : List Nat) : Bool := decide ((ndL b).length ≤ (frL a).length) && decide ((jn a b).length ≤ 30)
theorem mg_join_no {x1 x2 x3 : Int32} (hr : RC h B gs cc cl bst) (hn : ¬ (okG x1 ∧ okG x2 ∧ okG x3)) : f_Mg_join G (B 43) x1 x2 x3 h = some (.inl 1, h) := by
  rw [f_Mg_join_eq]
  by_cases h1 : okG x1
  · obtain ⟨i, hi, rfl⟩ := okG_nI h1
    rw [tR_of hr.is (mg_graphAt hr hi)]
    by_cases h2 : okG x2
    · obtain ⟨a, ha, rfl⟩ := okG_nI h2
      rw [tR_of hr.is (mg_graphAt hr ha), tR_th hr.is (mg_graphAt_no (fun q => hn ⟨h1, h2, q⟩))]
    · rw [tR_th hr.is (mg_graphAt_no h2)]
  · rw [tR_th hr.is (mg_graphAt_no h1)]
theorem mg_join {a b t : Nat} (hG : 100 ≤ G) (hr : RC h B gs cc cl bst) (ha : a < 6) (hb : b < 6) (ht : t < 6) (hA : Asc (gs a)) (oA : okL (gs a)) (oB : okL (gs b)) :
    ∃ (h2 : pH) (g2 : List Nat), f_Mg_join G (B 43) (nI a) (nI b) (nI t) h = some (.inr (some (.int (if jnOk (gs a) (gs b) = true then nI (jn (gs a) (gs b)).length else -1))), h2) ∧ Ch h h2 (inB B) ∧ RC h2 B (if jnOk (gs a) (gs b) = true then upG (upG gs 6 g2) t (jn (gs a) (gs b)) else upG gs 6 g2) cc cl bst := by
  have ga := hr.2.1 a (by omega)
  have gb := hr.2.1 b (by omega)
  obtain ⟨f2, c1, c2⟩ := mg_choose (G := G) hG hr oA oB rfl rfl
  have st : f_Mg_join G (B 43) (nI a) (nI b) (nI t) h = cI (oC h (B 43) 3) (f_Mg_chooseOtherNodes G (B 43) (nds (gs a)) (nds (gs b)) h) fun v84 h81 => if v84 = 0 then (some (.inr (some (.int (-1 : Int32))), h81)) else ((gR h81 (B 43) 3 1).bind fun v85 => cV (oC h81 v85 0) (f_Gr_become G v85 (B a) h81) fun h86 => (gR h86 (B 43) 3 1).bind fun v89 => (gR h86 (B 43) 3 6).bind fun v90 => cI (oC h86 v89 0) (f_Gr_insertRenamed G v89 (B b) v90 h86) fun v94 h91 => if v94 = 0 then (some (.inr (some (.int (-1 : Int32))), h91)) else ((gR h91 (B 43) 3 1).bind fun v95 => cV (oC h91 (B t) 0) (f_Gr_become G (B t) v95 h91) fun h96 => cI (oC h96 (B t) 0) (f_Gr_count G (B t) h96) fun v102 h99 => some (.inr (some (.int v102)), h99))) := by
    rw [f_Mg_join_eq, tR_of hr.is (mg_graphAt hr ha), tR_of hr.is (mg_graphAt hr hb), tR_of hr.is (mg_graphAt hr ht), cJ_of ga.is (gr_nodes hG ga oA.sm), cJ_of gb.is (gr_nodes hG gb oB.sm)]
  have ch1 : Ch h (hU h (B 24) (.inl (0, 6, .inl f2))) (inB B) := Ch.u ⟨24, by omega, rfl⟩
  have r1 := hr.nt f2
  rw [cI_of hr.is c1] at st
  unfold jnOk
  by_cases hk : (ndL (gs b)).length ≤ (frL (gs a)).length
  · rw [decide_eq_true hk, if_neg (show ¬ bI true = 0 by decide)] at st
    rw [decide_eq_true hk, Bool.true_and]
    have hrow := c2 hk
    obtain ⟨h3, d1, d2, d3⟩ := gr_become (G := G) (by omega) (r1.2.1 6 (by omega)) (r1.2.1 a (by omega)) (r1.1.ne (by omega) (by omega) (by omega)) (r1.1.ne (by omega) (by omega) (by omega)) (r1.1.ne (by omega) (by omega) (by omega)) (r1.1.ne (by omega) (by omega) (by omega))
    have r3 := r1.set (by omega) d2 d3
    have gb3 := r3.2.1 b (by omega)
    rw [upG_n (by omega)] at gb3
    have x24 : h3.2 (B 24) = .inl (0, 6, .inl f2) := by
      rw [d2.2 (B 24) (r1.1.nc (by omega) (by omega) (by omega) (by omega))]; exact hU_s _ _ _
    obtain ⟨h4, g4, e1, e2, e3, e4⟩ := gr_insRen (G := G) (ρ := jr (gs a) (gs b)) hG d3 hA oA.sm gb3 oB x24 (r3.1.1 24 (by omega)) jr_tot hrow (r3.1.nc (by omega) (by omega) (by omega) (by omega)) (r3.1.nc (by omega) (by omega) (by omega) (by omega)) (r3.1.nc (by omega) (by omega) (by omega) (by omega))
    have r4 := r3.set (by omega) e2 e3
    rw [upG_u] at r4
    rw [r1.f (v := B 6) rfl, Option.bind_some, cV_of (r1.2.1 6 (by omega)).is d1, r3.f (v := B 6) rfl, Option.bind_some, r3.f (v := B 24) rfl, Option.bind_some, cI_of d3.is e1] at st
    have ch4 := (ch1.tr (d2.mono (inB_g (by omega)))).tr (e2.mono (inB_c (by omega)))
    have ej : addP (fun _ => true) (ren (jr (gs a) (gs b))) (gs a) (gs b) = jn (gs a) (gs b) := rfl
    rw [ej] at st e4
    by_cases hf : (jn (gs a) (gs b)).length ≤ 30
    · rw [decide_eq_true hf, if_neg (show ¬ bI true = 0 by decide)] at st
      have e5 := e4 hf
      subst e5
      have g6 := r4.2.1 6 (by omega)
      rw [upG_s] at g6
      obtain ⟨h5, k1, k2, k3⟩ := gr_become (G := G) (by omega) (r4.2.1 t (by omega)) g6 (r4.1.ne (by omega) (by omega) (by omega)) (r4.1.ne (by omega) (by omega) (by omega)) (r4.1.ne (by omega) (by omega) (by omega)) (r4.1.ne (by omega) (by omega) (by omega))
      have r5 := r4.set (by omega) k2 k3
      refine ⟨h5, jn (gs a) (gs b), ?_, ch4.tr (k2.mono (inB_g (by omega))), by rw [decide_eq_true hf, if_pos rfl]; exact r5⟩
      rw [st, r4.f (v := B 6) rfl, Option.bind_some, cV_of (r4.2.1 t (by omega)).is k1, cI_of k3.is (gr_count k3), decide_eq_true hf, if_pos rfl]
    · rw [decide_eq_false hf, if_pos (show bI false = 0 from rfl)] at st
      exact ⟨h4, g4, by rw [st, decide_eq_false hf, if_neg (by decide)], ch4, by rw [decide_eq_false hf, if_neg (by decide)]; exact r4⟩
  · rw [decide_eq_false hk, if_pos (show bI false = 0 from rfl)] at st
    exact ⟨_, gs 6, by rw [st, decide_eq_false hk, Bool.false_and, if_neg (by decide)], ch1, by rw [decide_eq_false hk, Bool.false_and, if_neg (by decide), upG_id]; exact r1⟩
end JNC
